/-! what the generated walks use -/
abbrev pm_ri (S : pm_S) (q : Int32 × pm_H) : Option Value × pm_S × pm_H := (some (.int q.1), S, q.2)
abbrev pm_ru (S : pm_S) (q : pm_H) : Option Value × pm_S × pm_H := (none, S, q)
theorem pm_ri_e {S : pm_S} {p : Int32 × pm_H} {v : Int32} {σ : pm_H} (h : some (v, σ) = some p) : pm_ri S p = (some (.int v), S, σ) := by cases h; rfl
theorem pm_ru_e {S : pm_S} {p σ : pm_H} (h : some σ = some p) : pm_ru S p = (none, S, σ) := by cases h; rfl
def pm_let {α β : Type} (a : α) (f : α → β) : β := f a
theorem pm_let_e {α β : Type} {a : α} {f : α → Option β} {p : β} (h : pm_let a f = some p) : ∃ x, a = x ∧ f x = some p := ⟨a, rfl, h⟩
theorem pm_bind_e {α β : Type} {o : Option α} {f : α → Option β} {p : β} (h : o.bind f = some p) : ∃ x, o = some x ∧ f x = some p := Option.bind_eq_some_iff.mp h
/-- an index within -/
def pm_ib (i : Int32) (n : Nat) : Bool := !(decide (i < 0)) && decide (i.toNatClampNeg < n)
theorem pm_ib_in {i : Int32} {n : Nat} (h : pm_ib i n = true) : vp_in i n := by
  simp only [pm_ib, Bool.and_eq_true, Bool.not_eq_true', decide_eq_false_iff_not, decide_eq_true_eq] at h
  rintro (h1 | h1)
  · exact h.1 h1
  · omega
/-- a boolean -/
def pm_zb (x : Int32) : Bool := decide (x = 0) || decide (x = 1)
theorem pm_zb_or {x : Int32} (h : pm_zb x = true) : x = 0 ∨ x = 1 := by simpa [pm_zb] using h
theorem pm_gd {β : Type} {b : Bool} {A : Option β} {p : β} (h : (if b = true then A else none) = some p) : b = true ∧ A = some p := by
  cases b with
  | true => exact ⟨rfl, by simpa using h⟩
  | false => simp at h
theorem pm_gz {β : Type} {z : Int32} {A : Option β} {p : β} (h : (if z = 0 then none else A) = some p) : ¬ z = 0 ∧ A = some p := by
  by_cases hz : z = 0
  · rw [if_pos hz] at h; cases h
  · rw [if_neg hz] at h; exact ⟨hz, h⟩
theorem pm_gl {β : Type} {z : Int64} {A : Option β} {p : β} (h : (if z = 0 then none else A) = some p) : ¬ z = 0 ∧ A = some p := by
  by_cases hz : z = 0
  · rw [if_pos hz] at h; cases h
  · rw [if_neg hz] at h; exact ⟨hz, h⟩
/-- a copy within bounds -/
def pm_cb (sp dp n : Int32) (n0 n1 : Nat) : Bool := !(decide (sp < 0)) && (!(decide (dp < 0)) && (!(decide (n < 0)) && (decide (sp.toNatClampNeg + n.toNatClampNeg ≤ n0) && decide (dp.toNatClampNeg + n.toNatClampNeg ≤ n1))))
theorem pm_cb_e {sp dp n : Int32} {n0 n1 : Nat} (h : pm_cb sp dp n n0 n1 = true) : ¬ sp < 0 ∧ ¬ dp < 0 ∧ ¬ n < 0 ∧ sp.toNatClampNeg + n.toNatClampNeg ≤ n0 ∧ dp.toNatClampNeg + n.toNatClampNeg ≤ n1 := by
  simpa [pm_cb] using h
def pm_max (x z : Int32) : Int32 := if x < z then z else x
def pm_min (x z : Int32) : Int32 := if z < x then z else x
def pm_abs (x : Int32) : Int32 := if 0 ≤ x then x else 0 - x
def pm_fuel : Nat := 1000000
section PMW
variable {l : Launch} {y : MethodName} {cc : ByteArray} {nL : Nat} {ret : Option FieldType} {al : Bool} {d : Nat} {S0 : pm_S} {r : Option Value × pm_S × pm_H} {pc : Nat} {lv : List (Nat × Value)} {st : List Value} {S : pm_S} {σ : pm_H}
theorem pm_nmi {x z : Int32} (h : x = z) (k : pm_E l y cc nL ret al d S0 r pc lv (.int z :: st) S σ) : pm_E l y cc nL ret al d S0 r pc lv (.int x :: st) S σ := by subst h; exact k
theorem pm_nml {x z : Int64} (h : x = z) (k : pm_E l y cc nL ret al d S0 r pc lv (.long z :: st) S σ) : pm_E l y cc nL ret al d S0 r pc lv (.long x :: st) S σ := by subst h; exact k
theorem pm_nmh {σ' : pm_H} (h : σ = σ') (k : pm_E l y cc nL ret al d S0 r pc lv st S σ') : pm_E l y cc nL ret al d S0 r pc lv st S σ := by subst h; exact k
def pm_LV (own : String) (idx : Nat) (y' : MethodName) (cc' : ByteArray) (nL' : Nat) (ret' : Option FieldType) (n ci : Nat) : Prop :=
  pm_LC own idx y' cc' nL' ret' n ∧ (Cond.instanceMethod y' ∈ lw_good ∧ Cond.selects y'.cls y' y' ∈ lw_good) ∧ ∃ T N, vwCl[ci]? = some (y'.cls, T, N)
def pm_LS (own : String) (idx : Nat) (y' : MethodName) (cc' : ByteArray) (nL' : Nat) (ret' : Option FieldType) (n : Nat) : Prop :=
  pm_LC own idx y' cc' nL' ret' n ∧ Cond.static y' ∈ lw_good
def pm_LN (own : String) (idx : Nat) (y' : MethodName) (host : String) (cc' : ByteArray) (nL' : Nat) (ret' : Option FieldType) (n : Nat) : Prop :=
  Cond.methodLinkNest own idx y' host ∈ pm_nest ∧ (Cond.initialized y'.cls ∈ lw_good ∧ Cond.code y' cc' nL' ret' ∈ lw_good ∧ (y'.cls ≠ "java/lang/invoke/MethodHandle" ∧ y'.cls ≠ "java/lang/invoke/VarHandle" ∧ (parseMethodDescriptor y'.desc).map (fun d => d.parameters.length) = some n) ∧ nL' ≤ 19) ∧ Cond.static y' ∈ lw_good
theorem pm_le {S' : pm_S} (h : S' = S) : S.length ≤ S'.length ∧ pm_tot S ≤ pm_tot S' := by subst h; exact ⟨Nat.le_refl _, Nat.le_refl _⟩
theorem pm_cVi {idx q ci n d' nL' : Nat} {y' : MethodName} {cc' : ByteArray} {ret' : Option FieldType} {as st0 : List Value} {u : Int32 × pm_H} (hL : pm_LV y.cls idx y' cc' nL' ret' n ci) (hM : pm_M l y' cc' nL' ret' false d' (.ref q :: as) S σ (pm_ri S u)) (hd' : d' + 1 ≤ d) (hs : pm_is S q (ci + 3)) (hst : st0 = as.reverse ++ .ref q :: st) (hn : as.length = n) (h8 : (st.map fun v => v.category).sum ≤ 8) (hr : r.2.1 = S) (hd : decode cc pc = .ok (.invokevirtual idx, 3)) (K : pm_E l y cc nL ret false d S0 r (pc + 3) lv (.int u.1 :: st) S u.2) : pm_E l y cc nL ret false d S0 r pc lv st0 S σ := by
  obtain ⟨h1, h2, T, N, h3⟩ := hL
  exact pm_callV h1 h2 hM hd' hs h3 rfl hst hn h8 ⟨Nat.le_refl _, Nat.le_refl _⟩ (fun _ => rfl) (pm_le hr) hd K
theorem pm_cVu {idx q ci n d' nL' : Nat} {y' : MethodName} {cc' : ByteArray} {ret' : Option FieldType} {as st0 : List Value} {u : pm_H} (hL : pm_LV y.cls idx y' cc' nL' ret' n ci) (hM : pm_M l y' cc' nL' ret' false d' (.ref q :: as) S σ (pm_ru S u)) (hd' : d' + 1 ≤ d) (hs : pm_is S q (ci + 3)) (hst : st0 = as.reverse ++ .ref q :: st) (hn : as.length = n) (h8 : (st.map fun v => v.category).sum ≤ 8) (hr : r.2.1 = S) (hd : decode cc pc = .ok (.invokevirtual idx, 3)) (K : pm_E l y cc nL ret false d S0 r (pc + 3) lv st S u) : pm_E l y cc nL ret false d S0 r pc lv st0 S σ := by
  obtain ⟨h1, h2, T, N, h3⟩ := hL
  exact pm_callV h1 h2 hM hd' hs h3 rfl hst hn h8 ⟨Nat.le_refl _, Nat.le_refl _⟩ (fun _ => rfl) (pm_le hr) hd K
theorem pm_cSi {idx n d' nL' : Nat} {y' : MethodName} {cc' : ByteArray} {ret' : Option FieldType} {as st0 : List Value} {u : Int32 × pm_H} (hL : pm_LS y.cls idx y' cc' nL' ret' n) (hM : pm_M l y' cc' nL' ret' false d' as S σ (pm_ri S u)) (hd' : d' + 1 ≤ d) (hst : st0 = as.reverse ++ st) (hn : as.length = n) (h8 : (st.map fun v => v.category).sum ≤ 8) (hr : r.2.1 = S) (hd : decode cc pc = .ok (.invokestatic idx, 3)) (K : pm_E l y cc nL ret false d S0 r (pc + 3) lv (.int u.1 :: st) S u.2) : pm_E l y cc nL ret false d S0 r pc lv st0 S σ :=
  pm_callS hL.1 hL.2 hM hd' hst hn h8 ⟨Nat.le_refl _, Nat.le_refl _⟩ (fun _ => rfl) (pm_le hr) hd K
theorem pm_cSu {idx n d' nL' : Nat} {y' : MethodName} {cc' : ByteArray} {ret' : Option FieldType} {as st0 : List Value} {u : pm_H} (hL : pm_LS y.cls idx y' cc' nL' ret' n) (hM : pm_M l y' cc' nL' ret' false d' as S σ (pm_ru S u)) (hd' : d' + 1 ≤ d) (hst : st0 = as.reverse ++ st) (hn : as.length = n) (h8 : (st.map fun v => v.category).sum ≤ 8) (hr : r.2.1 = S) (hd : decode cc pc = .ok (.invokestatic idx, 3)) (K : pm_E l y cc nL ret false d S0 r (pc + 3) lv st S u) : pm_E l y cc nL ret false d S0 r pc lv st0 S σ :=
  pm_callS hL.1 hL.2 hM hd' hst hn h8 ⟨Nat.le_refl _, Nat.le_refl _⟩ (fun _ => rfl) (pm_le hr) hd K
theorem pm_cNi {idx n d' nL' : Nat} {host : String} {y' : MethodName} {cc' : ByteArray} {ret' : Option FieldType} {as st0 : List Value} {u : Int32 × pm_H} (hL : pm_LN y.cls idx y' host cc' nL' ret' n) (hM : pm_M l y' cc' nL' ret' false d' as S σ (pm_ri S u)) (hd' : d' + 1 ≤ d) (hst : st0 = as.reverse ++ st) (hn : as.length = n) (h8 : (st.map fun v => v.category).sum ≤ 8) (hr : r.2.1 = S) (hd : decode cc pc = .ok (.invokestatic idx, 3)) (K : pm_E l y cc nL ret false d S0 r (pc + 3) lv (.int u.1 :: st) S u.2) : pm_E l y cc nL ret false d S0 r pc lv st0 S σ :=
  pm_callSN hL.1 hL.2.1 hL.2.2 hM hd' hst hn h8 ⟨Nat.le_refl _, Nat.le_refl _⟩ (fun _ => rfl) (pm_le hr) hd K
theorem pm_tin {dflt lo hi : Int} {offs : Array Int} {len : Nat} {x k : Int32} {off : Int} (tgt : Nat) (hx : x = k) (hd : decode cc pc = .ok (.tableswitch dflt lo hi offs, len)) (hk : ¬ k.toInt < lo ∧ ¬ hi < k.toInt ∧ offs[(k.toInt - lo).toNat]? = some off) (ht : (pc : Int) + off = (tgt : Int)) (K : pm_E l y cc nL ret al d S0 r tgt lv st S σ) : pm_E l y cc nL ret al d S0 r pc lv (.int x :: st) S σ := by
  subst hx
  exact pm_tableIn tgt hd hk.1 hk.2.1 hk.2.2 ht K
theorem pm_wk {B : Nat} (h8 : (st.map fun v => v.category).sum ≤ 8) (hdp : 1 ≤ d) : ((st.map (pm_v B)).map fun v => v.category).sum + 13 ≤ 38 * d := by
  rw [List.map_map, show ((fun v : Value => v.category) ∘ pm_v B) = fun v => v.category from funext (fun v => pm_cat B v)]
  omega
theorem pm_mmax {idx : Nat} {x z : Int32} (hL : Cond.methodLink y.cls idx Lib.Math.max.name ∈ lw_good ∧ Cond.static Lib.Math.max.name ∈ lw_good ∧ Cond.initialized "java/lang/Math" ∈ lw_good ∧ Cond.code Lib.Math.max.name Lib.Math.max.code 2 (some .int) ∈ lw_good) (h8 : (st.map fun v => v.category).sum ≤ 8) (hdp : 1 ≤ d) (hr : r.2.1 = S) (hd : decode cc pc = .ok (.invokestatic idx, 3)) (K : pm_E l y cc nL ret al d S0 r (pc + 3) lv (.int (pm_max x z) :: st) S σ) : pm_E l y cc nL ret al d S0 r pc lv (.int z :: .int x :: st) S σ := by
  intro p e s m args below meth c D aC B H ls locs cells slots hX hK hP hS h1 h2 h3 h4 hl
  exact va_mmax hX.1 hX.2.1 (by rw [hX.2.2.1]; exact hl.1.symm) hX.2.2.2.1 (hX.2.2.2.2.1 _ hL.1) (hX.2.2.2.2.1 _ hL.2.1) (hX.2.2.2.2.1 _ hL.2.2.1) (hX.2.2.2.2.1 _ hL.2.2.2) hdp (pm_wk h8 hdp) (by show cells ≤ r.2.1.length - S0.length; rw [hr]; omega) (by show slots ≤ pm_tot r.2.1 - pm_tot S0; rw [hr]; omega) hd (K p e s m args below meth c D aC B H ls locs cells slots hX hK hP hS h1 h2 h3 h4 hl)
theorem pm_mmin {idx : Nat} {x z : Int32} (hL : Cond.methodLink y.cls idx Lib.Math.min.name ∈ lw_good ∧ Cond.static Lib.Math.min.name ∈ lw_good ∧ Cond.initialized "java/lang/Math" ∈ lw_good ∧ Cond.code Lib.Math.min.name Lib.Math.min.code 2 (some .int) ∈ lw_good) (h8 : (st.map fun v => v.category).sum ≤ 8) (hdp : 1 ≤ d) (hr : r.2.1 = S) (hd : decode cc pc = .ok (.invokestatic idx, 3)) (K : pm_E l y cc nL ret al d S0 r (pc + 3) lv (.int (pm_min x z) :: st) S σ) : pm_E l y cc nL ret al d S0 r pc lv (.int z :: .int x :: st) S σ := by
  intro p e s m args below meth c D aC B H ls locs cells slots hX hK hP hS h1 h2 h3 h4 hl
  exact va_mmin hX.1 hX.2.1 (by rw [hX.2.2.1]; exact hl.1.symm) hX.2.2.2.1 (hX.2.2.2.2.1 _ hL.1) (hX.2.2.2.2.1 _ hL.2.1) (hX.2.2.2.2.1 _ hL.2.2.1) (hX.2.2.2.2.1 _ hL.2.2.2) hdp (pm_wk h8 hdp) (by show cells ≤ r.2.1.length - S0.length; rw [hr]; omega) (by show slots ≤ pm_tot r.2.1 - pm_tot S0; rw [hr]; omega) hd (K p e s m args below meth c D aC B H ls locs cells slots hX hK hP hS h1 h2 h3 h4 hl)
theorem pm_mabs {idx : Nat} {x : Int32} (hL : Cond.methodLink y.cls idx Lib.Math.abs.name ∈ lw_good ∧ Cond.static Lib.Math.abs.name ∈ lw_good ∧ Cond.initialized "java/lang/Math" ∈ lw_good ∧ Cond.code Lib.Math.abs.name Lib.Math.abs.code 1 (some .int) ∈ lw_good) (h8 : (st.map fun v => v.category).sum ≤ 8) (hdp : 1 ≤ d) (hr : r.2.1 = S) (hd : decode cc pc = .ok (.invokestatic idx, 3)) (K : pm_E l y cc nL ret al d S0 r (pc + 3) lv (.int (pm_abs x) :: st) S σ) : pm_E l y cc nL ret al d S0 r pc lv (.int x :: st) S σ := by
  intro p e s m args below meth c D aC B H ls locs cells slots hX hK hP hS h1 h2 h3 h4 hl
  exact va_mabs hX.1 hX.2.1 (by rw [hX.2.2.1]; exact hl.1.symm) hX.2.2.2.1 (hX.2.2.2.2.1 _ hL.1) (hX.2.2.2.2.1 _ hL.2.1) (hX.2.2.2.2.1 _ hL.2.2.1) (hX.2.2.2.2.1 _ hL.2.2.2) hdp (pm_wk h8 hdp) (by show cells ≤ r.2.1.length - S0.length; rw [hr]; omega) (by show slots ≤ pm_tot r.2.1 - pm_tot S0; rw [hr]; omega) hd (K p e s m args below meth c D aC B H ls locs cells slots hX hK hP hS h1 h2 h3 h4 hl)
end PMW
