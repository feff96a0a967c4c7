def pm_rem (x z : Int32) : Int32 := x - x / z * z
def pm_lrem_ (x z : Int64) : Int64 := x - x / z * z
def pm_ftl : List (List (Option Nat)) := [[some 0, some 0, none], [some 0, none], [some 0, some 0, none, some 0, none], [some 2, none, none], [some 0, some 0, none], [none, none, some 0, none, none, none], [none, none, none, none], [some 0, some 0, none, some 0, some 0, some 0], [some 9, some 13, some 4, some 0], [none, none, some 0, none, some 0, some 0, none, some 0, none, some 0, none], [some 0, some 0, some 0, some 0, none], [some 0, none, none, some 8, some 12, some 12, some 11, some 9, some 6, some 2, some 1, some 0, none, some 5, some 7, some 10, some 3], [none, none, none, some 0, none, some 0, some 0, none, some 0, none, some 0, some 0, none, some 0, none, none, none, none, none, none, none, none, some 0, none, some 0, some 0, none, some 0, none, some 0, none, some 0, some 0, some 0, none, some 0, some 0, some 0, none, some 0, some 0, some 0, some 1]]
def pm_nest : List Cond := [.methodLinkNest RX5 118 yX11_within RX11, .methodLinkNest RX2 50 yX11_within RX11, .arrayOver (.object "RulerFoot$Standing")]
def lw_good : List Cond := lw_tbl.filter goodWord
theorem lw_gm {w : Cond} (i : Nat) (h : lw_tbl[i]? = some w) (g : goodWord w = true) : w ∈ lw_good := List.mem_filter.mpr ⟨List.mem_of_getElem? h, g⟩
theorem pm_nest_warm {s U : State} (hW : s.WarmedH U.vm) (h : ∀ w ∈ pm_nest, va_Nw w s) : ∀ w ∈ pm_nest, va_Nw w U := by
  intro w hw
  have h' := h w hw
  simp only [pm_nest, List.mem_cons, List.not_mem_nil, or_false] at hw
  rcases hw with rfl | rfl | rfl
  · exact va_Nw.warmM hW h'
  · exact va_Nw.warmM hW h'
  · exact va_AO.moved hW.alike h'
theorem pm_nest_same {u U : State} (hv : u.vm = U.vm) (h : ∀ w ∈ pm_nest, va_Nw w u) : ∀ w ∈ pm_nest, va_Nw w U := by
  intro w hw
  have h' := h w hw
  simp only [pm_nest, List.mem_cons, List.not_mem_nil, or_false] at hw
  rcases hw with rfl | rfl | rfl
  · exact va_Nw.same rfl hv h'
  · exact va_Nw.same rfl hv h'
  · exact va_AO.moved (by rw [hv]; exact Vm.Alike.refl _) h'
/-! WORLDS BY PLACES: a world is a list of shapes (the k-th place's kind and size; place 0 is null), ints and references by place and slot. A shape (0, n): int[n]; (1, n): boolean[n]; (2, n): Standing[n]; (3 + ci, N): an object of class ci with N fields. -/
abbrev pm_S : Type := List (Nat × Nat)
abbrev pm_H : Type := (Nat → Nat → Int32) × (Nat → Nat → Nat)
def pm_sh (S : pm_S) : Nat → Option (Nat × Nat)
  | 0 => none
  | k + 1 => S[k]?
def pm_tot : pm_S → Nat
  | [] => 0
  | t :: r => t.2 + pm_tot r
theorem pm_tot_app (S S' : pm_S) : pm_tot (S ++ S') = pm_tot S + pm_tot S' := by
  induction S with
  | nil => simp [pm_tot]
  | cons a t ih => simp [pm_tot, ih, Nat.add_assoc]
def pm_rv (B : Nat) : Nat → Value
  | 0 => .null
  | k + 1 => .ref (B + (k + 1))
def pm_ro (B : Nat) : Nat → Option Nat
  | 0 => none
  | k + 1 => some (B + (k + 1))
theorem pm_rf (B r : Nat) : va_rf (pm_ro B r) = pm_rv B r := by cases r <;> rfl
def pm_v (B : Nat) : Value → Value
  | .ref r => pm_rv B r
  | v => v
theorem pm_cat (B : Nat) (v : Value) : (pm_v B v).category = v.category := by
  cases v with
  | ref r => cases r <;> rfl
  | _ => rfl
theorem pm_rv_pos {B r : Nat} (h : 0 < r) : pm_rv B r = .ref (B + r) := by
  cases r with
  | zero => exact absurd h (Nat.lt_irrefl _)
  | succ k => rfl
theorem pm_ro_pos {B r : Nat} (h : 0 < r) : pm_ro B r = some (B + r) := by
  cases r with
  | zero => exact absurd h (Nat.lt_irrefl _)
  | succ k => rfl
theorem pm_sh_pos {S : pm_S} {q : Nat} {t : Nat × Nat} (h : pm_sh S q = some t) : 0 < q := by
  cases q with
  | zero => cases h
  | succ k => exact Nat.succ_pos k
theorem pm_sh_le {S : pm_S} {q : Nat} {t : Nat × Nat} (h : pm_sh S q = some t) : q ≤ S.length := by
  cases q with
  | zero => cases h
  | succ k => exact (List.getElem?_eq_some_iff.mp h).1
theorem pm_sh_app {S S' : pm_S} {q : Nat} {t : Nat × Nat} (h : pm_sh S q = some t) : pm_sh (S ++ S') q = some t := by
  cases q with
  | zero => cases h
  | succ k =>
    show (S ++ S')[k]? = some t
    rw [List.getElem?_append_left (List.getElem?_eq_some_iff.mp h).1]
    exact h
/-- the tags of a class's reference fields (none: an int or a boolean) -/
def pm_ft (ci k : Nat) : Option Nat := (pm_ftl.getD ci []).getD k none
def pm_fn (ci : Nat) : Nat := (pm_ftl.getD ci []).length
def pm_fv (B : Nat) (σ : pm_H) (q ci k : Nat) : Value := if (pm_ft ci k).isSome then pm_rv B (σ.2 q k) else .int (σ.1 q k)
def pm_e (aC : Nat → ClassId) (B : Nat) (σ : pm_H) (q : Nat) : Nat × Nat → va_E
  | (0, n) => .inl (aC 0, n, .inl (σ.1 q))
  | (1, n) => .inl (aC 1, n, .inl (σ.1 q))
  | (2, n) => .inl (aC 2, n, .inr (.inr (.inr (.inr (fun j => pm_ro B (σ.2 q j))))))
  | (ci + 3, _) => .inr (ci, (List.range (pm_fn ci)).map (pm_fv B σ q ci))
def pm_ws (aC : Nat → ClassId) (B : Nat) (S : pm_S) (σ : pm_H) : va_W := S.mapIdx (fun k t => (B + (k + 1), pm_e aC B σ (k + 1) t))
theorem pm_e_congr {aC : Nat → ClassId} {B : Nat} {σ σ' : pm_H} {q : Nat} (t : Nat × Nat) (h1 : σ'.1 q = σ.1 q) (h2 : σ'.2 q = σ.2 q) : pm_e aC B σ' q t = pm_e aC B σ q t := by
  obtain ⟨a, n⟩ := t
  match a with
  | 0 => simp [pm_e, h1]
  | 1 => simp [pm_e, h1]
  | 2 => simp [pm_e, h2]
  | ci + 3 =>
    simp only [pm_e]
    congr 2
    apply List.map_congr_left
    intro k _
    simp [pm_fv, h1, h2]
theorem pm_ws_at {aC : Nat → ClassId} {B : Nat} {S : pm_S} {σ : pm_H} (k : Nat) : (pm_ws aC B S σ)[k]? = (S[k]?).map (fun t => (B + (k + 1), pm_e aC B σ (k + 1) t)) := by
  simp [pm_ws, List.getElem?_mapIdx]
theorem pm_ws_get {aC : Nat → ClassId} {B : Nat} {S : pm_S} {σ : pm_H} {q : Nat} {t : Nat × Nat} (h : pm_sh S q = some t) : (pm_ws aC B S σ)[q - 1]? = some (B + q, pm_e aC B σ q t) := by
  cases q with
  | zero => cases h
  | succ k =>
    have h' : S[k]? = some t := h
    rw [Nat.add_sub_cancel, pm_ws_at, h']
    rfl
theorem pm_ws_set {aC : Nat → ClassId} {B : Nat} {S : pm_S} {σ σ' : pm_H} {q : Nat} {t : Nat × Nat} {e : va_E} (h : pm_sh S q = some t) (he : pm_e aC B σ' q t = e) (h1 : ∀ a, a ≠ q → σ'.1 a = σ.1 a) (h2 : ∀ a, a ≠ q → σ'.2 a = σ.2 a) :
    (pm_ws aC B S σ).set (q - 1) (B + q, e) = pm_ws aC B S σ' := by
  have hg := pm_ws_get (aC := aC) (B := B) (σ := σ) h
  have hl := (List.getElem?_eq_some_iff.mp hg).1
  have hp := pm_sh_pos h
  apply List.ext_getElem?
  intro i
  by_cases hi : i = q - 1
  · subst hi
    rw [List.getElem?_set_self hl, pm_ws_get h, he]
  · rw [List.getElem?_set_ne (Ne.symm hi), pm_ws_at, pm_ws_at]
    cases hS : S[i]? with
    | none => rfl
    | some u =>
      show some (B + (i + 1), pm_e aC B σ (i + 1) u) = some (B + (i + 1), pm_e aC B σ' (i + 1) u)
      rw [pm_e_congr u (h1 (i + 1) (by omega)) (h2 (i + 1) (by omega))]
theorem pm_ws_push {aC : Nat → ClassId} {B : Nat} {S : pm_S} {σ : pm_H} (t : Nat × Nat) : pm_ws aC B (S ++ [t]) σ = pm_ws aC B S σ ++ [(B + (S.length + 1), pm_e aC B σ (S.length + 1) t)] := by
  simp [pm_ws, List.mapIdx_append]
def pm_A (al : Bool) (B n : Nat) : Nat → Prop := fun q => B < q ∧ (al = false → q ≤ B + n)
theorem pm_D {al : Bool} {aC : Nat → ClassId} {B n : Nat} {S : pm_S} {σ : pm_H} (h : al = false → S.length ≤ n) : va_D (pm_A al B n) (pm_ws aC B S σ) := by
  have key : ∀ (k : Nat) (q : Nat × va_E), (pm_ws aC B S σ)[k]? = some q → q.1 = B + (k + 1) ∧ k < S.length := by
    intro k q hk
    rw [pm_ws_at] at hk
    cases hS : S[k]? with
    | none => rw [hS] at hk; cases hk
    | some t =>
      rw [hS] at hk
      cases hk
      exact ⟨rfl, (List.getElem?_eq_some_iff.mp hS).1⟩
  refine ⟨fun i j p q hi hj hpq => ?_, fun k q hk => ?_⟩
  · have a := (key i p hi).1
    have b := (key j q hj).1
    omega
  · have a := key k q hk
    refine ⟨by omega, fun z => ?_⟩
    have := h z
    omega
def pm_si (σ : pm_H) (q k : Nat) (x : Int32) : pm_H := (fun a => if a = q then upd (σ.1 q) k x else σ.1 a, σ.2)
def pm_sr (σ : pm_H) (q k r : Nat) : pm_H := (σ.1, fun a => if a = q then va_up (σ.2 q) k r else σ.2 a)
/-- a whole row of ints put anew -/
def pm_sa (σ : pm_H) (q : Nat) (f : Nat → Int32) : pm_H := (fun a => if a = q then f else σ.1 a, σ.2)
theorem pm_si_1 (σ : pm_H) (q k : Nat) (x : Int32) (a j : Nat) : (pm_si σ q k x).1 a j = if a = q ∧ j = k then x else σ.1 a j := by
  by_cases ha : a = q
  · subst ha
    by_cases hj : j = k <;> simp [pm_si, upd, hj]
  · simp [pm_si, ha]
theorem pm_si_2 (σ : pm_H) (q k : Nat) (x : Int32) : (pm_si σ q k x).2 = σ.2 := rfl
theorem pm_sr_1 (σ : pm_H) (q k r : Nat) : (pm_sr σ q k r).1 = σ.1 := rfl
theorem pm_sr_2 (σ : pm_H) (q k r a j : Nat) : (pm_sr σ q k r).2 a j = if a = q ∧ j = k then r else σ.2 a j := by
  by_cases ha : a = q
  · subst ha
    by_cases hj : j = k <;> simp [pm_sr, va_up, hj]
  · simp [pm_sr, ha]
theorem pm_sa_1 (σ : pm_H) (q : Nat) (f : Nat → Int32) (a : Nat) : (pm_sa σ q f).1 a = if a = q then f else σ.1 a := rfl
theorem pm_sa_2 (σ : pm_H) (q : Nat) (f : Nat → Int32) : (pm_sa σ q f).2 = σ.2 := rfl
theorem pm_fs_set {N k : Nat} {f g : Nat → Value} {v : Value} (hg : g k = v) (ho : ∀ j, j ≠ k → g j = f j) : ((List.range N).map f).set k v = (List.range N).map g := by
  apply List.ext_getElem?
  intro i
  by_cases hi : k = i
  · subst hi
    by_cases hl : k < N
    · rw [List.getElem?_set_self (by simpa using hl)]
      simp [hl, hg]
    · simp [hl]
  · rw [List.getElem?_set_ne hi]
    by_cases hl : i < N
    · simp [hl, ho i (Ne.symm hi)]
    · simp [hl]
theorem pm_fs_get {N k : Nat} {f : Nat → Value} (h : k < N) : ((List.range N).map f)[k]? = some (f k) := by simp [h]
def pm_tys (aC : Nat → ClassId) : List (ClassId × FieldType) := [(aC 0, .int), (aC 1, .boolean), (aC 2, .object "RulerFoot$Standing")]
def pm_is (S : pm_S) (q t : Nat) : Prop := ∃ n, pm_sh S q = some (t, n)
def pm_len (S : pm_S) (q : Nat) : Nat := match pm_sh S q with
  | some t => t.2
  | none => 0
theorem pm_is.at {S : pm_S} {q t : Nat} (h : pm_is S q t) : pm_sh S q = some (t, pm_len S q) := by
  obtain ⟨n, h⟩ := h
  rw [pm_len, h]
theorem pm_is.pos {S : pm_S} {q t : Nat} (h : pm_is S q t) : 0 < q := pm_sh_pos h.at
/-- the references are what their fields' types say, and none is null -/
def pm_T (S : pm_S) (g : Nat → Nat → Nat) : Prop :=
  (∀ q ci k t, pm_is S q (ci + 3) → pm_ft ci k = some t → pm_is S (g q k) t) ∧ (∀ q j, pm_is S q 2 → j < pm_len S q → pm_is S (g q j) 11)
/-- what the world is at a call -/
def pm_P (D : va_G) (aC : Nat → ClassId) (B : Nat) (al : Bool) (S : pm_S) (σ : pm_H) (U : State) : Prop :=
  va_P D vwCl (pm_ws aC B S σ) U.heap ∧ va_K D vwCl (pm_tys aC) U ∧ (al = false → pm_T S σ.2) ∧ (al = true → U.heap.size = B + S.length + 1) ∧ ∀ w ∈ pm_nest, va_Nw w U
def pm_Q (D : va_G) (aC : Nat → ClassId) (B : Nat) (r : Option Value × pm_S × pm_H) (al : Bool) (n : Nat) : Array Value → State → Outcome → State → Prop := fun _ st oc t =>
  oc = .returned (r.1.map (pm_v B)) ∧ va_P D vwCl (pm_ws aC B r.2.1 r.2.2) t.heap ∧ (al = false → pm_T r.2.1 r.2.2.2) ∧ va_F (pm_A al B n) st t
abbrev pm_rm (d mc ms : Nat) : Room := { frames := d, cells := mc, slots := ms, locals := 38 * d }
abbrev pm_mc (S : pm_S) (r : Option Value × pm_S × pm_H) : Nat := r.2.1.length - S.length
abbrev pm_ms (S : pm_S) (r : Option Value × pm_S × pm_H) : Nat := pm_tot r.2.1 - pm_tot S
/-- a method's contract: from the world S, σ with these arguments it comes to r (its answer, the world behind it) -/
def pm_M (l : Launch) (y : MethodName) (cc : ByteArray) (nL : Nat) (ret : Option FieldType) (al : Bool) (d : Nat) (as : List Value) (S : pm_S) (σ : pm_H) (r : Option Value × pm_S × pm_H) : Prop :=
  ∀ (D : va_G) (aC : Nat → ClassId) (B : Nat), Met l y (.code y cc nL ret :: lw_good) (pm_rm d (pm_mc S r) (pm_ms S r)) (va_Pc (as.map (pm_v B)) (pm_P D aC B al S σ)) (pm_Q D aC B r al S.length) (pm_mc S r) (pm_ms S r) (pm_A al B S.length)
def pm_X (p : Program) (s : State) (m : MethodId) (args : Array Value) (meth : Method) (c : Code) (y : MethodName) (cc : ByteArray) (nL : Nat) (ret : Option FieldType) : Prop :=
  p.tables.exec = Jvm.exec ∧ c.code = cc ∧ c.maxLocals = nL ∧ s.vm.findClass y.cls = some m.cls ∧ (∀ w ∈ lw_good, w.before args s = true) ∧ meth.sig.returnType = ret ∧ meth.locks = false ∧ meth.name = y.name ∧ (Cond.code y cc nL ret).before args s = true ∧ ∀ w ∈ pm_nest, va_Nw w s
/-- the machine at a place of a method's code, with these locals and this stack, in the world S, σ: it comes to r -/
def pm_E (l : Launch) (y : MethodName) (cc : ByteArray) (nL : Nat) (ret : Option FieldType) (al : Bool) (d : Nat) (S0 : pm_S) (r : Option Value × pm_S × pm_H) (pc : Nat) (lv : List (Nat × Value)) (st : List Value) (S : pm_S) (σ : pm_H) : Prop :=
  ∀ (p : Program) (e : Env) (s : State) (m : MethodId) (args : Array Value) (below : List Frame) (meth : Method) (c : Code) (D : va_G) (aC : Nat → ClassId) (B : Nat) (H : Heap) (ls : Array Slot) (locs : List Loc) (cells slots : Nat),
    pm_X p s m args meth c y cc nL ret → va_K D vwCl (pm_tys aC) s → va_P D vwCl (pm_ws aC B S σ) H → va_S (pm_A al B S0.length) s.heap H locs →
    (al = false → S = S0 ∧ pm_T S σ.2) → (al = true → s.heap.size = B + S0.length + 1) → cells + S0.length = S.length → slots + pm_tot S0 = pm_tot S →
    lv_has ls nL (lv.map (fun q => (q.1, pm_v B q.2))) →
    W p l e (pm_rm d (pm_mc S0 r) (pm_ms S0 r)) s m args below meth c H locs cells slots (MQ below (pm_Q D aC B r al S0.length) args s (pm_mc S0 r) (pm_ms S0 r) (pm_A al B S0.length)) (F0 m pc ls (st.map (pm_v B)))
section PMR
variable {l : Launch} {y : MethodName} {cc : ByteArray} {nL : Nat} {ret : Option FieldType} {al : Bool} {d : Nat} {S0 : pm_S} {r : Option Value × pm_S × pm_H} {pc : Nat} {lv : List (Nat × Value)} {st : List Value} {S : pm_S} {σ : pm_H}
/-- one step of the machine that leaves locals and world alone -/
def pm_Go (l : Launch) (y : MethodName) (cc : ByteArray) (pc : Nat) (st : List Value) (pc' : Nat) (st' : List Value) : Prop :=
  ∀ (p : Program) (e : Env) (R : Room) (s : State) (m : MethodId) (args : Array Value) (below : List Frame) (meth : Method) (c : Code) (H : Heap) (locs : List Loc) (cells slots : Nat) (Q : State → Prop) (ls : Array Slot) (B : Nat),
    p.tables.exec = Jvm.exec → c.code = cc → s.vm.findClass y.cls = some m.cls → (∀ w ∈ lw_good, w.before args s = true) →
    W p l e R s m args below meth c H locs cells slots Q (F0 m pc' ls (st'.map (pm_v B))) → W p l e R s m args below meth c H locs cells slots Q (F0 m pc ls (st.map (pm_v B)))
theorem pm_go {pc' : Nat} {st' : List Value} (h : pm_Go l y cc pc st pc' st') (k : pm_E l y cc nL ret al d S0 r pc' lv st' S σ) : pm_E l y cc nL ret al d S0 r pc lv st S σ :=
  fun p e s m args below meth c D aC B H ls locs cells slots hX hK hP hS h1 h2 h3 h4 hl =>
    h p e _ s m args below meth c H locs cells slots _ ls B hX.1 hX.2.1 hX.2.2.2.1 hX.2.2.2.2.1 (k p e s m args below meth c D aC B H ls locs cells slots hX hK hP hS h1 h2 h3 h4 hl)
theorem pm_iconst {n : Int} (v : Int32) (hv : Int32.ofInt n = v) (hd : decode cc pc = .ok (.iconst n, 1)) (k : pm_E l y cc nL ret al d S0 r (pc + 1) lv (.int v :: st) S σ) : pm_E l y cc nL ret al d S0 r pc lv (st) S σ :=
  pm_go (fun _ _ _ _ _ _ _ _ _ _ _ _ _ _ _ _ hx hb ho ht w => lv_iconst hx hb hd hv w) k
theorem pm_bipush {n : Int} (v : Int32) (hv : (Int8.ofInt n).toInt32 = v) (hd : decode cc pc = .ok (.bipush n, 2)) (k : pm_E l y cc nL ret al d S0 r (pc + 2) lv (.int v :: st) S σ) : pm_E l y cc nL ret al d S0 r pc lv (st) S σ :=
  pm_go (fun _ _ _ _ _ _ _ _ _ _ _ _ _ _ _ _ hx hb ho ht w => lv_bipush hx hb hd hv w) k
theorem pm_sipush {n : Int} (v : Int32) (hv : (Int16.ofInt n).toInt32 = v) (hd : decode cc pc = .ok (.sipush n, 3)) (k : pm_E l y cc nL ret al d S0 r (pc + 3) lv (.int v :: st) S σ) : pm_E l y cc nL ret al d S0 r pc lv (st) S σ :=
  pm_go (fun _ _ _ _ _ _ _ _ _ _ _ _ _ _ _ _ hx hb ho ht w => lv_sipush hx hb hd hv w) k
theorem pm_lconst {n : Fin 2} (v : Int64) (hv : Int64.ofNat (n : Nat) = v) (hd : decode cc pc = .ok (.lconst n, 1)) (k : pm_E l y cc nL ret al d S0 r (pc + 1) lv (.long v :: st) S σ) : pm_E l y cc nL ret al d S0 r pc lv (st) S σ :=
  pm_go (fun _ _ _ _ _ _ _ _ _ _ _ _ _ _ _ _ hx hb ho ht w => lv_lconst hx hb hd hv w) k
theorem pm_ldc {i : Nat} {v : Int32} (hc : Cond.constant y.cls i v ∈ lw_good) (hd : decode cc pc = .ok (.ldc i, 2)) (k : pm_E l y cc nL ret al d S0 r (pc + 2) lv (.int v :: st) S σ) : pm_E l y cc nL ret al d S0 r pc lv (st) S σ :=
  pm_go (fun _ _ _ _ _ _ _ _ _ _ _ _ _ _ _ _ hx hb ho ht w => lv_ldc hx hb ho (ht _ hc) hd w) k
theorem pm_ldcw {i : Nat} {v : Int32} (hc : Cond.constant y.cls i v ∈ lw_good) (hd : decode cc pc = .ok (.ldc_w i, 3)) (k : pm_E l y cc nL ret al d S0 r (pc + 3) lv (.int v :: st) S σ) : pm_E l y cc nL ret al d S0 r pc lv (st) S σ :=
  pm_go (fun _ _ _ _ _ _ _ _ _ _ _ _ _ _ _ _ hx hb ho ht w => lv_ldcw hx hb ho (ht _ hc) hd w) k
theorem pm_ldc2 {i : Nat} {v : Int64} (hc : Cond.constantLong y.cls i v ∈ lw_good) (hd : decode cc pc = .ok (.ldc2_w i, 3)) (k : pm_E l y cc nL ret al d S0 r (pc + 3) lv (.long v :: st) S σ) : pm_E l y cc nL ret al d S0 r pc lv (st) S σ :=
  pm_go (fun _ _ _ _ _ _ _ _ _ _ _ _ _ _ _ _ hx hb ho ht w => lv_ldc2 hx hb ho (ht _ hc) hd w) k
theorem pm_iadd {x z : Int32} (hd : decode cc pc = .ok (.iadd, 1)) (k : pm_E l y cc nL ret al d S0 r (pc + 1) lv (.int (x + z) :: st) S σ) : pm_E l y cc nL ret al d S0 r pc lv (.int z :: .int x :: st) S σ :=
  pm_go (fun _ _ _ _ _ _ _ _ _ _ _ _ _ _ _ _ hx hb ho ht w => lv_iadd hx hb hd w) k
theorem pm_isub {x z : Int32} (hd : decode cc pc = .ok (.isub, 1)) (k : pm_E l y cc nL ret al d S0 r (pc + 1) lv (.int (x - z) :: st) S σ) : pm_E l y cc nL ret al d S0 r pc lv (.int z :: .int x :: st) S σ :=
  pm_go (fun _ _ _ _ _ _ _ _ _ _ _ _ _ _ _ _ hx hb ho ht w => lv_isub hx hb hd w) k
theorem pm_imul {x z : Int32} (hd : decode cc pc = .ok (.imul, 1)) (k : pm_E l y cc nL ret al d S0 r (pc + 1) lv (.int (x * z) :: st) S σ) : pm_E l y cc nL ret al d S0 r pc lv (.int z :: .int x :: st) S σ :=
  pm_go (fun _ _ _ _ _ _ _ _ _ _ _ _ _ _ _ _ hx hb ho ht w => lv_imul hx hb hd w) k
theorem pm_iand {x z : Int32} (hd : decode cc pc = .ok (.iand, 1)) (k : pm_E l y cc nL ret al d S0 r (pc + 1) lv (.int (x &&& z) :: st) S σ) : pm_E l y cc nL ret al d S0 r pc lv (.int z :: .int x :: st) S σ :=
  pm_go (fun _ _ _ _ _ _ _ _ _ _ _ _ _ _ _ _ hx hb ho ht w => lv_iand hx hb hd w) k
theorem pm_ior {x z : Int32} (hd : decode cc pc = .ok (.ior, 1)) (k : pm_E l y cc nL ret al d S0 r (pc + 1) lv (.int (x ||| z) :: st) S σ) : pm_E l y cc nL ret al d S0 r pc lv (.int z :: .int x :: st) S σ :=
  pm_go (fun _ _ _ _ _ _ _ _ _ _ _ _ _ _ _ _ hx hb ho ht w => lv_ior hx hb hd w) k
theorem pm_ixor {x z : Int32} (hd : decode cc pc = .ok (.ixor, 1)) (k : pm_E l y cc nL ret al d S0 r (pc + 1) lv (.int (x ^^^ z) :: st) S σ) : pm_E l y cc nL ret al d S0 r pc lv (.int z :: .int x :: st) S σ :=
  pm_go (fun _ _ _ _ _ _ _ _ _ _ _ _ _ _ _ _ hx hb ho ht w => lv_ixor hx hb hd w) k
theorem pm_ishl {x z : Int32} (hd : decode cc pc = .ok (.ishl, 1)) (k : pm_E l y cc nL ret al d S0 r (pc + 1) lv (.int (x <<< (z &&& 31)) :: st) S σ) : pm_E l y cc nL ret al d S0 r pc lv (.int z :: .int x :: st) S σ :=
  pm_go (fun _ _ _ _ _ _ _ _ _ _ _ _ _ _ _ _ hx hb ho ht w => lv_ishl hx hb hd w) k
theorem pm_ishr {x z : Int32} (hd : decode cc pc = .ok (.ishr, 1)) (k : pm_E l y cc nL ret al d S0 r (pc + 1) lv (.int (x >>> (z &&& 31)) :: st) S σ) : pm_E l y cc nL ret al d S0 r pc lv (.int z :: .int x :: st) S σ :=
  pm_go (fun _ _ _ _ _ _ _ _ _ _ _ _ _ _ _ _ hx hb ho ht w => lv_ishr hx hb hd w) k
theorem pm_idiv {x z : Int32} (hz : ¬ z = 0) (hd : decode cc pc = .ok (.idiv, 1)) (k : pm_E l y cc nL ret al d S0 r (pc + 1) lv (.int (x / z) :: st) S σ) : pm_E l y cc nL ret al d S0 r pc lv (.int z :: .int x :: st) S σ :=
  pm_go (fun _ _ _ _ _ _ _ _ _ _ _ _ _ _ _ _ hx hb ho ht w => lv_idiv hx hb hd hz w) k
theorem pm_irem {x z : Int32} (hz : ¬ z = 0) (hd : decode cc pc = .ok (.irem, 1)) (k : pm_E l y cc nL ret al d S0 r (pc + 1) lv (.int (pm_rem x z) :: st) S σ) : pm_E l y cc nL ret al d S0 r pc lv (.int z :: .int x :: st) S σ :=
  pm_go (fun _ _ _ _ _ _ _ _ _ _ _ _ _ _ _ _ hx hb ho ht w => lv_irem hx hb hd hz w) k
theorem pm_ineg {x : Int32} (hd : decode cc pc = .ok (.ineg, 1)) (k : pm_E l y cc nL ret al d S0 r (pc + 1) lv (.int (-x) :: st) S σ) : pm_E l y cc nL ret al d S0 r pc lv (.int x :: st) S σ :=
  pm_go (fun _ _ _ _ _ _ _ _ _ _ _ _ _ _ _ _ hx hb ho ht w => lv_ineg hx hb hd w) k
theorem pm_ladd {x z : Int64} (hd : decode cc pc = .ok (.ladd, 1)) (k : pm_E l y cc nL ret al d S0 r (pc + 1) lv (.long (x + z) :: st) S σ) : pm_E l y cc nL ret al d S0 r pc lv (.long z :: .long x :: st) S σ :=
  pm_go (fun _ _ _ _ _ _ _ _ _ _ _ _ _ _ _ _ hx hb ho ht w => lv_ladd hx hb hd w) k
theorem pm_lmul {x z : Int64} (hd : decode cc pc = .ok (.lmul, 1)) (k : pm_E l y cc nL ret al d S0 r (pc + 1) lv (.long (x * z) :: st) S σ) : pm_E l y cc nL ret al d S0 r pc lv (.long z :: .long x :: st) S σ :=
  pm_go (fun _ _ _ _ _ _ _ _ _ _ _ _ _ _ _ _ hx hb ho ht w => lv_lmul hx hb hd w) k
theorem pm_land {x z : Int64} (hd : decode cc pc = .ok (.land, 1)) (k : pm_E l y cc nL ret al d S0 r (pc + 1) lv (.long (x &&& z) :: st) S σ) : pm_E l y cc nL ret al d S0 r pc lv (.long z :: .long x :: st) S σ :=
  pm_go (fun _ _ _ _ _ _ _ _ _ _ _ _ _ _ _ _ hx hb ho ht w => lv_land hx hb hd w) k
theorem pm_ldiv {x z : Int64} (hz : ¬ z = 0) (hd : decode cc pc = .ok (.ldiv, 1)) (k : pm_E l y cc nL ret al d S0 r (pc + 1) lv (.long (x / z) :: st) S σ) : pm_E l y cc nL ret al d S0 r pc lv (.long z :: .long x :: st) S σ :=
  pm_go (fun _ _ _ _ _ _ _ _ _ _ _ _ _ _ _ _ hx hb ho ht w => lv_ldiv hx hb hd hz w) k
theorem pm_lrem {x z : Int64} (hz : ¬ z = 0) (hd : decode cc pc = .ok (.lrem, 1)) (k : pm_E l y cc nL ret al d S0 r (pc + 1) lv (.long (pm_lrem_ x z) :: st) S σ) : pm_E l y cc nL ret al d S0 r pc lv (.long z :: .long x :: st) S σ :=
  pm_go (fun _ _ _ _ _ _ _ _ _ _ _ _ _ _ _ _ hx hb ho ht w => lv_lrem hx hb hd hz w) k
theorem pm_i2l {x : Int32} (hd : decode cc pc = .ok (.i2l, 1)) (k : pm_E l y cc nL ret al d S0 r (pc + 1) lv (.long x.toInt64 :: st) S σ) : pm_E l y cc nL ret al d S0 r pc lv (.int x :: st) S σ :=
  pm_go (fun _ _ _ _ _ _ _ _ _ _ _ _ _ _ _ _ hx hb ho ht w => lv_i2l hx hb hd rfl w) k
theorem pm_l2i {x : Int64} (hd : decode cc pc = .ok (.l2i, 1)) (k : pm_E l y cc nL ret al d S0 r (pc + 1) lv (.int x.toInt32 :: st) S σ) : pm_E l y cc nL ret al d S0 r pc lv (.long x :: st) S σ :=
  pm_go (fun _ _ _ _ _ _ _ _ _ _ _ _ _ _ _ _ hx hb ho ht w => lv_l2i hx hb hd rfl w) k
theorem pm_lcmp {x z : Int64} (hd : decode cc pc = .ok (.lcmp, 1)) (k : pm_E l y cc nL ret al d S0 r (pc + 1) lv (.int (lg_cmp x z) :: st) S σ) : pm_E l y cc nL ret al d S0 r pc lv (.long z :: .long x :: st) S σ :=
  pm_go (fun _ _ _ _ _ _ _ _ _ _ _ _ _ _ _ _ hx hb ho ht w => W.lcmp hx hb hd w) k
theorem pm_dup {v : Value} (hv : v.category = 1) (hd : decode cc pc = .ok (.dup, 1)) (k : pm_E l y cc nL ret al d S0 r (pc + 1) lv (v :: v :: st) S σ) : pm_E l y cc nL ret al d S0 r pc lv (v :: st) S σ :=
  pm_go (fun _ _ _ _ _ _ _ _ _ _ _ _ _ _ _ _ hx hb ho ht w => lv_dup hx hb hd (by rw [pm_cat]; exact hv) w) k
theorem pm_pop {v : Value} (hv : v.category = 1) (hd : decode cc pc = .ok (.pop, 1)) (k : pm_E l y cc nL ret al d S0 r (pc + 1) lv (st) S σ) : pm_E l y cc nL ret al d S0 r pc lv (v :: st) S σ :=
  pm_go (fun _ _ _ _ _ _ _ _ _ _ _ _ _ _ _ _ hx hb ho ht w => lv_pop hx hb hd (by rw [pm_cat]; exact hv) w) k
theorem pm_dup2 {v u : Value} (hv : v.category = 1) (hu : u.category = 1) (hd : decode cc pc = .ok (.dup2, 1)) (k : pm_E l y cc nL ret al d S0 r (pc + 1) lv (v :: u :: v :: u :: st) S σ) : pm_E l y cc nL ret al d S0 r pc lv (v :: u :: st) S σ :=
  pm_go (fun _ _ _ _ _ _ _ _ _ _ _ _ _ _ _ _ hx hb ho ht w => lv_dup2_11 hx hb hd (by rw [pm_cat]; exact hv) (by rw [pm_cat]; exact hu) w) k
theorem pm_goto {off : Int} (tgt : Nat) (hd : decode cc pc = .ok (.goto off, 3)) (ht : (pc : Int) + off = (tgt : Int)) (k : pm_E l y cc nL ret al d S0 r tgt lv st S σ) : pm_E l y cc nL ret al d S0 r pc lv st S σ :=
  pm_go (fun _ _ _ _ _ _ _ _ _ _ _ _ _ _ _ _ hx hb _ _ w => lv_goto hx hb hd ht w) k
/-- a branch on a condition -/
def pm_Br (l : Launch) (cc : ByteArray) (C : Prop) (pc : Nat) (st : List Value) (pt pf : Nat) (st' : List Value) : Prop :=
  ∀ (p : Program) (e : Env) (R : Room) (s : State) (m : MethodId) (args : Array Value) (below : List Frame) (meth : Method) (c : Code) (H : Heap) (locs : List Loc) (cells slots : Nat) (Q : State → Prop) (ls : Array Slot) (B : Nat),
    p.tables.exec = Jvm.exec → c.code = cc → (C → W p l e R s m args below meth c H locs cells slots Q (F0 m pt ls (st'.map (pm_v B)))) → (¬ C → W p l e R s m args below meth c H locs cells slots Q (F0 m pf ls (st'.map (pm_v B)))) → W p l e R s m args below meth c H locs cells slots Q (F0 m pc ls (st.map (pm_v B)))
theorem pm_br {C : Prop} {pt pf : Nat} {st' : List Value} (h : pm_Br l cc C pc st pt pf st') (kt : C → pm_E l y cc nL ret al d S0 r pt lv st' S σ) (kf : ¬ C → pm_E l y cc nL ret al d S0 r pf lv st' S σ) : pm_E l y cc nL ret al d S0 r pc lv st S σ :=
  fun p e s m args below meth c D aC B H ls locs cells slots hX hK hP hS h1 h2 h3 h4 hl =>
    h p e _ s m args below meth c H locs cells slots _ ls B hX.1 hX.2.1 (fun z => kt z p e s m args below meth c D aC B H ls locs cells slots hX hK hP hS h1 h2 h3 h4 hl) (fun z => kf z p e s m args below meth c D aC B H ls locs cells slots hX hK hP hS h1 h2 h3 h4 hl)
theorem pm_if_eq {x : Int32} {off : Int} (tgt : Nat) (hd : decode cc pc = .ok (.ifCond .eq off, 3)) (ht : (pc : Int) + off = (tgt : Int)) (kt : x = 0 → pm_E l y cc nL ret al d S0 r tgt lv st S σ) (kf : ¬ (x = 0) → pm_E l y cc nL ret al d S0 r (pc + 3) lv st S σ) : pm_E l y cc nL ret al d S0 r pc lv (.int x :: st) S σ :=
  pm_br (fun _ _ _ _ _ _ _ _ _ _ _ _ _ _ _ _ hx hb a b => lv_if_eq hx hb hd ht a b) kt kf
theorem pm_icmp_eq {x z : Int32} {off : Int} (tgt : Nat) (hd : decode cc pc = .ok (.if_icmp .eq off, 3)) (ht : (pc : Int) + off = (tgt : Int)) (kt : x = z → pm_E l y cc nL ret al d S0 r tgt lv st S σ) (kf : ¬ (x = z) → pm_E l y cc nL ret al d S0 r (pc + 3) lv st S σ) : pm_E l y cc nL ret al d S0 r pc lv (.int z :: .int x :: st) S σ :=
  pm_br (fun _ _ _ _ _ _ _ _ _ _ _ _ _ _ _ _ hx hb a b => lv_icmp_eq hx hb hd ht a b) kt kf
theorem pm_if_ne {x : Int32} {off : Int} (tgt : Nat) (hd : decode cc pc = .ok (.ifCond .ne off, 3)) (ht : (pc : Int) + off = (tgt : Int)) (kf : x = 0 → pm_E l y cc nL ret al d S0 r (pc + 3) lv st S σ) (kt : ¬ (x = 0) → pm_E l y cc nL ret al d S0 r tgt lv st S σ) : pm_E l y cc nL ret al d S0 r pc lv (.int x :: st) S σ :=
  pm_br (C := x = 0) (pt := pc + 3) (pf := tgt) (fun _ _ _ _ _ _ _ _ _ _ _ _ _ _ _ _ hx hb a b => lv_if_ne hx hb hd ht b a) kf kt
theorem pm_icmp_ne {x z : Int32} {off : Int} (tgt : Nat) (hd : decode cc pc = .ok (.if_icmp .ne off, 3)) (ht : (pc : Int) + off = (tgt : Int)) (kf : x = z → pm_E l y cc nL ret al d S0 r (pc + 3) lv st S σ) (kt : ¬ (x = z) → pm_E l y cc nL ret al d S0 r tgt lv st S σ) : pm_E l y cc nL ret al d S0 r pc lv (.int z :: .int x :: st) S σ :=
  pm_br (C := x = z) (pt := pc + 3) (pf := tgt) (fun _ _ _ _ _ _ _ _ _ _ _ _ _ _ _ _ hx hb a b => lv_icmp_ne hx hb hd ht b a) kf kt
theorem pm_if_lt {x : Int32} {off : Int} (tgt : Nat) (hd : decode cc pc = .ok (.ifCond .lt off, 3)) (ht : (pc : Int) + off = (tgt : Int)) (kt : x < 0 → pm_E l y cc nL ret al d S0 r tgt lv st S σ) (kf : ¬ (x < 0) → pm_E l y cc nL ret al d S0 r (pc + 3) lv st S σ) : pm_E l y cc nL ret al d S0 r pc lv (.int x :: st) S σ :=
  pm_br (fun _ _ _ _ _ _ _ _ _ _ _ _ _ _ _ _ hx hb a b => lv_if_lt hx hb hd ht a b) kt kf
theorem pm_icmp_lt {x z : Int32} {off : Int} (tgt : Nat) (hd : decode cc pc = .ok (.if_icmp .lt off, 3)) (ht : (pc : Int) + off = (tgt : Int)) (kt : x < z → pm_E l y cc nL ret al d S0 r tgt lv st S σ) (kf : ¬ (x < z) → pm_E l y cc nL ret al d S0 r (pc + 3) lv st S σ) : pm_E l y cc nL ret al d S0 r pc lv (.int z :: .int x :: st) S σ :=
  pm_br (fun _ _ _ _ _ _ _ _ _ _ _ _ _ _ _ _ hx hb a b => lv_icmp_lt hx hb hd ht a b) kt kf
theorem pm_if_ge {x : Int32} {off : Int} (tgt : Nat) (hd : decode cc pc = .ok (.ifCond .ge off, 3)) (ht : (pc : Int) + off = (tgt : Int)) (kt : 0 ≤ x → pm_E l y cc nL ret al d S0 r tgt lv st S σ) (kf : ¬ (0 ≤ x) → pm_E l y cc nL ret al d S0 r (pc + 3) lv st S σ) : pm_E l y cc nL ret al d S0 r pc lv (.int x :: st) S σ :=
  pm_br (fun _ _ _ _ _ _ _ _ _ _ _ _ _ _ _ _ hx hb a b => lv_if_ge hx hb hd ht a b) kt kf
theorem pm_icmp_ge {x z : Int32} {off : Int} (tgt : Nat) (hd : decode cc pc = .ok (.if_icmp .ge off, 3)) (ht : (pc : Int) + off = (tgt : Int)) (kt : z ≤ x → pm_E l y cc nL ret al d S0 r tgt lv st S σ) (kf : ¬ (z ≤ x) → pm_E l y cc nL ret al d S0 r (pc + 3) lv st S σ) : pm_E l y cc nL ret al d S0 r pc lv (.int z :: .int x :: st) S σ :=
  pm_br (fun _ _ _ _ _ _ _ _ _ _ _ _ _ _ _ _ hx hb a b => lv_icmp_ge hx hb hd ht a b) kt kf
theorem pm_if_gt {x : Int32} {off : Int} (tgt : Nat) (hd : decode cc pc = .ok (.ifCond .gt off, 3)) (ht : (pc : Int) + off = (tgt : Int)) (kt : 0 < x → pm_E l y cc nL ret al d S0 r tgt lv st S σ) (kf : ¬ (0 < x) → pm_E l y cc nL ret al d S0 r (pc + 3) lv st S σ) : pm_E l y cc nL ret al d S0 r pc lv (.int x :: st) S σ :=
  pm_br (fun _ _ _ _ _ _ _ _ _ _ _ _ _ _ _ _ hx hb a b => lv_if_gt hx hb hd ht a b) kt kf
theorem pm_icmp_gt {x z : Int32} {off : Int} (tgt : Nat) (hd : decode cc pc = .ok (.if_icmp .gt off, 3)) (ht : (pc : Int) + off = (tgt : Int)) (kt : z < x → pm_E l y cc nL ret al d S0 r tgt lv st S σ) (kf : ¬ (z < x) → pm_E l y cc nL ret al d S0 r (pc + 3) lv st S σ) : pm_E l y cc nL ret al d S0 r pc lv (.int z :: .int x :: st) S σ :=
  pm_br (fun _ _ _ _ _ _ _ _ _ _ _ _ _ _ _ _ hx hb a b => lv_icmp_gt hx hb hd ht a b) kt kf
theorem pm_if_le {x : Int32} {off : Int} (tgt : Nat) (hd : decode cc pc = .ok (.ifCond .le off, 3)) (ht : (pc : Int) + off = (tgt : Int)) (kt : x ≤ 0 → pm_E l y cc nL ret al d S0 r tgt lv st S σ) (kf : ¬ (x ≤ 0) → pm_E l y cc nL ret al d S0 r (pc + 3) lv st S σ) : pm_E l y cc nL ret al d S0 r pc lv (.int x :: st) S σ :=
  pm_br (fun _ _ _ _ _ _ _ _ _ _ _ _ _ _ _ _ hx hb a b => lv_if_le hx hb hd ht a b) kt kf
theorem pm_icmp_le {x z : Int32} {off : Int} (tgt : Nat) (hd : decode cc pc = .ok (.if_icmp .le off, 3)) (ht : (pc : Int) + off = (tgt : Int)) (kt : x ≤ z → pm_E l y cc nL ret al d S0 r tgt lv st S σ) (kf : ¬ (x ≤ z) → pm_E l y cc nL ret al d S0 r (pc + 3) lv st S σ) : pm_E l y cc nL ret al d S0 r pc lv (.int z :: .int x :: st) S σ :=
  pm_br (fun _ _ _ _ _ _ _ _ _ _ _ _ _ _ _ _ hx hb a b => lv_icmp_le hx hb hd ht a b) kt kf
theorem pm_tableOut {dflt lo hi : Int} {offs : Array Int} {len : Nat} {x : Int32} (tgt : Nat) (hd : decode cc pc = .ok (.tableswitch dflt lo hi offs, len)) (h : x.toInt < lo ∨ hi < x.toInt) (ht : (pc : Int) + dflt = (tgt : Int)) (k : pm_E l y cc nL ret al d S0 r tgt lv st S σ) : pm_E l y cc nL ret al d S0 r pc lv (.int x :: st) S σ :=
  pm_go (fun _ _ _ _ _ _ _ _ _ _ _ _ _ _ _ _ hx hb _ _ w => lv_tableOut hx hb hd h ht w) k
theorem pm_tableIn {dflt lo hi : Int} {offs : Array Int} {len : Nat} {x : Int32} {off : Int} (tgt : Nat) (hd : decode cc pc = .ok (.tableswitch dflt lo hi offs, len)) (h1 : ¬ x.toInt < lo) (h2 : ¬ hi < x.toInt) (ho : offs[(x.toInt - lo).toNat]? = some off) (ht : (pc : Int) + off = (tgt : Int)) (k : pm_E l y cc nL ret al d S0 r tgt lv st S σ) : pm_E l y cc nL ret al d S0 r pc lv (.int x :: st) S σ :=
  pm_go (fun _ _ _ _ _ _ _ _ _ _ _ _ _ _ _ _ hx hb _ _ w => lv_tableIn hx hb hd h1 h2 ho ht w) k
theorem pm_lookup {dflt : Int} {ps : Array (Int × Int)} {len : Nat} {x : Int32} {off : Int} (tgt : Nat) (hd : decode cc pc = .ok (.lookupswitch dflt ps, len)) (hp : (ps.toList.zip (ps.toList.drop 1)).all (fun (a, next) => a.1 < next.1) = true) (ho : Op.lookupswitch.offset ps.toList dflt x.toInt = off) (ht : (pc : Int) + off = (tgt : Int)) (k : pm_E l y cc nL ret al d S0 r tgt lv st S σ) : pm_E l y cc nL ret al d S0 r pc lv (.int x :: st) S σ :=
  pm_go (fun _ _ _ _ _ _ _ _ _ _ _ _ _ _ _ _ hx hb _ _ w => lv_lookup hx hb hd hp ho ht w) k
theorem pm_lv_at {B : Nat} {ls : Array Slot} {i k : Nat} {v : Value} (hl : lv_has ls nL (lv.map (fun q => (q.1, pm_v B q.2)))) (hk : lv[k]? = some (i, v)) : ls[i]? = some (.val (pm_v B v)) :=
  lv_at hl k (by rw [List.getElem?_map, hk]; rfl)
theorem pm_lv_st {B i : Nat} {v : Value} : ((i, pm_v B v) :: (lv.map (fun q => (q.1, pm_v B q.2))).filter (fun q => !(q.1 == i) && !(q.1 + 1 == i && q.2.category == 2))) = ((i, v) :: lv.filter (fun q => !(q.1 == i) && !(q.1 + 1 == i && q.2.category == 2))).map (fun q => (q.1, pm_v B q.2)) := by
  simp only [List.map_cons, List.filter_map, Function.comp_def, pm_cat]
theorem pm_lv_st2 {B i : Nat} {v : Value} : ((i, pm_v B v) :: (lv.map (fun q => (q.1, pm_v B q.2))).filter (fun q => !(q.1 == i) && (!(q.1 == i + 1) && !(q.1 + 1 == i && q.2.category == 2)))) = ((i, v) :: lv.filter (fun q => !(q.1 == i) && (!(q.1 == i + 1) && !(q.1 + 1 == i && q.2.category == 2)))).map (fun q => (q.1, pm_v B q.2)) := by
  simp only [List.map_cons, List.filter_map, Function.comp_def, pm_cat]
/-- fewer locals -/
theorem pm_lv (lv' : List (Nat × Value)) (ks : List Nat) (h : lv_pick lv ks = lv') (k : pm_E l y cc nL ret al d S0 r pc lv' st S σ) : pm_E l y cc nL ret al d S0 r pc lv st S σ :=
  fun p e s m args below meth c D aC B H ls locs cells slots hX hK hP hS h1 h2 h3 h4 hl =>
    k p e s m args below meth c D aC B H ls locs cells slots hX hK hP hS h1 h2 h3 h4 (lv_sub hl ks (by rw [← h]; simp [lv_pick, List.map_filterMap, List.getElem?_map]))
theorem pm_iload_n {k0 : Fin 4} {i : Nat} {x : Int32} (j : Nat) (hd : decode cc pc = .ok (.iload_n k0, 1)) (hi : (k0 : Nat) = i) (hj : lv[j]? = some (i, .int x)) (k : pm_E l y cc nL ret al d S0 r (pc + 1) lv (.int x :: st) S σ) : pm_E l y cc nL ret al d S0 r pc lv st S σ := by
  intro p e s m args below meth c D aC B H ls locs cells slots hX hK hP hS h1 h2 h3 h4 hl
  exact lv_iload_n hX.1 hX.2.1 hd hi (pm_lv_at hl hj) (k p e s m args below meth c D aC B H ls locs cells slots hX hK hP hS h1 h2 h3 h4 hl)
theorem pm_iload {i : Nat} {x : Int32} (j : Nat) (hd : decode cc pc = .ok (.iload i, 2)) (hj : lv[j]? = some (i, .int x)) (k : pm_E l y cc nL ret al d S0 r (pc + 2) lv (.int x :: st) S σ) : pm_E l y cc nL ret al d S0 r pc lv st S σ := by
  intro p e s m args below meth c D aC B H ls locs cells slots hX hK hP hS h1 h2 h3 h4 hl
  exact lv_iload hX.1 hX.2.1 hd (pm_lv_at hl hj) (k p e s m args below meth c D aC B H ls locs cells slots hX hK hP hS h1 h2 h3 h4 hl)
theorem pm_lload_n {k0 : Fin 4} {i : Nat} {x : Int64} (j : Nat) (hd : decode cc pc = .ok (.lload_n k0, 1)) (hi : (k0 : Nat) = i) (hj : lv[j]? = some (i, .long x)) (k : pm_E l y cc nL ret al d S0 r (pc + 1) lv (.long x :: st) S σ) : pm_E l y cc nL ret al d S0 r pc lv st S σ := by
  intro p e s m args below meth c D aC B H ls locs cells slots hX hK hP hS h1 h2 h3 h4 hl
  exact lv_lload_n hX.1 hX.2.1 hd hi (pm_lv_at hl hj) (k p e s m args below meth c D aC B H ls locs cells slots hX hK hP hS h1 h2 h3 h4 hl)
theorem pm_lload {i : Nat} {x : Int64} (j : Nat) (hd : decode cc pc = .ok (.lload i, 2)) (hj : lv[j]? = some (i, .long x)) (k : pm_E l y cc nL ret al d S0 r (pc + 2) lv (.long x :: st) S σ) : pm_E l y cc nL ret al d S0 r pc lv st S σ := by
  intro p e s m args below meth c D aC B H ls locs cells slots hX hK hP hS h1 h2 h3 h4 hl
  exact lv_lload hX.1 hX.2.1 hd (pm_lv_at hl hj) (k p e s m args below meth c D aC B H ls locs cells slots hX hK hP hS h1 h2 h3 h4 hl)
theorem pm_aload_n {k0 : Fin 4} {i : Nat} {x : Nat} (j : Nat) (hd : decode cc pc = .ok (.aload_n k0, 1)) (hi : (k0 : Nat) = i) (hj : lv[j]? = some (i, .ref x)) (hq : 0 < x) (k : pm_E l y cc nL ret al d S0 r (pc + 1) lv (.ref x :: st) S σ) : pm_E l y cc nL ret al d S0 r pc lv st S σ := by
  intro p e s m args below meth c D aC B H ls locs cells slots hX hK hP hS h1 h2 h3 h4 hl
  have e1 := pm_lv_at hl hj
  have hk := k p e s m args below meth c D aC B H ls locs cells slots hX hK hP hS h1 h2 h3 h4 hl
  rw [show pm_v B (.ref x) = .ref (B + x) from pm_rv_pos hq] at e1
  rw [List.map_cons, show pm_v B (.ref x) = .ref (B + x) from pm_rv_pos hq] at hk
  exact lv_aload_n hX.1 hX.2.1 hd hi e1 hk
theorem pm_aload {i : Nat} {x : Nat} (j : Nat) (hd : decode cc pc = .ok (.aload i, 2)) (hj : lv[j]? = some (i, .ref x)) (hq : 0 < x) (k : pm_E l y cc nL ret al d S0 r (pc + 2) lv (.ref x :: st) S σ) : pm_E l y cc nL ret al d S0 r pc lv st S σ := by
  intro p e s m args below meth c D aC B H ls locs cells slots hX hK hP hS h1 h2 h3 h4 hl
  have e1 := pm_lv_at hl hj
  have hk := k p e s m args below meth c D aC B H ls locs cells slots hX hK hP hS h1 h2 h3 h4 hl
  rw [show pm_v B (.ref x) = .ref (B + x) from pm_rv_pos hq] at e1
  rw [List.map_cons, show pm_v B (.ref x) = .ref (B + x) from pm_rv_pos hq] at hk
  exact lv_aload hX.1 hX.2.1 hd e1 hk
theorem pm_istore_n {k0 : Fin 4} {i : Nat} {x : Int32} (lv' : List (Nat × Value)) (hd : decode cc pc = .ok (.istore_n k0, 1)) (hi : (k0 : Nat) = i) (hn : i < nL) (hl' : (i, .int x) :: lv.filter (fun q => !(q.1 == i) && !(q.1 + 1 == i && q.2.category == 2)) = lv') (k : pm_E l y cc nL ret al d S0 r (pc + 1) lv' st S σ) : pm_E l y cc nL ret al d S0 r pc lv (.int x :: st) S σ := by
  intro p e s m args below meth c D aC B H ls locs cells slots hX hK hP hS h1 h2 h3 h4 hl
  subst hl'
  exact lv_istore_n hX.1 hX.2.1 hd hi hl hn (pm_lv_st (v := .int x)) (fun ls hl => k p e s m args below meth c D aC B H ls locs cells slots hX hK hP hS h1 h2 h3 h4 hl)
theorem pm_istore {i : Nat} {x : Int32} (lv' : List (Nat × Value)) (hd : decode cc pc = .ok (.istore i, 2)) (hn : i < nL) (hl' : (i, .int x) :: lv.filter (fun q => !(q.1 == i) && !(q.1 + 1 == i && q.2.category == 2)) = lv') (k : pm_E l y cc nL ret al d S0 r (pc + 2) lv' st S σ) : pm_E l y cc nL ret al d S0 r pc lv (.int x :: st) S σ := by
  intro p e s m args below meth c D aC B H ls locs cells slots hX hK hP hS h1 h2 h3 h4 hl
  subst hl'
  exact lv_istore hX.1 hX.2.1 hd hl hn (pm_lv_st (v := .int x)) (fun ls hl => k p e s m args below meth c D aC B H ls locs cells slots hX hK hP hS h1 h2 h3 h4 hl)
theorem pm_lstore_n {k0 : Fin 4} {i : Nat} {x : Int64} (lv' : List (Nat × Value)) (hd : decode cc pc = .ok (.lstore_n k0, 1)) (hi : (k0 : Nat) = i) (hn : i + 1 < nL) (hl' : (i, .long x) :: lv.filter (fun q => !(q.1 == i) && (!(q.1 == i + 1) && !(q.1 + 1 == i && q.2.category == 2))) = lv') (k : pm_E l y cc nL ret al d S0 r (pc + 1) lv' st S σ) : pm_E l y cc nL ret al d S0 r pc lv (.long x :: st) S σ := by
  intro p e s m args below meth c D aC B H ls locs cells slots hX hK hP hS h1 h2 h3 h4 hl
  subst hl'
  exact lv_lstore_n hX.1 hX.2.1 hd hi hl hn (pm_lv_st2 (v := .long x)) (fun ls hl => k p e s m args below meth c D aC B H ls locs cells slots hX hK hP hS h1 h2 h3 h4 hl)
theorem pm_lstore {i : Nat} {x : Int64} (lv' : List (Nat × Value)) (hd : decode cc pc = .ok (.lstore i, 2)) (hn : i + 1 < nL) (hl' : (i, .long x) :: lv.filter (fun q => !(q.1 == i) && (!(q.1 == i + 1) && !(q.1 + 1 == i && q.2.category == 2))) = lv') (k : pm_E l y cc nL ret al d S0 r (pc + 2) lv' st S σ) : pm_E l y cc nL ret al d S0 r pc lv (.long x :: st) S σ := by
  intro p e s m args below meth c D aC B H ls locs cells slots hX hK hP hS h1 h2 h3 h4 hl
  subst hl'
  exact lv_lstore hX.1 hX.2.1 hd hl hn (pm_lv_st2 (v := .long x)) (fun ls hl => k p e s m args below meth c D aC B H ls locs cells slots hX hK hP hS h1 h2 h3 h4 hl)
theorem pm_astore_n {k0 : Fin 4} {i : Nat} {x : Nat} (lv' : List (Nat × Value)) (hd : decode cc pc = .ok (.astore_n k0, 1)) (hi : (k0 : Nat) = i) (hn : i < nL) (hq : 0 < x) (hl' : (i, .ref x) :: lv.filter (fun q => !(q.1 == i) && !(q.1 + 1 == i && q.2.category == 2)) = lv') (k : pm_E l y cc nL ret al d S0 r (pc + 1) lv' st S σ) : pm_E l y cc nL ret al d S0 r pc lv (.ref x :: st) S σ := by
  intro p e s m args below meth c D aC B H ls locs cells slots hX hK hP hS h1 h2 h3 h4 hl
  subst hl'
  have e1 := pm_lv_st (lv := lv) (B := B) (i := i) (v := .ref x)
  rw [show pm_v B (.ref x) = .ref (B + x) from pm_rv_pos hq] at e1
  rw [List.map_cons, show pm_v B (.ref x) = .ref (B + x) from pm_rv_pos hq]
  exact lv_astore_n hX.1 hX.2.1 hd hi hl hn e1 (fun ls hl => k p e s m args below meth c D aC B H ls locs cells slots hX hK hP hS h1 h2 h3 h4 hl)
theorem pm_astore {i : Nat} {x : Nat} (lv' : List (Nat × Value)) (hd : decode cc pc = .ok (.astore i, 2)) (hn : i < nL) (hq : 0 < x) (hl' : (i, .ref x) :: lv.filter (fun q => !(q.1 == i) && !(q.1 + 1 == i && q.2.category == 2)) = lv') (k : pm_E l y cc nL ret al d S0 r (pc + 2) lv' st S σ) : pm_E l y cc nL ret al d S0 r pc lv (.ref x :: st) S σ := by
  intro p e s m args below meth c D aC B H ls locs cells slots hX hK hP hS h1 h2 h3 h4 hl
  subst hl'
  have e1 := pm_lv_st (lv := lv) (B := B) (i := i) (v := .ref x)
  rw [show pm_v B (.ref x) = .ref (B + x) from pm_rv_pos hq] at e1
  rw [List.map_cons, show pm_v B (.ref x) = .ref (B + x) from pm_rv_pos hq]
  exact lv_astore hX.1 hX.2.1 hd hl hn e1 (fun ls hl => k p e s m args below meth c D aC B H ls locs cells slots hX hK hP hS h1 h2 h3 h4 hl)
theorem pm_iinc {i : Nat} {n : Int} {x : Int32} (j : Nat) (v : Int32) (lv' : List (Nat × Value)) (hd : decode cc pc = .ok (.iinc i n, 3)) (hj : lv[j]? = some (i, .int x)) (hv : x + Int32.ofInt n = v) (hn : i < nL) (hl' : (i, Value.int v) :: lv.filter (fun q => !(q.1 == i) && !(q.1 + 1 == i && q.2.category == 2)) = lv') (k : pm_E l y cc nL ret al d S0 r (pc + 3) lv' st S σ) : pm_E l y cc nL ret al d S0 r pc lv st S σ := by
  intro p e s m args below meth c D aC B H ls locs cells slots hX hK hP hS h1 h2 h3 h4 hl
  subst hl'
  exact lv_iinc hX.1 hX.2.1 hd hl (k := j) (x := x) (by rw [List.getElem?_map, hj]; rfl) hv hn (pm_lv_st (v := .int v)) (fun ls hl => k p e s m args below meth c D aC B H ls locs cells slots hX hK hP hS h1 h2 h3 h4 hl)
end PMR
section PMH
variable {l : Launch} {y : MethodName} {cc : ByteArray} {nL : Nat} {ret : Option FieldType} {al : Bool} {d : Nat} {S0 : pm_S} {r : Option Value × pm_S × pm_H} {pc : Nat} {lv : List (Nat × Value)} {st : List Value} {S : pm_S} {σ : pm_H}
def pm_CL (ci : Nat) (C : String) (T : u_T) (N : Nat) (ty : Nat → FieldType) : Prop :=
  vwCl[ci]? = some (C, T, N) ∧ (∀ w ∈ u_ws C T N, w ∈ lw_good) ∧ (∀ k, k < N → parseFieldDescriptor (T k).2.2.1 = some (ty k)) ∧ (∀ a, a < N → ∀ b, b < N → a ≠ b → (T a).2.1 ≠ (T b).2.1) ∧ pm_fn ci = N
theorem pm_T_si {S : pm_S} {σ : pm_H} {q k : Nat} {x : Int32} (h : pm_T S σ.2) : pm_T S (pm_si σ q k x).2 := h
theorem pm_obj {aC : Nat → ClassId} {B ci q : Nat} (hs : pm_is S q (ci + 3)) : (pm_ws aC B S σ)[q - 1]? = some (B + q, .inr (ci, (List.range (pm_fn ci)).map (pm_fv B σ q ci))) := pm_ws_get hs.at
theorem pm_vr {B q : Nat} (h : 0 < q) : (Value.ref q :: st).map (pm_v B) = .ref (B + q) :: st.map (pm_v B) := by
  rw [List.map_cons, show pm_v B (.ref q) = .ref (B + q) from pm_rv_pos h]
theorem pm_getI {ci k idx N q : Nat} {C : String} {T : u_T} {ty : Nat → FieldType} (hC : pm_CL ci C T N ty) (hw : Cond.fieldLink y.cls idx (T k).1 (T k).2.1 (T k).2.2.1 ∈ lw_good) (hk : k < N) (hf : pm_ft ci k = none) (hs : pm_is S q (ci + 3)) (hd : decode cc pc = .ok (.getfield idx, 3))
    (K : pm_E l y cc nL ret al d S0 r (pc + 3) lv (.int (σ.1 q k) :: st) S σ) : pm_E l y cc nL ret al d S0 r pc lv (.ref q :: st) S σ := by
  intro p e s m args below meth c D aC B H ls locs cells slots hX hK hP hS h1 h2 h3 h4 hl
  rw [pm_vr hs.pos]
  exact va_get hX.1 hX.2.1 hX.2.2.2.2.1 hC.2.1 hX.2.2.2.1 hK hP (q - 1) (pm_obj hs) hC.1 k hk (hX.2.2.2.2.1 _ hw) (fun _ h => h) (v := .int (σ.1 q k)) (by rw [pm_fs_get (by rw [hC.2.2.2.2]; exact hk)]; simp [pm_fv, hf]) hd (K p e s m args below meth c D aC B H ls locs cells slots hX hK hP hS h1 h2 h3 h4 hl)
theorem pm_getR {ci k idx N q t : Nat} {C : String} {T : u_T} {ty : Nat → FieldType} (hC : pm_CL ci C T N ty) (hw : Cond.fieldLink y.cls idx (T k).1 (T k).2.1 (T k).2.2.1 ∈ lw_good) (hk : k < N) (hf : pm_ft ci k = some t) (hs : pm_is S q (ci + 3)) (hd : decode cc pc = .ok (.getfield idx, 3))
    (K : pm_E l y cc nL ret al d S0 r (pc + 3) lv (.ref (σ.2 q k) :: st) S σ) : pm_E l y cc nL ret al d S0 r pc lv (.ref q :: st) S σ := by
  intro p e s m args below meth c D aC B H ls locs cells slots hX hK hP hS h1 h2 h3 h4 hl
  rw [pm_vr hs.pos]
  exact va_get hX.1 hX.2.1 hX.2.2.2.2.1 hC.2.1 hX.2.2.2.1 hK hP (q - 1) (pm_obj hs) hC.1 k hk (hX.2.2.2.2.1 _ hw) (fun _ h => h) (v := pm_rv B (σ.2 q k)) (by rw [pm_fs_get (by rw [hC.2.2.2.2]; exact hk)]; simp [pm_fv, hf]) hd (K p e s m args below meth c D aC B H ls locs cells slots hX hK hP hS h1 h2 h3 h4 hl)
/-- the world's types are at hand -/
theorem pm_types (K : pm_T S σ.2 → pm_E l y cc nL ret false d S0 r pc lv st S σ) : pm_E l y cc nL ret false d S0 r pc lv st S σ := by
  intro p e s m args below meth c D aC B H ls locs cells slots hX hK hP hS h1 h2 h3 h4 hl
  exact K (h1 rfl).2 p e s m args below meth c D aC B H ls locs cells slots hX hK hP hS h1 h2 h3 h4 hl
theorem pm_getT {ci k idx N q t : Nat} {C : String} {T : u_T} {ty : Nat → FieldType} (hC : pm_CL ci C T N ty) (hw : Cond.fieldLink y.cls idx (T k).1 (T k).2.1 (T k).2.2.1 ∈ lw_good) (hk : k < N) (hf : pm_ft ci k = some t) (hs : pm_is S q (ci + 3)) (hd : decode cc pc = .ok (.getfield idx, 3))
    (K : pm_is S (σ.2 q k) t → pm_E l y cc nL ret false d S0 r (pc + 3) lv (.ref (σ.2 q k) :: st) S σ) : pm_E l y cc nL ret false d S0 r pc lv (.ref q :: st) S σ :=
  pm_types fun hT => pm_getR hC hw hk hf hs hd (K (hT.1 q ci k t hs hf))
theorem pm_putG {ci k idx N q : Nat} {C : String} {T : u_T} {ty : Nat → FieldType} {v : Value} {σ' : pm_H} (hC : pm_CL ci C T N ty) (hw : Cond.fieldLink y.cls idx (T k).1 (T k).2.1 (T k).2.2.1 ∈ lw_good) (hk : k < N) (hs : pm_is S q (ci + 3)) (hfin : (T k).2.2.2 = false ∨ ((T k).2.2.2 = true ∧ y.name = "<init>" ∧ (T k).1 = y.cls))
    (hn : ∀ B, narrow (ty k) (pm_v B v) = pm_v B v) (hfit : ∀ B, fits (ty k) (pm_v B v) = true) (hv : ∀ B, pm_fv B σ' q ci k = pm_v B v) (ho : ∀ B j, j ≠ k → pm_fv B σ' q ci j = pm_fv B σ q ci j) (ho1 : ∀ a, a ≠ q → σ'.1 a = σ.1 a) (ho2 : ∀ a, a ≠ q → σ'.2 a = σ.2 a) (hT : al = false → pm_T S σ.2 → pm_T S σ'.2)
    (hd : decode cc pc = .ok (.putfield idx, 3)) (K : pm_E l y cc nL ret al d S0 r (pc + 3) lv st S σ') : pm_E l y cc nL ret al d S0 r pc lv (v :: .ref q :: st) S σ := by
  intro p e s m args below meth c D aC B H ls locs cells slots hX hK hP hS h1 h2 h3 h4 hl
  have e1 : (v :: Value.ref q :: st).map (pm_v B) = pm_v B v :: .ref (B + q) :: st.map (pm_v B) := by rw [List.map_cons, pm_vr hs.pos]
  rw [e1]
  have hD : va_D (pm_A al B S0.length) (pm_ws aC B S σ) := pm_D (fun z => by rw [(h1 z).1]; exact Nat.le_refl _)
  have hset : (pm_ws aC B S σ).set (q - 1) (B + q, .inr (ci, ((List.range (pm_fn ci)).map (pm_fv B σ q ci)).set k (pm_v B v))) = pm_ws aC B S σ' := by
    refine pm_ws_set hs.at ?_ ho1 ho2
    show (Sum.inr (ci, (List.range (pm_fn ci)).map (pm_fv B σ' q ci)) : va_E) = _
    rw [pm_fs_set (hv B) (ho B)]
  have hkl : k < ((List.range (pm_fn ci)).map (pm_fv B σ q ci)).length := by simp [hC.2.2.2.2, hk]
  have fin : ∀ (H1 : Heap) (locs1 : List Loc), va_P D vwCl ((pm_ws aC B S σ).set (q - 1) (B + q, .inr (ci, ((List.range (pm_fn ci)).map (pm_fv B σ q ci)).set k (pm_v B v)))) H1 → va_D (pm_A al B S0.length) ((pm_ws aC B S σ).set (q - 1) (B + q, .inr (ci, ((List.range (pm_fn ci)).map (pm_fv B σ q ci)).set k (pm_v B v)))) → va_S (pm_A al B S0.length) s.heap H1 locs1 →
      W p l e (pm_rm d (pm_mc S0 r) (pm_ms S0 r)) s m args below meth c H1 locs1 cells slots (MQ below (pm_Q D aC B r al S0.length) args s (pm_mc S0 r) (pm_ms S0 r) (pm_A al B S0.length)) (F0 m (pc + 3) ls (st.map (pm_v B))) := by
    intro H1 locs1 hP1 _ hS1
    rw [hset] at hP1
    exact K p e s m args below meth c D aC B H1 ls locs1 cells slots hX hK hP1 hS1 (fun z => ⟨(h1 z).1, hT z (h1 z).2⟩) h2 h3 h4 hl
  rcases hfin with hf | ⟨hf, hin, hde⟩
  · exact va_put hX.1 hX.2.1 hX.2.2.2.2.1 hC.2.1 ty hC.2.2.1 hC.2.2.2.1 hX.2.2.2.1 hK hP hD hS (q - 1) (pm_obj hs) hC.1 k hk (hX.2.2.2.2.1 _ hw) (fun _ h => h) hf (hC.2.2.1 k hk) (hn B) (hfit B) hkl hd fin
  · exact va_putF hX.1 hX.2.1 hX.2.2.2.2.1 hC.2.1 ty hC.2.2.1 hC.2.2.2.1 hX.2.2.2.1 hK hP hD hS (q - 1) (pm_obj hs) hC.1 k hk (hX.2.2.2.2.1 _ hw) (fun _ h => h) hf (by rw [hX.2.2.2.2.2.2.2.1]; exact hin) hde (hC.2.2.1 k hk) (hn B) (hfit B) hkl hd fin
theorem pm_fv_si {B ci q k a j : Nat} {x : Int32} (h : ¬ (a = q ∧ j = k)) : pm_fv B (pm_si σ q k x) a ci j = pm_fv B σ a ci j := by
  simp [pm_fv, pm_si_1, pm_si_2, h]
theorem pm_putI {ci k idx N q : Nat} {C : String} {T : u_T} {ty : Nat → FieldType} {x : Int32} (hC : pm_CL ci C T N ty) (hw : Cond.fieldLink y.cls idx (T k).1 (T k).2.1 (T k).2.2.1 ∈ lw_good) (hk : k < N) (hf : pm_ft ci k = none) (hty : ty k = .int) (hfin : (T k).2.2.2 = false) (hs : pm_is S q (ci + 3))
    (hd : decode cc pc = .ok (.putfield idx, 3)) (K : pm_E l y cc nL ret al d S0 r (pc + 3) lv st S (pm_si σ q k x)) : pm_E l y cc nL ret al d S0 r pc lv (.int x :: .ref q :: st) S σ :=
  pm_putG (v := .int x) hC hw hk hs (Or.inl hfin) (fun _ => by rw [hty]; rfl) (fun _ => by rw [hty]; rfl) (fun _ => by simp [pm_fv, hf, pm_si_1, pm_v]) (fun _ j hj => pm_fv_si (fun z => hj z.2)) (fun a ha => by simp [pm_si, ha]) (fun _ _ => rfl) (fun _ h => h) hd K
theorem pm_z_nar {x : Int32} (h : x = 0 ∨ x = 1) : narrow .boolean (.int x) = .int x := by rcases h with rfl | rfl <;> rfl
theorem pm_putZ {ci k idx N q : Nat} {C : String} {T : u_T} {ty : Nat → FieldType} {x : Int32} (hC : pm_CL ci C T N ty) (hw : Cond.fieldLink y.cls idx (T k).1 (T k).2.1 (T k).2.2.1 ∈ lw_good) (hk : k < N) (hf : pm_ft ci k = none) (hty : ty k = .boolean) (hfin : (T k).2.2.2 = false) (hs : pm_is S q (ci + 3)) (hx : x = 0 ∨ x = 1)
    (hd : decode cc pc = .ok (.putfield idx, 3)) (K : pm_E l y cc nL ret al d S0 r (pc + 3) lv st S (pm_si σ q k x)) : pm_E l y cc nL ret al d S0 r pc lv (.int x :: .ref q :: st) S σ :=
  pm_putG (v := .int x) hC hw hk hs (Or.inl hfin) (fun _ => by rw [hty]; exact pm_z_nar hx) (fun _ => by rw [hty]; rcases hx with rfl | rfl <;> rfl) (fun _ => by simp [pm_fv, hf, pm_si_1, pm_v]) (fun _ j hj => pm_fv_si (fun z => hj z.2)) (fun a ha => by simp [pm_si, ha]) (fun _ _ => rfl) (fun _ h => h) hd K
theorem pm_T_sr {S : pm_S} {σ : pm_H} {q k x t ci : Nat} (hs : pm_is S q (ci + 3)) (hf : pm_ft ci k = some t) (hx : pm_is S x t) (h : pm_T S σ.2) : pm_T S (pm_sr σ q k x).2 := by
  refine ⟨fun a ca j u ha hu => ?_, fun a j ha hj => ?_⟩
  · rw [pm_sr_2]
    by_cases hc : a = q ∧ j = k
    · rw [if_pos hc]
      obtain ⟨rfl, rfl⟩ := hc
      have e1 := ha.at.symm.trans hs.at
      have e2 : ca = ci := by injection e1 with e1; injection e1 with e1 _; omega
      subst e2
      rw [hf] at hu
      cases hu
      exact hx
    · rw [if_neg hc]
      exact h.1 a ca j u ha hu
  · rw [pm_sr_2]
    by_cases hc : a = q ∧ j = k
    · obtain ⟨rfl, rfl⟩ := hc
      have e1 := ha.at.symm.trans hs.at
      injection e1 with e1; injection e1 with e1 _; omega
    · rw [if_neg hc]
      exact h.2 a j ha hj
theorem pm_fv_sr {B ci q k a j x : Nat} (h : ¬ (a = q ∧ j = k)) : pm_fv B (pm_sr σ q k x) a ci j = pm_fv B σ a ci j := by
  simp [pm_fv, pm_sr_1, pm_sr_2, h]
theorem pm_putR {ci k idx N q x t : Nat} {C : String} {T : u_T} {ty : Nat → FieldType} (hC : pm_CL ci C T N ty) (hw : Cond.fieldLink y.cls idx (T k).1 (T k).2.1 (T k).2.2.1 ∈ lw_good) (hk : k < N) (hf : pm_ft ci k = some t) (hty : ∀ a, narrow (ty k) (.ref a) = .ref a ∧ fits (ty k) (.ref a) = true) (hfin : (T k).2.2.2 = false ∨ ((T k).2.2.2 = true ∧ y.name = "<init>" ∧ (T k).1 = y.cls)) (hs : pm_is S q (ci + 3)) (hx : pm_is S x t)
    (hd : decode cc pc = .ok (.putfield idx, 3)) (K : pm_E l y cc nL ret al d S0 r (pc + 3) lv st S (pm_sr σ q k x)) : pm_E l y cc nL ret al d S0 r pc lv (.ref x :: .ref q :: st) S σ :=
  pm_putG (v := .ref x) hC hw hk hs hfin (fun B => by rw [show pm_v B (.ref x) = .ref (B + x) from pm_rv_pos hx.pos]; exact (hty _).1) (fun B => by rw [show pm_v B (.ref x) = .ref (B + x) from pm_rv_pos hx.pos]; exact (hty _).2) (fun _ => by simp [pm_fv, hf, pm_sr_2, pm_v]) (fun _ j hj => pm_fv_sr (fun z => hj z.2)) (fun _ _ => rfl) (fun a ha => by simp [pm_sr, ha]) (fun _ h => pm_T_sr hs hf hx h) hd K
/-! arrays -/
theorem pm_arr0 {aC : Nat → ClassId} {B q : Nat} (hs : pm_is S q 0) : (pm_ws aC B S σ)[q - 1]? = some (B + q, .inl (aC 0, pm_len S q, .inl (σ.1 q))) := pm_ws_get hs.at
theorem pm_arr1 {aC : Nat → ClassId} {B q : Nat} (hs : pm_is S q 1) : (pm_ws aC B S σ)[q - 1]? = some (B + q, .inl (aC 1, pm_len S q, .inl (σ.1 q))) := pm_ws_get hs.at
theorem pm_arr2 {aC : Nat → ClassId} {B q : Nat} (hs : pm_is S q 2) : (pm_ws aC B S σ)[q - 1]? = some (B + q, .inl (aC 2, pm_len S q, .inr (.inr (.inr (.inr (fun j => pm_ro B (σ.2 q j))))))) := pm_ws_get hs.at
theorem pm_vi {B q : Nat} {i : Int32} (h : 0 < q) : (Value.int i :: .ref q :: st).map (pm_v B) = .int i :: .ref (B + q) :: st.map (pm_v B) := by rw [List.map_cons, pm_vr h]; rfl
theorem pm_vx {B q : Nat} {i x : Int32} (h : 0 < q) : (Value.int x :: .int i :: .ref q :: st).map (pm_v B) = .int x :: .int i :: .ref (B + q) :: st.map (pm_v B) := by rw [List.map_cons, pm_vi h]; rfl
theorem pm_iald {q : Nat} {i : Int32} (ha : pm_is S q 0) (hi : vp_in i (pm_len S q)) (hd : decode cc pc = .ok (.iaload, 1)) (K : pm_E l y cc nL ret al d S0 r (pc + 1) lv (.int (σ.1 q i.toNatClampNeg) :: st) S σ) : pm_E l y cc nL ret al d S0 r pc lv (.int i :: .ref q :: st) S σ := by
  intro p e s m args below meth c D aC B H ls locs cells slots hX hK hP hS h1 h2 h3 h4 hl
  rw [pm_vi ha.pos]
  exact va_iald hX.1 hX.2.1 hK hP (q - 1) 0 (pm_arr0 ha) rfl hi hd (K p e s m args below meth c D aC B H ls locs cells slots hX hK hP hS h1 h2 h3 h4 hl)
theorem pm_zald {q : Nat} {i : Int32} (ha : pm_is S q 1) (hi : vp_in i (pm_len S q)) (hd : decode cc pc = .ok (.baload, 1)) (K : pm_E l y cc nL ret al d S0 r (pc + 1) lv (.int (σ.1 q i.toNatClampNeg) :: st) S σ) : pm_E l y cc nL ret al d S0 r pc lv (.int i :: .ref q :: st) S σ := by
  intro p e s m args below meth c D aC B H ls locs cells slots hX hK hP hS h1 h2 h3 h4 hl
  rw [pm_vi ha.pos]
  exact va_zald hX.1 hX.2.1 hK hP (q - 1) 1 (pm_arr1 ha) rfl hi hd (K p e s m args below meth c D aC B H ls locs cells slots hX hK hP hS h1 h2 h3 h4 hl)
theorem pm_iast {q : Nat} {i x : Int32} (ha : pm_is S q 0) (hi : vp_in i (pm_len S q)) (hd : decode cc pc = .ok (.iastore, 1)) (K : pm_E l y cc nL ret al d S0 r (pc + 1) lv st S (pm_si σ q i.toNatClampNeg x)) : pm_E l y cc nL ret al d S0 r pc lv (.int x :: .int i :: .ref q :: st) S σ := by
  intro p e s m args below meth c D aC B H ls locs cells slots hX hK hP hS h1 h2 h3 h4 hl
  rw [pm_vx ha.pos]
  have hD : va_D (pm_A al B S0.length) (pm_ws aC B S σ) := pm_D (fun z => by rw [(h1 z).1]; exact Nat.le_refl _)
  refine va_iast hX.1 hX.2.1 hK hP hD hS (q - 1) 0 (pm_arr0 ha) rfl hi hd (fun H1 locs1 hP1 _ hS1 => ?_)
  rw [show (pm_ws aC B S σ).set (q - 1) (B + q, .inl (aC 0, pm_len S q, .inl (upd (σ.1 q) i.toNatClampNeg x))) = pm_ws aC B S (pm_si σ q i.toNatClampNeg x) from pm_ws_set ha.at (by show (Sum.inl (aC 0, pm_len S q, Sum.inl ((pm_si σ q i.toNatClampNeg x).1 q)) : va_E) = _; simp [pm_si]) (fun a h => by simp [pm_si, h]) (fun _ _ => rfl)] at hP1
  exact K p e s m args below meth c D aC B H1 ls locs1 cells slots hX hK hP1 hS1 h1 h2 h3 h4 hl
theorem pm_zast {q : Nat} {i x : Int32} (ha : pm_is S q 1) (hi : vp_in i (pm_len S q)) (hx : x = 0 ∨ x = 1) (hd : decode cc pc = .ok (.bastore, 1)) (K : pm_E l y cc nL ret al d S0 r (pc + 1) lv st S (pm_si σ q i.toNatClampNeg x)) : pm_E l y cc nL ret al d S0 r pc lv (.int x :: .int i :: .ref q :: st) S σ := by
  intro p e s m args below meth c D aC B H ls locs cells slots hX hK hP hS h1 h2 h3 h4 hl
  rw [pm_vx ha.pos]
  have hD : va_D (pm_A al B S0.length) (pm_ws aC B S σ) := pm_D (fun z => by rw [(h1 z).1]; exact Nat.le_refl _)
  have hnx : vp_nar .boolean x = x := by rcases hx with rfl | rfl <;> rfl
  refine va_zast hX.1 hX.2.1 hK hP hD hS (q - 1) 1 (pm_arr1 ha) rfl hi hd (fun H1 locs1 hP1 _ hS1 => ?_)
  rw [hnx, show (pm_ws aC B S σ).set (q - 1) (B + q, .inl (aC 1, pm_len S q, .inl (upd (σ.1 q) i.toNatClampNeg x))) = pm_ws aC B S (pm_si σ q i.toNatClampNeg x) from pm_ws_set ha.at (by show (Sum.inl (aC 1, pm_len S q, Sum.inl ((pm_si σ q i.toNatClampNeg x).1 q)) : va_E) = _; simp [pm_si]) (fun a h => by simp [pm_si, h]) (fun _ _ => rfl)] at hP1
  exact K p e s m args below meth c D aC B H1 ls locs1 cells slots hX hK hP1 hS1 h1 h2 h3 h4 hl
theorem pm_aald {q : Nat} {i : Int32} (ha : pm_is S q 2) (hi : vp_in i (pm_len S q)) (hd : decode cc pc = .ok (.aaload, 1)) (K : pm_is S (σ.2 q i.toNatClampNeg) 11 → pm_E l y cc nL ret false d S0 r (pc + 1) lv (.ref (σ.2 q i.toNatClampNeg) :: st) S σ) : pm_E l y cc nL ret false d S0 r pc lv (.int i :: .ref q :: st) S σ := by
  intro p e s m args below meth c D aC B H ls locs cells slots hX hK hP hS h1 h2 h3 h4 hl
  rw [pm_vi ha.pos]
  have hi2 : i.toNatClampNeg < pm_len S q := Nat.not_le.mp fun z => hi (Or.inr z)
  have hk := K ((h1 rfl).2.2 q _ ha hi2) p e s m args below meth c D aC B H ls locs cells slots hX hK hP hS h1 h2 h3 h4 hl
  exact va_aldq hX.1 hX.2.1 hK hP (q - 1) 2 (pm_arr2 ha) rfl hi hd (by rw [pm_rf]; exact hk)
theorem pm_alen {q t : Nat} (ha : pm_is S q t) (ht : t < 3) (hd : decode cc pc = .ok (.arraylength, 1)) (K : pm_E l y cc nL ret al d S0 r (pc + 1) lv (.int (Int32.ofNat (pm_len S q)) :: st) S σ) : pm_E l y cc nL ret al d S0 r pc lv (.ref q :: st) S σ := by
  intro p e s m args below meth c D aC B H ls locs cells slots hX hK hP hS h1 h2 h3 h4 hl
  rw [pm_vr ha.pos]
  have hk := K p e s m args below meth c D aC B H ls locs cells slots hX hK hP hS h1 h2 h3 h4 hl
  rcases (show t = 0 ∨ t = 1 ∨ t = 2 by omega) with rfl | rfl | rfl
  · exact va_alen hX.1 hX.2.1 hK hP (q - 1) 0 (pm_arr0 ha) rfl rfl hd hk
  · exact va_alen hX.1 hX.2.1 hK hP (q - 1) 1 (pm_arr1 ha) rfl rfl hd hk
  · exact va_alen hX.1 hX.2.1 hK hP (q - 1) 2 (pm_arr2 ha) rfl rfl hd hk
end PMH
section PMC
variable {l : Launch} {y : MethodName} {cc : ByteArray} {nL : Nat} {ret : Option FieldType} {al : Bool} {d : Nat} {S0 : pm_S} {r : Option Value × pm_S × pm_H} {pc : Nat} {lv : List (Nat × Value)} {st : List Value} {S : pm_S} {σ : pm_H}
theorem pm_lv_args (B : Nat) (as : List Value) : ∀ i, lv_args i (as.map (pm_v B)) = (lv_args i as).map (fun q => (q.1, pm_v B q.2)) := by
  induction as with
  | nil => intro i; rfl
  | cons a t ih =>
    intro i
    simp only [List.map_cons, lv_args, pm_cat, ih]
theorem pm_lg_sl (B : Nat) (as : List Value) : (lg_sl (as.map (pm_v B))).length = (lg_sl as).length := by
  induction as with
  | nil => rfl
  | cons a t ih =>
    have h1 : ∀ (x : Value) (u : List Value), (lg_sl (x :: u)).length = (if x.category = 2 then 2 else 1) + (lg_sl u).length := by
      intro x u
      simp only [lg_sl, List.flatMap_cons, List.length_append]
      by_cases hx : x.category = 2 <;> simp [hx]
    rw [List.map_cons, h1, h1, pm_cat, ih]
theorem pm_M.of {as : List Value} (hy : plainName y.cls = true) (hn : (lg_sl as).length ≤ nL) (k : pm_E l y cc nL ret al d S r 0 (lv_args 0 as) [] S σ) : pm_M l y cc nL ret al d as S σ r := by
  intro D aC B
  refine Met.ofW (cc := cc) (maxL := nL) (ret := ret) hy rfl ?_
  intro p e s m args below meth c s₁ Bd hml hv
  obtain ⟨rfl, hP, hK, hT, hz, hN⟩ := hv
  have hts := atoms_spec (ws := Cond.code y cc nL ret :: lw_good) Bd.pre
  have hl := lv_entry (as.map (pm_v B)) (n := nL) (by rw [pm_lg_sl]; exact hn)
  rw [lg_entry_eq]
  generalize (lg_sl (as.map (pm_v B)) ++ List.replicate (nL - (lg_sl (as.map (pm_v B))).length) Slot.unset).toArray = ls at hl ⊢
  rw [pm_lv_args] at hl
  exact k p e s m _ below meth c D aC B s.heap ls [] 0 0 ⟨Bd.exec, Bd.bytes, hml, findClass_of_methodNamed Bd.named, fun w hw => hts w (List.mem_cons_of_mem _ hw), Bd.returns, Bd.notSynchronized, (name_of_methodNamed Bd.named Bd.method).1, hts _ List.mem_cons_self, hN⟩ hK hP va_S.rf (fun z => ⟨rfl, hT z⟩) hz (Nat.zero_add _) (Nat.zero_add _) hl
theorem pm_iret {v : Int32} (hr : ret = some .int) (hd : decode cc pc = .ok (.ireturn, 1)) (he : r = (some (.int v), S, σ)) : pm_E l y cc nL ret al d S0 r pc lv [.int v] S σ := by
  intro p e s m args below meth c D aC B H ls locs cells slots hX hK hP hS h1 h2 h3 h4 hl
  subst he
  have ec : cells = pm_mc S0 (some (Value.int v), S, σ) := by simp only [pm_mc]; omega
  have es : slots = pm_ms S0 (some (Value.int v), S, σ) := by simp only [pm_ms]; omega
  subst ec; subst es
  exact W.iret (v := v) hX.1 hX.2.1 (by rw [hX.2.2.2.2.2.1, hr]) (fun t ht _ => ⟨rfl, by rw [ht]; exact hP, fun z => (h1 z).2, hS.F ht⟩) hS.2.2 hd (hlocks := hX.2.2.2.2.2.2.1)
theorem pm_zret {v : Int32} (hr : ret = some .boolean) (hv : v = 0 ∨ v = 1) (hd : decode cc pc = .ok (.ireturn, 1)) (he : r = (some (.int v), S, σ)) : pm_E l y cc nL ret al d S0 r pc lv [.int v] S σ := by
  intro p e s m args below meth c D aC B H ls locs cells slots hX hK hP hS h1 h2 h3 h4 hl
  subst he
  have ec : cells = pm_mc S0 (some (Value.int v), S, σ) := by simp only [pm_mc]; omega
  have es : slots = pm_ms S0 (some (Value.int v), S, σ) := by simp only [pm_ms]; omega
  subst ec; subst es
  exact W.zret (v := v) (ty := .boolean) hX.1 hX.2.1 (by rw [hX.2.2.2.2.2.1, hr]) (pm_z_nar hv) (fun t ht _ => ⟨rfl, by rw [ht]; exact hP, fun z => (h1 z).2, hS.F ht⟩) hS.2.2 hd (hlocks := hX.2.2.2.2.2.2.1)
theorem pm_vret (hr : ret = none) (hd : decode cc pc = .ok (.return_, 1)) (he : r = (none, S, σ)) : pm_E l y cc nL ret al d S0 r pc lv [] S σ := by
  intro p e s m args below meth c D aC B H ls locs cells slots hX hK hP hS h1 h2 h3 h4 hl
  subst he
  have ec : cells = pm_mc S0 (none, S, σ) := by simp only [pm_mc]; omega
  have es : slots = pm_ms S0 (none, S, σ) := by simp only [pm_ms]; omega
  subst ec; subst es
  exact W.vret hX.1 hX.2.1 (by rw [hX.2.2.2.2.2.1, hr]) (fun t ht _ => ⟨rfl, by rw [ht]; exact hP, fun z => (h1 z).2, hS.F ht⟩) hS.2.2 hd (hlocks := hX.2.2.2.2.2.2.1)
/-! calls -/
theorem pm_size {D : va_G} {aC : Nat → ClassId} {A : Nat → Prop} {B : Nat} {H0 H : Heap} {locs : List Loc} {cells : Nat} (hP : va_P D vwCl (pm_ws aC B S σ) H) (hS : va_S A H0 H locs) (h2 : H0.size = B + S0.length + 1) (h3 : cells + S0.length = S.length) (hz : H.size ≤ H0.size + cells) : H.size = B + S.length + 1 := by
  have h5 := hS.1
  rcases Nat.eq_zero_or_pos S.length with h6 | h6
  · omega
  · obtain ⟨t, ht⟩ : ∃ t, S[S.length - 1]? = some t := ⟨S[S.length - 1], List.getElem?_eq_getElem (by omega)⟩
    have h7 := (hP (S.length - 1) (B + (S.length - 1 + 1), pm_e aC B σ (S.length - 1 + 1) t) (by rw [pm_ws_at, ht]; rfl)).lt
    simp only at h7
    omega
theorem pm_A_mono {B n n' : Nat} (h : al = false → n' ≤ n) : ∀ q, pm_A al B n' q → pm_A al B n q := fun q hq => ⟨hq.1, fun z => by have a := hq.2 z; have b := h z; omega⟩
theorem pm_blind {D : va_G} {aC : Nat → ClassId} {B : Nat} {av : List Value} : FrameBlind (va_Pc av (pm_P D aC B al S σ)) := by
  intro a U g mk ⟨e1, hP, hK, hT, hz, hN⟩
  exact ⟨e1, hP, va_K.moved (u := U) (U := U.calling g mk a) (Vm.Alike.refl U.vm) hK, hT, hz, pm_nest_same (u := U) (U := U.calling g mk a) rfl hN⟩
theorem pm_goodIn {w0 : Cond} (h : w0 ∈ lw_good) : GoodIn lw_good (w0 :: lw_good) := by
  intro w hw
  have hm : w ∈ lw_good := by rcases List.mem_cons.mp hw with rfl | h'; exact h; exact h'
  exact ⟨hm, good_of_word (List.mem_filter.mp hm).2⟩
/-- behind a call -/
theorem pm_run {r' : Option Value × pm_S × pm_H} {p : Program} {e : Env} {s : State} {m : MethodId} {args a' : Array Value} {below : List Frame} {meth : Method} {c : Code} {D : va_G} {aC : Nat → ClassId} {B : Nat} {H : Heap} {ls : Array Slot} {locs : List Loc} {cells slots : Nat} {st0 : List Value}
    (hX : pm_X p s m args meth c y cc nL ret) (hK : va_K D vwCl (pm_tys aC) s) (hS : va_S (pm_A al B S0.length) s.heap H locs) (h1 : al = false → S = S0 ∧ pm_T S σ.2) (h2 : al = true → s.heap.size = B + S0.length + 1) (h3 : cells + S0.length = S.length) (h4 : slots + pm_tot S0 = pm_tot S) (hl : lv_has ls nL (lv.map (fun q => (q.1, pm_v B q.2))))
    (hm : S.length ≤ r'.2.1.length ∧ pm_tot S ≤ pm_tot r'.2.1) (hS' : al = false → r'.2.1 = S)
    (hr : va_Run p l e (pm_rm d (pm_mc S0 r) (pm_ms S0 r)) s m args below meth c H locs cells slots (pm_mc S r') (pm_ms S r') (F0 m pc ls st0) (st.map (pm_v B)) (pm_Q D aC B r' al S.length a') (pm_A al B S.length))
    (K : pm_E l y cc nL ret al d S0 r (pc + 3) lv (r'.1.toList ++ st) r'.2.1 r'.2.2) :
    W p l e (pm_rm d (pm_mc S0 r) (pm_ms S0 r)) s m args below meth c H locs cells slots (MQ below (pm_Q D aC B r al S0.length) args s (pm_mc S0 r) (pm_ms S0 r) (pm_A al B S0.length)) (F0 m pc ls st0) := by
  intro T hT X
  obtain ⟨v, st₀, t, T', L, h0, X', hL, e1, e2, ⟨hv, hP1, hT1, hz, hk⟩, st1⟩ := hr T hT X
  have hAm : ∀ q, pm_A al B S.length q → pm_A al B S0.length q := pm_A_mono (fun z => by rw [(h1 z).1]; exact Nat.le_refl _)
  rw [h0] at hz hk
  have hS2 : va_S (pm_A al B S0.length) s.heap T'.heap (locs ++ L) := by
    refine ⟨Nat.le_trans hS.1 (by rw [e1]; exact hz), fun q g1 g2 => ?_, fun q hq => ?_⟩
    · rw [e1, hk q (Nat.lt_of_lt_of_le g1 hS.1) (fun z => g2 (hAm q z))]
      exact hS.2.1 q g1 g2
    · rcases List.mem_append.mp hq with h | h
      · exact hS.2.2 q h
      · exact hAm _ (hL q h)
  have hv' : v = r'.1.map (pm_v B) := Outcome.returned.inj hv
  obtain ⟨t2, a1, b1⟩ := K p e s m args below meth c D aC B T'.heap ls (locs ++ L) (cells + pm_mc S r') (slots + pm_ms S r') hX hK (by rw [e1]; exact hP1) hS2 (fun z => ⟨(hS' z).trans (h1 z).1, hT1 z⟩) h2 (by simp only [pm_mc]; omega) (by simp only [pm_ms]; omega) hl T' rfl X'
  refine ⟨t2, st1 t2 ?_, b1⟩
  rw [hv']
  have e3 : (Option.map (pm_v B) r'.1).toList ++ st.map (pm_v B) = (r'.1.toList ++ st).map (pm_v B) := by
    cases r'.1 <;> simp
  rw [e3]
  exact a1
def pm_LC (own : String) (idx : Nat) (y' : MethodName) (cc' : ByteArray) (nL' : Nat) (ret' : Option FieldType) (n : Nat) : Prop :=
  Cond.methodLink own idx y' ∈ lw_good ∧ Cond.initialized y'.cls ∈ lw_good ∧ Cond.code y' cc' nL' ret' ∈ lw_good ∧ (y'.cls ≠ "java/lang/invoke/MethodHandle" ∧ y'.cls ≠ "java/lang/invoke/VarHandle" ∧ (parseMethodDescriptor y'.desc).map (fun d => d.parameters.length) = some n) ∧ nL' ≤ 19
theorem pm_fix {p : Program} {s : State} {m : MethodId} {args : Array Value} {meth : Method} {c : Code} (hX : pm_X p s m args meth c y cc nL ret) : CallFix p m c cc nL s args lw_good y.cls := ⟨hX.1, hX.2.1, hX.2.2.1, hX.2.2.2.1, hX.2.2.2.2.1⟩
theorem pm_st8 {B : Nat} {m : MethodId} {ls : Array Slot} {st0 : List Value} (h : (st.map fun v => v.category).sum ≤ 8) : 2 * (F0 m pc ls st0).monitorRoom + ((st.map (pm_v B)).map fun v => v.category).sum ≤ 8 := by
  refine lv_room ?_
  rw [List.map_map]
  rw [show ((fun v : Value => v.category) ∘ pm_v B) = fun v => v.category from funext (fun v => pm_cat B v)]
  exact h
theorem pm_pre {D : va_G} {aC : Nat → ClassId} {B : Nat} {H : Heap} {s : State} {av : List Value} (hK : va_K D vwCl (pm_tys aC) s) (hP : va_P D vwCl (pm_ws aC B S σ) H) (hT : al = false → pm_T S σ.2) (hz : al = true → H.size = B + S.length + 1) (hN : ∀ w ∈ pm_nest, va_Nw w s) : ∀ U : State, U.heap = H → s.WarmedH U.vm → va_Pc av (pm_P D aC B al S σ) av.toArray U :=
  fun U hU hW => ⟨rfl, by rw [hU]; exact hP, va_K.moved hW.alike hK, hT, fun z => by rw [hU]; exact hz z, pm_nest_warm hW hN⟩
theorem pm_callV {idx q ci n d' nL' : Nat} {y' : MethodName} {cc' : ByteArray} {ret' : Option FieldType} {as st0 : List Value} {r' : Option Value × pm_S × pm_H} (hL : pm_LC y.cls idx y' cc' nL' ret' n) (hL2 : Cond.instanceMethod y' ∈ lw_good ∧ Cond.selects y'.cls y' y' ∈ lw_good) (hM : pm_M l y' cc' nL' ret' al d' (.ref q :: as) S σ r') (hd' : d' + 1 ≤ d) (hs : pm_is S q (ci + 3)) {C : String} {T : u_T} {N : Nat} (hC : vwCl[ci]? = some (C, T, N)) (hyC : y'.cls = C) (hst : st0 = as.reverse ++ .ref q :: st) (hn : as.length = n) (h8 : (st.map fun v => v.category).sum ≤ 8)
    (hm : S.length ≤ r'.2.1.length ∧ pm_tot S ≤ pm_tot r'.2.1) (hS' : al = false → r'.2.1 = S) (hroom : r'.2.1.length ≤ r.2.1.length ∧ pm_tot r'.2.1 ≤ pm_tot r.2.1) (hd : decode cc pc = .ok (.invokevirtual idx, 3)) (K : pm_E l y cc nL ret al d S0 r (pc + 3) lv (r'.1.toList ++ st) r'.2.1 r'.2.2) : pm_E l y cc nL ret al d S0 r pc lv st0 S σ := by
  intro p e s m args below meth c D aC B H ls locs cells slots hX hK hP hS h1 h2 h3 h4 hl
  refine fun T0 hT0 X0 => ?_
  have hz : al = true → H.size = B + S.length + 1 := fun z => pm_size hP hS (h2 z) h3 (by rw [← hT0]; exact X0.heapSize)
  subst hst
  have e0 : (as.reverse ++ Value.ref q :: st).map (pm_v B) = (as.map (pm_v B)).reverse ++ .ref (B + q) :: st.map (pm_v B) := by rw [List.map_append, pm_vr hs.pos, List.map_reverse]
  rw [e0]
  have cw : CallW (pm_rm d (pm_mc S0 r) (pm_ms S0 r)) s args y.cls C idx y' cc' nL' ret' (.code y' cc' nL' ret' :: lw_good) (pm_rm d' (pm_mc S r') (pm_ms S r')) (pm_mc S r') (pm_ms S r') n := by
    subst hyC
    refine ⟨callB_of n hX.2.2.2.2.1 (pm_goodIn hL.2.2.1) rfl rfl rfl (hX.2.2.2.2.1 _ hL.2.1) (hX.2.2.2.2.1 _ hL.1) hL.2.2.2.1 ⟨hd', ?_⟩, hX.2.2.2.2.1 _ hL2.1, hX.2.2.2.2.1 _ hL2.2⟩
    show 8 + (nL' + 11) + 38 * d' ≤ 38 * d
    have := hL.2.2.2.2
    omega
  have hM' := hM D aC B
  rw [pm_vr hs.pos] at hM'
  refine pm_run hX hK hS h1 h2 h3 h4 hl hm hS' (va_runV (As := as.map (pm_v B)) (pm_fix hX) hM' cw ⟨pm_blind, va_recv hK hP hC (pm_obj hs), pm_pre hK hP (fun z => (h1 z).2) hz hX.2.2.2.2.2.2.2.2.2⟩ rfl (by rw [List.length_map]; exact hn) hl.1 rfl (pm_st8 h8) hd ⟨?_, ?_⟩) K T0 hT0 X0
  · show cells + (r'.2.1.length - S.length) ≤ r.2.1.length - S0.length
    omega
  · show slots + (pm_tot r'.2.1 - pm_tot S) ≤ pm_tot r.2.1 - pm_tot S0
    omega
theorem pm_callS {idx n d' nL' : Nat} {y' : MethodName} {cc' : ByteArray} {ret' : Option FieldType} {as st0 : List Value} {r' : Option Value × pm_S × pm_H} (hL : pm_LC y.cls idx y' cc' nL' ret' n) (hL2 : Cond.static y' ∈ lw_good) (hM : pm_M l y' cc' nL' ret' al d' as S σ r') (hd' : d' + 1 ≤ d) (hst : st0 = as.reverse ++ st) (hn : as.length = n) (h8 : (st.map fun v => v.category).sum ≤ 8)
    (hm : S.length ≤ r'.2.1.length ∧ pm_tot S ≤ pm_tot r'.2.1) (hS' : al = false → r'.2.1 = S) (hroom : r'.2.1.length ≤ r.2.1.length ∧ pm_tot r'.2.1 ≤ pm_tot r.2.1) (hd : decode cc pc = .ok (.invokestatic idx, 3)) (K : pm_E l y cc nL ret al d S0 r (pc + 3) lv (r'.1.toList ++ st) r'.2.1 r'.2.2) : pm_E l y cc nL ret al d S0 r pc lv st0 S σ := by
  intro p e s m args below meth c D aC B H ls locs cells slots hX hK hP hS h1 h2 h3 h4 hl
  refine fun T0 hT0 X0 => ?_
  have hz : al = true → H.size = B + S.length + 1 := fun z => pm_size hP hS (h2 z) h3 (by rw [← hT0]; exact X0.heapSize)
  subst hst
  rw [List.map_append, List.map_reverse]
  have cw : CallB (pm_rm d (pm_mc S0 r) (pm_ms S0 r)) s args y.cls idx y' cc' nL' ret' (.code y' cc' nL' ret' :: lw_good) (pm_rm d' (pm_mc S r') (pm_ms S r')) (pm_mc S r') (pm_ms S r') n ∧ (Cond.static y').before args s = true := by
    refine ⟨callB_of n hX.2.2.2.2.1 (pm_goodIn hL.2.2.1) rfl rfl rfl (hX.2.2.2.2.1 _ hL.2.1) (hX.2.2.2.2.1 _ hL.1) hL.2.2.2.1 ⟨hd', ?_⟩, hX.2.2.2.2.1 _ hL2⟩
    show 8 + (nL' + 11) + 38 * d' ≤ 38 * d
    have := hL.2.2.2.2
    omega
  refine pm_run hX hK hS h1 h2 h3 h4 hl hm hS' (va_runS (As := as.map (pm_v B)) (pm_fix hX) (hM D aC B) cw ⟨pm_blind, pm_pre hK hP (fun z => (h1 z).2) hz hX.2.2.2.2.2.2.2.2.2⟩ rfl (by rw [List.length_map]; exact hn) hl.1 rfl (pm_st8 h8) hd ⟨?_, ?_⟩) K T0 hT0 X0
  · show cells + (r'.2.1.length - S.length) ≤ r.2.1.length - S0.length
    omega
  · show slots + (pm_tot r'.2.1 - pm_tot S) ≤ pm_tot r.2.1 - pm_tot S0
    omega
/-- the same, of a nest mate's private static method -/
theorem pm_callSN {idx n d' nL' : Nat} {host : String} {y' : MethodName} {cc' : ByteArray} {ret' : Option FieldType} {as st0 : List Value} {r' : Option Value × pm_S × pm_H} (hN : Cond.methodLinkNest y.cls idx y' host ∈ pm_nest) (hL : Cond.initialized y'.cls ∈ lw_good ∧ Cond.code y' cc' nL' ret' ∈ lw_good ∧ (y'.cls ≠ "java/lang/invoke/MethodHandle" ∧ y'.cls ≠ "java/lang/invoke/VarHandle" ∧ (parseMethodDescriptor y'.desc).map (fun d => d.parameters.length) = some n) ∧ nL' ≤ 19) (hL2 : Cond.static y' ∈ lw_good) (hM : pm_M l y' cc' nL' ret' al d' as S σ r') (hd' : d' + 1 ≤ d) (hst : st0 = as.reverse ++ st) (hn : as.length = n) (h8 : (st.map fun v => v.category).sum ≤ 8)
    (hm : S.length ≤ r'.2.1.length ∧ pm_tot S ≤ pm_tot r'.2.1) (hS' : al = false → r'.2.1 = S) (hroom : r'.2.1.length ≤ r.2.1.length ∧ pm_tot r'.2.1 ≤ pm_tot r.2.1) (hd : decode cc pc = .ok (.invokestatic idx, 3)) (K : pm_E l y cc nL ret al d S0 r (pc + 3) lv (r'.1.toList ++ st) r'.2.1 r'.2.2) : pm_E l y cc nL ret al d S0 r pc lv st0 S σ := by
  intro p e s m args below meth c D aC B H ls locs cells slots hX hK hP hS h1 h2 h3 h4 hl
  refine fun T0 hT0 X0 => ?_
  have hz : al = true → H.size = B + S.length + 1 := fun z => pm_size hP hS (h2 z) h3 (by rw [← hT0]; exact X0.heapSize)
  subst hst
  rw [List.map_append, List.map_reverse]
  have cw : va_CN (pm_rm d (pm_mc S0 r) (pm_ms S0 r)) s args y.cls idx y' host cc' nL' ret' (.code y' cc' nL' ret' :: lw_good) (pm_rm d' (pm_mc S r') (pm_ms S r')) (pm_mc S r') (pm_ms S r') n ∧ (Cond.static y').before args s = true ∧ True := by
    refine ⟨va_cnB n hX.2.2.2.2.1 (pm_goodIn hL.2.1) rfl rfl rfl (hX.2.2.2.2.2.2.2.2.2 _ hN) (hX.2.2.2.2.1 _ hL.1) hL.2.2.1 ⟨hd', ?_⟩, hX.2.2.2.2.1 _ hL2, trivial⟩
    show 8 + (nL' + 11) + 38 * d' ≤ 38 * d
    have := hL.2.2.2
    omega
  refine pm_run hX hK hS h1 h2 h3 h4 hl hm hS' (va_runSN (As := as.map (pm_v B)) (pm_fix hX) (hM D aC B) cw ⟨pm_blind, pm_pre hK hP (fun z => (h1 z).2) hz hX.2.2.2.2.2.2.2.2.2⟩ rfl (by rw [List.length_map]; exact hn) hl.1 rfl (pm_st8 h8) hd ⟨?_, ?_⟩) K T0 hT0 X0
  · show cells + (r'.2.1.length - S.length) ≤ r.2.1.length - S0.length
    omega
  · show slots + (pm_tot r'.2.1 - pm_tot S) ≤ pm_tot r.2.1 - pm_tot S0
    omega
theorem pm_callI {idx q n d' nL' : Nat} {y' : MethodName} {cc' : ByteArray} {as st0 : List Value} {r' : Option Value × pm_S × pm_H} (hL : pm_LC y.cls idx y' cc' nL' none n) (hL2 : Cond.instanceMethod y' ∈ lw_good ∧ y'.name = "<init>") (hM : pm_M l y' cc' nL' none al d' (.ref q :: as) S σ r') (hd' : d' + 1 ≤ d) (hq : 0 < q) (hst : st0 = as.reverse ++ .ref q :: st) (hn : as.length = n) (h8 : (st.map fun v => v.category).sum ≤ 8)
    (hm : S.length ≤ r'.2.1.length ∧ pm_tot S ≤ pm_tot r'.2.1) (hS' : al = false → r'.2.1 = S) (hroom : r'.2.1.length ≤ r.2.1.length ∧ pm_tot r'.2.1 ≤ pm_tot r.2.1) (hd : decode cc pc = .ok (.invokespecial idx, 3)) (K : pm_E l y cc nL ret al d S0 r (pc + 3) lv (r'.1.toList ++ st) r'.2.1 r'.2.2) : pm_E l y cc nL ret al d S0 r pc lv st0 S σ := by
  intro p e s m args below meth c D aC B H ls locs cells slots hX hK hP hS h1 h2 h3 h4 hl
  refine fun T0 hT0 X0 => ?_
  have hz : al = true → H.size = B + S.length + 1 := fun z => pm_size hP hS (h2 z) h3 (by rw [← hT0]; exact X0.heapSize)
  subst hst
  have e0 : (as.reverse ++ Value.ref q :: st).map (pm_v B) = (as.map (pm_v B)).reverse ++ .ref (B + q) :: st.map (pm_v B) := by rw [List.map_append, pm_vr hq, List.map_reverse]
  rw [e0]
  have cw : CallB (pm_rm d (pm_mc S0 r) (pm_ms S0 r)) s args y.cls idx y' cc' nL' none (.code y' cc' nL' none :: lw_good) (pm_rm d' (pm_mc S r') (pm_ms S r')) (pm_mc S r') (pm_ms S r') n ∧ y'.name = "<init>" ∧ (Cond.instanceMethod y').before args s = true := by
    refine ⟨callB_of n hX.2.2.2.2.1 (pm_goodIn hL.2.2.1) rfl rfl rfl (hX.2.2.2.2.1 _ hL.2.1) (hX.2.2.2.2.1 _ hL.1) hL.2.2.2.1 ⟨hd', ?_⟩, hL2.2, hX.2.2.2.2.1 _ hL2.1⟩
    show 8 + (nL' + 11) + 38 * d' ≤ 38 * d
    have := hL.2.2.2.2
    omega
  have hM' := hM D aC B
  rw [pm_vr hq] at hM'
  refine pm_run hX hK hS h1 h2 h3 h4 hl hm hS' (va_runI (As := as.map (pm_v B)) (pm_fix hX) hM' cw ⟨pm_blind, pm_pre hK hP (fun z => (h1 z).2) hz hX.2.2.2.2.2.2.2.2.2⟩ rfl (by rw [List.length_map]; exact hn) hl.1 rfl (pm_st8 h8) hd ⟨?_, ?_⟩) K T0 hT0 X0
  · show cells + (r'.2.1.length - S.length) ≤ r.2.1.length - S0.length
    omega
  · show slots + (pm_tot r'.2.1 - pm_tot S) ≤ pm_tot r.2.1 - pm_tot S0
    omega
theorem pm_objInit {idx q : Nat} (hL : Cond.methodLink y.cls idx objectInit ∈ lw_good ∧ Cond.instanceMethod objectInit ∈ lw_good ∧ Cond.code objectInit ⟨#[0xb1]⟩ 1 none ∈ lw_good) (hq : 0 < q) (h8 : (st.map fun v => v.category).sum ≤ 8) (hdp : 1 ≤ d) (hd : decode cc pc = .ok (.invokespecial idx, 3)) (K : pm_E l y cc nL ret al d S0 r (pc + 3) lv st S σ) : pm_E l y cc nL ret al d S0 r pc lv (.ref q :: st) S σ := by
  intro p e s m args below meth c D aC B H ls locs cells slots hX hK hP hS h1 h2 h3 h4 hl
  rw [pm_vr hq]
  refine W.objInit hX.1 hX.2.1 hX.2.2.2.1 (hX.2.2.2.2.1 _ hL.1) (hX.2.2.2.2.1 _ hL.2.1) (hX.2.2.2.2.1 _ hL.2.2) rfl (by rw [hX.2.2.1]; exact hl.1) rfl hd hdp ?_ (K p e s m args below meth c D aC B H ls locs cells slots hX hK hP hS h1 h2 h3 h4 hl)
  have h9 := pm_st8 (pc := pc) (B := B) (m := m) (ls := ls) (st0 := .ref (B + q) :: st.map (pm_v B)) h8
  show _ ≤ 38 * d
  omega
end PMC
section PMN
variable {l : Launch} {y : MethodName} {cc : ByteArray} {nL : Nat} {ret : Option FieldType} {al : Bool} {d : Nat} {S0 : pm_S} {r : Option Value × pm_S × pm_H} {pc : Nat} {lv : List (Nat × Value)} {st : List Value} {S : pm_S} {σ : pm_H}
theorem pm_Wz {p : Program} {e : Env} {R : Room} {s : State} {m : MethodId} {args : Array Value} {below : List Frame} {meth : Method} {c : Code} {H : Heap} {locs : List Loc} {cells slots : Nat} {Q : State → Prop} {g : JFrame} (h : H.size ≤ s.heap.size + cells → W p l e R s m args below meth c H locs cells slots Q g) : W p l e R s m args below meth c H locs cells slots Q g := fun T hT X => h (by rw [← hT]; exact X.heapSize) T hT X
theorem pm_v_new {B n : Nat} : (Value.ref (n + 1) :: st).map (pm_v B) = .ref (B + n + 1) :: st.map (pm_v B) := by rw [pm_vr (Nat.succ_pos _)]; rfl
theorem pm_push {D : va_G} {aC : Nat → ClassId} {B : Nat} {H H1 : Heap} {t : Nat × Nat} (hP : va_P D vwCl (pm_ws aC B S σ) H) (o1 : ∀ q, q < H.size → H1[q]? = H[q]?) (hn : va_at D vwCl (B + S.length + 1, pm_e aC B σ (S.length + 1) t) H1) : va_P D vwCl (pm_ws aC B (S ++ [t]) σ) H1 := by
  rw [pm_ws_push]
  refine (hP.kept (fun k x hx => o1 x.1 (hP k x hx).lt)).app (fun k x hx => ?_)
  have hz : k < 1 := (List.getElem?_eq_some_iff.mp hx).1
  rw [show k = 0 by omega] at hx
  cases hx
  exact hn
theorem pm_S_push {A : Nat → Prop} {H0 H H1 : Heap} {locs : List Loc} {h : Nat} (hS : va_S A H0 H locs) (hh : H.size = h) (z1 : H1.size = h + 1) (o1 : ∀ q, q < h → H1[q]? = H[q]?) : va_S A H0 H1 locs :=
  ⟨Nat.le_trans hS.1 (by omega), fun x g1 g2 => (o1 x (by rw [← hh]; exact Nat.lt_of_lt_of_le g1 hS.1)).trans (hS.2.1 x g1 g2), hS.2.2⟩
theorem pm_new {ci idx N : Nat} {C : String} {T : u_T} {ty : Nat → FieldType} (hC : pm_CL ci C T N ty) (hL : Cond.classLink y.cls idx C ∈ lw_good ∧ Cond.instantiable C N ∈ lw_good ∧ Cond.initialized C ∈ lw_good) (h0 : ∀ j, σ.1 (S.length + 1) j = 0 ∧ σ.2 (S.length + 1) j = 0) (hdv : ∀ j, j < N → defaultValue (ty j) = if (pm_ft ci j).isSome then .null else .int 0)
    (hroom : S.length + 1 ≤ r.2.1.length ∧ pm_tot S + N ≤ pm_tot r.2.1) (hd : decode cc pc = .ok (.new idx, 3)) (K : pm_E l y cc nL ret true d S0 r (pc + 3) lv (.ref (S.length + 1) :: st) (S ++ [(ci + 3, N)]) σ) : pm_E l y cc nL ret true d S0 r pc lv st S σ := by
  intro p e s m args below meth c D aC B H ls locs cells slots hX hK hP hS h1 h2 h3 h4 hl
  refine pm_Wz (fun hz0 => ?_)
  have hz : H.size = B + S.length + 1 := pm_size hP hS (h2 rfl) h3 hz0
  have hKn := hK.1 ci _ hC.1
  refine W.newcK hX.1 hX.2.1 hX.2.2.2.1 (hX.2.2.2.2.1 _ hL.1) (hX.2.2.2.2.1 _ hL.2.1) (hX.2.2.2.2.1 _ hL.2.2) rfl hd ?_ ?_ hKn.2.1 hz (fun H1 kC hkC e1 z1 o1 => ?_)
  · show cells + 1 ≤ r.2.1.length - S0.length
    omega
  · show slots + N ≤ pm_tot r.2.1 - pm_tot S0
    omega
  · have hk := K p e s m args below meth c D aC B H1 ls locs (cells + 1) (slots + N) hX hK (pm_push hP (by rw [hz]; exact o1) ?_) (pm_S_push hS hz z1 o1) (fun z => by cases z) h2 (by simp only [List.length_append, List.length_cons, List.length_nil]; omega) (by rw [pm_tot_app]; simp only [pm_tot]; omega) hl
    · rw [pm_v_new] at hk
      exact hk
    · refine ⟨_, hC.1, (u_born ty hX.2.2.2.2.1 hC.2.1 hKn hkC e1 hC.2.2.1).to ?_⟩
      intro j hj
      rw [hdv j hj]
      show _ = ((List.range (pm_fn ci)).map (pm_fv B σ (S.length + 1) ci)).getD j .null
      have hj' : j < pm_fn ci := by rw [hC.2.2.2.2]; exact hj
      rw [List.getD_eq_getElem?_getD, pm_fs_get hj']
      simp only [pm_fv, (h0 j).1, (h0 j).2, Option.getD_some]
      rfl
theorem pm_newa {t N : Nat} {atype : ArrayType} {n : Int32} (ht : (atype = .int ∧ t = 0) ∨ (atype = .boolean ∧ t = 1)) (harr : Cond.arrayClass (newarray.typeOf atype) ∈ lw_good) (h0 : ∀ j, σ.1 (S.length + 1) j = 0) (hn : n = Int32.ofNat N) (hN : N ≤ 10000)
    (hroom : S.length + 1 ≤ r.2.1.length ∧ pm_tot S + N ≤ pm_tot r.2.1) (hd : decode cc pc = .ok (.newarray atype, 2)) (K : pm_E l y cc nL ret true d S0 r (pc + 2) lv (.ref (S.length + 1) :: st) (S ++ [(t, N)]) σ) : pm_E l y cc nL ret true d S0 r pc lv (.int n :: st) S σ := by
  intro p e s m args below meth c D aC B H ls locs cells slots hX hK hP hS h1 h2 h3 h4 hl
  refine pm_Wz (fun hz0 => ?_)
  have hz : H.size = B + S.length + 1 := pm_size hP hS (h2 rfl) h3 hz0
  have hc : n.toNatClampNeg = N := by rw [hn]; exact nI_clamp (by omega)
  have hn0 : ¬ n < 0 := by rw [hn]; exact nI_pos (by omega)
  refine va_newaK hX.1 hX.2.1 (hX.2.2.2.2.1 _ harr) rfl hd (N := N) rfl hn0 hc ?_ ?_ ?_ hz (fun H1 cA e1 z1 o1 hAr hNm => ?_)
  · rcases ht with ⟨rfl, rfl⟩ | ⟨rfl, rfl⟩
    · show N * 4 ≤ 536870912
      omega
    · show N * 1 ≤ 536870912
      omega
  · show cells + 1 ≤ r.2.1.length - S0.length
    omega
  · show slots + N ≤ pm_tot r.2.1 - pm_tot S0
    omega
  · have hk := K p e s m args below meth c D aC B H1 ls locs (cells + 1) (slots + N) hX hK (pm_push hP (by rw [hz]; exact o1) ?_) (pm_S_push hS hz z1 o1) (fun z => by cases z) h2 (by simp only [List.length_append, List.length_cons, List.length_nil]; omega) (by rw [pm_tot_app]; simp only [pm_tot]; omega) hl
    · rw [pm_v_new] at hk
      exact hk
    · have hrow : σ.1 (S.length + 1) = fun _ => 0 := funext h0
      rcases ht with ⟨rfl, rfl⟩ | ⟨rfl, rfl⟩
      · have hcA : cA = aC 0 := Option.some.inj (hNm.symm.trans (hK.2 0 _ rfl).2)
        subst hcA
        show H1[B + S.length + 1]? = some (arrV (aC 0) N (fun j => .int (σ.1 (S.length + 1) j)))
        rw [e1, hrow]
        rfl
      · have hcA : cA = aC 1 := Option.some.inj (hNm.symm.trans (hK.2 1 _ rfl).2)
        subst hcA
        show H1[B + S.length + 1]? = some (arrV (aC 1) N (fun j => .int (σ.1 (S.length + 1) j)))
        rw [e1, hrow]
        rfl
theorem pm_anew {N idx : Nat} {n : Int32} (hL : Cond.classLink y.cls idx "RulerFoot$Standing" ∈ lw_good) (h0 : ∀ j, σ.2 (S.length + 1) j = 0) (hn : n = Int32.ofNat N) (hN : N ≤ 10000)
    (hroom : S.length + 1 ≤ r.2.1.length ∧ pm_tot S + N ≤ pm_tot r.2.1) (hd : decode cc pc = .ok (.anewarray idx, 3)) (K : pm_E l y cc nL ret true d S0 r (pc + 3) lv (.ref (S.length + 1) :: st) (S ++ [(2, N)]) σ) : pm_E l y cc nL ret true d S0 r pc lv (.int n :: st) S σ := by
  intro p e s m args below meth c D aC B H ls locs cells slots hX hK hP hS h1 h2 h3 h4 hl
  refine pm_Wz (fun hz0 => ?_)
  have hz : H.size = B + S.length + 1 := pm_size hP hS (h2 rfl) h3 hz0
  have hc : n.toNatClampNeg = N := by rw [hn]; exact nI_clamp (by omega)
  have hn0 : ¬ n < 0 := by rw [hn]; exact nI_pos (by omega)
  have hover : va_AO "RulerFoot$Standing" s := hX.2.2.2.2.2.2.2.2.2 _ (by decide)
  refine W.anew hX.1 hX.2.1 hX.2.2.2.1 (hX.2.2.2.2.1 _ hL) (va_AO.use hover) rfl hd rfl hn0 (by rw [hc]; omega) ?_ ?_ (fun cA kA comp f1 f2 f3 f4 => ?_)
  · show cells + 1 ≤ r.2.1.length - S0.length
    omega
  · show slots + n.toNatClampNeg ≤ pm_tot r.2.1 - pm_tot S0
    omega
  · generalize hH1 : H.push ({ cls := cA, slots := Array.replicate n.toNatClampNeg .null, vm := .none } : Cell) = H1
    have z1 : H1.size = B + S.length + 1 + 1 := by rw [← hH1, Array.size_push, hz]
    have e1 : H1[B + S.length + 1]? = some (arrV cA N (fun _ => .null)) := by rw [← hH1, ← hz, Array.getElem?_push_size, ← arrV_new, hc]
    have o1 : ∀ q : Nat, q < B + S.length + 1 → H1[q]? = H[q]? := fun q hq => by rw [← hH1, Array.getElem?_push, if_neg (by omega)]
    have hk := K p e s m args below meth c D aC B H1 ls locs (cells + 1) (slots + N) hX hK (pm_push hP (by rw [hz]; exact o1) ?_) (pm_S_push hS hz z1 o1) (fun z => by cases z) h2 (by simp only [List.length_append, List.length_cons, List.length_nil]; omega) (by rw [pm_tot_app]; simp only [pm_tot]; omega) hl
    · rw [pm_v_new] at hk
      rw [hc, hz]
      exact hk
    · obtain ⟨-, -, -, -, -, hcn⟩ := (hK.2 2 _ rfl).2
      have hcA : cA = aC 2 := Option.some.inj (f1.symm.trans hcn)
      subst hcA
      show H1[B + S.length + 1]? = some (arrV (aC 2) N (fun j => va_rf (pm_ro B (σ.2 (S.length + 1) j))))
      rw [e1]
      congr 2
      funext j
      rw [h0 j]
      rfl
theorem pm_aast {q x : Nat} {i : Int32} (ha : pm_is S q 2) (hx : pm_is S x 11) (hi : vp_in i (pm_len S q)) (hd : decode cc pc = .ok (.aastore, 1)) (K : pm_E l y cc nL ret true d S0 r (pc + 1) lv st S (pm_sr σ q i.toNatClampNeg x)) : pm_E l y cc nL ret true d S0 r pc lv (.ref x :: .int i :: .ref q :: st) S σ := by
  intro p e s m args below meth c D aC B H ls locs cells slots hX hK hP hS h1 h2 h3 h4 hl
  have e0 : (Value.ref x :: .int i :: .ref q :: st).map (pm_v B) = .ref (B + x) :: .int i :: .ref (B + q) :: st.map (pm_v B) := by rw [pm_vr hx.pos, pm_vi ha.pos]
  rw [e0]
  have hD : va_D (pm_A true B S0.length) (pm_ws aC B S σ) := pm_D (fun z => by cases z)
  refine va_astq hX.1 hX.2.1 hK hP hD hS (q - 1) 2 (x - 1) 8 (r := (RX8, TX8, 4)) (pm_arr2 ha) rfl (pm_obj (ci := 8) hx) rfl hi hd (fun H1 locs1 hP1 _ hS1 => ?_)
  rw [show (pm_ws aC B S σ).set (q - 1) (B + q, .inl (aC 2, pm_len S q, .inr (.inr (.inr (.inr (va_up (fun j => pm_ro B (σ.2 q j)) i.toNatClampNeg (some (B + x)))))))) = pm_ws aC B S (pm_sr σ q i.toNatClampNeg x) from pm_ws_set ha.at (by
      show (Sum.inl (aC 2, pm_len S q, Sum.inr (Sum.inr (Sum.inr (Sum.inr (fun j => pm_ro B ((pm_sr σ q i.toNatClampNeg x).2 q j)))))) : va_E) = _
      have e5 : (fun j => pm_ro B ((pm_sr σ q i.toNatClampNeg x).2 q j)) = va_up (fun j => pm_ro B (σ.2 q j)) i.toNatClampNeg (some (B + x)) := by
        funext j
        rw [pm_sr_2]
        by_cases hj : j = i.toNatClampNeg
        · simp [hj, va_up, pm_ro_pos hx.pos]
        · simp [hj, va_up]
      rw [e5]) (fun _ _ => rfl) (fun a h => by simp [pm_sr, h])] at hP1
  exact K p e s m args below meth c D aC B H1 ls locs1 cells slots hX hK hP1 hS1 (fun z => by cases z) h2 h3 h4 hl
theorem pm_copy {q0 q1 idx : Nat} {sp dp n : Int32} (hL : Cond.methodLink y.cls idx arraycopyName ∈ lw_good ∧ Cond.native arraycopyName ∈ lw_good ∧ Cond.static arraycopyName ∈ lw_good ∧ Cond.initialized "java/lang/System" ∈ lw_good) (ha0 : pm_is S q0 0) (ha1 : pm_is S q1 0) (g1 : ¬ sp < 0) (g2 : ¬ dp < 0) (g3 : ¬ n < 0) (g4 : sp.toNatClampNeg + n.toNatClampNeg ≤ pm_len S q0) (g5 : dp.toNatClampNeg + n.toNatClampNeg ≤ pm_len S q1) (h8 : (st.map fun v => v.category).sum ≤ 8) (hdp : 1 ≤ d)
    (hd : decode cc pc = .ok (.invokestatic idx, 3)) (K : pm_E l y cc nL ret al d S0 r (pc + 3) lv st S (pm_sa σ q1 (va_cpy (σ.1 q0) (σ.1 q1) sp.toNatClampNeg dp.toNatClampNeg n.toNatClampNeg))) : pm_E l y cc nL ret al d S0 r pc lv (.int n :: .int dp :: .ref q1 :: .int sp :: .ref q0 :: st) S σ := by
  intro p e s m args below meth c D aC B H ls locs cells slots hX hK hP hS h1 h2 h3 h4 hl
  have e0 : (Value.int n :: .int dp :: .ref q1 :: .int sp :: .ref q0 :: st).map (pm_v B) = .int n :: .int dp :: .ref (B + q1) :: .int sp :: .ref (B + q0) :: st.map (pm_v B) := by
    rw [pm_vx ha1.pos, pm_vi ha0.pos]
  rw [e0]
  have hD : va_D (pm_A al B S0.length) (pm_ws aC B S σ) := pm_D (fun z => by rw [(h1 z).1]; exact Nat.le_refl _)
  have h9 : ((st.map (pm_v B)).map fun v => v.category).sum ≤ 8 := by
    rw [List.map_map, show ((fun v : Value => v.category) ∘ pm_v B) = fun v => v.category from funext (fun v => pm_cat B v)]
    exact h8
  refine va_copyi hX.1 hX.2.1 (by rw [hX.2.2.1]; exact hl.1.symm) hX.2.2.2.1 (hX.2.2.2.2.1 _ hL.1) (hX.2.2.2.2.1 _ hL.2.1) (hX.2.2.2.2.1 _ hL.2.2.1) (hX.2.2.2.2.1 _ hL.2.2.2) hK hP hD hS (q0 - 1) (q1 - 1) 0 0 (pm_arr0 ha0) (pm_arr0 ha1) rfl rfl rfl g1 g2 g3 g4 g5 (fun _ _ => rfl) hdp ?_ hd (fun H1 locs1 hP1 _ hS1 => ?_)
  · have hw : nativeFrameWords "java/lang/System" "arraycopy" 5 + 11 ≤ 30 := by decide +kernel
    show _ ≤ 38 * d
    omega
  · rw [show (pm_ws aC B S σ).set (q1 - 1) (B + q1, .inl (aC 0, pm_len S q1, .inl (va_cpy (σ.1 q0) (σ.1 q1) sp.toNatClampNeg dp.toNatClampNeg n.toNatClampNeg))) = pm_ws aC B S (pm_sa σ q1 (va_cpy (σ.1 q0) (σ.1 q1) sp.toNatClampNeg dp.toNatClampNeg n.toNatClampNeg)) from pm_ws_set ha1.at (by
        show (Sum.inl (aC 0, pm_len S q1, Sum.inl ((pm_sa σ q1 _).1 q1)) : va_E) = _
        simp [pm_sa]) (fun a h => by simp [pm_sa, h]) (fun _ _ => rfl)] at hP1
    exact K p e s m args below meth c D aC B H1 ls locs1 cells slots hX hK hP1 hS1 h1 h2 h3 h4 hl
end PMN
theorem pm_cl0 : pm_CL 0 RX0 TX0 3 tyX0 := ⟨rfl, by decide +kernel, tyX0_ok, nmX0, rfl⟩
theorem pm_cl1 : pm_CL 1 RX1 TX1 2 tyX1 := ⟨rfl, by decide +kernel, tyX1_ok, nmX1, rfl⟩
theorem pm_cl2 : pm_CL 2 RX2 TX2 5 tyX2 := ⟨rfl, by decide +kernel, tyX2_ok, nmX2, rfl⟩
theorem pm_cl3 : pm_CL 3 RX3 TX3 3 tyX3 := ⟨rfl, by decide +kernel, tyX3_ok, nmX3, rfl⟩
theorem pm_cl4 : pm_CL 4 RX4 TX4 3 tyX4 := ⟨rfl, by decide +kernel, tyX4_ok, nmX4, rfl⟩
theorem pm_cl5 : pm_CL 5 RX5 TX5 6 tyX5 := ⟨rfl, by decide +kernel, tyX5_ok, nmX5, rfl⟩
theorem pm_cl6 : pm_CL 6 RX6 TX6 4 tyX6 := ⟨rfl, by decide +kernel, tyX6_ok, nmX6, rfl⟩
theorem pm_cl7 : pm_CL 7 RX7 TX7 6 tyX7 := ⟨rfl, by decide +kernel, tyX7_ok, nmX7, rfl⟩
theorem pm_cl8 : pm_CL 8 RX8 TX8 4 tyX8 := ⟨rfl, by decide +kernel, tyX8_ok, nmX8, rfl⟩
theorem pm_cl9 : pm_CL 9 RX9 TX9 11 tyX9 := ⟨rfl, by decide +kernel, tyX9_ok, nmX9, rfl⟩
theorem pm_cl10 : pm_CL 10 RX10 TX10 5 tyX10 := ⟨rfl, by decide +kernel, tyX10_ok, nmX10, rfl⟩
theorem pm_cl11 : pm_CL 11 RX11 TX11 17 tyX11 := ⟨rfl, by decide +kernel, tyX11_ok, nmX11, rfl⟩
theorem pm_cl12 : pm_CL 12 RX12 TX12 43 tyX12 := ⟨rfl, by decide +kernel, tyX12_ok, nmX12, rfl⟩
