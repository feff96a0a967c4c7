/-! making: the worlds that constructors make -/
def pm_Z (S : pm_S) (σ : pm_H) : Prop := ∀ k, S.length < k → ∀ j, σ.1 k j = 0 ∧ σ.2 k j = 0
theorem pm_Z.app {S : pm_S} {σ : pm_H} (h : pm_Z S σ) (e : pm_S) : pm_Z (S ++ e) σ := fun k hk => h k (by rw [List.length_append] at hk; omega)
theorem pm_Z.sr {S : pm_S} {σ : pm_H} (h : pm_Z S σ) {q k r : Nat} (hq : q ≤ S.length) : pm_Z S (pm_sr σ q k r) := fun a ha j => by
  rw [pm_sr_1, pm_sr_2, if_neg (by omega)]; exact h a ha j
theorem pm_Z.si {S : pm_S} {σ : pm_H} (h : pm_Z S σ) {q k : Nat} {x : Int32} (hq : q ≤ S.length) : pm_Z S (pm_si σ q k x) := fun a ha j => by
  rw [pm_si_1, pm_si_2, if_neg (by omega)]; exact h a ha j
theorem pm_is.app {S : pm_S} {q t : Nat} (h : pm_is S q t) (e : pm_S) : pm_is (S ++ e) q t := ⟨_, pm_sh_app h.at⟩
theorem pm_is.le {S : pm_S} {q t : Nat} (h : pm_is S q t) : q ≤ S.length := pm_sh_le h.at
theorem pm_is_new {S e : pm_S} {q t n : Nat} (k : Nat) (hq : q = S.length + (k + 1)) (h : e[k]? = some (t, n)) : pm_is (S ++ e) q t := by
  refine ⟨n, ?_⟩
  subst hq
  show (S ++ e)[S.length + k]? = _
  rw [List.getElem?_append_right (by omega), show S.length + k - S.length = k by omega]
  exact h
theorem pm_len_new {S e : pm_S} {q t n : Nat} (k : Nat) (hq : q = S.length + (k + 1)) (h : e[k]? = some (t, n)) : pm_len (S ++ e) q = n := by
  subst hq
  show (match (S ++ e)[S.length + k]? with | some t => t.2 | none => 0) = n
  rw [List.getElem?_append_right (by omega), show S.length + k - S.length = k by omega, h]
section PMI
variable {l : Launch} {y : MethodName} {cc : ByteArray} {nL : Nat} {ret : Option FieldType} {al : Bool} {d : Nat} {S0 : pm_S} {r : Option Value × pm_S × pm_H} {pc : Nat} {lv : List (Nat × Value)} {st : List Value} {S : pm_S} {σ : pm_H}
theorem pm_new' {ci idx N q : Nat} {C : String} {T : u_T} {ty : Nat → FieldType} {S' : pm_S} (hC : pm_CL ci C T N ty) (hL : Cond.classLink y.cls idx C ∈ lw_good ∧ Cond.instantiable C N ∈ lw_good ∧ Cond.initialized C ∈ lw_good) (hz : pm_Z S σ) (hdv : ∀ j, j < N → defaultValue (ty j) = if (pm_ft ci j).isSome then .null else .int 0) (hq : S.length + 1 = q) (hS' : S ++ [(ci + 3, N)] = S')
    (hroom : S'.length ≤ r.2.1.length ∧ pm_tot S' ≤ pm_tot r.2.1) (hd : decode cc pc = .ok (.new idx, 3)) (K : pm_E l y cc nL ret true d S0 r (pc + 3) lv (.ref q :: st) S' σ) : pm_E l y cc nL ret true d S0 r pc lv st S σ := by
  subst hq; subst hS'
  rw [List.length_append, pm_tot_app] at hroom
  simp only [List.length_cons, List.length_nil, pm_tot] at hroom
  exact pm_new hC hL (hz _ (Nat.lt_succ_self _)) hdv ⟨by omega, by omega⟩ hd K
theorem pm_newa' {t N q : Nat} {atype : ArrayType} {n : Int32} {S' : pm_S} (ht : (atype = .int ∧ t = 0) ∨ (atype = .boolean ∧ t = 1)) (harr : Cond.arrayClass (newarray.typeOf atype) ∈ lw_good) (hz : pm_Z S σ) (hn : n = Int32.ofNat N) (hN : N ≤ 10000) (hq : S.length + 1 = q) (hS' : S ++ [(t, N)] = S')
    (hroom : S'.length ≤ r.2.1.length ∧ pm_tot S' ≤ pm_tot r.2.1) (hd : decode cc pc = .ok (.newarray atype, 2)) (K : pm_E l y cc nL ret true d S0 r (pc + 2) lv (.ref q :: st) S' σ) : pm_E l y cc nL ret true d S0 r pc lv (.int n :: st) S σ := by
  subst hq; subst hS'
  rw [List.length_append, pm_tot_app] at hroom
  simp only [List.length_cons, List.length_nil, pm_tot] at hroom
  exact pm_newa ht harr (fun j => (hz _ (Nat.lt_succ_self _) j).1) hn hN ⟨by omega, by omega⟩ hd K
theorem pm_anew' {N idx q : Nat} {n : Int32} {S' : pm_S} (hL : Cond.classLink y.cls idx "RulerFoot$Standing" ∈ lw_good) (hz : pm_Z S σ) (hn : n = Int32.ofNat N) (hN : N ≤ 10000) (hq : S.length + 1 = q) (hS' : S ++ [(2, N)] = S')
    (hroom : S'.length ≤ r.2.1.length ∧ pm_tot S' ≤ pm_tot r.2.1) (hd : decode cc pc = .ok (.anewarray idx, 3)) (K : pm_E l y cc nL ret true d S0 r (pc + 3) lv (.ref q :: st) S' σ) : pm_E l y cc nL ret true d S0 r pc lv (.int n :: st) S σ := by
  subst hq; subst hS'
  rw [List.length_append, pm_tot_app] at hroom
  simp only [List.length_cons, List.length_nil, pm_tot] at hroom
  exact pm_anew hL (fun j => (hz _ (Nat.lt_succ_self _) j).2) hn hN ⟨by omega, by omega⟩ hd K
theorem pm_nmr {x z : Nat} (h : x = z) (k : pm_E l y cc nL ret al d S0 r pc lv (.ref z :: st) S σ) : pm_E l y cc nL ret al d S0 r pc lv (.ref x :: st) S σ := by subst h; exact k
def pm_LI (own : String) (idx : Nat) (y' : MethodName) (cc' : ByteArray) (nL' : Nat) : Prop := pm_LC own idx y' cc' nL' none 0 ∧ Cond.instanceMethod y' ∈ lw_good ∧ y'.name = "<init>"
theorem pm_cI {idx q d' nL' : Nat} {y' : MethodName} {cc' : ByteArray} {st0 : List Value} {S' : pm_S} {σ' : pm_H} (hL : pm_LI y.cls idx y' cc' nL') (hM : pm_M l y' cc' nL' none al d' [.ref q] S σ (none, S', σ')) (hd' : d' + 1 ≤ d) (hq : 0 < q) (hst : st0 = .ref q :: st) (h8 : (st.map fun v => v.category).sum ≤ 8)
    (hm : S.length ≤ S'.length ∧ pm_tot S ≤ pm_tot S') (hS' : al = false → S' = S) (hroom : S'.length ≤ r.2.1.length ∧ pm_tot S' ≤ pm_tot r.2.1) (hd : decode cc pc = .ok (.invokespecial idx, 3)) (K : pm_E l y cc nL ret al d S0 r (pc + 3) lv st S' σ') : pm_E l y cc nL ret al d S0 r pc lv st0 S σ :=
  pm_callI hL.1 hL.2 hM hd' hq hst rfl h8 hm hS' hroom hd K
theorem pm_ext {S e : pm_S} : S.length ≤ (S ++ e).length ∧ pm_tot S ≤ pm_tot (S ++ e) := by rw [List.length_append, pm_tot_app]; omega
theorem pm_ext2' {S e e' : pm_S} (h : e <+: e') : (S ++ e).length ≤ (S ++ e').length ∧ pm_tot (S ++ e) ≤ pm_tot (S ++ e') := by
  obtain ⟨t, rfl⟩ := h
  rw [← List.append_assoc]
  exact pm_ext
theorem pm_ext2 {S e e' : pm_S} (h : e <+: e') : (S ++ e).length ≤ (S ++ e').length ∧ pm_tot (S ++ e) ≤ pm_tot (S ++ e') := by
  obtain ⟨t, rfl⟩ := h
  rw [← List.append_assoc]
  exact pm_ext
end PMI
theorem pm_xt {S S1 S2 : pm_S} {a b : Nat} (h : ∃ e, S1 = S ++ e ∧ e.length = a) (h' : ∃ e, S2 = S1 ++ e ∧ e.length = b) : ∃ e, S2 = S ++ e ∧ e.length = a + b := by
  obtain ⟨e, rfl, rfl⟩ := h
  obtain ⟨e', rfl, rfl⟩ := h'
  exact ⟨e ++ e', List.append_assoc _ _ _, List.length_append⟩
theorem pm_isx {S S1 : pm_S} {a q t : Nat} (h : ∃ e, S1 = S ++ e ∧ e.length = a) (hs : pm_is S q t) : pm_is S1 q t := by
  obtain ⟨e, rfl, -⟩ := h
  exact hs.app e
theorem pm_lenx {S S1 : pm_S} {a q t n : Nat} (h : ∃ e, S1 = S ++ e ∧ e.length = a) (hs : pm_is S q t) (hl : pm_len S q = n) : pm_len S1 q = n := by
  obtain ⟨e, rfl, -⟩ := h
  rw [← hl, pm_len, pm_sh_app hs.at]
theorem pm_Zx {S S1 : pm_S} {σ : pm_H} {a : Nat} (h : ∃ e, S1 = S ++ e ∧ e.length = a) (hz : pm_Z S σ) : pm_Z S1 σ := by
  obtain ⟨e, rfl, -⟩ := h
  exact hz.app e
theorem pm_lex {S S1 : pm_S} {a : Nat} (h : ∃ e, S1 = S ++ e ∧ e.length = a) : S.length ≤ S1.length ∧ pm_tot S ≤ pm_tot S1 := by
  obtain ⟨e, rfl, -⟩ := h
  exact pm_ext
theorem pm_le_tr {S S1 S2 : pm_S} (h : S.length ≤ S1.length ∧ pm_tot S ≤ pm_tot S1) (h' : S1.length ≤ S2.length ∧ pm_tot S1 ≤ pm_tot S2) : S.length ≤ S2.length ∧ pm_tot S ≤ pm_tot S2 := ⟨Nat.le_trans h.1 h'.1, Nat.le_trans h.2 h'.2⟩
theorem pm_pl_ne {a n k : Nat} (h : a ≤ n) (hk : 0 < k) : a ≠ n + k := by omega
theorem pm_pl_pos {n k : Nat} (hk : 0 < k) : 0 < n + k := by omega
theorem pm_is_nw {S : pm_S} {n t N : Nat} (h : S.length = n) : pm_is (S ++ [(t, N)]) (n + 1) t := pm_is_new (n := N) 0 (by omega) rfl
theorem pm_len_nw {S : pm_S} {n N : Nat} (h : S.length = n) : pm_len (S ++ [(2, N)]) (n + 1) = N := pm_len_new (t := 2) 0 (by omega) rfl
theorem ac_boolean : Cond.arrayClass (newarray.typeOf .boolean) ∈ lw_good := lw_gm 325 (by decide +kernel) (by decide +kernel)
theorem ac_int : Cond.arrayClass (newarray.typeOf .int) ∈ lw_good := lw_gm 120 (by decide +kernel) (by decide +kernel)
theorem caX11_34 : Cond.classLink RX11 34 "RulerFoot$Standing" ∈ lw_good := lw_gm 186 (by decide +kernel) (by decide +kernel)
theorem caX3_9 : Cond.classLink RX3 9 "RulerFoot$Standing" ∈ lw_good := lw_gm 288 (by decide +kernel) (by decide +kernel)
theorem cnX11_17 : Cond.classLink RX11 17 RX5 ∈ lw_good ∧ Cond.instantiable RX5 6 ∈ lw_good ∧ Cond.initialized RX5 ∈ lw_good := ⟨lw_gm 93 (by decide +kernel) (by decide +kernel), lw_gm 94 (by decide +kernel) (by decide +kernel), lw_gm 70 (by decide +kernel) (by decide +kernel)⟩
theorem cnX11_24 : Cond.classLink RX11 24 RX9 ∈ lw_good ∧ Cond.instantiable RX9 11 ∈ lw_good ∧ Cond.initialized RX9 ∈ lw_good := ⟨lw_gm 121 (by decide +kernel) (by decide +kernel), lw_gm 122 (by decide +kernel) (by decide +kernel), lw_gm 71 (by decide +kernel) (by decide +kernel)⟩
theorem cnX11_34 : Cond.classLink RX11 34 RX8 ∈ lw_good ∧ Cond.instantiable RX8 4 ∈ lw_good ∧ Cond.initialized RX8 ∈ lw_good := ⟨lw_gm 186 (by decide +kernel) (by decide +kernel), lw_gm 187 (by decide +kernel) (by decide +kernel), lw_gm 72 (by decide +kernel) (by decide +kernel)⟩
theorem cnX11_41 : Cond.classLink RX11 41 RX6 ∈ lw_good ∧ Cond.instantiable RX6 4 ∈ lw_good ∧ Cond.initialized RX6 ∈ lw_good := ⟨lw_gm 280 (by decide +kernel) (by decide +kernel), lw_gm 193 (by decide +kernel) (by decide +kernel), lw_gm 73 (by decide +kernel) (by decide +kernel)⟩
theorem cnX11_48 : Cond.classLink RX11 48 RX3 ∈ lw_good ∧ Cond.instantiable RX3 3 ∈ lw_good ∧ Cond.initialized RX3 ∈ lw_good := ⟨lw_gm 282 (by decide +kernel) (by decide +kernel), lw_gm 283 (by decide +kernel) (by decide +kernel), lw_gm 76 (by decide +kernel) (by decide +kernel)⟩
theorem cnX11_66 : Cond.classLink RX11 66 RX2 ∈ lw_good ∧ Cond.instantiable RX2 5 ∈ lw_good ∧ Cond.initialized RX2 ∈ lw_good := ⟨lw_gm 302 (by decide +kernel) (by decide +kernel), lw_gm 303 (by decide +kernel) (by decide +kernel), lw_gm 77 (by decide +kernel) (by decide +kernel)⟩
theorem cnX11_73 : Cond.classLink RX11 73 RX4 ∈ lw_good ∧ Cond.instantiable RX4 3 ∈ lw_good ∧ Cond.initialized RX4 ∈ lw_good := ⟨lw_gm 326 (by decide +kernel) (by decide +kernel), lw_gm 327 (by decide +kernel) (by decide +kernel), lw_gm 78 (by decide +kernel) (by decide +kernel)⟩
theorem cnX11_80 : Cond.classLink RX11 80 RX7 ∈ lw_good ∧ Cond.instantiable RX7 6 ∈ lw_good ∧ Cond.initialized RX7 ∈ lw_good := ⟨lw_gm 342 (by decide +kernel) (by decide +kernel), lw_gm 343 (by decide +kernel) (by decide +kernel), lw_gm 79 (by decide +kernel) (by decide +kernel)⟩
theorem cnX11_87 : Cond.classLink RX11 87 RX0 ∈ lw_good ∧ Cond.instantiable RX0 3 ∈ lw_good ∧ Cond.initialized RX0 ∈ lw_good := ⟨lw_gm 369 (by decide +kernel) (by decide +kernel), lw_gm 370 (by decide +kernel) (by decide +kernel), lw_gm 80 (by decide +kernel) (by decide +kernel)⟩
theorem cnX3_9 : Cond.classLink RX3 9 RX8 ∈ lw_good ∧ Cond.instantiable RX8 4 ∈ lw_good ∧ Cond.initialized RX8 ∈ lw_good := ⟨lw_gm 288 (by decide +kernel) (by decide +kernel), lw_gm 187 (by decide +kernel) (by decide +kernel), lw_gm 72 (by decide +kernel) (by decide +kernel)⟩
theorem cnX8_18 : Cond.classLink RX8 18 RX10 ∈ lw_good ∧ Cond.instantiable RX10 5 ∈ lw_good ∧ Cond.initialized RX10 ∈ lw_good := ⟨lw_gm 218 (by decide +kernel) (by decide +kernel), lw_gm 219 (by decide +kernel) (by decide +kernel), lw_gm 74 (by decide +kernel) (by decide +kernel)⟩
theorem cnX8_25 : Cond.classLink RX8 25 RX1 ∈ lw_good ∧ Cond.instantiable RX1 2 ∈ lw_good ∧ Cond.initialized RX1 ∈ lw_good := ⟨lw_gm 246 (by decide +kernel) (by decide +kernel), lw_gm 247 (by decide +kernel) (by decide +kernel), lw_gm 75 (by decide +kernel) (by decide +kernel)⟩
theorem cnX8_9 : Cond.classLink RX8 9 RX6 ∈ lw_good ∧ Cond.instantiable RX6 4 ∈ lw_good ∧ Cond.initialized RX6 ∈ lw_good := ⟨lw_gm 192 (by decide +kernel) (by decide +kernel), lw_gm 193 (by decide +kernel) (by decide +kernel), lw_gm 73 (by decide +kernel) (by decide +kernel)⟩
theorem flX9_21 : Cond.fieldLink RX9 21 (TX9 7).1 (TX9 7).2.1 (TX9 7).2.2.1 ∈ lw_good := lw_gm 152 (by decide +kernel) (by decide +kernel)
theorem miX11_19 : pm_LI RX11 19 yX5_init cX5_init 1 := ⟨⟨lw_gm 95 (by decide +kernel) (by decide +kernel), lw_gm 70 (by decide +kernel) (by decide +kernel), lw_gm 97 (by decide +kernel) (by decide +kernel), by decide +kernel, by decide⟩, lw_gm 96 (by decide +kernel) (by decide +kernel), rfl⟩
theorem miX11_26 : pm_LI RX11 26 yX9_init cX9_init 1 := ⟨⟨lw_gm 123 (by decide +kernel) (by decide +kernel), lw_gm 71 (by decide +kernel) (by decide +kernel), lw_gm 125 (by decide +kernel) (by decide +kernel), by decide +kernel, by decide⟩, lw_gm 124 (by decide +kernel) (by decide +kernel), rfl⟩
theorem miX11_36 : pm_LI RX11 36 yX8_init cX8_init 1 := ⟨⟨lw_gm 188 (by decide +kernel) (by decide +kernel), lw_gm 72 (by decide +kernel) (by decide +kernel), lw_gm 190 (by decide +kernel) (by decide +kernel), by decide +kernel, by decide⟩, lw_gm 189 (by decide +kernel) (by decide +kernel), rfl⟩
theorem miX11_43 : pm_LI RX11 43 yX6_init cX6_init 1 := ⟨⟨lw_gm 281 (by decide +kernel) (by decide +kernel), lw_gm 73 (by decide +kernel) (by decide +kernel), lw_gm 196 (by decide +kernel) (by decide +kernel), by decide +kernel, by decide⟩, lw_gm 195 (by decide +kernel) (by decide +kernel), rfl⟩
theorem miX11_50 : pm_LI RX11 50 yX3_init cX3_init 2 := ⟨⟨lw_gm 284 (by decide +kernel) (by decide +kernel), lw_gm 76 (by decide +kernel) (by decide +kernel), lw_gm 286 (by decide +kernel) (by decide +kernel), by decide +kernel, by decide⟩, lw_gm 285 (by decide +kernel) (by decide +kernel), rfl⟩
theorem miX11_68 : pm_LI RX11 68 yX2_init cX2_init 1 := ⟨⟨lw_gm 304 (by decide +kernel) (by decide +kernel), lw_gm 77 (by decide +kernel) (by decide +kernel), lw_gm 306 (by decide +kernel) (by decide +kernel), by decide +kernel, by decide⟩, lw_gm 305 (by decide +kernel) (by decide +kernel), rfl⟩
theorem miX11_75 : pm_LI RX11 75 yX4_init cX4_init 1 := ⟨⟨lw_gm 328 (by decide +kernel) (by decide +kernel), lw_gm 78 (by decide +kernel) (by decide +kernel), lw_gm 330 (by decide +kernel) (by decide +kernel), by decide +kernel, by decide⟩, lw_gm 329 (by decide +kernel) (by decide +kernel), rfl⟩
theorem miX11_82 : pm_LI RX11 82 yX7_init cX7_init 1 := ⟨⟨lw_gm 344 (by decide +kernel) (by decide +kernel), lw_gm 79 (by decide +kernel) (by decide +kernel), lw_gm 346 (by decide +kernel) (by decide +kernel), by decide +kernel, by decide⟩, lw_gm 345 (by decide +kernel) (by decide +kernel), rfl⟩
theorem miX11_89 : pm_LI RX11 89 yX0_init cX0_init 1 := ⟨⟨lw_gm 371 (by decide +kernel) (by decide +kernel), lw_gm 80 (by decide +kernel) (by decide +kernel), lw_gm 373 (by decide +kernel) (by decide +kernel), by decide +kernel, by decide⟩, lw_gm 372 (by decide +kernel) (by decide +kernel), rfl⟩
theorem miX3_17 : pm_LI RX3 17 yX8_init cX8_init 1 := ⟨⟨lw_gm 290 (by decide +kernel) (by decide +kernel), lw_gm 72 (by decide +kernel) (by decide +kernel), lw_gm 190 (by decide +kernel) (by decide +kernel), by decide +kernel, by decide⟩, lw_gm 189 (by decide +kernel) (by decide +kernel), rfl⟩
theorem miX8_11 : pm_LI RX8 11 yX6_init cX6_init 1 := ⟨⟨lw_gm 194 (by decide +kernel) (by decide +kernel), lw_gm 73 (by decide +kernel) (by decide +kernel), lw_gm 196 (by decide +kernel) (by decide +kernel), by decide +kernel, by decide⟩, lw_gm 195 (by decide +kernel) (by decide +kernel), rfl⟩
theorem miX8_20 : pm_LI RX8 20 yX10_init cX10_init 1 := ⟨⟨lw_gm 220 (by decide +kernel) (by decide +kernel), lw_gm 74 (by decide +kernel) (by decide +kernel), lw_gm 222 (by decide +kernel) (by decide +kernel), by decide +kernel, by decide⟩, lw_gm 221 (by decide +kernel) (by decide +kernel), rfl⟩
theorem miX8_27 : pm_LI RX8 27 yX1_init cX1_init 1 := ⟨⟨lw_gm 248 (by decide +kernel) (by decide +kernel), lw_gm 75 (by decide +kernel) (by decide +kernel), lw_gm 250 (by decide +kernel) (by decide +kernel), by decide +kernel, by decide⟩, lw_gm 249 (by decide +kernel) (by decide +kernel), rfl⟩
theorem oiX0_3 : Cond.methodLink RX0 3 objectInit ∈ lw_good ∧ Cond.instanceMethod objectInit ∈ lw_good ∧ Cond.code objectInit ⟨#[0xb1]⟩ 1 none ∈ lw_good := ⟨lw_gm 374 (by decide +kernel) (by decide +kernel), lw_gm 91 (by decide +kernel) (by decide +kernel), lw_gm 92 (by decide +kernel) (by decide +kernel)⟩
theorem oiX10_3 : Cond.methodLink RX10 3 objectInit ∈ lw_good ∧ Cond.instanceMethod objectInit ∈ lw_good ∧ Cond.code objectInit ⟨#[0xb1]⟩ 1 none ∈ lw_good := ⟨lw_gm 223 (by decide +kernel) (by decide +kernel), lw_gm 91 (by decide +kernel) (by decide +kernel), lw_gm 92 (by decide +kernel) (by decide +kernel)⟩
theorem oiX11_1 : Cond.methodLink RX11 1 objectInit ∈ lw_good ∧ Cond.instanceMethod objectInit ∈ lw_good ∧ Cond.code objectInit ⟨#[0xb1]⟩ 1 none ∈ lw_good := ⟨lw_gm 90 (by decide +kernel) (by decide +kernel), lw_gm 91 (by decide +kernel) (by decide +kernel), lw_gm 92 (by decide +kernel) (by decide +kernel)⟩
theorem oiX12_1 : Cond.methodLink RX12 1 objectInit ∈ lw_good ∧ Cond.instanceMethod objectInit ∈ lw_good ∧ Cond.code objectInit ⟨#[0xb1]⟩ 1 none ∈ lw_good := ⟨lw_gm 939 (by decide +kernel) (by decide +kernel), lw_gm 91 (by decide +kernel) (by decide +kernel), lw_gm 92 (by decide +kernel) (by decide +kernel)⟩
theorem oiX1_3 : Cond.methodLink RX1 3 objectInit ∈ lw_good ∧ Cond.instanceMethod objectInit ∈ lw_good ∧ Cond.code objectInit ⟨#[0xb1]⟩ 1 none ∈ lw_good := ⟨lw_gm 251 (by decide +kernel) (by decide +kernel), lw_gm 91 (by decide +kernel) (by decide +kernel), lw_gm 92 (by decide +kernel) (by decide +kernel)⟩
theorem oiX2_3 : Cond.methodLink RX2 3 objectInit ∈ lw_good ∧ Cond.instanceMethod objectInit ∈ lw_good ∧ Cond.code objectInit ⟨#[0xb1]⟩ 1 none ∈ lw_good := ⟨lw_gm 307 (by decide +kernel) (by decide +kernel), lw_gm 91 (by decide +kernel) (by decide +kernel), lw_gm 92 (by decide +kernel) (by decide +kernel)⟩
theorem oiX3_3 : Cond.methodLink RX3 3 objectInit ∈ lw_good ∧ Cond.instanceMethod objectInit ∈ lw_good ∧ Cond.code objectInit ⟨#[0xb1]⟩ 1 none ∈ lw_good := ⟨lw_gm 287 (by decide +kernel) (by decide +kernel), lw_gm 91 (by decide +kernel) (by decide +kernel), lw_gm 92 (by decide +kernel) (by decide +kernel)⟩
theorem oiX4_3 : Cond.methodLink RX4 3 objectInit ∈ lw_good ∧ Cond.instanceMethod objectInit ∈ lw_good ∧ Cond.code objectInit ⟨#[0xb1]⟩ 1 none ∈ lw_good := ⟨lw_gm 331 (by decide +kernel) (by decide +kernel), lw_gm 91 (by decide +kernel) (by decide +kernel), lw_gm 92 (by decide +kernel) (by decide +kernel)⟩
theorem oiX5_3 : Cond.methodLink RX5 3 objectInit ∈ lw_good ∧ Cond.instanceMethod objectInit ∈ lw_good ∧ Cond.code objectInit ⟨#[0xb1]⟩ 1 none ∈ lw_good := ⟨lw_gm 98 (by decide +kernel) (by decide +kernel), lw_gm 91 (by decide +kernel) (by decide +kernel), lw_gm 92 (by decide +kernel) (by decide +kernel)⟩
theorem oiX6_3 : Cond.methodLink RX6 3 objectInit ∈ lw_good ∧ Cond.instanceMethod objectInit ∈ lw_good ∧ Cond.code objectInit ⟨#[0xb1]⟩ 1 none ∈ lw_good := ⟨lw_gm 197 (by decide +kernel) (by decide +kernel), lw_gm 91 (by decide +kernel) (by decide +kernel), lw_gm 92 (by decide +kernel) (by decide +kernel)⟩
theorem oiX7_3 : Cond.methodLink RX7 3 objectInit ∈ lw_good ∧ Cond.instanceMethod objectInit ∈ lw_good ∧ Cond.code objectInit ⟨#[0xb1]⟩ 1 none ∈ lw_good := ⟨lw_gm 347 (by decide +kernel) (by decide +kernel), lw_gm 91 (by decide +kernel) (by decide +kernel), lw_gm 92 (by decide +kernel) (by decide +kernel)⟩
theorem oiX8_3 : Cond.methodLink RX8 3 objectInit ∈ lw_good ∧ Cond.instanceMethod objectInit ∈ lw_good ∧ Cond.code objectInit ⟨#[0xb1]⟩ 1 none ∈ lw_good := ⟨lw_gm 191 (by decide +kernel) (by decide +kernel), lw_gm 91 (by decide +kernel) (by decide +kernel), lw_gm 92 (by decide +kernel) (by decide +kernel)⟩
theorem oiX9_3 : Cond.methodLink RX9 3 objectInit ∈ lw_good ∧ Cond.instanceMethod objectInit ∈ lw_good ∧ Cond.code objectInit ⟨#[0xb1]⟩ 1 none ∈ lw_good := ⟨lw_gm 126 (by decide +kernel) (by decide +kernel), lw_gm 91 (by decide +kernel) (by decide +kernel), lw_gm 92 (by decide +kernel) (by decide +kernel)⟩
def eX5_init (S : pm_S) : pm_S :=
  let S1 := S ++ [(0, 0)]
  S1
def gX5_init (n q : Nat) (σ : pm_H) : pm_H :=
  let s1 := pm_sr σ q 2 (n + 1)
  let s2 := pm_si s1 q 1 (-1 : Int32)
  s2
theorem xX5_init {S : pm_S} : ∃ e, eX5_init S = S ++ e ∧ e.length = 1 := by
  obtain ⟨S1, hS1⟩ : ∃ s, S ++ [(0, 0)] = s := ⟨_, rfl⟩
  have xS1 : ∃ e, S1 = S ++ e ∧ e.length = 1 := ⟨_, hS1.symm, rfl⟩
  have hEe : eX5_init S = S1 := by rw [← hS1]; rfl
  rw [hEe]
  exact xS1
set_option maxRecDepth 100000 in
set_option maxHeartbeats 4000000 in
theorem KX5_init (l : Launch) {S : pm_S} {σ : pm_H} {q n : Nat} (h0 : pm_is S q 8) (hz : pm_Z S σ) (hn : S.length = n) : pm_M l yX5_init cX5_init 1 none true 1 [.ref q] S σ (none, eX5_init S, gX5_init n q σ) ∧ pm_Z (eX5_init S) (gX5_init n q σ) ∧ ∀ a j, a ≠ q → a ≤ n → (gX5_init n q σ).2 a j = σ.2 a j := by
  have hq0 := h0.pos
  have hqn : q ≤ n := by have hq1 := h0.le; omega
  obtain ⟨S1, hS1⟩ : ∃ s, S ++ [(0, 0)] = s := ⟨_, rfl⟩
  have xS1 : ∃ e, S1 = S ++ e ∧ e.length = 1 := ⟨[(0, 0)], hS1.symm, rfl⟩
  have hl1 : S1.length = n + 1 := by obtain ⟨e, he, hc⟩ := xS1; rw [he, List.length_append, hn, hc]
  have ht_1 := pm_isx xS1 h0
  have hm1_1 : pm_is S1 (n + 1) 0 := by rw [← hS1]; exact pm_is_nw hn
  have zS1 : pm_Z S1 σ := pm_Zx xS1 hz
  obtain ⟨s1, es1⟩ : ∃ s, pm_sr σ q 2 (n + 1) = s := ⟨_, rfl⟩
  have zs1 : pm_Z S1 s1 := by rw [← es1]; exact zS1.sr ht_1.le
  have fr1 : ∀ a j, a ≠ q → a ≤ n → s1.2 a j = σ.2 a j := by intro a j ha hb; rw [← es1, pm_sr_2, if_neg (fun z => ha z.1)]
  obtain ⟨s2, es2⟩ : ∃ s, pm_si s1 q 1 (-1 : Int32) = s := ⟨_, rfl⟩
  have zs2 : pm_Z S1 s2 := by rw [← es2]; exact zs1.si ht_1.le
  have fr2 : ∀ a j, a ≠ q → a ≤ n → s2.2 a j = σ.2 a j := by intro a j ha hb; rw [← es2, pm_si_2]; exact fr1 a j ha hb
  have hEe : eX5_init S = S1 := by rw [← hS1]; rfl
  have hGe : gX5_init n q σ = s2 := by rw [← es2, ← es1]; rfl
  have le1 : S1.length ≤ (eX5_init S).length ∧ pm_tot S1 ≤ pm_tot (eX5_init S) := by rw [hEe]; exact ⟨Nat.le_refl _, Nat.le_refl _⟩
  refine ⟨?_, by rw [hEe, hGe]; exact zs2, by rw [hGe]; exact fr2⟩
  refine pm_M.of (by decide +kernel) (Nat.le_of_ble_eq_true rfl) ?_
  show pm_E l yX5_init cX5_init 1 none true 1 S (none, eX5_init S, gX5_init n q σ) 0 [(0, .ref q)] [] S σ
  refine pm_aload_n (pc := 0) 0 dX5_init_0 rfl rfl h0.pos ?_
  refine pm_objInit (pc := 1) oiX5_3 h0.pos (Nat.le_of_ble_eq_true rfl) (by decide) dX5_init_1 ?_
  refine pm_aload_n (pc := 4) 0 dX5_init_4 rfl rfl h0.pos ?_
  refine pm_iconst (pc := 5) (0 : Int32) (by decide) dX5_init_5 ?_
  refine pm_newa' (pc := 6) (q := (n + 1)) (N := 0) (S' := S1) (Or.inl ⟨rfl, rfl⟩) ac_int hz rfl (by decide) (congrArg (· + 1) hn) hS1 le1 dX5_init_6 ?_
  refine pm_putR (pc := 8) (k := 2) pm_cl5 flX5_9 (by decide) rfl (fun _ => ⟨rfl, rfl⟩) (Or.inl rfl) ht_1 hm1_1 dX5_init_8 ?_
  refine pm_nmh es1 ?_
  refine pm_aload_n (pc := 11) 0 dX5_init_11 rfl rfl h0.pos ?_
  refine pm_iconst (pc := 12) (-1 : Int32) (by decide) dX5_init_12 ?_
  refine pm_putI (pc := 13) (k := 1) pm_cl5 flX5_15 (by decide) rfl rfl rfl ht_1 dX5_init_13 ?_
  refine pm_nmh es2 ?_
  exact pm_vret rfl dX5_init_16 (by rw [hEe, hGe])
def eX9_init (S : pm_S) : pm_S :=
  let S1 := S ++ [(0, 5)]
  let S2 := S1 ++ [(0, 6)]
  let S3 := S2 ++ [(0, 6)]
  let S4 := S3 ++ [(0, 6)]
  let S5 := S4 ++ [(0, 12)]
  S5
def gX9_init (n q : Nat) (σ : pm_H) : pm_H :=
  let s1 := pm_sr σ q 2 (n + 1)
  let s2 := pm_sr s1 q 4 (n + 2)
  let s3 := pm_sr s2 q 5 (n + 3)
  let s4 := pm_sr s3 q 7 (n + 4)
  let s5 := pm_sr s4 q 9 (n + 5)
  s5
theorem xX9_init {S : pm_S} : ∃ e, eX9_init S = S ++ e ∧ e.length = 5 := by
  obtain ⟨S1, hS1⟩ : ∃ s, S ++ [(0, 5)] = s := ⟨_, rfl⟩
  have xS1 : ∃ e, S1 = S ++ e ∧ e.length = 1 := ⟨_, hS1.symm, rfl⟩
  obtain ⟨S2, hS2⟩ : ∃ s, S1 ++ [(0, 6)] = s := ⟨_, rfl⟩
  have xS2 : ∃ e, S2 = S1 ++ e ∧ e.length = 1 := ⟨_, hS2.symm, rfl⟩
  obtain ⟨S3, hS3⟩ : ∃ s, S2 ++ [(0, 6)] = s := ⟨_, rfl⟩
  have xS3 : ∃ e, S3 = S2 ++ e ∧ e.length = 1 := ⟨_, hS3.symm, rfl⟩
  obtain ⟨S4, hS4⟩ : ∃ s, S3 ++ [(0, 6)] = s := ⟨_, rfl⟩
  have xS4 : ∃ e, S4 = S3 ++ e ∧ e.length = 1 := ⟨_, hS4.symm, rfl⟩
  obtain ⟨S5, hS5⟩ : ∃ s, S4 ++ [(0, 12)] = s := ⟨_, rfl⟩
  have xS5 : ∃ e, S5 = S4 ++ e ∧ e.length = 1 := ⟨_, hS5.symm, rfl⟩
  have hEe : eX9_init S = S5 := by rw [← hS5, ← hS4, ← hS3, ← hS2, ← hS1]; rfl
  rw [hEe]
  exact pm_xt (pm_xt (pm_xt (pm_xt (xS1) xS2) xS3) xS4) xS5
set_option maxRecDepth 100000 in
set_option maxHeartbeats 4000000 in
theorem KX9_init (l : Launch) {S : pm_S} {σ : pm_H} {q n : Nat} (h0 : pm_is S q 12) (hz : pm_Z S σ) (hn : S.length = n) : pm_M l yX9_init cX9_init 1 none true 1 [.ref q] S σ (none, eX9_init S, gX9_init n q σ) ∧ pm_Z (eX9_init S) (gX9_init n q σ) ∧ ∀ a j, a ≠ q → a ≤ n → (gX9_init n q σ).2 a j = σ.2 a j := by
  have hq0 := h0.pos
  have hqn : q ≤ n := by have hq1 := h0.le; omega
  obtain ⟨S1, hS1⟩ : ∃ s, S ++ [(0, 5)] = s := ⟨_, rfl⟩
  have xS1 : ∃ e, S1 = S ++ e ∧ e.length = 1 := ⟨[(0, 5)], hS1.symm, rfl⟩
  have hl1 : S1.length = n + 1 := by obtain ⟨e, he, hc⟩ := xS1; rw [he, List.length_append, hn, hc]
  have ht_1 := pm_isx xS1 h0
  have hm1_1 : pm_is S1 (n + 1) 0 := by rw [← hS1]; exact pm_is_nw hn
  have zS1 : pm_Z S1 σ := pm_Zx xS1 hz
  obtain ⟨s1, es1⟩ : ∃ s, pm_sr σ q 2 (n + 1) = s := ⟨_, rfl⟩
  have zs1 : pm_Z S1 s1 := by rw [← es1]; exact zS1.sr ht_1.le
  have fr1 : ∀ a j, a ≠ q → a ≤ n → s1.2 a j = σ.2 a j := by intro a j ha hb; rw [← es1, pm_sr_2, if_neg (fun z => ha z.1)]
  obtain ⟨S2, hS2⟩ : ∃ s, S1 ++ [(0, 6)] = s := ⟨_, rfl⟩
  have xS2 : ∃ e, S2 = S1 ++ e ∧ e.length = 1 := ⟨[(0, 6)], hS2.symm, rfl⟩
  have hl2 : S2.length = n + 2 := by obtain ⟨e, he, hc⟩ := xS2; rw [he, List.length_append, hl1, hc]
  have ht_2 := pm_isx xS2 ht_1
  have hm2_2 : pm_is S2 (n + 2) 0 := by rw [← hS2]; exact pm_is_nw hl1
  have zS2 : pm_Z S2 s1 := pm_Zx xS2 zs1
  obtain ⟨s2, es2⟩ : ∃ s, pm_sr s1 q 4 (n + 2) = s := ⟨_, rfl⟩
  have zs2 : pm_Z S2 s2 := by rw [← es2]; exact zS2.sr ht_2.le
  have fr2 : ∀ a j, a ≠ q → a ≤ n → s2.2 a j = σ.2 a j := by intro a j ha hb; rw [← es2, pm_sr_2, if_neg (fun z => ha z.1)]; exact fr1 a j ha hb
  obtain ⟨S3, hS3⟩ : ∃ s, S2 ++ [(0, 6)] = s := ⟨_, rfl⟩
  have xS3 : ∃ e, S3 = S2 ++ e ∧ e.length = 1 := ⟨[(0, 6)], hS3.symm, rfl⟩
  have hl3 : S3.length = n + 3 := by obtain ⟨e, he, hc⟩ := xS3; rw [he, List.length_append, hl2, hc]
  have ht_3 := pm_isx xS3 ht_2
  have hm3_3 : pm_is S3 (n + 3) 0 := by rw [← hS3]; exact pm_is_nw hl2
  have zS3 : pm_Z S3 s2 := pm_Zx xS3 zs2
  obtain ⟨s3, es3⟩ : ∃ s, pm_sr s2 q 5 (n + 3) = s := ⟨_, rfl⟩
  have zs3 : pm_Z S3 s3 := by rw [← es3]; exact zS3.sr ht_3.le
  have fr3 : ∀ a j, a ≠ q → a ≤ n → s3.2 a j = σ.2 a j := by intro a j ha hb; rw [← es3, pm_sr_2, if_neg (fun z => ha z.1)]; exact fr2 a j ha hb
  obtain ⟨S4, hS4⟩ : ∃ s, S3 ++ [(0, 6)] = s := ⟨_, rfl⟩
  have xS4 : ∃ e, S4 = S3 ++ e ∧ e.length = 1 := ⟨[(0, 6)], hS4.symm, rfl⟩
  have hl4 : S4.length = n + 4 := by obtain ⟨e, he, hc⟩ := xS4; rw [he, List.length_append, hl3, hc]
  have ht_4 := pm_isx xS4 ht_3
  have hm4_4 : pm_is S4 (n + 4) 0 := by rw [← hS4]; exact pm_is_nw hl3
  have zS4 : pm_Z S4 s3 := pm_Zx xS4 zs3
  obtain ⟨s4, es4⟩ : ∃ s, pm_sr s3 q 7 (n + 4) = s := ⟨_, rfl⟩
  have zs4 : pm_Z S4 s4 := by rw [← es4]; exact zS4.sr ht_4.le
  have fr4 : ∀ a j, a ≠ q → a ≤ n → s4.2 a j = σ.2 a j := by intro a j ha hb; rw [← es4, pm_sr_2, if_neg (fun z => ha z.1)]; exact fr3 a j ha hb
  obtain ⟨S5, hS5⟩ : ∃ s, S4 ++ [(0, 12)] = s := ⟨_, rfl⟩
  have xS5 : ∃ e, S5 = S4 ++ e ∧ e.length = 1 := ⟨[(0, 12)], hS5.symm, rfl⟩
  have hl5 : S5.length = n + 5 := by obtain ⟨e, he, hc⟩ := xS5; rw [he, List.length_append, hl4, hc]
  have ht_5 := pm_isx xS5 ht_4
  have hm5_5 : pm_is S5 (n + 5) 0 := by rw [← hS5]; exact pm_is_nw hl4
  have zS5 : pm_Z S5 s4 := pm_Zx xS5 zs4
  obtain ⟨s5, es5⟩ : ∃ s, pm_sr s4 q 9 (n + 5) = s := ⟨_, rfl⟩
  have zs5 : pm_Z S5 s5 := by rw [← es5]; exact zS5.sr ht_5.le
  have fr5 : ∀ a j, a ≠ q → a ≤ n → s5.2 a j = σ.2 a j := by intro a j ha hb; rw [← es5, pm_sr_2, if_neg (fun z => ha z.1)]; exact fr4 a j ha hb
  have hEe : eX9_init S = S5 := by rw [← hS5, ← hS4, ← hS3, ← hS2, ← hS1]; rfl
  have hGe : gX9_init n q σ = s5 := by rw [← es5, ← es4, ← es3, ← es2, ← es1]; rfl
  have le5 : S5.length ≤ (eX9_init S).length ∧ pm_tot S5 ≤ pm_tot (eX9_init S) := by rw [hEe]; exact ⟨Nat.le_refl _, Nat.le_refl _⟩
  have le4 := pm_le_tr (pm_lex xS5) le5
  have le3 := pm_le_tr (pm_lex xS4) le4
  have le2 := pm_le_tr (pm_lex xS3) le3
  have le1 := pm_le_tr (pm_lex xS2) le2
  refine ⟨?_, by rw [hEe, hGe]; exact zs5, by rw [hGe]; exact fr5⟩
  refine pm_M.of (by decide +kernel) (Nat.le_of_ble_eq_true rfl) ?_
  show pm_E l yX9_init cX9_init 1 none true 1 S (none, eX9_init S, gX9_init n q σ) 0 [(0, .ref q)] [] S σ
  refine pm_aload_n (pc := 0) 0 dX9_init_0 rfl rfl h0.pos ?_
  refine pm_objInit (pc := 1) oiX9_3 h0.pos (Nat.le_of_ble_eq_true rfl) (by decide) dX9_init_1 ?_
  refine pm_aload_n (pc := 4) 0 dX9_init_4 rfl rfl h0.pos ?_
  refine pm_iconst (pc := 5) (5 : Int32) (by decide) dX9_init_5 ?_
  refine pm_newa' (pc := 6) (q := (n + 1)) (N := 5) (S' := S1) (Or.inl ⟨rfl, rfl⟩) ac_int hz rfl (by decide) (congrArg (· + 1) hn) hS1 le1 dX9_init_6 ?_
  refine pm_putR (pc := 8) (k := 2) pm_cl9 flX9_9 (by decide) rfl (fun _ => ⟨rfl, rfl⟩) (Or.inr ⟨rfl, rfl, rfl⟩) ht_1 hm1_1 dX9_init_8 ?_
  refine pm_nmh es1 ?_
  refine pm_aload_n (pc := 11) 0 dX9_init_11 rfl rfl h0.pos ?_
  refine pm_bipush (pc := 12) (6 : Int32) (by decide) dX9_init_12 ?_
  refine pm_newa' (pc := 14) (q := (n + 2)) (N := 6) (S' := S2) (Or.inl ⟨rfl, rfl⟩) ac_int zs1 rfl (by decide) (congrArg (· + 1) hl1) hS2 le2 dX9_init_14 ?_
  refine pm_putR (pc := 16) (k := 4) pm_cl9 flX9_15 (by decide) rfl (fun _ => ⟨rfl, rfl⟩) (Or.inr ⟨rfl, rfl, rfl⟩) ht_2 hm2_2 dX9_init_16 ?_
  refine pm_nmh es2 ?_
  refine pm_aload_n (pc := 19) 0 dX9_init_19 rfl rfl h0.pos ?_
  refine pm_bipush (pc := 20) (6 : Int32) (by decide) dX9_init_20 ?_
  refine pm_newa' (pc := 22) (q := (n + 3)) (N := 6) (S' := S3) (Or.inl ⟨rfl, rfl⟩) ac_int zs2 rfl (by decide) (congrArg (· + 1) hl2) hS3 le3 dX9_init_22 ?_
  refine pm_putR (pc := 24) (k := 5) pm_cl9 flX9_18 (by decide) rfl (fun _ => ⟨rfl, rfl⟩) (Or.inr ⟨rfl, rfl, rfl⟩) ht_3 hm3_3 dX9_init_24 ?_
  refine pm_nmh es3 ?_
  refine pm_aload_n (pc := 27) 0 dX9_init_27 rfl rfl h0.pos ?_
  refine pm_bipush (pc := 28) (6 : Int32) (by decide) dX9_init_28 ?_
  refine pm_newa' (pc := 30) (q := (n + 4)) (N := 6) (S' := S4) (Or.inl ⟨rfl, rfl⟩) ac_int zs3 rfl (by decide) (congrArg (· + 1) hl3) hS4 le4 dX9_init_30 ?_
  refine pm_putR (pc := 32) (k := 7) pm_cl9 flX9_21 (by decide) rfl (fun _ => ⟨rfl, rfl⟩) (Or.inr ⟨rfl, rfl, rfl⟩) ht_4 hm4_4 dX9_init_32 ?_
  refine pm_nmh es4 ?_
  refine pm_aload_n (pc := 35) 0 dX9_init_35 rfl rfl h0.pos ?_
  refine pm_bipush (pc := 36) (12 : Int32) (by decide) dX9_init_36 ?_
  refine pm_newa' (pc := 38) (q := (n + 5)) (N := 12) (S' := S5) (Or.inl ⟨rfl, rfl⟩) ac_int zs4 rfl (by decide) (congrArg (· + 1) hl4) hS5 le5 dX9_init_38 ?_
  refine pm_putR (pc := 40) (k := 9) pm_cl9 flX9_24 (by decide) rfl (fun _ => ⟨rfl, rfl⟩) (Or.inr ⟨rfl, rfl, rfl⟩) ht_5 hm5_5 dX9_init_40 ?_
  refine pm_nmh es5 ?_
  exact pm_vret rfl dX9_init_43 (by rw [hEe, hGe])
def eX6_init (S : pm_S) : pm_S :=
  S
def gX6_init (n q : Nat) (σ : pm_H) : pm_H :=
  σ
theorem xX6_init {S : pm_S} : ∃ e, eX6_init S = S ++ e ∧ e.length = 0 := ⟨[], (List.append_nil S).symm, rfl⟩
set_option maxRecDepth 100000 in
set_option maxHeartbeats 4000000 in
theorem KX6_init (l : Launch) {S : pm_S} {σ : pm_H} {q n : Nat} (h0 : pm_is S q 9) (hz : pm_Z S σ) (hn : S.length = n) : pm_M l yX6_init cX6_init 1 none true 1 [.ref q] S σ (none, eX6_init S, gX6_init n q σ) ∧ pm_Z (eX6_init S) (gX6_init n q σ) ∧ ∀ a j, a ≠ q → a ≤ n → (gX6_init n q σ).2 a j = σ.2 a j := by
  have hq0 := h0.pos
  have hqn : q ≤ n := by have hq1 := h0.le; omega
  have hEe : eX6_init S = S := rfl
  have hGe : gX6_init n q σ = σ := rfl
  refine ⟨?_, by rw [hEe, hGe]; exact hz, by rw [hGe]; exact (fun _ _ _ _ => rfl)⟩
  refine pm_M.of (by decide +kernel) (Nat.le_of_ble_eq_true rfl) ?_
  show pm_E l yX6_init cX6_init 1 none true 1 S (none, eX6_init S, gX6_init n q σ) 0 [(0, .ref q)] [] S σ
  refine pm_aload_n (pc := 0) 0 dX6_init_0 rfl rfl h0.pos ?_
  refine pm_objInit (pc := 1) oiX6_3 h0.pos (Nat.le_of_ble_eq_true rfl) (by decide) dX6_init_1 ?_
  exact pm_vret rfl dX6_init_4 (by rw [hEe, hGe])
def eX10_init (S : pm_S) : pm_S :=
  let S1 := S ++ [(0, 20)]
  let S2 := S1 ++ [(0, 20)]
  let S3 := S2 ++ [(0, 20)]
  let S4 := S3 ++ [(0, 20)]
  S4
def gX10_init (n q : Nat) (σ : pm_H) : pm_H :=
  let s1 := pm_sr σ q 0 (n + 1)
  let s2 := pm_sr s1 q 1 (n + 2)
  let s3 := pm_sr s2 q 2 (n + 3)
  let s4 := pm_sr s3 q 3 (n + 4)
  s4
theorem xX10_init {S : pm_S} : ∃ e, eX10_init S = S ++ e ∧ e.length = 4 := by
  obtain ⟨S1, hS1⟩ : ∃ s, S ++ [(0, 20)] = s := ⟨_, rfl⟩
  have xS1 : ∃ e, S1 = S ++ e ∧ e.length = 1 := ⟨_, hS1.symm, rfl⟩
  obtain ⟨S2, hS2⟩ : ∃ s, S1 ++ [(0, 20)] = s := ⟨_, rfl⟩
  have xS2 : ∃ e, S2 = S1 ++ e ∧ e.length = 1 := ⟨_, hS2.symm, rfl⟩
  obtain ⟨S3, hS3⟩ : ∃ s, S2 ++ [(0, 20)] = s := ⟨_, rfl⟩
  have xS3 : ∃ e, S3 = S2 ++ e ∧ e.length = 1 := ⟨_, hS3.symm, rfl⟩
  obtain ⟨S4, hS4⟩ : ∃ s, S3 ++ [(0, 20)] = s := ⟨_, rfl⟩
  have xS4 : ∃ e, S4 = S3 ++ e ∧ e.length = 1 := ⟨_, hS4.symm, rfl⟩
  have hEe : eX10_init S = S4 := by rw [← hS4, ← hS3, ← hS2, ← hS1]; rfl
  rw [hEe]
  exact pm_xt (pm_xt (pm_xt (xS1) xS2) xS3) xS4
set_option maxRecDepth 100000 in
set_option maxHeartbeats 4000000 in
theorem KX10_init (l : Launch) {S : pm_S} {σ : pm_H} {q n : Nat} (h0 : pm_is S q 13) (hz : pm_Z S σ) (hn : S.length = n) : pm_M l yX10_init cX10_init 1 none true 1 [.ref q] S σ (none, eX10_init S, gX10_init n q σ) ∧ pm_Z (eX10_init S) (gX10_init n q σ) ∧ ∀ a j, a ≠ q → a ≤ n → (gX10_init n q σ).2 a j = σ.2 a j := by
  have hq0 := h0.pos
  have hqn : q ≤ n := by have hq1 := h0.le; omega
  obtain ⟨S1, hS1⟩ : ∃ s, S ++ [(0, 20)] = s := ⟨_, rfl⟩
  have xS1 : ∃ e, S1 = S ++ e ∧ e.length = 1 := ⟨[(0, 20)], hS1.symm, rfl⟩
  have hl1 : S1.length = n + 1 := by obtain ⟨e, he, hc⟩ := xS1; rw [he, List.length_append, hn, hc]
  have ht_1 := pm_isx xS1 h0
  have hm1_1 : pm_is S1 (n + 1) 0 := by rw [← hS1]; exact pm_is_nw hn
  have zS1 : pm_Z S1 σ := pm_Zx xS1 hz
  obtain ⟨s1, es1⟩ : ∃ s, pm_sr σ q 0 (n + 1) = s := ⟨_, rfl⟩
  have zs1 : pm_Z S1 s1 := by rw [← es1]; exact zS1.sr ht_1.le
  have fr1 : ∀ a j, a ≠ q → a ≤ n → s1.2 a j = σ.2 a j := by intro a j ha hb; rw [← es1, pm_sr_2, if_neg (fun z => ha z.1)]
  obtain ⟨S2, hS2⟩ : ∃ s, S1 ++ [(0, 20)] = s := ⟨_, rfl⟩
  have xS2 : ∃ e, S2 = S1 ++ e ∧ e.length = 1 := ⟨[(0, 20)], hS2.symm, rfl⟩
  have hl2 : S2.length = n + 2 := by obtain ⟨e, he, hc⟩ := xS2; rw [he, List.length_append, hl1, hc]
  have ht_2 := pm_isx xS2 ht_1
  have hm2_2 : pm_is S2 (n + 2) 0 := by rw [← hS2]; exact pm_is_nw hl1
  have zS2 : pm_Z S2 s1 := pm_Zx xS2 zs1
  obtain ⟨s2, es2⟩ : ∃ s, pm_sr s1 q 1 (n + 2) = s := ⟨_, rfl⟩
  have zs2 : pm_Z S2 s2 := by rw [← es2]; exact zS2.sr ht_2.le
  have fr2 : ∀ a j, a ≠ q → a ≤ n → s2.2 a j = σ.2 a j := by intro a j ha hb; rw [← es2, pm_sr_2, if_neg (fun z => ha z.1)]; exact fr1 a j ha hb
  obtain ⟨S3, hS3⟩ : ∃ s, S2 ++ [(0, 20)] = s := ⟨_, rfl⟩
  have xS3 : ∃ e, S3 = S2 ++ e ∧ e.length = 1 := ⟨[(0, 20)], hS3.symm, rfl⟩
  have hl3 : S3.length = n + 3 := by obtain ⟨e, he, hc⟩ := xS3; rw [he, List.length_append, hl2, hc]
  have ht_3 := pm_isx xS3 ht_2
  have hm3_3 : pm_is S3 (n + 3) 0 := by rw [← hS3]; exact pm_is_nw hl2
  have zS3 : pm_Z S3 s2 := pm_Zx xS3 zs2
  obtain ⟨s3, es3⟩ : ∃ s, pm_sr s2 q 2 (n + 3) = s := ⟨_, rfl⟩
  have zs3 : pm_Z S3 s3 := by rw [← es3]; exact zS3.sr ht_3.le
  have fr3 : ∀ a j, a ≠ q → a ≤ n → s3.2 a j = σ.2 a j := by intro a j ha hb; rw [← es3, pm_sr_2, if_neg (fun z => ha z.1)]; exact fr2 a j ha hb
  obtain ⟨S4, hS4⟩ : ∃ s, S3 ++ [(0, 20)] = s := ⟨_, rfl⟩
  have xS4 : ∃ e, S4 = S3 ++ e ∧ e.length = 1 := ⟨[(0, 20)], hS4.symm, rfl⟩
  have hl4 : S4.length = n + 4 := by obtain ⟨e, he, hc⟩ := xS4; rw [he, List.length_append, hl3, hc]
  have ht_4 := pm_isx xS4 ht_3
  have hm4_4 : pm_is S4 (n + 4) 0 := by rw [← hS4]; exact pm_is_nw hl3
  have zS4 : pm_Z S4 s3 := pm_Zx xS4 zs3
  obtain ⟨s4, es4⟩ : ∃ s, pm_sr s3 q 3 (n + 4) = s := ⟨_, rfl⟩
  have zs4 : pm_Z S4 s4 := by rw [← es4]; exact zS4.sr ht_4.le
  have fr4 : ∀ a j, a ≠ q → a ≤ n → s4.2 a j = σ.2 a j := by intro a j ha hb; rw [← es4, pm_sr_2, if_neg (fun z => ha z.1)]; exact fr3 a j ha hb
  have hEe : eX10_init S = S4 := by rw [← hS4, ← hS3, ← hS2, ← hS1]; rfl
  have hGe : gX10_init n q σ = s4 := by rw [← es4, ← es3, ← es2, ← es1]; rfl
  have le4 : S4.length ≤ (eX10_init S).length ∧ pm_tot S4 ≤ pm_tot (eX10_init S) := by rw [hEe]; exact ⟨Nat.le_refl _, Nat.le_refl _⟩
  have le3 := pm_le_tr (pm_lex xS4) le4
  have le2 := pm_le_tr (pm_lex xS3) le3
  have le1 := pm_le_tr (pm_lex xS2) le2
  refine ⟨?_, by rw [hEe, hGe]; exact zs4, by rw [hGe]; exact fr4⟩
  refine pm_M.of (by decide +kernel) (Nat.le_of_ble_eq_true rfl) ?_
  show pm_E l yX10_init cX10_init 1 none true 1 S (none, eX10_init S, gX10_init n q σ) 0 [(0, .ref q)] [] S σ
  refine pm_aload_n (pc := 0) 0 dX10_init_0 rfl rfl h0.pos ?_
  refine pm_objInit (pc := 1) oiX10_3 h0.pos (Nat.le_of_ble_eq_true rfl) (by decide) dX10_init_1 ?_
  refine pm_aload_n (pc := 4) 0 dX10_init_4 rfl rfl h0.pos ?_
  refine pm_bipush (pc := 5) (20 : Int32) (by decide) dX10_init_5 ?_
  refine pm_newa' (pc := 7) (q := (n + 1)) (N := 20) (S' := S1) (Or.inl ⟨rfl, rfl⟩) ac_int hz rfl (by decide) (congrArg (· + 1) hn) hS1 le1 dX10_init_7 ?_
  refine pm_putR (pc := 9) (k := 0) pm_cl10 flX10_9 (by decide) rfl (fun _ => ⟨rfl, rfl⟩) (Or.inr ⟨rfl, rfl, rfl⟩) ht_1 hm1_1 dX10_init_9 ?_
  refine pm_nmh es1 ?_
  refine pm_aload_n (pc := 12) 0 dX10_init_12 rfl rfl h0.pos ?_
  refine pm_bipush (pc := 13) (20 : Int32) (by decide) dX10_init_13 ?_
  refine pm_newa' (pc := 15) (q := (n + 2)) (N := 20) (S' := S2) (Or.inl ⟨rfl, rfl⟩) ac_int zs1 rfl (by decide) (congrArg (· + 1) hl1) hS2 le2 dX10_init_15 ?_
  refine pm_putR (pc := 17) (k := 1) pm_cl10 flX10_15 (by decide) rfl (fun _ => ⟨rfl, rfl⟩) (Or.inr ⟨rfl, rfl, rfl⟩) ht_2 hm2_2 dX10_init_17 ?_
  refine pm_nmh es2 ?_
  refine pm_aload_n (pc := 20) 0 dX10_init_20 rfl rfl h0.pos ?_
  refine pm_bipush (pc := 21) (20 : Int32) (by decide) dX10_init_21 ?_
  refine pm_newa' (pc := 23) (q := (n + 3)) (N := 20) (S' := S3) (Or.inl ⟨rfl, rfl⟩) ac_int zs2 rfl (by decide) (congrArg (· + 1) hl2) hS3 le3 dX10_init_23 ?_
  refine pm_putR (pc := 25) (k := 2) pm_cl10 flX10_18 (by decide) rfl (fun _ => ⟨rfl, rfl⟩) (Or.inr ⟨rfl, rfl, rfl⟩) ht_3 hm3_3 dX10_init_25 ?_
  refine pm_nmh es3 ?_
  refine pm_aload_n (pc := 28) 0 dX10_init_28 rfl rfl h0.pos ?_
  refine pm_bipush (pc := 29) (20 : Int32) (by decide) dX10_init_29 ?_
  refine pm_newa' (pc := 31) (q := (n + 4)) (N := 20) (S' := S4) (Or.inl ⟨rfl, rfl⟩) ac_int zs3 rfl (by decide) (congrArg (· + 1) hl3) hS4 le4 dX10_init_31 ?_
  refine pm_putR (pc := 33) (k := 3) pm_cl10 flX10_21 (by decide) rfl (fun _ => ⟨rfl, rfl⟩) (Or.inr ⟨rfl, rfl, rfl⟩) ht_4 hm4_4 dX10_init_33 ?_
  refine pm_nmh es4 ?_
  exact pm_vret rfl dX10_init_36 (by rw [hEe, hGe])
def eX1_init (S : pm_S) : pm_S :=
  let S1 := S ++ [(0, 8)]
  S1
def gX1_init (n q : Nat) (σ : pm_H) : pm_H :=
  let s1 := pm_sr σ q 0 (n + 1)
  s1
theorem xX1_init {S : pm_S} : ∃ e, eX1_init S = S ++ e ∧ e.length = 1 := by
  obtain ⟨S1, hS1⟩ : ∃ s, S ++ [(0, 8)] = s := ⟨_, rfl⟩
  have xS1 : ∃ e, S1 = S ++ e ∧ e.length = 1 := ⟨_, hS1.symm, rfl⟩
  have hEe : eX1_init S = S1 := by rw [← hS1]; rfl
  rw [hEe]
  exact xS1
set_option maxRecDepth 100000 in
set_option maxHeartbeats 4000000 in
theorem KX1_init (l : Launch) {S : pm_S} {σ : pm_H} {q n : Nat} (h0 : pm_is S q 4) (hz : pm_Z S σ) (hn : S.length = n) : pm_M l yX1_init cX1_init 1 none true 1 [.ref q] S σ (none, eX1_init S, gX1_init n q σ) ∧ pm_Z (eX1_init S) (gX1_init n q σ) ∧ ∀ a j, a ≠ q → a ≤ n → (gX1_init n q σ).2 a j = σ.2 a j := by
  have hq0 := h0.pos
  have hqn : q ≤ n := by have hq1 := h0.le; omega
  obtain ⟨S1, hS1⟩ : ∃ s, S ++ [(0, 8)] = s := ⟨_, rfl⟩
  have xS1 : ∃ e, S1 = S ++ e ∧ e.length = 1 := ⟨[(0, 8)], hS1.symm, rfl⟩
  have hl1 : S1.length = n + 1 := by obtain ⟨e, he, hc⟩ := xS1; rw [he, List.length_append, hn, hc]
  have ht_1 := pm_isx xS1 h0
  have hm1_1 : pm_is S1 (n + 1) 0 := by rw [← hS1]; exact pm_is_nw hn
  have zS1 : pm_Z S1 σ := pm_Zx xS1 hz
  obtain ⟨s1, es1⟩ : ∃ s, pm_sr σ q 0 (n + 1) = s := ⟨_, rfl⟩
  have zs1 : pm_Z S1 s1 := by rw [← es1]; exact zS1.sr ht_1.le
  have fr1 : ∀ a j, a ≠ q → a ≤ n → s1.2 a j = σ.2 a j := by intro a j ha hb; rw [← es1, pm_sr_2, if_neg (fun z => ha z.1)]
  have hEe : eX1_init S = S1 := by rw [← hS1]; rfl
  have hGe : gX1_init n q σ = s1 := by rw [← es1]; rfl
  have le1 : S1.length ≤ (eX1_init S).length ∧ pm_tot S1 ≤ pm_tot (eX1_init S) := by rw [hEe]; exact ⟨Nat.le_refl _, Nat.le_refl _⟩
  refine ⟨?_, by rw [hEe, hGe]; exact zs1, by rw [hGe]; exact fr1⟩
  refine pm_M.of (by decide +kernel) (Nat.le_of_ble_eq_true rfl) ?_
  show pm_E l yX1_init cX1_init 1 none true 1 S (none, eX1_init S, gX1_init n q σ) 0 [(0, .ref q)] [] S σ
  refine pm_aload_n (pc := 0) 0 dX1_init_0 rfl rfl h0.pos ?_
  refine pm_objInit (pc := 1) oiX1_3 h0.pos (Nat.le_of_ble_eq_true rfl) (by decide) dX1_init_1 ?_
  refine pm_aload_n (pc := 4) 0 dX1_init_4 rfl rfl h0.pos ?_
  refine pm_bipush (pc := 5) (8 : Int32) (by decide) dX1_init_5 ?_
  refine pm_newa' (pc := 7) (q := (n + 1)) (N := 8) (S' := S1) (Or.inl ⟨rfl, rfl⟩) ac_int hz rfl (by decide) (congrArg (· + 1) hn) hS1 le1 dX1_init_7 ?_
  refine pm_putR (pc := 9) (k := 0) pm_cl1 flX1_9 (by decide) rfl (fun _ => ⟨rfl, rfl⟩) (Or.inr ⟨rfl, rfl, rfl⟩) ht_1 hm1_1 dX1_init_9 ?_
  refine pm_nmh es1 ?_
  exact pm_vret rfl dX1_init_12 (by rw [hEe, hGe])
def eX8_init (S : pm_S) : pm_S :=
  let S1 := S ++ [(9, 4)]
  let S2 := eX6_init S1
  let S3 := S2 ++ [(13, 5)]
  let S4 := eX10_init S3
  let S5 := S4 ++ [(4, 2)]
  let S6 := eX1_init S5
  let S7 := S6 ++ [(0, 6)]
  S7
def gX8_init (n q : Nat) (σ : pm_H) : pm_H :=
  let s1 := gX6_init (n + 1) (n + 1) σ
  let s2 := pm_sr s1 q 0 (n + 1)
  let s3 := gX10_init (n + 2) (n + 2) s2
  let s4 := pm_sr s3 q 1 (n + 2)
  let s5 := gX1_init (n + 7) (n + 7) s4
  let s6 := pm_sr s5 q 2 (n + 7)
  let s7 := pm_sr s6 q 3 (n + 9)
  s7
theorem xX8_init {S : pm_S} : ∃ e, eX8_init S = S ++ e ∧ e.length = 9 := by
  obtain ⟨S1, hS1⟩ : ∃ s, S ++ [(9, 4)] = s := ⟨_, rfl⟩
  have xS1 : ∃ e, S1 = S ++ e ∧ e.length = 1 := ⟨_, hS1.symm, rfl⟩
  obtain ⟨S2, hS2⟩ : ∃ s, eX6_init S1 = s := ⟨_, rfl⟩
  have xS2 : ∃ e, S2 = S1 ++ e ∧ e.length = 0 := by rw [← hS2]; exact xX6_init
  obtain ⟨S3, hS3⟩ : ∃ s, S2 ++ [(13, 5)] = s := ⟨_, rfl⟩
  have xS3 : ∃ e, S3 = S2 ++ e ∧ e.length = 1 := ⟨_, hS3.symm, rfl⟩
  obtain ⟨S4, hS4⟩ : ∃ s, eX10_init S3 = s := ⟨_, rfl⟩
  have xS4 : ∃ e, S4 = S3 ++ e ∧ e.length = 4 := by rw [← hS4]; exact xX10_init
  obtain ⟨S5, hS5⟩ : ∃ s, S4 ++ [(4, 2)] = s := ⟨_, rfl⟩
  have xS5 : ∃ e, S5 = S4 ++ e ∧ e.length = 1 := ⟨_, hS5.symm, rfl⟩
  obtain ⟨S6, hS6⟩ : ∃ s, eX1_init S5 = s := ⟨_, rfl⟩
  have xS6 : ∃ e, S6 = S5 ++ e ∧ e.length = 1 := by rw [← hS6]; exact xX1_init
  obtain ⟨S7, hS7⟩ : ∃ s, S6 ++ [(0, 6)] = s := ⟨_, rfl⟩
  have xS7 : ∃ e, S7 = S6 ++ e ∧ e.length = 1 := ⟨_, hS7.symm, rfl⟩
  have hEe : eX8_init S = S7 := by rw [← hS7, ← hS6, ← hS5, ← hS4, ← hS3, ← hS2, ← hS1]; rfl
  rw [hEe]
  exact pm_xt (pm_xt (pm_xt (pm_xt (pm_xt (pm_xt (xS1) xS2) xS3) xS4) xS5) xS6) xS7
set_option maxRecDepth 100000 in
set_option maxHeartbeats 4000000 in
theorem KX8_init (l : Launch) {S : pm_S} {σ : pm_H} {q n : Nat} (h0 : pm_is S q 11) (hz : pm_Z S σ) (hn : S.length = n) : pm_M l yX8_init cX8_init 1 none true 2 [.ref q] S σ (none, eX8_init S, gX8_init n q σ) ∧ pm_Z (eX8_init S) (gX8_init n q σ) ∧ ∀ a j, a ≠ q → a ≤ n → (gX8_init n q σ).2 a j = σ.2 a j := by
  have hq0 := h0.pos
  have hqn : q ≤ n := by have hq1 := h0.le; omega
  obtain ⟨S1, hS1⟩ : ∃ s, S ++ [(9, 4)] = s := ⟨_, rfl⟩
  have xS1 : ∃ e, S1 = S ++ e ∧ e.length = 1 := ⟨[(9, 4)], hS1.symm, rfl⟩
  have hl1 : S1.length = n + 1 := by obtain ⟨e, he, hc⟩ := xS1; rw [he, List.length_append, hn, hc]
  have ht_1 := pm_isx xS1 h0
  have hm1_1 : pm_is S1 (n + 1) 9 := by rw [← hS1]; exact pm_is_nw hn
  have zS1 : pm_Z S1 σ := pm_Zx xS1 hz
  obtain ⟨S2, hS2⟩ : ∃ s, eX6_init S1 = s := ⟨_, rfl⟩
  have xS2 : ∃ e, S2 = S1 ++ e ∧ e.length = 0 := by rw [← hS2]; exact xX6_init
  have hl2 : S2.length = n + 1 := by obtain ⟨e, he, hc⟩ := xS2; rw [he, List.length_append, hl1, hc]
  have ht_2 := pm_isx xS2 ht_1
  have hm1_2 := pm_isx xS2 hm1_1
  have kk9_1 := KX6_init l (n := n + 1) hm1_1 zS1 hl1
  obtain ⟨s1, es1⟩ : ∃ s, gX6_init (n + 1) (n + 1) σ = s := ⟨_, rfl⟩
  have zs1 : pm_Z S2 s1 := by rw [← es1]; exact by have w9 := kk9_1.2.1; rw [hS2] at w9; exact w9
  have fr1 : ∀ a j, a ≠ q → a ≤ n → s1.2 a j = σ.2 a j := by intro a j ha hb; rw [← es1, kk9_1.2.2 a j (pm_pl_ne hb (by decide)) (Nat.le_trans hb (Nat.le_add_right _ _))]
  obtain ⟨s2, es2⟩ : ∃ s, pm_sr s1 q 0 (n + 1) = s := ⟨_, rfl⟩
  have zs2 : pm_Z S2 s2 := by rw [← es2]; exact zs1.sr ht_2.le
  have fr2 : ∀ a j, a ≠ q → a ≤ n → s2.2 a j = σ.2 a j := by intro a j ha hb; rw [← es2, pm_sr_2, if_neg (fun z => ha z.1)]; exact fr1 a j ha hb
  obtain ⟨S3, hS3⟩ : ∃ s, S2 ++ [(13, 5)] = s := ⟨_, rfl⟩
  have xS3 : ∃ e, S3 = S2 ++ e ∧ e.length = 1 := ⟨[(13, 5)], hS3.symm, rfl⟩
  have hl3 : S3.length = n + 2 := by obtain ⟨e, he, hc⟩ := xS3; rw [he, List.length_append, hl2, hc]
  have ht_3 := pm_isx xS3 ht_2
  have hm2_3 : pm_is S3 (n + 2) 13 := by rw [← hS3]; exact pm_is_nw hl2
  have zS3 : pm_Z S3 s2 := pm_Zx xS3 zs2
  obtain ⟨S4, hS4⟩ : ∃ s, eX10_init S3 = s := ⟨_, rfl⟩
  have xS4 : ∃ e, S4 = S3 ++ e ∧ e.length = 4 := by rw [← hS4]; exact xX10_init
  have hl4 : S4.length = n + 6 := by obtain ⟨e, he, hc⟩ := xS4; rw [he, List.length_append, hl3, hc]
  have ht_4 := pm_isx xS4 ht_3
  have hm2_4 := pm_isx xS4 hm2_3
  have kk20_3 := KX10_init l (n := n + 2) hm2_3 zS3 hl3
  obtain ⟨s3, es3⟩ : ∃ s, gX10_init (n + 2) (n + 2) s2 = s := ⟨_, rfl⟩
  have zs3 : pm_Z S4 s3 := by rw [← es3]; exact by have w9 := kk20_3.2.1; rw [hS4] at w9; exact w9
  have fr3 : ∀ a j, a ≠ q → a ≤ n → s3.2 a j = σ.2 a j := by intro a j ha hb; rw [← es3, kk20_3.2.2 a j (pm_pl_ne hb (by decide)) (Nat.le_trans hb (Nat.le_add_right _ _))]; exact fr2 a j ha hb
  obtain ⟨s4, es4⟩ : ∃ s, pm_sr s3 q 1 (n + 2) = s := ⟨_, rfl⟩
  have zs4 : pm_Z S4 s4 := by rw [← es4]; exact zs3.sr ht_4.le
  have fr4 : ∀ a j, a ≠ q → a ≤ n → s4.2 a j = σ.2 a j := by intro a j ha hb; rw [← es4, pm_sr_2, if_neg (fun z => ha z.1)]; exact fr3 a j ha hb
  obtain ⟨S5, hS5⟩ : ∃ s, S4 ++ [(4, 2)] = s := ⟨_, rfl⟩
  have xS5 : ∃ e, S5 = S4 ++ e ∧ e.length = 1 := ⟨[(4, 2)], hS5.symm, rfl⟩
  have hl5 : S5.length = n + 7 := by obtain ⟨e, he, hc⟩ := xS5; rw [he, List.length_append, hl4, hc]
  have ht_5 := pm_isx xS5 ht_4
  have hm7_5 : pm_is S5 (n + 7) 4 := by rw [← hS5]; exact pm_is_nw hl4
  have zS5 : pm_Z S5 s4 := pm_Zx xS5 zs4
  obtain ⟨S6, hS6⟩ : ∃ s, eX1_init S5 = s := ⟨_, rfl⟩
  have xS6 : ∃ e, S6 = S5 ++ e ∧ e.length = 1 := by rw [← hS6]; exact xX1_init
  have hl6 : S6.length = n + 8 := by obtain ⟨e, he, hc⟩ := xS6; rw [he, List.length_append, hl5, hc]
  have ht_6 := pm_isx xS6 ht_5
  have hm7_6 := pm_isx xS6 hm7_5
  have kk31_5 := KX1_init l (n := n + 7) hm7_5 zS5 hl5
  obtain ⟨s5, es5⟩ : ∃ s, gX1_init (n + 7) (n + 7) s4 = s := ⟨_, rfl⟩
  have zs5 : pm_Z S6 s5 := by rw [← es5]; exact by have w9 := kk31_5.2.1; rw [hS6] at w9; exact w9
  have fr5 : ∀ a j, a ≠ q → a ≤ n → s5.2 a j = σ.2 a j := by intro a j ha hb; rw [← es5, kk31_5.2.2 a j (pm_pl_ne hb (by decide)) (Nat.le_trans hb (Nat.le_add_right _ _))]; exact fr4 a j ha hb
  obtain ⟨s6, es6⟩ : ∃ s, pm_sr s5 q 2 (n + 7) = s := ⟨_, rfl⟩
  have zs6 : pm_Z S6 s6 := by rw [← es6]; exact zs5.sr ht_6.le
  have fr6 : ∀ a j, a ≠ q → a ≤ n → s6.2 a j = σ.2 a j := by intro a j ha hb; rw [← es6, pm_sr_2, if_neg (fun z => ha z.1)]; exact fr5 a j ha hb
  obtain ⟨S7, hS7⟩ : ∃ s, S6 ++ [(0, 6)] = s := ⟨_, rfl⟩
  have xS7 : ∃ e, S7 = S6 ++ e ∧ e.length = 1 := ⟨[(0, 6)], hS7.symm, rfl⟩
  have hl7 : S7.length = n + 9 := by obtain ⟨e, he, hc⟩ := xS7; rw [he, List.length_append, hl6, hc]
  have ht_7 := pm_isx xS7 ht_6
  have hm9_7 : pm_is S7 (n + 9) 0 := by rw [← hS7]; exact pm_is_nw hl6
  have zS7 : pm_Z S7 s6 := pm_Zx xS7 zs6
  obtain ⟨s7, es7⟩ : ∃ s, pm_sr s6 q 3 (n + 9) = s := ⟨_, rfl⟩
  have zs7 : pm_Z S7 s7 := by rw [← es7]; exact zS7.sr ht_7.le
  have fr7 : ∀ a j, a ≠ q → a ≤ n → s7.2 a j = σ.2 a j := by intro a j ha hb; rw [← es7, pm_sr_2, if_neg (fun z => ha z.1)]; exact fr6 a j ha hb
  have hEe : eX8_init S = S7 := by rw [← hS7, ← hS6, ← hS5, ← hS4, ← hS3, ← hS2, ← hS1]; rfl
  have hGe : gX8_init n q σ = s7 := by rw [← es7, ← es6, ← es5, ← es4, ← es3, ← es2, ← es1]; rfl
  have le7 : S7.length ≤ (eX8_init S).length ∧ pm_tot S7 ≤ pm_tot (eX8_init S) := by rw [hEe]; exact ⟨Nat.le_refl _, Nat.le_refl _⟩
  have le6 := pm_le_tr (pm_lex xS7) le7
  have le5 := pm_le_tr (pm_lex xS6) le6
  have le4 := pm_le_tr (pm_lex xS5) le5
  have le3 := pm_le_tr (pm_lex xS4) le4
  have le2 := pm_le_tr (pm_lex xS3) le3
  have le1 := pm_le_tr (pm_lex xS2) le2
  refine ⟨?_, by rw [hEe, hGe]; exact zs7, by rw [hGe]; exact fr7⟩
  refine pm_M.of (by decide +kernel) (Nat.le_of_ble_eq_true rfl) ?_
  show pm_E l yX8_init cX8_init 1 none true 2 S (none, eX8_init S, gX8_init n q σ) 0 [(0, .ref q)] [] S σ
  refine pm_aload_n (pc := 0) 0 dX8_init_0 rfl rfl h0.pos ?_
  refine pm_objInit (pc := 1) oiX8_3 h0.pos (Nat.le_of_ble_eq_true rfl) (by decide) dX8_init_1 ?_
  refine pm_aload_n (pc := 4) 0 dX8_init_4 rfl rfl h0.pos ?_
  refine pm_new' (pc := 5) (q := (n + 1)) (S' := S1) pm_cl6 cnX8_9 hz (by decide +kernel) (congrArg (· + 1) hn) hS1 le1 dX8_init_5 ?_
  refine pm_dup (pc := 8) rfl dX8_init_8 ?_
  refine pm_cI (pc := 9) (st := [.ref (n + 1), .ref q]) (S' := S2) miX8_11 (by have w9 := kk9_1.1; rw [hS2] at w9; exact w9) (by decide) (pm_pl_pos (by decide)) rfl (Nat.le_of_ble_eq_true rfl) (pm_lex xS2) (fun z => by cases z) le2 dX8_init_9 ?_
  refine pm_nmh es1 ?_
  refine pm_putR (pc := 12) (k := 0) pm_cl8 flX8_12 (by decide) rfl (fun _ => ⟨rfl, rfl⟩) (Or.inr ⟨rfl, rfl, rfl⟩) ht_2 hm1_2 dX8_init_12 ?_
  refine pm_nmh es2 ?_
  refine pm_aload_n (pc := 15) 0 dX8_init_15 rfl rfl h0.pos ?_
  refine pm_new' (pc := 16) (q := (n + 2)) (S' := S3) pm_cl10 cnX8_18 zs2 (by decide +kernel) (congrArg (· + 1) hl2) hS3 le3 dX8_init_16 ?_
  refine pm_dup (pc := 19) rfl dX8_init_19 ?_
  refine pm_cI (pc := 20) (st := [.ref (n + 2), .ref q]) (S' := S4) miX8_20 (by have w9 := kk20_3.1; rw [hS4] at w9; exact w9) (by decide) (pm_pl_pos (by decide)) rfl (Nat.le_of_ble_eq_true rfl) (pm_lex xS4) (fun z => by cases z) le4 dX8_init_20 ?_
  refine pm_nmh es3 ?_
  refine pm_putR (pc := 23) (k := 1) pm_cl8 flX8_21 (by decide) rfl (fun _ => ⟨rfl, rfl⟩) (Or.inr ⟨rfl, rfl, rfl⟩) ht_4 hm2_4 dX8_init_23 ?_
  refine pm_nmh es4 ?_
  refine pm_aload_n (pc := 26) 0 dX8_init_26 rfl rfl h0.pos ?_
  refine pm_new' (pc := 27) (q := (n + 7)) (S' := S5) pm_cl1 cnX8_25 zs4 (by decide +kernel) (congrArg (· + 1) hl4) hS5 le5 dX8_init_27 ?_
  refine pm_dup (pc := 30) rfl dX8_init_30 ?_
  refine pm_cI (pc := 31) (st := [.ref (n + 7), .ref q]) (S' := S6) miX8_27 (by have w9 := kk31_5.1; rw [hS6] at w9; exact w9) (by decide) (pm_pl_pos (by decide)) rfl (Nat.le_of_ble_eq_true rfl) (pm_lex xS6) (fun z => by cases z) le6 dX8_init_31 ?_
  refine pm_nmh es5 ?_
  refine pm_putR (pc := 34) (k := 2) pm_cl8 flX8_28 (by decide) rfl (fun _ => ⟨rfl, rfl⟩) (Or.inr ⟨rfl, rfl, rfl⟩) ht_6 hm7_6 dX8_init_34 ?_
  refine pm_nmh es6 ?_
  refine pm_aload_n (pc := 37) 0 dX8_init_37 rfl rfl h0.pos ?_
  refine pm_bipush (pc := 38) (6 : Int32) (by decide) dX8_init_38 ?_
  refine pm_newa' (pc := 40) (q := (n + 9)) (N := 6) (S' := S7) (Or.inl ⟨rfl, rfl⟩) ac_int zs6 rfl (by decide) (congrArg (· + 1) hl6) hS7 le7 dX8_init_40 ?_
  refine pm_putR (pc := 42) (k := 3) pm_cl8 flX8_32 (by decide) rfl (fun _ => ⟨rfl, rfl⟩) (Or.inr ⟨rfl, rfl, rfl⟩) ht_7 hm9_7 dX8_init_42 ?_
  refine pm_nmh es7 ?_
  exact pm_vret rfl dX8_init_45 (by rw [hEe, hGe])
/-! Past's constructor: the ring, and sixteen standings -/
def pastS : Nat → pm_S → pm_S
  | 0, S => S
  | i + 1, S => eX8_init (pastS i S ++ [(11, 4)])
def pastH (n : Nat) : Nat → pm_H → pm_H
  | 0, σ => σ
  | i + 1, σ => pm_sr (gX8_init (n + (1 + 10 * i + 1)) (n + (1 + 10 * i + 1)) (pastH n i σ)) (n + 1) i (n + (1 + 10 * i + 1))
def eX3_init (S : pm_S) : pm_S := pastS 16 (S ++ [(2, 16)])
def gX3_init (n q : Nat) (σ : pm_H) : pm_H := pastH n 16 (pm_sr σ q 0 (n + 1))
theorem pastS_x {S : pm_S} : ∀ i, ∃ e, pastS i S = S ++ e ∧ e.length = 10 * i := by
  intro i
  induction i with
  | zero => exact ⟨[], (List.append_nil S).symm, rfl⟩
  | succ i ih =>
    have h1 : ∃ e, pastS i S ++ [(11, 4)] = pastS i S ++ e ∧ e.length = 1 := ⟨_, rfl, rfl⟩
    obtain ⟨e, he, hl⟩ := pm_xt (pm_xt ih h1) (xX8_init (S := pastS i S ++ [(11, 4)]))
    exact ⟨e, he, by omega⟩
theorem xX3_init {S : pm_S} : ∃ e, eX3_init S = S ++ e ∧ e.length = 161 := by
  have h1 : ∃ e, S ++ [(2, 16)] = S ++ e ∧ e.length = 1 := ⟨_, rfl, rfl⟩
  exact pm_xt h1 (pastS_x 16)
theorem past_step (l : Launch) {S : pm_S} {σ : pm_H} {q n : Nat} (hz : pm_Z S σ) (hn : S.length = n + 1) (hq : q ≤ n) (hv : σ.2 q 0 = n + 1) : ∀ i, pm_Z (pastS i S) (pastH n i σ) ∧ (pastH n i σ).2 q 0 = n + 1 ∧ ∀ a j, a ≠ q → a ≤ n → (pastH n i σ).2 a j = σ.2 a j := by
  intro i
  induction i with
  | zero => exact ⟨hz, hv, fun _ _ _ _ => rfl⟩
  | succ i ih =>
    obtain ⟨ih1, ih2, ih3⟩ := ih
    obtain ⟨e, he, hl⟩ := pastS_x (S := S) i
    have hlen : (pastS i S ++ [(11, 4)]).length = n + (1 + 10 * i + 1) := by
      rw [List.length_append, he, List.length_append, hl, hn]
      simp only [List.length_cons, List.length_nil]
      omega
    have hnew : pm_is (pastS i S ++ [(11, 4)]) (n + (1 + 10 * i + 1)) 11 := pm_is_new (n := 4) 0 (by rw [List.length_append] at hlen; simp only [List.length_cons, List.length_nil] at hlen; omega) rfl
    have k8 := KX8_init l hnew (ih1.app [(11, 4)]) hlen
    have hz8 : pm_Z (pastS (i + 1) S) (gX8_init (n + (1 + 10 * i + 1)) (n + (1 + 10 * i + 1)) (pastH n i σ)) := k8.2.1
    have hle : n + 1 ≤ (pastS (i + 1) S).length := by
      obtain ⟨e2, he2, -⟩ := pastS_x (S := S) (i + 1)
      rw [he2, List.length_append]
      omega
    refine ⟨hz8.sr hle, ?_, fun a j ha hb => ?_⟩
    · show (pm_sr _ _ _ _).2 q 0 = _
      rw [pm_sr_2, if_neg (by omega), k8.2.2 q 0 (by omega) (by omega)]
      exact ih2
    · show (pm_sr _ _ _ _).2 a j = _
      rw [pm_sr_2, if_neg (by omega), k8.2.2 a j (by omega) (by omega)]
      exact ih3 a j ha hb
set_option maxRecDepth 100000 in
set_option maxHeartbeats 4000000 in
theorem KX3_init (l : Launch) {S : pm_S} {σ : pm_H} {q n : Nat} (h0 : pm_is S q 6) (hz : pm_Z S σ) (hn : S.length = n) : pm_M l yX3_init cX3_init 2 none true 3 [.ref q] S σ (none, eX3_init S, gX3_init n q σ) ∧ pm_Z (eX3_init S) (gX3_init n q σ) ∧ ∀ a j, a ≠ q → a ≤ n → (gX3_init n q σ).2 a j = σ.2 a j := by
  have hq0 := h0.pos
  have hq1 := h0.le
  have x1 : ∃ e, S ++ [(2, 16)] = S ++ e ∧ e.length = 1 := ⟨_, rfl, rfl⟩
  obtain ⟨S1, hS1⟩ : ∃ s, S ++ [(2, 16)] = s := ⟨_, rfl⟩
  rw [hS1] at x1
  obtain ⟨s1, es1⟩ : ∃ s, pm_sr σ q 0 (n + 1) = s := ⟨_, rfl⟩
  have hl1 : S1.length = n + 1 := by obtain ⟨e, he, hc⟩ := x1; rw [he, List.length_append, hn, hc]
  have ht1 := pm_isx x1 h0
  have hr1 : pm_is S1 (n + 1) 2 := by rw [← hS1]; exact pm_is_new (n := 16) 0 (by omega) rfl
  have hL1 : pm_len S1 (n + 1) = 16 := by rw [← hS1]; exact pm_len_new (t := 2) 0 (by omega) rfl
  have zz1 : pm_Z S1 s1 := by rw [← es1]; exact (pm_Zx x1 hz).sr ht1.le
  have hv1 : s1.2 q 0 = n + 1 := by rw [← es1]; simp [pm_sr_2]
  have stp := past_step l zz1 hl1 (by omega) hv1
  have hEe : eX3_init S = pastS 16 S1 := by rw [← hS1]; rfl
  have hGe : gX3_init n q σ = pastH n 16 s1 := by rw [← es1]; rfl
  refine ⟨?_, by rw [hEe, hGe]; exact (stp 16).1, fun a j ha hb => by rw [hGe, (stp 16).2.2 a j ha hb, ← es1, pm_sr_2, if_neg (by omega)]⟩
  refine pm_M.of (by decide +kernel) (Nat.le_of_ble_eq_true rfl) ?_
  show pm_E l yX3_init cX3_init 2 none true 3 S (none, eX3_init S, gX3_init n q σ) 0 [(0, .ref q)] [] S σ
  rw [hEe, hGe]
  have mono : ∀ i k, (pastS i S1).length ≤ (pastS (i + k) S1).length ∧ pm_tot (pastS i S1) ≤ pm_tot (pastS (i + k) S1) := by
    intro i k
    induction k with
    | zero => exact ⟨Nat.le_refl _, Nat.le_refl _⟩
    | succ k ih =>
      have h1 : ∃ e, pastS (i + k) S1 ++ [(11, 4)] = pastS (i + k) S1 ++ e ∧ e.length = 1 := ⟨_, rfl, rfl⟩
      exact pm_le_tr ih (pm_lex (pm_xt h1 (xX8_init (S := pastS (i + k) S1 ++ [(11, 4)]))))
  have loop : ∀ k i, i + k = 16 → pm_E l yX3_init cX3_init 2 none true 3 S (none, pastS 16 S1, pastH n 16 s1) 15 [(1, .int (nI i)), (0, .ref q)] [] (pastS i S1) (pastH n i s1) := by
    intro k
    induction k with
    | zero =>
      intro i hi
      have hi : i = 16 := by omega
      subst hi
      refine pm_iload_n (pc := 15) 0 dX3_init_15 rfl rfl ?_
      refine pm_bipush (pc := 16) (16 : Int32) (by decide) dX3_init_16 ?_
      refine pm_icmp_ge (pc := 18) 40 dX3_init_18 (by decide) (fun _ => ?_) (fun hc => absurd (by decide) hc)
      exact pm_vret rfl dX3_init_40 rfl
    | succ k ih =>
      intro i hi
      have hi16 : i < 16 := by omega
      obtain ⟨e, he, hle⟩ := pastS_x (S := S1) i
      have hlen : (pastS i S1).length = n + (1 + 10 * i) := by rw [he, List.length_append, hle, hl1]; omega
      have ht : pm_is (pastS i S1) q 6 := pm_isx (pastS_x i) ht1
      have x2 : ∃ e, pastS i S1 ++ [(11, 4)] = pastS i S1 ++ e ∧ e.length = 1 := ⟨_, rfl, rfl⟩
      have hlen2 : (pastS i S1 ++ [(11, 4)]).length = n + (1 + 10 * i + 1) := by rw [List.length_append, hlen]; rfl
      have hnew : pm_is (pastS i S1 ++ [(11, 4)]) (n + (1 + 10 * i + 1)) 11 := pm_is_new (n := 4) 0 (by omega) rfl
      have k8 := KX8_init l hnew ((stp i).1.app [(11, 4)]) hlen2
      have x3 : ∃ e, pastS (i + 1) S1 = pastS i S1 ++ [(11, 4)] ++ e ∧ e.length = 9 := xX8_init
      have hr3 : pm_is (pastS (i + 1) S1) (n + 1) 2 := pm_isx (pastS_x (i + 1)) hr1
      have hL3 : pm_len (pastS (i + 1) S1) (n + 1) = 16 := pm_lenx (pastS_x (i + 1)) hr1 hL1
      have le2 : (pastS (i + 1) S1).length ≤ (pastS 16 S1).length ∧ pm_tot (pastS (i + 1) S1) ≤ pm_tot (pastS 16 S1) := by
        have h9 := mono (i + 1) k
        rw [show i + 1 + k = 16 by omega] at h9
        exact h9
      refine pm_iload_n (pc := 15) 0 dX3_init_15 rfl rfl ?_
      refine pm_bipush (pc := 16) (16 : Int32) (by decide) dX3_init_16 ?_
      refine pm_icmp_ge (pc := 18) 40 dX3_init_18 (by decide) (fun hc => absurd hc (nI_ge (b := 16) hi16 (by decide))) (fun _ => ?_)
      refine pm_aload_n (pc := 21) 1 dX3_init_21 rfl rfl h0.pos ?_
      refine pm_getR (pc := 22) (k := 0) pm_cl3 flX3_11 (by decide) rfl ht dX3_init_22 ?_
      refine pm_nmr (z := n + 1) (stp i).2.1 ?_
      refine pm_iload_n (pc := 25) 0 dX3_init_25 rfl rfl ?_
      refine pm_new' (pc := 26) (q := n + (1 + 10 * i + 1)) (S' := pastS i S1 ++ [(11, 4)]) pm_cl8 cnX3_9 (stp i).1 (by decide +kernel) (by omega) rfl (pm_le_tr (pm_lex x3) le2) dX3_init_26 ?_
      refine pm_dup (pc := 29) rfl dX3_init_29 ?_
      refine pm_cI (pc := 30) (st := [.ref (n + (1 + 10 * i + 1)), .int (nI i), .ref (n + 1)]) (S' := pastS (i + 1) S1) miX3_17 k8.1 (by decide) (by omega) rfl (Nat.le_of_ble_eq_true rfl) (pm_lex x3) (fun z => by cases z) le2 dX3_init_30 ?_
      refine pm_aast (pc := 33) hr3 (pm_isx x3 hnew) (by rw [hL3]; exact vp_in_nI hi16 (by decide)) dX3_init_33 ?_
      rw [nI_clamp (by omega)]
      refine pm_iinc (pc := 34) 0 (nI (i + 1)) [(1, .int (nI (i + 1))), (0, .ref q)] dX3_init_34 rfl (nI_succ i).symm (by decide) rfl ?_
      refine pm_goto (pc := 37) 15 dX3_init_37 (by decide) ?_
      exact ih (i + 1) (by omega)
  refine pm_aload_n (pc := 0) 0 dX3_init_0 rfl rfl h0.pos ?_
  refine pm_objInit (pc := 1) oiX3_3 h0.pos (Nat.le_of_ble_eq_true rfl) (by decide) dX3_init_1 ?_
  refine pm_aload_n (pc := 4) 0 dX3_init_4 rfl rfl h0.pos ?_
  refine pm_bipush (pc := 5) (16 : Int32) (by decide) dX3_init_5 ?_
  refine pm_anew' (pc := 7) (q := n + 1) (N := 16) (S' := S1) caX3_9 hz rfl (by decide) (by omega) hS1 (mono 0 16) dX3_init_7 ?_
  refine pm_putR (pc := 10) (k := 0) pm_cl3 flX3_11 (by decide) rfl (fun _ => ⟨rfl, rfl⟩) (Or.inr ⟨rfl, rfl, rfl⟩) ht1 hr1 dX3_init_10 ?_
  refine pm_nmh es1 ?_
  refine pm_iconst (pc := 13) (nI 0) (by decide) dX3_init_13 ?_
  refine pm_istore_n (pc := 14) [(1, .int (nI 0)), (0, .ref q)] dX3_init_14 rfl (by decide) rfl ?_
  exact loop 16 0 rfl

def eX2_init (S : pm_S) : pm_S :=
  let S1 := S ++ [(0, 1000)]
  let S2 := S1 ++ [(0, 1000)]
  let S3 := S2 ++ [(0, 6)]
  S3
def gX2_init (n q : Nat) (σ : pm_H) : pm_H :=
  let s1 := pm_sr σ q 0 (n + 1)
  let s2 := pm_sr s1 q 1 (n + 2)
  let s3 := pm_sr s2 q 3 (n + 3)
  s3
theorem xX2_init {S : pm_S} : ∃ e, eX2_init S = S ++ e ∧ e.length = 3 := by
  obtain ⟨S1, hS1⟩ : ∃ s, S ++ [(0, 1000)] = s := ⟨_, rfl⟩
  have xS1 : ∃ e, S1 = S ++ e ∧ e.length = 1 := ⟨_, hS1.symm, rfl⟩
  obtain ⟨S2, hS2⟩ : ∃ s, S1 ++ [(0, 1000)] = s := ⟨_, rfl⟩
  have xS2 : ∃ e, S2 = S1 ++ e ∧ e.length = 1 := ⟨_, hS2.symm, rfl⟩
  obtain ⟨S3, hS3⟩ : ∃ s, S2 ++ [(0, 6)] = s := ⟨_, rfl⟩
  have xS3 : ∃ e, S3 = S2 ++ e ∧ e.length = 1 := ⟨_, hS3.symm, rfl⟩
  have hEe : eX2_init S = S3 := by rw [← hS3, ← hS2, ← hS1]; rfl
  rw [hEe]
  exact pm_xt (pm_xt (xS1) xS2) xS3
set_option maxRecDepth 100000 in
set_option maxHeartbeats 4000000 in
theorem KX2_init (l : Launch) {S : pm_S} {σ : pm_H} {q n : Nat} (h0 : pm_is S q 5) (hz : pm_Z S σ) (hn : S.length = n) : pm_M l yX2_init cX2_init 1 none true 1 [.ref q] S σ (none, eX2_init S, gX2_init n q σ) ∧ pm_Z (eX2_init S) (gX2_init n q σ) ∧ ∀ a j, a ≠ q → a ≤ n → (gX2_init n q σ).2 a j = σ.2 a j := by
  have hq0 := h0.pos
  have hqn : q ≤ n := by have hq1 := h0.le; omega
  obtain ⟨S1, hS1⟩ : ∃ s, S ++ [(0, 1000)] = s := ⟨_, rfl⟩
  have xS1 : ∃ e, S1 = S ++ e ∧ e.length = 1 := ⟨[(0, 1000)], hS1.symm, rfl⟩
  have hl1 : S1.length = n + 1 := by obtain ⟨e, he, hc⟩ := xS1; rw [he, List.length_append, hn, hc]
  have ht_1 := pm_isx xS1 h0
  have hm1_1 : pm_is S1 (n + 1) 0 := by rw [← hS1]; exact pm_is_nw hn
  have zS1 : pm_Z S1 σ := pm_Zx xS1 hz
  obtain ⟨s1, es1⟩ : ∃ s, pm_sr σ q 0 (n + 1) = s := ⟨_, rfl⟩
  have zs1 : pm_Z S1 s1 := by rw [← es1]; exact zS1.sr ht_1.le
  have fr1 : ∀ a j, a ≠ q → a ≤ n → s1.2 a j = σ.2 a j := by intro a j ha hb; rw [← es1, pm_sr_2, if_neg (fun z => ha z.1)]
  obtain ⟨S2, hS2⟩ : ∃ s, S1 ++ [(0, 1000)] = s := ⟨_, rfl⟩
  have xS2 : ∃ e, S2 = S1 ++ e ∧ e.length = 1 := ⟨[(0, 1000)], hS2.symm, rfl⟩
  have hl2 : S2.length = n + 2 := by obtain ⟨e, he, hc⟩ := xS2; rw [he, List.length_append, hl1, hc]
  have ht_2 := pm_isx xS2 ht_1
  have hm2_2 : pm_is S2 (n + 2) 0 := by rw [← hS2]; exact pm_is_nw hl1
  have zS2 : pm_Z S2 s1 := pm_Zx xS2 zs1
  obtain ⟨s2, es2⟩ : ∃ s, pm_sr s1 q 1 (n + 2) = s := ⟨_, rfl⟩
  have zs2 : pm_Z S2 s2 := by rw [← es2]; exact zS2.sr ht_2.le
  have fr2 : ∀ a j, a ≠ q → a ≤ n → s2.2 a j = σ.2 a j := by intro a j ha hb; rw [← es2, pm_sr_2, if_neg (fun z => ha z.1)]; exact fr1 a j ha hb
  obtain ⟨S3, hS3⟩ : ∃ s, S2 ++ [(0, 6)] = s := ⟨_, rfl⟩
  have xS3 : ∃ e, S3 = S2 ++ e ∧ e.length = 1 := ⟨[(0, 6)], hS3.symm, rfl⟩
  have hl3 : S3.length = n + 3 := by obtain ⟨e, he, hc⟩ := xS3; rw [he, List.length_append, hl2, hc]
  have ht_3 := pm_isx xS3 ht_2
  have hm3_3 : pm_is S3 (n + 3) 0 := by rw [← hS3]; exact pm_is_nw hl2
  have zS3 : pm_Z S3 s2 := pm_Zx xS3 zs2
  obtain ⟨s3, es3⟩ : ∃ s, pm_sr s2 q 3 (n + 3) = s := ⟨_, rfl⟩
  have zs3 : pm_Z S3 s3 := by rw [← es3]; exact zS3.sr ht_3.le
  have fr3 : ∀ a j, a ≠ q → a ≤ n → s3.2 a j = σ.2 a j := by intro a j ha hb; rw [← es3, pm_sr_2, if_neg (fun z => ha z.1)]; exact fr2 a j ha hb
  have hEe : eX2_init S = S3 := by rw [← hS3, ← hS2, ← hS1]; rfl
  have hGe : gX2_init n q σ = s3 := by rw [← es3, ← es2, ← es1]; rfl
  have le3 : S3.length ≤ (eX2_init S).length ∧ pm_tot S3 ≤ pm_tot (eX2_init S) := by rw [hEe]; exact ⟨Nat.le_refl _, Nat.le_refl _⟩
  have le2 := pm_le_tr (pm_lex xS3) le3
  have le1 := pm_le_tr (pm_lex xS2) le2
  refine ⟨?_, by rw [hEe, hGe]; exact zs3, by rw [hGe]; exact fr3⟩
  refine pm_M.of (by decide +kernel) (Nat.le_of_ble_eq_true rfl) ?_
  show pm_E l yX2_init cX2_init 1 none true 1 S (none, eX2_init S, gX2_init n q σ) 0 [(0, .ref q)] [] S σ
  refine pm_aload_n (pc := 0) 0 dX2_init_0 rfl rfl h0.pos ?_
  refine pm_objInit (pc := 1) oiX2_3 h0.pos (Nat.le_of_ble_eq_true rfl) (by decide) dX2_init_1 ?_
  refine pm_aload_n (pc := 4) 0 dX2_init_4 rfl rfl h0.pos ?_
  refine pm_sipush (pc := 5) (1000 : Int32) (by decide) dX2_init_5 ?_
  refine pm_newa' (pc := 8) (q := (n + 1)) (N := 1000) (S' := S1) (Or.inl ⟨rfl, rfl⟩) ac_int hz rfl (by decide) (congrArg (· + 1) hn) hS1 le1 dX2_init_8 ?_
  refine pm_putR (pc := 10) (k := 0) pm_cl2 flX2_9 (by decide) rfl (fun _ => ⟨rfl, rfl⟩) (Or.inr ⟨rfl, rfl, rfl⟩) ht_1 hm1_1 dX2_init_10 ?_
  refine pm_nmh es1 ?_
  refine pm_aload_n (pc := 13) 0 dX2_init_13 rfl rfl h0.pos ?_
  refine pm_sipush (pc := 14) (1000 : Int32) (by decide) dX2_init_14 ?_
  refine pm_newa' (pc := 17) (q := (n + 2)) (N := 1000) (S' := S2) (Or.inl ⟨rfl, rfl⟩) ac_int zs1 rfl (by decide) (congrArg (· + 1) hl1) hS2 le2 dX2_init_17 ?_
  refine pm_putR (pc := 19) (k := 1) pm_cl2 flX2_15 (by decide) rfl (fun _ => ⟨rfl, rfl⟩) (Or.inr ⟨rfl, rfl, rfl⟩) ht_2 hm2_2 dX2_init_19 ?_
  refine pm_nmh es2 ?_
  refine pm_aload_n (pc := 22) 0 dX2_init_22 rfl rfl h0.pos ?_
  refine pm_bipush (pc := 23) (6 : Int32) (by decide) dX2_init_23 ?_
  refine pm_newa' (pc := 25) (q := (n + 3)) (N := 6) (S' := S3) (Or.inl ⟨rfl, rfl⟩) ac_int zs2 rfl (by decide) (congrArg (· + 1) hl2) hS3 le3 dX2_init_25 ?_
  refine pm_putR (pc := 27) (k := 3) pm_cl2 flX2_18 (by decide) rfl (fun _ => ⟨rfl, rfl⟩) (Or.inr ⟨rfl, rfl, rfl⟩) ht_3 hm3_3 dX2_init_27 ?_
  refine pm_nmh es3 ?_
  exact pm_vret rfl dX2_init_30 (by rw [hEe, hGe])
def eX4_init (S : pm_S) : pm_S :=
  let S1 := S ++ [(0, 6)]
  let S2 := S1 ++ [(0, 448)]
  S2
def gX4_init (n q : Nat) (σ : pm_H) : pm_H :=
  let s1 := pm_sr σ q 0 (n + 1)
  let s2 := pm_sr s1 q 1 (n + 2)
  s2
theorem xX4_init {S : pm_S} : ∃ e, eX4_init S = S ++ e ∧ e.length = 2 := by
  obtain ⟨S1, hS1⟩ : ∃ s, S ++ [(0, 6)] = s := ⟨_, rfl⟩
  have xS1 : ∃ e, S1 = S ++ e ∧ e.length = 1 := ⟨_, hS1.symm, rfl⟩
  obtain ⟨S2, hS2⟩ : ∃ s, S1 ++ [(0, 448)] = s := ⟨_, rfl⟩
  have xS2 : ∃ e, S2 = S1 ++ e ∧ e.length = 1 := ⟨_, hS2.symm, rfl⟩
  have hEe : eX4_init S = S2 := by rw [← hS2, ← hS1]; rfl
  rw [hEe]
  exact pm_xt (xS1) xS2
set_option maxRecDepth 100000 in
set_option maxHeartbeats 4000000 in
theorem KX4_init (l : Launch) {S : pm_S} {σ : pm_H} {q n : Nat} (h0 : pm_is S q 7) (hz : pm_Z S σ) (hn : S.length = n) : pm_M l yX4_init cX4_init 1 none true 1 [.ref q] S σ (none, eX4_init S, gX4_init n q σ) ∧ pm_Z (eX4_init S) (gX4_init n q σ) ∧ ∀ a j, a ≠ q → a ≤ n → (gX4_init n q σ).2 a j = σ.2 a j := by
  have hq0 := h0.pos
  have hqn : q ≤ n := by have hq1 := h0.le; omega
  obtain ⟨S1, hS1⟩ : ∃ s, S ++ [(0, 6)] = s := ⟨_, rfl⟩
  have xS1 : ∃ e, S1 = S ++ e ∧ e.length = 1 := ⟨[(0, 6)], hS1.symm, rfl⟩
  have hl1 : S1.length = n + 1 := by obtain ⟨e, he, hc⟩ := xS1; rw [he, List.length_append, hn, hc]
  have ht_1 := pm_isx xS1 h0
  have hm1_1 : pm_is S1 (n + 1) 0 := by rw [← hS1]; exact pm_is_nw hn
  have zS1 : pm_Z S1 σ := pm_Zx xS1 hz
  obtain ⟨s1, es1⟩ : ∃ s, pm_sr σ q 0 (n + 1) = s := ⟨_, rfl⟩
  have zs1 : pm_Z S1 s1 := by rw [← es1]; exact zS1.sr ht_1.le
  have fr1 : ∀ a j, a ≠ q → a ≤ n → s1.2 a j = σ.2 a j := by intro a j ha hb; rw [← es1, pm_sr_2, if_neg (fun z => ha z.1)]
  obtain ⟨S2, hS2⟩ : ∃ s, S1 ++ [(0, 448)] = s := ⟨_, rfl⟩
  have xS2 : ∃ e, S2 = S1 ++ e ∧ e.length = 1 := ⟨[(0, 448)], hS2.symm, rfl⟩
  have hl2 : S2.length = n + 2 := by obtain ⟨e, he, hc⟩ := xS2; rw [he, List.length_append, hl1, hc]
  have ht_2 := pm_isx xS2 ht_1
  have hm2_2 : pm_is S2 (n + 2) 0 := by rw [← hS2]; exact pm_is_nw hl1
  have zS2 : pm_Z S2 s1 := pm_Zx xS2 zs1
  obtain ⟨s2, es2⟩ : ∃ s, pm_sr s1 q 1 (n + 2) = s := ⟨_, rfl⟩
  have zs2 : pm_Z S2 s2 := by rw [← es2]; exact zS2.sr ht_2.le
  have fr2 : ∀ a j, a ≠ q → a ≤ n → s2.2 a j = σ.2 a j := by intro a j ha hb; rw [← es2, pm_sr_2, if_neg (fun z => ha z.1)]; exact fr1 a j ha hb
  have hEe : eX4_init S = S2 := by rw [← hS2, ← hS1]; rfl
  have hGe : gX4_init n q σ = s2 := by rw [← es2, ← es1]; rfl
  have le2 : S2.length ≤ (eX4_init S).length ∧ pm_tot S2 ≤ pm_tot (eX4_init S) := by rw [hEe]; exact ⟨Nat.le_refl _, Nat.le_refl _⟩
  have le1 := pm_le_tr (pm_lex xS2) le2
  refine ⟨?_, by rw [hEe, hGe]; exact zs2, by rw [hGe]; exact fr2⟩
  refine pm_M.of (by decide +kernel) (Nat.le_of_ble_eq_true rfl) ?_
  show pm_E l yX4_init cX4_init 1 none true 1 S (none, eX4_init S, gX4_init n q σ) 0 [(0, .ref q)] [] S σ
  refine pm_aload_n (pc := 0) 0 dX4_init_0 rfl rfl h0.pos ?_
  refine pm_objInit (pc := 1) oiX4_3 h0.pos (Nat.le_of_ble_eq_true rfl) (by decide) dX4_init_1 ?_
  refine pm_aload_n (pc := 4) 0 dX4_init_4 rfl rfl h0.pos ?_
  refine pm_bipush (pc := 5) (6 : Int32) (by decide) dX4_init_5 ?_
  refine pm_newa' (pc := 7) (q := (n + 1)) (N := 6) (S' := S1) (Or.inl ⟨rfl, rfl⟩) ac_int hz rfl (by decide) (congrArg (· + 1) hn) hS1 le1 dX4_init_7 ?_
  refine pm_putR (pc := 9) (k := 0) pm_cl4 flX4_9 (by decide) rfl (fun _ => ⟨rfl, rfl⟩) (Or.inr ⟨rfl, rfl, rfl⟩) ht_1 hm1_1 dX4_init_9 ?_
  refine pm_nmh es1 ?_
  refine pm_aload_n (pc := 12) 0 dX4_init_12 rfl rfl h0.pos ?_
  refine pm_sipush (pc := 13) (448 : Int32) (by decide) dX4_init_13 ?_
  refine pm_newa' (pc := 16) (q := (n + 2)) (N := 448) (S' := S2) (Or.inl ⟨rfl, rfl⟩) ac_int zs1 rfl (by decide) (congrArg (· + 1) hl1) hS2 le2 dX4_init_16 ?_
  refine pm_putR (pc := 18) (k := 1) pm_cl4 flX4_15 (by decide) rfl (fun _ => ⟨rfl, rfl⟩) (Or.inr ⟨rfl, rfl, rfl⟩) ht_2 hm2_2 dX4_init_18 ?_
  refine pm_nmh es2 ?_
  exact pm_vret rfl dX4_init_21 (by rw [hEe, hGe])
def eX7_init (S : pm_S) : pm_S :=
  let S1 := S ++ [(0, 6)]
  let S2 := S1 ++ [(0, 6)]
  let S3 := S2 ++ [(0, 241)]
  let S4 := S3 ++ [(0, 241)]
  let S5 := S4 ++ [(0, 2179)]
  S5
def gX7_init (n q : Nat) (σ : pm_H) : pm_H :=
  let s1 := pm_sr σ q 0 (n + 1)
  let s2 := pm_sr s1 q 1 (n + 2)
  let s3 := pm_sr s2 q 3 (n + 3)
  let s4 := pm_sr s3 q 4 (n + 4)
  let s5 := pm_sr s4 q 5 (n + 5)
  s5
theorem xX7_init {S : pm_S} : ∃ e, eX7_init S = S ++ e ∧ e.length = 5 := by
  obtain ⟨S1, hS1⟩ : ∃ s, S ++ [(0, 6)] = s := ⟨_, rfl⟩
  have xS1 : ∃ e, S1 = S ++ e ∧ e.length = 1 := ⟨_, hS1.symm, rfl⟩
  obtain ⟨S2, hS2⟩ : ∃ s, S1 ++ [(0, 6)] = s := ⟨_, rfl⟩
  have xS2 : ∃ e, S2 = S1 ++ e ∧ e.length = 1 := ⟨_, hS2.symm, rfl⟩
  obtain ⟨S3, hS3⟩ : ∃ s, S2 ++ [(0, 241)] = s := ⟨_, rfl⟩
  have xS3 : ∃ e, S3 = S2 ++ e ∧ e.length = 1 := ⟨_, hS3.symm, rfl⟩
  obtain ⟨S4, hS4⟩ : ∃ s, S3 ++ [(0, 241)] = s := ⟨_, rfl⟩
  have xS4 : ∃ e, S4 = S3 ++ e ∧ e.length = 1 := ⟨_, hS4.symm, rfl⟩
  obtain ⟨S5, hS5⟩ : ∃ s, S4 ++ [(0, 2179)] = s := ⟨_, rfl⟩
  have xS5 : ∃ e, S5 = S4 ++ e ∧ e.length = 1 := ⟨_, hS5.symm, rfl⟩
  have hEe : eX7_init S = S5 := by rw [← hS5, ← hS4, ← hS3, ← hS2, ← hS1]; rfl
  rw [hEe]
  exact pm_xt (pm_xt (pm_xt (pm_xt (xS1) xS2) xS3) xS4) xS5
set_option maxRecDepth 100000 in
set_option maxHeartbeats 4000000 in
theorem KX7_init (l : Launch) {S : pm_S} {σ : pm_H} {q n : Nat} (h0 : pm_is S q 10) (hz : pm_Z S σ) (hn : S.length = n) : pm_M l yX7_init cX7_init 1 none true 1 [.ref q] S σ (none, eX7_init S, gX7_init n q σ) ∧ pm_Z (eX7_init S) (gX7_init n q σ) ∧ ∀ a j, a ≠ q → a ≤ n → (gX7_init n q σ).2 a j = σ.2 a j := by
  have hq0 := h0.pos
  have hqn : q ≤ n := by have hq1 := h0.le; omega
  obtain ⟨S1, hS1⟩ : ∃ s, S ++ [(0, 6)] = s := ⟨_, rfl⟩
  have xS1 : ∃ e, S1 = S ++ e ∧ e.length = 1 := ⟨[(0, 6)], hS1.symm, rfl⟩
  have hl1 : S1.length = n + 1 := by obtain ⟨e, he, hc⟩ := xS1; rw [he, List.length_append, hn, hc]
  have ht_1 := pm_isx xS1 h0
  have hm1_1 : pm_is S1 (n + 1) 0 := by rw [← hS1]; exact pm_is_nw hn
  have zS1 : pm_Z S1 σ := pm_Zx xS1 hz
  obtain ⟨s1, es1⟩ : ∃ s, pm_sr σ q 0 (n + 1) = s := ⟨_, rfl⟩
  have zs1 : pm_Z S1 s1 := by rw [← es1]; exact zS1.sr ht_1.le
  have fr1 : ∀ a j, a ≠ q → a ≤ n → s1.2 a j = σ.2 a j := by intro a j ha hb; rw [← es1, pm_sr_2, if_neg (fun z => ha z.1)]
  obtain ⟨S2, hS2⟩ : ∃ s, S1 ++ [(0, 6)] = s := ⟨_, rfl⟩
  have xS2 : ∃ e, S2 = S1 ++ e ∧ e.length = 1 := ⟨[(0, 6)], hS2.symm, rfl⟩
  have hl2 : S2.length = n + 2 := by obtain ⟨e, he, hc⟩ := xS2; rw [he, List.length_append, hl1, hc]
  have ht_2 := pm_isx xS2 ht_1
  have hm2_2 : pm_is S2 (n + 2) 0 := by rw [← hS2]; exact pm_is_nw hl1
  have zS2 : pm_Z S2 s1 := pm_Zx xS2 zs1
  obtain ⟨s2, es2⟩ : ∃ s, pm_sr s1 q 1 (n + 2) = s := ⟨_, rfl⟩
  have zs2 : pm_Z S2 s2 := by rw [← es2]; exact zS2.sr ht_2.le
  have fr2 : ∀ a j, a ≠ q → a ≤ n → s2.2 a j = σ.2 a j := by intro a j ha hb; rw [← es2, pm_sr_2, if_neg (fun z => ha z.1)]; exact fr1 a j ha hb
  obtain ⟨S3, hS3⟩ : ∃ s, S2 ++ [(0, 241)] = s := ⟨_, rfl⟩
  have xS3 : ∃ e, S3 = S2 ++ e ∧ e.length = 1 := ⟨[(0, 241)], hS3.symm, rfl⟩
  have hl3 : S3.length = n + 3 := by obtain ⟨e, he, hc⟩ := xS3; rw [he, List.length_append, hl2, hc]
  have ht_3 := pm_isx xS3 ht_2
  have hm3_3 : pm_is S3 (n + 3) 0 := by rw [← hS3]; exact pm_is_nw hl2
  have zS3 : pm_Z S3 s2 := pm_Zx xS3 zs2
  obtain ⟨s3, es3⟩ : ∃ s, pm_sr s2 q 3 (n + 3) = s := ⟨_, rfl⟩
  have zs3 : pm_Z S3 s3 := by rw [← es3]; exact zS3.sr ht_3.le
  have fr3 : ∀ a j, a ≠ q → a ≤ n → s3.2 a j = σ.2 a j := by intro a j ha hb; rw [← es3, pm_sr_2, if_neg (fun z => ha z.1)]; exact fr2 a j ha hb
  obtain ⟨S4, hS4⟩ : ∃ s, S3 ++ [(0, 241)] = s := ⟨_, rfl⟩
  have xS4 : ∃ e, S4 = S3 ++ e ∧ e.length = 1 := ⟨[(0, 241)], hS4.symm, rfl⟩
  have hl4 : S4.length = n + 4 := by obtain ⟨e, he, hc⟩ := xS4; rw [he, List.length_append, hl3, hc]
  have ht_4 := pm_isx xS4 ht_3
  have hm4_4 : pm_is S4 (n + 4) 0 := by rw [← hS4]; exact pm_is_nw hl3
  have zS4 : pm_Z S4 s3 := pm_Zx xS4 zs3
  obtain ⟨s4, es4⟩ : ∃ s, pm_sr s3 q 4 (n + 4) = s := ⟨_, rfl⟩
  have zs4 : pm_Z S4 s4 := by rw [← es4]; exact zS4.sr ht_4.le
  have fr4 : ∀ a j, a ≠ q → a ≤ n → s4.2 a j = σ.2 a j := by intro a j ha hb; rw [← es4, pm_sr_2, if_neg (fun z => ha z.1)]; exact fr3 a j ha hb
  obtain ⟨S5, hS5⟩ : ∃ s, S4 ++ [(0, 2179)] = s := ⟨_, rfl⟩
  have xS5 : ∃ e, S5 = S4 ++ e ∧ e.length = 1 := ⟨[(0, 2179)], hS5.symm, rfl⟩
  have hl5 : S5.length = n + 5 := by obtain ⟨e, he, hc⟩ := xS5; rw [he, List.length_append, hl4, hc]
  have ht_5 := pm_isx xS5 ht_4
  have hm5_5 : pm_is S5 (n + 5) 0 := by rw [← hS5]; exact pm_is_nw hl4
  have zS5 : pm_Z S5 s4 := pm_Zx xS5 zs4
  obtain ⟨s5, es5⟩ : ∃ s, pm_sr s4 q 5 (n + 5) = s := ⟨_, rfl⟩
  have zs5 : pm_Z S5 s5 := by rw [← es5]; exact zS5.sr ht_5.le
  have fr5 : ∀ a j, a ≠ q → a ≤ n → s5.2 a j = σ.2 a j := by intro a j ha hb; rw [← es5, pm_sr_2, if_neg (fun z => ha z.1)]; exact fr4 a j ha hb
  have hEe : eX7_init S = S5 := by rw [← hS5, ← hS4, ← hS3, ← hS2, ← hS1]; rfl
  have hGe : gX7_init n q σ = s5 := by rw [← es5, ← es4, ← es3, ← es2, ← es1]; rfl
  have le5 : S5.length ≤ (eX7_init S).length ∧ pm_tot S5 ≤ pm_tot (eX7_init S) := by rw [hEe]; exact ⟨Nat.le_refl _, Nat.le_refl _⟩
  have le4 := pm_le_tr (pm_lex xS5) le5
  have le3 := pm_le_tr (pm_lex xS4) le4
  have le2 := pm_le_tr (pm_lex xS3) le3
  have le1 := pm_le_tr (pm_lex xS2) le2
  refine ⟨?_, by rw [hEe, hGe]; exact zs5, by rw [hGe]; exact fr5⟩
  refine pm_M.of (by decide +kernel) (Nat.le_of_ble_eq_true rfl) ?_
  show pm_E l yX7_init cX7_init 1 none true 1 S (none, eX7_init S, gX7_init n q σ) 0 [(0, .ref q)] [] S σ
  refine pm_aload_n (pc := 0) 0 dX7_init_0 rfl rfl h0.pos ?_
  refine pm_objInit (pc := 1) oiX7_3 h0.pos (Nat.le_of_ble_eq_true rfl) (by decide) dX7_init_1 ?_
  refine pm_aload_n (pc := 4) 0 dX7_init_4 rfl rfl h0.pos ?_
  refine pm_bipush (pc := 5) (6 : Int32) (by decide) dX7_init_5 ?_
  refine pm_newa' (pc := 7) (q := (n + 1)) (N := 6) (S' := S1) (Or.inl ⟨rfl, rfl⟩) ac_int hz rfl (by decide) (congrArg (· + 1) hn) hS1 le1 dX7_init_7 ?_
  refine pm_putR (pc := 9) (k := 0) pm_cl7 flX7_9 (by decide) rfl (fun _ => ⟨rfl, rfl⟩) (Or.inr ⟨rfl, rfl, rfl⟩) ht_1 hm1_1 dX7_init_9 ?_
  refine pm_nmh es1 ?_
  refine pm_aload_n (pc := 12) 0 dX7_init_12 rfl rfl h0.pos ?_
  refine pm_bipush (pc := 13) (6 : Int32) (by decide) dX7_init_13 ?_
  refine pm_newa' (pc := 15) (q := (n + 2)) (N := 6) (S' := S2) (Or.inl ⟨rfl, rfl⟩) ac_int zs1 rfl (by decide) (congrArg (· + 1) hl1) hS2 le2 dX7_init_15 ?_
  refine pm_putR (pc := 17) (k := 1) pm_cl7 flX7_15 (by decide) rfl (fun _ => ⟨rfl, rfl⟩) (Or.inr ⟨rfl, rfl, rfl⟩) ht_2 hm2_2 dX7_init_17 ?_
  refine pm_nmh es2 ?_
  refine pm_aload_n (pc := 20) 0 dX7_init_20 rfl rfl h0.pos ?_
  refine pm_sipush (pc := 21) (241 : Int32) (by decide) dX7_init_21 ?_
  refine pm_newa' (pc := 24) (q := (n + 3)) (N := 241) (S' := S3) (Or.inl ⟨rfl, rfl⟩) ac_int zs2 rfl (by decide) (congrArg (· + 1) hl2) hS3 le3 dX7_init_24 ?_
  refine pm_putR (pc := 26) (k := 3) pm_cl7 flX7_18 (by decide) rfl (fun _ => ⟨rfl, rfl⟩) (Or.inr ⟨rfl, rfl, rfl⟩) ht_3 hm3_3 dX7_init_26 ?_
  refine pm_nmh es3 ?_
  refine pm_aload_n (pc := 29) 0 dX7_init_29 rfl rfl h0.pos ?_
  refine pm_sipush (pc := 30) (241 : Int32) (by decide) dX7_init_30 ?_
  refine pm_newa' (pc := 33) (q := (n + 4)) (N := 241) (S' := S4) (Or.inl ⟨rfl, rfl⟩) ac_int zs3 rfl (by decide) (congrArg (· + 1) hl3) hS4 le4 dX7_init_33 ?_
  refine pm_putR (pc := 35) (k := 4) pm_cl7 flX7_21 (by decide) rfl (fun _ => ⟨rfl, rfl⟩) (Or.inr ⟨rfl, rfl, rfl⟩) ht_4 hm4_4 dX7_init_35 ?_
  refine pm_nmh es4 ?_
  refine pm_aload_n (pc := 38) 0 dX7_init_38 rfl rfl h0.pos ?_
  refine pm_sipush (pc := 39) (2179 : Int32) (by decide) dX7_init_39 ?_
  refine pm_newa' (pc := 42) (q := (n + 5)) (N := 2179) (S' := S5) (Or.inl ⟨rfl, rfl⟩) ac_int zs4 rfl (by decide) (congrArg (· + 1) hl4) hS5 le5 dX7_init_42 ?_
  refine pm_putR (pc := 44) (k := 5) pm_cl7 flX7_24 (by decide) rfl (fun _ => ⟨rfl, rfl⟩) (Or.inr ⟨rfl, rfl, rfl⟩) ht_5 hm5_5 dX7_init_44 ?_
  refine pm_nmh es5 ?_
  exact pm_vret rfl dX7_init_47 (by rw [hEe, hGe])
def eX0_init (S : pm_S) : pm_S :=
  let S1 := S ++ [(0, 15)]
  let S2 := S1 ++ [(0, 15)]
  S2
def gX0_init (n q : Nat) (σ : pm_H) : pm_H :=
  let s1 := pm_sr σ q 0 (n + 1)
  let s2 := pm_sr s1 q 1 (n + 2)
  s2
theorem xX0_init {S : pm_S} : ∃ e, eX0_init S = S ++ e ∧ e.length = 2 := by
  obtain ⟨S1, hS1⟩ : ∃ s, S ++ [(0, 15)] = s := ⟨_, rfl⟩
  have xS1 : ∃ e, S1 = S ++ e ∧ e.length = 1 := ⟨_, hS1.symm, rfl⟩
  obtain ⟨S2, hS2⟩ : ∃ s, S1 ++ [(0, 15)] = s := ⟨_, rfl⟩
  have xS2 : ∃ e, S2 = S1 ++ e ∧ e.length = 1 := ⟨_, hS2.symm, rfl⟩
  have hEe : eX0_init S = S2 := by rw [← hS2, ← hS1]; rfl
  rw [hEe]
  exact pm_xt (xS1) xS2
set_option maxRecDepth 100000 in
set_option maxHeartbeats 4000000 in
theorem KX0_init (l : Launch) {S : pm_S} {σ : pm_H} {q n : Nat} (h0 : pm_is S q 3) (hz : pm_Z S σ) (hn : S.length = n) : pm_M l yX0_init cX0_init 1 none true 1 [.ref q] S σ (none, eX0_init S, gX0_init n q σ) ∧ pm_Z (eX0_init S) (gX0_init n q σ) ∧ ∀ a j, a ≠ q → a ≤ n → (gX0_init n q σ).2 a j = σ.2 a j := by
  have hq0 := h0.pos
  have hqn : q ≤ n := by have hq1 := h0.le; omega
  obtain ⟨S1, hS1⟩ : ∃ s, S ++ [(0, 15)] = s := ⟨_, rfl⟩
  have xS1 : ∃ e, S1 = S ++ e ∧ e.length = 1 := ⟨[(0, 15)], hS1.symm, rfl⟩
  have hl1 : S1.length = n + 1 := by obtain ⟨e, he, hc⟩ := xS1; rw [he, List.length_append, hn, hc]
  have ht_1 := pm_isx xS1 h0
  have hm1_1 : pm_is S1 (n + 1) 0 := by rw [← hS1]; exact pm_is_nw hn
  have zS1 : pm_Z S1 σ := pm_Zx xS1 hz
  obtain ⟨s1, es1⟩ : ∃ s, pm_sr σ q 0 (n + 1) = s := ⟨_, rfl⟩
  have zs1 : pm_Z S1 s1 := by rw [← es1]; exact zS1.sr ht_1.le
  have fr1 : ∀ a j, a ≠ q → a ≤ n → s1.2 a j = σ.2 a j := by intro a j ha hb; rw [← es1, pm_sr_2, if_neg (fun z => ha z.1)]
  obtain ⟨S2, hS2⟩ : ∃ s, S1 ++ [(0, 15)] = s := ⟨_, rfl⟩
  have xS2 : ∃ e, S2 = S1 ++ e ∧ e.length = 1 := ⟨[(0, 15)], hS2.symm, rfl⟩
  have hl2 : S2.length = n + 2 := by obtain ⟨e, he, hc⟩ := xS2; rw [he, List.length_append, hl1, hc]
  have ht_2 := pm_isx xS2 ht_1
  have hm2_2 : pm_is S2 (n + 2) 0 := by rw [← hS2]; exact pm_is_nw hl1
  have zS2 : pm_Z S2 s1 := pm_Zx xS2 zs1
  obtain ⟨s2, es2⟩ : ∃ s, pm_sr s1 q 1 (n + 2) = s := ⟨_, rfl⟩
  have zs2 : pm_Z S2 s2 := by rw [← es2]; exact zS2.sr ht_2.le
  have fr2 : ∀ a j, a ≠ q → a ≤ n → s2.2 a j = σ.2 a j := by intro a j ha hb; rw [← es2, pm_sr_2, if_neg (fun z => ha z.1)]; exact fr1 a j ha hb
  have hEe : eX0_init S = S2 := by rw [← hS2, ← hS1]; rfl
  have hGe : gX0_init n q σ = s2 := by rw [← es2, ← es1]; rfl
  have le2 : S2.length ≤ (eX0_init S).length ∧ pm_tot S2 ≤ pm_tot (eX0_init S) := by rw [hEe]; exact ⟨Nat.le_refl _, Nat.le_refl _⟩
  have le1 := pm_le_tr (pm_lex xS2) le2
  refine ⟨?_, by rw [hEe, hGe]; exact zs2, by rw [hGe]; exact fr2⟩
  refine pm_M.of (by decide +kernel) (Nat.le_of_ble_eq_true rfl) ?_
  show pm_E l yX0_init cX0_init 1 none true 1 S (none, eX0_init S, gX0_init n q σ) 0 [(0, .ref q)] [] S σ
  refine pm_aload_n (pc := 0) 0 dX0_init_0 rfl rfl h0.pos ?_
  refine pm_objInit (pc := 1) oiX0_3 h0.pos (Nat.le_of_ble_eq_true rfl) (by decide) dX0_init_1 ?_
  refine pm_aload_n (pc := 4) 0 dX0_init_4 rfl rfl h0.pos ?_
  refine pm_bipush (pc := 5) (15 : Int32) (by decide) dX0_init_5 ?_
  refine pm_newa' (pc := 7) (q := (n + 1)) (N := 15) (S' := S1) (Or.inl ⟨rfl, rfl⟩) ac_int hz rfl (by decide) (congrArg (· + 1) hn) hS1 le1 dX0_init_7 ?_
  refine pm_putR (pc := 9) (k := 0) pm_cl0 flX0_9 (by decide) rfl (fun _ => ⟨rfl, rfl⟩) (Or.inr ⟨rfl, rfl, rfl⟩) ht_1 hm1_1 dX0_init_9 ?_
  refine pm_nmh es1 ?_
  refine pm_aload_n (pc := 12) 0 dX0_init_12 rfl rfl h0.pos ?_
  refine pm_bipush (pc := 13) (15 : Int32) (by decide) dX0_init_13 ?_
  refine pm_newa' (pc := 15) (q := (n + 2)) (N := 15) (S' := S2) (Or.inl ⟨rfl, rfl⟩) ac_int zs1 rfl (by decide) (congrArg (· + 1) hl1) hS2 le2 dX0_init_15 ?_
  refine pm_putR (pc := 17) (k := 1) pm_cl0 flX0_15 (by decide) rfl (fun _ => ⟨rfl, rfl⟩) (Or.inr ⟨rfl, rfl, rfl⟩) ht_2 hm2_2 dX0_init_17 ?_
  refine pm_nmh es2 ?_
  exact pm_vret rfl dX0_init_20 (by rw [hEe, hGe])
def eX11_init (S : pm_S) : pm_S :=
  let S1 := S ++ [(0, 240)]
  let S2 := S1 ++ [(8, 6)]
  let S3 := eX5_init S2
  let S4 := S3 ++ [(12, 11)]
  let S5 := eX9_init S4
  let S6 := S5 ++ [(12, 11)]
  let S7 := eX9_init S6
  let S8 := S7 ++ [(11, 4)]
  let S9 := eX8_init S8
  let S10 := S9 ++ [(9, 4)]
  let S11 := eX6_init S10
  let S12 := S11 ++ [(6, 3)]
  let S13 := eX3_init S12
  let S14 := S13 ++ [(2, 2)]
  let S15 := S14 ++ [(11, 4)]
  let S16 := eX8_init S15
  let S17 := S16 ++ [(11, 4)]
  let S18 := eX8_init S17
  let S19 := S18 ++ [(1, 2)]
  let S20 := S19 ++ [(0, 2)]
  let S21 := S20 ++ [(5, 5)]
  let S22 := eX2_init S21
  let S23 := S22 ++ [(7, 3)]
  let S24 := eX4_init S23
  let S25 := S24 ++ [(10, 6)]
  let S26 := eX7_init S25
  let S27 := S26 ++ [(3, 3)]
  let S28 := eX0_init S27
  S28
def gX11_init (n q : Nat) (σ : pm_H) : pm_H :=
  let s1 := pm_sr σ q 0 (n + 1)
  let s2 := pm_si s1 q 2 (-1 : Int32)
  let s3 := gX5_init (n + 2) (n + 2) s2
  let s4 := pm_sr s3 q 3 (n + 2)
  let s5 := gX9_init (n + 4) (n + 4) s4
  let s6 := pm_sr s5 q 4 (n + 4)
  let s7 := gX9_init (n + 10) (n + 10) s6
  let s8 := pm_sr s7 q 5 (n + 10)
  let s9 := gX8_init (n + 16) (n + 16) s8
  let s10 := pm_sr s9 q 6 (n + 16)
  let s11 := gX6_init (n + 26) (n + 26) s10
  let s12 := pm_sr s11 q 7 (n + 26)
  let s13 := gX3_init (n + 27) (n + 27) s12
  let s14 := pm_sr s13 q 8 (n + 27)
  let s15 := pm_sr s14 q 9 (n + 189)
  let s16 := gX8_init (n + 190) (n + 190) s15
  let s17 := pm_sr s16 (n + 189) 0 (n + 190)
  let s18 := gX8_init (n + 200) (n + 200) s17
  let s19 := pm_sr s18 (n + 189) 1 (n + 200)
  let s20 := pm_sr s19 q 10 (n + 210)
  let s21 := pm_sr s20 q 11 (n + 211)
  let s22 := gX2_init (n + 212) (n + 212) s21
  let s23 := pm_sr s22 q 13 (n + 212)
  let s24 := gX4_init (n + 216) (n + 216) s23
  let s25 := pm_sr s24 q 14 (n + 216)
  let s26 := gX7_init (n + 219) (n + 219) s25
  let s27 := pm_sr s26 q 15 (n + 219)
  let s28 := gX0_init (n + 225) (n + 225) s27
  let s29 := pm_sr s28 q 16 (n + 225)
  s29
theorem xX11_init {S : pm_S} : ∃ e, eX11_init S = S ++ e ∧ e.length = 227 := by
  obtain ⟨S1, hS1⟩ : ∃ s, S ++ [(0, 240)] = s := ⟨_, rfl⟩
  have xS1 : ∃ e, S1 = S ++ e ∧ e.length = 1 := ⟨_, hS1.symm, rfl⟩
  obtain ⟨S2, hS2⟩ : ∃ s, S1 ++ [(8, 6)] = s := ⟨_, rfl⟩
  have xS2 : ∃ e, S2 = S1 ++ e ∧ e.length = 1 := ⟨_, hS2.symm, rfl⟩
  obtain ⟨S3, hS3⟩ : ∃ s, eX5_init S2 = s := ⟨_, rfl⟩
  have xS3 : ∃ e, S3 = S2 ++ e ∧ e.length = 1 := by rw [← hS3]; exact xX5_init
  obtain ⟨S4, hS4⟩ : ∃ s, S3 ++ [(12, 11)] = s := ⟨_, rfl⟩
  have xS4 : ∃ e, S4 = S3 ++ e ∧ e.length = 1 := ⟨_, hS4.symm, rfl⟩
  obtain ⟨S5, hS5⟩ : ∃ s, eX9_init S4 = s := ⟨_, rfl⟩
  have xS5 : ∃ e, S5 = S4 ++ e ∧ e.length = 5 := by rw [← hS5]; exact xX9_init
  obtain ⟨S6, hS6⟩ : ∃ s, S5 ++ [(12, 11)] = s := ⟨_, rfl⟩
  have xS6 : ∃ e, S6 = S5 ++ e ∧ e.length = 1 := ⟨_, hS6.symm, rfl⟩
  obtain ⟨S7, hS7⟩ : ∃ s, eX9_init S6 = s := ⟨_, rfl⟩
  have xS7 : ∃ e, S7 = S6 ++ e ∧ e.length = 5 := by rw [← hS7]; exact xX9_init
  obtain ⟨S8, hS8⟩ : ∃ s, S7 ++ [(11, 4)] = s := ⟨_, rfl⟩
  have xS8 : ∃ e, S8 = S7 ++ e ∧ e.length = 1 := ⟨_, hS8.symm, rfl⟩
  obtain ⟨S9, hS9⟩ : ∃ s, eX8_init S8 = s := ⟨_, rfl⟩
  have xS9 : ∃ e, S9 = S8 ++ e ∧ e.length = 9 := by rw [← hS9]; exact xX8_init
  obtain ⟨S10, hS10⟩ : ∃ s, S9 ++ [(9, 4)] = s := ⟨_, rfl⟩
  have xS10 : ∃ e, S10 = S9 ++ e ∧ e.length = 1 := ⟨_, hS10.symm, rfl⟩
  obtain ⟨S11, hS11⟩ : ∃ s, eX6_init S10 = s := ⟨_, rfl⟩
  have xS11 : ∃ e, S11 = S10 ++ e ∧ e.length = 0 := by rw [← hS11]; exact xX6_init
  obtain ⟨S12, hS12⟩ : ∃ s, S11 ++ [(6, 3)] = s := ⟨_, rfl⟩
  have xS12 : ∃ e, S12 = S11 ++ e ∧ e.length = 1 := ⟨_, hS12.symm, rfl⟩
  obtain ⟨S13, hS13⟩ : ∃ s, eX3_init S12 = s := ⟨_, rfl⟩
  have xS13 : ∃ e, S13 = S12 ++ e ∧ e.length = 161 := by rw [← hS13]; exact xX3_init
  obtain ⟨S14, hS14⟩ : ∃ s, S13 ++ [(2, 2)] = s := ⟨_, rfl⟩
  have xS14 : ∃ e, S14 = S13 ++ e ∧ e.length = 1 := ⟨_, hS14.symm, rfl⟩
  obtain ⟨S15, hS15⟩ : ∃ s, S14 ++ [(11, 4)] = s := ⟨_, rfl⟩
  have xS15 : ∃ e, S15 = S14 ++ e ∧ e.length = 1 := ⟨_, hS15.symm, rfl⟩
  obtain ⟨S16, hS16⟩ : ∃ s, eX8_init S15 = s := ⟨_, rfl⟩
  have xS16 : ∃ e, S16 = S15 ++ e ∧ e.length = 9 := by rw [← hS16]; exact xX8_init
  obtain ⟨S17, hS17⟩ : ∃ s, S16 ++ [(11, 4)] = s := ⟨_, rfl⟩
  have xS17 : ∃ e, S17 = S16 ++ e ∧ e.length = 1 := ⟨_, hS17.symm, rfl⟩
  obtain ⟨S18, hS18⟩ : ∃ s, eX8_init S17 = s := ⟨_, rfl⟩
  have xS18 : ∃ e, S18 = S17 ++ e ∧ e.length = 9 := by rw [← hS18]; exact xX8_init
  obtain ⟨S19, hS19⟩ : ∃ s, S18 ++ [(1, 2)] = s := ⟨_, rfl⟩
  have xS19 : ∃ e, S19 = S18 ++ e ∧ e.length = 1 := ⟨_, hS19.symm, rfl⟩
  obtain ⟨S20, hS20⟩ : ∃ s, S19 ++ [(0, 2)] = s := ⟨_, rfl⟩
  have xS20 : ∃ e, S20 = S19 ++ e ∧ e.length = 1 := ⟨_, hS20.symm, rfl⟩
  obtain ⟨S21, hS21⟩ : ∃ s, S20 ++ [(5, 5)] = s := ⟨_, rfl⟩
  have xS21 : ∃ e, S21 = S20 ++ e ∧ e.length = 1 := ⟨_, hS21.symm, rfl⟩
  obtain ⟨S22, hS22⟩ : ∃ s, eX2_init S21 = s := ⟨_, rfl⟩
  have xS22 : ∃ e, S22 = S21 ++ e ∧ e.length = 3 := by rw [← hS22]; exact xX2_init
  obtain ⟨S23, hS23⟩ : ∃ s, S22 ++ [(7, 3)] = s := ⟨_, rfl⟩
  have xS23 : ∃ e, S23 = S22 ++ e ∧ e.length = 1 := ⟨_, hS23.symm, rfl⟩
  obtain ⟨S24, hS24⟩ : ∃ s, eX4_init S23 = s := ⟨_, rfl⟩
  have xS24 : ∃ e, S24 = S23 ++ e ∧ e.length = 2 := by rw [← hS24]; exact xX4_init
  obtain ⟨S25, hS25⟩ : ∃ s, S24 ++ [(10, 6)] = s := ⟨_, rfl⟩
  have xS25 : ∃ e, S25 = S24 ++ e ∧ e.length = 1 := ⟨_, hS25.symm, rfl⟩
  obtain ⟨S26, hS26⟩ : ∃ s, eX7_init S25 = s := ⟨_, rfl⟩
  have xS26 : ∃ e, S26 = S25 ++ e ∧ e.length = 5 := by rw [← hS26]; exact xX7_init
  obtain ⟨S27, hS27⟩ : ∃ s, S26 ++ [(3, 3)] = s := ⟨_, rfl⟩
  have xS27 : ∃ e, S27 = S26 ++ e ∧ e.length = 1 := ⟨_, hS27.symm, rfl⟩
  obtain ⟨S28, hS28⟩ : ∃ s, eX0_init S27 = s := ⟨_, rfl⟩
  have xS28 : ∃ e, S28 = S27 ++ e ∧ e.length = 2 := by rw [← hS28]; exact xX0_init
  have hEe : eX11_init S = S28 := by rw [← hS28, ← hS27, ← hS26, ← hS25, ← hS24, ← hS23, ← hS22, ← hS21, ← hS20, ← hS19, ← hS18, ← hS17, ← hS16, ← hS15, ← hS14, ← hS13, ← hS12, ← hS11, ← hS10, ← hS9, ← hS8, ← hS7, ← hS6, ← hS5, ← hS4, ← hS3, ← hS2, ← hS1]; rfl
  rw [hEe]
  exact pm_xt (pm_xt (pm_xt (pm_xt (pm_xt (pm_xt (pm_xt (pm_xt (pm_xt (pm_xt (pm_xt (pm_xt (pm_xt (pm_xt (pm_xt (pm_xt (pm_xt (pm_xt (pm_xt (pm_xt (pm_xt (pm_xt (pm_xt (pm_xt (pm_xt (pm_xt (pm_xt (xS1) xS2) xS3) xS4) xS5) xS6) xS7) xS8) xS9) xS10) xS11) xS12) xS13) xS14) xS15) xS16) xS17) xS18) xS19) xS20) xS21) xS22) xS23) xS24) xS25) xS26) xS27) xS28
set_option maxRecDepth 100000 in
set_option maxHeartbeats 4000000 in
theorem KX11_init (l : Launch) {S : pm_S} {σ : pm_H} {q n : Nat} (h0 : pm_is S q 14) (hz : pm_Z S σ) (hn : S.length = n) : pm_M l yX11_init cX11_init 2 none true 4 [.ref q] S σ (none, eX11_init S, gX11_init n q σ) ∧ pm_Z (eX11_init S) (gX11_init n q σ) ∧ ∀ a j, a ≠ q → a ≤ n → (gX11_init n q σ).2 a j = σ.2 a j := by
  have hq0 := h0.pos
  have hqn : q ≤ n := by have hq1 := h0.le; omega
  obtain ⟨S1, hS1⟩ : ∃ s, S ++ [(0, 240)] = s := ⟨_, rfl⟩
  have xS1 : ∃ e, S1 = S ++ e ∧ e.length = 1 := ⟨[(0, 240)], hS1.symm, rfl⟩
  have hl1 : S1.length = n + 1 := by obtain ⟨e, he, hc⟩ := xS1; rw [he, List.length_append, hn, hc]
  have ht_1 := pm_isx xS1 h0
  have hm1_1 : pm_is S1 (n + 1) 0 := by rw [← hS1]; exact pm_is_nw hn
  have zS1 : pm_Z S1 σ := pm_Zx xS1 hz
  obtain ⟨s1, es1⟩ : ∃ s, pm_sr σ q 0 (n + 1) = s := ⟨_, rfl⟩
  have zs1 : pm_Z S1 s1 := by rw [← es1]; exact zS1.sr ht_1.le
  have fr1 : ∀ a j, a ≠ q → a ≤ n → s1.2 a j = σ.2 a j := by intro a j ha hb; rw [← es1, pm_sr_2, if_neg (fun z => ha z.1)]
  obtain ⟨s2, es2⟩ : ∃ s, pm_si s1 q 2 (-1 : Int32) = s := ⟨_, rfl⟩
  have zs2 : pm_Z S1 s2 := by rw [← es2]; exact zs1.si ht_1.le
  have fr2 : ∀ a j, a ≠ q → a ≤ n → s2.2 a j = σ.2 a j := by intro a j ha hb; rw [← es2, pm_si_2]; exact fr1 a j ha hb
  obtain ⟨S2, hS2⟩ : ∃ s, S1 ++ [(8, 6)] = s := ⟨_, rfl⟩
  have xS2 : ∃ e, S2 = S1 ++ e ∧ e.length = 1 := ⟨[(8, 6)], hS2.symm, rfl⟩
  have hl2 : S2.length = n + 2 := by obtain ⟨e, he, hc⟩ := xS2; rw [he, List.length_append, hl1, hc]
  have ht_2 := pm_isx xS2 ht_1
  have hm2_2 : pm_is S2 (n + 2) 8 := by rw [← hS2]; exact pm_is_nw hl1
  have zS2 : pm_Z S2 s2 := pm_Zx xS2 zs2
  obtain ⟨S3, hS3⟩ : ∃ s, eX5_init S2 = s := ⟨_, rfl⟩
  have xS3 : ∃ e, S3 = S2 ++ e ∧ e.length = 1 := by rw [← hS3]; exact xX5_init
  have hl3 : S3.length = n + 3 := by obtain ⟨e, he, hc⟩ := xS3; rw [he, List.length_append, hl2, hc]
  have ht_3 := pm_isx xS3 ht_2
  have hm2_3 := pm_isx xS3 hm2_2
  have kk23_2 := KX5_init l (n := n + 2) hm2_2 zS2 hl2
  obtain ⟨s3, es3⟩ : ∃ s, gX5_init (n + 2) (n + 2) s2 = s := ⟨_, rfl⟩
  have zs3 : pm_Z S3 s3 := by rw [← es3]; exact by have w9 := kk23_2.2.1; rw [hS3] at w9; exact w9
  have fr3 : ∀ a j, a ≠ q → a ≤ n → s3.2 a j = σ.2 a j := by intro a j ha hb; rw [← es3, kk23_2.2.2 a j (pm_pl_ne hb (by decide)) (Nat.le_trans hb (Nat.le_add_right _ _))]; exact fr2 a j ha hb
  obtain ⟨s4, es4⟩ : ∃ s, pm_sr s3 q 3 (n + 2) = s := ⟨_, rfl⟩
  have zs4 : pm_Z S3 s4 := by rw [← es4]; exact zs3.sr ht_3.le
  have fr4 : ∀ a j, a ≠ q → a ≤ n → s4.2 a j = σ.2 a j := by intro a j ha hb; rw [← es4, pm_sr_2, if_neg (fun z => ha z.1)]; exact fr3 a j ha hb
  obtain ⟨S4, hS4⟩ : ∃ s, S3 ++ [(12, 11)] = s := ⟨_, rfl⟩
  have xS4 : ∃ e, S4 = S3 ++ e ∧ e.length = 1 := ⟨[(12, 11)], hS4.symm, rfl⟩
  have hl4 : S4.length = n + 4 := by obtain ⟨e, he, hc⟩ := xS4; rw [he, List.length_append, hl3, hc]
  have ht_4 := pm_isx xS4 ht_3
  have hm4_4 : pm_is S4 (n + 4) 12 := by rw [← hS4]; exact pm_is_nw hl3
  have zS4 : pm_Z S4 s4 := pm_Zx xS4 zs4
  obtain ⟨S5, hS5⟩ : ∃ s, eX9_init S4 = s := ⟨_, rfl⟩
  have xS5 : ∃ e, S5 = S4 ++ e ∧ e.length = 5 := by rw [← hS5]; exact xX9_init
  have hl5 : S5.length = n + 9 := by obtain ⟨e, he, hc⟩ := xS5; rw [he, List.length_append, hl4, hc]
  have ht_5 := pm_isx xS5 ht_4
  have hm4_5 := pm_isx xS5 hm4_4
  have kk34_4 := KX9_init l (n := n + 4) hm4_4 zS4 hl4
  obtain ⟨s5, es5⟩ : ∃ s, gX9_init (n + 4) (n + 4) s4 = s := ⟨_, rfl⟩
  have zs5 : pm_Z S5 s5 := by rw [← es5]; exact by have w9 := kk34_4.2.1; rw [hS5] at w9; exact w9
  have fr5 : ∀ a j, a ≠ q → a ≤ n → s5.2 a j = σ.2 a j := by intro a j ha hb; rw [← es5, kk34_4.2.2 a j (pm_pl_ne hb (by decide)) (Nat.le_trans hb (Nat.le_add_right _ _))]; exact fr4 a j ha hb
  obtain ⟨s6, es6⟩ : ∃ s, pm_sr s5 q 4 (n + 4) = s := ⟨_, rfl⟩
  have zs6 : pm_Z S5 s6 := by rw [← es6]; exact zs5.sr ht_5.le
  have fr6 : ∀ a j, a ≠ q → a ≤ n → s6.2 a j = σ.2 a j := by intro a j ha hb; rw [← es6, pm_sr_2, if_neg (fun z => ha z.1)]; exact fr5 a j ha hb
  obtain ⟨S6, hS6⟩ : ∃ s, S5 ++ [(12, 11)] = s := ⟨_, rfl⟩
  have xS6 : ∃ e, S6 = S5 ++ e ∧ e.length = 1 := ⟨[(12, 11)], hS6.symm, rfl⟩
  have hl6 : S6.length = n + 10 := by obtain ⟨e, he, hc⟩ := xS6; rw [he, List.length_append, hl5, hc]
  have ht_6 := pm_isx xS6 ht_5
  have hm10_6 : pm_is S6 (n + 10) 12 := by rw [← hS6]; exact pm_is_nw hl5
  have zS6 : pm_Z S6 s6 := pm_Zx xS6 zs6
  obtain ⟨S7, hS7⟩ : ∃ s, eX9_init S6 = s := ⟨_, rfl⟩
  have xS7 : ∃ e, S7 = S6 ++ e ∧ e.length = 5 := by rw [← hS7]; exact xX9_init
  have hl7 : S7.length = n + 15 := by obtain ⟨e, he, hc⟩ := xS7; rw [he, List.length_append, hl6, hc]
  have ht_7 := pm_isx xS7 ht_6
  have hm10_7 := pm_isx xS7 hm10_6
  have kk45_6 := KX9_init l (n := n + 10) hm10_6 zS6 hl6
  obtain ⟨s7, es7⟩ : ∃ s, gX9_init (n + 10) (n + 10) s6 = s := ⟨_, rfl⟩
  have zs7 : pm_Z S7 s7 := by rw [← es7]; exact by have w9 := kk45_6.2.1; rw [hS7] at w9; exact w9
  have fr7 : ∀ a j, a ≠ q → a ≤ n → s7.2 a j = σ.2 a j := by intro a j ha hb; rw [← es7, kk45_6.2.2 a j (pm_pl_ne hb (by decide)) (Nat.le_trans hb (Nat.le_add_right _ _))]; exact fr6 a j ha hb
  obtain ⟨s8, es8⟩ : ∃ s, pm_sr s7 q 5 (n + 10) = s := ⟨_, rfl⟩
  have zs8 : pm_Z S7 s8 := by rw [← es8]; exact zs7.sr ht_7.le
  have fr8 : ∀ a j, a ≠ q → a ≤ n → s8.2 a j = σ.2 a j := by intro a j ha hb; rw [← es8, pm_sr_2, if_neg (fun z => ha z.1)]; exact fr7 a j ha hb
  obtain ⟨S8, hS8⟩ : ∃ s, S7 ++ [(11, 4)] = s := ⟨_, rfl⟩
  have xS8 : ∃ e, S8 = S7 ++ e ∧ e.length = 1 := ⟨[(11, 4)], hS8.symm, rfl⟩
  have hl8 : S8.length = n + 16 := by obtain ⟨e, he, hc⟩ := xS8; rw [he, List.length_append, hl7, hc]
  have ht_8 := pm_isx xS8 ht_7
  have hm16_8 : pm_is S8 (n + 16) 11 := by rw [← hS8]; exact pm_is_nw hl7
  have zS8 : pm_Z S8 s8 := pm_Zx xS8 zs8
  obtain ⟨S9, hS9⟩ : ∃ s, eX8_init S8 = s := ⟨_, rfl⟩
  have xS9 : ∃ e, S9 = S8 ++ e ∧ e.length = 9 := by rw [← hS9]; exact xX8_init
  have hl9 : S9.length = n + 25 := by obtain ⟨e, he, hc⟩ := xS9; rw [he, List.length_append, hl8, hc]
  have ht_9 := pm_isx xS9 ht_8
  have hm16_9 := pm_isx xS9 hm16_8
  have kk56_8 := KX8_init l (n := n + 16) hm16_8 zS8 hl8
  obtain ⟨s9, es9⟩ : ∃ s, gX8_init (n + 16) (n + 16) s8 = s := ⟨_, rfl⟩
  have zs9 : pm_Z S9 s9 := by rw [← es9]; exact by have w9 := kk56_8.2.1; rw [hS9] at w9; exact w9
  have fr9 : ∀ a j, a ≠ q → a ≤ n → s9.2 a j = σ.2 a j := by intro a j ha hb; rw [← es9, kk56_8.2.2 a j (pm_pl_ne hb (by decide)) (Nat.le_trans hb (Nat.le_add_right _ _))]; exact fr8 a j ha hb
  obtain ⟨s10, es10⟩ : ∃ s, pm_sr s9 q 6 (n + 16) = s := ⟨_, rfl⟩
  have zs10 : pm_Z S9 s10 := by rw [← es10]; exact zs9.sr ht_9.le
  have fr10 : ∀ a j, a ≠ q → a ≤ n → s10.2 a j = σ.2 a j := by intro a j ha hb; rw [← es10, pm_sr_2, if_neg (fun z => ha z.1)]; exact fr9 a j ha hb
  obtain ⟨S10, hS10⟩ : ∃ s, S9 ++ [(9, 4)] = s := ⟨_, rfl⟩
  have xS10 : ∃ e, S10 = S9 ++ e ∧ e.length = 1 := ⟨[(9, 4)], hS10.symm, rfl⟩
  have hl10 : S10.length = n + 26 := by obtain ⟨e, he, hc⟩ := xS10; rw [he, List.length_append, hl9, hc]
  have ht_10 := pm_isx xS10 ht_9
  have hm26_10 : pm_is S10 (n + 26) 9 := by rw [← hS10]; exact pm_is_nw hl9
  have zS10 : pm_Z S10 s10 := pm_Zx xS10 zs10
  obtain ⟨S11, hS11⟩ : ∃ s, eX6_init S10 = s := ⟨_, rfl⟩
  have xS11 : ∃ e, S11 = S10 ++ e ∧ e.length = 0 := by rw [← hS11]; exact xX6_init
  have hl11 : S11.length = n + 26 := by obtain ⟨e, he, hc⟩ := xS11; rw [he, List.length_append, hl10, hc]
  have ht_11 := pm_isx xS11 ht_10
  have hm26_11 := pm_isx xS11 hm26_10
  have kk67_10 := KX6_init l (n := n + 26) hm26_10 zS10 hl10
  obtain ⟨s11, es11⟩ : ∃ s, gX6_init (n + 26) (n + 26) s10 = s := ⟨_, rfl⟩
  have zs11 : pm_Z S11 s11 := by rw [← es11]; exact by have w9 := kk67_10.2.1; rw [hS11] at w9; exact w9
  have fr11 : ∀ a j, a ≠ q → a ≤ n → s11.2 a j = σ.2 a j := by intro a j ha hb; rw [← es11, kk67_10.2.2 a j (pm_pl_ne hb (by decide)) (Nat.le_trans hb (Nat.le_add_right _ _))]; exact fr10 a j ha hb
  obtain ⟨s12, es12⟩ : ∃ s, pm_sr s11 q 7 (n + 26) = s := ⟨_, rfl⟩
  have zs12 : pm_Z S11 s12 := by rw [← es12]; exact zs11.sr ht_11.le
  have fr12 : ∀ a j, a ≠ q → a ≤ n → s12.2 a j = σ.2 a j := by intro a j ha hb; rw [← es12, pm_sr_2, if_neg (fun z => ha z.1)]; exact fr11 a j ha hb
  obtain ⟨S12, hS12⟩ : ∃ s, S11 ++ [(6, 3)] = s := ⟨_, rfl⟩
  have xS12 : ∃ e, S12 = S11 ++ e ∧ e.length = 1 := ⟨[(6, 3)], hS12.symm, rfl⟩
  have hl12 : S12.length = n + 27 := by obtain ⟨e, he, hc⟩ := xS12; rw [he, List.length_append, hl11, hc]
  have ht_12 := pm_isx xS12 ht_11
  have hm27_12 : pm_is S12 (n + 27) 6 := by rw [← hS12]; exact pm_is_nw hl11
  have zS12 : pm_Z S12 s12 := pm_Zx xS12 zs12
  obtain ⟨S13, hS13⟩ : ∃ s, eX3_init S12 = s := ⟨_, rfl⟩
  have xS13 : ∃ e, S13 = S12 ++ e ∧ e.length = 161 := by rw [← hS13]; exact xX3_init
  have hl13 : S13.length = n + 188 := by obtain ⟨e, he, hc⟩ := xS13; rw [he, List.length_append, hl12, hc]
  have ht_13 := pm_isx xS13 ht_12
  have hm27_13 := pm_isx xS13 hm27_12
  have kk78_12 := KX3_init l (n := n + 27) hm27_12 zS12 hl12
  obtain ⟨s13, es13⟩ : ∃ s, gX3_init (n + 27) (n + 27) s12 = s := ⟨_, rfl⟩
  have zs13 : pm_Z S13 s13 := by rw [← es13]; exact by have w9 := kk78_12.2.1; rw [hS13] at w9; exact w9
  have fr13 : ∀ a j, a ≠ q → a ≤ n → s13.2 a j = σ.2 a j := by intro a j ha hb; rw [← es13, kk78_12.2.2 a j (pm_pl_ne hb (by decide)) (Nat.le_trans hb (Nat.le_add_right _ _))]; exact fr12 a j ha hb
  obtain ⟨s14, es14⟩ : ∃ s, pm_sr s13 q 8 (n + 27) = s := ⟨_, rfl⟩
  have zs14 : pm_Z S13 s14 := by rw [← es14]; exact zs13.sr ht_13.le
  have fr14 : ∀ a j, a ≠ q → a ≤ n → s14.2 a j = σ.2 a j := by intro a j ha hb; rw [← es14, pm_sr_2, if_neg (fun z => ha z.1)]; exact fr13 a j ha hb
  obtain ⟨S14, hS14⟩ : ∃ s, S13 ++ [(2, 2)] = s := ⟨_, rfl⟩
  have xS14 : ∃ e, S14 = S13 ++ e ∧ e.length = 1 := ⟨[(2, 2)], hS14.symm, rfl⟩
  have hl14 : S14.length = n + 189 := by obtain ⟨e, he, hc⟩ := xS14; rw [he, List.length_append, hl13, hc]
  have ht_14 := pm_isx xS14 ht_13
  have hm189_14 : pm_is S14 (n + 189) 2 := by rw [← hS14]; exact pm_is_nw hl13
  have hL189_14 : pm_len S14 (n + 189) = 2 := by rw [← hS14]; exact pm_len_nw hl13
  have zS14 : pm_Z S14 s14 := pm_Zx xS14 zs14
  obtain ⟨s15, es15⟩ : ∃ s, pm_sr s14 q 9 (n + 189) = s := ⟨_, rfl⟩
  have zs15 : pm_Z S14 s15 := by rw [← es15]; exact zS14.sr ht_14.le
  have fr15 : ∀ a j, a ≠ q → a ≤ n → s15.2 a j = σ.2 a j := by intro a j ha hb; rw [← es15, pm_sr_2, if_neg (fun z => ha z.1)]; exact fr14 a j ha hb
  have hv9_15 : s15.2 q 9 = (n + 189) := by rw [← es15]; simp [pm_sr_2]
  obtain ⟨S15, hS15⟩ : ∃ s, S14 ++ [(11, 4)] = s := ⟨_, rfl⟩
  have xS15 : ∃ e, S15 = S14 ++ e ∧ e.length = 1 := ⟨[(11, 4)], hS15.symm, rfl⟩
  have hl15 : S15.length = n + 190 := by obtain ⟨e, he, hc⟩ := xS15; rw [he, List.length_append, hl14, hc]
  have ht_15 := pm_isx xS15 ht_14
  have hm189_15 := pm_isx xS15 hm189_14
  have hL189_15 := pm_lenx xS15 (hm189_14) hL189_14
  have hm190_15 : pm_is S15 (n + 190) 11 := by rw [← hS15]; exact pm_is_nw hl14
  have zS15 : pm_Z S15 s15 := pm_Zx xS15 zs15
  obtain ⟨S16, hS16⟩ : ∃ s, eX8_init S15 = s := ⟨_, rfl⟩
  have xS16 : ∃ e, S16 = S15 ++ e ∧ e.length = 9 := by rw [← hS16]; exact xX8_init
  have hl16 : S16.length = n + 199 := by obtain ⟨e, he, hc⟩ := xS16; rw [he, List.length_append, hl15, hc]
  have ht_16 := pm_isx xS16 ht_15
  have hm189_16 := pm_isx xS16 hm189_15
  have hm190_16 := pm_isx xS16 hm190_15
  have hL189_16 := pm_lenx xS16 (hm189_15) hL189_15
  have kk108_15 := KX8_init l (n := n + 190) hm190_15 zS15 hl15
  obtain ⟨s16, es16⟩ : ∃ s, gX8_init (n + 190) (n + 190) s15 = s := ⟨_, rfl⟩
  have zs16 : pm_Z S16 s16 := by rw [← es16]; exact by have w9 := kk108_15.2.1; rw [hS16] at w9; exact w9
  have fr16 : ∀ a j, a ≠ q → a ≤ n → s16.2 a j = σ.2 a j := by intro a j ha hb; rw [← es16, kk108_15.2.2 a j (pm_pl_ne hb (by decide)) (Nat.le_trans hb (Nat.le_add_right _ _))]; exact fr15 a j ha hb
  have hv9_16 : s16.2 q 9 = (n + 189) := by rw [← es16, kk108_15.2.2 q 9 (pm_pl_ne hqn (by decide)) (Nat.le_trans hqn (Nat.le_add_right _ _))]; exact hv9_15
  obtain ⟨s17, es17⟩ : ∃ s, pm_sr s16 (n + 189) 0 (n + 190) = s := ⟨_, rfl⟩
  have zs17 : pm_Z S16 s17 := by rw [← es17]; exact zs16.sr hm189_16.le
  have fr17 : ∀ a j, a ≠ q → a ≤ n → s17.2 a j = σ.2 a j := by intro a j ha hb; rw [← es17, pm_sr_2, if_neg (fun z => pm_pl_ne hb (by decide) z.1)]; exact fr16 a j ha hb
  have hv9_17 : s17.2 q 9 = (n + 189) := by rw [← es17, pm_sr_2, if_neg (fun z => pm_pl_ne hqn (by decide) z.1)]; exact hv9_16
  obtain ⟨S17, hS17⟩ : ∃ s, S16 ++ [(11, 4)] = s := ⟨_, rfl⟩
  have xS17 : ∃ e, S17 = S16 ++ e ∧ e.length = 1 := ⟨[(11, 4)], hS17.symm, rfl⟩
  have hl17 : S17.length = n + 200 := by obtain ⟨e, he, hc⟩ := xS17; rw [he, List.length_append, hl16, hc]
  have ht_17 := pm_isx xS17 ht_16
  have hm189_17 := pm_isx xS17 hm189_16
  have hL189_17 := pm_lenx xS17 (hm189_16) hL189_16
  have hm200_17 : pm_is S17 (n + 200) 11 := by rw [← hS17]; exact pm_is_nw hl16
  have zS17 : pm_Z S17 s17 := pm_Zx xS17 zs17
  obtain ⟨S18, hS18⟩ : ∃ s, eX8_init S17 = s := ⟨_, rfl⟩
  have xS18 : ∃ e, S18 = S17 ++ e ∧ e.length = 9 := by rw [← hS18]; exact xX8_init
  have hl18 : S18.length = n + 209 := by obtain ⟨e, he, hc⟩ := xS18; rw [he, List.length_append, hl17, hc]
  have ht_18 := pm_isx xS18 ht_17
  have hm189_18 := pm_isx xS18 hm189_17
  have hm200_18 := pm_isx xS18 hm200_17
  have hL189_18 := pm_lenx xS18 (hm189_17) hL189_17
  have kk108_17 := KX8_init l (n := n + 200) hm200_17 zS17 hl17
  obtain ⟨s18, es18⟩ : ∃ s, gX8_init (n + 200) (n + 200) s17 = s := ⟨_, rfl⟩
  have zs18 : pm_Z S18 s18 := by rw [← es18]; exact by have w9 := kk108_17.2.1; rw [hS18] at w9; exact w9
  have fr18 : ∀ a j, a ≠ q → a ≤ n → s18.2 a j = σ.2 a j := by intro a j ha hb; rw [← es18, kk108_17.2.2 a j (pm_pl_ne hb (by decide)) (Nat.le_trans hb (Nat.le_add_right _ _))]; exact fr17 a j ha hb
  have hv9_18 : s18.2 q 9 = (n + 189) := by rw [← es18, kk108_17.2.2 q 9 (pm_pl_ne hqn (by decide)) (Nat.le_trans hqn (Nat.le_add_right _ _))]; exact hv9_17
  obtain ⟨s19, es19⟩ : ∃ s, pm_sr s18 (n + 189) 1 (n + 200) = s := ⟨_, rfl⟩
  have zs19 : pm_Z S18 s19 := by rw [← es19]; exact zs18.sr hm189_18.le
  have fr19 : ∀ a j, a ≠ q → a ≤ n → s19.2 a j = σ.2 a j := by intro a j ha hb; rw [← es19, pm_sr_2, if_neg (fun z => pm_pl_ne hb (by decide) z.1)]; exact fr18 a j ha hb
  have hv9_19 : s19.2 q 9 = (n + 189) := by rw [← es19, pm_sr_2, if_neg (fun z => pm_pl_ne hqn (by decide) z.1)]; exact hv9_18
  obtain ⟨S19, hS19⟩ : ∃ s, S18 ++ [(1, 2)] = s := ⟨_, rfl⟩
  have xS19 : ∃ e, S19 = S18 ++ e ∧ e.length = 1 := ⟨[(1, 2)], hS19.symm, rfl⟩
  have hl19 : S19.length = n + 210 := by obtain ⟨e, he, hc⟩ := xS19; rw [he, List.length_append, hl18, hc]
  have ht_19 := pm_isx xS19 ht_18
  have hm189_19 := pm_isx xS19 hm189_18
  have hL189_19 := pm_lenx xS19 (hm189_18) hL189_18
  have hm210_19 : pm_is S19 (n + 210) 1 := by rw [← hS19]; exact pm_is_nw hl18
  have zS19 : pm_Z S19 s19 := pm_Zx xS19 zs19
  obtain ⟨s20, es20⟩ : ∃ s, pm_sr s19 q 10 (n + 210) = s := ⟨_, rfl⟩
  have zs20 : pm_Z S19 s20 := by rw [← es20]; exact zS19.sr ht_19.le
  have fr20 : ∀ a j, a ≠ q → a ≤ n → s20.2 a j = σ.2 a j := by intro a j ha hb; rw [← es20, pm_sr_2, if_neg (fun z => ha z.1)]; exact fr19 a j ha hb
  have hv9_20 : s20.2 q 9 = (n + 189) := by rw [← es20, pm_sr_2, if_neg (fun z => absurd z.2 (by decide))]; exact hv9_19
  obtain ⟨S20, hS20⟩ : ∃ s, S19 ++ [(0, 2)] = s := ⟨_, rfl⟩
  have xS20 : ∃ e, S20 = S19 ++ e ∧ e.length = 1 := ⟨[(0, 2)], hS20.symm, rfl⟩
  have hl20 : S20.length = n + 211 := by obtain ⟨e, he, hc⟩ := xS20; rw [he, List.length_append, hl19, hc]
  have ht_20 := pm_isx xS20 ht_19
  have hm189_20 := pm_isx xS20 hm189_19
  have hL189_20 := pm_lenx xS20 (hm189_19) hL189_19
  have hm211_20 : pm_is S20 (n + 211) 0 := by rw [← hS20]; exact pm_is_nw hl19
  have zS20 : pm_Z S20 s20 := pm_Zx xS20 zs20
  obtain ⟨s21, es21⟩ : ∃ s, pm_sr s20 q 11 (n + 211) = s := ⟨_, rfl⟩
  have zs21 : pm_Z S20 s21 := by rw [← es21]; exact zS20.sr ht_20.le
  have fr21 : ∀ a j, a ≠ q → a ≤ n → s21.2 a j = σ.2 a j := by intro a j ha hb; rw [← es21, pm_sr_2, if_neg (fun z => ha z.1)]; exact fr20 a j ha hb
  have hv9_21 : s21.2 q 9 = (n + 189) := by rw [← es21, pm_sr_2, if_neg (fun z => absurd z.2 (by decide))]; exact hv9_20
  obtain ⟨S21, hS21⟩ : ∃ s, S20 ++ [(5, 5)] = s := ⟨_, rfl⟩
  have xS21 : ∃ e, S21 = S20 ++ e ∧ e.length = 1 := ⟨[(5, 5)], hS21.symm, rfl⟩
  have hl21 : S21.length = n + 212 := by obtain ⟨e, he, hc⟩ := xS21; rw [he, List.length_append, hl20, hc]
  have ht_21 := pm_isx xS21 ht_20
  have hm189_21 := pm_isx xS21 hm189_20
  have hL189_21 := pm_lenx xS21 (hm189_20) hL189_20
  have hm212_21 : pm_is S21 (n + 212) 5 := by rw [← hS21]; exact pm_is_nw hl20
  have zS21 : pm_Z S21 s21 := pm_Zx xS21 zs21
  obtain ⟨S22, hS22⟩ : ∃ s, eX2_init S21 = s := ⟨_, rfl⟩
  have xS22 : ∃ e, S22 = S21 ++ e ∧ e.length = 3 := by rw [← hS22]; exact xX2_init
  have hl22 : S22.length = n + 215 := by obtain ⟨e, he, hc⟩ := xS22; rw [he, List.length_append, hl21, hc]
  have ht_22 := pm_isx xS22 ht_21
  have hm189_22 := pm_isx xS22 hm189_21
  have hm212_22 := pm_isx xS22 hm212_21
  have hL189_22 := pm_lenx xS22 (hm189_21) hL189_21
  have kk137_21 := KX2_init l (n := n + 212) hm212_21 zS21 hl21
  obtain ⟨s22, es22⟩ : ∃ s, gX2_init (n + 212) (n + 212) s21 = s := ⟨_, rfl⟩
  have zs22 : pm_Z S22 s22 := by rw [← es22]; exact by have w9 := kk137_21.2.1; rw [hS22] at w9; exact w9
  have fr22 : ∀ a j, a ≠ q → a ≤ n → s22.2 a j = σ.2 a j := by intro a j ha hb; rw [← es22, kk137_21.2.2 a j (pm_pl_ne hb (by decide)) (Nat.le_trans hb (Nat.le_add_right _ _))]; exact fr21 a j ha hb
  have hv9_22 : s22.2 q 9 = (n + 189) := by rw [← es22, kk137_21.2.2 q 9 (pm_pl_ne hqn (by decide)) (Nat.le_trans hqn (Nat.le_add_right _ _))]; exact hv9_21
  obtain ⟨s23, es23⟩ : ∃ s, pm_sr s22 q 13 (n + 212) = s := ⟨_, rfl⟩
  have zs23 : pm_Z S22 s23 := by rw [← es23]; exact zs22.sr ht_22.le
  have fr23 : ∀ a j, a ≠ q → a ≤ n → s23.2 a j = σ.2 a j := by intro a j ha hb; rw [← es23, pm_sr_2, if_neg (fun z => ha z.1)]; exact fr22 a j ha hb
  have hv9_23 : s23.2 q 9 = (n + 189) := by rw [← es23, pm_sr_2, if_neg (fun z => absurd z.2 (by decide))]; exact hv9_22
  obtain ⟨S23, hS23⟩ : ∃ s, S22 ++ [(7, 3)] = s := ⟨_, rfl⟩
  have xS23 : ∃ e, S23 = S22 ++ e ∧ e.length = 1 := ⟨[(7, 3)], hS23.symm, rfl⟩
  have hl23 : S23.length = n + 216 := by obtain ⟨e, he, hc⟩ := xS23; rw [he, List.length_append, hl22, hc]
  have ht_23 := pm_isx xS23 ht_22
  have hm189_23 := pm_isx xS23 hm189_22
  have hL189_23 := pm_lenx xS23 (hm189_22) hL189_22
  have hm216_23 : pm_is S23 (n + 216) 7 := by rw [← hS23]; exact pm_is_nw hl22
  have zS23 : pm_Z S23 s23 := pm_Zx xS23 zs23
  obtain ⟨S24, hS24⟩ : ∃ s, eX4_init S23 = s := ⟨_, rfl⟩
  have xS24 : ∃ e, S24 = S23 ++ e ∧ e.length = 2 := by rw [← hS24]; exact xX4_init
  have hl24 : S24.length = n + 218 := by obtain ⟨e, he, hc⟩ := xS24; rw [he, List.length_append, hl23, hc]
  have ht_24 := pm_isx xS24 ht_23
  have hm189_24 := pm_isx xS24 hm189_23
  have hm216_24 := pm_isx xS24 hm216_23
  have hL189_24 := pm_lenx xS24 (hm189_23) hL189_23
  have kk148_23 := KX4_init l (n := n + 216) hm216_23 zS23 hl23
  obtain ⟨s24, es24⟩ : ∃ s, gX4_init (n + 216) (n + 216) s23 = s := ⟨_, rfl⟩
  have zs24 : pm_Z S24 s24 := by rw [← es24]; exact by have w9 := kk148_23.2.1; rw [hS24] at w9; exact w9
  have fr24 : ∀ a j, a ≠ q → a ≤ n → s24.2 a j = σ.2 a j := by intro a j ha hb; rw [← es24, kk148_23.2.2 a j (pm_pl_ne hb (by decide)) (Nat.le_trans hb (Nat.le_add_right _ _))]; exact fr23 a j ha hb
  have hv9_24 : s24.2 q 9 = (n + 189) := by rw [← es24, kk148_23.2.2 q 9 (pm_pl_ne hqn (by decide)) (Nat.le_trans hqn (Nat.le_add_right _ _))]; exact hv9_23
  obtain ⟨s25, es25⟩ : ∃ s, pm_sr s24 q 14 (n + 216) = s := ⟨_, rfl⟩
  have zs25 : pm_Z S24 s25 := by rw [← es25]; exact zs24.sr ht_24.le
  have fr25 : ∀ a j, a ≠ q → a ≤ n → s25.2 a j = σ.2 a j := by intro a j ha hb; rw [← es25, pm_sr_2, if_neg (fun z => ha z.1)]; exact fr24 a j ha hb
  have hv9_25 : s25.2 q 9 = (n + 189) := by rw [← es25, pm_sr_2, if_neg (fun z => absurd z.2 (by decide))]; exact hv9_24
  obtain ⟨S25, hS25⟩ : ∃ s, S24 ++ [(10, 6)] = s := ⟨_, rfl⟩
  have xS25 : ∃ e, S25 = S24 ++ e ∧ e.length = 1 := ⟨[(10, 6)], hS25.symm, rfl⟩
  have hl25 : S25.length = n + 219 := by obtain ⟨e, he, hc⟩ := xS25; rw [he, List.length_append, hl24, hc]
  have ht_25 := pm_isx xS25 ht_24
  have hm189_25 := pm_isx xS25 hm189_24
  have hL189_25 := pm_lenx xS25 (hm189_24) hL189_24
  have hm219_25 : pm_is S25 (n + 219) 10 := by rw [← hS25]; exact pm_is_nw hl24
  have zS25 : pm_Z S25 s25 := pm_Zx xS25 zs25
  obtain ⟨S26, hS26⟩ : ∃ s, eX7_init S25 = s := ⟨_, rfl⟩
  have xS26 : ∃ e, S26 = S25 ++ e ∧ e.length = 5 := by rw [← hS26]; exact xX7_init
  have hl26 : S26.length = n + 224 := by obtain ⟨e, he, hc⟩ := xS26; rw [he, List.length_append, hl25, hc]
  have ht_26 := pm_isx xS26 ht_25
  have hm189_26 := pm_isx xS26 hm189_25
  have hm219_26 := pm_isx xS26 hm219_25
  have hL189_26 := pm_lenx xS26 (hm189_25) hL189_25
  have kk159_25 := KX7_init l (n := n + 219) hm219_25 zS25 hl25
  obtain ⟨s26, es26⟩ : ∃ s, gX7_init (n + 219) (n + 219) s25 = s := ⟨_, rfl⟩
  have zs26 : pm_Z S26 s26 := by rw [← es26]; exact by have w9 := kk159_25.2.1; rw [hS26] at w9; exact w9
  have fr26 : ∀ a j, a ≠ q → a ≤ n → s26.2 a j = σ.2 a j := by intro a j ha hb; rw [← es26, kk159_25.2.2 a j (pm_pl_ne hb (by decide)) (Nat.le_trans hb (Nat.le_add_right _ _))]; exact fr25 a j ha hb
  have hv9_26 : s26.2 q 9 = (n + 189) := by rw [← es26, kk159_25.2.2 q 9 (pm_pl_ne hqn (by decide)) (Nat.le_trans hqn (Nat.le_add_right _ _))]; exact hv9_25
  obtain ⟨s27, es27⟩ : ∃ s, pm_sr s26 q 15 (n + 219) = s := ⟨_, rfl⟩
  have zs27 : pm_Z S26 s27 := by rw [← es27]; exact zs26.sr ht_26.le
  have fr27 : ∀ a j, a ≠ q → a ≤ n → s27.2 a j = σ.2 a j := by intro a j ha hb; rw [← es27, pm_sr_2, if_neg (fun z => ha z.1)]; exact fr26 a j ha hb
  have hv9_27 : s27.2 q 9 = (n + 189) := by rw [← es27, pm_sr_2, if_neg (fun z => absurd z.2 (by decide))]; exact hv9_26
  obtain ⟨S27, hS27⟩ : ∃ s, S26 ++ [(3, 3)] = s := ⟨_, rfl⟩
  have xS27 : ∃ e, S27 = S26 ++ e ∧ e.length = 1 := ⟨[(3, 3)], hS27.symm, rfl⟩
  have hl27 : S27.length = n + 225 := by obtain ⟨e, he, hc⟩ := xS27; rw [he, List.length_append, hl26, hc]
  have ht_27 := pm_isx xS27 ht_26
  have hm189_27 := pm_isx xS27 hm189_26
  have hL189_27 := pm_lenx xS27 (hm189_26) hL189_26
  have hm225_27 : pm_is S27 (n + 225) 3 := by rw [← hS27]; exact pm_is_nw hl26
  have zS27 : pm_Z S27 s27 := pm_Zx xS27 zs27
  obtain ⟨S28, hS28⟩ : ∃ s, eX0_init S27 = s := ⟨_, rfl⟩
  have xS28 : ∃ e, S28 = S27 ++ e ∧ e.length = 2 := by rw [← hS28]; exact xX0_init
  have hl28 : S28.length = n + 227 := by obtain ⟨e, he, hc⟩ := xS28; rw [he, List.length_append, hl27, hc]
  have ht_28 := pm_isx xS28 ht_27
  have hm189_28 := pm_isx xS28 hm189_27
  have hm225_28 := pm_isx xS28 hm225_27
  have hL189_28 := pm_lenx xS28 (hm189_27) hL189_27
  have kk170_27 := KX0_init l (n := n + 225) hm225_27 zS27 hl27
  obtain ⟨s28, es28⟩ : ∃ s, gX0_init (n + 225) (n + 225) s27 = s := ⟨_, rfl⟩
  have zs28 : pm_Z S28 s28 := by rw [← es28]; exact by have w9 := kk170_27.2.1; rw [hS28] at w9; exact w9
  have fr28 : ∀ a j, a ≠ q → a ≤ n → s28.2 a j = σ.2 a j := by intro a j ha hb; rw [← es28, kk170_27.2.2 a j (pm_pl_ne hb (by decide)) (Nat.le_trans hb (Nat.le_add_right _ _))]; exact fr27 a j ha hb
  have hv9_28 : s28.2 q 9 = (n + 189) := by rw [← es28, kk170_27.2.2 q 9 (pm_pl_ne hqn (by decide)) (Nat.le_trans hqn (Nat.le_add_right _ _))]; exact hv9_27
  obtain ⟨s29, es29⟩ : ∃ s, pm_sr s28 q 16 (n + 225) = s := ⟨_, rfl⟩
  have zs29 : pm_Z S28 s29 := by rw [← es29]; exact zs28.sr ht_28.le
  have fr29 : ∀ a j, a ≠ q → a ≤ n → s29.2 a j = σ.2 a j := by intro a j ha hb; rw [← es29, pm_sr_2, if_neg (fun z => ha z.1)]; exact fr28 a j ha hb
  have hv9_29 : s29.2 q 9 = (n + 189) := by rw [← es29, pm_sr_2, if_neg (fun z => absurd z.2 (by decide))]; exact hv9_28
  have hEe : eX11_init S = S28 := by rw [← hS28, ← hS27, ← hS26, ← hS25, ← hS24, ← hS23, ← hS22, ← hS21, ← hS20, ← hS19, ← hS18, ← hS17, ← hS16, ← hS15, ← hS14, ← hS13, ← hS12, ← hS11, ← hS10, ← hS9, ← hS8, ← hS7, ← hS6, ← hS5, ← hS4, ← hS3, ← hS2, ← hS1]; rfl
  have hGe : gX11_init n q σ = s29 := by rw [← es29, ← es28, ← es27, ← es26, ← es25, ← es24, ← es23, ← es22, ← es21, ← es20, ← es19, ← es18, ← es17, ← es16, ← es15, ← es14, ← es13, ← es12, ← es11, ← es10, ← es9, ← es8, ← es7, ← es6, ← es5, ← es4, ← es3, ← es2, ← es1]; rfl
  have le28 : S28.length ≤ (eX11_init S).length ∧ pm_tot S28 ≤ pm_tot (eX11_init S) := by rw [hEe]; exact ⟨Nat.le_refl _, Nat.le_refl _⟩
  have le27 := pm_le_tr (pm_lex xS28) le28
  have le26 := pm_le_tr (pm_lex xS27) le27
  have le25 := pm_le_tr (pm_lex xS26) le26
  have le24 := pm_le_tr (pm_lex xS25) le25
  have le23 := pm_le_tr (pm_lex xS24) le24
  have le22 := pm_le_tr (pm_lex xS23) le23
  have le21 := pm_le_tr (pm_lex xS22) le22
  have le20 := pm_le_tr (pm_lex xS21) le21
  have le19 := pm_le_tr (pm_lex xS20) le20
  have le18 := pm_le_tr (pm_lex xS19) le19
  have le17 := pm_le_tr (pm_lex xS18) le18
  have le16 := pm_le_tr (pm_lex xS17) le17
  have le15 := pm_le_tr (pm_lex xS16) le16
  have le14 := pm_le_tr (pm_lex xS15) le15
  have le13 := pm_le_tr (pm_lex xS14) le14
  have le12 := pm_le_tr (pm_lex xS13) le13
  have le11 := pm_le_tr (pm_lex xS12) le12
  have le10 := pm_le_tr (pm_lex xS11) le11
  have le9 := pm_le_tr (pm_lex xS10) le10
  have le8 := pm_le_tr (pm_lex xS9) le9
  have le7 := pm_le_tr (pm_lex xS8) le8
  have le6 := pm_le_tr (pm_lex xS7) le7
  have le5 := pm_le_tr (pm_lex xS6) le6
  have le4 := pm_le_tr (pm_lex xS5) le5
  have le3 := pm_le_tr (pm_lex xS4) le4
  have le2 := pm_le_tr (pm_lex xS3) le3
  have le1 := pm_le_tr (pm_lex xS2) le2
  refine ⟨?_, by rw [hEe, hGe]; exact zs29, by rw [hGe]; exact fr29⟩
  refine pm_M.of (by decide +kernel) (Nat.le_of_ble_eq_true rfl) ?_
  show pm_E l yX11_init cX11_init 2 none true 4 S (none, eX11_init S, gX11_init n q σ) 0 [(0, .ref q)] [] S σ
  refine pm_aload_n (pc := 0) 0 dX11_init_0 rfl rfl h0.pos ?_
  refine pm_objInit (pc := 1) oiX11_1 h0.pos (Nat.le_of_ble_eq_true rfl) (by decide) dX11_init_1 ?_
  refine pm_aload_n (pc := 4) 0 dX11_init_4 rfl rfl h0.pos ?_
  refine pm_sipush (pc := 5) (240 : Int32) (by decide) dX11_init_5 ?_
  refine pm_newa' (pc := 8) (q := (n + 1)) (N := 240) (S' := S1) (Or.inl ⟨rfl, rfl⟩) ac_int hz rfl (by decide) (congrArg (· + 1) hn) hS1 le1 dX11_init_8 ?_
  refine pm_putR (pc := 10) (k := 0) pm_cl11 flX11_9 (by decide) rfl (fun _ => ⟨rfl, rfl⟩) (Or.inr ⟨rfl, rfl, rfl⟩) ht_1 hm1_1 dX11_init_10 ?_
  refine pm_nmh es1 ?_
  refine pm_aload_n (pc := 13) 0 dX11_init_13 rfl rfl h0.pos ?_
  refine pm_iconst (pc := 14) (-1 : Int32) (by decide) dX11_init_14 ?_
  refine pm_putI (pc := 15) (k := 2) pm_cl11 flX11_13 (by decide) rfl rfl rfl ht_1 dX11_init_15 ?_
  refine pm_nmh es2 ?_
  refine pm_aload_n (pc := 18) 0 dX11_init_18 rfl rfl h0.pos ?_
  refine pm_new' (pc := 19) (q := (n + 2)) (S' := S2) pm_cl5 cnX11_17 zs2 (by decide +kernel) (congrArg (· + 1) hl1) hS2 le2 dX11_init_19 ?_
  refine pm_dup (pc := 22) rfl dX11_init_22 ?_
  refine pm_cI (pc := 23) (st := [.ref (n + 2), .ref q]) (S' := S3) miX11_19 (by have w9 := kk23_2.1; rw [hS3] at w9; exact w9) (by decide) (pm_pl_pos (by decide)) rfl (Nat.le_of_ble_eq_true rfl) (pm_lex xS3) (fun z => by cases z) le3 dX11_init_23 ?_
  refine pm_nmh es3 ?_
  refine pm_putR (pc := 26) (k := 3) pm_cl11 flX11_20 (by decide) rfl (fun _ => ⟨rfl, rfl⟩) (Or.inr ⟨rfl, rfl, rfl⟩) ht_3 hm2_3 dX11_init_26 ?_
  refine pm_nmh es4 ?_
  refine pm_aload_n (pc := 29) 0 dX11_init_29 rfl rfl h0.pos ?_
  refine pm_new' (pc := 30) (q := (n + 4)) (S' := S4) pm_cl9 cnX11_24 zs4 (by decide +kernel) (congrArg (· + 1) hl3) hS4 le4 dX11_init_30 ?_
  refine pm_dup (pc := 33) rfl dX11_init_33 ?_
  refine pm_cI (pc := 34) (st := [.ref (n + 4), .ref q]) (S' := S5) miX11_26 (by have w9 := kk34_4.1; rw [hS5] at w9; exact w9) (by decide) (pm_pl_pos (by decide)) rfl (Nat.le_of_ble_eq_true rfl) (pm_lex xS5) (fun z => by cases z) le5 dX11_init_34 ?_
  refine pm_nmh es5 ?_
  refine pm_putR (pc := 37) (k := 4) pm_cl11 flX11_27 (by decide) rfl (fun _ => ⟨rfl, rfl⟩) (Or.inl rfl) ht_5 hm4_5 dX11_init_37 ?_
  refine pm_nmh es6 ?_
  refine pm_aload_n (pc := 40) 0 dX11_init_40 rfl rfl h0.pos ?_
  refine pm_new' (pc := 41) (q := (n + 10)) (S' := S6) pm_cl9 cnX11_24 zs6 (by decide +kernel) (congrArg (· + 1) hl5) hS6 le6 dX11_init_41 ?_
  refine pm_dup (pc := 44) rfl dX11_init_44 ?_
  refine pm_cI (pc := 45) (st := [.ref (n + 10), .ref q]) (S' := S7) miX11_26 (by have w9 := kk45_6.1; rw [hS7] at w9; exact w9) (by decide) (pm_pl_pos (by decide)) rfl (Nat.le_of_ble_eq_true rfl) (pm_lex xS7) (fun z => by cases z) le7 dX11_init_45 ?_
  refine pm_nmh es7 ?_
  refine pm_putR (pc := 48) (k := 5) pm_cl11 flX11_31 (by decide) rfl (fun _ => ⟨rfl, rfl⟩) (Or.inl rfl) ht_7 hm10_7 dX11_init_48 ?_
  refine pm_nmh es8 ?_
  refine pm_aload_n (pc := 51) 0 dX11_init_51 rfl rfl h0.pos ?_
  refine pm_new' (pc := 52) (q := (n + 16)) (S' := S8) pm_cl8 cnX11_34 zs8 (by decide +kernel) (congrArg (· + 1) hl7) hS8 le8 dX11_init_52 ?_
  refine pm_dup (pc := 55) rfl dX11_init_55 ?_
  refine pm_cI (pc := 56) (st := [.ref (n + 16), .ref q]) (S' := S9) miX11_36 (by have w9 := kk56_8.1; rw [hS9] at w9; exact w9) (by decide) (pm_pl_pos (by decide)) rfl (Nat.le_of_ble_eq_true rfl) (pm_lex xS9) (fun z => by cases z) le9 dX11_init_56 ?_
  refine pm_nmh es9 ?_
  refine pm_putR (pc := 59) (k := 6) pm_cl11 flX11_37 (by decide) rfl (fun _ => ⟨rfl, rfl⟩) (Or.inr ⟨rfl, rfl, rfl⟩) ht_9 hm16_9 dX11_init_59 ?_
  refine pm_nmh es10 ?_
  refine pm_aload_n (pc := 62) 0 dX11_init_62 rfl rfl h0.pos ?_
  refine pm_new' (pc := 63) (q := (n + 26)) (S' := S10) pm_cl6 cnX11_41 zs10 (by decide +kernel) (congrArg (· + 1) hl9) hS10 le10 dX11_init_63 ?_
  refine pm_dup (pc := 66) rfl dX11_init_66 ?_
  refine pm_cI (pc := 67) (st := [.ref (n + 26), .ref q]) (S' := S11) miX11_43 (by have w9 := kk67_10.1; rw [hS11] at w9; exact w9) (by decide) (pm_pl_pos (by decide)) rfl (Nat.le_of_ble_eq_true rfl) (pm_lex xS11) (fun z => by cases z) le11 dX11_init_67 ?_
  refine pm_nmh es11 ?_
  refine pm_putR (pc := 70) (k := 7) pm_cl11 flX11_44 (by decide) rfl (fun _ => ⟨rfl, rfl⟩) (Or.inr ⟨rfl, rfl, rfl⟩) ht_11 hm26_11 dX11_init_70 ?_
  refine pm_nmh es12 ?_
  refine pm_aload_n (pc := 73) 0 dX11_init_73 rfl rfl h0.pos ?_
  refine pm_new' (pc := 74) (q := (n + 27)) (S' := S12) pm_cl3 cnX11_48 zs12 (by decide +kernel) (congrArg (· + 1) hl11) hS12 le12 dX11_init_74 ?_
  refine pm_dup (pc := 77) rfl dX11_init_77 ?_
  refine pm_cI (pc := 78) (st := [.ref (n + 27), .ref q]) (S' := S13) miX11_50 (by have w9 := kk78_12.1; rw [hS13] at w9; exact w9) (by decide) (pm_pl_pos (by decide)) rfl (Nat.le_of_ble_eq_true rfl) (pm_lex xS13) (fun z => by cases z) le13 dX11_init_78 ?_
  refine pm_nmh es13 ?_
  refine pm_putR (pc := 81) (k := 8) pm_cl11 flX11_51 (by decide) rfl (fun _ => ⟨rfl, rfl⟩) (Or.inr ⟨rfl, rfl, rfl⟩) ht_13 hm27_13 dX11_init_81 ?_
  refine pm_nmh es14 ?_
  refine pm_aload_n (pc := 84) 0 dX11_init_84 rfl rfl h0.pos ?_
  refine pm_iconst (pc := 85) (2 : Int32) (by decide) dX11_init_85 ?_
  refine pm_anew' (pc := 86) (q := (n + 189)) (N := 2) (S' := S14) caX11_34 zs14 rfl (by decide) (congrArg (· + 1) hl13) hS14 le14 dX11_init_86 ?_
  refine pm_putR (pc := 89) (k := 9) pm_cl11 flX11_55 (by decide) rfl (fun _ => ⟨rfl, rfl⟩) (Or.inr ⟨rfl, rfl, rfl⟩) ht_14 hm189_14 dX11_init_89 ?_
  refine pm_nmh es15 ?_
  refine pm_iconst (pc := 92) (0 : Int32) (by decide) dX11_init_92 ?_
  refine pm_istore_n (pc := 93) [(1, .int (0 : Int32)), (0, .ref q)] dX11_init_93 rfl (by decide) rfl ?_
  refine pm_iload_n (pc := 94) 0 dX11_init_94 rfl rfl ?_
  refine pm_iconst (pc := 95) (2 : Int32) (by decide) dX11_init_95 ?_
  refine pm_icmp_ge (pc := 96) 118 dX11_init_96 (by decide) (fun hc => absurd hc (by decide)) (fun _ => ?_)
  refine pm_aload_n (pc := 99) 1 dX11_init_99 rfl rfl h0.pos ?_
  refine pm_getR (pc := 100) (k := 9) pm_cl11 flX11_55 (by decide) rfl ht_14 dX11_init_100 ?_
  refine pm_nmr (z := (n + 189)) hv9_15 ?_
  refine pm_iload_n (pc := 103) 0 dX11_init_103 rfl rfl ?_
  refine pm_new' (pc := 104) (q := (n + 190)) (S' := S15) pm_cl8 cnX11_34 zs15 (by decide +kernel) (congrArg (· + 1) hl14) hS15 le15 dX11_init_104 ?_
  refine pm_dup (pc := 107) rfl dX11_init_107 ?_
  refine pm_cI (pc := 108) (st := [.ref (n + 190), .int (0 : Int32), .ref (n + 189)]) (S' := S16) miX11_36 (by have w9 := kk108_15.1; rw [hS16] at w9; exact w9) (by decide) (pm_pl_pos (by decide)) rfl (Nat.le_of_ble_eq_true rfl) (pm_lex xS16) (fun z => by cases z) le16 dX11_init_108 ?_
  refine pm_nmh es16 ?_
  refine pm_aast (pc := 111) hm189_16 hm190_16 (by rw [hL189_16]; exact vp_in_nI (n := 0) (by decide) (by decide)) dX11_init_111 ?_
  refine pm_nmh es17 ?_
  refine pm_iinc (pc := 112) 0 (1 : Int32) [(1, .int (1 : Int32)), (0, .ref q)] dX11_init_112 rfl (by decide) (by decide) rfl ?_
  refine pm_goto (pc := 115) 94 dX11_init_115 (by decide) ?_
  refine pm_iload_n (pc := 94) 0 dX11_init_94 rfl rfl ?_
  refine pm_iconst (pc := 95) (2 : Int32) (by decide) dX11_init_95 ?_
  refine pm_icmp_ge (pc := 96) 118 dX11_init_96 (by decide) (fun hc => absurd hc (by decide)) (fun _ => ?_)
  refine pm_aload_n (pc := 99) 1 dX11_init_99 rfl rfl h0.pos ?_
  refine pm_getR (pc := 100) (k := 9) pm_cl11 flX11_55 (by decide) rfl ht_16 dX11_init_100 ?_
  refine pm_nmr (z := (n + 189)) hv9_17 ?_
  refine pm_iload_n (pc := 103) 0 dX11_init_103 rfl rfl ?_
  refine pm_new' (pc := 104) (q := (n + 200)) (S' := S17) pm_cl8 cnX11_34 zs17 (by decide +kernel) (congrArg (· + 1) hl16) hS17 le17 dX11_init_104 ?_
  refine pm_dup (pc := 107) rfl dX11_init_107 ?_
  refine pm_cI (pc := 108) (st := [.ref (n + 200), .int (1 : Int32), .ref (n + 189)]) (S' := S18) miX11_36 (by have w9 := kk108_17.1; rw [hS18] at w9; exact w9) (by decide) (pm_pl_pos (by decide)) rfl (Nat.le_of_ble_eq_true rfl) (pm_lex xS18) (fun z => by cases z) le18 dX11_init_108 ?_
  refine pm_nmh es18 ?_
  refine pm_aast (pc := 111) hm189_18 hm200_18 (by rw [hL189_18]; exact vp_in_nI (n := 1) (by decide) (by decide)) dX11_init_111 ?_
  refine pm_nmh es19 ?_
  refine pm_iinc (pc := 112) 0 (2 : Int32) [(1, .int (2 : Int32)), (0, .ref q)] dX11_init_112 rfl (by decide) (by decide) rfl ?_
  refine pm_goto (pc := 115) 94 dX11_init_115 (by decide) ?_
  refine pm_iload_n (pc := 94) 0 dX11_init_94 rfl rfl ?_
  refine pm_iconst (pc := 95) (2 : Int32) (by decide) dX11_init_95 ?_
  refine pm_icmp_ge (pc := 96) 118 dX11_init_96 (by decide) (fun _ => ?_) (fun hc => absurd (by decide) hc)
  refine pm_aload_n (pc := 118) 1 dX11_init_118 rfl rfl h0.pos ?_
  refine pm_iconst (pc := 119) (2 : Int32) (by decide) dX11_init_119 ?_
  refine pm_newa' (pc := 120) (q := (n + 210)) (N := 2) (S' := S19) (Or.inr ⟨rfl, rfl⟩) ac_boolean zs19 rfl (by decide) (congrArg (· + 1) hl18) hS19 le19 dX11_init_120 ?_
  refine pm_putR (pc := 122) (k := 10) pm_cl11 flX11_59 (by decide) rfl (fun _ => ⟨rfl, rfl⟩) (Or.inr ⟨rfl, rfl, rfl⟩) ht_19 hm210_19 dX11_init_122 ?_
  refine pm_nmh es20 ?_
  refine pm_aload_n (pc := 125) 1 dX11_init_125 rfl rfl h0.pos ?_
  refine pm_iconst (pc := 126) (2 : Int32) (by decide) dX11_init_126 ?_
  refine pm_newa' (pc := 127) (q := (n + 211)) (N := 2) (S' := S20) (Or.inl ⟨rfl, rfl⟩) ac_int zs20 rfl (by decide) (congrArg (· + 1) hl19) hS20 le20 dX11_init_127 ?_
  refine pm_putR (pc := 129) (k := 11) pm_cl11 flX11_63 (by decide) rfl (fun _ => ⟨rfl, rfl⟩) (Or.inr ⟨rfl, rfl, rfl⟩) ht_20 hm211_20 dX11_init_129 ?_
  refine pm_nmh es21 ?_
  refine pm_aload_n (pc := 132) 1 dX11_init_132 rfl rfl h0.pos ?_
  refine pm_new' (pc := 133) (q := (n + 212)) (S' := S21) pm_cl2 cnX11_66 zs21 (by decide +kernel) (congrArg (· + 1) hl20) hS21 le21 dX11_init_133 ?_
  refine pm_dup (pc := 136) rfl dX11_init_136 ?_
  refine pm_cI (pc := 137) (st := [.ref (n + 212), .ref q]) (S' := S22) miX11_68 (by have w9 := kk137_21.1; rw [hS22] at w9; exact w9) (by decide) (pm_pl_pos (by decide)) rfl (Nat.le_of_ble_eq_true rfl) (pm_lex xS22) (fun z => by cases z) le22 dX11_init_137 ?_
  refine pm_nmh es22 ?_
  refine pm_putR (pc := 140) (k := 13) pm_cl11 flX11_69 (by decide) rfl (fun _ => ⟨rfl, rfl⟩) (Or.inr ⟨rfl, rfl, rfl⟩) ht_22 hm212_22 dX11_init_140 ?_
  refine pm_nmh es23 ?_
  refine pm_aload_n (pc := 143) 1 dX11_init_143 rfl rfl h0.pos ?_
  refine pm_new' (pc := 144) (q := (n + 216)) (S' := S23) pm_cl4 cnX11_73 zs23 (by decide +kernel) (congrArg (· + 1) hl22) hS23 le23 dX11_init_144 ?_
  refine pm_dup (pc := 147) rfl dX11_init_147 ?_
  refine pm_cI (pc := 148) (st := [.ref (n + 216), .ref q]) (S' := S24) miX11_75 (by have w9 := kk148_23.1; rw [hS24] at w9; exact w9) (by decide) (pm_pl_pos (by decide)) rfl (Nat.le_of_ble_eq_true rfl) (pm_lex xS24) (fun z => by cases z) le24 dX11_init_148 ?_
  refine pm_nmh es24 ?_
  refine pm_putR (pc := 151) (k := 14) pm_cl11 flX11_76 (by decide) rfl (fun _ => ⟨rfl, rfl⟩) (Or.inr ⟨rfl, rfl, rfl⟩) ht_24 hm216_24 dX11_init_151 ?_
  refine pm_nmh es25 ?_
  refine pm_aload_n (pc := 154) 1 dX11_init_154 rfl rfl h0.pos ?_
  refine pm_new' (pc := 155) (q := (n + 219)) (S' := S25) pm_cl7 cnX11_80 zs25 (by decide +kernel) (congrArg (· + 1) hl24) hS25 le25 dX11_init_155 ?_
  refine pm_dup (pc := 158) rfl dX11_init_158 ?_
  refine pm_cI (pc := 159) (st := [.ref (n + 219), .ref q]) (S' := S26) miX11_82 (by have w9 := kk159_25.1; rw [hS26] at w9; exact w9) (by decide) (pm_pl_pos (by decide)) rfl (Nat.le_of_ble_eq_true rfl) (pm_lex xS26) (fun z => by cases z) le26 dX11_init_159 ?_
  refine pm_nmh es26 ?_
  refine pm_putR (pc := 162) (k := 15) pm_cl11 flX11_83 (by decide) rfl (fun _ => ⟨rfl, rfl⟩) (Or.inr ⟨rfl, rfl, rfl⟩) ht_26 hm219_26 dX11_init_162 ?_
  refine pm_nmh es27 ?_
  refine pm_aload_n (pc := 165) 1 dX11_init_165 rfl rfl h0.pos ?_
  refine pm_new' (pc := 166) (q := (n + 225)) (S' := S27) pm_cl0 cnX11_87 zs27 (by decide +kernel) (congrArg (· + 1) hl26) hS27 le27 dX11_init_166 ?_
  refine pm_dup (pc := 169) rfl dX11_init_169 ?_
  refine pm_cI (pc := 170) (st := [.ref (n + 225), .ref q]) (S' := S28) miX11_89 (by have w9 := kk170_27.1; rw [hS28] at w9; exact w9) (by decide) (pm_pl_pos (by decide)) rfl (Nat.le_of_ble_eq_true rfl) (pm_lex xS28) (fun z => by cases z) le28 dX11_init_170 ?_
  refine pm_nmh es28 ?_
  refine pm_putR (pc := 173) (k := 16) pm_cl11 flX11_90 (by decide) rfl (fun _ => ⟨rfl, rfl⟩) (Or.inr ⟨rfl, rfl, rfl⟩) ht_28 hm225_28 dX11_init_173 ?_
  refine pm_nmh es29 ?_
  exact pm_vret rfl dX11_init_176 (by rw [hEe, hGe])
def eX12_init (S : pm_S) : pm_S :=
  let S1 := S ++ [(0, 5)]
  let S2 := S1 ++ [(0, 6)]
  let S3 := S2 ++ [(0, 6)]
  let S4 := S3 ++ [(0, 6)]
  let S5 := S4 ++ [(0, 12)]
  let S6 := S5 ++ [(0, 80)]
  let S7 := S6 ++ [(0, 240)]
  let S8 := S7 ++ [(0, 5)]
  let S9 := S8 ++ [(0, 6)]
  let S10 := S9 ++ [(0, 6)]
  let S11 := S10 ++ [(0, 6)]
  let S12 := S11 ++ [(0, 12)]
  let S13 := S12 ++ [(0, 1280)]
  let S14 := S13 ++ [(0, 1000)]
  let S15 := S14 ++ [(0, 448)]
  let S16 := S15 ++ [(0, 6)]
  let S17 := S16 ++ [(0, 6)]
  let S18 := S17 ++ [(0, 2200)]
  let S19 := S18 ++ [(0, 15)]
  let S20 := S19 ++ [(0, 15)]
  let S21 := S20 ++ [(0, 162)]
  let S22 := S21 ++ [(1, 2)]
  S22
def gX12_init (n q : Nat) (σ : pm_H) : pm_H :=
  let s1 := pm_sr σ q 3 (n + 1)
  let s2 := pm_sr s1 q 5 (n + 2)
  let s3 := pm_sr s2 q 6 (n + 3)
  let s4 := pm_sr s3 q 8 (n + 4)
  let s5 := pm_sr s4 q 10 (n + 5)
  let s6 := pm_sr s5 q 11 (n + 6)
  let s7 := pm_sr s6 q 13 (n + 7)
  let s8 := pm_si s7 q 15 (-1 : Int32)
  let s9 := pm_sr s8 q 22 (n + 8)
  let s10 := pm_sr s9 q 24 (n + 9)
  let s11 := pm_sr s10 q 25 (n + 10)
  let s12 := pm_sr s11 q 27 (n + 11)
  let s13 := pm_sr s12 q 29 (n + 12)
  let s14 := pm_sr s13 q 31 (n + 13)
  let s15 := pm_sr s14 q 32 (n + 14)
  let s16 := pm_sr s15 q 33 (n + 15)
  let s17 := pm_sr s16 q 35 (n + 16)
  let s18 := pm_sr s17 q 36 (n + 17)
  let s19 := pm_sr s18 q 37 (n + 18)
  let s20 := pm_sr s19 q 39 (n + 19)
  let s21 := pm_sr s20 q 40 (n + 20)
  let s22 := pm_sr s21 q 41 (n + 21)
  let s23 := pm_sr s22 q 42 (n + 22)
  let s24 := pm_si s23 q 0 (0 : Int32)
  s24
theorem xX12_init {S : pm_S} : ∃ e, eX12_init S = S ++ e ∧ e.length = 22 := by
  obtain ⟨S1, hS1⟩ : ∃ s, S ++ [(0, 5)] = s := ⟨_, rfl⟩
  have xS1 : ∃ e, S1 = S ++ e ∧ e.length = 1 := ⟨_, hS1.symm, rfl⟩
  obtain ⟨S2, hS2⟩ : ∃ s, S1 ++ [(0, 6)] = s := ⟨_, rfl⟩
  have xS2 : ∃ e, S2 = S1 ++ e ∧ e.length = 1 := ⟨_, hS2.symm, rfl⟩
  obtain ⟨S3, hS3⟩ : ∃ s, S2 ++ [(0, 6)] = s := ⟨_, rfl⟩
  have xS3 : ∃ e, S3 = S2 ++ e ∧ e.length = 1 := ⟨_, hS3.symm, rfl⟩
  obtain ⟨S4, hS4⟩ : ∃ s, S3 ++ [(0, 6)] = s := ⟨_, rfl⟩
  have xS4 : ∃ e, S4 = S3 ++ e ∧ e.length = 1 := ⟨_, hS4.symm, rfl⟩
  obtain ⟨S5, hS5⟩ : ∃ s, S4 ++ [(0, 12)] = s := ⟨_, rfl⟩
  have xS5 : ∃ e, S5 = S4 ++ e ∧ e.length = 1 := ⟨_, hS5.symm, rfl⟩
  obtain ⟨S6, hS6⟩ : ∃ s, S5 ++ [(0, 80)] = s := ⟨_, rfl⟩
  have xS6 : ∃ e, S6 = S5 ++ e ∧ e.length = 1 := ⟨_, hS6.symm, rfl⟩
  obtain ⟨S7, hS7⟩ : ∃ s, S6 ++ [(0, 240)] = s := ⟨_, rfl⟩
  have xS7 : ∃ e, S7 = S6 ++ e ∧ e.length = 1 := ⟨_, hS7.symm, rfl⟩
  obtain ⟨S8, hS8⟩ : ∃ s, S7 ++ [(0, 5)] = s := ⟨_, rfl⟩
  have xS8 : ∃ e, S8 = S7 ++ e ∧ e.length = 1 := ⟨_, hS8.symm, rfl⟩
  obtain ⟨S9, hS9⟩ : ∃ s, S8 ++ [(0, 6)] = s := ⟨_, rfl⟩
  have xS9 : ∃ e, S9 = S8 ++ e ∧ e.length = 1 := ⟨_, hS9.symm, rfl⟩
  obtain ⟨S10, hS10⟩ : ∃ s, S9 ++ [(0, 6)] = s := ⟨_, rfl⟩
  have xS10 : ∃ e, S10 = S9 ++ e ∧ e.length = 1 := ⟨_, hS10.symm, rfl⟩
  obtain ⟨S11, hS11⟩ : ∃ s, S10 ++ [(0, 6)] = s := ⟨_, rfl⟩
  have xS11 : ∃ e, S11 = S10 ++ e ∧ e.length = 1 := ⟨_, hS11.symm, rfl⟩
  obtain ⟨S12, hS12⟩ : ∃ s, S11 ++ [(0, 12)] = s := ⟨_, rfl⟩
  have xS12 : ∃ e, S12 = S11 ++ e ∧ e.length = 1 := ⟨_, hS12.symm, rfl⟩
  obtain ⟨S13, hS13⟩ : ∃ s, S12 ++ [(0, 1280)] = s := ⟨_, rfl⟩
  have xS13 : ∃ e, S13 = S12 ++ e ∧ e.length = 1 := ⟨_, hS13.symm, rfl⟩
  obtain ⟨S14, hS14⟩ : ∃ s, S13 ++ [(0, 1000)] = s := ⟨_, rfl⟩
  have xS14 : ∃ e, S14 = S13 ++ e ∧ e.length = 1 := ⟨_, hS14.symm, rfl⟩
  obtain ⟨S15, hS15⟩ : ∃ s, S14 ++ [(0, 448)] = s := ⟨_, rfl⟩
  have xS15 : ∃ e, S15 = S14 ++ e ∧ e.length = 1 := ⟨_, hS15.symm, rfl⟩
  obtain ⟨S16, hS16⟩ : ∃ s, S15 ++ [(0, 6)] = s := ⟨_, rfl⟩
  have xS16 : ∃ e, S16 = S15 ++ e ∧ e.length = 1 := ⟨_, hS16.symm, rfl⟩
  obtain ⟨S17, hS17⟩ : ∃ s, S16 ++ [(0, 6)] = s := ⟨_, rfl⟩
  have xS17 : ∃ e, S17 = S16 ++ e ∧ e.length = 1 := ⟨_, hS17.symm, rfl⟩
  obtain ⟨S18, hS18⟩ : ∃ s, S17 ++ [(0, 2200)] = s := ⟨_, rfl⟩
  have xS18 : ∃ e, S18 = S17 ++ e ∧ e.length = 1 := ⟨_, hS18.symm, rfl⟩
  obtain ⟨S19, hS19⟩ : ∃ s, S18 ++ [(0, 15)] = s := ⟨_, rfl⟩
  have xS19 : ∃ e, S19 = S18 ++ e ∧ e.length = 1 := ⟨_, hS19.symm, rfl⟩
  obtain ⟨S20, hS20⟩ : ∃ s, S19 ++ [(0, 15)] = s := ⟨_, rfl⟩
  have xS20 : ∃ e, S20 = S19 ++ e ∧ e.length = 1 := ⟨_, hS20.symm, rfl⟩
  obtain ⟨S21, hS21⟩ : ∃ s, S20 ++ [(0, 162)] = s := ⟨_, rfl⟩
  have xS21 : ∃ e, S21 = S20 ++ e ∧ e.length = 1 := ⟨_, hS21.symm, rfl⟩
  obtain ⟨S22, hS22⟩ : ∃ s, S21 ++ [(1, 2)] = s := ⟨_, rfl⟩
  have xS22 : ∃ e, S22 = S21 ++ e ∧ e.length = 1 := ⟨_, hS22.symm, rfl⟩
  have hEe : eX12_init S = S22 := by rw [← hS22, ← hS21, ← hS20, ← hS19, ← hS18, ← hS17, ← hS16, ← hS15, ← hS14, ← hS13, ← hS12, ← hS11, ← hS10, ← hS9, ← hS8, ← hS7, ← hS6, ← hS5, ← hS4, ← hS3, ← hS2, ← hS1]; rfl
  rw [hEe]
  exact pm_xt (pm_xt (pm_xt (pm_xt (pm_xt (pm_xt (pm_xt (pm_xt (pm_xt (pm_xt (pm_xt (pm_xt (pm_xt (pm_xt (pm_xt (pm_xt (pm_xt (pm_xt (pm_xt (pm_xt (pm_xt (xS1) xS2) xS3) xS4) xS5) xS6) xS7) xS8) xS9) xS10) xS11) xS12) xS13) xS14) xS15) xS16) xS17) xS18) xS19) xS20) xS21) xS22
set_option maxRecDepth 100000 in
set_option maxHeartbeats 4000000 in
theorem KX12_init (l : Launch) {S : pm_S} {σ : pm_H} {q n : Nat} (h0 : pm_is S q 15) (hz : pm_Z S σ) (hn : S.length = n) : pm_M l yX12_init cX12_init 1 none true 1 [.ref q] S σ (none, eX12_init S, gX12_init n q σ) ∧ pm_Z (eX12_init S) (gX12_init n q σ) ∧ ∀ a j, a ≠ q → a ≤ n → (gX12_init n q σ).2 a j = σ.2 a j := by
  have hq0 := h0.pos
  have hqn : q ≤ n := by have hq1 := h0.le; omega
  obtain ⟨S1, hS1⟩ : ∃ s, S ++ [(0, 5)] = s := ⟨_, rfl⟩
  have xS1 : ∃ e, S1 = S ++ e ∧ e.length = 1 := ⟨[(0, 5)], hS1.symm, rfl⟩
  have hl1 : S1.length = n + 1 := by obtain ⟨e, he, hc⟩ := xS1; rw [he, List.length_append, hn, hc]
  have ht_1 := pm_isx xS1 h0
  have hm1_1 : pm_is S1 (n + 1) 0 := by rw [← hS1]; exact pm_is_nw hn
  have zS1 : pm_Z S1 σ := pm_Zx xS1 hz
  obtain ⟨s1, es1⟩ : ∃ s, pm_sr σ q 3 (n + 1) = s := ⟨_, rfl⟩
  have zs1 : pm_Z S1 s1 := by rw [← es1]; exact zS1.sr ht_1.le
  have fr1 : ∀ a j, a ≠ q → a ≤ n → s1.2 a j = σ.2 a j := by intro a j ha hb; rw [← es1, pm_sr_2, if_neg (fun z => ha z.1)]
  obtain ⟨S2, hS2⟩ : ∃ s, S1 ++ [(0, 6)] = s := ⟨_, rfl⟩
  have xS2 : ∃ e, S2 = S1 ++ e ∧ e.length = 1 := ⟨[(0, 6)], hS2.symm, rfl⟩
  have hl2 : S2.length = n + 2 := by obtain ⟨e, he, hc⟩ := xS2; rw [he, List.length_append, hl1, hc]
  have ht_2 := pm_isx xS2 ht_1
  have hm2_2 : pm_is S2 (n + 2) 0 := by rw [← hS2]; exact pm_is_nw hl1
  have zS2 : pm_Z S2 s1 := pm_Zx xS2 zs1
  obtain ⟨s2, es2⟩ : ∃ s, pm_sr s1 q 5 (n + 2) = s := ⟨_, rfl⟩
  have zs2 : pm_Z S2 s2 := by rw [← es2]; exact zS2.sr ht_2.le
  have fr2 : ∀ a j, a ≠ q → a ≤ n → s2.2 a j = σ.2 a j := by intro a j ha hb; rw [← es2, pm_sr_2, if_neg (fun z => ha z.1)]; exact fr1 a j ha hb
  obtain ⟨S3, hS3⟩ : ∃ s, S2 ++ [(0, 6)] = s := ⟨_, rfl⟩
  have xS3 : ∃ e, S3 = S2 ++ e ∧ e.length = 1 := ⟨[(0, 6)], hS3.symm, rfl⟩
  have hl3 : S3.length = n + 3 := by obtain ⟨e, he, hc⟩ := xS3; rw [he, List.length_append, hl2, hc]
  have ht_3 := pm_isx xS3 ht_2
  have hm3_3 : pm_is S3 (n + 3) 0 := by rw [← hS3]; exact pm_is_nw hl2
  have zS3 : pm_Z S3 s2 := pm_Zx xS3 zs2
  obtain ⟨s3, es3⟩ : ∃ s, pm_sr s2 q 6 (n + 3) = s := ⟨_, rfl⟩
  have zs3 : pm_Z S3 s3 := by rw [← es3]; exact zS3.sr ht_3.le
  have fr3 : ∀ a j, a ≠ q → a ≤ n → s3.2 a j = σ.2 a j := by intro a j ha hb; rw [← es3, pm_sr_2, if_neg (fun z => ha z.1)]; exact fr2 a j ha hb
  obtain ⟨S4, hS4⟩ : ∃ s, S3 ++ [(0, 6)] = s := ⟨_, rfl⟩
  have xS4 : ∃ e, S4 = S3 ++ e ∧ e.length = 1 := ⟨[(0, 6)], hS4.symm, rfl⟩
  have hl4 : S4.length = n + 4 := by obtain ⟨e, he, hc⟩ := xS4; rw [he, List.length_append, hl3, hc]
  have ht_4 := pm_isx xS4 ht_3
  have hm4_4 : pm_is S4 (n + 4) 0 := by rw [← hS4]; exact pm_is_nw hl3
  have zS4 : pm_Z S4 s3 := pm_Zx xS4 zs3
  obtain ⟨s4, es4⟩ : ∃ s, pm_sr s3 q 8 (n + 4) = s := ⟨_, rfl⟩
  have zs4 : pm_Z S4 s4 := by rw [← es4]; exact zS4.sr ht_4.le
  have fr4 : ∀ a j, a ≠ q → a ≤ n → s4.2 a j = σ.2 a j := by intro a j ha hb; rw [← es4, pm_sr_2, if_neg (fun z => ha z.1)]; exact fr3 a j ha hb
  obtain ⟨S5, hS5⟩ : ∃ s, S4 ++ [(0, 12)] = s := ⟨_, rfl⟩
  have xS5 : ∃ e, S5 = S4 ++ e ∧ e.length = 1 := ⟨[(0, 12)], hS5.symm, rfl⟩
  have hl5 : S5.length = n + 5 := by obtain ⟨e, he, hc⟩ := xS5; rw [he, List.length_append, hl4, hc]
  have ht_5 := pm_isx xS5 ht_4
  have hm5_5 : pm_is S5 (n + 5) 0 := by rw [← hS5]; exact pm_is_nw hl4
  have zS5 : pm_Z S5 s4 := pm_Zx xS5 zs4
  obtain ⟨s5, es5⟩ : ∃ s, pm_sr s4 q 10 (n + 5) = s := ⟨_, rfl⟩
  have zs5 : pm_Z S5 s5 := by rw [← es5]; exact zS5.sr ht_5.le
  have fr5 : ∀ a j, a ≠ q → a ≤ n → s5.2 a j = σ.2 a j := by intro a j ha hb; rw [← es5, pm_sr_2, if_neg (fun z => ha z.1)]; exact fr4 a j ha hb
  obtain ⟨S6, hS6⟩ : ∃ s, S5 ++ [(0, 80)] = s := ⟨_, rfl⟩
  have xS6 : ∃ e, S6 = S5 ++ e ∧ e.length = 1 := ⟨[(0, 80)], hS6.symm, rfl⟩
  have hl6 : S6.length = n + 6 := by obtain ⟨e, he, hc⟩ := xS6; rw [he, List.length_append, hl5, hc]
  have ht_6 := pm_isx xS6 ht_5
  have hm6_6 : pm_is S6 (n + 6) 0 := by rw [← hS6]; exact pm_is_nw hl5
  have zS6 : pm_Z S6 s5 := pm_Zx xS6 zs5
  obtain ⟨s6, es6⟩ : ∃ s, pm_sr s5 q 11 (n + 6) = s := ⟨_, rfl⟩
  have zs6 : pm_Z S6 s6 := by rw [← es6]; exact zS6.sr ht_6.le
  have fr6 : ∀ a j, a ≠ q → a ≤ n → s6.2 a j = σ.2 a j := by intro a j ha hb; rw [← es6, pm_sr_2, if_neg (fun z => ha z.1)]; exact fr5 a j ha hb
  obtain ⟨S7, hS7⟩ : ∃ s, S6 ++ [(0, 240)] = s := ⟨_, rfl⟩
  have xS7 : ∃ e, S7 = S6 ++ e ∧ e.length = 1 := ⟨[(0, 240)], hS7.symm, rfl⟩
  have hl7 : S7.length = n + 7 := by obtain ⟨e, he, hc⟩ := xS7; rw [he, List.length_append, hl6, hc]
  have ht_7 := pm_isx xS7 ht_6
  have hm7_7 : pm_is S7 (n + 7) 0 := by rw [← hS7]; exact pm_is_nw hl6
  have zS7 : pm_Z S7 s6 := pm_Zx xS7 zs6
  obtain ⟨s7, es7⟩ : ∃ s, pm_sr s6 q 13 (n + 7) = s := ⟨_, rfl⟩
  have zs7 : pm_Z S7 s7 := by rw [← es7]; exact zS7.sr ht_7.le
  have fr7 : ∀ a j, a ≠ q → a ≤ n → s7.2 a j = σ.2 a j := by intro a j ha hb; rw [← es7, pm_sr_2, if_neg (fun z => ha z.1)]; exact fr6 a j ha hb
  obtain ⟨s8, es8⟩ : ∃ s, pm_si s7 q 15 (-1 : Int32) = s := ⟨_, rfl⟩
  have zs8 : pm_Z S7 s8 := by rw [← es8]; exact zs7.si ht_7.le
  have fr8 : ∀ a j, a ≠ q → a ≤ n → s8.2 a j = σ.2 a j := by intro a j ha hb; rw [← es8, pm_si_2]; exact fr7 a j ha hb
  obtain ⟨S8, hS8⟩ : ∃ s, S7 ++ [(0, 5)] = s := ⟨_, rfl⟩
  have xS8 : ∃ e, S8 = S7 ++ e ∧ e.length = 1 := ⟨[(0, 5)], hS8.symm, rfl⟩
  have hl8 : S8.length = n + 8 := by obtain ⟨e, he, hc⟩ := xS8; rw [he, List.length_append, hl7, hc]
  have ht_8 := pm_isx xS8 ht_7
  have hm8_8 : pm_is S8 (n + 8) 0 := by rw [← hS8]; exact pm_is_nw hl7
  have zS8 : pm_Z S8 s8 := pm_Zx xS8 zs8
  obtain ⟨s9, es9⟩ : ∃ s, pm_sr s8 q 22 (n + 8) = s := ⟨_, rfl⟩
  have zs9 : pm_Z S8 s9 := by rw [← es9]; exact zS8.sr ht_8.le
  have fr9 : ∀ a j, a ≠ q → a ≤ n → s9.2 a j = σ.2 a j := by intro a j ha hb; rw [← es9, pm_sr_2, if_neg (fun z => ha z.1)]; exact fr8 a j ha hb
  obtain ⟨S9, hS9⟩ : ∃ s, S8 ++ [(0, 6)] = s := ⟨_, rfl⟩
  have xS9 : ∃ e, S9 = S8 ++ e ∧ e.length = 1 := ⟨[(0, 6)], hS9.symm, rfl⟩
  have hl9 : S9.length = n + 9 := by obtain ⟨e, he, hc⟩ := xS9; rw [he, List.length_append, hl8, hc]
  have ht_9 := pm_isx xS9 ht_8
  have hm9_9 : pm_is S9 (n + 9) 0 := by rw [← hS9]; exact pm_is_nw hl8
  have zS9 : pm_Z S9 s9 := pm_Zx xS9 zs9
  obtain ⟨s10, es10⟩ : ∃ s, pm_sr s9 q 24 (n + 9) = s := ⟨_, rfl⟩
  have zs10 : pm_Z S9 s10 := by rw [← es10]; exact zS9.sr ht_9.le
  have fr10 : ∀ a j, a ≠ q → a ≤ n → s10.2 a j = σ.2 a j := by intro a j ha hb; rw [← es10, pm_sr_2, if_neg (fun z => ha z.1)]; exact fr9 a j ha hb
  obtain ⟨S10, hS10⟩ : ∃ s, S9 ++ [(0, 6)] = s := ⟨_, rfl⟩
  have xS10 : ∃ e, S10 = S9 ++ e ∧ e.length = 1 := ⟨[(0, 6)], hS10.symm, rfl⟩
  have hl10 : S10.length = n + 10 := by obtain ⟨e, he, hc⟩ := xS10; rw [he, List.length_append, hl9, hc]
  have ht_10 := pm_isx xS10 ht_9
  have hm10_10 : pm_is S10 (n + 10) 0 := by rw [← hS10]; exact pm_is_nw hl9
  have zS10 : pm_Z S10 s10 := pm_Zx xS10 zs10
  obtain ⟨s11, es11⟩ : ∃ s, pm_sr s10 q 25 (n + 10) = s := ⟨_, rfl⟩
  have zs11 : pm_Z S10 s11 := by rw [← es11]; exact zS10.sr ht_10.le
  have fr11 : ∀ a j, a ≠ q → a ≤ n → s11.2 a j = σ.2 a j := by intro a j ha hb; rw [← es11, pm_sr_2, if_neg (fun z => ha z.1)]; exact fr10 a j ha hb
  obtain ⟨S11, hS11⟩ : ∃ s, S10 ++ [(0, 6)] = s := ⟨_, rfl⟩
  have xS11 : ∃ e, S11 = S10 ++ e ∧ e.length = 1 := ⟨[(0, 6)], hS11.symm, rfl⟩
  have hl11 : S11.length = n + 11 := by obtain ⟨e, he, hc⟩ := xS11; rw [he, List.length_append, hl10, hc]
  have ht_11 := pm_isx xS11 ht_10
  have hm11_11 : pm_is S11 (n + 11) 0 := by rw [← hS11]; exact pm_is_nw hl10
  have zS11 : pm_Z S11 s11 := pm_Zx xS11 zs11
  obtain ⟨s12, es12⟩ : ∃ s, pm_sr s11 q 27 (n + 11) = s := ⟨_, rfl⟩
  have zs12 : pm_Z S11 s12 := by rw [← es12]; exact zS11.sr ht_11.le
  have fr12 : ∀ a j, a ≠ q → a ≤ n → s12.2 a j = σ.2 a j := by intro a j ha hb; rw [← es12, pm_sr_2, if_neg (fun z => ha z.1)]; exact fr11 a j ha hb
  obtain ⟨S12, hS12⟩ : ∃ s, S11 ++ [(0, 12)] = s := ⟨_, rfl⟩
  have xS12 : ∃ e, S12 = S11 ++ e ∧ e.length = 1 := ⟨[(0, 12)], hS12.symm, rfl⟩
  have hl12 : S12.length = n + 12 := by obtain ⟨e, he, hc⟩ := xS12; rw [he, List.length_append, hl11, hc]
  have ht_12 := pm_isx xS12 ht_11
  have hm12_12 : pm_is S12 (n + 12) 0 := by rw [← hS12]; exact pm_is_nw hl11
  have zS12 : pm_Z S12 s12 := pm_Zx xS12 zs12
  obtain ⟨s13, es13⟩ : ∃ s, pm_sr s12 q 29 (n + 12) = s := ⟨_, rfl⟩
  have zs13 : pm_Z S12 s13 := by rw [← es13]; exact zS12.sr ht_12.le
  have fr13 : ∀ a j, a ≠ q → a ≤ n → s13.2 a j = σ.2 a j := by intro a j ha hb; rw [← es13, pm_sr_2, if_neg (fun z => ha z.1)]; exact fr12 a j ha hb
  obtain ⟨S13, hS13⟩ : ∃ s, S12 ++ [(0, 1280)] = s := ⟨_, rfl⟩
  have xS13 : ∃ e, S13 = S12 ++ e ∧ e.length = 1 := ⟨[(0, 1280)], hS13.symm, rfl⟩
  have hl13 : S13.length = n + 13 := by obtain ⟨e, he, hc⟩ := xS13; rw [he, List.length_append, hl12, hc]
  have ht_13 := pm_isx xS13 ht_12
  have hm13_13 : pm_is S13 (n + 13) 0 := by rw [← hS13]; exact pm_is_nw hl12
  have zS13 : pm_Z S13 s13 := pm_Zx xS13 zs13
  obtain ⟨s14, es14⟩ : ∃ s, pm_sr s13 q 31 (n + 13) = s := ⟨_, rfl⟩
  have zs14 : pm_Z S13 s14 := by rw [← es14]; exact zS13.sr ht_13.le
  have fr14 : ∀ a j, a ≠ q → a ≤ n → s14.2 a j = σ.2 a j := by intro a j ha hb; rw [← es14, pm_sr_2, if_neg (fun z => ha z.1)]; exact fr13 a j ha hb
  obtain ⟨S14, hS14⟩ : ∃ s, S13 ++ [(0, 1000)] = s := ⟨_, rfl⟩
  have xS14 : ∃ e, S14 = S13 ++ e ∧ e.length = 1 := ⟨[(0, 1000)], hS14.symm, rfl⟩
  have hl14 : S14.length = n + 14 := by obtain ⟨e, he, hc⟩ := xS14; rw [he, List.length_append, hl13, hc]
  have ht_14 := pm_isx xS14 ht_13
  have hm14_14 : pm_is S14 (n + 14) 0 := by rw [← hS14]; exact pm_is_nw hl13
  have zS14 : pm_Z S14 s14 := pm_Zx xS14 zs14
  obtain ⟨s15, es15⟩ : ∃ s, pm_sr s14 q 32 (n + 14) = s := ⟨_, rfl⟩
  have zs15 : pm_Z S14 s15 := by rw [← es15]; exact zS14.sr ht_14.le
  have fr15 : ∀ a j, a ≠ q → a ≤ n → s15.2 a j = σ.2 a j := by intro a j ha hb; rw [← es15, pm_sr_2, if_neg (fun z => ha z.1)]; exact fr14 a j ha hb
  obtain ⟨S15, hS15⟩ : ∃ s, S14 ++ [(0, 448)] = s := ⟨_, rfl⟩
  have xS15 : ∃ e, S15 = S14 ++ e ∧ e.length = 1 := ⟨[(0, 448)], hS15.symm, rfl⟩
  have hl15 : S15.length = n + 15 := by obtain ⟨e, he, hc⟩ := xS15; rw [he, List.length_append, hl14, hc]
  have ht_15 := pm_isx xS15 ht_14
  have hm15_15 : pm_is S15 (n + 15) 0 := by rw [← hS15]; exact pm_is_nw hl14
  have zS15 : pm_Z S15 s15 := pm_Zx xS15 zs15
  obtain ⟨s16, es16⟩ : ∃ s, pm_sr s15 q 33 (n + 15) = s := ⟨_, rfl⟩
  have zs16 : pm_Z S15 s16 := by rw [← es16]; exact zS15.sr ht_15.le
  have fr16 : ∀ a j, a ≠ q → a ≤ n → s16.2 a j = σ.2 a j := by intro a j ha hb; rw [← es16, pm_sr_2, if_neg (fun z => ha z.1)]; exact fr15 a j ha hb
  obtain ⟨S16, hS16⟩ : ∃ s, S15 ++ [(0, 6)] = s := ⟨_, rfl⟩
  have xS16 : ∃ e, S16 = S15 ++ e ∧ e.length = 1 := ⟨[(0, 6)], hS16.symm, rfl⟩
  have hl16 : S16.length = n + 16 := by obtain ⟨e, he, hc⟩ := xS16; rw [he, List.length_append, hl15, hc]
  have ht_16 := pm_isx xS16 ht_15
  have hm16_16 : pm_is S16 (n + 16) 0 := by rw [← hS16]; exact pm_is_nw hl15
  have zS16 : pm_Z S16 s16 := pm_Zx xS16 zs16
  obtain ⟨s17, es17⟩ : ∃ s, pm_sr s16 q 35 (n + 16) = s := ⟨_, rfl⟩
  have zs17 : pm_Z S16 s17 := by rw [← es17]; exact zS16.sr ht_16.le
  have fr17 : ∀ a j, a ≠ q → a ≤ n → s17.2 a j = σ.2 a j := by intro a j ha hb; rw [← es17, pm_sr_2, if_neg (fun z => ha z.1)]; exact fr16 a j ha hb
  obtain ⟨S17, hS17⟩ : ∃ s, S16 ++ [(0, 6)] = s := ⟨_, rfl⟩
  have xS17 : ∃ e, S17 = S16 ++ e ∧ e.length = 1 := ⟨[(0, 6)], hS17.symm, rfl⟩
  have hl17 : S17.length = n + 17 := by obtain ⟨e, he, hc⟩ := xS17; rw [he, List.length_append, hl16, hc]
  have ht_17 := pm_isx xS17 ht_16
  have hm17_17 : pm_is S17 (n + 17) 0 := by rw [← hS17]; exact pm_is_nw hl16
  have zS17 : pm_Z S17 s17 := pm_Zx xS17 zs17
  obtain ⟨s18, es18⟩ : ∃ s, pm_sr s17 q 36 (n + 17) = s := ⟨_, rfl⟩
  have zs18 : pm_Z S17 s18 := by rw [← es18]; exact zS17.sr ht_17.le
  have fr18 : ∀ a j, a ≠ q → a ≤ n → s18.2 a j = σ.2 a j := by intro a j ha hb; rw [← es18, pm_sr_2, if_neg (fun z => ha z.1)]; exact fr17 a j ha hb
  obtain ⟨S18, hS18⟩ : ∃ s, S17 ++ [(0, 2200)] = s := ⟨_, rfl⟩
  have xS18 : ∃ e, S18 = S17 ++ e ∧ e.length = 1 := ⟨[(0, 2200)], hS18.symm, rfl⟩
  have hl18 : S18.length = n + 18 := by obtain ⟨e, he, hc⟩ := xS18; rw [he, List.length_append, hl17, hc]
  have ht_18 := pm_isx xS18 ht_17
  have hm18_18 : pm_is S18 (n + 18) 0 := by rw [← hS18]; exact pm_is_nw hl17
  have zS18 : pm_Z S18 s18 := pm_Zx xS18 zs18
  obtain ⟨s19, es19⟩ : ∃ s, pm_sr s18 q 37 (n + 18) = s := ⟨_, rfl⟩
  have zs19 : pm_Z S18 s19 := by rw [← es19]; exact zS18.sr ht_18.le
  have fr19 : ∀ a j, a ≠ q → a ≤ n → s19.2 a j = σ.2 a j := by intro a j ha hb; rw [← es19, pm_sr_2, if_neg (fun z => ha z.1)]; exact fr18 a j ha hb
  obtain ⟨S19, hS19⟩ : ∃ s, S18 ++ [(0, 15)] = s := ⟨_, rfl⟩
  have xS19 : ∃ e, S19 = S18 ++ e ∧ e.length = 1 := ⟨[(0, 15)], hS19.symm, rfl⟩
  have hl19 : S19.length = n + 19 := by obtain ⟨e, he, hc⟩ := xS19; rw [he, List.length_append, hl18, hc]
  have ht_19 := pm_isx xS19 ht_18
  have hm19_19 : pm_is S19 (n + 19) 0 := by rw [← hS19]; exact pm_is_nw hl18
  have zS19 : pm_Z S19 s19 := pm_Zx xS19 zs19
  obtain ⟨s20, es20⟩ : ∃ s, pm_sr s19 q 39 (n + 19) = s := ⟨_, rfl⟩
  have zs20 : pm_Z S19 s20 := by rw [← es20]; exact zS19.sr ht_19.le
  have fr20 : ∀ a j, a ≠ q → a ≤ n → s20.2 a j = σ.2 a j := by intro a j ha hb; rw [← es20, pm_sr_2, if_neg (fun z => ha z.1)]; exact fr19 a j ha hb
  obtain ⟨S20, hS20⟩ : ∃ s, S19 ++ [(0, 15)] = s := ⟨_, rfl⟩
  have xS20 : ∃ e, S20 = S19 ++ e ∧ e.length = 1 := ⟨[(0, 15)], hS20.symm, rfl⟩
  have hl20 : S20.length = n + 20 := by obtain ⟨e, he, hc⟩ := xS20; rw [he, List.length_append, hl19, hc]
  have ht_20 := pm_isx xS20 ht_19
  have hm20_20 : pm_is S20 (n + 20) 0 := by rw [← hS20]; exact pm_is_nw hl19
  have zS20 : pm_Z S20 s20 := pm_Zx xS20 zs20
  obtain ⟨s21, es21⟩ : ∃ s, pm_sr s20 q 40 (n + 20) = s := ⟨_, rfl⟩
  have zs21 : pm_Z S20 s21 := by rw [← es21]; exact zS20.sr ht_20.le
  have fr21 : ∀ a j, a ≠ q → a ≤ n → s21.2 a j = σ.2 a j := by intro a j ha hb; rw [← es21, pm_sr_2, if_neg (fun z => ha z.1)]; exact fr20 a j ha hb
  obtain ⟨S21, hS21⟩ : ∃ s, S20 ++ [(0, 162)] = s := ⟨_, rfl⟩
  have xS21 : ∃ e, S21 = S20 ++ e ∧ e.length = 1 := ⟨[(0, 162)], hS21.symm, rfl⟩
  have hl21 : S21.length = n + 21 := by obtain ⟨e, he, hc⟩ := xS21; rw [he, List.length_append, hl20, hc]
  have ht_21 := pm_isx xS21 ht_20
  have hm21_21 : pm_is S21 (n + 21) 0 := by rw [← hS21]; exact pm_is_nw hl20
  have zS21 : pm_Z S21 s21 := pm_Zx xS21 zs21
  obtain ⟨s22, es22⟩ : ∃ s, pm_sr s21 q 41 (n + 21) = s := ⟨_, rfl⟩
  have zs22 : pm_Z S21 s22 := by rw [← es22]; exact zS21.sr ht_21.le
  have fr22 : ∀ a j, a ≠ q → a ≤ n → s22.2 a j = σ.2 a j := by intro a j ha hb; rw [← es22, pm_sr_2, if_neg (fun z => ha z.1)]; exact fr21 a j ha hb
  obtain ⟨S22, hS22⟩ : ∃ s, S21 ++ [(1, 2)] = s := ⟨_, rfl⟩
  have xS22 : ∃ e, S22 = S21 ++ e ∧ e.length = 1 := ⟨[(1, 2)], hS22.symm, rfl⟩
  have hl22 : S22.length = n + 22 := by obtain ⟨e, he, hc⟩ := xS22; rw [he, List.length_append, hl21, hc]
  have ht_22 := pm_isx xS22 ht_21
  have hm22_22 : pm_is S22 (n + 22) 1 := by rw [← hS22]; exact pm_is_nw hl21
  have zS22 : pm_Z S22 s22 := pm_Zx xS22 zs22
  obtain ⟨s23, es23⟩ : ∃ s, pm_sr s22 q 42 (n + 22) = s := ⟨_, rfl⟩
  have zs23 : pm_Z S22 s23 := by rw [← es23]; exact zS22.sr ht_22.le
  have fr23 : ∀ a j, a ≠ q → a ≤ n → s23.2 a j = σ.2 a j := by intro a j ha hb; rw [← es23, pm_sr_2, if_neg (fun z => ha z.1)]; exact fr22 a j ha hb
  obtain ⟨s24, es24⟩ : ∃ s, pm_si s23 q 0 (0 : Int32) = s := ⟨_, rfl⟩
  have zs24 : pm_Z S22 s24 := by rw [← es24]; exact zs23.si ht_22.le
  have fr24 : ∀ a j, a ≠ q → a ≤ n → s24.2 a j = σ.2 a j := by intro a j ha hb; rw [← es24, pm_si_2]; exact fr23 a j ha hb
  have hEe : eX12_init S = S22 := by rw [← hS22, ← hS21, ← hS20, ← hS19, ← hS18, ← hS17, ← hS16, ← hS15, ← hS14, ← hS13, ← hS12, ← hS11, ← hS10, ← hS9, ← hS8, ← hS7, ← hS6, ← hS5, ← hS4, ← hS3, ← hS2, ← hS1]; rfl
  have hGe : gX12_init n q σ = s24 := by rw [← es24, ← es23, ← es22, ← es21, ← es20, ← es19, ← es18, ← es17, ← es16, ← es15, ← es14, ← es13, ← es12, ← es11, ← es10, ← es9, ← es8, ← es7, ← es6, ← es5, ← es4, ← es3, ← es2, ← es1]; rfl
  have le22 : S22.length ≤ (eX12_init S).length ∧ pm_tot S22 ≤ pm_tot (eX12_init S) := by rw [hEe]; exact ⟨Nat.le_refl _, Nat.le_refl _⟩
  have le21 := pm_le_tr (pm_lex xS22) le22
  have le20 := pm_le_tr (pm_lex xS21) le21
  have le19 := pm_le_tr (pm_lex xS20) le20
  have le18 := pm_le_tr (pm_lex xS19) le19
  have le17 := pm_le_tr (pm_lex xS18) le18
  have le16 := pm_le_tr (pm_lex xS17) le17
  have le15 := pm_le_tr (pm_lex xS16) le16
  have le14 := pm_le_tr (pm_lex xS15) le15
  have le13 := pm_le_tr (pm_lex xS14) le14
  have le12 := pm_le_tr (pm_lex xS13) le13
  have le11 := pm_le_tr (pm_lex xS12) le12
  have le10 := pm_le_tr (pm_lex xS11) le11
  have le9 := pm_le_tr (pm_lex xS10) le10
  have le8 := pm_le_tr (pm_lex xS9) le9
  have le7 := pm_le_tr (pm_lex xS8) le8
  have le6 := pm_le_tr (pm_lex xS7) le7
  have le5 := pm_le_tr (pm_lex xS6) le6
  have le4 := pm_le_tr (pm_lex xS5) le5
  have le3 := pm_le_tr (pm_lex xS4) le4
  have le2 := pm_le_tr (pm_lex xS3) le3
  have le1 := pm_le_tr (pm_lex xS2) le2
  refine ⟨?_, by rw [hEe, hGe]; exact zs24, by rw [hGe]; exact fr24⟩
  refine pm_M.of (by decide +kernel) (Nat.le_of_ble_eq_true rfl) ?_
  show pm_E l yX12_init cX12_init 1 none true 1 S (none, eX12_init S, gX12_init n q σ) 0 [(0, .ref q)] [] S σ
  refine pm_aload_n (pc := 0) 0 dX12_init_0 rfl rfl h0.pos ?_
  refine pm_objInit (pc := 1) oiX12_1 h0.pos (Nat.le_of_ble_eq_true rfl) (by decide) dX12_init_1 ?_
  refine pm_aload_n (pc := 4) 0 dX12_init_4 rfl rfl h0.pos ?_
  refine pm_iconst (pc := 5) (5 : Int32) (by decide) dX12_init_5 ?_
  refine pm_newa' (pc := 6) (q := (n + 1)) (N := 5) (S' := S1) (Or.inl ⟨rfl, rfl⟩) ac_int hz rfl (by decide) (congrArg (· + 1) hn) hS1 le1 dX12_init_6 ?_
  refine pm_putR (pc := 8) (k := 3) pm_cl12 flX12_7 (by decide) rfl (fun _ => ⟨rfl, rfl⟩) (Or.inr ⟨rfl, rfl, rfl⟩) ht_1 hm1_1 dX12_init_8 ?_
  refine pm_nmh es1 ?_
  refine pm_aload_n (pc := 11) 0 dX12_init_11 rfl rfl h0.pos ?_
  refine pm_bipush (pc := 12) (6 : Int32) (by decide) dX12_init_12 ?_
  refine pm_newa' (pc := 14) (q := (n + 2)) (N := 6) (S' := S2) (Or.inl ⟨rfl, rfl⟩) ac_int zs1 rfl (by decide) (congrArg (· + 1) hl1) hS2 le2 dX12_init_14 ?_
  refine pm_putR (pc := 16) (k := 5) pm_cl12 flX12_13 (by decide) rfl (fun _ => ⟨rfl, rfl⟩) (Or.inr ⟨rfl, rfl, rfl⟩) ht_2 hm2_2 dX12_init_16 ?_
  refine pm_nmh es2 ?_
  refine pm_aload_n (pc := 19) 0 dX12_init_19 rfl rfl h0.pos ?_
  refine pm_bipush (pc := 20) (6 : Int32) (by decide) dX12_init_20 ?_
  refine pm_newa' (pc := 22) (q := (n + 3)) (N := 6) (S' := S3) (Or.inl ⟨rfl, rfl⟩) ac_int zs2 rfl (by decide) (congrArg (· + 1) hl2) hS3 le3 dX12_init_22 ?_
  refine pm_putR (pc := 24) (k := 6) pm_cl12 flX12_16 (by decide) rfl (fun _ => ⟨rfl, rfl⟩) (Or.inr ⟨rfl, rfl, rfl⟩) ht_3 hm3_3 dX12_init_24 ?_
  refine pm_nmh es3 ?_
  refine pm_aload_n (pc := 27) 0 dX12_init_27 rfl rfl h0.pos ?_
  refine pm_bipush (pc := 28) (6 : Int32) (by decide) dX12_init_28 ?_
  refine pm_newa' (pc := 30) (q := (n + 4)) (N := 6) (S' := S4) (Or.inl ⟨rfl, rfl⟩) ac_int zs3 rfl (by decide) (congrArg (· + 1) hl3) hS4 le4 dX12_init_30 ?_
  refine pm_putR (pc := 32) (k := 8) pm_cl12 flX12_19 (by decide) rfl (fun _ => ⟨rfl, rfl⟩) (Or.inr ⟨rfl, rfl, rfl⟩) ht_4 hm4_4 dX12_init_32 ?_
  refine pm_nmh es4 ?_
  refine pm_aload_n (pc := 35) 0 dX12_init_35 rfl rfl h0.pos ?_
  refine pm_bipush (pc := 36) (12 : Int32) (by decide) dX12_init_36 ?_
  refine pm_newa' (pc := 38) (q := (n + 5)) (N := 12) (S' := S5) (Or.inl ⟨rfl, rfl⟩) ac_int zs4 rfl (by decide) (congrArg (· + 1) hl4) hS5 le5 dX12_init_38 ?_
  refine pm_putR (pc := 40) (k := 10) pm_cl12 flX12_22 (by decide) rfl (fun _ => ⟨rfl, rfl⟩) (Or.inr ⟨rfl, rfl, rfl⟩) ht_5 hm5_5 dX12_init_40 ?_
  refine pm_nmh es5 ?_
  refine pm_aload_n (pc := 43) 0 dX12_init_43 rfl rfl h0.pos ?_
  refine pm_bipush (pc := 44) (80 : Int32) (by decide) dX12_init_44 ?_
  refine pm_newa' (pc := 46) (q := (n + 6)) (N := 80) (S' := S6) (Or.inl ⟨rfl, rfl⟩) ac_int zs5 rfl (by decide) (congrArg (· + 1) hl5) hS6 le6 dX12_init_46 ?_
  refine pm_putR (pc := 48) (k := 11) pm_cl12 flX12_25 (by decide) rfl (fun _ => ⟨rfl, rfl⟩) (Or.inr ⟨rfl, rfl, rfl⟩) ht_6 hm6_6 dX12_init_48 ?_
  refine pm_nmh es6 ?_
  refine pm_aload_n (pc := 51) 0 dX12_init_51 rfl rfl h0.pos ?_
  refine pm_sipush (pc := 52) (240 : Int32) (by decide) dX12_init_52 ?_
  refine pm_newa' (pc := 55) (q := (n + 7)) (N := 240) (S' := S7) (Or.inl ⟨rfl, rfl⟩) ac_int zs6 rfl (by decide) (congrArg (· + 1) hl6) hS7 le7 dX12_init_55 ?_
  refine pm_putR (pc := 57) (k := 13) pm_cl12 flX12_28 (by decide) rfl (fun _ => ⟨rfl, rfl⟩) (Or.inr ⟨rfl, rfl, rfl⟩) ht_7 hm7_7 dX12_init_57 ?_
  refine pm_nmh es7 ?_
  refine pm_aload_n (pc := 60) 0 dX12_init_60 rfl rfl h0.pos ?_
  refine pm_iconst (pc := 61) (-1 : Int32) (by decide) dX12_init_61 ?_
  refine pm_putI (pc := 62) (k := 15) pm_cl12 flX12_31 (by decide) rfl rfl rfl ht_7 dX12_init_62 ?_
  refine pm_nmh es8 ?_
  refine pm_aload_n (pc := 65) 0 dX12_init_65 rfl rfl h0.pos ?_
  refine pm_iconst (pc := 66) (5 : Int32) (by decide) dX12_init_66 ?_
  refine pm_newa' (pc := 67) (q := (n + 8)) (N := 5) (S' := S8) (Or.inl ⟨rfl, rfl⟩) ac_int zs8 rfl (by decide) (congrArg (· + 1) hl7) hS8 le8 dX12_init_67 ?_
  refine pm_putR (pc := 69) (k := 22) pm_cl12 flX12_35 (by decide) rfl (fun _ => ⟨rfl, rfl⟩) (Or.inr ⟨rfl, rfl, rfl⟩) ht_8 hm8_8 dX12_init_69 ?_
  refine pm_nmh es9 ?_
  refine pm_aload_n (pc := 72) 0 dX12_init_72 rfl rfl h0.pos ?_
  refine pm_bipush (pc := 73) (6 : Int32) (by decide) dX12_init_73 ?_
  refine pm_newa' (pc := 75) (q := (n + 9)) (N := 6) (S' := S9) (Or.inl ⟨rfl, rfl⟩) ac_int zs9 rfl (by decide) (congrArg (· + 1) hl8) hS9 le9 dX12_init_75 ?_
  refine pm_putR (pc := 77) (k := 24) pm_cl12 flX12_38 (by decide) rfl (fun _ => ⟨rfl, rfl⟩) (Or.inr ⟨rfl, rfl, rfl⟩) ht_9 hm9_9 dX12_init_77 ?_
  refine pm_nmh es10 ?_
  refine pm_aload_n (pc := 80) 0 dX12_init_80 rfl rfl h0.pos ?_
  refine pm_bipush (pc := 81) (6 : Int32) (by decide) dX12_init_81 ?_
  refine pm_newa' (pc := 83) (q := (n + 10)) (N := 6) (S' := S10) (Or.inl ⟨rfl, rfl⟩) ac_int zs10 rfl (by decide) (congrArg (· + 1) hl9) hS10 le10 dX12_init_83 ?_
  refine pm_putR (pc := 85) (k := 25) pm_cl12 flX12_41 (by decide) rfl (fun _ => ⟨rfl, rfl⟩) (Or.inr ⟨rfl, rfl, rfl⟩) ht_10 hm10_10 dX12_init_85 ?_
  refine pm_nmh es11 ?_
  refine pm_aload_n (pc := 88) 0 dX12_init_88 rfl rfl h0.pos ?_
  refine pm_bipush (pc := 89) (6 : Int32) (by decide) dX12_init_89 ?_
  refine pm_newa' (pc := 91) (q := (n + 11)) (N := 6) (S' := S11) (Or.inl ⟨rfl, rfl⟩) ac_int zs11 rfl (by decide) (congrArg (· + 1) hl10) hS11 le11 dX12_init_91 ?_
  refine pm_putR (pc := 93) (k := 27) pm_cl12 flX12_44 (by decide) rfl (fun _ => ⟨rfl, rfl⟩) (Or.inr ⟨rfl, rfl, rfl⟩) ht_11 hm11_11 dX12_init_93 ?_
  refine pm_nmh es12 ?_
  refine pm_aload_n (pc := 96) 0 dX12_init_96 rfl rfl h0.pos ?_
  refine pm_bipush (pc := 97) (12 : Int32) (by decide) dX12_init_97 ?_
  refine pm_newa' (pc := 99) (q := (n + 12)) (N := 12) (S' := S12) (Or.inl ⟨rfl, rfl⟩) ac_int zs12 rfl (by decide) (congrArg (· + 1) hl11) hS12 le12 dX12_init_99 ?_
  refine pm_putR (pc := 101) (k := 29) pm_cl12 flX12_47 (by decide) rfl (fun _ => ⟨rfl, rfl⟩) (Or.inr ⟨rfl, rfl, rfl⟩) ht_12 hm12_12 dX12_init_101 ?_
  refine pm_nmh es13 ?_
  refine pm_aload_n (pc := 104) 0 dX12_init_104 rfl rfl h0.pos ?_
  refine pm_sipush (pc := 105) (1280 : Int32) (by decide) dX12_init_105 ?_
  refine pm_newa' (pc := 108) (q := (n + 13)) (N := 1280) (S' := S13) (Or.inl ⟨rfl, rfl⟩) ac_int zs13 rfl (by decide) (congrArg (· + 1) hl12) hS13 le13 dX12_init_108 ?_
  refine pm_putR (pc := 110) (k := 31) pm_cl12 flX12_50 (by decide) rfl (fun _ => ⟨rfl, rfl⟩) (Or.inr ⟨rfl, rfl, rfl⟩) ht_13 hm13_13 dX12_init_110 ?_
  refine pm_nmh es14 ?_
  refine pm_aload_n (pc := 113) 0 dX12_init_113 rfl rfl h0.pos ?_
  refine pm_sipush (pc := 114) (1000 : Int32) (by decide) dX12_init_114 ?_
  refine pm_newa' (pc := 117) (q := (n + 14)) (N := 1000) (S' := S14) (Or.inl ⟨rfl, rfl⟩) ac_int zs14 rfl (by decide) (congrArg (· + 1) hl13) hS14 le14 dX12_init_117 ?_
  refine pm_putR (pc := 119) (k := 32) pm_cl12 flX12_53 (by decide) rfl (fun _ => ⟨rfl, rfl⟩) (Or.inr ⟨rfl, rfl, rfl⟩) ht_14 hm14_14 dX12_init_119 ?_
  refine pm_nmh es15 ?_
  refine pm_aload_n (pc := 122) 0 dX12_init_122 rfl rfl h0.pos ?_
  refine pm_sipush (pc := 123) (448 : Int32) (by decide) dX12_init_123 ?_
  refine pm_newa' (pc := 126) (q := (n + 15)) (N := 448) (S' := S15) (Or.inl ⟨rfl, rfl⟩) ac_int zs15 rfl (by decide) (congrArg (· + 1) hl14) hS15 le15 dX12_init_126 ?_
  refine pm_putR (pc := 128) (k := 33) pm_cl12 flX12_56 (by decide) rfl (fun _ => ⟨rfl, rfl⟩) (Or.inr ⟨rfl, rfl, rfl⟩) ht_15 hm15_15 dX12_init_128 ?_
  refine pm_nmh es16 ?_
  refine pm_aload_n (pc := 131) 0 dX12_init_131 rfl rfl h0.pos ?_
  refine pm_bipush (pc := 132) (6 : Int32) (by decide) dX12_init_132 ?_
  refine pm_newa' (pc := 134) (q := (n + 16)) (N := 6) (S' := S16) (Or.inl ⟨rfl, rfl⟩) ac_int zs16 rfl (by decide) (congrArg (· + 1) hl15) hS16 le16 dX12_init_134 ?_
  refine pm_putR (pc := 136) (k := 35) pm_cl12 flX12_59 (by decide) rfl (fun _ => ⟨rfl, rfl⟩) (Or.inr ⟨rfl, rfl, rfl⟩) ht_16 hm16_16 dX12_init_136 ?_
  refine pm_nmh es17 ?_
  refine pm_aload_n (pc := 139) 0 dX12_init_139 rfl rfl h0.pos ?_
  refine pm_bipush (pc := 140) (6 : Int32) (by decide) dX12_init_140 ?_
  refine pm_newa' (pc := 142) (q := (n + 17)) (N := 6) (S' := S17) (Or.inl ⟨rfl, rfl⟩) ac_int zs17 rfl (by decide) (congrArg (· + 1) hl16) hS17 le17 dX12_init_142 ?_
  refine pm_putR (pc := 144) (k := 36) pm_cl12 flX12_62 (by decide) rfl (fun _ => ⟨rfl, rfl⟩) (Or.inr ⟨rfl, rfl, rfl⟩) ht_17 hm17_17 dX12_init_144 ?_
  refine pm_nmh es18 ?_
  refine pm_aload_n (pc := 147) 0 dX12_init_147 rfl rfl h0.pos ?_
  refine pm_sipush (pc := 148) (2200 : Int32) (by decide) dX12_init_148 ?_
  refine pm_newa' (pc := 151) (q := (n + 18)) (N := 2200) (S' := S18) (Or.inl ⟨rfl, rfl⟩) ac_int zs18 rfl (by decide) (congrArg (· + 1) hl17) hS18 le18 dX12_init_151 ?_
  refine pm_putR (pc := 153) (k := 37) pm_cl12 flX12_65 (by decide) rfl (fun _ => ⟨rfl, rfl⟩) (Or.inr ⟨rfl, rfl, rfl⟩) ht_18 hm18_18 dX12_init_153 ?_
  refine pm_nmh es19 ?_
  refine pm_aload_n (pc := 156) 0 dX12_init_156 rfl rfl h0.pos ?_
  refine pm_bipush (pc := 157) (15 : Int32) (by decide) dX12_init_157 ?_
  refine pm_newa' (pc := 159) (q := (n + 19)) (N := 15) (S' := S19) (Or.inl ⟨rfl, rfl⟩) ac_int zs19 rfl (by decide) (congrArg (· + 1) hl18) hS19 le19 dX12_init_159 ?_
  refine pm_putR (pc := 161) (k := 39) pm_cl12 flX12_68 (by decide) rfl (fun _ => ⟨rfl, rfl⟩) (Or.inr ⟨rfl, rfl, rfl⟩) ht_19 hm19_19 dX12_init_161 ?_
  refine pm_nmh es20 ?_
  refine pm_aload_n (pc := 164) 0 dX12_init_164 rfl rfl h0.pos ?_
  refine pm_bipush (pc := 165) (15 : Int32) (by decide) dX12_init_165 ?_
  refine pm_newa' (pc := 167) (q := (n + 20)) (N := 15) (S' := S20) (Or.inl ⟨rfl, rfl⟩) ac_int zs20 rfl (by decide) (congrArg (· + 1) hl19) hS20 le20 dX12_init_167 ?_
  refine pm_putR (pc := 169) (k := 40) pm_cl12 flX12_71 (by decide) rfl (fun _ => ⟨rfl, rfl⟩) (Or.inr ⟨rfl, rfl, rfl⟩) ht_20 hm20_20 dX12_init_169 ?_
  refine pm_nmh es21 ?_
  refine pm_aload_n (pc := 172) 0 dX12_init_172 rfl rfl h0.pos ?_
  refine pm_sipush (pc := 173) (162 : Int32) (by decide) dX12_init_173 ?_
  refine pm_newa' (pc := 176) (q := (n + 21)) (N := 162) (S' := S21) (Or.inl ⟨rfl, rfl⟩) ac_int zs21 rfl (by decide) (congrArg (· + 1) hl20) hS21 le21 dX12_init_176 ?_
  refine pm_putR (pc := 178) (k := 41) pm_cl12 flX12_74 (by decide) rfl (fun _ => ⟨rfl, rfl⟩) (Or.inr ⟨rfl, rfl, rfl⟩) ht_21 hm21_21 dX12_init_178 ?_
  refine pm_nmh es22 ?_
  refine pm_aload_n (pc := 181) 0 dX12_init_181 rfl rfl h0.pos ?_
  refine pm_iconst (pc := 182) (2 : Int32) (by decide) dX12_init_182 ?_
  refine pm_newa' (pc := 183) (q := (n + 22)) (N := 2) (S' := S22) (Or.inr ⟨rfl, rfl⟩) ac_boolean zs22 rfl (by decide) (congrArg (· + 1) hl21) hS22 le22 dX12_init_183 ?_
  refine pm_putR (pc := 185) (k := 42) pm_cl12 flX12_77 (by decide) rfl (fun _ => ⟨rfl, rfl⟩) (Or.inr ⟨rfl, rfl, rfl⟩) ht_22 hm22_22 dX12_init_185 ?_
  refine pm_nmh es23 ?_
  refine pm_aload_n (pc := 188) 0 dX12_init_188 rfl rfl h0.pos ?_
  refine pm_iconst (pc := 189) (0 : Int32) (by decide) dX12_init_189 ?_
  refine pm_putI (pc := 190) (k := 0) pm_cl12 flX12_81 (by decide) rfl rfl rfl ht_22 dX12_init_190 ?_
  refine pm_nmh es24 ?_
  exact pm_vret rfl dX12_init_193 (by rw [hEe, hGe])
