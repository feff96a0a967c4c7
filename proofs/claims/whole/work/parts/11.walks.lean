def fX0_add (S : pm_S) (a0 : Nat) (a1 : Int32) (a2 : Int32) (σ : pm_H) : Option (pm_H) :=
  (if (15 : Int32) ≤ (σ.1 a0 2) then some σ else (if pm_ib (σ.1 a0 2) (pm_len S (σ.2 a0 0)) = true then pm_let (pm_si σ (σ.2 a0 0) ((σ.1 a0 2)).toNatClampNeg a1) fun s3 => (if pm_ib (s3.1 a0 2) (pm_len S (s3.2 a0 1)) = true then pm_let (pm_si s3 (s3.2 a0 1) ((s3.1 a0 2)).toNatClampNeg a2) fun s6 => pm_let (pm_si s6 a0 2 ((s6.1 a0 2) + (1 : Int32))) fun s7 => some s7 else none) else none))
set_option maxRecDepth 100000 in
set_option maxHeartbeats 4000000 in
theorem KX0_add (l : Launch) {S : pm_S} {p : pm_H} {a0 : Nat} {a1 : Int32} {a2 : Int32} {σ : pm_H} (h0 : pm_is S a0 3) (hf : fX0_add S a0 a1 a2 σ = some p) : pm_M l yX0_add cX0_add 3 none false 0 [.ref a0, .int a1, .int a2] S σ (pm_ru S p) := by
  refine pm_M.of (by decide +kernel) (Nat.le_of_ble_eq_true rfl) ?_
  show pm_E l yX0_add cX0_add 3 none false 0 S (pm_ru S p) 0 [(0, .ref a0), (1, .int a1), (2, .int a2)] [] S σ
  rw [fX0_add] at hf
  refine pm_aload_n (pc := 0) 0 dX0_add_0 rfl rfl h0.pos ?_
  refine pm_getI (pc := 1) (k := 2) pm_cl0 flX0_18 (by decide) rfl h0 dX0_add_1 ?_
  refine pm_bipush (pc := 4) (15 : Int32) (by decide) dX0_add_4 ?_
  refine pm_icmp_ge (pc := 6) 39 dX0_add_6 (by decide) (fun hc8 => ?_) (fun hc8 => ?_)
  · rw [if_pos hc8] at hf
    exact pm_vret rfl dX0_add_39 (pm_ru_e hf)
  · rw [if_neg hc8] at hf
    refine pm_aload_n (pc := 9) 0 dX0_add_9 rfl rfl h0.pos ?_
    refine pm_getT (pc := 10) (k := 0) pm_cl0 flX0_9 (by decide) rfl h0 dX0_add_10 (fun hr1 => ?_)
    refine pm_aload_n (pc := 13) 0 dX0_add_13 rfl rfl h0.pos ?_
    refine pm_getI (pc := 14) (k := 2) pm_cl0 flX0_18 (by decide) rfl h0 dX0_add_14 ?_
    refine pm_iload_n (pc := 17) 1 dX0_add_17 rfl rfl ?_
    obtain ⟨hb2, hf⟩ := pm_gd hf
    refine pm_iast (pc := 18) hr1 (pm_ib_in hb2) dX0_add_18 ?_
    obtain ⟨s3, es3, hf⟩ := pm_let_e hf
    refine pm_nmh es3 ?_
    refine pm_aload_n (pc := 19) 0 dX0_add_19 rfl rfl h0.pos ?_
    refine pm_getT (pc := 20) (k := 1) pm_cl0 flX0_15 (by decide) rfl h0 dX0_add_20 (fun hr4 => ?_)
    refine pm_aload_n (pc := 23) 0 dX0_add_23 rfl rfl h0.pos ?_
    refine pm_getI (pc := 24) (k := 2) pm_cl0 flX0_18 (by decide) rfl h0 dX0_add_24 ?_
    refine pm_iload_n (pc := 27) 2 dX0_add_27 rfl rfl ?_
    obtain ⟨hb5, hf⟩ := pm_gd hf
    refine pm_iast (pc := 28) hr4 (pm_ib_in hb5) dX0_add_28 ?_
    obtain ⟨s6, es6, hf⟩ := pm_let_e hf
    refine pm_nmh es6 ?_
    refine pm_aload_n (pc := 29) 0 dX0_add_29 rfl rfl h0.pos ?_
    refine pm_dup (pc := 30) rfl dX0_add_30 ?_
    refine pm_getI (pc := 31) (k := 2) pm_cl0 flX0_18 (by decide) rfl h0 dX0_add_31 ?_
    refine pm_iconst (pc := 34) (1 : Int32) (by decide) dX0_add_34 ?_
    refine pm_iadd (pc := 35) dX0_add_35 ?_
    refine pm_putI (pc := 36) (k := 2) pm_cl0 flX0_18 (by decide) rfl rfl rfl h0 dX0_add_36 ?_
    obtain ⟨s7, es7, hf⟩ := pm_let_e hf
    refine pm_nmh es7 ?_
    exact pm_vret rfl dX0_add_39 (pm_ru_e hf)
def fX0_firstWrong_L2 (S : pm_S) (v0 : Nat) (v1 : Nat) (kx : pm_H → Option (Int32 × pm_H)) : Nat → Int32 → pm_H → Option (Int32 × pm_H)
  | 0, _, _ => none
  | n + 1, v2, σ => (if (σ.1 v0 2) ≤ v2 then kx σ else (if pm_ib v2 (pm_len S (σ.2 v0 0)) = true then (if pm_ib (σ.1 (σ.2 v0 0) (v2).toNatClampNeg) (pm_len S (σ.2 v1 3)) = true then (if pm_ib v2 (pm_len S (σ.2 v0 1)) = true then (if (σ.1 (σ.2 v1 3) ((σ.1 (σ.2 v0 0) (v2).toNatClampNeg)).toNatClampNeg) = (σ.1 (σ.2 v0 1) (v2).toNatClampNeg) then fX0_firstWrong_L2 S v0 v1 kx n (v2 + (1 : Int32)) σ else some (v2, σ)) else none) else none) else none))
set_option maxRecDepth 100000 in
set_option maxHeartbeats 4000000 in
theorem fX0_firstWrong_L2_E (l : Launch) {S : pm_S} {p : Int32 × pm_H} {v0 : Nat} {v1 : Nat} {kx : pm_H → Option (Int32 × pm_H)} (h0 : pm_is S v0 3) (h1 : pm_is S v1 11) (hkx : ∀  sw, kx  sw = some p → pm_E l yX0_firstWrong cX0_firstWrong 3 (some .int) false 0 S (pm_ri S p) 38 [] [] S sw) : ∀ (n : Nat) (v2 : Int32) (σ : pm_H), fX0_firstWrong_L2 S v0 v1 kx n v2 σ = some p → pm_E l yX0_firstWrong cX0_firstWrong 3 (some .int) false 0 S (pm_ri S p) 2 [(0, .ref v0), (1, .ref v1), (2, .int v2)] [] S σ := by
  intro n
  induction n with
  | zero => intro v2 σ hf; cases hf
  | succ n ih =>
    intro v2 σ hf
    rw [fX0_firstWrong_L2] at hf
    refine pm_iload_n (pc := 2) 2 dX0_firstWrong_2 rfl rfl ?_
    refine pm_aload_n (pc := 3) 0 dX0_firstWrong_3 rfl rfl h0.pos ?_
    refine pm_getI (pc := 4) (k := 2) pm_cl0 flX0_18 (by decide) rfl h0 dX0_firstWrong_4 ?_
    refine pm_icmp_ge (pc := 7) 38 dX0_firstWrong_7 (by decide) (fun hc8 => ?_) (fun hc8 => ?_)
    · rw [if_pos hc8] at hf
      refine pm_lv [] [] rfl ?_
      exact hkx σ hf
    · rw [if_neg hc8] at hf
      refine pm_aload_n (pc := 10) 1 dX0_firstWrong_10 rfl rfl h1.pos ?_
      refine pm_getT (pc := 11) (k := 3) pm_cl8 flX0_22 (by decide) rfl h1 dX0_firstWrong_11 (fun hr1 => ?_)
      refine pm_aload_n (pc := 14) 0 dX0_firstWrong_14 rfl rfl h0.pos ?_
      refine pm_getT (pc := 15) (k := 0) pm_cl0 flX0_9 (by decide) rfl h0 dX0_firstWrong_15 (fun hr2 => ?_)
      refine pm_iload_n (pc := 18) 2 dX0_firstWrong_18 rfl rfl ?_
      obtain ⟨hb3, hf⟩ := pm_gd hf
      refine pm_iald (pc := 19) hr2 (pm_ib_in hb3) dX0_firstWrong_19 ?_
      obtain ⟨hb4, hf⟩ := pm_gd hf
      refine pm_iald (pc := 20) hr1 (pm_ib_in hb4) dX0_firstWrong_20 ?_
      refine pm_aload_n (pc := 21) 0 dX0_firstWrong_21 rfl rfl h0.pos ?_
      refine pm_getT (pc := 22) (k := 1) pm_cl0 flX0_15 (by decide) rfl h0 dX0_firstWrong_22 (fun hr5 => ?_)
      refine pm_iload_n (pc := 25) 2 dX0_firstWrong_25 rfl rfl ?_
      obtain ⟨hb6, hf⟩ := pm_gd hf
      refine pm_iald (pc := 26) hr5 (pm_ib_in hb6) dX0_firstWrong_26 ?_
      refine pm_icmp_eq (pc := 27) 32 dX0_firstWrong_27 (by decide) (fun hc7 => ?_) (fun hc7 => ?_)
      · rw [if_pos hc7] at hf
        refine pm_iinc (pc := 32) 2 (v2 + (1 : Int32)) [(2, .int (v2 + (1 : Int32))), (0, .ref v0), (1, .ref v1)] dX0_firstWrong_32 rfl rfl (by decide) rfl ?_
        refine pm_goto (pc := 35) 2 dX0_firstWrong_35 (by decide) ?_
        refine pm_lv [(0, .ref v0), (1, .ref v1), (2, .int (v2 + (1 : Int32)))] [1, 2, 0] rfl ?_
        exact ih (v2 + (1 : Int32)) σ hf
      · rw [if_neg hc7] at hf
        refine pm_iload_n (pc := 30) 2 dX0_firstWrong_30 rfl rfl ?_
        exact pm_iret rfl dX0_firstWrong_31 (pm_ri_e hf)
def fX0_firstWrong (S : pm_S) (a0 : Nat) (a1 : Nat) (σ : pm_H) : Option (Int32 × pm_H) :=
  fX0_firstWrong_L2 S a0 a1 (fun s9 => some ((-1 : Int32), s9)) pm_fuel (0 : Int32) σ
set_option maxRecDepth 100000 in
set_option maxHeartbeats 4000000 in
theorem KX0_firstWrong (l : Launch) {S : pm_S} {p : Int32 × pm_H} {a0 : Nat} {a1 : Nat} {σ : pm_H} (h0 : pm_is S a0 3) (h1 : pm_is S a1 11) (hf : fX0_firstWrong S a0 a1 σ = some p) : pm_M l yX0_firstWrong cX0_firstWrong 3 (some .int) false 0 [.ref a0, .ref a1] S σ (pm_ri S p) := by
  refine pm_M.of (by decide +kernel) (Nat.le_of_ble_eq_true rfl) ?_
  show pm_E l yX0_firstWrong cX0_firstWrong 3 (some .int) false 0 S (pm_ri S p) 0 [(0, .ref a0), (1, .ref a1)] [] S σ
  rw [fX0_firstWrong] at hf
  refine pm_iconst (pc := 0) (0 : Int32) (by decide) dX0_firstWrong_0 ?_
  refine pm_istore_n (pc := 1) [(2, .int (0 : Int32)), (0, .ref a0), (1, .ref a1)] dX0_firstWrong_1 rfl (by decide) rfl ?_
  refine pm_lv [(0, .ref a0), (1, .ref a1), (2, .int (0 : Int32))] [1, 2, 0] rfl ?_
  refine fX0_firstWrong_L2_E l h0 h1 (fun s9 hf => ?_) pm_fuel (0 : Int32) σ hf
  refine pm_iconst (pc := 38) (-1 : Int32) (by decide) dX0_firstWrong_38 ?_
  exact pm_iret rfl dX0_firstWrong_39 (pm_ri_e hf)
def fX1_copyFrom (S : pm_S) (a0 : Nat) (a1 : Nat) (σ : pm_H) : Option (pm_H) :=
  pm_let (pm_si σ a0 1 (σ.1 a1 1)) fun s1 => (if pm_cb (0 : Int32) (0 : Int32) (8 : Int32) (pm_len S (s1.2 a1 0)) (pm_len S (s1.2 a0 0)) = true then pm_let (pm_sa s1 (s1.2 a0 0) (va_cpy (s1.1 (s1.2 a1 0)) (s1.1 (s1.2 a0 0)) ((0 : Int32)).toNatClampNeg ((0 : Int32)).toNatClampNeg ((8 : Int32)).toNatClampNeg)) fun s5 => some s5 else none)
set_option maxRecDepth 100000 in
set_option maxHeartbeats 4000000 in
theorem KX1_copyFrom (l : Launch) {S : pm_S} {p : pm_H} {a0 : Nat} {a1 : Nat} {σ : pm_H} (h0 : pm_is S a0 4) (h1 : pm_is S a1 4) (hf : fX1_copyFrom S a0 a1 σ = some p) : pm_M l yX1_copyFrom cX1_copyFrom 2 none false 1 [.ref a0, .ref a1] S σ (pm_ru S p) := by
  refine pm_M.of (by decide +kernel) (Nat.le_of_ble_eq_true rfl) ?_
  show pm_E l yX1_copyFrom cX1_copyFrom 2 none false 1 S (pm_ru S p) 0 [(0, .ref a0), (1, .ref a1)] [] S σ
  rw [fX1_copyFrom] at hf
  refine pm_aload_n (pc := 0) 0 dX1_copyFrom_0 rfl rfl h0.pos ?_
  refine pm_aload_n (pc := 1) 1 dX1_copyFrom_1 rfl rfl h1.pos ?_
  refine pm_getI (pc := 2) (k := 1) pm_cl1 flX1_15 (by decide) rfl h1 dX1_copyFrom_2 ?_
  refine pm_putI (pc := 5) (k := 1) pm_cl1 flX1_15 (by decide) rfl rfl rfl h0 dX1_copyFrom_5 ?_
  obtain ⟨s1, es1, hf⟩ := pm_let_e hf
  refine pm_nmh es1 ?_
  refine pm_aload_n (pc := 8) 1 dX1_copyFrom_8 rfl rfl h1.pos ?_
  refine pm_getT (pc := 9) (k := 0) pm_cl1 flX1_9 (by decide) rfl h1 dX1_copyFrom_9 (fun hr2 => ?_)
  refine pm_iconst (pc := 12) (0 : Int32) (by decide) dX1_copyFrom_12 ?_
  refine pm_aload_n (pc := 13) 0 dX1_copyFrom_13 rfl rfl h0.pos ?_
  refine pm_getT (pc := 14) (k := 0) pm_cl1 flX1_9 (by decide) rfl h0 dX1_copyFrom_14 (fun hr3 => ?_)
  refine pm_iconst (pc := 17) (0 : Int32) (by decide) dX1_copyFrom_17 ?_
  refine pm_bipush (pc := 18) (8 : Int32) (by decide) dX1_copyFrom_18 ?_
  obtain ⟨hb4, hf⟩ := pm_gd hf
  refine pm_copy (pc := 20) cpX1_19 hr2 hr3 (pm_cb_e hb4).1 (pm_cb_e hb4).2.1 (pm_cb_e hb4).2.2.1 (pm_cb_e hb4).2.2.2.1 (pm_cb_e hb4).2.2.2.2 (Nat.le_of_ble_eq_true rfl) (by decide) dX1_copyFrom_20 ?_
  obtain ⟨s5, es5, hf⟩ := pm_let_e hf
  refine pm_nmh es5 ?_
  exact pm_vret rfl dX1_copyFrom_23 (pm_ru_e hf)
def fX1_add (S : pm_S) (a0 : Nat) (a1 : Int32) (σ : pm_H) : Option (pm_H) :=
  (if (8 : Int32) ≤ (σ.1 a0 1) then some σ else (if pm_ib (σ.1 a0 1) (pm_len S (σ.2 a0 0)) = true then pm_let (pm_si σ (σ.2 a0 0) ((σ.1 a0 1)).toNatClampNeg a1) fun s3 => pm_let (pm_si s3 a0 1 ((s3.1 a0 1) + (1 : Int32))) fun s4 => some s4 else none))
set_option maxRecDepth 100000 in
set_option maxHeartbeats 4000000 in
theorem KX1_add (l : Launch) {S : pm_S} {p : pm_H} {a0 : Nat} {a1 : Int32} {σ : pm_H} (h0 : pm_is S a0 4) (hf : fX1_add S a0 a1 σ = some p) : pm_M l yX1_add cX1_add 2 none false 0 [.ref a0, .int a1] S σ (pm_ru S p) := by
  refine pm_M.of (by decide +kernel) (Nat.le_of_ble_eq_true rfl) ?_
  show pm_E l yX1_add cX1_add 2 none false 0 S (pm_ru S p) 0 [(0, .ref a0), (1, .int a1)] [] S σ
  rw [fX1_add] at hf
  refine pm_aload_n (pc := 0) 0 dX1_add_0 rfl rfl h0.pos ?_
  refine pm_getI (pc := 1) (k := 1) pm_cl1 flX1_15 (by decide) rfl h0 dX1_add_1 ?_
  refine pm_bipush (pc := 4) (8 : Int32) (by decide) dX1_add_4 ?_
  refine pm_icmp_ge (pc := 6) 29 dX1_add_6 (by decide) (fun hc5 => ?_) (fun hc5 => ?_)
  · rw [if_pos hc5] at hf
    exact pm_vret rfl dX1_add_29 (pm_ru_e hf)
  · rw [if_neg hc5] at hf
    refine pm_aload_n (pc := 9) 0 dX1_add_9 rfl rfl h0.pos ?_
    refine pm_getT (pc := 10) (k := 0) pm_cl1 flX1_9 (by decide) rfl h0 dX1_add_10 (fun hr1 => ?_)
    refine pm_aload_n (pc := 13) 0 dX1_add_13 rfl rfl h0.pos ?_
    refine pm_getI (pc := 14) (k := 1) pm_cl1 flX1_15 (by decide) rfl h0 dX1_add_14 ?_
    refine pm_iload_n (pc := 17) 1 dX1_add_17 rfl rfl ?_
    obtain ⟨hb2, hf⟩ := pm_gd hf
    refine pm_iast (pc := 18) hr1 (pm_ib_in hb2) dX1_add_18 ?_
    obtain ⟨s3, es3, hf⟩ := pm_let_e hf
    refine pm_nmh es3 ?_
    refine pm_aload_n (pc := 19) 0 dX1_add_19 rfl rfl h0.pos ?_
    refine pm_dup (pc := 20) rfl dX1_add_20 ?_
    refine pm_getI (pc := 21) (k := 1) pm_cl1 flX1_15 (by decide) rfl h0 dX1_add_21 ?_
    refine pm_iconst (pc := 24) (1 : Int32) (by decide) dX1_add_24 ?_
    refine pm_iadd (pc := 25) dX1_add_25 ?_
    refine pm_putI (pc := 26) (k := 1) pm_cl1 flX1_15 (by decide) rfl rfl rfl h0 dX1_add_26 ?_
    obtain ⟨s4, es4, hf⟩ := pm_let_e hf
    refine pm_nmh es4 ?_
    exact pm_vret rfl dX1_add_29 (pm_ru_e hf)
def fX1_mean_L4 (S : pm_S) (v0 : Nat) (kx : Int32 → pm_H → Option (Int32 × pm_H)) : Nat → Int32 → Int32 → pm_H → Option (Int32 × pm_H)
  | 0, _, _, _ => none
  | n + 1, v1, v2, σ => (if (σ.1 v0 1) ≤ v2 then kx v1 σ else (if pm_ib v2 (pm_len S (σ.2 v0 0)) = true then pm_let (v1 + (σ.1 (σ.2 v0 0) (v2).toNatClampNeg)) fun x3 => fX1_mean_L4 S v0 kx n x3 (v2 + (1 : Int32)) σ else none))
set_option maxRecDepth 100000 in
set_option maxHeartbeats 4000000 in
theorem fX1_mean_L4_E (l : Launch) {S : pm_S} {p : Int32 × pm_H} {v0 : Nat} {kx : Int32 → pm_H → Option (Int32 × pm_H)} (h0 : pm_is S v0 4) (hkx : ∀ w1 sw, kx w1 sw = some p → pm_E l yX1_mean cX1_mean 3 (some .int) false 0 S (pm_ri S p) 27 [(0, .ref v0), (1, .int w1)] [] S sw) : ∀ (n : Nat) (v1 : Int32) (v2 : Int32) (σ : pm_H), fX1_mean_L4 S v0 kx n v1 v2 σ = some p → pm_E l yX1_mean cX1_mean 3 (some .int) false 0 S (pm_ri S p) 4 [(0, .ref v0), (1, .int v1), (2, .int v2)] [] S σ := by
  intro n
  induction n with
  | zero => intro v1 v2 σ hf; cases hf
  | succ n ih =>
    intro v1 v2 σ hf
    rw [fX1_mean_L4] at hf
    refine pm_iload_n (pc := 4) 2 dX1_mean_4 rfl rfl ?_
    refine pm_aload_n (pc := 5) 0 dX1_mean_5 rfl rfl h0.pos ?_
    refine pm_getI (pc := 6) (k := 1) pm_cl1 flX1_15 (by decide) rfl h0 dX1_mean_6 ?_
    refine pm_icmp_ge (pc := 9) 27 dX1_mean_9 (by decide) (fun hc4 => ?_) (fun hc4 => ?_)
    · rw [if_pos hc4] at hf
      refine pm_lv [(0, .ref v0), (1, .int v1)] [0, 1] rfl ?_
      exact hkx v1 σ hf
    · rw [if_neg hc4] at hf
      refine pm_iload_n (pc := 12) 1 dX1_mean_12 rfl rfl ?_
      refine pm_aload_n (pc := 13) 0 dX1_mean_13 rfl rfl h0.pos ?_
      refine pm_getT (pc := 14) (k := 0) pm_cl1 flX1_9 (by decide) rfl h0 dX1_mean_14 (fun hr1 => ?_)
      refine pm_iload_n (pc := 17) 2 dX1_mean_17 rfl rfl ?_
      obtain ⟨hb2, hf⟩ := pm_gd hf
      refine pm_iald (pc := 18) hr1 (pm_ib_in hb2) dX1_mean_18 ?_
      refine pm_iadd (pc := 19) dX1_mean_19 ?_
      obtain ⟨x3, ex3, hf⟩ := pm_let_e hf
      refine pm_nmi ex3 ?_
      refine pm_istore_n (pc := 20) [(1, .int x3), (0, .ref v0), (2, .int v2)] dX1_mean_20 rfl (by decide) rfl ?_
      refine pm_iinc (pc := 21) 2 (v2 + (1 : Int32)) [(2, .int (v2 + (1 : Int32))), (1, .int x3), (0, .ref v0)] dX1_mean_21 rfl rfl (by decide) rfl ?_
      refine pm_goto (pc := 24) 4 dX1_mean_24 (by decide) ?_
      refine pm_lv [(0, .ref v0), (1, .int x3), (2, .int (v2 + (1 : Int32)))] [2, 1, 0] rfl ?_
      exact ih x3 (v2 + (1 : Int32)) σ hf
def fX1_mean (S : pm_S) (a0 : Nat) (σ : pm_H) : Option (Int32 × pm_H) :=
  fX1_mean_L4 S a0 (fun w5 s6 => (if (1 : Int32) ≤ (s6.1 a0 1) then if (s6.1 a0 1) = 0 then none else some ((w5 / (s6.1 a0 1)), s6) else some ((-1 : Int32), s6))) pm_fuel (0 : Int32) (0 : Int32) σ
set_option maxRecDepth 100000 in
set_option maxHeartbeats 4000000 in
theorem KX1_mean (l : Launch) {S : pm_S} {p : Int32 × pm_H} {a0 : Nat} {σ : pm_H} (h0 : pm_is S a0 4) (hf : fX1_mean S a0 σ = some p) : pm_M l yX1_mean cX1_mean 3 (some .int) false 0 [.ref a0] S σ (pm_ri S p) := by
  refine pm_M.of (by decide +kernel) (Nat.le_of_ble_eq_true rfl) ?_
  show pm_E l yX1_mean cX1_mean 3 (some .int) false 0 S (pm_ri S p) 0 [(0, .ref a0)] [] S σ
  rw [fX1_mean] at hf
  refine pm_iconst (pc := 0) (0 : Int32) (by decide) dX1_mean_0 ?_
  refine pm_istore_n (pc := 1) [(1, .int (0 : Int32)), (0, .ref a0)] dX1_mean_1 rfl (by decide) rfl ?_
  refine pm_iconst (pc := 2) (0 : Int32) (by decide) dX1_mean_2 ?_
  refine pm_istore_n (pc := 3) [(2, .int (0 : Int32)), (1, .int (0 : Int32)), (0, .ref a0)] dX1_mean_3 rfl (by decide) rfl ?_
  refine pm_lv [(0, .ref a0), (1, .int (0 : Int32)), (2, .int (0 : Int32))] [2, 1, 0] rfl ?_
  refine fX1_mean_L4_E l h0 (fun w5 s6 hf => ?_) pm_fuel (0 : Int32) (0 : Int32) σ hf
  refine pm_aload_n (pc := 27) 0 dX1_mean_27 rfl rfl h0.pos ?_
  refine pm_getI (pc := 28) (k := 1) pm_cl1 flX1_15 (by decide) rfl h0 dX1_mean_28 ?_
  refine pm_iconst (pc := 31) (1 : Int32) (by decide) dX1_mean_31 ?_
  refine pm_icmp_ge (pc := 32) 39 dX1_mean_32 (by decide) (fun hc8 => ?_) (fun hc8 => ?_)
  · rw [if_pos hc8] at hf
    refine pm_iload_n (pc := 39) 1 dX1_mean_39 rfl rfl ?_
    refine pm_aload_n (pc := 40) 0 dX1_mean_40 rfl rfl h0.pos ?_
    refine pm_getI (pc := 41) (k := 1) pm_cl1 flX1_15 (by decide) rfl h0 dX1_mean_41 ?_
    obtain ⟨hz7, hf⟩ := pm_gz hf
    refine pm_idiv (pc := 44) hz7 dX1_mean_44 ?_
    exact pm_iret rfl dX1_mean_45 (pm_ri_e hf)
  · rw [if_neg hc8] at hf
    refine pm_iconst (pc := 35) (-1 : Int32) (by decide) dX1_mean_35 ?_
    refine pm_goto (pc := 36) 45 dX1_mean_36 (by decide) ?_
    exact pm_iret rfl dX1_mean_45 (pm_ri_e hf)
def fX1_middle_J58 (S : pm_S) (v0 : Nat) (v1 : Int32) (v2 : Int32) (v4 : Int32) (v5 : Int32) (t0 : Int32) (t1 : Int32) (ag : Int32 → Int32 → Int32 → pm_H → Option (Int32 × pm_H)) (σ : pm_H) : Option (Int32 × pm_H) :=
  pm_let (t1 + t0) fun x6 => (if pm_ib v5 (pm_len S (σ.2 v0 0)) = true then (if pm_ib v2 (pm_len S (σ.2 v0 0)) = true then (if (σ.1 (σ.2 v0 0) (v2).toNatClampNeg) < (σ.1 (σ.2 v0 0) (v5).toNatClampNeg) then pm_let (v4 + (0 : Int32)) fun x11 => ag x6 x11 (v5 + (1 : Int32)) σ else pm_let (v4 + (1 : Int32)) fun x12 => ag x6 x12 (v5 + (1 : Int32)) σ) else none) else none)
set_option maxRecDepth 100000 in
set_option maxHeartbeats 4000000 in
theorem fX1_middle_J58_E (l : Launch) {S : pm_S} {p : Int32 × pm_H} {v0 : Nat} {v1 : Int32} {v2 : Int32} {v4 : Int32} {v5 : Int32} {t0 : Int32} {t1 : Int32} {ag : Int32 → Int32 → Int32 → pm_H → Option (Int32 × pm_H)} {σ : pm_H} (h0 : pm_is S v0 4) (hag : ∀ w3 w4 w5 sw, ag w3 w4 w5 sw = some p → pm_E l yX1_middle cX1_middle 6 (some .int) false 0 S (pm_ri S p) 27 [(0, .ref v0), (1, .int v1), (2, .int v2), (3, .int w3), (4, .int w4), (5, .int w5)] [] S sw) (hf : fX1_middle_J58 S v0 v1 v2 v4 v5 t0 t1 ag σ = some p) : pm_E l yX1_middle cX1_middle 6 (some .int) false 0 S (pm_ri S p) 58 [(0, .ref v0), (1, .int v1), (2, .int v2), (4, .int v4), (5, .int v5)] [.int t0, .int t1] S σ := by
  rw [fX1_middle_J58] at hf
  refine pm_iadd (pc := 58) dX1_middle_58 ?_
  obtain ⟨x6, ex6, hf⟩ := pm_let_e hf
  refine pm_nmi ex6 ?_
  refine pm_istore_n (pc := 59) [(3, .int x6), (0, .ref v0), (1, .int v1), (2, .int v2), (4, .int v4), (5, .int v5)] dX1_middle_59 rfl (by decide) rfl ?_
  refine pm_iload (pc := 60) 4 dX1_middle_60 rfl ?_
  refine pm_aload_n (pc := 62) 1 dX1_middle_62 rfl rfl h0.pos ?_
  refine pm_getT (pc := 63) (k := 0) pm_cl1 flX1_9 (by decide) rfl h0 dX1_middle_63 (fun hr7 => ?_)
  refine pm_iload (pc := 66) 5 dX1_middle_66 rfl ?_
  obtain ⟨hb8, hf⟩ := pm_gd hf
  refine pm_iald (pc := 68) hr7 (pm_ib_in hb8) dX1_middle_68 ?_
  refine pm_aload_n (pc := 69) 1 dX1_middle_69 rfl rfl h0.pos ?_
  refine pm_getT (pc := 70) (k := 0) pm_cl1 flX1_9 (by decide) rfl h0 dX1_middle_70 (fun hr9 => ?_)
  refine pm_iload_n (pc := 73) 3 dX1_middle_73 rfl rfl ?_
  obtain ⟨hb10, hf⟩ := pm_gd hf
  refine pm_iald (pc := 74) hr9 (pm_ib_in hb10) dX1_middle_74 ?_
  refine pm_icmp_gt (pc := 75) 82 dX1_middle_75 (by decide) (fun hc13 => ?_) (fun hc13 => ?_)
  · rw [if_pos hc13] at hf
    refine pm_iconst (pc := 82) (0 : Int32) (by decide) dX1_middle_82 ?_
    refine pm_iadd (pc := 83) dX1_middle_83 ?_
    obtain ⟨x11, ex11, hf⟩ := pm_let_e hf
    refine pm_nmi ex11 ?_
    refine pm_istore (pc := 84) [(4, .int x11), (3, .int x6), (0, .ref v0), (1, .int v1), (2, .int v2), (5, .int v5)] dX1_middle_84 (by decide) rfl ?_
    refine pm_iinc (pc := 86) 5 (v5 + (1 : Int32)) [(5, .int (v5 + (1 : Int32))), (4, .int x11), (3, .int x6), (0, .ref v0), (1, .int v1), (2, .int v2)] dX1_middle_86 rfl rfl (by decide) rfl ?_
    refine pm_goto (pc := 89) 27 dX1_middle_89 (by decide) ?_
    refine pm_lv [(0, .ref v0), (1, .int v1), (2, .int v2), (3, .int x6), (4, .int x11), (5, .int (v5 + (1 : Int32)))] [3, 4, 5, 2, 1, 0] rfl ?_
    exact hag x6 x11 (v5 + (1 : Int32)) σ hf
  · rw [if_neg hc13] at hf
    refine pm_iconst (pc := 78) (1 : Int32) (by decide) dX1_middle_78 ?_
    refine pm_goto (pc := 79) 83 dX1_middle_79 (by decide) ?_
    refine pm_iadd (pc := 83) dX1_middle_83 ?_
    obtain ⟨x12, ex12, hf⟩ := pm_let_e hf
    refine pm_nmi ex12 ?_
    refine pm_istore (pc := 84) [(4, .int x12), (3, .int x6), (0, .ref v0), (1, .int v1), (2, .int v2), (5, .int v5)] dX1_middle_84 (by decide) rfl ?_
    refine pm_iinc (pc := 86) 5 (v5 + (1 : Int32)) [(5, .int (v5 + (1 : Int32))), (4, .int x12), (3, .int x6), (0, .ref v0), (1, .int v1), (2, .int v2)] dX1_middle_86 rfl rfl (by decide) rfl ?_
    refine pm_goto (pc := 89) 27 dX1_middle_89 (by decide) ?_
    refine pm_lv [(0, .ref v0), (1, .int v1), (2, .int v2), (3, .int x6), (4, .int x12), (5, .int (v5 + (1 : Int32)))] [3, 4, 5, 2, 1, 0] rfl ?_
    exact hag x6 x12 (v5 + (1 : Int32)) σ hf
def fX1_middle_L27 (S : pm_S) (v0 : Nat) (v1 : Int32) (v2 : Int32) (kx : Int32 → Int32 → pm_H → Option (Int32 × pm_H)) : Nat → Int32 → Int32 → Int32 → pm_H → Option (Int32 × pm_H)
  | 0, _, _, _, _ => none
  | n + 1, v3, v4, v5, σ => (if (σ.1 v0 1) ≤ v5 then kx v3 v4 σ else (if pm_ib v5 (pm_len S (σ.2 v0 0)) = true then (if pm_ib v2 (pm_len S (σ.2 v0 0)) = true then (if (σ.1 (σ.2 v0 0) (v2).toNatClampNeg) ≤ (σ.1 (σ.2 v0 0) (v5).toNatClampNeg) then fX1_middle_J58 S v0 v1 v2 v4 v5 (0 : Int32) v3 (fun w3 w4 w5 sw => fX1_middle_L27 S v0 v1 v2 kx n w3 w4 w5 sw) σ else fX1_middle_J58 S v0 v1 v2 v4 v5 (1 : Int32) v3 (fun w3 w4 w5 sw => fX1_middle_L27 S v0 v1 v2 kx n w3 w4 w5 sw) σ) else none) else none))
set_option maxRecDepth 100000 in
set_option maxHeartbeats 4000000 in
theorem fX1_middle_L27_E (l : Launch) {S : pm_S} {p : Int32 × pm_H} {v0 : Nat} {v1 : Int32} {v2 : Int32} {kx : Int32 → Int32 → pm_H → Option (Int32 × pm_H)} (h0 : pm_is S v0 4) (hkx : ∀ w3 w4 sw, kx w3 w4 sw = some p → pm_E l yX1_middle cX1_middle 6 (some .int) false 0 S (pm_ri S p) 92 [(0, .ref v0), (1, .int v1), (2, .int v2), (3, .int w3), (4, .int w4)] [] S sw) : ∀ (n : Nat) (v3 : Int32) (v4 : Int32) (v5 : Int32) (σ : pm_H), fX1_middle_L27 S v0 v1 v2 kx n v3 v4 v5 σ = some p → pm_E l yX1_middle cX1_middle 6 (some .int) false 0 S (pm_ri S p) 27 [(0, .ref v0), (1, .int v1), (2, .int v2), (3, .int v3), (4, .int v4), (5, .int v5)] [] S σ := by
  intro n
  induction n with
  | zero => intro v3 v4 v5 σ hf; cases hf
  | succ n ih =>
    intro v3 v4 v5 σ hf
    rw [fX1_middle_L27] at hf
    refine pm_iload (pc := 27) 5 dX1_middle_27 rfl ?_
    refine pm_aload_n (pc := 29) 0 dX1_middle_29 rfl rfl h0.pos ?_
    refine pm_getI (pc := 30) (k := 1) pm_cl1 flX1_15 (by decide) rfl h0 dX1_middle_30 ?_
    refine pm_icmp_ge (pc := 33) 92 dX1_middle_33 (by decide) (fun hc15 => ?_) (fun hc15 => ?_)
    · rw [if_pos hc15] at hf
      refine pm_lv [(0, .ref v0), (1, .int v1), (2, .int v2), (3, .int v3), (4, .int v4)] [0, 1, 2, 3, 4] rfl ?_
      exact hkx v3 v4 σ hf
    · rw [if_neg hc15] at hf
      refine pm_iload_n (pc := 36) 3 dX1_middle_36 rfl rfl ?_
      refine pm_aload_n (pc := 37) 0 dX1_middle_37 rfl rfl h0.pos ?_
      refine pm_getT (pc := 38) (k := 0) pm_cl1 flX1_9 (by decide) rfl h0 dX1_middle_38 (fun hr2 => ?_)
      refine pm_iload (pc := 41) 5 dX1_middle_41 rfl ?_
      obtain ⟨hb3, hf⟩ := pm_gd hf
      refine pm_iald (pc := 43) hr2 (pm_ib_in hb3) dX1_middle_43 ?_
      refine pm_aload_n (pc := 44) 0 dX1_middle_44 rfl rfl h0.pos ?_
      refine pm_getT (pc := 45) (k := 0) pm_cl1 flX1_9 (by decide) rfl h0 dX1_middle_45 (fun hr4 => ?_)
      refine pm_iload_n (pc := 48) 2 dX1_middle_48 rfl rfl ?_
      obtain ⟨hb5, hf⟩ := pm_gd hf
      refine pm_iald (pc := 49) hr4 (pm_ib_in hb5) dX1_middle_49 ?_
      refine pm_icmp_ge (pc := 50) 57 dX1_middle_50 (by decide) (fun hc14 => ?_) (fun hc14 => ?_)
      · rw [if_pos hc14] at hf
        refine pm_iconst (pc := 57) (0 : Int32) (by decide) dX1_middle_57 ?_
        refine pm_lv [(0, .ref v0), (1, .int v1), (2, .int v2), (4, .int v4), (5, .int v5)] [0, 1, 2, 4, 5] rfl ?_
        exact fX1_middle_J58_E l h0 ih hf
      · rw [if_neg hc14] at hf
        refine pm_iconst (pc := 53) (1 : Int32) (by decide) dX1_middle_53 ?_
        refine pm_goto (pc := 54) 58 dX1_middle_54 (by decide) ?_
        refine pm_lv [(0, .ref v0), (1, .int v1), (2, .int v2), (4, .int v4), (5, .int v5)] [0, 1, 2, 4, 5] rfl ?_
        exact fX1_middle_J58_E l h0 ih hf
def fX1_middle_L11 (S : pm_S) (v0 : Nat) (v1 : Int32) (kx : pm_H → Option (Int32 × pm_H)) : Nat → Int32 → pm_H → Option (Int32 × pm_H)
  | 0, _, _ => none
  | n + 1, v2, σ => (if (σ.1 v0 1) ≤ v2 then kx σ else fX1_middle_L27 S v0 v1 v2 (fun w16 w17 s18 => (if v1 < w16 then fX1_middle_L11 S v0 v1 kx n (v2 + (1 : Int32)) s18 else (if w17 ≤ v1 then fX1_middle_L11 S v0 v1 kx n (v2 + (1 : Int32)) s18 else (if pm_ib v2 (pm_len S (s18.2 v0 0)) = true then some ((s18.1 (s18.2 v0 0) (v2).toNatClampNeg), s18) else none)))) pm_fuel (0 : Int32) (0 : Int32) (0 : Int32) σ)
set_option maxRecDepth 100000 in
set_option maxHeartbeats 4000000 in
theorem fX1_middle_L11_E (l : Launch) {S : pm_S} {p : Int32 × pm_H} {v0 : Nat} {v1 : Int32} {kx : pm_H → Option (Int32 × pm_H)} (h0 : pm_is S v0 4) (hkx : ∀  sw, kx  sw = some p → pm_E l yX1_middle cX1_middle 6 (some .int) false 0 S (pm_ri S p) 116 [] [] S sw) : ∀ (n : Nat) (v2 : Int32) (σ : pm_H), fX1_middle_L11 S v0 v1 kx n v2 σ = some p → pm_E l yX1_middle cX1_middle 6 (some .int) false 0 S (pm_ri S p) 11 [(0, .ref v0), (1, .int v1), (2, .int v2)] [] S σ := by
  intro n
  induction n with
  | zero => intro v2 σ hf; cases hf
  | succ n ih =>
    intro v2 σ hf
    rw [fX1_middle_L11] at hf
    refine pm_iload_n (pc := 11) 2 dX1_middle_11 rfl rfl ?_
    refine pm_aload_n (pc := 12) 0 dX1_middle_12 rfl rfl h0.pos ?_
    refine pm_getI (pc := 13) (k := 1) pm_cl1 flX1_15 (by decide) rfl h0 dX1_middle_13 ?_
    refine pm_icmp_ge (pc := 16) 116 dX1_middle_16 (by decide) (fun hc23 => ?_) (fun hc23 => ?_)
    · rw [if_pos hc23] at hf
      refine pm_lv [] [] rfl ?_
      exact hkx σ hf
    · rw [if_neg hc23] at hf
      refine pm_iconst (pc := 19) (0 : Int32) (by decide) dX1_middle_19 ?_
      refine pm_istore_n (pc := 20) [(3, .int (0 : Int32)), (0, .ref v0), (1, .int v1), (2, .int v2)] dX1_middle_20 rfl (by decide) rfl ?_
      refine pm_iconst (pc := 21) (0 : Int32) (by decide) dX1_middle_21 ?_
      refine pm_istore (pc := 22) [(4, .int (0 : Int32)), (3, .int (0 : Int32)), (0, .ref v0), (1, .int v1), (2, .int v2)] dX1_middle_22 (by decide) rfl ?_
      refine pm_iconst (pc := 24) (0 : Int32) (by decide) dX1_middle_24 ?_
      refine pm_istore (pc := 25) [(5, .int (0 : Int32)), (4, .int (0 : Int32)), (3, .int (0 : Int32)), (0, .ref v0), (1, .int v1), (2, .int v2)] dX1_middle_25 (by decide) rfl ?_
      refine pm_lv [(0, .ref v0), (1, .int v1), (2, .int v2), (3, .int (0 : Int32)), (4, .int (0 : Int32)), (5, .int (0 : Int32))] [3, 4, 5, 2, 1, 0] rfl ?_
      refine fX1_middle_L27_E l h0 (fun w16 w17 s18 hf => ?_) pm_fuel (0 : Int32) (0 : Int32) (0 : Int32) σ hf
      refine pm_iload_n (pc := 92) 3 dX1_middle_92 rfl rfl ?_
      refine pm_iload_n (pc := 93) 1 dX1_middle_93 rfl rfl ?_
      refine pm_icmp_gt (pc := 94) 110 dX1_middle_94 (by decide) (fun hc22 => ?_) (fun hc22 => ?_)
      · rw [if_pos hc22] at hf
        refine pm_iinc (pc := 110) 2 (v2 + (1 : Int32)) [(2, .int (v2 + (1 : Int32))), (0, .ref v0), (1, .int v1), (3, .int w16), (4, .int w17)] dX1_middle_110 rfl rfl (by decide) rfl ?_
        refine pm_goto (pc := 113) 11 dX1_middle_113 (by decide) ?_
        refine pm_lv [(0, .ref v0), (1, .int v1), (2, .int (v2 + (1 : Int32)))] [1, 2, 0] rfl ?_
        exact ih (v2 + (1 : Int32)) s18 hf
      · rw [if_neg hc22] at hf
        refine pm_iload_n (pc := 97) 1 dX1_middle_97 rfl rfl ?_
        refine pm_iload (pc := 98) 4 dX1_middle_98 rfl ?_
        refine pm_icmp_ge (pc := 100) 110 dX1_middle_100 (by decide) (fun hc21 => ?_) (fun hc21 => ?_)
        · rw [if_pos hc21] at hf
          refine pm_iinc (pc := 110) 2 (v2 + (1 : Int32)) [(2, .int (v2 + (1 : Int32))), (0, .ref v0), (1, .int v1), (3, .int w16), (4, .int w17)] dX1_middle_110 rfl rfl (by decide) rfl ?_
          refine pm_goto (pc := 113) 11 dX1_middle_113 (by decide) ?_
          refine pm_lv [(0, .ref v0), (1, .int v1), (2, .int (v2 + (1 : Int32)))] [1, 2, 0] rfl ?_
          exact ih (v2 + (1 : Int32)) s18 hf
        · rw [if_neg hc21] at hf
          refine pm_aload_n (pc := 103) 0 dX1_middle_103 rfl rfl h0.pos ?_
          refine pm_getT (pc := 104) (k := 0) pm_cl1 flX1_9 (by decide) rfl h0 dX1_middle_104 (fun hr19 => ?_)
          refine pm_iload_n (pc := 107) 2 dX1_middle_107 rfl rfl ?_
          obtain ⟨hb20, hf⟩ := pm_gd hf
          refine pm_iald (pc := 108) hr19 (pm_ib_in hb20) dX1_middle_108 ?_
          exact pm_iret rfl dX1_middle_109 (pm_ri_e hf)
def fX1_middle (S : pm_S) (a0 : Nat) (σ : pm_H) : Option (Int32 × pm_H) :=
  pm_let (((σ.1 a0 1) - (1 : Int32)) / (2 : Int32)) fun x1 => fX1_middle_L11 S a0 x1 (fun s24 => some ((-1 : Int32), s24)) pm_fuel (0 : Int32) σ
set_option maxRecDepth 100000 in
set_option maxHeartbeats 4000000 in
theorem KX1_middle (l : Launch) {S : pm_S} {p : Int32 × pm_H} {a0 : Nat} {σ : pm_H} (h0 : pm_is S a0 4) (hf : fX1_middle S a0 σ = some p) : pm_M l yX1_middle cX1_middle 6 (some .int) false 0 [.ref a0] S σ (pm_ri S p) := by
  refine pm_M.of (by decide +kernel) (Nat.le_of_ble_eq_true rfl) ?_
  show pm_E l yX1_middle cX1_middle 6 (some .int) false 0 S (pm_ri S p) 0 [(0, .ref a0)] [] S σ
  rw [fX1_middle] at hf
  refine pm_aload_n (pc := 0) 0 dX1_middle_0 rfl rfl h0.pos ?_
  refine pm_getI (pc := 1) (k := 1) pm_cl1 flX1_15 (by decide) rfl h0 dX1_middle_1 ?_
  refine pm_iconst (pc := 4) (1 : Int32) (by decide) dX1_middle_4 ?_
  refine pm_isub (pc := 5) dX1_middle_5 ?_
  refine pm_iconst (pc := 6) (2 : Int32) (by decide) dX1_middle_6 ?_
  refine pm_idiv (pc := 7) (by decide) dX1_middle_7 ?_
  obtain ⟨x1, ex1, hf⟩ := pm_let_e hf
  refine pm_nmi ex1 ?_
  refine pm_istore_n (pc := 8) [(1, .int x1), (0, .ref a0)] dX1_middle_8 rfl (by decide) rfl ?_
  refine pm_iconst (pc := 9) (0 : Int32) (by decide) dX1_middle_9 ?_
  refine pm_istore_n (pc := 10) [(2, .int (0 : Int32)), (1, .int x1), (0, .ref a0)] dX1_middle_10 rfl (by decide) rfl ?_
  refine pm_lv [(0, .ref a0), (1, .int x1), (2, .int (0 : Int32))] [2, 1, 0] rfl ?_
  refine fX1_middle_L11_E l h0 (fun s24 hf => ?_) pm_fuel (0 : Int32) σ hf
  refine pm_iconst (pc := 116) (-1 : Int32) (by decide) dX1_middle_116 ?_
  exact pm_iret rfl dX1_middle_117 (pm_ri_e hf)
def fX1_farthestFrom_L4 (S : pm_S) (v0 : Nat) (v1 : Int32) (kx : Int32 → pm_H → Option (Int32 × pm_H)) : Nat → Int32 → Int32 → pm_H → Option (Int32 × pm_H)
  | 0, _, _, _ => none
  | n + 1, v2, v3, σ => (if (σ.1 v0 1) ≤ v3 then kx v2 σ else (if v2 = (-1 : Int32) then fX1_farthestFrom_L4 S v0 v1 kx n v3 (v3 + (1 : Int32)) σ else (if pm_ib v3 (pm_len S (σ.2 v0 0)) = true then (if pm_ib v2 (pm_len S (σ.2 v0 0)) = true then (if (pm_abs ((σ.1 (σ.2 v0 0) (v3).toNatClampNeg) - v1)) ≤ (pm_abs ((σ.1 (σ.2 v0 0) (v2).toNatClampNeg) - v1)) then fX1_farthestFrom_L4 S v0 v1 kx n v2 (v3 + (1 : Int32)) σ else fX1_farthestFrom_L4 S v0 v1 kx n v3 (v3 + (1 : Int32)) σ) else none) else none)))
set_option maxRecDepth 100000 in
set_option maxHeartbeats 4000000 in
theorem fX1_farthestFrom_L4_E (l : Launch) {S : pm_S} {p : Int32 × pm_H} {v0 : Nat} {v1 : Int32} {kx : Int32 → pm_H → Option (Int32 × pm_H)} (h0 : pm_is S v0 4) (hkx : ∀ w2 sw, kx w2 sw = some p → pm_E l yX1_farthestFrom cX1_farthestFrom 4 (some .int) false 1 S (pm_ri S p) 50 [(2, .int w2)] [] S sw) : ∀ (n : Nat) (v2 : Int32) (v3 : Int32) (σ : pm_H), fX1_farthestFrom_L4 S v0 v1 kx n v2 v3 σ = some p → pm_E l yX1_farthestFrom cX1_farthestFrom 4 (some .int) false 1 S (pm_ri S p) 4 [(0, .ref v0), (1, .int v1), (2, .int v2), (3, .int v3)] [] S σ := by
  intro n
  induction n with
  | zero => intro v2 v3 σ hf; cases hf
  | succ n ih =>
    intro v2 v3 σ hf
    rw [fX1_farthestFrom_L4] at hf
    refine pm_iload_n (pc := 4) 3 dX1_farthestFrom_4 rfl rfl ?_
    refine pm_aload_n (pc := 5) 0 dX1_farthestFrom_5 rfl rfl h0.pos ?_
    refine pm_getI (pc := 6) (k := 1) pm_cl1 flX1_15 (by decide) rfl h0 dX1_farthestFrom_6 ?_
    refine pm_icmp_ge (pc := 9) 50 dX1_farthestFrom_9 (by decide) (fun hc7 => ?_) (fun hc7 => ?_)
    · rw [if_pos hc7] at hf
      refine pm_lv [(2, .int v2)] [2] rfl ?_
      exact hkx v2 σ hf
    · rw [if_neg hc7] at hf
      refine pm_iload_n (pc := 12) 2 dX1_farthestFrom_12 rfl rfl ?_
      refine pm_iconst (pc := 13) (-1 : Int32) (by decide) dX1_farthestFrom_13 ?_
      refine pm_icmp_eq (pc := 14) 42 dX1_farthestFrom_14 (by decide) (fun hc6 => ?_) (fun hc6 => ?_)
      · rw [if_pos hc6] at hf
        refine pm_iload_n (pc := 42) 3 dX1_farthestFrom_42 rfl rfl ?_
        refine pm_istore_n (pc := 43) [(2, .int v3), (0, .ref v0), (1, .int v1), (3, .int v3)] dX1_farthestFrom_43 rfl (by decide) rfl ?_
        refine pm_iinc (pc := 44) 3 (v3 + (1 : Int32)) [(3, .int (v3 + (1 : Int32))), (2, .int v3), (0, .ref v0), (1, .int v1)] dX1_farthestFrom_44 rfl rfl (by decide) rfl ?_
        refine pm_goto (pc := 47) 4 dX1_farthestFrom_47 (by decide) ?_
        refine pm_lv [(0, .ref v0), (1, .int v1), (2, .int v3), (3, .int (v3 + (1 : Int32)))] [2, 3, 1, 0] rfl ?_
        exact ih v3 (v3 + (1 : Int32)) σ hf
      · rw [if_neg hc6] at hf
        refine pm_aload_n (pc := 17) 0 dX1_farthestFrom_17 rfl rfl h0.pos ?_
        refine pm_getT (pc := 18) (k := 0) pm_cl1 flX1_9 (by decide) rfl h0 dX1_farthestFrom_18 (fun hr1 => ?_)
        refine pm_iload_n (pc := 21) 3 dX1_farthestFrom_21 rfl rfl ?_
        obtain ⟨hb2, hf⟩ := pm_gd hf
        refine pm_iald (pc := 22) hr1 (pm_ib_in hb2) dX1_farthestFrom_22 ?_
        refine pm_iload_n (pc := 23) 1 dX1_farthestFrom_23 rfl rfl ?_
        refine pm_isub (pc := 24) dX1_farthestFrom_24 ?_
        refine pm_mabs (pc := 25) (st := []) mmX1_25 (Nat.le_of_ble_eq_true rfl) (by decide) rfl dX1_farthestFrom_25 ?_
        refine pm_aload_n (pc := 28) 0 dX1_farthestFrom_28 rfl rfl h0.pos ?_
        refine pm_getT (pc := 29) (k := 0) pm_cl1 flX1_9 (by decide) rfl h0 dX1_farthestFrom_29 (fun hr3 => ?_)
        refine pm_iload_n (pc := 32) 2 dX1_farthestFrom_32 rfl rfl ?_
        obtain ⟨hb4, hf⟩ := pm_gd hf
        refine pm_iald (pc := 33) hr3 (pm_ib_in hb4) dX1_farthestFrom_33 ?_
        refine pm_iload_n (pc := 34) 1 dX1_farthestFrom_34 rfl rfl ?_
        refine pm_isub (pc := 35) dX1_farthestFrom_35 ?_
        refine pm_mabs (pc := 36) (st := [.int (pm_abs ((σ.1 (σ.2 v0 0) (v3).toNatClampNeg) - v1))]) mmX1_25 (Nat.le_of_ble_eq_true rfl) (by decide) rfl dX1_farthestFrom_36 ?_
        refine pm_icmp_le (pc := 39) 44 dX1_farthestFrom_39 (by decide) (fun hc5 => ?_) (fun hc5 => ?_)
        · rw [if_pos hc5] at hf
          refine pm_iinc (pc := 44) 3 (v3 + (1 : Int32)) [(3, .int (v3 + (1 : Int32))), (0, .ref v0), (1, .int v1), (2, .int v2)] dX1_farthestFrom_44 rfl rfl (by decide) rfl ?_
          refine pm_goto (pc := 47) 4 dX1_farthestFrom_47 (by decide) ?_
          refine pm_lv [(0, .ref v0), (1, .int v1), (2, .int v2), (3, .int (v3 + (1 : Int32)))] [1, 2, 3, 0] rfl ?_
          exact ih v2 (v3 + (1 : Int32)) σ hf
        · rw [if_neg hc5] at hf
          refine pm_iload_n (pc := 42) 3 dX1_farthestFrom_42 rfl rfl ?_
          refine pm_istore_n (pc := 43) [(2, .int v3), (0, .ref v0), (1, .int v1), (3, .int v3)] dX1_farthestFrom_43 rfl (by decide) rfl ?_
          refine pm_iinc (pc := 44) 3 (v3 + (1 : Int32)) [(3, .int (v3 + (1 : Int32))), (2, .int v3), (0, .ref v0), (1, .int v1)] dX1_farthestFrom_44 rfl rfl (by decide) rfl ?_
          refine pm_goto (pc := 47) 4 dX1_farthestFrom_47 (by decide) ?_
          refine pm_lv [(0, .ref v0), (1, .int v1), (2, .int v3), (3, .int (v3 + (1 : Int32)))] [2, 3, 1, 0] rfl ?_
          exact ih v3 (v3 + (1 : Int32)) σ hf
def fX1_farthestFrom (S : pm_S) (a0 : Nat) (a1 : Int32) (σ : pm_H) : Option (Int32 × pm_H) :=
  fX1_farthestFrom_L4 S a0 a1 (fun w8 s9 => some (w8, s9)) pm_fuel (-1 : Int32) (0 : Int32) σ
set_option maxRecDepth 100000 in
set_option maxHeartbeats 4000000 in
theorem KX1_farthestFrom (l : Launch) {S : pm_S} {p : Int32 × pm_H} {a0 : Nat} {a1 : Int32} {σ : pm_H} (h0 : pm_is S a0 4) (hf : fX1_farthestFrom S a0 a1 σ = some p) : pm_M l yX1_farthestFrom cX1_farthestFrom 4 (some .int) false 1 [.ref a0, .int a1] S σ (pm_ri S p) := by
  refine pm_M.of (by decide +kernel) (Nat.le_of_ble_eq_true rfl) ?_
  show pm_E l yX1_farthestFrom cX1_farthestFrom 4 (some .int) false 1 S (pm_ri S p) 0 [(0, .ref a0), (1, .int a1)] [] S σ
  rw [fX1_farthestFrom] at hf
  refine pm_iconst (pc := 0) (-1 : Int32) (by decide) dX1_farthestFrom_0 ?_
  refine pm_istore_n (pc := 1) [(2, .int (-1 : Int32)), (0, .ref a0), (1, .int a1)] dX1_farthestFrom_1 rfl (by decide) rfl ?_
  refine pm_iconst (pc := 2) (0 : Int32) (by decide) dX1_farthestFrom_2 ?_
  refine pm_istore_n (pc := 3) [(3, .int (0 : Int32)), (2, .int (-1 : Int32)), (0, .ref a0), (1, .int a1)] dX1_farthestFrom_3 rfl (by decide) rfl ?_
  refine pm_lv [(0, .ref a0), (1, .int a1), (2, .int (-1 : Int32)), (3, .int (0 : Int32))] [2, 3, 1, 0] rfl ?_
  refine fX1_farthestFrom_L4_E l h0 (fun w8 s9 hf => ?_) pm_fuel (-1 : Int32) (0 : Int32) σ hf
  refine pm_iload_n (pc := 50) 0 dX1_farthestFrom_50 rfl rfl ?_
  exact pm_iret rfl dX1_farthestFrom_51 (pm_ri_e hf)
def fX1_nearestTo_L4 (S : pm_S) (v0 : Nat) (v1 : Int32) (kx : Int32 → pm_H → Option (Int32 × pm_H)) : Nat → Int32 → Int32 → pm_H → Option (Int32 × pm_H)
  | 0, _, _, _ => none
  | n + 1, v2, v3, σ => (if (σ.1 v0 1) ≤ v3 then kx v2 σ else (if v2 = (-1 : Int32) then fX1_nearestTo_L4 S v0 v1 kx n v3 (v3 + (1 : Int32)) σ else (if pm_ib v3 (pm_len S (σ.2 v0 0)) = true then (if pm_ib v2 (pm_len S (σ.2 v0 0)) = true then (if (pm_abs ((σ.1 (σ.2 v0 0) (v2).toNatClampNeg) - v1)) ≤ (pm_abs ((σ.1 (σ.2 v0 0) (v3).toNatClampNeg) - v1)) then fX1_nearestTo_L4 S v0 v1 kx n v2 (v3 + (1 : Int32)) σ else fX1_nearestTo_L4 S v0 v1 kx n v3 (v3 + (1 : Int32)) σ) else none) else none)))
set_option maxRecDepth 100000 in
set_option maxHeartbeats 4000000 in
theorem fX1_nearestTo_L4_E (l : Launch) {S : pm_S} {p : Int32 × pm_H} {v0 : Nat} {v1 : Int32} {kx : Int32 → pm_H → Option (Int32 × pm_H)} (h0 : pm_is S v0 4) (hkx : ∀ w2 sw, kx w2 sw = some p → pm_E l yX1_nearestTo cX1_nearestTo 4 (some .int) false 1 S (pm_ri S p) 50 [(2, .int w2)] [] S sw) : ∀ (n : Nat) (v2 : Int32) (v3 : Int32) (σ : pm_H), fX1_nearestTo_L4 S v0 v1 kx n v2 v3 σ = some p → pm_E l yX1_nearestTo cX1_nearestTo 4 (some .int) false 1 S (pm_ri S p) 4 [(0, .ref v0), (1, .int v1), (2, .int v2), (3, .int v3)] [] S σ := by
  intro n
  induction n with
  | zero => intro v2 v3 σ hf; cases hf
  | succ n ih =>
    intro v2 v3 σ hf
    rw [fX1_nearestTo_L4] at hf
    refine pm_iload_n (pc := 4) 3 dX1_nearestTo_4 rfl rfl ?_
    refine pm_aload_n (pc := 5) 0 dX1_nearestTo_5 rfl rfl h0.pos ?_
    refine pm_getI (pc := 6) (k := 1) pm_cl1 flX1_15 (by decide) rfl h0 dX1_nearestTo_6 ?_
    refine pm_icmp_ge (pc := 9) 50 dX1_nearestTo_9 (by decide) (fun hc7 => ?_) (fun hc7 => ?_)
    · rw [if_pos hc7] at hf
      refine pm_lv [(2, .int v2)] [2] rfl ?_
      exact hkx v2 σ hf
    · rw [if_neg hc7] at hf
      refine pm_iload_n (pc := 12) 2 dX1_nearestTo_12 rfl rfl ?_
      refine pm_iconst (pc := 13) (-1 : Int32) (by decide) dX1_nearestTo_13 ?_
      refine pm_icmp_eq (pc := 14) 42 dX1_nearestTo_14 (by decide) (fun hc6 => ?_) (fun hc6 => ?_)
      · rw [if_pos hc6] at hf
        refine pm_iload_n (pc := 42) 3 dX1_nearestTo_42 rfl rfl ?_
        refine pm_istore_n (pc := 43) [(2, .int v3), (0, .ref v0), (1, .int v1), (3, .int v3)] dX1_nearestTo_43 rfl (by decide) rfl ?_
        refine pm_iinc (pc := 44) 3 (v3 + (1 : Int32)) [(3, .int (v3 + (1 : Int32))), (2, .int v3), (0, .ref v0), (1, .int v1)] dX1_nearestTo_44 rfl rfl (by decide) rfl ?_
        refine pm_goto (pc := 47) 4 dX1_nearestTo_47 (by decide) ?_
        refine pm_lv [(0, .ref v0), (1, .int v1), (2, .int v3), (3, .int (v3 + (1 : Int32)))] [2, 3, 1, 0] rfl ?_
        exact ih v3 (v3 + (1 : Int32)) σ hf
      · rw [if_neg hc6] at hf
        refine pm_aload_n (pc := 17) 0 dX1_nearestTo_17 rfl rfl h0.pos ?_
        refine pm_getT (pc := 18) (k := 0) pm_cl1 flX1_9 (by decide) rfl h0 dX1_nearestTo_18 (fun hr1 => ?_)
        refine pm_iload_n (pc := 21) 3 dX1_nearestTo_21 rfl rfl ?_
        obtain ⟨hb2, hf⟩ := pm_gd hf
        refine pm_iald (pc := 22) hr1 (pm_ib_in hb2) dX1_nearestTo_22 ?_
        refine pm_iload_n (pc := 23) 1 dX1_nearestTo_23 rfl rfl ?_
        refine pm_isub (pc := 24) dX1_nearestTo_24 ?_
        refine pm_mabs (pc := 25) (st := []) mmX1_25 (Nat.le_of_ble_eq_true rfl) (by decide) rfl dX1_nearestTo_25 ?_
        refine pm_aload_n (pc := 28) 0 dX1_nearestTo_28 rfl rfl h0.pos ?_
        refine pm_getT (pc := 29) (k := 0) pm_cl1 flX1_9 (by decide) rfl h0 dX1_nearestTo_29 (fun hr3 => ?_)
        refine pm_iload_n (pc := 32) 2 dX1_nearestTo_32 rfl rfl ?_
        obtain ⟨hb4, hf⟩ := pm_gd hf
        refine pm_iald (pc := 33) hr3 (pm_ib_in hb4) dX1_nearestTo_33 ?_
        refine pm_iload_n (pc := 34) 1 dX1_nearestTo_34 rfl rfl ?_
        refine pm_isub (pc := 35) dX1_nearestTo_35 ?_
        refine pm_mabs (pc := 36) (st := [.int (pm_abs ((σ.1 (σ.2 v0 0) (v3).toNatClampNeg) - v1))]) mmX1_25 (Nat.le_of_ble_eq_true rfl) (by decide) rfl dX1_nearestTo_36 ?_
        refine pm_icmp_ge (pc := 39) 44 dX1_nearestTo_39 (by decide) (fun hc5 => ?_) (fun hc5 => ?_)
        · rw [if_pos hc5] at hf
          refine pm_iinc (pc := 44) 3 (v3 + (1 : Int32)) [(3, .int (v3 + (1 : Int32))), (0, .ref v0), (1, .int v1), (2, .int v2)] dX1_nearestTo_44 rfl rfl (by decide) rfl ?_
          refine pm_goto (pc := 47) 4 dX1_nearestTo_47 (by decide) ?_
          refine pm_lv [(0, .ref v0), (1, .int v1), (2, .int v2), (3, .int (v3 + (1 : Int32)))] [1, 2, 3, 0] rfl ?_
          exact ih v2 (v3 + (1 : Int32)) σ hf
        · rw [if_neg hc5] at hf
          refine pm_iload_n (pc := 42) 3 dX1_nearestTo_42 rfl rfl ?_
          refine pm_istore_n (pc := 43) [(2, .int v3), (0, .ref v0), (1, .int v1), (3, .int v3)] dX1_nearestTo_43 rfl (by decide) rfl ?_
          refine pm_iinc (pc := 44) 3 (v3 + (1 : Int32)) [(3, .int (v3 + (1 : Int32))), (2, .int v3), (0, .ref v0), (1, .int v1)] dX1_nearestTo_44 rfl rfl (by decide) rfl ?_
          refine pm_goto (pc := 47) 4 dX1_nearestTo_47 (by decide) ?_
          refine pm_lv [(0, .ref v0), (1, .int v1), (2, .int v3), (3, .int (v3 + (1 : Int32)))] [2, 3, 1, 0] rfl ?_
          exact ih v3 (v3 + (1 : Int32)) σ hf
def fX1_nearestTo (S : pm_S) (a0 : Nat) (a1 : Int32) (σ : pm_H) : Option (Int32 × pm_H) :=
  fX1_nearestTo_L4 S a0 a1 (fun w8 s9 => some (w8, s9)) pm_fuel (-1 : Int32) (0 : Int32) σ
set_option maxRecDepth 100000 in
set_option maxHeartbeats 4000000 in
theorem KX1_nearestTo (l : Launch) {S : pm_S} {p : Int32 × pm_H} {a0 : Nat} {a1 : Int32} {σ : pm_H} (h0 : pm_is S a0 4) (hf : fX1_nearestTo S a0 a1 σ = some p) : pm_M l yX1_nearestTo cX1_nearestTo 4 (some .int) false 1 [.ref a0, .int a1] S σ (pm_ri S p) := by
  refine pm_M.of (by decide +kernel) (Nat.le_of_ble_eq_true rfl) ?_
  show pm_E l yX1_nearestTo cX1_nearestTo 4 (some .int) false 1 S (pm_ri S p) 0 [(0, .ref a0), (1, .int a1)] [] S σ
  rw [fX1_nearestTo] at hf
  refine pm_iconst (pc := 0) (-1 : Int32) (by decide) dX1_nearestTo_0 ?_
  refine pm_istore_n (pc := 1) [(2, .int (-1 : Int32)), (0, .ref a0), (1, .int a1)] dX1_nearestTo_1 rfl (by decide) rfl ?_
  refine pm_iconst (pc := 2) (0 : Int32) (by decide) dX1_nearestTo_2 ?_
  refine pm_istore_n (pc := 3) [(3, .int (0 : Int32)), (2, .int (-1 : Int32)), (0, .ref a0), (1, .int a1)] dX1_nearestTo_3 rfl (by decide) rfl ?_
  refine pm_lv [(0, .ref a0), (1, .int a1), (2, .int (-1 : Int32)), (3, .int (0 : Int32))] [2, 3, 1, 0] rfl ?_
  refine fX1_nearestTo_L4_E l h0 (fun w8 s9 hf => ?_) pm_fuel (-1 : Int32) (0 : Int32) σ hf
  refine pm_iload_n (pc := 50) 0 dX1_nearestTo_50 rfl rfl ?_
  exact pm_iret rfl dX1_nearestTo_51 (pm_ri_e hf)
def fX2_takeLengths_L14 (S : pm_S) (v0 : Nat) (v1 : Nat) (v2 : Int32) (kx : pm_H → Option (pm_H)) : Nat → Int32 → pm_H → Option (pm_H)
  | 0, _, _ => none
  | n + 1, v3, σ => (if (σ.1 v1 3) ≤ v3 then kx σ else (if pm_ib v3 (pm_len S (σ.2 v1 2)) = true then (if v2 ≤ (σ.1 (σ.2 v1 2) (v3).toNatClampNeg) then fX2_takeLengths_L14 S v0 v1 v2 kx n (v3 + (1 : Int32)) σ else (if pm_ib v3 (pm_len S (σ.2 v1 2)) = true then (if pm_ib (σ.1 v0 4) (pm_len S (σ.2 v0 3)) = true then pm_let (pm_si σ (σ.2 v0 3) ((σ.1 v0 4)).toNatClampNeg (σ.1 (σ.2 v1 2) (v3).toNatClampNeg)) fun s11 => pm_let (pm_si s11 v0 4 ((s11.1 v0 4) + (1 : Int32))) fun s12 => fX2_takeLengths_L14 S v0 v1 v2 kx n (v3 + (1 : Int32)) s12 else none) else none)) else none))
set_option maxRecDepth 100000 in
set_option maxHeartbeats 4000000 in
theorem fX2_takeLengths_L14_E (l : Launch) {S : pm_S} {p : pm_H} {v0 : Nat} {v1 : Nat} {v2 : Int32} {kx : pm_H → Option (pm_H)} (h0 : pm_is S v0 5) (h1 : pm_is S v1 12) (hkx : ∀  sw, kx  sw = some p → pm_E l yX2_takeLengths cX2_takeLengths 4 none false 0 S (pm_ru S p) 63 [] [] S sw) : ∀ (n : Nat) (v3 : Int32) (σ : pm_H), fX2_takeLengths_L14 S v0 v1 v2 kx n v3 σ = some p → pm_E l yX2_takeLengths cX2_takeLengths 4 none false 0 S (pm_ru S p) 14 [(0, .ref v0), (1, .ref v1), (2, .int v2), (3, .int v3)] [] S σ := by
  intro n
  induction n with
  | zero => intro v3 σ hf; cases hf
  | succ n ih =>
    intro v3 σ hf
    rw [fX2_takeLengths_L14] at hf
    refine pm_iload_n (pc := 14) 3 dX2_takeLengths_14 rfl rfl ?_
    refine pm_aload_n (pc := 15) 1 dX2_takeLengths_15 rfl rfl h1.pos ?_
    refine pm_getI (pc := 16) (k := 3) pm_cl9 flX2_25 (by decide) rfl h1 dX2_takeLengths_16 ?_
    refine pm_icmp_ge (pc := 19) 63 dX2_takeLengths_19 (by decide) (fun hc14 => ?_) (fun hc14 => ?_)
    · rw [if_pos hc14] at hf
      refine pm_lv [] [] rfl ?_
      exact hkx σ hf
    · rw [if_neg hc14] at hf
      refine pm_aload_n (pc := 22) 1 dX2_takeLengths_22 rfl rfl h1.pos ?_
      refine pm_getT (pc := 23) (k := 2) pm_cl9 flX2_30 (by decide) rfl h1 dX2_takeLengths_23 (fun hr5 => ?_)
      refine pm_iload_n (pc := 26) 3 dX2_takeLengths_26 rfl rfl ?_
      obtain ⟨hb6, hf⟩ := pm_gd hf
      refine pm_iald (pc := 27) hr5 (pm_ib_in hb6) dX2_takeLengths_27 ?_
      refine pm_iload_n (pc := 28) 2 dX2_takeLengths_28 rfl rfl ?_
      refine pm_icmp_ge (pc := 29) 57 dX2_takeLengths_29 (by decide) (fun hc13 => ?_) (fun hc13 => ?_)
      · rw [if_pos hc13] at hf
        refine pm_iinc (pc := 57) 3 (v3 + (1 : Int32)) [(3, .int (v3 + (1 : Int32))), (0, .ref v0), (1, .ref v1), (2, .int v2)] dX2_takeLengths_57 rfl rfl (by decide) rfl ?_
        refine pm_goto (pc := 60) 14 dX2_takeLengths_60 (by decide) ?_
        refine pm_lv [(0, .ref v0), (1, .ref v1), (2, .int v2), (3, .int (v3 + (1 : Int32)))] [1, 2, 3, 0] rfl ?_
        exact ih (v3 + (1 : Int32)) σ hf
      · rw [if_neg hc13] at hf
        refine pm_aload_n (pc := 32) 0 dX2_takeLengths_32 rfl rfl h0.pos ?_
        refine pm_getT (pc := 33) (k := 3) pm_cl2 flX2_18 (by decide) rfl h0 dX2_takeLengths_33 (fun hr7 => ?_)
        refine pm_aload_n (pc := 36) 0 dX2_takeLengths_36 rfl rfl h0.pos ?_
        refine pm_getI (pc := 37) (k := 4) pm_cl2 flX2_21 (by decide) rfl h0 dX2_takeLengths_37 ?_
        refine pm_aload_n (pc := 40) 1 dX2_takeLengths_40 rfl rfl h1.pos ?_
        refine pm_getT (pc := 41) (k := 2) pm_cl9 flX2_30 (by decide) rfl h1 dX2_takeLengths_41 (fun hr8 => ?_)
        refine pm_iload_n (pc := 44) 3 dX2_takeLengths_44 rfl rfl ?_
        obtain ⟨hb9, hf⟩ := pm_gd hf
        refine pm_iald (pc := 45) hr8 (pm_ib_in hb9) dX2_takeLengths_45 ?_
        obtain ⟨hb10, hf⟩ := pm_gd hf
        refine pm_iast (pc := 46) hr7 (pm_ib_in hb10) dX2_takeLengths_46 ?_
        obtain ⟨s11, es11, hf⟩ := pm_let_e hf
        refine pm_nmh es11 ?_
        refine pm_aload_n (pc := 47) 0 dX2_takeLengths_47 rfl rfl h0.pos ?_
        refine pm_dup (pc := 48) rfl dX2_takeLengths_48 ?_
        refine pm_getI (pc := 49) (k := 4) pm_cl2 flX2_21 (by decide) rfl h0 dX2_takeLengths_49 ?_
        refine pm_iconst (pc := 52) (1 : Int32) (by decide) dX2_takeLengths_52 ?_
        refine pm_iadd (pc := 53) dX2_takeLengths_53 ?_
        refine pm_putI (pc := 54) (k := 4) pm_cl2 flX2_21 (by decide) rfl rfl rfl h0 dX2_takeLengths_54 ?_
        obtain ⟨s12, es12, hf⟩ := pm_let_e hf
        refine pm_nmh es12 ?_
        refine pm_iinc (pc := 57) 3 (v3 + (1 : Int32)) [(3, .int (v3 + (1 : Int32))), (0, .ref v0), (1, .ref v1), (2, .int v2)] dX2_takeLengths_57 rfl rfl (by decide) rfl ?_
        refine pm_goto (pc := 60) 14 dX2_takeLengths_60 (by decide) ?_
        refine pm_lv [(0, .ref v0), (1, .ref v1), (2, .int v2), (3, .int (v3 + (1 : Int32)))] [1, 2, 3, 0] rfl ?_
        exact ih (v3 + (1 : Int32)) s12 hf
def fX2_takeLengths (S : pm_S) (a0 : Nat) (a1 : Nat) (a2 : Int32) (σ : pm_H) : Option (pm_H) :=
  (if pm_ib (0 : Int32) (pm_len S (σ.2 a0 3)) = true then pm_let (pm_si σ (σ.2 a0 3) ((0 : Int32)).toNatClampNeg a2) fun s3 => pm_let (pm_si s3 a0 4 (1 : Int32)) fun s4 => fX2_takeLengths_L14 S a0 a1 a2 (fun s15 => some s15) pm_fuel (0 : Int32) s4 else none)
set_option maxRecDepth 100000 in
set_option maxHeartbeats 4000000 in
theorem KX2_takeLengths (l : Launch) {S : pm_S} {p : pm_H} {a0 : Nat} {a1 : Nat} {a2 : Int32} {σ : pm_H} (h0 : pm_is S a0 5) (h1 : pm_is S a1 12) (hf : fX2_takeLengths S a0 a1 a2 σ = some p) : pm_M l yX2_takeLengths cX2_takeLengths 4 none false 0 [.ref a0, .ref a1, .int a2] S σ (pm_ru S p) := by
  refine pm_M.of (by decide +kernel) (Nat.le_of_ble_eq_true rfl) ?_
  show pm_E l yX2_takeLengths cX2_takeLengths 4 none false 0 S (pm_ru S p) 0 [(0, .ref a0), (1, .ref a1), (2, .int a2)] [] S σ
  rw [fX2_takeLengths] at hf
  refine pm_aload_n (pc := 0) 0 dX2_takeLengths_0 rfl rfl h0.pos ?_
  refine pm_getT (pc := 1) (k := 3) pm_cl2 flX2_18 (by decide) rfl h0 dX2_takeLengths_1 (fun hr1 => ?_)
  refine pm_iconst (pc := 4) (0 : Int32) (by decide) dX2_takeLengths_4 ?_
  refine pm_iload_n (pc := 5) 2 dX2_takeLengths_5 rfl rfl ?_
  obtain ⟨hb2, hf⟩ := pm_gd hf
  refine pm_iast (pc := 6) hr1 (pm_ib_in hb2) dX2_takeLengths_6 ?_
  obtain ⟨s3, es3, hf⟩ := pm_let_e hf
  refine pm_nmh es3 ?_
  refine pm_aload_n (pc := 7) 0 dX2_takeLengths_7 rfl rfl h0.pos ?_
  refine pm_iconst (pc := 8) (1 : Int32) (by decide) dX2_takeLengths_8 ?_
  refine pm_putI (pc := 9) (k := 4) pm_cl2 flX2_21 (by decide) rfl rfl rfl h0 dX2_takeLengths_9 ?_
  obtain ⟨s4, es4, hf⟩ := pm_let_e hf
  refine pm_nmh es4 ?_
  refine pm_iconst (pc := 12) (0 : Int32) (by decide) dX2_takeLengths_12 ?_
  refine pm_istore_n (pc := 13) [(3, .int (0 : Int32)), (0, .ref a0), (1, .ref a1), (2, .int a2)] dX2_takeLengths_13 rfl (by decide) rfl ?_
  refine pm_lv [(0, .ref a0), (1, .ref a1), (2, .int a2), (3, .int (0 : Int32))] [1, 2, 3, 0] rfl ?_
  refine fX2_takeLengths_L14_E l h0 h1 (fun s15 hf => ?_) pm_fuel (0 : Int32) s4 hf
  exact pm_vret rfl dX2_takeLengths_63 (pm_ru_e hf)
def fJ7_fill_53178_L5 (S : pm_S) (v0 : Nat) (v1 : Int32) (v3 : Int32) (kx : pm_H → Option (pm_H)) : Nat → Int32 → pm_H → Option (pm_H)
  | 0, _, _ => none
  | n + 1, v2, σ => (if v3 ≤ v2 then kx σ else (if pm_ib v2 (pm_len S v0) = true then pm_let (pm_si σ v0 (v2).toNatClampNeg v1) fun s3 => fJ7_fill_53178_L5 S v0 v1 v3 kx n (v2 + (1 : Int32)) s3 else none))
set_option maxRecDepth 100000 in
set_option maxHeartbeats 4000000 in
theorem fJ7_fill_53178_L5_E (l : Launch) {S : pm_S} {p : pm_H} {v0 : Nat} {v1 : Int32} {v3 : Int32} {kx : pm_H → Option (pm_H)} (h0 : pm_is S v0 0) (hkx : ∀  sw, kx  sw = some p → pm_E l yJ7_fill_53178 cJ7_fill_53178 4 none false 0 S (pm_ru S p) 20 [] [] S sw) : ∀ (n : Nat) (v2 : Int32) (σ : pm_H), fJ7_fill_53178_L5 S v0 v1 v3 kx n v2 σ = some p → pm_E l yJ7_fill_53178 cJ7_fill_53178 4 none false 0 S (pm_ru S p) 5 [(0, .ref v0), (1, .int v1), (2, .int v2), (3, .int v3)] [] S σ := by
  intro n
  induction n with
  | zero => intro v2 σ hf; cases hf
  | succ n ih =>
    intro v2 σ hf
    rw [fJ7_fill_53178_L5] at hf
    refine pm_iload_n (pc := 5) 2 dJ7_fill_53178_5 rfl rfl ?_
    refine pm_iload_n (pc := 6) 3 dJ7_fill_53178_6 rfl rfl ?_
    refine pm_icmp_ge (pc := 7) 20 dJ7_fill_53178_7 (by decide) (fun hc4 => ?_) (fun hc4 => ?_)
    · rw [if_pos hc4] at hf
      refine pm_lv [] [] rfl ?_
      exact hkx σ hf
    · rw [if_neg hc4] at hf
      refine pm_aload_n (pc := 10) 0 dJ7_fill_53178_10 rfl rfl h0.pos ?_
      refine pm_iload_n (pc := 11) 2 dJ7_fill_53178_11 rfl rfl ?_
      refine pm_iload_n (pc := 12) 1 dJ7_fill_53178_12 rfl rfl ?_
      obtain ⟨hb2, hf⟩ := pm_gd hf
      refine pm_iast (pc := 13) h0 (pm_ib_in hb2) dJ7_fill_53178_13 ?_
      obtain ⟨s3, es3, hf⟩ := pm_let_e hf
      refine pm_nmh es3 ?_
      refine pm_iinc (pc := 14) 2 (v2 + (1 : Int32)) [(2, .int (v2 + (1 : Int32))), (0, .ref v0), (1, .int v1), (3, .int v3)] dJ7_fill_53178_14 rfl rfl (by decide) rfl ?_
      refine pm_goto (pc := 17) 5 dJ7_fill_53178_17 (by decide) ?_
      refine pm_lv [(0, .ref v0), (1, .int v1), (2, .int (v2 + (1 : Int32))), (3, .int v3)] [1, 2, 0, 3] rfl ?_
      exact ih (v2 + (1 : Int32)) s3 hf
def fJ7_fill_53178 (S : pm_S) (a0 : Nat) (a1 : Int32) (σ : pm_H) : Option (pm_H) :=
  pm_let (Int32.ofNat (pm_len S a0)) fun x1 => fJ7_fill_53178_L5 S a0 a1 x1 (fun s5 => some s5) pm_fuel (0 : Int32) σ
set_option maxRecDepth 100000 in
set_option maxHeartbeats 4000000 in
theorem KJ7_fill_53178 (l : Launch) {S : pm_S} {p : pm_H} {a0 : Nat} {a1 : Int32} {σ : pm_H} (h0 : pm_is S a0 0) (hf : fJ7_fill_53178 S a0 a1 σ = some p) : pm_M l yJ7_fill_53178 cJ7_fill_53178 4 none false 0 [.ref a0, .int a1] S σ (pm_ru S p) := by
  refine pm_M.of (by decide +kernel) (Nat.le_of_ble_eq_true rfl) ?_
  show pm_E l yJ7_fill_53178 cJ7_fill_53178 4 none false 0 S (pm_ru S p) 0 [(0, .ref a0), (1, .int a1)] [] S σ
  rw [fJ7_fill_53178] at hf
  refine pm_iconst (pc := 0) (0 : Int32) (by decide) dJ7_fill_53178_0 ?_
  refine pm_istore_n (pc := 1) [(2, .int (0 : Int32)), (0, .ref a0), (1, .int a1)] dJ7_fill_53178_1 rfl (by decide) rfl ?_
  refine pm_aload_n (pc := 2) 1 dJ7_fill_53178_2 rfl rfl h0.pos ?_
  refine pm_alen (pc := 3) h0 (by decide) dJ7_fill_53178_3 ?_
  obtain ⟨x1, ex1, hf⟩ := pm_let_e hf
  refine pm_nmi ex1 ?_
  refine pm_istore_n (pc := 4) [(3, .int x1), (2, .int (0 : Int32)), (0, .ref a0), (1, .int a1)] dJ7_fill_53178_4 rfl (by decide) rfl ?_
  refine pm_lv [(0, .ref a0), (1, .int a1), (2, .int (0 : Int32)), (3, .int x1)] [2, 3, 1, 0] rfl ?_
  refine fJ7_fill_53178_L5_E l h0 (fun s5 hf => ?_) pm_fuel (0 : Int32) σ hf
  exact pm_vret rfl dJ7_fill_53178_20 (pm_ru_e hf)
def fX11_within (S : pm_S) (a0 : Int32) (a1 : Int32) (a2 : Int32) (σ : pm_H) : Option (Int32 × pm_H) :=
  (if a0 < a1 then some ((0 : Int32), σ) else (if a2 < a0 then some ((0 : Int32), σ) else some ((1 : Int32), σ)))
set_option maxRecDepth 100000 in
set_option maxHeartbeats 4000000 in
theorem KX11_within (l : Launch) {S : pm_S} {p : Int32 × pm_H} {a0 : Int32} {a1 : Int32} {a2 : Int32} {σ : pm_H}  (hf : fX11_within S a0 a1 a2 σ = some p) : pm_M l yX11_within cX11_within 3 (some .boolean) false 0 [.int a0, .int a1, .int a2] S σ (pm_ri S p) := by
  refine pm_M.of (by decide +kernel) (Nat.le_of_ble_eq_true rfl) ?_
  show pm_E l yX11_within cX11_within 3 (some .boolean) false 0 S (pm_ri S p) 0 [(0, .int a0), (1, .int a1), (2, .int a2)] [] S σ
  rw [fX11_within] at hf
  refine pm_iload_n (pc := 0) 0 dX11_within_0 rfl rfl ?_
  refine pm_iload_n (pc := 1) 1 dX11_within_1 rfl rfl ?_
  refine pm_icmp_lt (pc := 2) 14 dX11_within_2 (by decide) (fun hc2 => ?_) (fun hc2 => ?_)
  · rw [if_pos hc2] at hf
    refine pm_iconst (pc := 14) (0 : Int32) (by decide) dX11_within_14 ?_
    exact pm_zret rfl (by decide) dX11_within_15 (pm_ri_e hf)
  · rw [if_neg hc2] at hf
    refine pm_iload_n (pc := 5) 0 dX11_within_5 rfl rfl ?_
    refine pm_iload_n (pc := 6) 2 dX11_within_6 rfl rfl ?_
    refine pm_icmp_gt (pc := 7) 14 dX11_within_7 (by decide) (fun hc1 => ?_) (fun hc1 => ?_)
    · rw [if_pos hc1] at hf
      refine pm_iconst (pc := 14) (0 : Int32) (by decide) dX11_within_14 ?_
      exact pm_zret rfl (by decide) dX11_within_15 (pm_ri_e hf)
    · rw [if_neg hc1] at hf
      refine pm_iconst (pc := 10) (1 : Int32) (by decide) dX11_within_10 ?_
      refine pm_goto (pc := 11) 15 dX11_within_11 (by decide) ?_
      exact pm_zret rfl (by decide) dX11_within_15 (pm_ri_e hf)
def fX2_reach (S : pm_S) (a0 : Nat) (a1 : Int32) (a2 : Int32) (σ : pm_H) : Option (pm_H) :=
  Option.bind (fX11_within S a1 (0 : Int32) (999 : Int32) σ) fun u1 => (if u1.1 = 0 then some u1.2 else (if pm_ib a1 (pm_len S (u1.2.2 a0 0)) = true then (if (u1.2.1 (u1.2.2 a0 0) (a1).toNatClampNeg) = (-1 : Int32) then (if (999 : Int32) < (u1.2.1 a0 2) then some u1.2 else (if pm_ib a1 (pm_len S (u1.2.2 a0 0)) = true then pm_let (pm_si u1.2 (u1.2.2 a0 0) (a1).toNatClampNeg a2) fun s6 => (if pm_ib (s6.1 a0 2) (pm_len S (s6.2 a0 1)) = true then pm_let (pm_si s6 (s6.2 a0 1) ((s6.1 a0 2)).toNatClampNeg a1) fun s9 => pm_let (pm_si s9 a0 2 ((s9.1 a0 2) + (1 : Int32))) fun s10 => some s10 else none) else none)) else some u1.2) else none))
set_option maxRecDepth 100000 in
set_option maxHeartbeats 4000000 in
theorem KX2_reach (l : Launch) {S : pm_S} {p : pm_H} {a0 : Nat} {a1 : Int32} {a2 : Int32} {σ : pm_H} (h0 : pm_is S a0 5) (hf : fX2_reach S a0 a1 a2 σ = some p) : pm_M l yX2_reach cX2_reach 3 none false 1 [.ref a0, .int a1, .int a2] S σ (pm_ru S p) := by
  refine pm_M.of (by decide +kernel) (Nat.le_of_ble_eq_true rfl) ?_
  show pm_E l yX2_reach cX2_reach 3 none false 1 S (pm_ru S p) 0 [(0, .ref a0), (1, .int a1), (2, .int a2)] [] S σ
  rw [fX2_reach] at hf
  refine pm_iload_n (pc := 0) 1 dX2_reach_0 rfl rfl ?_
  refine pm_iconst (pc := 1) (0 : Int32) (by decide) dX2_reach_1 ?_
  refine pm_sipush (pc := 2) (999 : Int32) (by decide) dX2_reach_2 ?_
  obtain ⟨u1, hu1, hf⟩ := pm_bind_e hf
  refine pm_cNi (pc := 5) (as := [.int a1, .int (0 : Int32), .int (999 : Int32)]) (st := []) mnX2_50 (KX11_within l  hu1) (by decide) rfl rfl (Nat.le_of_ble_eq_true rfl) rfl dX2_reach_5 ?_
  refine pm_if_eq (pc := 8) 58 dX2_reach_8 (by decide) (fun hc13 => ?_) (fun hc13 => ?_)
  · rw [if_pos hc13] at hf
    exact pm_vret rfl dX2_reach_58 (pm_ru_e hf)
  · rw [if_neg hc13] at hf
    refine pm_aload_n (pc := 11) 0 dX2_reach_11 rfl rfl h0.pos ?_
    refine pm_getT (pc := 12) (k := 0) pm_cl2 flX2_9 (by decide) rfl h0 dX2_reach_12 (fun hr2 => ?_)
    refine pm_iload_n (pc := 15) 1 dX2_reach_15 rfl rfl ?_
    obtain ⟨hb3, hf⟩ := pm_gd hf
    refine pm_iald (pc := 16) hr2 (pm_ib_in hb3) dX2_reach_16 ?_
    refine pm_iconst (pc := 17) (-1 : Int32) (by decide) dX2_reach_17 ?_
    refine pm_icmp_ne (pc := 18) 58 dX2_reach_18 (by decide) (fun hc12 => ?_) (fun hc12 => ?_)
    · rw [if_pos hc12] at hf
      refine pm_aload_n (pc := 21) 0 dX2_reach_21 rfl rfl h0.pos ?_
      refine pm_getI (pc := 22) (k := 2) pm_cl2 flX2_39 (by decide) rfl h0 dX2_reach_22 ?_
      refine pm_sipush (pc := 25) (999 : Int32) (by decide) dX2_reach_25 ?_
      refine pm_icmp_gt (pc := 28) 58 dX2_reach_28 (by decide) (fun hc11 => ?_) (fun hc11 => ?_)
      · rw [if_pos hc11] at hf
        exact pm_vret rfl dX2_reach_58 (pm_ru_e hf)
      · rw [if_neg hc11] at hf
        refine pm_aload_n (pc := 31) 0 dX2_reach_31 rfl rfl h0.pos ?_
        refine pm_getT (pc := 32) (k := 0) pm_cl2 flX2_9 (by decide) rfl h0 dX2_reach_32 (fun hr4 => ?_)
        refine pm_iload_n (pc := 35) 1 dX2_reach_35 rfl rfl ?_
        refine pm_iload_n (pc := 36) 2 dX2_reach_36 rfl rfl ?_
        obtain ⟨hb5, hf⟩ := pm_gd hf
        refine pm_iast (pc := 37) hr4 (pm_ib_in hb5) dX2_reach_37 ?_
        obtain ⟨s6, es6, hf⟩ := pm_let_e hf
        refine pm_nmh es6 ?_
        refine pm_aload_n (pc := 38) 0 dX2_reach_38 rfl rfl h0.pos ?_
        refine pm_getT (pc := 39) (k := 1) pm_cl2 flX2_15 (by decide) rfl h0 dX2_reach_39 (fun hr7 => ?_)
        refine pm_aload_n (pc := 42) 0 dX2_reach_42 rfl rfl h0.pos ?_
        refine pm_getI (pc := 43) (k := 2) pm_cl2 flX2_39 (by decide) rfl h0 dX2_reach_43 ?_
        refine pm_iload_n (pc := 46) 1 dX2_reach_46 rfl rfl ?_
        obtain ⟨hb8, hf⟩ := pm_gd hf
        refine pm_iast (pc := 47) hr7 (pm_ib_in hb8) dX2_reach_47 ?_
        obtain ⟨s9, es9, hf⟩ := pm_let_e hf
        refine pm_nmh es9 ?_
        refine pm_aload_n (pc := 48) 0 dX2_reach_48 rfl rfl h0.pos ?_
        refine pm_dup (pc := 49) rfl dX2_reach_49 ?_
        refine pm_getI (pc := 50) (k := 2) pm_cl2 flX2_39 (by decide) rfl h0 dX2_reach_50 ?_
        refine pm_iconst (pc := 53) (1 : Int32) (by decide) dX2_reach_53 ?_
        refine pm_iadd (pc := 54) dX2_reach_54 ?_
        refine pm_putI (pc := 55) (k := 2) pm_cl2 flX2_39 (by decide) rfl rfl rfl h0 dX2_reach_55 ?_
        obtain ⟨s10, es10, hf⟩ := pm_let_e hf
        refine pm_nmh es10 ?_
        exact pm_vret rfl dX2_reach_58 (pm_ru_e hf)
    · rw [if_neg hc12] at hf
      exact pm_vret rfl dX2_reach_58 (pm_ru_e hf)
def fX2_layFrom_L2 (S : pm_S) (v0 : Nat) (v1 : Int32) (kx : pm_H → Option (pm_H)) : Nat → Int32 → pm_H → Option (pm_H)
  | 0, _, _ => none
  | n + 1, v2, σ => (if (σ.1 v0 4) ≤ v2 then kx σ else (if pm_ib v2 (pm_len S (σ.2 v0 3)) = true then (if pm_ib v1 (pm_len S (σ.2 v0 0)) = true then Option.bind (fX2_reach S v0 (v1 + (σ.1 (σ.2 v0 3) (v2).toNatClampNeg)) ((σ.1 (σ.2 v0 0) (v1).toNatClampNeg) + (1 : Int32)) σ) fun u5 => (if pm_ib v2 (pm_len S (u5.2 v0 3)) = true then (if pm_ib v1 (pm_len S (u5.2 v0 0)) = true then Option.bind (fX2_reach S v0 (v1 - (u5.1 (u5.2 v0 3) (v2).toNatClampNeg)) ((u5.1 (u5.2 v0 0) (v1).toNatClampNeg) + (1 : Int32)) u5) fun u10 => fX2_layFrom_L2 S v0 v1 kx n (v2 + (1 : Int32)) u10 else none) else none) else none) else none))
set_option maxRecDepth 100000 in
set_option maxHeartbeats 4000000 in
theorem fX2_layFrom_L2_E (l : Launch) {S : pm_S} {p : pm_H} {v0 : Nat} {v1 : Int32} {kx : pm_H → Option (pm_H)} (h0 : pm_is S v0 5) (hkx : ∀  sw, kx  sw = some p → pm_E l yX2_layFrom cX2_layFrom 3 none false 2 S (pm_ru S p) 56 [] [] S sw) : ∀ (n : Nat) (v2 : Int32) (σ : pm_H), fX2_layFrom_L2 S v0 v1 kx n v2 σ = some p → pm_E l yX2_layFrom cX2_layFrom 3 none false 2 S (pm_ru S p) 2 [(0, .ref v0), (1, .int v1), (2, .int v2)] [] S σ := by
  intro n
  induction n with
  | zero => intro v2 σ hf; cases hf
  | succ n ih =>
    intro v2 σ hf
    rw [fX2_layFrom_L2] at hf
    refine pm_iload_n (pc := 2) 2 dX2_layFrom_2 rfl rfl ?_
    refine pm_aload_n (pc := 3) 0 dX2_layFrom_3 rfl rfl h0.pos ?_
    refine pm_getI (pc := 4) (k := 4) pm_cl2 flX2_21 (by decide) rfl h0 dX2_layFrom_4 ?_
    refine pm_icmp_ge (pc := 7) 56 dX2_layFrom_7 (by decide) (fun hc11 => ?_) (fun hc11 => ?_)
    · rw [if_pos hc11] at hf
      refine pm_lv [] [] rfl ?_
      exact hkx σ hf
    · rw [if_neg hc11] at hf
      refine pm_aload_n (pc := 10) 0 dX2_layFrom_10 rfl rfl h0.pos ?_
      refine pm_iload_n (pc := 11) 1 dX2_layFrom_11 rfl rfl ?_
      refine pm_aload_n (pc := 12) 0 dX2_layFrom_12 rfl rfl h0.pos ?_
      refine pm_getT (pc := 13) (k := 3) pm_cl2 flX2_18 (by decide) rfl h0 dX2_layFrom_13 (fun hr1 => ?_)
      refine pm_iload_n (pc := 16) 2 dX2_layFrom_16 rfl rfl ?_
      obtain ⟨hb2, hf⟩ := pm_gd hf
      refine pm_iald (pc := 17) hr1 (pm_ib_in hb2) dX2_layFrom_17 ?_
      refine pm_iadd (pc := 18) dX2_layFrom_18 ?_
      refine pm_aload_n (pc := 19) 0 dX2_layFrom_19 rfl rfl h0.pos ?_
      refine pm_getT (pc := 20) (k := 0) pm_cl2 flX2_9 (by decide) rfl h0 dX2_layFrom_20 (fun hr3 => ?_)
      refine pm_iload_n (pc := 23) 1 dX2_layFrom_23 rfl rfl ?_
      obtain ⟨hb4, hf⟩ := pm_gd hf
      refine pm_iald (pc := 24) hr3 (pm_ib_in hb4) dX2_layFrom_24 ?_
      refine pm_iconst (pc := 25) (1 : Int32) (by decide) dX2_layFrom_25 ?_
      refine pm_iadd (pc := 26) dX2_layFrom_26 ?_
      obtain ⟨u5, hu5, hf⟩ := pm_bind_e hf
      refine pm_cVu (pc := 27) (as := [.int (v1 + (σ.1 (σ.2 v0 3) (v2).toNatClampNeg)), .int ((σ.1 (σ.2 v0 0) (v1).toNatClampNeg) + (1 : Int32))]) (st := []) mvX2_42 (KX2_reach l h0 hu5) (by decide) h0 rfl rfl (Nat.le_of_ble_eq_true rfl) rfl dX2_layFrom_27 ?_
      refine pm_aload_n (pc := 30) 0 dX2_layFrom_30 rfl rfl h0.pos ?_
      refine pm_iload_n (pc := 31) 1 dX2_layFrom_31 rfl rfl ?_
      refine pm_aload_n (pc := 32) 0 dX2_layFrom_32 rfl rfl h0.pos ?_
      refine pm_getT (pc := 33) (k := 3) pm_cl2 flX2_18 (by decide) rfl h0 dX2_layFrom_33 (fun hr6 => ?_)
      refine pm_iload_n (pc := 36) 2 dX2_layFrom_36 rfl rfl ?_
      obtain ⟨hb7, hf⟩ := pm_gd hf
      refine pm_iald (pc := 37) hr6 (pm_ib_in hb7) dX2_layFrom_37 ?_
      refine pm_isub (pc := 38) dX2_layFrom_38 ?_
      refine pm_aload_n (pc := 39) 0 dX2_layFrom_39 rfl rfl h0.pos ?_
      refine pm_getT (pc := 40) (k := 0) pm_cl2 flX2_9 (by decide) rfl h0 dX2_layFrom_40 (fun hr8 => ?_)
      refine pm_iload_n (pc := 43) 1 dX2_layFrom_43 rfl rfl ?_
      obtain ⟨hb9, hf⟩ := pm_gd hf
      refine pm_iald (pc := 44) hr8 (pm_ib_in hb9) dX2_layFrom_44 ?_
      refine pm_iconst (pc := 45) (1 : Int32) (by decide) dX2_layFrom_45 ?_
      refine pm_iadd (pc := 46) dX2_layFrom_46 ?_
      obtain ⟨u10, hu10, hf⟩ := pm_bind_e hf
      refine pm_cVu (pc := 47) (as := [.int (v1 - (u5.1 (u5.2 v0 3) (v2).toNatClampNeg)), .int ((u5.1 (u5.2 v0 0) (v1).toNatClampNeg) + (1 : Int32))]) (st := []) mvX2_42 (KX2_reach l h0 hu10) (by decide) h0 rfl rfl (Nat.le_of_ble_eq_true rfl) rfl dX2_layFrom_47 ?_
      refine pm_iinc (pc := 50) 2 (v2 + (1 : Int32)) [(2, .int (v2 + (1 : Int32))), (0, .ref v0), (1, .int v1)] dX2_layFrom_50 rfl rfl (by decide) rfl ?_
      refine pm_goto (pc := 53) 2 dX2_layFrom_53 (by decide) ?_
      refine pm_lv [(0, .ref v0), (1, .int v1), (2, .int (v2 + (1 : Int32)))] [1, 2, 0] rfl ?_
      exact ih (v2 + (1 : Int32)) u10 hf
def fX2_layFrom (S : pm_S) (a0 : Nat) (a1 : Int32) (σ : pm_H) : Option (pm_H) :=
  fX2_layFrom_L2 S a0 a1 (fun s12 => some s12) pm_fuel (0 : Int32) σ
set_option maxRecDepth 100000 in
set_option maxHeartbeats 4000000 in
theorem KX2_layFrom (l : Launch) {S : pm_S} {p : pm_H} {a0 : Nat} {a1 : Int32} {σ : pm_H} (h0 : pm_is S a0 5) (hf : fX2_layFrom S a0 a1 σ = some p) : pm_M l yX2_layFrom cX2_layFrom 3 none false 2 [.ref a0, .int a1] S σ (pm_ru S p) := by
  refine pm_M.of (by decide +kernel) (Nat.le_of_ble_eq_true rfl) ?_
  show pm_E l yX2_layFrom cX2_layFrom 3 none false 2 S (pm_ru S p) 0 [(0, .ref a0), (1, .int a1)] [] S σ
  rw [fX2_layFrom] at hf
  refine pm_iconst (pc := 0) (0 : Int32) (by decide) dX2_layFrom_0 ?_
  refine pm_istore_n (pc := 1) [(2, .int (0 : Int32)), (0, .ref a0), (1, .int a1)] dX2_layFrom_1 rfl (by decide) rfl ?_
  refine pm_lv [(0, .ref a0), (1, .int a1), (2, .int (0 : Int32))] [1, 2, 0] rfl ?_
  refine fX2_layFrom_L2_E l h0 (fun s12 hf => ?_) pm_fuel (0 : Int32) σ hf
  exact pm_vret rfl dX2_layFrom_56 (pm_ru_e hf)
def fX2_layOn_L21 (S : pm_S) (v0 : Nat) (v1 : Int32) (kx : pm_H → Option (pm_H)) : Nat → Int32 → pm_H → Option (pm_H)
  | 0, _, _ => none
  | n + 1, v2, σ => (if (σ.1 v0 2) ≤ v2 then kx σ else (if pm_ib v2 (pm_len S (σ.2 v0 1)) = true then pm_let (σ.1 (σ.2 v0 1) (v2).toNatClampNeg) fun x7 => (if pm_ib x7 (pm_len S (σ.2 v0 0)) = true then (if v1 ≤ (σ.1 (σ.2 v0 0) (x7).toNatClampNeg) then fX2_layOn_L21 S v0 v1 kx n (v2 + (1 : Int32)) σ else Option.bind (fX2_layFrom S v0 x7 σ) fun u10 => fX2_layOn_L21 S v0 v1 kx n (v2 + (1 : Int32)) u10) else none) else none))
set_option maxRecDepth 100000 in
set_option maxHeartbeats 4000000 in
theorem fX2_layOn_L21_E (l : Launch) {S : pm_S} {p : pm_H} {v0 : Nat} {v1 : Int32} {kx : pm_H → Option (pm_H)} (h0 : pm_is S v0 5) (hkx : ∀  sw, kx  sw = some p → pm_E l yX2_layOn cX2_layOn 4 none false 3 S (pm_ru S p) 57 [] [] S sw) : ∀ (n : Nat) (v2 : Int32) (σ : pm_H), fX2_layOn_L21 S v0 v1 kx n v2 σ = some p → pm_E l yX2_layOn cX2_layOn 4 none false 3 S (pm_ru S p) 21 [(0, .ref v0), (1, .int v1), (2, .int v2)] [] S σ := by
  intro n
  induction n with
  | zero => intro v2 σ hf; cases hf
  | succ n ih =>
    intro v2 σ hf
    rw [fX2_layOn_L21] at hf
    refine pm_iload_n (pc := 21) 2 dX2_layOn_21 rfl rfl ?_
    refine pm_aload_n (pc := 22) 0 dX2_layOn_22 rfl rfl h0.pos ?_
    refine pm_getI (pc := 23) (k := 2) pm_cl2 flX2_39 (by decide) rfl h0 dX2_layOn_23 ?_
    refine pm_icmp_ge (pc := 26) 57 dX2_layOn_26 (by decide) (fun hc12 => ?_) (fun hc12 => ?_)
    · rw [if_pos hc12] at hf
      refine pm_lv [] [] rfl ?_
      exact hkx σ hf
    · rw [if_neg hc12] at hf
      refine pm_aload_n (pc := 29) 0 dX2_layOn_29 rfl rfl h0.pos ?_
      refine pm_getT (pc := 30) (k := 1) pm_cl2 flX2_15 (by decide) rfl h0 dX2_layOn_30 (fun hr5 => ?_)
      refine pm_iload_n (pc := 33) 2 dX2_layOn_33 rfl rfl ?_
      obtain ⟨hb6, hf⟩ := pm_gd hf
      refine pm_iald (pc := 34) hr5 (pm_ib_in hb6) dX2_layOn_34 ?_
      obtain ⟨x7, ex7, hf⟩ := pm_let_e hf
      refine pm_nmi ex7 ?_
      refine pm_istore_n (pc := 35) [(3, .int x7), (0, .ref v0), (1, .int v1), (2, .int v2)] dX2_layOn_35 rfl (by decide) rfl ?_
      refine pm_aload_n (pc := 36) 1 dX2_layOn_36 rfl rfl h0.pos ?_
      refine pm_getT (pc := 37) (k := 0) pm_cl2 flX2_9 (by decide) rfl h0 dX2_layOn_37 (fun hr8 => ?_)
      refine pm_iload_n (pc := 40) 0 dX2_layOn_40 rfl rfl ?_
      obtain ⟨hb9, hf⟩ := pm_gd hf
      refine pm_iald (pc := 41) hr8 (pm_ib_in hb9) dX2_layOn_41 ?_
      refine pm_iload_n (pc := 42) 2 dX2_layOn_42 rfl rfl ?_
      refine pm_icmp_ge (pc := 43) 51 dX2_layOn_43 (by decide) (fun hc11 => ?_) (fun hc11 => ?_)
      · rw [if_pos hc11] at hf
        refine pm_iinc (pc := 51) 3 (v2 + (1 : Int32)) [(2, .int (v2 + (1 : Int32))), (3, .int x7), (0, .ref v0), (1, .int v1)] dX2_layOn_51 rfl rfl (by decide) rfl ?_
        refine pm_goto (pc := 54) 21 dX2_layOn_54 (by decide) ?_
        refine pm_lv [(0, .ref v0), (1, .int v1), (2, .int (v2 + (1 : Int32)))] [2, 3, 0] rfl ?_
        exact ih (v2 + (1 : Int32)) σ hf
      · rw [if_neg hc11] at hf
        refine pm_aload_n (pc := 46) 1 dX2_layOn_46 rfl rfl h0.pos ?_
        refine pm_iload_n (pc := 47) 0 dX2_layOn_47 rfl rfl ?_
        obtain ⟨u10, hu10, hf⟩ := pm_bind_e hf
        refine pm_cVu (pc := 48) (as := [.int x7]) (st := []) mvX2_46 (KX2_layFrom l h0 hu10) (by decide) h0 rfl rfl (Nat.le_of_ble_eq_true rfl) rfl dX2_layOn_48 ?_
        refine pm_iinc (pc := 51) 3 (v2 + (1 : Int32)) [(2, .int (v2 + (1 : Int32))), (3, .int x7), (0, .ref v0), (1, .int v1)] dX2_layOn_51 rfl rfl (by decide) rfl ?_
        refine pm_goto (pc := 54) 21 dX2_layOn_54 (by decide) ?_
        refine pm_lv [(0, .ref v0), (1, .int v1), (2, .int (v2 + (1 : Int32)))] [2, 3, 0] rfl ?_
        exact ih (v2 + (1 : Int32)) u10 hf
def fX2_layOn (S : pm_S) (a0 : Nat) (a1 : Int32) (σ : pm_H) : Option (pm_H) :=
  Option.bind (fJ7_fill_53178 S (σ.2 a0 0) (-1 : Int32) σ) fun u2 => pm_let (pm_si u2 a0 2 (0 : Int32)) fun s3 => Option.bind (fX2_reach S a0 (0 : Int32) (0 : Int32) s3) fun u4 => fX2_layOn_L21 S a0 a1 (fun s13 => some s13) pm_fuel (0 : Int32) u4
set_option maxRecDepth 100000 in
set_option maxHeartbeats 4000000 in
theorem KX2_layOn (l : Launch) {S : pm_S} {p : pm_H} {a0 : Nat} {a1 : Int32} {σ : pm_H} (h0 : pm_is S a0 5) (hf : fX2_layOn S a0 a1 σ = some p) : pm_M l yX2_layOn cX2_layOn 4 none false 3 [.ref a0, .int a1] S σ (pm_ru S p) := by
  refine pm_M.of (by decide +kernel) (Nat.le_of_ble_eq_true rfl) ?_
  show pm_E l yX2_layOn cX2_layOn 4 none false 3 S (pm_ru S p) 0 [(0, .ref a0), (1, .int a1)] [] S σ
  rw [fX2_layOn] at hf
  refine pm_aload_n (pc := 0) 0 dX2_layOn_0 rfl rfl h0.pos ?_
  refine pm_getT (pc := 1) (k := 0) pm_cl2 flX2_9 (by decide) rfl h0 dX2_layOn_1 (fun hr1 => ?_)
  refine pm_iconst (pc := 4) (-1 : Int32) (by decide) dX2_layOn_4 ?_
  obtain ⟨u2, hu2, hf⟩ := pm_bind_e hf
  refine pm_cSu (pc := 5) (as := [.ref (σ.2 a0 0), .int (-1 : Int32)]) (st := []) msX2_33 (KJ7_fill_53178 l hr1 hu2) (by decide) rfl rfl (Nat.le_of_ble_eq_true rfl) rfl dX2_layOn_5 ?_
  refine pm_aload_n (pc := 8) 0 dX2_layOn_8 rfl rfl h0.pos ?_
  refine pm_iconst (pc := 9) (0 : Int32) (by decide) dX2_layOn_9 ?_
  refine pm_putI (pc := 10) (k := 2) pm_cl2 flX2_39 (by decide) rfl rfl rfl h0 dX2_layOn_10 ?_
  obtain ⟨s3, es3, hf⟩ := pm_let_e hf
  refine pm_nmh es3 ?_
  refine pm_aload_n (pc := 13) 0 dX2_layOn_13 rfl rfl h0.pos ?_
  refine pm_iconst (pc := 14) (0 : Int32) (by decide) dX2_layOn_14 ?_
  refine pm_iconst (pc := 15) (0 : Int32) (by decide) dX2_layOn_15 ?_
  obtain ⟨u4, hu4, hf⟩ := pm_bind_e hf
  refine pm_cVu (pc := 16) (as := [.int (0 : Int32), .int (0 : Int32)]) (st := []) mvX2_42 (KX2_reach l h0 hu4) (by decide) h0 rfl rfl (Nat.le_of_ble_eq_true rfl) rfl dX2_layOn_16 ?_
  refine pm_iconst (pc := 19) (0 : Int32) (by decide) dX2_layOn_19 ?_
  refine pm_istore_n (pc := 20) [(2, .int (0 : Int32)), (0, .ref a0), (1, .int a1)] dX2_layOn_20 rfl (by decide) rfl ?_
  refine pm_lv [(0, .ref a0), (1, .int a1), (2, .int (0 : Int32))] [1, 2, 0] rfl ?_
  refine fX2_layOn_L21_E l h0 (fun s13 hf => ?_) pm_fuel (0 : Int32) u4 hf
  exact pm_vret rfl dX2_layOn_57 (pm_ru_e hf)
def fX6_copyFrom (S : pm_S) (a0 : Nat) (a1 : Nat) (σ : pm_H) : Option (pm_H) :=
  pm_let (pm_si σ a0 0 (σ.1 a1 0)) fun s1 => pm_let (pm_si s1 a0 1 (s1.1 a1 1)) fun s2 => (if pm_zb (s2.1 a1 2) = true then pm_let (pm_si s2 a0 2 (s2.1 a1 2)) fun s4 => pm_let (pm_si s4 a0 3 (s4.1 a1 3)) fun s5 => some s5 else none)
set_option maxRecDepth 100000 in
set_option maxHeartbeats 4000000 in
theorem KX6_copyFrom (l : Launch) {S : pm_S} {p : pm_H} {a0 : Nat} {a1 : Nat} {σ : pm_H} (h0 : pm_is S a0 9) (h1 : pm_is S a1 9) (hf : fX6_copyFrom S a0 a1 σ = some p) : pm_M l yX6_copyFrom cX6_copyFrom 2 none false 0 [.ref a0, .ref a1] S σ (pm_ru S p) := by
  refine pm_M.of (by decide +kernel) (Nat.le_of_ble_eq_true rfl) ?_
  show pm_E l yX6_copyFrom cX6_copyFrom 2 none false 0 S (pm_ru S p) 0 [(0, .ref a0), (1, .ref a1)] [] S σ
  rw [fX6_copyFrom] at hf
  refine pm_aload_n (pc := 0) 0 dX6_copyFrom_0 rfl rfl h0.pos ?_
  refine pm_aload_n (pc := 1) 1 dX6_copyFrom_1 rfl rfl h1.pos ?_
  refine pm_getI (pc := 2) (k := 0) pm_cl6 flX6_9 (by decide) rfl h1 dX6_copyFrom_2 ?_
  refine pm_putI (pc := 5) (k := 0) pm_cl6 flX6_9 (by decide) rfl rfl rfl h0 dX6_copyFrom_5 ?_
  obtain ⟨s1, es1, hf⟩ := pm_let_e hf
  refine pm_nmh es1 ?_
  refine pm_aload_n (pc := 8) 0 dX6_copyFrom_8 rfl rfl h0.pos ?_
  refine pm_aload_n (pc := 9) 1 dX6_copyFrom_9 rfl rfl h1.pos ?_
  refine pm_getI (pc := 10) (k := 1) pm_cl6 flX6_15 (by decide) rfl h1 dX6_copyFrom_10 ?_
  refine pm_putI (pc := 13) (k := 1) pm_cl6 flX6_15 (by decide) rfl rfl rfl h0 dX6_copyFrom_13 ?_
  obtain ⟨s2, es2, hf⟩ := pm_let_e hf
  refine pm_nmh es2 ?_
  refine pm_aload_n (pc := 16) 0 dX6_copyFrom_16 rfl rfl h0.pos ?_
  refine pm_aload_n (pc := 17) 1 dX6_copyFrom_17 rfl rfl h1.pos ?_
  refine pm_getI (pc := 18) (k := 2) pm_cl6 flX6_18 (by decide) rfl h1 dX6_copyFrom_18 ?_
  obtain ⟨hz3, hf⟩ := pm_gd hf
  refine pm_putZ (pc := 21) (k := 2) pm_cl6 flX6_18 (by decide) rfl rfl rfl h0 (pm_zb_or hz3) dX6_copyFrom_21 ?_
  obtain ⟨s4, es4, hf⟩ := pm_let_e hf
  refine pm_nmh es4 ?_
  refine pm_aload_n (pc := 24) 0 dX6_copyFrom_24 rfl rfl h0.pos ?_
  refine pm_aload_n (pc := 25) 1 dX6_copyFrom_25 rfl rfl h1.pos ?_
  refine pm_getI (pc := 26) (k := 3) pm_cl6 flX6_22 (by decide) rfl h1 dX6_copyFrom_26 ?_
  refine pm_putI (pc := 29) (k := 3) pm_cl6 flX6_22 (by decide) rfl rfl rfl h0 dX6_copyFrom_29 ?_
  obtain ⟨s5, es5, hf⟩ := pm_let_e hf
  refine pm_nmh es5 ?_
  exact pm_vret rfl dX6_copyFrom_32 (pm_ru_e hf)
def fX10_copyFrom (S : pm_S) (a0 : Nat) (a1 : Nat) (σ : pm_H) : Option (pm_H) :=
  pm_let (pm_si σ a0 4 (σ.1 a1 4)) fun s1 => (if pm_cb (0 : Int32) (0 : Int32) (20 : Int32) (pm_len S (s1.2 a1 0)) (pm_len S (s1.2 a0 0)) = true then pm_let (pm_sa s1 (s1.2 a0 0) (va_cpy (s1.1 (s1.2 a1 0)) (s1.1 (s1.2 a0 0)) ((0 : Int32)).toNatClampNeg ((0 : Int32)).toNatClampNeg ((20 : Int32)).toNatClampNeg)) fun s5 => (if pm_cb (0 : Int32) (0 : Int32) (20 : Int32) (pm_len S (s5.2 a1 1)) (pm_len S (s5.2 a0 1)) = true then pm_let (pm_sa s5 (s5.2 a0 1) (va_cpy (s5.1 (s5.2 a1 1)) (s5.1 (s5.2 a0 1)) ((0 : Int32)).toNatClampNeg ((0 : Int32)).toNatClampNeg ((20 : Int32)).toNatClampNeg)) fun s9 => (if pm_cb (0 : Int32) (0 : Int32) (20 : Int32) (pm_len S (s9.2 a1 2)) (pm_len S (s9.2 a0 2)) = true then pm_let (pm_sa s9 (s9.2 a0 2) (va_cpy (s9.1 (s9.2 a1 2)) (s9.1 (s9.2 a0 2)) ((0 : Int32)).toNatClampNeg ((0 : Int32)).toNatClampNeg ((20 : Int32)).toNatClampNeg)) fun s13 => (if pm_cb (0 : Int32) (0 : Int32) (20 : Int32) (pm_len S (s13.2 a1 3)) (pm_len S (s13.2 a0 3)) = true then pm_let (pm_sa s13 (s13.2 a0 3) (va_cpy (s13.1 (s13.2 a1 3)) (s13.1 (s13.2 a0 3)) ((0 : Int32)).toNatClampNeg ((0 : Int32)).toNatClampNeg ((20 : Int32)).toNatClampNeg)) fun s17 => some s17 else none) else none) else none) else none)
set_option maxRecDepth 100000 in
set_option maxHeartbeats 4000000 in
theorem KX10_copyFrom (l : Launch) {S : pm_S} {p : pm_H} {a0 : Nat} {a1 : Nat} {σ : pm_H} (h0 : pm_is S a0 13) (h1 : pm_is S a1 13) (hf : fX10_copyFrom S a0 a1 σ = some p) : pm_M l yX10_copyFrom cX10_copyFrom 2 none false 1 [.ref a0, .ref a1] S σ (pm_ru S p) := by
  refine pm_M.of (by decide +kernel) (Nat.le_of_ble_eq_true rfl) ?_
  show pm_E l yX10_copyFrom cX10_copyFrom 2 none false 1 S (pm_ru S p) 0 [(0, .ref a0), (1, .ref a1)] [] S σ
  rw [fX10_copyFrom] at hf
  refine pm_aload_n (pc := 0) 0 dX10_copyFrom_0 rfl rfl h0.pos ?_
  refine pm_aload_n (pc := 1) 1 dX10_copyFrom_1 rfl rfl h1.pos ?_
  refine pm_getI (pc := 2) (k := 4) pm_cl10 flX10_24 (by decide) rfl h1 dX10_copyFrom_2 ?_
  refine pm_putI (pc := 5) (k := 4) pm_cl10 flX10_24 (by decide) rfl rfl rfl h0 dX10_copyFrom_5 ?_
  obtain ⟨s1, es1, hf⟩ := pm_let_e hf
  refine pm_nmh es1 ?_
  refine pm_aload_n (pc := 8) 1 dX10_copyFrom_8 rfl rfl h1.pos ?_
  refine pm_getT (pc := 9) (k := 0) pm_cl10 flX10_9 (by decide) rfl h1 dX10_copyFrom_9 (fun hr2 => ?_)
  refine pm_iconst (pc := 12) (0 : Int32) (by decide) dX10_copyFrom_12 ?_
  refine pm_aload_n (pc := 13) 0 dX10_copyFrom_13 rfl rfl h0.pos ?_
  refine pm_getT (pc := 14) (k := 0) pm_cl10 flX10_9 (by decide) rfl h0 dX10_copyFrom_14 (fun hr3 => ?_)
  refine pm_iconst (pc := 17) (0 : Int32) (by decide) dX10_copyFrom_17 ?_
  refine pm_bipush (pc := 18) (20 : Int32) (by decide) dX10_copyFrom_18 ?_
  obtain ⟨hb4, hf⟩ := pm_gd hf
  refine pm_copy (pc := 20) cpX10_28 hr2 hr3 (pm_cb_e hb4).1 (pm_cb_e hb4).2.1 (pm_cb_e hb4).2.2.1 (pm_cb_e hb4).2.2.2.1 (pm_cb_e hb4).2.2.2.2 (Nat.le_of_ble_eq_true rfl) (by decide) dX10_copyFrom_20 ?_
  obtain ⟨s5, es5, hf⟩ := pm_let_e hf
  refine pm_nmh es5 ?_
  refine pm_aload_n (pc := 23) 1 dX10_copyFrom_23 rfl rfl h1.pos ?_
  refine pm_getT (pc := 24) (k := 1) pm_cl10 flX10_15 (by decide) rfl h1 dX10_copyFrom_24 (fun hr6 => ?_)
  refine pm_iconst (pc := 27) (0 : Int32) (by decide) dX10_copyFrom_27 ?_
  refine pm_aload_n (pc := 28) 0 dX10_copyFrom_28 rfl rfl h0.pos ?_
  refine pm_getT (pc := 29) (k := 1) pm_cl10 flX10_15 (by decide) rfl h0 dX10_copyFrom_29 (fun hr7 => ?_)
  refine pm_iconst (pc := 32) (0 : Int32) (by decide) dX10_copyFrom_32 ?_
  refine pm_bipush (pc := 33) (20 : Int32) (by decide) dX10_copyFrom_33 ?_
  obtain ⟨hb8, hf⟩ := pm_gd hf
  refine pm_copy (pc := 35) cpX10_28 hr6 hr7 (pm_cb_e hb8).1 (pm_cb_e hb8).2.1 (pm_cb_e hb8).2.2.1 (pm_cb_e hb8).2.2.2.1 (pm_cb_e hb8).2.2.2.2 (Nat.le_of_ble_eq_true rfl) (by decide) dX10_copyFrom_35 ?_
  obtain ⟨s9, es9, hf⟩ := pm_let_e hf
  refine pm_nmh es9 ?_
  refine pm_aload_n (pc := 38) 1 dX10_copyFrom_38 rfl rfl h1.pos ?_
  refine pm_getT (pc := 39) (k := 2) pm_cl10 flX10_18 (by decide) rfl h1 dX10_copyFrom_39 (fun hr10 => ?_)
  refine pm_iconst (pc := 42) (0 : Int32) (by decide) dX10_copyFrom_42 ?_
  refine pm_aload_n (pc := 43) 0 dX10_copyFrom_43 rfl rfl h0.pos ?_
  refine pm_getT (pc := 44) (k := 2) pm_cl10 flX10_18 (by decide) rfl h0 dX10_copyFrom_44 (fun hr11 => ?_)
  refine pm_iconst (pc := 47) (0 : Int32) (by decide) dX10_copyFrom_47 ?_
  refine pm_bipush (pc := 48) (20 : Int32) (by decide) dX10_copyFrom_48 ?_
  obtain ⟨hb12, hf⟩ := pm_gd hf
  refine pm_copy (pc := 50) cpX10_28 hr10 hr11 (pm_cb_e hb12).1 (pm_cb_e hb12).2.1 (pm_cb_e hb12).2.2.1 (pm_cb_e hb12).2.2.2.1 (pm_cb_e hb12).2.2.2.2 (Nat.le_of_ble_eq_true rfl) (by decide) dX10_copyFrom_50 ?_
  obtain ⟨s13, es13, hf⟩ := pm_let_e hf
  refine pm_nmh es13 ?_
  refine pm_aload_n (pc := 53) 1 dX10_copyFrom_53 rfl rfl h1.pos ?_
  refine pm_getT (pc := 54) (k := 3) pm_cl10 flX10_21 (by decide) rfl h1 dX10_copyFrom_54 (fun hr14 => ?_)
  refine pm_iconst (pc := 57) (0 : Int32) (by decide) dX10_copyFrom_57 ?_
  refine pm_aload_n (pc := 58) 0 dX10_copyFrom_58 rfl rfl h0.pos ?_
  refine pm_getT (pc := 59) (k := 3) pm_cl10 flX10_21 (by decide) rfl h0 dX10_copyFrom_59 (fun hr15 => ?_)
  refine pm_iconst (pc := 62) (0 : Int32) (by decide) dX10_copyFrom_62 ?_
  refine pm_bipush (pc := 63) (20 : Int32) (by decide) dX10_copyFrom_63 ?_
  obtain ⟨hb16, hf⟩ := pm_gd hf
  refine pm_copy (pc := 65) cpX10_28 hr14 hr15 (pm_cb_e hb16).1 (pm_cb_e hb16).2.1 (pm_cb_e hb16).2.2.1 (pm_cb_e hb16).2.2.2.1 (pm_cb_e hb16).2.2.2.2 (Nat.le_of_ble_eq_true rfl) (by decide) dX10_copyFrom_65 ?_
  obtain ⟨s17, es17, hf⟩ := pm_let_e hf
  refine pm_nmh es17 ?_
  exact pm_vret rfl dX10_copyFrom_68 (pm_ru_e hf)
def fX8_copyFrom (S : pm_S) (a0 : Nat) (a1 : Nat) (σ : pm_H) : Option (pm_H) :=
  Option.bind (fX6_copyFrom S (σ.2 a0 0) (σ.2 a1 0) σ) fun u3 => Option.bind (fX10_copyFrom S (u3.2 a0 1) (u3.2 a1 1) u3) fun u6 => Option.bind (fX1_copyFrom S (u6.2 a0 2) (u6.2 a1 2) u6) fun u9 => (if pm_cb (0 : Int32) (0 : Int32) (6 : Int32) (pm_len S (u9.2 a1 3)) (pm_len S (u9.2 a0 3)) = true then pm_let (pm_sa u9 (u9.2 a0 3) (va_cpy (u9.1 (u9.2 a1 3)) (u9.1 (u9.2 a0 3)) ((0 : Int32)).toNatClampNeg ((0 : Int32)).toNatClampNeg ((6 : Int32)).toNatClampNeg)) fun s13 => some s13 else none)
set_option maxRecDepth 100000 in
set_option maxHeartbeats 4000000 in
theorem KX8_copyFrom (l : Launch) {S : pm_S} {p : pm_H} {a0 : Nat} {a1 : Nat} {σ : pm_H} (h0 : pm_is S a0 11) (h1 : pm_is S a1 11) (hf : fX8_copyFrom S a0 a1 σ = some p) : pm_M l yX8_copyFrom cX8_copyFrom 2 none false 2 [.ref a0, .ref a1] S σ (pm_ru S p) := by
  refine pm_M.of (by decide +kernel) (Nat.le_of_ble_eq_true rfl) ?_
  show pm_E l yX8_copyFrom cX8_copyFrom 2 none false 2 S (pm_ru S p) 0 [(0, .ref a0), (1, .ref a1)] [] S σ
  rw [fX8_copyFrom] at hf
  refine pm_aload_n (pc := 0) 0 dX8_copyFrom_0 rfl rfl h0.pos ?_
  refine pm_getT (pc := 1) (k := 0) pm_cl8 flX8_12 (by decide) rfl h0 dX8_copyFrom_1 (fun hr1 => ?_)
  refine pm_aload_n (pc := 4) 1 dX8_copyFrom_4 rfl rfl h1.pos ?_
  refine pm_getT (pc := 5) (k := 0) pm_cl8 flX8_12 (by decide) rfl h1 dX8_copyFrom_5 (fun hr2 => ?_)
  obtain ⟨u3, hu3, hf⟩ := pm_bind_e hf
  refine pm_cVu (pc := 8) (as := [.ref (σ.2 a1 0)]) (st := []) mvX8_36 (KX6_copyFrom l hr1 hr2 hu3) (by decide) hr1 rfl rfl (Nat.le_of_ble_eq_true rfl) rfl dX8_copyFrom_8 ?_
  refine pm_aload_n (pc := 11) 0 dX8_copyFrom_11 rfl rfl h0.pos ?_
  refine pm_getT (pc := 12) (k := 1) pm_cl8 flX8_21 (by decide) rfl h0 dX8_copyFrom_12 (fun hr4 => ?_)
  refine pm_aload_n (pc := 15) 1 dX8_copyFrom_15 rfl rfl h1.pos ?_
  refine pm_getT (pc := 16) (k := 1) pm_cl8 flX8_21 (by decide) rfl h1 dX8_copyFrom_16 (fun hr5 => ?_)
  obtain ⟨u6, hu6, hf⟩ := pm_bind_e hf
  refine pm_cVu (pc := 19) (as := [.ref (u3.2 a1 1)]) (st := []) mvX8_40 (KX10_copyFrom l hr4 hr5 hu6) (by decide) hr4 rfl rfl (Nat.le_of_ble_eq_true rfl) rfl dX8_copyFrom_19 ?_
  refine pm_aload_n (pc := 22) 0 dX8_copyFrom_22 rfl rfl h0.pos ?_
  refine pm_getT (pc := 23) (k := 2) pm_cl8 flX8_28 (by decide) rfl h0 dX8_copyFrom_23 (fun hr7 => ?_)
  refine pm_aload_n (pc := 26) 1 dX8_copyFrom_26 rfl rfl h1.pos ?_
  refine pm_getT (pc := 27) (k := 2) pm_cl8 flX8_28 (by decide) rfl h1 dX8_copyFrom_27 (fun hr8 => ?_)
  obtain ⟨u9, hu9, hf⟩ := pm_bind_e hf
  refine pm_cVu (pc := 30) (as := [.ref (u6.2 a1 2)]) (st := []) mvX8_43 (KX1_copyFrom l hr7 hr8 hu9) (by decide) hr7 rfl rfl (Nat.le_of_ble_eq_true rfl) rfl dX8_copyFrom_30 ?_
  refine pm_aload_n (pc := 33) 1 dX8_copyFrom_33 rfl rfl h1.pos ?_
  refine pm_getT (pc := 34) (k := 3) pm_cl8 flX8_32 (by decide) rfl h1 dX8_copyFrom_34 (fun hr10 => ?_)
  refine pm_iconst (pc := 37) (0 : Int32) (by decide) dX8_copyFrom_37 ?_
  refine pm_aload_n (pc := 38) 0 dX8_copyFrom_38 rfl rfl h0.pos ?_
  refine pm_getT (pc := 39) (k := 3) pm_cl8 flX8_32 (by decide) rfl h0 dX8_copyFrom_39 (fun hr11 => ?_)
  refine pm_iconst (pc := 42) (0 : Int32) (by decide) dX8_copyFrom_42 ?_
  refine pm_bipush (pc := 43) (6 : Int32) (by decide) dX8_copyFrom_43 ?_
  obtain ⟨hb12, hf⟩ := pm_gd hf
  refine pm_copy (pc := 45) cpX8_46 hr10 hr11 (pm_cb_e hb12).1 (pm_cb_e hb12).2.1 (pm_cb_e hb12).2.2.1 (pm_cb_e hb12).2.2.2.1 (pm_cb_e hb12).2.2.2.2 (Nat.le_of_ble_eq_true rfl) (by decide) dX8_copyFrom_45 ?_
  obtain ⟨s13, es13, hf⟩ := pm_let_e hf
  refine pm_nmh es13 ?_
  exact pm_vret rfl dX8_copyFrom_48 (pm_ru_e hf)
def fX3_remember_J35 (S : pm_S) (v0 : Nat) (t0 : Int32) (t1 : Nat) (σ : pm_H) : Option (pm_H) :=
  pm_let (pm_si σ t1 1 t0) fun s5 => pm_let (pm_si s5 v0 2 (pm_min (16 : Int32) ((s5.1 v0 2) + (1 : Int32)))) fun s6 => some s6
set_option maxRecDepth 100000 in
set_option maxHeartbeats 4000000 in
theorem fX3_remember_J35_E (l : Launch) {S : pm_S} {p : pm_H} {v0 : Nat} {t0 : Int32} {t1 : Nat} {σ : pm_H} (h0 : pm_is S v0 6) (g1 : pm_is S t1 6) (hf : fX3_remember_J35 S v0 t0 t1 σ = some p) : pm_E l yX3_remember cX3_remember 2 none false 3 S (pm_ru S p) 35 [(0, .ref v0)] [.int t0, .ref t1] S σ := by
  rw [fX3_remember_J35] at hf
  refine pm_putI (pc := 35) (k := 1) pm_cl3 flX3_18 (by decide) rfl rfl rfl g1 dX3_remember_35 ?_
  obtain ⟨s5, es5, hf⟩ := pm_let_e hf
  refine pm_nmh es5 ?_
  refine pm_aload_n (pc := 38) 0 dX3_remember_38 rfl rfl h0.pos ?_
  refine pm_bipush (pc := 39) (16 : Int32) (by decide) dX3_remember_39 ?_
  refine pm_aload_n (pc := 41) 0 dX3_remember_41 rfl rfl h0.pos ?_
  refine pm_getI (pc := 42) (k := 2) pm_cl3 flX3_26 (by decide) rfl h0 dX3_remember_42 ?_
  refine pm_iconst (pc := 45) (1 : Int32) (by decide) dX3_remember_45 ?_
  refine pm_iadd (pc := 46) dX3_remember_46 ?_
  refine pm_mmin (pc := 47) (st := [.ref v0]) mmX3_29 (Nat.le_of_ble_eq_true rfl) (by decide) rfl dX3_remember_47 ?_
  refine pm_putI (pc := 50) (k := 2) pm_cl3 flX3_26 (by decide) rfl rfl rfl h0 dX3_remember_50 ?_
  obtain ⟨s6, es6, hf⟩ := pm_let_e hf
  refine pm_nmh es6 ?_
  exact pm_vret rfl dX3_remember_53 (pm_ru_e hf)
def fX3_remember (S : pm_S) (a0 : Nat) (a1 : Nat) (σ : pm_H) : Option (pm_H) :=
  (if pm_ib (σ.1 a0 1) (pm_len S (σ.2 a0 0)) = true then Option.bind (fX8_copyFrom S (σ.2 (σ.2 a0 0) ((σ.1 a0 1)).toNatClampNeg) a1 σ) fun u4 => (if (16 : Int32) ≤ ((u4.1 a0 1) + (1 : Int32)) then fX3_remember_J35 S a0 (0 : Int32) a0 u4 else fX3_remember_J35 S a0 ((u4.1 a0 1) + (1 : Int32)) a0 u4) else none)
set_option maxRecDepth 100000 in
set_option maxHeartbeats 4000000 in
theorem KX3_remember (l : Launch) {S : pm_S} {p : pm_H} {a0 : Nat} {a1 : Nat} {σ : pm_H} (h0 : pm_is S a0 6) (h1 : pm_is S a1 11) (hf : fX3_remember S a0 a1 σ = some p) : pm_M l yX3_remember cX3_remember 2 none false 3 [.ref a0, .ref a1] S σ (pm_ru S p) := by
  refine pm_M.of (by decide +kernel) (Nat.le_of_ble_eq_true rfl) ?_
  show pm_E l yX3_remember cX3_remember 2 none false 3 S (pm_ru S p) 0 [(0, .ref a0), (1, .ref a1)] [] S σ
  rw [fX3_remember] at hf
  refine pm_aload_n (pc := 0) 0 dX3_remember_0 rfl rfl h0.pos ?_
  refine pm_getT (pc := 1) (k := 0) pm_cl3 flX3_11 (by decide) rfl h0 dX3_remember_1 (fun hr1 => ?_)
  refine pm_aload_n (pc := 4) 0 dX3_remember_4 rfl rfl h0.pos ?_
  refine pm_getI (pc := 5) (k := 1) pm_cl3 flX3_18 (by decide) rfl h0 dX3_remember_5 ?_
  obtain ⟨hb2, hf⟩ := pm_gd hf
  refine pm_aald (pc := 8) hr1 (pm_ib_in hb2) dX3_remember_8 (fun hr3 => ?_)
  refine pm_aload_n (pc := 9) 1 dX3_remember_9 rfl rfl h1.pos ?_
  obtain ⟨u4, hu4, hf⟩ := pm_bind_e hf
  refine pm_cVu (pc := 10) (as := [.ref a1]) (st := []) mvX3_22 (KX8_copyFrom l hr3 h1 hu4) (by decide) hr3 rfl rfl (Nat.le_of_ble_eq_true rfl) rfl dX3_remember_10 ?_
  refine pm_aload_n (pc := 13) 0 dX3_remember_13 rfl rfl h0.pos ?_
  refine pm_aload_n (pc := 14) 0 dX3_remember_14 rfl rfl h0.pos ?_
  refine pm_getI (pc := 15) (k := 1) pm_cl3 flX3_18 (by decide) rfl h0 dX3_remember_15 ?_
  refine pm_iconst (pc := 18) (1 : Int32) (by decide) dX3_remember_18 ?_
  refine pm_iadd (pc := 19) dX3_remember_19 ?_
  refine pm_bipush (pc := 20) (16 : Int32) (by decide) dX3_remember_20 ?_
  refine pm_icmp_ge (pc := 22) 34 dX3_remember_22 (by decide) (fun hc7 => ?_) (fun hc7 => ?_)
  · rw [if_pos hc7] at hf
    refine pm_iconst (pc := 34) (0 : Int32) (by decide) dX3_remember_34 ?_
    refine pm_lv [(0, .ref a0)] [0] rfl ?_
    exact fX3_remember_J35_E l h0 h0 hf
  · rw [if_neg hc7] at hf
    refine pm_aload_n (pc := 25) 0 dX3_remember_25 rfl rfl h0.pos ?_
    refine pm_getI (pc := 26) (k := 1) pm_cl3 flX3_18 (by decide) rfl h0 dX3_remember_26 ?_
    refine pm_iconst (pc := 29) (1 : Int32) (by decide) dX3_remember_29 ?_
    refine pm_iadd (pc := 30) dX3_remember_30 ?_
    refine pm_goto (pc := 31) 35 dX3_remember_31 (by decide) ?_
    refine pm_lv [(0, .ref a0)] [0] rfl ?_
    exact fX3_remember_J35_E l h0 h0 hf
def fX3_bringBack_J26 (S : pm_S) (v0 : Nat) (v1 : Nat) (t0 : Int32) (t1 : Nat) (σ : pm_H) : Option (pm_H) :=
  pm_let (pm_si σ t1 1 t0) fun s1 => (if pm_ib (s1.1 v0 1) (pm_len S (s1.2 v0 0)) = true then Option.bind (fX8_copyFrom S v1 (s1.2 (s1.2 v0 0) ((s1.1 v0 1)).toNatClampNeg) s1) fun u5 => pm_let (pm_si u5 v0 2 ((u5.1 v0 2) - (1 : Int32))) fun s6 => some s6 else none)
set_option maxRecDepth 100000 in
set_option maxHeartbeats 4000000 in
theorem fX3_bringBack_J26_E (l : Launch) {S : pm_S} {p : pm_H} {v0 : Nat} {v1 : Nat} {t0 : Int32} {t1 : Nat} {σ : pm_H} (h0 : pm_is S v0 6) (h1 : pm_is S v1 11) (g1 : pm_is S t1 6) (hf : fX3_bringBack_J26 S v0 v1 t0 t1 σ = some p) : pm_E l yX3_bringBack cX3_bringBack 2 none false 3 S (pm_ru S p) 26 [(0, .ref v0), (1, .ref v1)] [.int t0, .ref t1] S σ := by
  rw [fX3_bringBack_J26] at hf
  refine pm_putI (pc := 26) (k := 1) pm_cl3 flX3_18 (by decide) rfl rfl rfl g1 dX3_bringBack_26 ?_
  obtain ⟨s1, es1, hf⟩ := pm_let_e hf
  refine pm_nmh es1 ?_
  refine pm_aload_n (pc := 29) 1 dX3_bringBack_29 rfl rfl h1.pos ?_
  refine pm_aload_n (pc := 30) 0 dX3_bringBack_30 rfl rfl h0.pos ?_
  refine pm_getT (pc := 31) (k := 0) pm_cl3 flX3_11 (by decide) rfl h0 dX3_bringBack_31 (fun hr2 => ?_)
  refine pm_aload_n (pc := 34) 0 dX3_bringBack_34 rfl rfl h0.pos ?_
  refine pm_getI (pc := 35) (k := 1) pm_cl3 flX3_18 (by decide) rfl h0 dX3_bringBack_35 ?_
  obtain ⟨hb3, hf⟩ := pm_gd hf
  refine pm_aald (pc := 38) hr2 (pm_ib_in hb3) dX3_bringBack_38 (fun hr4 => ?_)
  obtain ⟨u5, hu5, hf⟩ := pm_bind_e hf
  refine pm_cVu (pc := 39) (as := [.ref (s1.2 (s1.2 v0 0) ((s1.1 v0 1)).toNatClampNeg)]) (st := []) mvX3_22 (KX8_copyFrom l h1 hr4 hu5) (by decide) h1 rfl rfl (Nat.le_of_ble_eq_true rfl) rfl dX3_bringBack_39 ?_
  refine pm_aload_n (pc := 42) 0 dX3_bringBack_42 rfl rfl h0.pos ?_
  refine pm_dup (pc := 43) rfl dX3_bringBack_43 ?_
  refine pm_getI (pc := 44) (k := 2) pm_cl3 flX3_26 (by decide) rfl h0 dX3_bringBack_44 ?_
  refine pm_iconst (pc := 47) (1 : Int32) (by decide) dX3_bringBack_47 ?_
  refine pm_isub (pc := 48) dX3_bringBack_48 ?_
  refine pm_putI (pc := 49) (k := 2) pm_cl3 flX3_26 (by decide) rfl rfl rfl h0 dX3_bringBack_49 ?_
  obtain ⟨s6, es6, hf⟩ := pm_let_e hf
  refine pm_nmh es6 ?_
  exact pm_vret rfl dX3_bringBack_52 (pm_ru_e hf)
def fX3_bringBack (S : pm_S) (a0 : Nat) (a1 : Nat) (σ : pm_H) : Option (pm_H) :=
  (if (σ.1 a0 2) ≤ 0 then some σ else (if (σ.1 a0 1) ≤ 0 then fX3_bringBack_J26 S a0 a1 (15 : Int32) a0 σ else fX3_bringBack_J26 S a0 a1 ((σ.1 a0 1) - (1 : Int32)) a0 σ))
set_option maxRecDepth 100000 in
set_option maxHeartbeats 4000000 in
theorem KX3_bringBack (l : Launch) {S : pm_S} {p : pm_H} {a0 : Nat} {a1 : Nat} {σ : pm_H} (h0 : pm_is S a0 6) (h1 : pm_is S a1 11) (hf : fX3_bringBack S a0 a1 σ = some p) : pm_M l yX3_bringBack cX3_bringBack 2 none false 3 [.ref a0, .ref a1] S σ (pm_ru S p) := by
  refine pm_M.of (by decide +kernel) (Nat.le_of_ble_eq_true rfl) ?_
  show pm_E l yX3_bringBack cX3_bringBack 2 none false 3 S (pm_ru S p) 0 [(0, .ref a0), (1, .ref a1)] [] S σ
  rw [fX3_bringBack] at hf
  refine pm_aload_n (pc := 0) 0 dX3_bringBack_0 rfl rfl h0.pos ?_
  refine pm_getI (pc := 1) (k := 2) pm_cl3 flX3_26 (by decide) rfl h0 dX3_bringBack_1 ?_
  refine pm_if_le (pc := 4) 52 dX3_bringBack_4 (by decide) (fun hc8 => ?_) (fun hc8 => ?_)
  · rw [if_pos hc8] at hf
    exact pm_vret rfl dX3_bringBack_52 (pm_ru_e hf)
  · rw [if_neg hc8] at hf
    refine pm_aload_n (pc := 7) 0 dX3_bringBack_7 rfl rfl h0.pos ?_
    refine pm_aload_n (pc := 8) 0 dX3_bringBack_8 rfl rfl h0.pos ?_
    refine pm_getI (pc := 9) (k := 1) pm_cl3 flX3_18 (by decide) rfl h0 dX3_bringBack_9 ?_
    refine pm_if_le (pc := 12) 24 dX3_bringBack_12 (by decide) (fun hc7 => ?_) (fun hc7 => ?_)
    · rw [if_pos hc7] at hf
      refine pm_bipush (pc := 24) (15 : Int32) (by decide) dX3_bringBack_24 ?_
      refine pm_lv [(0, .ref a0), (1, .ref a1)] [0, 1] rfl ?_
      exact fX3_bringBack_J26_E l h0 h1 h0 hf
    · rw [if_neg hc7] at hf
      refine pm_aload_n (pc := 15) 0 dX3_bringBack_15 rfl rfl h0.pos ?_
      refine pm_getI (pc := 16) (k := 1) pm_cl3 flX3_18 (by decide) rfl h0 dX3_bringBack_16 ?_
      refine pm_iconst (pc := 19) (1 : Int32) (by decide) dX3_bringBack_19 ?_
      refine pm_isub (pc := 20) dX3_bringBack_20 ?_
      refine pm_goto (pc := 21) 26 dX3_bringBack_21 (by decide) ?_
      refine pm_lv [(0, .ref a0), (1, .ref a1)] [0, 1] rfl ?_
      exact fX3_bringBack_J26_E l h0 h1 h0 hf
def fX3_forget (S : pm_S) (a0 : Nat) (σ : pm_H) : Option (pm_H) :=
  pm_let (pm_si σ a0 2 (0 : Int32)) fun s1 => some s1
set_option maxRecDepth 100000 in
set_option maxHeartbeats 4000000 in
theorem KX3_forget (l : Launch) {S : pm_S} {p : pm_H} {a0 : Nat} {σ : pm_H} (h0 : pm_is S a0 6) (hf : fX3_forget S a0 σ = some p) : pm_M l yX3_forget cX3_forget 1 none false 0 [.ref a0] S σ (pm_ru S p) := by
  refine pm_M.of (by decide +kernel) (Nat.le_of_ble_eq_true rfl) ?_
  show pm_E l yX3_forget cX3_forget 1 none false 0 S (pm_ru S p) 0 [(0, .ref a0)] [] S σ
  rw [fX3_forget] at hf
  refine pm_aload_n (pc := 0) 0 dX3_forget_0 rfl rfl h0.pos ?_
  refine pm_iconst (pc := 1) (0 : Int32) (by decide) dX3_forget_1 ?_
  refine pm_putI (pc := 2) (k := 2) pm_cl3 flX3_26 (by decide) rfl rfl rfl h0 dX3_forget_2 ?_
  obtain ⟨s1, es1, hf⟩ := pm_let_e hf
  refine pm_nmh es1 ?_
  exact pm_vret rfl dX3_forget_5 (pm_ru_e hf)
def fX6_tenthsOf (S : pm_S) (a0 : Nat) (a1 : Int32) (σ : pm_H) : Option (Int32 × pm_H) :=
  (if (1 : Int32) ≤ (σ.1 a0 0) then if (σ.1 a0 0) = 0 then none else some ((((10 : Int32) * a1) / (σ.1 a0 0)), σ) else some ((0 : Int32), σ))
set_option maxRecDepth 100000 in
set_option maxHeartbeats 4000000 in
theorem KX6_tenthsOf (l : Launch) {S : pm_S} {p : Int32 × pm_H} {a0 : Nat} {a1 : Int32} {σ : pm_H} (h0 : pm_is S a0 9) (hf : fX6_tenthsOf S a0 a1 σ = some p) : pm_M l yX6_tenthsOf cX6_tenthsOf 2 (some .int) false 0 [.ref a0, .int a1] S σ (pm_ri S p) := by
  refine pm_M.of (by decide +kernel) (Nat.le_of_ble_eq_true rfl) ?_
  show pm_E l yX6_tenthsOf cX6_tenthsOf 2 (some .int) false 0 S (pm_ri S p) 0 [(0, .ref a0), (1, .int a1)] [] S σ
  rw [fX6_tenthsOf] at hf
  refine pm_aload_n (pc := 0) 0 dX6_tenthsOf_0 rfl rfl h0.pos ?_
  refine pm_getI (pc := 1) (k := 0) pm_cl6 flX6_9 (by decide) rfl h0 dX6_tenthsOf_1 ?_
  refine pm_iconst (pc := 4) (1 : Int32) (by decide) dX6_tenthsOf_4 ?_
  refine pm_icmp_ge (pc := 5) 12 dX6_tenthsOf_5 (by decide) (fun hc2 => ?_) (fun hc2 => ?_)
  · rw [if_pos hc2] at hf
    refine pm_bipush (pc := 12) (10 : Int32) (by decide) dX6_tenthsOf_12 ?_
    refine pm_iload_n (pc := 14) 1 dX6_tenthsOf_14 rfl rfl ?_
    refine pm_imul (pc := 15) dX6_tenthsOf_15 ?_
    refine pm_aload_n (pc := 16) 0 dX6_tenthsOf_16 rfl rfl h0.pos ?_
    refine pm_getI (pc := 17) (k := 0) pm_cl6 flX6_9 (by decide) rfl h0 dX6_tenthsOf_17 ?_
    obtain ⟨hz1, hf⟩ := pm_gz hf
    refine pm_idiv (pc := 20) hz1 dX6_tenthsOf_20 ?_
    exact pm_iret rfl dX6_tenthsOf_21 (pm_ri_e hf)
  · rw [if_neg hc2] at hf
    refine pm_iconst (pc := 8) (0 : Int32) (by decide) dX6_tenthsOf_8 ?_
    refine pm_goto (pc := 9) 21 dX6_tenthsOf_9 (by decide) ?_
    exact pm_iret rfl dX6_tenthsOf_21 (pm_ri_e hf)
def fX9_asksFor (S : pm_S) (a0 : Nat) (a1 : Int32) (a2 : Int32) (σ : pm_H) : Option (Int32 × pm_H) :=
  (if pm_ib a1 (pm_len S (σ.2 a0 4)) = true then (if a2 < (σ.1 (σ.2 a0 4) (a1).toNatClampNeg) then some ((0 : Int32), σ) else (if pm_ib a1 (pm_len S (σ.2 a0 5)) = true then (if (σ.1 (σ.2 a0 5) (a1).toNatClampNeg) < a2 then some ((0 : Int32), σ) else some ((1 : Int32), σ)) else none)) else none)
set_option maxRecDepth 100000 in
set_option maxHeartbeats 4000000 in
theorem KX9_asksFor (l : Launch) {S : pm_S} {p : Int32 × pm_H} {a0 : Nat} {a1 : Int32} {a2 : Int32} {σ : pm_H} (h0 : pm_is S a0 12) (hf : fX9_asksFor S a0 a1 a2 σ = some p) : pm_M l yX9_asksFor cX9_asksFor 3 (some .boolean) false 0 [.ref a0, .int a1, .int a2] S σ (pm_ri S p) := by
  refine pm_M.of (by decide +kernel) (Nat.le_of_ble_eq_true rfl) ?_
  show pm_E l yX9_asksFor cX9_asksFor 3 (some .boolean) false 0 S (pm_ri S p) 0 [(0, .ref a0), (1, .int a1), (2, .int a2)] [] S σ
  rw [fX9_asksFor] at hf
  refine pm_iload_n (pc := 0) 2 dX9_asksFor_0 rfl rfl ?_
  refine pm_aload_n (pc := 1) 0 dX9_asksFor_1 rfl rfl h0.pos ?_
  refine pm_getT (pc := 2) (k := 4) pm_cl9 flX9_15 (by decide) rfl h0 dX9_asksFor_2 (fun hr1 => ?_)
  refine pm_iload_n (pc := 5) 1 dX9_asksFor_5 rfl rfl ?_
  obtain ⟨hb2, hf⟩ := pm_gd hf
  refine pm_iald (pc := 6) hr1 (pm_ib_in hb2) dX9_asksFor_6 ?_
  refine pm_icmp_lt (pc := 7) 24 dX9_asksFor_7 (by decide) (fun hc6 => ?_) (fun hc6 => ?_)
  · rw [if_pos hc6] at hf
    refine pm_iconst (pc := 24) (0 : Int32) (by decide) dX9_asksFor_24 ?_
    exact pm_zret rfl (by decide) dX9_asksFor_25 (pm_ri_e hf)
  · rw [if_neg hc6] at hf
    refine pm_iload_n (pc := 10) 2 dX9_asksFor_10 rfl rfl ?_
    refine pm_aload_n (pc := 11) 0 dX9_asksFor_11 rfl rfl h0.pos ?_
    refine pm_getT (pc := 12) (k := 5) pm_cl9 flX9_18 (by decide) rfl h0 dX9_asksFor_12 (fun hr3 => ?_)
    refine pm_iload_n (pc := 15) 1 dX9_asksFor_15 rfl rfl ?_
    obtain ⟨hb4, hf⟩ := pm_gd hf
    refine pm_iald (pc := 16) hr3 (pm_ib_in hb4) dX9_asksFor_16 ?_
    refine pm_icmp_gt (pc := 17) 24 dX9_asksFor_17 (by decide) (fun hc5 => ?_) (fun hc5 => ?_)
    · rw [if_pos hc5] at hf
      refine pm_iconst (pc := 24) (0 : Int32) (by decide) dX9_asksFor_24 ?_
      exact pm_zret rfl (by decide) dX9_asksFor_25 (pm_ri_e hf)
    · rw [if_neg hc5] at hf
      refine pm_iconst (pc := 20) (1 : Int32) (by decide) dX9_asksFor_20 ?_
      refine pm_goto (pc := 21) 25 dX9_asksFor_21 (by decide) ?_
      exact pm_zret rfl (by decide) dX9_asksFor_25 (pm_ri_e hf)
def fX8_fitting_L5 (S : pm_S) (v0 : Nat) (v1 : Nat) (v2 : Int32) (kx : Int32 → pm_H → Option (Int32 × pm_H)) : Nat → Int32 → Int32 → pm_H → Option (Int32 × pm_H)
  | 0, _, _, _ => none
  | n + 1, v3, v4, σ => (if (σ.1 v1 8) ≤ v4 then kx v3 σ else (if pm_ib v4 (pm_len S (σ.2 v0 3)) = true then Option.bind (fX6_tenthsOf S (σ.2 v0 0) (σ.1 (σ.2 v0 3) (v4).toNatClampNeg) σ) fun u4 => Option.bind (fX9_asksFor S v1 v2 u4.1 u4.2) fun u5 => (if u5.1 = 0 then fX8_fitting_L5 S v0 v1 v2 kx n v3 (v4 + (1 : Int32)) u5.2 else pm_let (v3 ||| ((1 : Int32) <<< (v4 &&& 31))) fun x6 => fX8_fitting_L5 S v0 v1 v2 kx n x6 (v4 + (1 : Int32)) u5.2) else none))
set_option maxRecDepth 100000 in
set_option maxHeartbeats 4000000 in
theorem fX8_fitting_L5_E (l : Launch) {S : pm_S} {p : Int32 × pm_H} {v0 : Nat} {v1 : Nat} {v2 : Int32} {kx : Int32 → pm_H → Option (Int32 × pm_H)} (h0 : pm_is S v0 11) (h1 : pm_is S v1 12) (hkx : ∀ w3 sw, kx w3 sw = some p → pm_E l yX8_fitting cX8_fitting 5 (some .int) false 1 S (pm_ri S p) 49 [(3, .int w3)] [] S sw) : ∀ (n : Nat) (v3 : Int32) (v4 : Int32) (σ : pm_H), fX8_fitting_L5 S v0 v1 v2 kx n v3 v4 σ = some p → pm_E l yX8_fitting cX8_fitting 5 (some .int) false 1 S (pm_ri S p) 5 [(0, .ref v0), (1, .ref v1), (2, .int v2), (3, .int v3), (4, .int v4)] [] S σ := by
  intro n
  induction n with
  | zero => intro v3 v4 σ hf; cases hf
  | succ n ih =>
    intro v3 v4 σ hf
    rw [fX8_fitting_L5] at hf
    refine pm_iload (pc := 5) 4 dX8_fitting_5 rfl ?_
    refine pm_aload_n (pc := 7) 1 dX8_fitting_7 rfl rfl h1.pos ?_
    refine pm_getI (pc := 8) (k := 8) pm_cl9 flX8_82 (by decide) rfl h1 dX8_fitting_8 ?_
    refine pm_icmp_ge (pc := 11) 49 dX8_fitting_11 (by decide) (fun hc8 => ?_) (fun hc8 => ?_)
    · rw [if_pos hc8] at hf
      refine pm_lv [(3, .int v3)] [3] rfl ?_
      exact hkx v3 σ hf
    · rw [if_neg hc8] at hf
      refine pm_aload_n (pc := 14) 1 dX8_fitting_14 rfl rfl h1.pos ?_
      refine pm_iload_n (pc := 15) 2 dX8_fitting_15 rfl rfl ?_
      refine pm_aload_n (pc := 16) 0 dX8_fitting_16 rfl rfl h0.pos ?_
      refine pm_getT (pc := 17) (k := 0) pm_cl8 flX8_12 (by decide) rfl h0 dX8_fitting_17 (fun hr1 => ?_)
      refine pm_aload_n (pc := 20) 0 dX8_fitting_20 rfl rfl h0.pos ?_
      refine pm_getT (pc := 21) (k := 3) pm_cl8 flX8_32 (by decide) rfl h0 dX8_fitting_21 (fun hr2 => ?_)
      refine pm_iload (pc := 24) 4 dX8_fitting_24 rfl ?_
      obtain ⟨hb3, hf⟩ := pm_gd hf
      refine pm_iald (pc := 26) hr2 (pm_ib_in hb3) dX8_fitting_26 ?_
      obtain ⟨u4, hu4, hf⟩ := pm_bind_e hf
      refine pm_cVi (pc := 27) (as := [.int (σ.1 (σ.2 v0 3) (v4).toNatClampNeg)]) (st := [.int v2, .ref v1]) mvX8_85 (KX6_tenthsOf l hr1 hu4) (by decide) hr1 rfl rfl (Nat.le_of_ble_eq_true rfl) rfl dX8_fitting_27 ?_
      obtain ⟨u5, hu5, hf⟩ := pm_bind_e hf
      refine pm_cVi (pc := 30) (as := [.int v2, .int u4.1]) (st := []) mvX8_89 (KX9_asksFor l h1 hu5) (by decide) h1 rfl rfl (Nat.le_of_ble_eq_true rfl) rfl dX8_fitting_30 ?_
      refine pm_if_eq (pc := 33) 43 dX8_fitting_33 (by decide) (fun hc7 => ?_) (fun hc7 => ?_)
      · rw [if_pos hc7] at hf
        refine pm_iinc (pc := 43) 4 (v4 + (1 : Int32)) [(4, .int (v4 + (1 : Int32))), (0, .ref v0), (1, .ref v1), (2, .int v2), (3, .int v3)] dX8_fitting_43 rfl rfl (by decide) rfl ?_
        refine pm_goto (pc := 46) 5 dX8_fitting_46 (by decide) ?_
        refine pm_lv [(0, .ref v0), (1, .ref v1), (2, .int v2), (3, .int v3), (4, .int (v4 + (1 : Int32)))] [1, 2, 3, 4, 0] rfl ?_
        exact ih v3 (v4 + (1 : Int32)) u5.2 hf
      · rw [if_neg hc7] at hf
        refine pm_iload_n (pc := 36) 3 dX8_fitting_36 rfl rfl ?_
        refine pm_iconst (pc := 37) (1 : Int32) (by decide) dX8_fitting_37 ?_
        refine pm_iload (pc := 38) 4 dX8_fitting_38 rfl ?_
        refine pm_ishl (pc := 40) dX8_fitting_40 ?_
        refine pm_ior (pc := 41) dX8_fitting_41 ?_
        obtain ⟨x6, ex6, hf⟩ := pm_let_e hf
        refine pm_nmi ex6 ?_
        refine pm_istore_n (pc := 42) [(3, .int x6), (0, .ref v0), (1, .ref v1), (2, .int v2), (4, .int v4)] dX8_fitting_42 rfl (by decide) rfl ?_
        refine pm_iinc (pc := 43) 4 (v4 + (1 : Int32)) [(4, .int (v4 + (1 : Int32))), (3, .int x6), (0, .ref v0), (1, .ref v1), (2, .int v2)] dX8_fitting_43 rfl rfl (by decide) rfl ?_
        refine pm_goto (pc := 46) 5 dX8_fitting_46 (by decide) ?_
        refine pm_lv [(0, .ref v0), (1, .ref v1), (2, .int v2), (3, .int x6), (4, .int (v4 + (1 : Int32)))] [2, 3, 4, 1, 0] rfl ?_
        exact ih x6 (v4 + (1 : Int32)) u5.2 hf
def fX8_fitting (S : pm_S) (a0 : Nat) (a1 : Nat) (a2 : Int32) (σ : pm_H) : Option (Int32 × pm_H) :=
  fX8_fitting_L5 S a0 a1 a2 (fun w9 s10 => some (w9, s10)) pm_fuel (0 : Int32) (0 : Int32) σ
set_option maxRecDepth 100000 in
set_option maxHeartbeats 4000000 in
theorem KX8_fitting (l : Launch) {S : pm_S} {p : Int32 × pm_H} {a0 : Nat} {a1 : Nat} {a2 : Int32} {σ : pm_H} (h0 : pm_is S a0 11) (h1 : pm_is S a1 12) (hf : fX8_fitting S a0 a1 a2 σ = some p) : pm_M l yX8_fitting cX8_fitting 5 (some .int) false 1 [.ref a0, .ref a1, .int a2] S σ (pm_ri S p) := by
  refine pm_M.of (by decide +kernel) (Nat.le_of_ble_eq_true rfl) ?_
  show pm_E l yX8_fitting cX8_fitting 5 (some .int) false 1 S (pm_ri S p) 0 [(0, .ref a0), (1, .ref a1), (2, .int a2)] [] S σ
  rw [fX8_fitting] at hf
  refine pm_iconst (pc := 0) (0 : Int32) (by decide) dX8_fitting_0 ?_
  refine pm_istore_n (pc := 1) [(3, .int (0 : Int32)), (0, .ref a0), (1, .ref a1), (2, .int a2)] dX8_fitting_1 rfl (by decide) rfl ?_
  refine pm_iconst (pc := 2) (0 : Int32) (by decide) dX8_fitting_2 ?_
  refine pm_istore (pc := 3) [(4, .int (0 : Int32)), (3, .int (0 : Int32)), (0, .ref a0), (1, .ref a1), (2, .int a2)] dX8_fitting_3 (by decide) rfl ?_
  refine pm_lv [(0, .ref a0), (1, .ref a1), (2, .int a2), (3, .int (0 : Int32)), (4, .int (0 : Int32))] [2, 3, 4, 1, 0] rfl ?_
  refine fX8_fitting_L5_E l h0 h1 (fun w9 s10 hf => ?_) pm_fuel (0 : Int32) (0 : Int32) σ hf
  refine pm_iload_n (pc := 49) 0 dX8_fitting_49 rfl rfl ?_
  exact pm_iret rfl dX8_fitting_50 (pm_ri_e hf)
def fX4_mostFrom (S : pm_S) (a0 : Nat) (a1 : Int32) (a2 : Int32) (σ : pm_H) : Option (Int32 × pm_H) :=
  (if pm_ib ((a1 * (64 : Int32)) + a2) (pm_len S (σ.2 a0 1)) = true then some ((σ.1 (σ.2 a0 1) (((a1 * (64 : Int32)) + a2)).toNatClampNeg), σ) else none)
set_option maxRecDepth 100000 in
set_option maxHeartbeats 4000000 in
theorem KX4_mostFrom (l : Launch) {S : pm_S} {p : Int32 × pm_H} {a0 : Nat} {a1 : Int32} {a2 : Int32} {σ : pm_H} (h0 : pm_is S a0 7) (hf : fX4_mostFrom S a0 a1 a2 σ = some p) : pm_M l yX4_mostFrom cX4_mostFrom 3 (some .int) false 0 [.ref a0, .int a1, .int a2] S σ (pm_ri S p) := by
  refine pm_M.of (by decide +kernel) (Nat.le_of_ble_eq_true rfl) ?_
  show pm_E l yX4_mostFrom cX4_mostFrom 3 (some .int) false 0 S (pm_ri S p) 0 [(0, .ref a0), (1, .int a1), (2, .int a2)] [] S σ
  rw [fX4_mostFrom] at hf
  refine pm_aload_n (pc := 0) 0 dX4_mostFrom_0 rfl rfl h0.pos ?_
  refine pm_getT (pc := 1) (k := 1) pm_cl4 flX4_15 (by decide) rfl h0 dX4_mostFrom_1 (fun hr1 => ?_)
  refine pm_iload_n (pc := 4) 1 dX4_mostFrom_4 rfl rfl ?_
  refine pm_bipush (pc := 5) (64 : Int32) (by decide) dX4_mostFrom_5 ?_
  refine pm_imul (pc := 7) dX4_mostFrom_7 ?_
  refine pm_iload_n (pc := 8) 2 dX4_mostFrom_8 rfl rfl ?_
  refine pm_iadd (pc := 9) dX4_mostFrom_9 ?_
  obtain ⟨hb2, hf⟩ := pm_gd hf
  refine pm_iald (pc := 10) hr1 (pm_ib_in hb2) dX4_mostFrom_10 ?_
  exact pm_iret rfl dX4_mostFrom_11 (pm_ri_e hf)
def fX4_filledWith (S : pm_S) (a0 : Nat) (a1 : Int32) (a2 : Int32) (a3 : Int32) (σ : pm_H) : Option (Int32 × pm_H) :=
  (if a3 = (-1 : Int32) then Option.bind (fX4_mostFrom S a0 (a1 + (1 : Int32)) a2 σ) fun u2 => some (u2.1, u2.2) else Option.bind (fX4_mostFrom S a0 (a1 + (1 : Int32)) (a2 ||| ((1 : Int32) <<< (a3 &&& 31))) σ) fun u1 => some (((1 : Int32) + u1.1), u1.2))
set_option maxRecDepth 100000 in
set_option maxHeartbeats 4000000 in
theorem KX4_filledWith (l : Launch) {S : pm_S} {p : Int32 × pm_H} {a0 : Nat} {a1 : Int32} {a2 : Int32} {a3 : Int32} {σ : pm_H} (h0 : pm_is S a0 7) (hf : fX4_filledWith S a0 a1 a2 a3 σ = some p) : pm_M l yX4_filledWith cX4_filledWith 4 (some .int) false 1 [.ref a0, .int a1, .int a2, .int a3] S σ (pm_ri S p) := by
  refine pm_M.of (by decide +kernel) (Nat.le_of_ble_eq_true rfl) ?_
  show pm_E l yX4_filledWith cX4_filledWith 4 (some .int) false 1 S (pm_ri S p) 0 [(0, .ref a0), (1, .int a1), (2, .int a2), (3, .int a3)] [] S σ
  rw [fX4_filledWith] at hf
  refine pm_iload_n (pc := 0) 3 dX4_filledWith_0 rfl rfl ?_
  refine pm_iconst (pc := 1) (-1 : Int32) (by decide) dX4_filledWith_1 ?_
  refine pm_icmp_ne (pc := 2) 16 dX4_filledWith_2 (by decide) (fun hc3 => ?_) (fun hc3 => ?_)
  · rw [if_pos hc3] at hf
    refine pm_aload_n (pc := 5) 0 dX4_filledWith_5 rfl rfl h0.pos ?_
    refine pm_iload_n (pc := 6) 1 dX4_filledWith_6 rfl rfl ?_
    refine pm_iconst (pc := 7) (1 : Int32) (by decide) dX4_filledWith_7 ?_
    refine pm_iadd (pc := 8) dX4_filledWith_8 ?_
    refine pm_iload_n (pc := 9) 2 dX4_filledWith_9 rfl rfl ?_
    obtain ⟨u2, hu2, hf⟩ := pm_bind_e hf
    refine pm_cVi (pc := 10) (as := [.int (a1 + (1 : Int32)), .int a2]) (st := []) mvX4_47 (KX4_mostFrom l h0 hu2) (by decide) h0 rfl rfl (Nat.le_of_ble_eq_true rfl) rfl dX4_filledWith_10 ?_
    refine pm_goto (pc := 13) 30 dX4_filledWith_13 (by decide) ?_
    exact pm_iret rfl dX4_filledWith_30 (pm_ri_e hf)
  · rw [if_neg hc3] at hf
    refine pm_iconst (pc := 16) (1 : Int32) (by decide) dX4_filledWith_16 ?_
    refine pm_aload_n (pc := 17) 0 dX4_filledWith_17 rfl rfl h0.pos ?_
    refine pm_iload_n (pc := 18) 1 dX4_filledWith_18 rfl rfl ?_
    refine pm_iconst (pc := 19) (1 : Int32) (by decide) dX4_filledWith_19 ?_
    refine pm_iadd (pc := 20) dX4_filledWith_20 ?_
    refine pm_iload_n (pc := 21) 2 dX4_filledWith_21 rfl rfl ?_
    refine pm_iconst (pc := 22) (1 : Int32) (by decide) dX4_filledWith_22 ?_
    refine pm_iload_n (pc := 23) 3 dX4_filledWith_23 rfl rfl ?_
    refine pm_ishl (pc := 24) dX4_filledWith_24 ?_
    refine pm_ior (pc := 25) dX4_filledWith_25 ?_
    obtain ⟨u1, hu1, hf⟩ := pm_bind_e hf
    refine pm_cVi (pc := 26) (as := [.int (a1 + (1 : Int32)), .int (a2 ||| ((1 : Int32) <<< (a3 &&& 31)))]) (st := [.int (1 : Int32)]) mvX4_47 (KX4_mostFrom l h0 hu1) (by decide) h0 rfl rfl (Nat.le_of_ble_eq_true rfl) rfl dX4_filledWith_26 ?_
    refine pm_iadd (pc := 29) dX4_filledWith_29 ?_
    exact pm_iret rfl dX4_filledWith_30 (pm_ri_e hf)
def fX4_firstBest_J39 (S : pm_S) (v0 : Nat) (v1 : Int32) (v2 : Int32) (v3 : Int32) (v4 : Int32) (v5 : Int32) (t0 : Int32) (ag : Int32 → Int32 → pm_H → Option (Int32 × pm_H)) (σ : pm_H) : Option (Int32 × pm_H) :=
  (if t0 = 0 then ag v4 (v5 + (1 : Int32)) σ else (if v4 = (-1 : Int32) then ag v5 (v5 + (1 : Int32)) σ else Option.bind (fX4_filledWith S v0 v1 v2 v5 σ) fun u4 => Option.bind (fX4_filledWith S v0 v1 v2 v4 u4.2) fun u5 => (if u4.1 ≤ u5.1 then ag v4 (v5 + (1 : Int32)) u5.2 else ag v5 (v5 + (1 : Int32)) u5.2)))
set_option maxRecDepth 100000 in
set_option maxHeartbeats 4000000 in
theorem fX4_firstBest_J39_E (l : Launch) {S : pm_S} {p : Int32 × pm_H} {v0 : Nat} {v1 : Int32} {v2 : Int32} {v3 : Int32} {v4 : Int32} {v5 : Int32} {t0 : Int32} {ag : Int32 → Int32 → pm_H → Option (Int32 × pm_H)} {σ : pm_H} (h0 : pm_is S v0 7) (hag : ∀ w4 w5 sw, ag w4 w5 sw = some p → pm_E l yX4_firstBest cX4_firstBest 7 (some .int) false 2 S (pm_ri S p) 17 [(0, .ref v0), (1, .int v1), (2, .int v2), (3, .int v3), (4, .int w4), (5, .int w5)] [] S sw) (hf : fX4_firstBest_J39 S v0 v1 v2 v3 v4 v5 t0 ag σ = some p) : pm_E l yX4_firstBest cX4_firstBest 7 (some .int) false 2 S (pm_ri S p) 39 [(0, .ref v0), (1, .int v1), (2, .int v2), (3, .int v3), (4, .int v4), (5, .int v5)] [.int t0] S σ := by
  rw [fX4_firstBest_J39] at hf
  refine pm_istore (pc := 39) [(6, .int t0), (0, .ref v0), (1, .int v1), (2, .int v2), (3, .int v3), (4, .int v4), (5, .int v5)] dX4_firstBest_39 (by decide) rfl ?_
  refine pm_iload (pc := 41) 0 dX4_firstBest_41 rfl ?_
  refine pm_if_eq (pc := 43) 75 dX4_firstBest_43 (by decide) (fun hc8 => ?_) (fun hc8 => ?_)
  · rw [if_pos hc8] at hf
    refine pm_iinc (pc := 75) 6 (v5 + (1 : Int32)) [(5, .int (v5 + (1 : Int32))), (6, .int t0), (0, .ref v0), (1, .int v1), (2, .int v2), (3, .int v3), (4, .int v4)] dX4_firstBest_75 rfl rfl (by decide) rfl ?_
    refine pm_goto (pc := 78) 17 dX4_firstBest_78 (by decide) ?_
    refine pm_lv [(0, .ref v0), (1, .int v1), (2, .int v2), (3, .int v3), (4, .int v4), (5, .int (v5 + (1 : Int32)))] [2, 3, 4, 5, 6, 0] rfl ?_
    exact hag v4 (v5 + (1 : Int32)) σ hf
  · rw [if_neg hc8] at hf
    refine pm_iload (pc := 46) 5 dX4_firstBest_46 rfl ?_
    refine pm_iconst (pc := 48) (-1 : Int32) (by decide) dX4_firstBest_48 ?_
    refine pm_icmp_eq (pc := 49) 71 dX4_firstBest_49 (by decide) (fun hc7 => ?_) (fun hc7 => ?_)
    · rw [if_pos hc7] at hf
      refine pm_iload (pc := 71) 6 dX4_firstBest_71 rfl ?_
      refine pm_istore (pc := 73) [(4, .int v5), (6, .int t0), (0, .ref v0), (1, .int v1), (2, .int v2), (3, .int v3), (5, .int v5)] dX4_firstBest_73 (by decide) rfl ?_
      refine pm_iinc (pc := 75) 6 (v5 + (1 : Int32)) [(5, .int (v5 + (1 : Int32))), (4, .int v5), (6, .int t0), (0, .ref v0), (1, .int v1), (2, .int v2), (3, .int v3)] dX4_firstBest_75 rfl rfl (by decide) rfl ?_
      refine pm_goto (pc := 78) 17 dX4_firstBest_78 (by decide) ?_
      refine pm_lv [(0, .ref v0), (1, .int v1), (2, .int v2), (3, .int v3), (4, .int v5), (5, .int (v5 + (1 : Int32)))] [3, 4, 5, 6, 1, 0] rfl ?_
      exact hag v5 (v5 + (1 : Int32)) σ hf
    · rw [if_neg hc7] at hf
      refine pm_aload_n (pc := 52) 1 dX4_firstBest_52 rfl rfl h0.pos ?_
      refine pm_iload_n (pc := 53) 2 dX4_firstBest_53 rfl rfl ?_
      refine pm_iload_n (pc := 54) 3 dX4_firstBest_54 rfl rfl ?_
      refine pm_iload (pc := 55) 6 dX4_firstBest_55 rfl ?_
      obtain ⟨u4, hu4, hf⟩ := pm_bind_e hf
      refine pm_cVi (pc := 57) (as := [.int v1, .int v2, .int v5]) (st := []) mvX4_43 (KX4_filledWith l h0 hu4) (by decide) h0 rfl rfl (Nat.le_of_ble_eq_true rfl) rfl dX4_firstBest_57 ?_
      refine pm_aload_n (pc := 60) 1 dX4_firstBest_60 rfl rfl h0.pos ?_
      refine pm_iload_n (pc := 61) 2 dX4_firstBest_61 rfl rfl ?_
      refine pm_iload_n (pc := 62) 3 dX4_firstBest_62 rfl rfl ?_
      refine pm_iload (pc := 63) 5 dX4_firstBest_63 rfl ?_
      obtain ⟨u5, hu5, hf⟩ := pm_bind_e hf
      refine pm_cVi (pc := 65) (as := [.int v1, .int v2, .int v4]) (st := [.int u4.1]) mvX4_43 (KX4_filledWith l h0 hu5) (by decide) h0 rfl rfl (Nat.le_of_ble_eq_true rfl) rfl dX4_firstBest_65 ?_
      refine pm_icmp_le (pc := 68) 75 dX4_firstBest_68 (by decide) (fun hc6 => ?_) (fun hc6 => ?_)
      · rw [if_pos hc6] at hf
        refine pm_iinc (pc := 75) 6 (v5 + (1 : Int32)) [(5, .int (v5 + (1 : Int32))), (6, .int t0), (0, .ref v0), (1, .int v1), (2, .int v2), (3, .int v3), (4, .int v4)] dX4_firstBest_75 rfl rfl (by decide) rfl ?_
        refine pm_goto (pc := 78) 17 dX4_firstBest_78 (by decide) ?_
        refine pm_lv [(0, .ref v0), (1, .int v1), (2, .int v2), (3, .int v3), (4, .int v4), (5, .int (v5 + (1 : Int32)))] [2, 3, 4, 5, 6, 0] rfl ?_
        exact hag v4 (v5 + (1 : Int32)) u5.2 hf
      · rw [if_neg hc6] at hf
        refine pm_iload (pc := 71) 6 dX4_firstBest_71 rfl ?_
        refine pm_istore (pc := 73) [(4, .int v5), (6, .int t0), (0, .ref v0), (1, .int v1), (2, .int v2), (3, .int v3), (5, .int v5)] dX4_firstBest_73 (by decide) rfl ?_
        refine pm_iinc (pc := 75) 6 (v5 + (1 : Int32)) [(5, .int (v5 + (1 : Int32))), (4, .int v5), (6, .int t0), (0, .ref v0), (1, .int v1), (2, .int v2), (3, .int v3)] dX4_firstBest_75 rfl rfl (by decide) rfl ?_
        refine pm_goto (pc := 78) 17 dX4_firstBest_78 (by decide) ?_
        refine pm_lv [(0, .ref v0), (1, .int v1), (2, .int v2), (3, .int v3), (4, .int v5), (5, .int (v5 + (1 : Int32)))] [3, 4, 5, 6, 1, 0] rfl ?_
        exact hag v5 (v5 + (1 : Int32)) u5.2 hf
def fX4_firstBest_L17 (S : pm_S) (v0 : Nat) (v1 : Int32) (v2 : Int32) (v3 : Int32) (kx : Int32 → pm_H → Option (Int32 × pm_H)) : Nat → Int32 → Int32 → pm_H → Option (Int32 × pm_H)
  | 0, _, _, _ => none
  | n + 1, v4, v5, σ => (if (6 : Int32) ≤ v5 then kx v4 σ else (if ((v3 >>> (v5 &&& 31)) &&& (1 : Int32)) = (1 : Int32) then fX4_firstBest_J39 S v0 v1 v2 v3 v4 v5 (1 : Int32) (fun w4 w5 sw => fX4_firstBest_L17 S v0 v1 v2 v3 kx n w4 w5 sw) σ else fX4_firstBest_J39 S v0 v1 v2 v3 v4 v5 (0 : Int32) (fun w4 w5 sw => fX4_firstBest_L17 S v0 v1 v2 v3 kx n w4 w5 sw) σ))
set_option maxRecDepth 100000 in
set_option maxHeartbeats 4000000 in
theorem fX4_firstBest_L17_E (l : Launch) {S : pm_S} {p : Int32 × pm_H} {v0 : Nat} {v1 : Int32} {v2 : Int32} {v3 : Int32} {kx : Int32 → pm_H → Option (Int32 × pm_H)} (h0 : pm_is S v0 7) (hkx : ∀ w4 sw, kx w4 sw = some p → pm_E l yX4_firstBest cX4_firstBest 7 (some .int) false 2 S (pm_ri S p) 81 [(4, .int w4)] [] S sw) : ∀ (n : Nat) (v4 : Int32) (v5 : Int32) (σ : pm_H), fX4_firstBest_L17 S v0 v1 v2 v3 kx n v4 v5 σ = some p → pm_E l yX4_firstBest cX4_firstBest 7 (some .int) false 2 S (pm_ri S p) 17 [(0, .ref v0), (1, .int v1), (2, .int v2), (3, .int v3), (4, .int v4), (5, .int v5)] [] S σ := by
  intro n
  induction n with
  | zero => intro v4 v5 σ hf; cases hf
  | succ n ih =>
    intro v4 v5 σ hf
    rw [fX4_firstBest_L17] at hf
    refine pm_iload (pc := 17) 5 dX4_firstBest_17 rfl ?_
    refine pm_bipush (pc := 19) (6 : Int32) (by decide) dX4_firstBest_19 ?_
    refine pm_icmp_ge (pc := 21) 81 dX4_firstBest_21 (by decide) (fun hc10 => ?_) (fun hc10 => ?_)
    · rw [if_pos hc10] at hf
      refine pm_lv [(4, .int v4)] [4] rfl ?_
      exact hkx v4 σ hf
    · rw [if_neg hc10] at hf
      refine pm_iload_n (pc := 24) 3 dX4_firstBest_24 rfl rfl ?_
      refine pm_iload (pc := 25) 5 dX4_firstBest_25 rfl ?_
      refine pm_ishr (pc := 27) dX4_firstBest_27 ?_
      refine pm_iconst (pc := 28) (1 : Int32) (by decide) dX4_firstBest_28 ?_
      refine pm_iand (pc := 29) dX4_firstBest_29 ?_
      refine pm_iconst (pc := 30) (1 : Int32) (by decide) dX4_firstBest_30 ?_
      refine pm_icmp_ne (pc := 31) 38 dX4_firstBest_31 (by decide) (fun hc9 => ?_) (fun hc9 => ?_)
      · rw [if_pos hc9] at hf
        refine pm_iconst (pc := 34) (1 : Int32) (by decide) dX4_firstBest_34 ?_
        refine pm_goto (pc := 35) 39 dX4_firstBest_35 (by decide) ?_
        refine pm_lv [(0, .ref v0), (1, .int v1), (2, .int v2), (3, .int v3), (4, .int v4), (5, .int v5)] [0, 1, 2, 3, 4, 5] rfl ?_
        exact fX4_firstBest_J39_E l h0 ih hf
      · rw [if_neg hc9] at hf
        refine pm_iconst (pc := 38) (0 : Int32) (by decide) dX4_firstBest_38 ?_
        refine pm_lv [(0, .ref v0), (1, .int v1), (2, .int v2), (3, .int v3), (4, .int v4), (5, .int v5)] [0, 1, 2, 3, 4, 5] rfl ?_
        exact fX4_firstBest_J39_E l h0 ih hf
def fX4_firstBest (S : pm_S) (a0 : Nat) (a1 : Int32) (a2 : Int32) (σ : pm_H) : Option (Int32 × pm_H) :=
  (if pm_ib a1 (pm_len S (σ.2 a0 0)) = true then pm_let ((σ.1 (σ.2 a0 0) (a1).toNatClampNeg) &&& (a2 ^^^ (-1 : Int32))) fun x3 => fX4_firstBest_L17 S a0 a1 a2 x3 (fun w11 s12 => some (w11, s12)) pm_fuel (-1 : Int32) (0 : Int32) σ else none)
set_option maxRecDepth 100000 in
set_option maxHeartbeats 4000000 in
theorem KX4_firstBest (l : Launch) {S : pm_S} {p : Int32 × pm_H} {a0 : Nat} {a1 : Int32} {a2 : Int32} {σ : pm_H} (h0 : pm_is S a0 7) (hf : fX4_firstBest S a0 a1 a2 σ = some p) : pm_M l yX4_firstBest cX4_firstBest 7 (some .int) false 2 [.ref a0, .int a1, .int a2] S σ (pm_ri S p) := by
  refine pm_M.of (by decide +kernel) (Nat.le_of_ble_eq_true rfl) ?_
  show pm_E l yX4_firstBest cX4_firstBest 7 (some .int) false 2 S (pm_ri S p) 0 [(0, .ref a0), (1, .int a1), (2, .int a2)] [] S σ
  rw [fX4_firstBest] at hf
  refine pm_aload_n (pc := 0) 0 dX4_firstBest_0 rfl rfl h0.pos ?_
  refine pm_getT (pc := 1) (k := 0) pm_cl4 flX4_9 (by decide) rfl h0 dX4_firstBest_1 (fun hr1 => ?_)
  refine pm_iload_n (pc := 4) 1 dX4_firstBest_4 rfl rfl ?_
  obtain ⟨hb2, hf⟩ := pm_gd hf
  refine pm_iald (pc := 5) hr1 (pm_ib_in hb2) dX4_firstBest_5 ?_
  refine pm_iload_n (pc := 6) 2 dX4_firstBest_6 rfl rfl ?_
  refine pm_iconst (pc := 7) (-1 : Int32) (by decide) dX4_firstBest_7 ?_
  refine pm_ixor (pc := 8) dX4_firstBest_8 ?_
  refine pm_iand (pc := 9) dX4_firstBest_9 ?_
  obtain ⟨x3, ex3, hf⟩ := pm_let_e hf
  refine pm_nmi ex3 ?_
  refine pm_istore_n (pc := 10) [(3, .int x3), (0, .ref a0), (1, .int a1), (2, .int a2)] dX4_firstBest_10 rfl (by decide) rfl ?_
  refine pm_iconst (pc := 11) (-1 : Int32) (by decide) dX4_firstBest_11 ?_
  refine pm_istore (pc := 12) [(4, .int (-1 : Int32)), (3, .int x3), (0, .ref a0), (1, .int a1), (2, .int a2)] dX4_firstBest_12 (by decide) rfl ?_
  refine pm_iconst (pc := 14) (0 : Int32) (by decide) dX4_firstBest_14 ?_
  refine pm_istore (pc := 15) [(5, .int (0 : Int32)), (4, .int (-1 : Int32)), (3, .int x3), (0, .ref a0), (1, .int a1), (2, .int a2)] dX4_firstBest_15 (by decide) rfl ?_
  refine pm_lv [(0, .ref a0), (1, .int a1), (2, .int a2), (3, .int x3), (4, .int (-1 : Int32)), (5, .int (0 : Int32))] [3, 4, 5, 2, 1, 0] rfl ?_
  refine fX4_firstBest_L17_E l h0 (fun w11 s12 hf => ?_) pm_fuel (-1 : Int32) (0 : Int32) σ hf
  refine pm_iload (pc := 81) 0 dX4_firstBest_81 rfl ?_
  exact pm_iret rfl dX4_firstBest_83 (pm_ri_e hf)
def fX4_weigh_L42 (S : pm_S) (v0 : Nat) (v1 : Nat) (v2 : Nat) (v3 : Int32) (kx : pm_H → Option (pm_H)) : Nat → Int32 → pm_H → Option (pm_H)
  | 0, _, _ => none
  | n + 1, v4, σ => (if (64 : Int32) ≤ v4 then kx σ else Option.bind (fX4_firstBest S v0 v3 v4 σ) fun u9 => Option.bind (fX4_filledWith S v0 v3 v4 u9.1 u9.2) fun u11 => (if pm_ib ((v3 * (64 : Int32)) + v4) (pm_len S (u9.2.2 v0 1)) = true then pm_let (pm_si u11.2 (u9.2.2 v0 1) (((v3 * (64 : Int32)) + v4)).toNatClampNeg u11.1) fun s13 => fX4_weigh_L42 S v0 v1 v2 v3 kx n (v4 + (1 : Int32)) s13 else none))
set_option maxRecDepth 100000 in
set_option maxHeartbeats 4000000 in
theorem fX4_weigh_L42_E (l : Launch) {S : pm_S} {p : pm_H} {v0 : Nat} {v1 : Nat} {v2 : Nat} {v3 : Int32} {kx : pm_H → Option (pm_H)} (h0 : pm_is S v0 7) (h1 : pm_is S v1 12) (h2 : pm_is S v2 11) (hkx : ∀  sw, kx  sw = some p → pm_E l yX4_weigh cX4_weigh 6 none false 3 S (pm_ru S p) 85 [(0, .ref v0), (1, .ref v1), (2, .ref v2), (3, .int v3)] [] S sw) : ∀ (n : Nat) (v4 : Int32) (σ : pm_H), fX4_weigh_L42 S v0 v1 v2 v3 kx n v4 σ = some p → pm_E l yX4_weigh cX4_weigh 6 none false 3 S (pm_ru S p) 42 [(0, .ref v0), (1, .ref v1), (2, .ref v2), (3, .int v3), (4, .int v4)] [] S σ := by
  intro n
  induction n with
  | zero => intro v4 σ hf; cases hf
  | succ n ih =>
    intro v4 σ hf
    rw [fX4_weigh_L42] at hf
    refine pm_iload (pc := 42) 4 dX4_weigh_42 rfl ?_
    refine pm_bipush (pc := 44) (64 : Int32) (by decide) dX4_weigh_44 ?_
    refine pm_icmp_ge (pc := 46) 85 dX4_weigh_46 (by decide) (fun hc14 => ?_) (fun hc14 => ?_)
    · rw [if_pos hc14] at hf
      refine pm_lv [(0, .ref v0), (1, .ref v1), (2, .ref v2), (3, .int v3)] [0, 1, 2, 3] rfl ?_
      exact hkx σ hf
    · rw [if_neg hc14] at hf
      refine pm_aload_n (pc := 49) 0 dX4_weigh_49 rfl rfl h0.pos ?_
      refine pm_iload_n (pc := 50) 3 dX4_weigh_50 rfl rfl ?_
      refine pm_iload (pc := 51) 4 dX4_weigh_51 rfl ?_
      obtain ⟨u9, hu9, hf⟩ := pm_bind_e hf
      refine pm_cVi (pc := 53) (as := [.int v3, .int v4]) (st := []) mvX4_39 (KX4_firstBest l h0 hu9) (by decide) h0 rfl rfl (Nat.le_of_ble_eq_true rfl) rfl dX4_weigh_53 ?_
      refine pm_istore (pc := 56) [(5, .int u9.1), (0, .ref v0), (1, .ref v1), (2, .ref v2), (3, .int v3), (4, .int v4)] dX4_weigh_56 (by decide) rfl ?_
      refine pm_aload_n (pc := 58) 1 dX4_weigh_58 rfl rfl h0.pos ?_
      refine pm_getT (pc := 59) (k := 1) pm_cl4 flX4_15 (by decide) rfl h0 dX4_weigh_59 (fun hr10 => ?_)
      refine pm_iload_n (pc := 62) 4 dX4_weigh_62 rfl rfl ?_
      refine pm_bipush (pc := 63) (64 : Int32) (by decide) dX4_weigh_63 ?_
      refine pm_imul (pc := 65) dX4_weigh_65 ?_
      refine pm_iload (pc := 66) 5 dX4_weigh_66 rfl ?_
      refine pm_iadd (pc := 68) dX4_weigh_68 ?_
      refine pm_aload_n (pc := 69) 1 dX4_weigh_69 rfl rfl h0.pos ?_
      refine pm_iload_n (pc := 70) 4 dX4_weigh_70 rfl rfl ?_
      refine pm_iload (pc := 71) 5 dX4_weigh_71 rfl ?_
      refine pm_iload (pc := 73) 0 dX4_weigh_73 rfl ?_
      obtain ⟨u11, hu11, hf⟩ := pm_bind_e hf
      refine pm_cVi (pc := 75) (as := [.int v3, .int v4, .int u9.1]) (st := [.int ((v3 * (64 : Int32)) + v4), .ref (u9.2.2 v0 1)]) mvX4_43 (KX4_filledWith l h0 hu11) (by decide) h0 rfl rfl (Nat.le_of_ble_eq_true rfl) rfl dX4_weigh_75 ?_
      obtain ⟨hb12, hf⟩ := pm_gd hf
      refine pm_iast (pc := 78) hr10 (pm_ib_in hb12) dX4_weigh_78 ?_
      obtain ⟨s13, es13, hf⟩ := pm_let_e hf
      refine pm_nmh es13 ?_
      refine pm_iinc (pc := 79) 5 (v4 + (1 : Int32)) [(4, .int (v4 + (1 : Int32))), (5, .int u9.1), (0, .ref v0), (1, .ref v1), (2, .ref v2), (3, .int v3)] dX4_weigh_79 rfl rfl (by decide) rfl ?_
      refine pm_goto (pc := 82) 42 dX4_weigh_82 (by decide) ?_
      refine pm_lv [(0, .ref v0), (1, .ref v1), (2, .ref v2), (3, .int v3), (4, .int (v4 + (1 : Int32)))] [2, 3, 4, 5, 0] rfl ?_
      exact ih (v4 + (1 : Int32)) s13 hf
def fX4_weigh_L23 (S : pm_S) (v0 : Nat) (v1 : Nat) (v2 : Nat) (kx : pm_H → Option (pm_H)) : Nat → Int32 → pm_H → Option (pm_H)
  | 0, _, _ => none
  | n + 1, v3, σ => (if v3 < 0 then kx σ else Option.bind (fX8_fitting S v2 v1 v3 σ) fun u6 => (if pm_ib v3 (pm_len S (σ.2 v0 0)) = true then pm_let (pm_si u6.2 (σ.2 v0 0) (v3).toNatClampNeg u6.1) fun s8 => fX4_weigh_L42 S v0 v1 v2 v3 (fun s15 => fX4_weigh_L23 S v0 v1 v2 kx n (v3 + (-1 : Int32)) s15) pm_fuel (0 : Int32) s8 else none))
set_option maxRecDepth 100000 in
set_option maxHeartbeats 4000000 in
theorem fX4_weigh_L23_E (l : Launch) {S : pm_S} {p : pm_H} {v0 : Nat} {v1 : Nat} {v2 : Nat} {kx : pm_H → Option (pm_H)} (h0 : pm_is S v0 7) (h1 : pm_is S v1 12) (h2 : pm_is S v2 11) (hkx : ∀  sw, kx  sw = some p → pm_E l yX4_weigh cX4_weigh 6 none false 3 S (pm_ru S p) 91 [] [] S sw) : ∀ (n : Nat) (v3 : Int32) (σ : pm_H), fX4_weigh_L23 S v0 v1 v2 kx n v3 σ = some p → pm_E l yX4_weigh cX4_weigh 6 none false 3 S (pm_ru S p) 23 [(0, .ref v0), (1, .ref v1), (2, .ref v2), (3, .int v3)] [] S σ := by
  intro n
  induction n with
  | zero => intro v3 σ hf; cases hf
  | succ n ih =>
    intro v3 σ hf
    rw [fX4_weigh_L23] at hf
    refine pm_iload_n (pc := 23) 3 dX4_weigh_23 rfl rfl ?_
    refine pm_if_lt (pc := 24) 91 dX4_weigh_24 (by decide) (fun hc16 => ?_) (fun hc16 => ?_)
    · rw [if_pos hc16] at hf
      refine pm_lv [] [] rfl ?_
      exact hkx σ hf
    · rw [if_neg hc16] at hf
      refine pm_aload_n (pc := 27) 0 dX4_weigh_27 rfl rfl h0.pos ?_
      refine pm_getT (pc := 28) (k := 0) pm_cl4 flX4_9 (by decide) rfl h0 dX4_weigh_28 (fun hr5 => ?_)
      refine pm_iload_n (pc := 31) 3 dX4_weigh_31 rfl rfl ?_
      refine pm_aload_n (pc := 32) 2 dX4_weigh_32 rfl rfl h2.pos ?_
      refine pm_aload_n (pc := 33) 1 dX4_weigh_33 rfl rfl h1.pos ?_
      refine pm_iload_n (pc := 34) 3 dX4_weigh_34 rfl rfl ?_
      obtain ⟨u6, hu6, hf⟩ := pm_bind_e hf
      refine pm_cVi (pc := 35) (as := [.ref v1, .int v3]) (st := [.int v3, .ref (σ.2 v0 0)]) mvX4_33 (KX8_fitting l h2 h1 hu6) (by decide) h2 rfl rfl (Nat.le_of_ble_eq_true rfl) rfl dX4_weigh_35 ?_
      obtain ⟨hb7, hf⟩ := pm_gd hf
      refine pm_iast (pc := 38) hr5 (pm_ib_in hb7) dX4_weigh_38 ?_
      obtain ⟨s8, es8, hf⟩ := pm_let_e hf
      refine pm_nmh es8 ?_
      refine pm_iconst (pc := 39) (0 : Int32) (by decide) dX4_weigh_39 ?_
      refine pm_istore (pc := 40) [(4, .int (0 : Int32)), (0, .ref v0), (1, .ref v1), (2, .ref v2), (3, .int v3)] dX4_weigh_40 (by decide) rfl ?_
      refine pm_lv [(0, .ref v0), (1, .ref v1), (2, .ref v2), (3, .int v3), (4, .int (0 : Int32))] [1, 2, 3, 4, 0] rfl ?_
      refine fX4_weigh_L42_E l h0 h1 h2 (fun s15 hf => ?_) pm_fuel (0 : Int32) s8 hf
      refine pm_iinc (pc := 85) 3 (v3 + (-1 : Int32)) [(3, .int (v3 + (-1 : Int32))), (0, .ref v0), (1, .ref v1), (2, .ref v2)] dX4_weigh_85 rfl rfl (by decide) rfl ?_
      refine pm_goto (pc := 88) 23 dX4_weigh_88 (by decide) ?_
      refine pm_lv [(0, .ref v0), (1, .ref v1), (2, .ref v2), (3, .int (v3 + (-1 : Int32)))] [1, 2, 3, 0] rfl ?_
      exact ih (v3 + (-1 : Int32)) s15 hf
def fX4_weigh (S : pm_S) (a0 : Nat) (a1 : Nat) (a2 : Nat) (σ : pm_H) : Option (pm_H) :=
  pm_let (pm_si σ a0 2 (σ.1 a1 6)) fun s1 => Option.bind (fJ7_fill_53178 S (s1.2 a0 1) (0 : Int32) s1) fun u3 => pm_let ((u3.1 a0 2) - (1 : Int32)) fun x4 => fX4_weigh_L23 S a0 a1 a2 (fun s17 => some s17) pm_fuel x4 u3
set_option maxRecDepth 100000 in
set_option maxHeartbeats 4000000 in
theorem KX4_weigh (l : Launch) {S : pm_S} {p : pm_H} {a0 : Nat} {a1 : Nat} {a2 : Nat} {σ : pm_H} (h0 : pm_is S a0 7) (h1 : pm_is S a1 12) (h2 : pm_is S a2 11) (hf : fX4_weigh S a0 a1 a2 σ = some p) : pm_M l yX4_weigh cX4_weigh 6 none false 3 [.ref a0, .ref a1, .ref a2] S σ (pm_ru S p) := by
  refine pm_M.of (by decide +kernel) (Nat.le_of_ble_eq_true rfl) ?_
  show pm_E l yX4_weigh cX4_weigh 6 none false 3 S (pm_ru S p) 0 [(0, .ref a0), (1, .ref a1), (2, .ref a2)] [] S σ
  rw [fX4_weigh] at hf
  refine pm_aload_n (pc := 0) 0 dX4_weigh_0 rfl rfl h0.pos ?_
  refine pm_aload_n (pc := 1) 1 dX4_weigh_1 rfl rfl h1.pos ?_
  refine pm_getI (pc := 2) (k := 6) pm_cl9 flX4_18 (by decide) rfl h1 dX4_weigh_2 ?_
  refine pm_putI (pc := 5) (k := 2) pm_cl4 flX4_24 (by decide) rfl rfl rfl h0 dX4_weigh_5 ?_
  obtain ⟨s1, es1, hf⟩ := pm_let_e hf
  refine pm_nmh es1 ?_
  refine pm_aload_n (pc := 8) 0 dX4_weigh_8 rfl rfl h0.pos ?_
  refine pm_getT (pc := 9) (k := 1) pm_cl4 flX4_15 (by decide) rfl h0 dX4_weigh_9 (fun hr2 => ?_)
  refine pm_iconst (pc := 12) (0 : Int32) (by decide) dX4_weigh_12 ?_
  obtain ⟨u3, hu3, hf⟩ := pm_bind_e hf
  refine pm_cSu (pc := 13) (as := [.ref (s1.2 a0 1), .int (0 : Int32)]) (st := []) msX4_27 (KJ7_fill_53178 l hr2 hu3) (by decide) rfl rfl (Nat.le_of_ble_eq_true rfl) rfl dX4_weigh_13 ?_
  refine pm_aload_n (pc := 16) 0 dX4_weigh_16 rfl rfl h0.pos ?_
  refine pm_getI (pc := 17) (k := 2) pm_cl4 flX4_24 (by decide) rfl h0 dX4_weigh_17 ?_
  refine pm_iconst (pc := 20) (1 : Int32) (by decide) dX4_weigh_20 ?_
  refine pm_isub (pc := 21) dX4_weigh_21 ?_
  obtain ⟨x4, ex4, hf⟩ := pm_let_e hf
  refine pm_nmi ex4 ?_
  refine pm_istore_n (pc := 22) [(3, .int x4), (0, .ref a0), (1, .ref a1), (2, .ref a2)] dX4_weigh_22 rfl (by decide) rfl ?_
  refine pm_lv [(0, .ref a0), (1, .ref a1), (2, .ref a2), (3, .int x4)] [1, 2, 3, 0] rfl ?_
  refine fX4_weigh_L23_E l h0 h1 h2 (fun s17 hf => ?_) pm_fuel x4 u3 hf
  exact pm_vret rfl dX4_weigh_91 (pm_ru_e hf)
def fX4_holderOf_L4 (S : pm_S) (v0 : Nat) (v1 : Int32) (kx : Int32 → pm_H → Option (Int32 × pm_H)) : Nat → Int32 → Int32 → pm_H → Option (Int32 × pm_H)
  | 0, _, _, _ => none
  | n + 1, v2, v3, σ => (if v1 ≤ v3 then kx v2 σ else (if (σ.1 v0 2) ≤ v3 then kx v2 σ else Option.bind (fX4_firstBest S v0 v3 v2 σ) fun u1 => (if u1.1 = (-1 : Int32) then pm_let (v2 ||| (0 : Int32)) fun x3 => fX4_holderOf_L4 S v0 v1 kx n x3 (v3 + (1 : Int32)) u1.2 else pm_let (v2 ||| ((1 : Int32) <<< (u1.1 &&& 31))) fun x2 => fX4_holderOf_L4 S v0 v1 kx n x2 (v3 + (1 : Int32)) u1.2)))
set_option maxRecDepth 100000 in
set_option maxHeartbeats 4000000 in
theorem fX4_holderOf_L4_E (l : Launch) {S : pm_S} {p : Int32 × pm_H} {v0 : Nat} {v1 : Int32} {kx : Int32 → pm_H → Option (Int32 × pm_H)} (h0 : pm_is S v0 7) (hkx : ∀ w2 sw, kx w2 sw = some p → pm_E l yX4_holderOf cX4_holderOf 5 (some .int) false 3 S (pm_ri S p) 48 [(0, .ref v0), (1, .int v1), (2, .int w2)] [] S sw) : ∀ (n : Nat) (v2 : Int32) (v3 : Int32) (σ : pm_H), fX4_holderOf_L4 S v0 v1 kx n v2 v3 σ = some p → pm_E l yX4_holderOf cX4_holderOf 5 (some .int) false 3 S (pm_ri S p) 4 [(0, .ref v0), (1, .int v1), (2, .int v2), (3, .int v3)] [] S σ := by
  intro n
  induction n with
  | zero => intro v2 v3 σ hf; cases hf
  | succ n ih =>
    intro v2 v3 σ hf
    rw [fX4_holderOf_L4] at hf
    refine pm_iload_n (pc := 4) 3 dX4_holderOf_4 rfl rfl ?_
    refine pm_iload_n (pc := 5) 1 dX4_holderOf_5 rfl rfl ?_
    refine pm_icmp_ge (pc := 6) 48 dX4_holderOf_6 (by decide) (fun hc6 => ?_) (fun hc6 => ?_)
    · rw [if_pos hc6] at hf
      refine pm_lv [(0, .ref v0), (1, .int v1), (2, .int v2)] [0, 1, 2] rfl ?_
      exact hkx v2 σ hf
    · rw [if_neg hc6] at hf
      refine pm_iload_n (pc := 9) 3 dX4_holderOf_9 rfl rfl ?_
      refine pm_aload_n (pc := 10) 0 dX4_holderOf_10 rfl rfl h0.pos ?_
      refine pm_getI (pc := 11) (k := 2) pm_cl4 flX4_24 (by decide) rfl h0 dX4_holderOf_11 ?_
      refine pm_icmp_ge (pc := 14) 48 dX4_holderOf_14 (by decide) (fun hc5 => ?_) (fun hc5 => ?_)
      · rw [if_pos hc5] at hf
        refine pm_lv [(0, .ref v0), (1, .int v1), (2, .int v2)] [0, 1, 2] rfl ?_
        exact hkx v2 σ hf
      · rw [if_neg hc5] at hf
        refine pm_aload_n (pc := 17) 0 dX4_holderOf_17 rfl rfl h0.pos ?_
        refine pm_iload_n (pc := 18) 3 dX4_holderOf_18 rfl rfl ?_
        refine pm_iload_n (pc := 19) 2 dX4_holderOf_19 rfl rfl ?_
        obtain ⟨u1, hu1, hf⟩ := pm_bind_e hf
        refine pm_cVi (pc := 20) (as := [.int v3, .int v2]) (st := []) mvX4_39 (KX4_firstBest l h0 hu1) (by decide) h0 rfl rfl (Nat.le_of_ble_eq_true rfl) rfl dX4_holderOf_20 ?_
        refine pm_istore (pc := 23) [(4, .int u1.1), (0, .ref v0), (1, .int v1), (2, .int v2), (3, .int v3)] dX4_holderOf_23 (by decide) rfl ?_
        refine pm_iload_n (pc := 25) 3 dX4_holderOf_25 rfl rfl ?_
        refine pm_iload (pc := 26) 0 dX4_holderOf_26 rfl ?_
        refine pm_iconst (pc := 28) (-1 : Int32) (by decide) dX4_holderOf_28 ?_
        refine pm_icmp_ne (pc := 29) 36 dX4_holderOf_29 (by decide) (fun hc4 => ?_) (fun hc4 => ?_)
        · rw [if_pos hc4] at hf
          refine pm_iconst (pc := 32) (0 : Int32) (by decide) dX4_holderOf_32 ?_
          refine pm_goto (pc := 33) 40 dX4_holderOf_33 (by decide) ?_
          refine pm_ior (pc := 40) dX4_holderOf_40 ?_
          obtain ⟨x3, ex3, hf⟩ := pm_let_e hf
          refine pm_nmi ex3 ?_
          refine pm_istore_n (pc := 41) [(2, .int x3), (4, .int u1.1), (0, .ref v0), (1, .int v1), (3, .int v3)] dX4_holderOf_41 rfl (by decide) rfl ?_
          refine pm_iinc (pc := 42) 4 (v3 + (1 : Int32)) [(3, .int (v3 + (1 : Int32))), (2, .int x3), (4, .int u1.1), (0, .ref v0), (1, .int v1)] dX4_holderOf_42 rfl rfl (by decide) rfl ?_
          refine pm_goto (pc := 45) 4 dX4_holderOf_45 (by decide) ?_
          refine pm_lv [(0, .ref v0), (1, .int v1), (2, .int x3), (3, .int (v3 + (1 : Int32)))] [3, 4, 1, 0] rfl ?_
          exact ih x3 (v3 + (1 : Int32)) u1.2 hf
        · rw [if_neg hc4] at hf
          refine pm_iconst (pc := 36) (1 : Int32) (by decide) dX4_holderOf_36 ?_
          refine pm_iload (pc := 37) 0 dX4_holderOf_37 rfl ?_
          refine pm_ishl (pc := 39) dX4_holderOf_39 ?_
          refine pm_ior (pc := 40) dX4_holderOf_40 ?_
          obtain ⟨x2, ex2, hf⟩ := pm_let_e hf
          refine pm_nmi ex2 ?_
          refine pm_istore_n (pc := 41) [(2, .int x2), (4, .int u1.1), (0, .ref v0), (1, .int v1), (3, .int v3)] dX4_holderOf_41 rfl (by decide) rfl ?_
          refine pm_iinc (pc := 42) 4 (v3 + (1 : Int32)) [(3, .int (v3 + (1 : Int32))), (2, .int x2), (4, .int u1.1), (0, .ref v0), (1, .int v1)] dX4_holderOf_42 rfl rfl (by decide) rfl ?_
          refine pm_goto (pc := 45) 4 dX4_holderOf_45 (by decide) ?_
          refine pm_lv [(0, .ref v0), (1, .int v1), (2, .int x2), (3, .int (v3 + (1 : Int32)))] [3, 4, 1, 0] rfl ?_
          exact ih x2 (v3 + (1 : Int32)) u1.2 hf
def fX4_holderOf (S : pm_S) (a0 : Nat) (a1 : Int32) (σ : pm_H) : Option (Int32 × pm_H) :=
  fX4_holderOf_L4 S a0 a1 (fun w7 s8 => Option.bind (fX4_firstBest S a0 a1 w7 s8) fun u9 => some (u9.1, u9.2)) pm_fuel (0 : Int32) (0 : Int32) σ
set_option maxRecDepth 100000 in
set_option maxHeartbeats 4000000 in
theorem KX4_holderOf (l : Launch) {S : pm_S} {p : Int32 × pm_H} {a0 : Nat} {a1 : Int32} {σ : pm_H} (h0 : pm_is S a0 7) (hf : fX4_holderOf S a0 a1 σ = some p) : pm_M l yX4_holderOf cX4_holderOf 5 (some .int) false 3 [.ref a0, .int a1] S σ (pm_ri S p) := by
  refine pm_M.of (by decide +kernel) (Nat.le_of_ble_eq_true rfl) ?_
  show pm_E l yX4_holderOf cX4_holderOf 5 (some .int) false 3 S (pm_ri S p) 0 [(0, .ref a0), (1, .int a1)] [] S σ
  rw [fX4_holderOf] at hf
  refine pm_iconst (pc := 0) (0 : Int32) (by decide) dX4_holderOf_0 ?_
  refine pm_istore_n (pc := 1) [(2, .int (0 : Int32)), (0, .ref a0), (1, .int a1)] dX4_holderOf_1 rfl (by decide) rfl ?_
  refine pm_iconst (pc := 2) (0 : Int32) (by decide) dX4_holderOf_2 ?_
  refine pm_istore_n (pc := 3) [(3, .int (0 : Int32)), (2, .int (0 : Int32)), (0, .ref a0), (1, .int a1)] dX4_holderOf_3 rfl (by decide) rfl ?_
  refine pm_lv [(0, .ref a0), (1, .int a1), (2, .int (0 : Int32)), (3, .int (0 : Int32))] [2, 3, 1, 0] rfl ?_
  refine fX4_holderOf_L4_E l h0 (fun w7 s8 hf => ?_) pm_fuel (0 : Int32) (0 : Int32) σ hf
  refine pm_aload_n (pc := 48) 0 dX4_holderOf_48 rfl rfl h0.pos ?_
  refine pm_iload_n (pc := 49) 1 dX4_holderOf_49 rfl rfl ?_
  refine pm_iload_n (pc := 50) 2 dX4_holderOf_50 rfl rfl ?_
  obtain ⟨u9, hu9, hf⟩ := pm_bind_e hf
  refine pm_cVi (pc := 51) (as := [.int a1, .int w7]) (st := []) mvX4_39 (KX4_firstBest l h0 hu9) (by decide) h0 rfl rfl (Nat.le_of_ble_eq_true rfl) rfl dX4_holderOf_51 ?_
  exact pm_iret rfl dX4_holderOf_54 (pm_ri_e hf)
def fX9_clear (S : pm_S) (a0 : Nat) (σ : pm_H) : Option (pm_H) :=
  pm_let (pm_si σ a0 0 (0 : Int32)) fun s1 => pm_let (pm_si s1 a0 1 (0 : Int32)) fun s2 => pm_let (pm_si s2 a0 3 (0 : Int32)) fun s3 => pm_let (pm_si s3 a0 6 (0 : Int32)) fun s4 => pm_let (pm_si s4 a0 8 (0 : Int32)) fun s5 => pm_let (pm_si s5 a0 10 (0 : Int32)) fun s6 => some s6
set_option maxRecDepth 100000 in
set_option maxHeartbeats 4000000 in
theorem KX9_clear (l : Launch) {S : pm_S} {p : pm_H} {a0 : Nat} {σ : pm_H} (h0 : pm_is S a0 12) (hf : fX9_clear S a0 σ = some p) : pm_M l yX9_clear cX9_clear 1 none false 0 [.ref a0] S σ (pm_ru S p) := by
  refine pm_M.of (by decide +kernel) (Nat.le_of_ble_eq_true rfl) ?_
  show pm_E l yX9_clear cX9_clear 1 none false 0 S (pm_ru S p) 0 [(0, .ref a0)] [] S σ
  rw [fX9_clear] at hf
  refine pm_aload_n (pc := 0) 0 dX9_clear_0 rfl rfl h0.pos ?_
  refine pm_iconst (pc := 1) (0 : Int32) (by decide) dX9_clear_1 ?_
  refine pm_putI (pc := 2) (k := 0) pm_cl9 flX9_27 (by decide) rfl rfl rfl h0 dX9_clear_2 ?_
  obtain ⟨s1, es1, hf⟩ := pm_let_e hf
  refine pm_nmh es1 ?_
  refine pm_aload_n (pc := 5) 0 dX9_clear_5 rfl rfl h0.pos ?_
  refine pm_iconst (pc := 6) (0 : Int32) (by decide) dX9_clear_6 ?_
  refine pm_putI (pc := 7) (k := 1) pm_cl9 flX9_31 (by decide) rfl rfl rfl h0 dX9_clear_7 ?_
  obtain ⟨s2, es2, hf⟩ := pm_let_e hf
  refine pm_nmh es2 ?_
  refine pm_aload_n (pc := 10) 0 dX9_clear_10 rfl rfl h0.pos ?_
  refine pm_iconst (pc := 11) (0 : Int32) (by decide) dX9_clear_11 ?_
  refine pm_putI (pc := 12) (k := 3) pm_cl9 flX9_34 (by decide) rfl rfl rfl h0 dX9_clear_12 ?_
  obtain ⟨s3, es3, hf⟩ := pm_let_e hf
  refine pm_nmh es3 ?_
  refine pm_aload_n (pc := 15) 0 dX9_clear_15 rfl rfl h0.pos ?_
  refine pm_iconst (pc := 16) (0 : Int32) (by decide) dX9_clear_16 ?_
  refine pm_putI (pc := 17) (k := 6) pm_cl9 flX9_37 (by decide) rfl rfl rfl h0 dX9_clear_17 ?_
  obtain ⟨s4, es4, hf⟩ := pm_let_e hf
  refine pm_nmh es4 ?_
  refine pm_aload_n (pc := 20) 0 dX9_clear_20 rfl rfl h0.pos ?_
  refine pm_iconst (pc := 21) (0 : Int32) (by decide) dX9_clear_21 ?_
  refine pm_putI (pc := 22) (k := 8) pm_cl9 flX9_40 (by decide) rfl rfl rfl h0 dX9_clear_22 ?_
  obtain ⟨s5, es5, hf⟩ := pm_let_e hf
  refine pm_nmh es5 ?_
  refine pm_aload_n (pc := 25) 0 dX9_clear_25 rfl rfl h0.pos ?_
  refine pm_iconst (pc := 26) (0 : Int32) (by decide) dX9_clear_26 ?_
  refine pm_putI (pc := 27) (k := 10) pm_cl9 flX9_43 (by decide) rfl rfl rfl h0 dX9_clear_27 ?_
  obtain ⟨s6, es6, hf⟩ := pm_let_e hf
  refine pm_nmh es6 ?_
  exact pm_vret rfl dX9_clear_30 (pm_ru_e hf)
def fX5_skipBlanks_L0 (S : pm_S) (v0 : Nat) (kx : pm_H → Option (pm_H)) : Nat → pm_H → Option (pm_H)
  | 0, _ => none
  | n + 1, σ => (if (σ.1 v0 3) ≤ (σ.1 v0 4) then kx σ else (if pm_ib (σ.1 v0 4) (pm_len S (σ.2 v0 2)) = true then (if (σ.1 (σ.2 v0 2) ((σ.1 v0 4)).toNatClampNeg) = (32 : Int32) then pm_let (pm_si σ v0 4 ((σ.1 v0 4) + (1 : Int32))) fun s3 => fX5_skipBlanks_L0 S v0 kx n s3 else kx σ) else none))
set_option maxRecDepth 100000 in
set_option maxHeartbeats 4000000 in
theorem fX5_skipBlanks_L0_E (l : Launch) {S : pm_S} {p : pm_H} {v0 : Nat} {kx : pm_H → Option (pm_H)} (h0 : pm_is S v0 8) (hkx : ∀  sw, kx  sw = some p → pm_E l yX5_skipBlanks cX5_skipBlanks 1 none false 0 S (pm_ru S p) 38 [] [] S sw) : ∀ (n : Nat)  (σ : pm_H), fX5_skipBlanks_L0 S v0 kx n σ = some p → pm_E l yX5_skipBlanks cX5_skipBlanks 1 none false 0 S (pm_ru S p) 0 [(0, .ref v0)] [] S σ := by
  intro n
  induction n with
  | zero => intro σ hf; cases hf
  | succ n ih =>
    intro σ hf
    rw [fX5_skipBlanks_L0] at hf
    refine pm_aload_n (pc := 0) 0 dX5_skipBlanks_0 rfl rfl h0.pos ?_
    refine pm_getI (pc := 1) (k := 4) pm_cl5 flX5_28 (by decide) rfl h0 dX5_skipBlanks_1 ?_
    refine pm_aload_n (pc := 4) 0 dX5_skipBlanks_4 rfl rfl h0.pos ?_
    refine pm_getI (pc := 5) (k := 3) pm_cl5 flX5_25 (by decide) rfl h0 dX5_skipBlanks_5 ?_
    refine pm_icmp_ge (pc := 8) 38 dX5_skipBlanks_8 (by decide) (fun hc5 => ?_) (fun hc5 => ?_)
    · rw [if_pos hc5] at hf
      refine pm_lv [] [] rfl ?_
      exact hkx σ hf
    · rw [if_neg hc5] at hf
      refine pm_aload_n (pc := 11) 0 dX5_skipBlanks_11 rfl rfl h0.pos ?_
      refine pm_getT (pc := 12) (k := 2) pm_cl5 flX5_9 (by decide) rfl h0 dX5_skipBlanks_12 (fun hr1 => ?_)
      refine pm_aload_n (pc := 15) 0 dX5_skipBlanks_15 rfl rfl h0.pos ?_
      refine pm_getI (pc := 16) (k := 4) pm_cl5 flX5_28 (by decide) rfl h0 dX5_skipBlanks_16 ?_
      obtain ⟨hb2, hf⟩ := pm_gd hf
      refine pm_iald (pc := 19) hr1 (pm_ib_in hb2) dX5_skipBlanks_19 ?_
      refine pm_bipush (pc := 20) (32 : Int32) (by decide) dX5_skipBlanks_20 ?_
      refine pm_icmp_ne (pc := 22) 38 dX5_skipBlanks_22 (by decide) (fun hc4 => ?_) (fun hc4 => ?_)
      · rw [if_pos hc4] at hf
        refine pm_aload_n (pc := 25) 0 dX5_skipBlanks_25 rfl rfl h0.pos ?_
        refine pm_dup (pc := 26) rfl dX5_skipBlanks_26 ?_
        refine pm_getI (pc := 27) (k := 4) pm_cl5 flX5_28 (by decide) rfl h0 dX5_skipBlanks_27 ?_
        refine pm_iconst (pc := 30) (1 : Int32) (by decide) dX5_skipBlanks_30 ?_
        refine pm_iadd (pc := 31) dX5_skipBlanks_31 ?_
        refine pm_putI (pc := 32) (k := 4) pm_cl5 flX5_28 (by decide) rfl rfl rfl h0 dX5_skipBlanks_32 ?_
        obtain ⟨s3, es3, hf⟩ := pm_let_e hf
        refine pm_nmh es3 ?_
        refine pm_goto (pc := 35) 0 dX5_skipBlanks_35 (by decide) ?_
        refine pm_lv [(0, .ref v0)] [0] rfl ?_
        exact ih s3 hf
      · rw [if_neg hc4] at hf
        refine pm_lv [] [] rfl ?_
        exact hkx σ hf
def fX5_skipBlanks (S : pm_S) (a0 : Nat) (σ : pm_H) : Option (pm_H) :=
  fX5_skipBlanks_L0 S a0 (fun s6 => some s6) pm_fuel  σ
set_option maxRecDepth 100000 in
set_option maxHeartbeats 4000000 in
theorem KX5_skipBlanks (l : Launch) {S : pm_S} {p : pm_H} {a0 : Nat} {σ : pm_H} (h0 : pm_is S a0 8) (hf : fX5_skipBlanks S a0 σ = some p) : pm_M l yX5_skipBlanks cX5_skipBlanks 1 none false 0 [.ref a0] S σ (pm_ru S p) := by
  refine pm_M.of (by decide +kernel) (Nat.le_of_ble_eq_true rfl) ?_
  show pm_E l yX5_skipBlanks cX5_skipBlanks 1 none false 0 S (pm_ru S p) 0 [(0, .ref a0)] [] S σ
  rw [fX5_skipBlanks] at hf
  refine pm_lv [(0, .ref a0)] [0] rfl ?_
  refine fX5_skipBlanks_L0_E l h0 (fun s6 hf => ?_) pm_fuel  σ hf
  exact pm_vret rfl dX5_skipBlanks_38 (pm_ru_e hf)
def fX5_blame (S : pm_S) (a0 : Nat) (a1 : Int32) (a2 : Int32) (σ : pm_H) : Option (pm_H) :=
  (if (σ.1 a0 0) = 0 then pm_let (pm_si σ a0 0 a1) fun s1 => pm_let (pm_si s1 a0 1 a2) fun s2 => some s2 else some σ)
set_option maxRecDepth 100000 in
set_option maxHeartbeats 4000000 in
theorem KX5_blame (l : Launch) {S : pm_S} {p : pm_H} {a0 : Nat} {a1 : Int32} {a2 : Int32} {σ : pm_H} (h0 : pm_is S a0 8) (hf : fX5_blame S a0 a1 a2 σ = some p) : pm_M l yX5_blame cX5_blame 3 none false 0 [.ref a0, .int a1, .int a2] S σ (pm_ru S p) := by
  refine pm_M.of (by decide +kernel) (Nat.le_of_ble_eq_true rfl) ?_
  show pm_E l yX5_blame cX5_blame 3 none false 0 S (pm_ru S p) 0 [(0, .ref a0), (1, .int a1), (2, .int a2)] [] S σ
  rw [fX5_blame] at hf
  refine pm_aload_n (pc := 0) 0 dX5_blame_0 rfl rfl h0.pos ?_
  refine pm_getI (pc := 1) (k := 0) pm_cl5 flX5_31 (by decide) rfl h0 dX5_blame_1 ?_
  refine pm_if_ne (pc := 4) 17 dX5_blame_4 (by decide) (fun hc3 => ?_) (fun hc3 => ?_)
  · rw [if_pos hc3] at hf
    refine pm_aload_n (pc := 7) 0 dX5_blame_7 rfl rfl h0.pos ?_
    refine pm_iload_n (pc := 8) 1 dX5_blame_8 rfl rfl ?_
    refine pm_putI (pc := 9) (k := 0) pm_cl5 flX5_31 (by decide) rfl rfl rfl h0 dX5_blame_9 ?_
    obtain ⟨s1, es1, hf⟩ := pm_let_e hf
    refine pm_nmh es1 ?_
    refine pm_aload_n (pc := 12) 0 dX5_blame_12 rfl rfl h0.pos ?_
    refine pm_iload_n (pc := 13) 2 dX5_blame_13 rfl rfl ?_
    refine pm_putI (pc := 14) (k := 1) pm_cl5 flX5_15 (by decide) rfl rfl rfl h0 dX5_blame_14 ?_
    obtain ⟨s2, es2, hf⟩ := pm_let_e hf
    refine pm_nmh es2 ?_
    exact pm_vret rfl dX5_blame_17 (pm_ru_e hf)
  · rw [if_neg hc3] at hf
    exact pm_vret rfl dX5_blame_17 (pm_ru_e hf)
def fX5_takeWord (S : pm_S) (a0 : Nat) (a1 : Int32) (σ : pm_H) : Option (Int32 × pm_H) :=
  (if a1 = 0 then Option.bind (fX5_blame S a0 (3 : Int32) (σ.1 a0 4) σ) fun u2 => some ((0 : Int32), u2) else pm_let (pm_si σ a0 4 ((σ.1 a0 4) + (1 : Int32))) fun s1 => some ((1 : Int32), s1))
set_option maxRecDepth 100000 in
set_option maxHeartbeats 4000000 in
theorem KX5_takeWord (l : Launch) {S : pm_S} {p : Int32 × pm_H} {a0 : Nat} {a1 : Int32} {σ : pm_H} (h0 : pm_is S a0 8) (hf : fX5_takeWord S a0 a1 σ = some p) : pm_M l yX5_takeWord cX5_takeWord 2 (some .boolean) false 1 [.ref a0, .int a1] S σ (pm_ri S p) := by
  refine pm_M.of (by decide +kernel) (Nat.le_of_ble_eq_true rfl) ?_
  show pm_E l yX5_takeWord cX5_takeWord 2 (some .boolean) false 1 S (pm_ri S p) 0 [(0, .ref a0), (1, .int a1)] [] S σ
  rw [fX5_takeWord] at hf
  refine pm_iload_n (pc := 0) 1 dX5_takeWord_0 rfl rfl ?_
  refine pm_if_ne (pc := 1) 15 dX5_takeWord_1 (by decide) (fun hc3 => ?_) (fun hc3 => ?_)
  · rw [if_pos hc3] at hf
    refine pm_aload_n (pc := 4) 0 dX5_takeWord_4 rfl rfl h0.pos ?_
    refine pm_iconst (pc := 5) (3 : Int32) (by decide) dX5_takeWord_5 ?_
    refine pm_aload_n (pc := 6) 0 dX5_takeWord_6 rfl rfl h0.pos ?_
    refine pm_getI (pc := 7) (k := 4) pm_cl5 flX5_28 (by decide) rfl h0 dX5_takeWord_7 ?_
    obtain ⟨u2, hu2, hf⟩ := pm_bind_e hf
    refine pm_cVu (pc := 10) (as := [.int (3 : Int32), .int (σ.1 a0 4)]) (st := []) mvX5_49 (KX5_blame l h0 hu2) (by decide) h0 rfl rfl (Nat.le_of_ble_eq_true rfl) rfl dX5_takeWord_10 ?_
    refine pm_iconst (pc := 13) (0 : Int32) (by decide) dX5_takeWord_13 ?_
    exact pm_zret rfl (by decide) dX5_takeWord_14 (pm_ri_e hf)
  · rw [if_neg hc3] at hf
    refine pm_aload_n (pc := 15) 0 dX5_takeWord_15 rfl rfl h0.pos ?_
    refine pm_dup (pc := 16) rfl dX5_takeWord_16 ?_
    refine pm_getI (pc := 17) (k := 4) pm_cl5 flX5_28 (by decide) rfl h0 dX5_takeWord_17 ?_
    refine pm_iconst (pc := 20) (1 : Int32) (by decide) dX5_takeWord_20 ?_
    refine pm_iadd (pc := 21) dX5_takeWord_21 ?_
    refine pm_putI (pc := 22) (k := 4) pm_cl5 flX5_28 (by decide) rfl rfl rfl h0 dX5_takeWord_22 ?_
    obtain ⟨s1, es1, hf⟩ := pm_let_e hf
    refine pm_nmh es1 ?_
    refine pm_iconst (pc := 25) (1 : Int32) (by decide) dX5_takeWord_25 ?_
    exact pm_zret rfl (by decide) dX5_takeWord_26 (pm_ri_e hf)
def fX5_takeNumber_L14 (S : pm_S) (v0 : Nat) (v1 : Int32) (v2 : Int32) (kx : Int32 → pm_H → Option (Int32 × pm_H)) : Nat → Int32 → pm_H → Option (Int32 × pm_H)
  | 0, _, _ => none
  | n + 1, v3, σ => (if (σ.1 v0 3) ≤ (σ.1 v0 4) then kx v3 σ else (if pm_ib (σ.1 v0 4) (pm_len S (σ.2 v0 2)) = true then (if (σ.1 (σ.2 v0 2) ((σ.1 v0 4)).toNatClampNeg) < (48 : Int32) then kx v3 σ else (if pm_ib (σ.1 v0 4) (pm_len S (σ.2 v0 2)) = true then (if (57 : Int32) < (σ.1 (σ.2 v0 2) ((σ.1 v0 4)).toNatClampNeg) then kx v3 σ else (if pm_ib (σ.1 v0 4) (pm_len S (σ.2 v0 2)) = true then pm_let (pm_min (((v3 * (10 : Int32)) + (σ.1 (σ.2 v0 2) ((σ.1 v0 4)).toNatClampNeg)) - (48 : Int32)) (9999 : Int32)) fun x9 => pm_let (pm_si σ v0 4 ((σ.1 v0 4) + (1 : Int32))) fun s10 => fX5_takeNumber_L14 S v0 v1 v2 kx n x9 s10 else none)) else none)) else none))
set_option maxRecDepth 100000 in
set_option maxHeartbeats 4000000 in
theorem fX5_takeNumber_L14_E (l : Launch) {S : pm_S} {p : Int32 × pm_H} {v0 : Nat} {v1 : Int32} {v2 : Int32} {kx : Int32 → pm_H → Option (Int32 × pm_H)} (h0 : pm_is S v0 8) (hkx : ∀ w3 sw, kx w3 sw = some p → pm_E l yX5_takeNumber cX5_takeNumber 5 (some .int) false 1 S (pm_ri S p) 90 [(0, .ref v0), (1, .int v1), (2, .int v2), (3, .int w3)] [] S sw) : ∀ (n : Nat) (v3 : Int32) (σ : pm_H), fX5_takeNumber_L14 S v0 v1 v2 kx n v3 σ = some p → pm_E l yX5_takeNumber cX5_takeNumber 5 (some .int) false 1 S (pm_ri S p) 14 [(0, .ref v0), (1, .int v1), (2, .int v2), (3, .int v3)] [] S σ := by
  intro n
  induction n with
  | zero => intro v3 σ hf; cases hf
  | succ n ih =>
    intro v3 σ hf
    rw [fX5_takeNumber_L14] at hf
    refine pm_aload_n (pc := 14) 0 dX5_takeNumber_14 rfl rfl h0.pos ?_
    refine pm_getI (pc := 15) (k := 4) pm_cl5 flX5_28 (by decide) rfl h0 dX5_takeNumber_15 ?_
    refine pm_aload_n (pc := 18) 0 dX5_takeNumber_18 rfl rfl h0.pos ?_
    refine pm_getI (pc := 19) (k := 3) pm_cl5 flX5_25 (by decide) rfl h0 dX5_takeNumber_19 ?_
    refine pm_icmp_ge (pc := 22) 90 dX5_takeNumber_22 (by decide) (fun hc13 => ?_) (fun hc13 => ?_)
    · rw [if_pos hc13] at hf
      refine pm_lv [(0, .ref v0), (1, .int v1), (2, .int v2), (3, .int v3)] [0, 1, 2, 3] rfl ?_
      exact hkx v3 σ hf
    · rw [if_neg hc13] at hf
      refine pm_aload_n (pc := 25) 0 dX5_takeNumber_25 rfl rfl h0.pos ?_
      refine pm_getT (pc := 26) (k := 2) pm_cl5 flX5_9 (by decide) rfl h0 dX5_takeNumber_26 (fun hr3 => ?_)
      refine pm_aload_n (pc := 29) 0 dX5_takeNumber_29 rfl rfl h0.pos ?_
      refine pm_getI (pc := 30) (k := 4) pm_cl5 flX5_28 (by decide) rfl h0 dX5_takeNumber_30 ?_
      obtain ⟨hb4, hf⟩ := pm_gd hf
      refine pm_iald (pc := 33) hr3 (pm_ib_in hb4) dX5_takeNumber_33 ?_
      refine pm_bipush (pc := 34) (48 : Int32) (by decide) dX5_takeNumber_34 ?_
      refine pm_icmp_lt (pc := 36) 90 dX5_takeNumber_36 (by decide) (fun hc12 => ?_) (fun hc12 => ?_)
      · rw [if_pos hc12] at hf
        refine pm_lv [(0, .ref v0), (1, .int v1), (2, .int v2), (3, .int v3)] [0, 1, 2, 3] rfl ?_
        exact hkx v3 σ hf
      · rw [if_neg hc12] at hf
        refine pm_aload_n (pc := 39) 0 dX5_takeNumber_39 rfl rfl h0.pos ?_
        refine pm_getT (pc := 40) (k := 2) pm_cl5 flX5_9 (by decide) rfl h0 dX5_takeNumber_40 (fun hr5 => ?_)
        refine pm_aload_n (pc := 43) 0 dX5_takeNumber_43 rfl rfl h0.pos ?_
        refine pm_getI (pc := 44) (k := 4) pm_cl5 flX5_28 (by decide) rfl h0 dX5_takeNumber_44 ?_
        obtain ⟨hb6, hf⟩ := pm_gd hf
        refine pm_iald (pc := 47) hr5 (pm_ib_in hb6) dX5_takeNumber_47 ?_
        refine pm_bipush (pc := 48) (57 : Int32) (by decide) dX5_takeNumber_48 ?_
        refine pm_icmp_gt (pc := 50) 90 dX5_takeNumber_50 (by decide) (fun hc11 => ?_) (fun hc11 => ?_)
        · rw [if_pos hc11] at hf
          refine pm_lv [(0, .ref v0), (1, .int v1), (2, .int v2), (3, .int v3)] [0, 1, 2, 3] rfl ?_
          exact hkx v3 σ hf
        · rw [if_neg hc11] at hf
          refine pm_iload_n (pc := 53) 3 dX5_takeNumber_53 rfl rfl ?_
          refine pm_bipush (pc := 54) (10 : Int32) (by decide) dX5_takeNumber_54 ?_
          refine pm_imul (pc := 56) dX5_takeNumber_56 ?_
          refine pm_aload_n (pc := 57) 0 dX5_takeNumber_57 rfl rfl h0.pos ?_
          refine pm_getT (pc := 58) (k := 2) pm_cl5 flX5_9 (by decide) rfl h0 dX5_takeNumber_58 (fun hr7 => ?_)
          refine pm_aload_n (pc := 61) 0 dX5_takeNumber_61 rfl rfl h0.pos ?_
          refine pm_getI (pc := 62) (k := 4) pm_cl5 flX5_28 (by decide) rfl h0 dX5_takeNumber_62 ?_
          obtain ⟨hb8, hf⟩ := pm_gd hf
          refine pm_iald (pc := 65) hr7 (pm_ib_in hb8) dX5_takeNumber_65 ?_
          refine pm_iadd (pc := 66) dX5_takeNumber_66 ?_
          refine pm_bipush (pc := 67) (48 : Int32) (by decide) dX5_takeNumber_67 ?_
          refine pm_isub (pc := 69) dX5_takeNumber_69 ?_
          refine pm_sipush (pc := 70) (9999 : Int32) (by decide) dX5_takeNumber_70 ?_
          refine pm_mmin (pc := 73) (st := []) mmX5_19 (Nat.le_of_ble_eq_true rfl) (by decide) rfl dX5_takeNumber_73 ?_
          obtain ⟨x9, ex9, hf⟩ := pm_let_e hf
          refine pm_nmi ex9 ?_
          refine pm_istore_n (pc := 76) [(3, .int x9), (0, .ref v0), (1, .int v1), (2, .int v2)] dX5_takeNumber_76 rfl (by decide) rfl ?_
          refine pm_aload_n (pc := 77) 1 dX5_takeNumber_77 rfl rfl h0.pos ?_
          refine pm_dup (pc := 78) rfl dX5_takeNumber_78 ?_
          refine pm_getI (pc := 79) (k := 4) pm_cl5 flX5_28 (by decide) rfl h0 dX5_takeNumber_79 ?_
          refine pm_iconst (pc := 82) (1 : Int32) (by decide) dX5_takeNumber_82 ?_
          refine pm_iadd (pc := 83) dX5_takeNumber_83 ?_
          refine pm_putI (pc := 84) (k := 4) pm_cl5 flX5_28 (by decide) rfl rfl rfl h0 dX5_takeNumber_84 ?_
          obtain ⟨s10, es10, hf⟩ := pm_let_e hf
          refine pm_nmh es10 ?_
          refine pm_goto (pc := 87) 14 dX5_takeNumber_87 (by decide) ?_
          refine pm_lv [(0, .ref v0), (1, .int v1), (2, .int v2), (3, .int x9)] [1, 2, 3, 0] rfl ?_
          exact ih x9 s10 hf
def fX5_takeNumber_J90 (S : pm_S) (v0 : Nat) (v1 : Int32) (v2 : Int32) (v3 : Int32) (σ : pm_H) : Option (Int32 × pm_H) :=
  pm_let ((σ.1 v0 4) - (σ.1 v0 5)) fun x16 => (if x16 = 0 then Option.bind (fX5_blame S v0 (1 : Int32) (σ.1 v0 4) σ) fun u22 => some (v3, u22) else (if (3 : Int32) < x16 then Option.bind (fX5_blame S v0 (2 : Int32) (σ.1 v0 5) σ) fun u17 => some (v3, u17) else Option.bind (fX11_within S v3 v1 v2 σ) fun u18 => (if u18.1 = 0 then Option.bind (fX5_blame S v0 (2 : Int32) (u18.2.1 v0 5) u18.2) fun u19 => some (v3, u19) else some (v3, u18.2))))
set_option maxRecDepth 100000 in
set_option maxHeartbeats 4000000 in
theorem fX5_takeNumber_J90_E (l : Launch) {S : pm_S} {p : Int32 × pm_H} {v0 : Nat} {v1 : Int32} {v2 : Int32} {v3 : Int32} {σ : pm_H} (h0 : pm_is S v0 8) (hf : fX5_takeNumber_J90 S v0 v1 v2 v3 σ = some p) : pm_E l yX5_takeNumber cX5_takeNumber 5 (some .int) false 1 S (pm_ri S p) 90 [(0, .ref v0), (1, .int v1), (2, .int v2), (3, .int v3)] [] S σ := by
  rw [fX5_takeNumber_J90] at hf
  refine pm_aload_n (pc := 90) 0 dX5_takeNumber_90 rfl rfl h0.pos ?_
  refine pm_getI (pc := 91) (k := 4) pm_cl5 flX5_28 (by decide) rfl h0 dX5_takeNumber_91 ?_
  refine pm_aload_n (pc := 94) 0 dX5_takeNumber_94 rfl rfl h0.pos ?_
  refine pm_getI (pc := 95) (k := 5) pm_cl5 flX5_88 (by decide) rfl h0 dX5_takeNumber_95 ?_
  refine pm_isub (pc := 98) dX5_takeNumber_98 ?_
  obtain ⟨x16, ex16, hf⟩ := pm_let_e hf
  refine pm_nmi ex16 ?_
  refine pm_istore (pc := 99) [(4, .int x16), (0, .ref v0), (1, .int v1), (2, .int v2), (3, .int v3)] dX5_takeNumber_99 (by decide) rfl ?_
  refine pm_iload (pc := 101) 0 dX5_takeNumber_101 rfl ?_
  refine pm_if_ne (pc := 103) 118 dX5_takeNumber_103 (by decide) (fun hc23 => ?_) (fun hc23 => ?_)
  · rw [if_pos hc23] at hf
    refine pm_aload_n (pc := 106) 1 dX5_takeNumber_106 rfl rfl h0.pos ?_
    refine pm_iconst (pc := 107) (1 : Int32) (by decide) dX5_takeNumber_107 ?_
    refine pm_aload_n (pc := 108) 1 dX5_takeNumber_108 rfl rfl h0.pos ?_
    refine pm_getI (pc := 109) (k := 4) pm_cl5 flX5_28 (by decide) rfl h0 dX5_takeNumber_109 ?_
    obtain ⟨u22, hu22, hf⟩ := pm_bind_e hf
    refine pm_cVu (pc := 112) (as := [.int (1 : Int32), .int (σ.1 v0 4)]) (st := []) mvX5_49 (KX5_blame l h0 hu22) (by decide) h0 rfl rfl (Nat.le_of_ble_eq_true rfl) rfl dX5_takeNumber_112 ?_
    refine pm_goto (pc := 115) 142 dX5_takeNumber_115 (by decide) ?_
    refine pm_iload_n (pc := 142) 4 dX5_takeNumber_142 rfl rfl ?_
    exact pm_iret rfl dX5_takeNumber_143 (pm_ri_e hf)
  · rw [if_neg hc23] at hf
    refine pm_iload (pc := 118) 0 dX5_takeNumber_118 rfl ?_
    refine pm_iconst (pc := 120) (3 : Int32) (by decide) dX5_takeNumber_120 ?_
    refine pm_icmp_gt (pc := 121) 133 dX5_takeNumber_121 (by decide) (fun hc21 => ?_) (fun hc21 => ?_)
    · rw [if_pos hc21] at hf
      refine pm_aload_n (pc := 133) 1 dX5_takeNumber_133 rfl rfl h0.pos ?_
      refine pm_iconst (pc := 134) (2 : Int32) (by decide) dX5_takeNumber_134 ?_
      refine pm_aload_n (pc := 135) 1 dX5_takeNumber_135 rfl rfl h0.pos ?_
      refine pm_getI (pc := 136) (k := 5) pm_cl5 flX5_88 (by decide) rfl h0 dX5_takeNumber_136 ?_
      obtain ⟨u17, hu17, hf⟩ := pm_bind_e hf
      refine pm_cVu (pc := 139) (as := [.int (2 : Int32), .int (σ.1 v0 5)]) (st := []) mvX5_49 (KX5_blame l h0 hu17) (by decide) h0 rfl rfl (Nat.le_of_ble_eq_true rfl) rfl dX5_takeNumber_139 ?_
      refine pm_iload_n (pc := 142) 4 dX5_takeNumber_142 rfl rfl ?_
      exact pm_iret rfl dX5_takeNumber_143 (pm_ri_e hf)
    · rw [if_neg hc21] at hf
      refine pm_iload_n (pc := 124) 4 dX5_takeNumber_124 rfl rfl ?_
      refine pm_iload_n (pc := 125) 2 dX5_takeNumber_125 rfl rfl ?_
      refine pm_iload_n (pc := 126) 3 dX5_takeNumber_126 rfl rfl ?_
      obtain ⟨u18, hu18, hf⟩ := pm_bind_e hf
      refine pm_cNi (pc := 127) (as := [.int v3, .int v1, .int v2]) (st := []) mnX5_118 (KX11_within l  hu18) (by decide) rfl rfl (Nat.le_of_ble_eq_true rfl) rfl dX5_takeNumber_127 ?_
      refine pm_if_ne (pc := 130) 142 dX5_takeNumber_130 (by decide) (fun hc20 => ?_) (fun hc20 => ?_)
      · rw [if_pos hc20] at hf
        refine pm_aload_n (pc := 133) 1 dX5_takeNumber_133 rfl rfl h0.pos ?_
        refine pm_iconst (pc := 134) (2 : Int32) (by decide) dX5_takeNumber_134 ?_
        refine pm_aload_n (pc := 135) 1 dX5_takeNumber_135 rfl rfl h0.pos ?_
        refine pm_getI (pc := 136) (k := 5) pm_cl5 flX5_88 (by decide) rfl h0 dX5_takeNumber_136 ?_
        obtain ⟨u19, hu19, hf⟩ := pm_bind_e hf
        refine pm_cVu (pc := 139) (as := [.int (2 : Int32), .int (u18.2.1 v0 5)]) (st := []) mvX5_49 (KX5_blame l h0 hu19) (by decide) h0 rfl rfl (Nat.le_of_ble_eq_true rfl) rfl dX5_takeNumber_139 ?_
        refine pm_iload_n (pc := 142) 4 dX5_takeNumber_142 rfl rfl ?_
        exact pm_iret rfl dX5_takeNumber_143 (pm_ri_e hf)
      · rw [if_neg hc20] at hf
        refine pm_iload_n (pc := 142) 4 dX5_takeNumber_142 rfl rfl ?_
        exact pm_iret rfl dX5_takeNumber_143 (pm_ri_e hf)
def fX5_takeNumber (S : pm_S) (a0 : Nat) (a1 : Int32) (a2 : Int32) (σ : pm_H) : Option (Int32 × pm_H) :=
  Option.bind (fX5_skipBlanks S a0 σ) fun u1 => pm_let (pm_si u1 a0 5 (u1.1 a0 4)) fun s2 => fX5_takeNumber_L14 S a0 a1 a2 (fun w14 s15 => fX5_takeNumber_J90 S a0 a1 a2 w14 s15) pm_fuel (0 : Int32) s2
set_option maxRecDepth 100000 in
set_option maxHeartbeats 4000000 in
theorem KX5_takeNumber (l : Launch) {S : pm_S} {p : Int32 × pm_H} {a0 : Nat} {a1 : Int32} {a2 : Int32} {σ : pm_H} (h0 : pm_is S a0 8) (hf : fX5_takeNumber S a0 a1 a2 σ = some p) : pm_M l yX5_takeNumber cX5_takeNumber 5 (some .int) false 1 [.ref a0, .int a1, .int a2] S σ (pm_ri S p) := by
  refine pm_M.of (by decide +kernel) (Nat.le_of_ble_eq_true rfl) ?_
  show pm_E l yX5_takeNumber cX5_takeNumber 5 (some .int) false 1 S (pm_ri S p) 0 [(0, .ref a0), (1, .int a1), (2, .int a2)] [] S σ
  rw [fX5_takeNumber] at hf
  refine pm_aload_n (pc := 0) 0 dX5_takeNumber_0 rfl rfl h0.pos ?_
  obtain ⟨u1, hu1, hf⟩ := pm_bind_e hf
  refine pm_cVu (pc := 1) (as := []) (st := []) mvX5_39 (KX5_skipBlanks l h0 hu1) (by decide) h0 rfl rfl (Nat.le_of_ble_eq_true rfl) rfl dX5_takeNumber_1 ?_
  refine pm_aload_n (pc := 4) 0 dX5_takeNumber_4 rfl rfl h0.pos ?_
  refine pm_aload_n (pc := 5) 0 dX5_takeNumber_5 rfl rfl h0.pos ?_
  refine pm_getI (pc := 6) (k := 4) pm_cl5 flX5_28 (by decide) rfl h0 dX5_takeNumber_6 ?_
  refine pm_putI (pc := 9) (k := 5) pm_cl5 flX5_88 (by decide) rfl rfl rfl h0 dX5_takeNumber_9 ?_
  obtain ⟨s2, es2, hf⟩ := pm_let_e hf
  refine pm_nmh es2 ?_
  refine pm_iconst (pc := 12) (0 : Int32) (by decide) dX5_takeNumber_12 ?_
  refine pm_istore_n (pc := 13) [(3, .int (0 : Int32)), (0, .ref a0), (1, .int a1), (2, .int a2)] dX5_takeNumber_13 rfl (by decide) rfl ?_
  refine pm_lv [(0, .ref a0), (1, .int a1), (2, .int a2), (3, .int (0 : Int32))] [1, 2, 3, 0] rfl ?_
  refine fX5_takeNumber_L14_E l h0 (fun w14 s15 hf => ?_) pm_fuel (0 : Int32) s2 hf
  refine pm_lv [(0, .ref a0), (1, .int a1), (2, .int a2), (3, .int w14)] [0, 1, 2, 3] rfl ?_
  exact fX5_takeNumber_J90_E l h0 hf
def fX5_takeSign (S : pm_S) (a0 : Nat) (a1 : Int32) (σ : pm_H) : Option (Int32 × pm_H) :=
  Option.bind (fX5_skipBlanks S a0 σ) fun u1 => (if (u1.1 a0 3) ≤ (u1.1 a0 4) then some ((0 : Int32), u1) else (if pm_ib (u1.1 a0 4) (pm_len S (u1.2 a0 2)) = true then (if (u1.1 (u1.2 a0 2) ((u1.1 a0 4)).toNatClampNeg) = a1 then pm_let (pm_si u1 a0 4 ((u1.1 a0 4) + (1 : Int32))) fun s4 => some ((1 : Int32), s4) else some ((0 : Int32), u1)) else none))
set_option maxRecDepth 100000 in
set_option maxHeartbeats 4000000 in
theorem KX5_takeSign (l : Launch) {S : pm_S} {p : Int32 × pm_H} {a0 : Nat} {a1 : Int32} {σ : pm_H} (h0 : pm_is S a0 8) (hf : fX5_takeSign S a0 a1 σ = some p) : pm_M l yX5_takeSign cX5_takeSign 2 (some .boolean) false 1 [.ref a0, .int a1] S σ (pm_ri S p) := by
  refine pm_M.of (by decide +kernel) (Nat.le_of_ble_eq_true rfl) ?_
  show pm_E l yX5_takeSign cX5_takeSign 2 (some .boolean) false 1 S (pm_ri S p) 0 [(0, .ref a0), (1, .int a1)] [] S σ
  rw [fX5_takeSign] at hf
  refine pm_aload_n (pc := 0) 0 dX5_takeSign_0 rfl rfl h0.pos ?_
  obtain ⟨u1, hu1, hf⟩ := pm_bind_e hf
  refine pm_cVu (pc := 1) (as := []) (st := []) mvX5_39 (KX5_skipBlanks l h0 hu1) (by decide) h0 rfl rfl (Nat.le_of_ble_eq_true rfl) rfl dX5_takeSign_1 ?_
  refine pm_aload_n (pc := 4) 0 dX5_takeSign_4 rfl rfl h0.pos ?_
  refine pm_getI (pc := 5) (k := 4) pm_cl5 flX5_28 (by decide) rfl h0 dX5_takeSign_5 ?_
  refine pm_aload_n (pc := 8) 0 dX5_takeSign_8 rfl rfl h0.pos ?_
  refine pm_getI (pc := 9) (k := 3) pm_cl5 flX5_25 (by decide) rfl h0 dX5_takeSign_9 ?_
  refine pm_icmp_ge (pc := 12) 28 dX5_takeSign_12 (by decide) (fun hc6 => ?_) (fun hc6 => ?_)
  · rw [if_pos hc6] at hf
    refine pm_iconst (pc := 28) (0 : Int32) (by decide) dX5_takeSign_28 ?_
    exact pm_zret rfl (by decide) dX5_takeSign_29 (pm_ri_e hf)
  · rw [if_neg hc6] at hf
    refine pm_aload_n (pc := 15) 0 dX5_takeSign_15 rfl rfl h0.pos ?_
    refine pm_getT (pc := 16) (k := 2) pm_cl5 flX5_9 (by decide) rfl h0 dX5_takeSign_16 (fun hr2 => ?_)
    refine pm_aload_n (pc := 19) 0 dX5_takeSign_19 rfl rfl h0.pos ?_
    refine pm_getI (pc := 20) (k := 4) pm_cl5 flX5_28 (by decide) rfl h0 dX5_takeSign_20 ?_
    obtain ⟨hb3, hf⟩ := pm_gd hf
    refine pm_iald (pc := 23) hr2 (pm_ib_in hb3) dX5_takeSign_23 ?_
    refine pm_iload_n (pc := 24) 1 dX5_takeSign_24 rfl rfl ?_
    refine pm_icmp_eq (pc := 25) 30 dX5_takeSign_25 (by decide) (fun hc5 => ?_) (fun hc5 => ?_)
    · rw [if_pos hc5] at hf
      refine pm_aload_n (pc := 30) 0 dX5_takeSign_30 rfl rfl h0.pos ?_
      refine pm_dup (pc := 31) rfl dX5_takeSign_31 ?_
      refine pm_getI (pc := 32) (k := 4) pm_cl5 flX5_28 (by decide) rfl h0 dX5_takeSign_32 ?_
      refine pm_iconst (pc := 35) (1 : Int32) (by decide) dX5_takeSign_35 ?_
      refine pm_iadd (pc := 36) dX5_takeSign_36 ?_
      refine pm_putI (pc := 37) (k := 4) pm_cl5 flX5_28 (by decide) rfl rfl rfl h0 dX5_takeSign_37 ?_
      obtain ⟨s4, es4, hf⟩ := pm_let_e hf
      refine pm_nmh es4 ?_
      refine pm_iconst (pc := 40) (1 : Int32) (by decide) dX5_takeSign_40 ?_
      exact pm_zret rfl (by decide) dX5_takeSign_41 (pm_ri_e hf)
    · rw [if_neg hc5] at hf
      refine pm_iconst (pc := 28) (0 : Int32) (by decide) dX5_takeSign_28 ?_
      exact pm_zret rfl (by decide) dX5_takeSign_29 (pm_ri_e hf)
def fX5_takeEnd (S : pm_S) (a0 : Nat) (σ : pm_H) : Option (pm_H) :=
  Option.bind (fX5_takeSign S a0 (59 : Int32) σ) fun u1 => (if u1.1 = 0 then Option.bind (fX5_blame S a0 (1 : Int32) (u1.2.1 a0 4) u1.2) fun u2 => some u2 else some u1.2)
set_option maxRecDepth 100000 in
set_option maxHeartbeats 4000000 in
theorem KX5_takeEnd (l : Launch) {S : pm_S} {p : pm_H} {a0 : Nat} {σ : pm_H} (h0 : pm_is S a0 8) (hf : fX5_takeEnd S a0 σ = some p) : pm_M l yX5_takeEnd cX5_takeEnd 1 none false 2 [.ref a0] S σ (pm_ru S p) := by
  refine pm_M.of (by decide +kernel) (Nat.le_of_ble_eq_true rfl) ?_
  show pm_E l yX5_takeEnd cX5_takeEnd 1 none false 2 S (pm_ru S p) 0 [(0, .ref a0)] [] S σ
  rw [fX5_takeEnd] at hf
  refine pm_aload_n (pc := 0) 0 dX5_takeEnd_0 rfl rfl h0.pos ?_
  refine pm_bipush (pc := 1) (59 : Int32) (by decide) dX5_takeEnd_1 ?_
  obtain ⟨u1, hu1, hf⟩ := pm_bind_e hf
  refine pm_cVi (pc := 3) (as := [.int (59 : Int32)]) (st := []) mvX5_115 (KX5_takeSign l h0 hu1) (by decide) h0 rfl rfl (Nat.le_of_ble_eq_true rfl) rfl dX5_takeEnd_3 ?_
  refine pm_if_ne (pc := 6) 18 dX5_takeEnd_6 (by decide) (fun hc3 => ?_) (fun hc3 => ?_)
  · rw [if_pos hc3] at hf
    refine pm_aload_n (pc := 9) 0 dX5_takeEnd_9 rfl rfl h0.pos ?_
    refine pm_iconst (pc := 10) (1 : Int32) (by decide) dX5_takeEnd_10 ?_
    refine pm_aload_n (pc := 11) 0 dX5_takeEnd_11 rfl rfl h0.pos ?_
    refine pm_getI (pc := 12) (k := 4) pm_cl5 flX5_28 (by decide) rfl h0 dX5_takeEnd_12 ?_
    obtain ⟨u2, hu2, hf⟩ := pm_bind_e hf
    refine pm_cVu (pc := 15) (as := [.int (1 : Int32), .int (u1.2.1 a0 4)]) (st := []) mvX5_49 (KX5_blame l h0 hu2) (by decide) h0 rfl rfl (Nat.le_of_ble_eq_true rfl) rfl dX5_takeEnd_15 ?_
    exact pm_vret rfl dX5_takeEnd_18 (pm_ru_e hf)
  · rw [if_neg hc3] at hf
    exact pm_vret rfl dX5_takeEnd_18 (pm_ru_e hf)
def fX5_readRod_J13 (S : pm_S) (v0 : Nat) (v1 : Nat) (t0 : Int32) (t1 : Nat) (σ : pm_H) : Option (pm_H) :=
  Option.bind (fX5_takeWord S t1 t0 σ) fun u1 => (if u1.1 = 0 then some u1.2 else Option.bind (fX5_takeNumber S v0 (12 : Int32) (240 : Int32) u1.2) fun u2 => Option.bind (fX5_takeNumber S v0 (0 : Int32) (9 : Int32) u2.2) fun u3 => Option.bind (fX5_takeEnd S v0 u3.2) fun u4 => (if (u4.1 v0 0) = 0 then pm_let (pm_si u4 v1 0 u2.1) fun s5 => pm_let (pm_si s5 v1 1 u3.1) fun s6 => some s6 else some u4))
set_option maxRecDepth 100000 in
set_option maxHeartbeats 4000000 in
theorem fX5_readRod_J13_E (l : Launch) {S : pm_S} {p : pm_H} {v0 : Nat} {v1 : Nat} {t0 : Int32} {t1 : Nat} {σ : pm_H} (h0 : pm_is S v0 8) (h1 : pm_is S v1 12) (g1 : pm_is S t1 8) (hf : fX5_readRod_J13 S v0 v1 t0 t1 σ = some p) : pm_E l yX5_readRod cX5_readRod 4 none false 3 S (pm_ru S p) 13 [(0, .ref v0), (1, .ref v1)] [.int t0, .ref t1] S σ := by
  rw [fX5_readRod_J13] at hf
  obtain ⟨u1, hu1, hf⟩ := pm_bind_e hf
  refine pm_cVi (pc := 13) (as := [.int t0]) (st := []) mvX5_68 (KX5_takeWord l g1 hu1) (by decide) g1 rfl rfl (Nat.le_of_ble_eq_true rfl) rfl dX5_readRod_13 ?_
  refine pm_if_ne (pc := 16) 20 dX5_readRod_16 (by decide) (fun hc8 => ?_) (fun hc8 => ?_)
  · rw [if_pos hc8] at hf
    exact pm_vret rfl dX5_readRod_19 (pm_ru_e hf)
  · rw [if_neg hc8] at hf
    refine pm_aload_n (pc := 20) 0 dX5_readRod_20 rfl rfl h0.pos ?_
    refine pm_bipush (pc := 21) (12 : Int32) (by decide) dX5_readRod_21 ?_
    refine pm_sipush (pc := 23) (240 : Int32) (by decide) dX5_readRod_23 ?_
    obtain ⟨u2, hu2, hf⟩ := pm_bind_e hf
    refine pm_cVi (pc := 26) (as := [.int (12 : Int32), .int (240 : Int32)]) (st := []) mvX5_72 (KX5_takeNumber l h0 hu2) (by decide) h0 rfl rfl (Nat.le_of_ble_eq_true rfl) rfl dX5_readRod_26 ?_
    refine pm_istore_n (pc := 29) [(2, .int u2.1), (0, .ref v0), (1, .ref v1)] dX5_readRod_29 rfl (by decide) rfl ?_
    refine pm_aload_n (pc := 30) 1 dX5_readRod_30 rfl rfl h0.pos ?_
    refine pm_iconst (pc := 31) (0 : Int32) (by decide) dX5_readRod_31 ?_
    refine pm_bipush (pc := 32) (9 : Int32) (by decide) dX5_readRod_32 ?_
    obtain ⟨u3, hu3, hf⟩ := pm_bind_e hf
    refine pm_cVi (pc := 34) (as := [.int (0 : Int32), .int (9 : Int32)]) (st := []) mvX5_72 (KX5_takeNumber l h0 hu3) (by decide) h0 rfl rfl (Nat.le_of_ble_eq_true rfl) rfl dX5_readRod_34 ?_
    refine pm_istore_n (pc := 37) [(3, .int u3.1), (2, .int u2.1), (0, .ref v0), (1, .ref v1)] dX5_readRod_37 rfl (by decide) rfl ?_
    refine pm_aload_n (pc := 38) 2 dX5_readRod_38 rfl rfl h0.pos ?_
    obtain ⟨u4, hu4, hf⟩ := pm_bind_e hf
    refine pm_cVu (pc := 39) (as := []) (st := []) mvX5_75 (KX5_takeEnd l h0 hu4) (by decide) h0 rfl rfl (Nat.le_of_ble_eq_true rfl) rfl dX5_readRod_39 ?_
    refine pm_aload_n (pc := 42) 2 dX5_readRod_42 rfl rfl h0.pos ?_
    refine pm_getI (pc := 43) (k := 0) pm_cl5 flX5_31 (by decide) rfl h0 dX5_readRod_43 ?_
    refine pm_if_ne (pc := 46) 59 dX5_readRod_46 (by decide) (fun hc7 => ?_) (fun hc7 => ?_)
    · rw [if_pos hc7] at hf
      refine pm_aload_n (pc := 49) 3 dX5_readRod_49 rfl rfl h1.pos ?_
      refine pm_iload_n (pc := 50) 1 dX5_readRod_50 rfl rfl ?_
      refine pm_putI (pc := 51) (k := 0) pm_cl9 flX5_46 (by decide) rfl rfl rfl h1 dX5_readRod_51 ?_
      obtain ⟨s5, es5, hf⟩ := pm_let_e hf
      refine pm_nmh es5 ?_
      refine pm_aload_n (pc := 54) 3 dX5_readRod_54 rfl rfl h1.pos ?_
      refine pm_iload_n (pc := 55) 0 dX5_readRod_55 rfl rfl ?_
      refine pm_putI (pc := 56) (k := 1) pm_cl9 flX5_78 (by decide) rfl rfl rfl h1 dX5_readRod_56 ?_
      obtain ⟨s6, es6, hf⟩ := pm_let_e hf
      refine pm_nmh es6 ?_
      exact pm_vret rfl dX5_readRod_59 (pm_ru_e hf)
    · rw [if_neg hc7] at hf
      exact pm_vret rfl dX5_readRod_59 (pm_ru_e hf)
def fX5_readRod (S : pm_S) (a0 : Nat) (a1 : Nat) (σ : pm_H) : Option (pm_H) :=
  (if (σ.1 a1 0) = 0 then fX5_readRod_J13 S a0 a1 (1 : Int32) a0 σ else fX5_readRod_J13 S a0 a1 (0 : Int32) a0 σ)
set_option maxRecDepth 100000 in
set_option maxHeartbeats 4000000 in
theorem KX5_readRod (l : Launch) {S : pm_S} {p : pm_H} {a0 : Nat} {a1 : Nat} {σ : pm_H} (h0 : pm_is S a0 8) (h1 : pm_is S a1 12) (hf : fX5_readRod S a0 a1 σ = some p) : pm_M l yX5_readRod cX5_readRod 4 none false 3 [.ref a0, .ref a1] S σ (pm_ru S p) := by
  refine pm_M.of (by decide +kernel) (Nat.le_of_ble_eq_true rfl) ?_
  show pm_E l yX5_readRod cX5_readRod 4 none false 3 S (pm_ru S p) 0 [(0, .ref a0), (1, .ref a1)] [] S σ
  rw [fX5_readRod] at hf
  refine pm_aload_n (pc := 0) 0 dX5_readRod_0 rfl rfl h0.pos ?_
  refine pm_aload_n (pc := 1) 1 dX5_readRod_1 rfl rfl h1.pos ?_
  refine pm_getI (pc := 2) (k := 0) pm_cl9 flX5_46 (by decide) rfl h1 dX5_readRod_2 ?_
  refine pm_if_ne (pc := 5) 12 dX5_readRod_5 (by decide) (fun hc9 => ?_) (fun hc9 => ?_)
  · rw [if_pos hc9] at hf
    refine pm_iconst (pc := 8) (1 : Int32) (by decide) dX5_readRod_8 ?_
    refine pm_goto (pc := 9) 13 dX5_readRod_9 (by decide) ?_
    refine pm_lv [(0, .ref a0), (1, .ref a1)] [0, 1] rfl ?_
    exact fX5_readRod_J13_E l h0 h1 h0 hf
  · rw [if_neg hc9] at hf
    refine pm_iconst (pc := 12) (0 : Int32) (by decide) dX5_readRod_12 ?_
    refine pm_lv [(0, .ref a0), (1, .ref a1)] [0, 1] rfl ?_
    exact fX5_readRod_J13_E l h0 h1 h0 hf
def fX9_hasNick_L2 (S : pm_S) (v0 : Nat) (v1 : Int32) (kx : pm_H → Option (Int32 × pm_H)) : Nat → Int32 → pm_H → Option (Int32 × pm_H)
  | 0, _, _ => none
  | n + 1, v2, σ => (if (σ.1 v0 3) ≤ v2 then kx σ else (if pm_ib v2 (pm_len S (σ.2 v0 2)) = true then (if (σ.1 (σ.2 v0 2) (v2).toNatClampNeg) = v1 then some ((1 : Int32), σ) else fX9_hasNick_L2 S v0 v1 kx n (v2 + (1 : Int32)) σ) else none))
set_option maxRecDepth 100000 in
set_option maxHeartbeats 4000000 in
theorem fX9_hasNick_L2_E (l : Launch) {S : pm_S} {p : Int32 × pm_H} {v0 : Nat} {v1 : Int32} {kx : pm_H → Option (Int32 × pm_H)} (h0 : pm_is S v0 12) (hkx : ∀  sw, kx  sw = some p → pm_E l yX9_hasNick cX9_hasNick 3 (some .boolean) false 0 S (pm_ri S p) 28 [] [] S sw) : ∀ (n : Nat) (v2 : Int32) (σ : pm_H), fX9_hasNick_L2 S v0 v1 kx n v2 σ = some p → pm_E l yX9_hasNick cX9_hasNick 3 (some .boolean) false 0 S (pm_ri S p) 2 [(0, .ref v0), (1, .int v1), (2, .int v2)] [] S σ := by
  intro n
  induction n with
  | zero => intro v2 σ hf; cases hf
  | succ n ih =>
    intro v2 σ hf
    rw [fX9_hasNick_L2] at hf
    refine pm_iload_n (pc := 2) 2 dX9_hasNick_2 rfl rfl ?_
    refine pm_aload_n (pc := 3) 0 dX9_hasNick_3 rfl rfl h0.pos ?_
    refine pm_getI (pc := 4) (k := 3) pm_cl9 flX9_34 (by decide) rfl h0 dX9_hasNick_4 ?_
    refine pm_icmp_ge (pc := 7) 28 dX9_hasNick_7 (by decide) (fun hc4 => ?_) (fun hc4 => ?_)
    · rw [if_pos hc4] at hf
      refine pm_lv [] [] rfl ?_
      exact hkx σ hf
    · rw [if_neg hc4] at hf
      refine pm_aload_n (pc := 10) 0 dX9_hasNick_10 rfl rfl h0.pos ?_
      refine pm_getT (pc := 11) (k := 2) pm_cl9 flX9_9 (by decide) rfl h0 dX9_hasNick_11 (fun hr1 => ?_)
      refine pm_iload_n (pc := 14) 2 dX9_hasNick_14 rfl rfl ?_
      obtain ⟨hb2, hf⟩ := pm_gd hf
      refine pm_iald (pc := 15) hr1 (pm_ib_in hb2) dX9_hasNick_15 ?_
      refine pm_iload_n (pc := 16) 1 dX9_hasNick_16 rfl rfl ?_
      refine pm_icmp_ne (pc := 17) 22 dX9_hasNick_17 (by decide) (fun hc3 => ?_) (fun hc3 => ?_)
      · rw [if_pos hc3] at hf
        refine pm_iconst (pc := 20) (1 : Int32) (by decide) dX9_hasNick_20 ?_
        exact pm_zret rfl (by decide) dX9_hasNick_21 (pm_ri_e hf)
      · rw [if_neg hc3] at hf
        refine pm_iinc (pc := 22) 2 (v2 + (1 : Int32)) [(2, .int (v2 + (1 : Int32))), (0, .ref v0), (1, .int v1)] dX9_hasNick_22 rfl rfl (by decide) rfl ?_
        refine pm_goto (pc := 25) 2 dX9_hasNick_25 (by decide) ?_
        refine pm_lv [(0, .ref v0), (1, .int v1), (2, .int (v2 + (1 : Int32)))] [1, 2, 0] rfl ?_
        exact ih (v2 + (1 : Int32)) σ hf
def fX9_hasNick (S : pm_S) (a0 : Nat) (a1 : Int32) (σ : pm_H) : Option (Int32 × pm_H) :=
  fX9_hasNick_L2 S a0 a1 (fun s5 => some ((0 : Int32), s5)) pm_fuel (0 : Int32) σ
set_option maxRecDepth 100000 in
set_option maxHeartbeats 4000000 in
theorem KX9_hasNick (l : Launch) {S : pm_S} {p : Int32 × pm_H} {a0 : Nat} {a1 : Int32} {σ : pm_H} (h0 : pm_is S a0 12) (hf : fX9_hasNick S a0 a1 σ = some p) : pm_M l yX9_hasNick cX9_hasNick 3 (some .boolean) false 0 [.ref a0, .int a1] S σ (pm_ri S p) := by
  refine pm_M.of (by decide +kernel) (Nat.le_of_ble_eq_true rfl) ?_
  show pm_E l yX9_hasNick cX9_hasNick 3 (some .boolean) false 0 S (pm_ri S p) 0 [(0, .ref a0), (1, .int a1)] [] S σ
  rw [fX9_hasNick] at hf
  refine pm_iconst (pc := 0) (0 : Int32) (by decide) dX9_hasNick_0 ?_
  refine pm_istore_n (pc := 1) [(2, .int (0 : Int32)), (0, .ref a0), (1, .int a1)] dX9_hasNick_1 rfl (by decide) rfl ?_
  refine pm_lv [(0, .ref a0), (1, .int a1), (2, .int (0 : Int32))] [1, 2, 0] rfl ?_
  refine fX9_hasNick_L2_E l h0 (fun s5 hf => ?_) pm_fuel (0 : Int32) σ hf
  refine pm_iconst (pc := 28) (0 : Int32) (by decide) dX9_hasNick_28 ?_
  exact pm_zret rfl (by decide) dX9_hasNick_29 (pm_ri_e hf)
def fX5_readNick_J47 (S : pm_S) (v0 : Nat) (v1 : Nat) (v2 : Int32) (σ : pm_H) : Option (pm_H) :=
  Option.bind (fX5_takeEnd S v0 σ) fun u4 => (if (u4.1 v0 0) = 0 then (if pm_ib (u4.1 v1 3) (pm_len S (u4.2 v1 2)) = true then pm_let (pm_si u4 (u4.2 v1 2) ((u4.1 v1 3)).toNatClampNeg v2) fun s7 => pm_let (pm_si s7 v1 3 ((s7.1 v1 3) + (1 : Int32))) fun s8 => some s8 else none) else some u4)
set_option maxRecDepth 100000 in
set_option maxHeartbeats 4000000 in
theorem fX5_readNick_J47_E (l : Launch) {S : pm_S} {p : pm_H} {v0 : Nat} {v1 : Nat} {v2 : Int32} {σ : pm_H} (h0 : pm_is S v0 8) (h1 : pm_is S v1 12) (hf : fX5_readNick_J47 S v0 v1 v2 σ = some p) : pm_E l yX5_readNick cX5_readNick 3 none false 3 S (pm_ru S p) 47 [(0, .ref v0), (1, .ref v1), (2, .int v2)] [] S σ := by
  rw [fX5_readNick_J47] at hf
  refine pm_aload_n (pc := 47) 0 dX5_readNick_47 rfl rfl h0.pos ?_
  obtain ⟨u4, hu4, hf⟩ := pm_bind_e hf
  refine pm_cVu (pc := 48) (as := []) (st := []) mvX5_75 (KX5_takeEnd l h0 hu4) (by decide) h0 rfl rfl (Nat.le_of_ble_eq_true rfl) rfl dX5_readNick_48 ?_
  refine pm_aload_n (pc := 51) 0 dX5_readNick_51 rfl rfl h0.pos ?_
  refine pm_getI (pc := 52) (k := 0) pm_cl5 flX5_31 (by decide) rfl h0 dX5_readNick_52 ?_
  refine pm_if_ne (pc := 55) 78 dX5_readNick_55 (by decide) (fun hc9 => ?_) (fun hc9 => ?_)
  · rw [if_pos hc9] at hf
    refine pm_aload_n (pc := 58) 1 dX5_readNick_58 rfl rfl h1.pos ?_
    refine pm_getT (pc := 59) (k := 2) pm_cl9 flX5_91 (by decide) rfl h1 dX5_readNick_59 (fun hr5 => ?_)
    refine pm_aload_n (pc := 62) 1 dX5_readNick_62 rfl rfl h1.pos ?_
    refine pm_getI (pc := 63) (k := 3) pm_cl9 flX5_81 (by decide) rfl h1 dX5_readNick_63 ?_
    refine pm_iload_n (pc := 66) 2 dX5_readNick_66 rfl rfl ?_
    obtain ⟨hb6, hf⟩ := pm_gd hf
    refine pm_iast (pc := 67) hr5 (pm_ib_in hb6) dX5_readNick_67 ?_
    obtain ⟨s7, es7, hf⟩ := pm_let_e hf
    refine pm_nmh es7 ?_
    refine pm_aload_n (pc := 68) 1 dX5_readNick_68 rfl rfl h1.pos ?_
    refine pm_dup (pc := 69) rfl dX5_readNick_69 ?_
    refine pm_getI (pc := 70) (k := 3) pm_cl9 flX5_81 (by decide) rfl h1 dX5_readNick_70 ?_
    refine pm_iconst (pc := 73) (1 : Int32) (by decide) dX5_readNick_73 ?_
    refine pm_iadd (pc := 74) dX5_readNick_74 ?_
    refine pm_putI (pc := 75) (k := 3) pm_cl9 flX5_81 (by decide) rfl rfl rfl h1 dX5_readNick_75 ?_
    obtain ⟨s8, es8, hf⟩ := pm_let_e hf
    refine pm_nmh es8 ?_
    exact pm_vret rfl dX5_readNick_78 (pm_ru_e hf)
  · rw [if_neg hc9] at hf
    exact pm_vret rfl dX5_readNick_78 (pm_ru_e hf)
def fX5_readNick_J14 (S : pm_S) (v0 : Nat) (v1 : Nat) (t0 : Int32) (t1 : Nat) (σ : pm_H) : Option (pm_H) :=
  Option.bind (fX5_takeWord S t1 t0 σ) fun u1 => (if u1.1 = 0 then some u1.2 else Option.bind (fX5_takeNumber S v0 (1 : Int32) (239 : Int32) u1.2) fun u2 => Option.bind (fX9_hasNick S v1 u2.1 u2.2) fun u3 => (if u3.1 = 0 then fX5_readNick_J47 S v0 v1 u2.1 u3.2 else Option.bind (fX5_blame S v0 (4 : Int32) (u3.2.1 v0 5) u3.2) fun u10 => fX5_readNick_J47 S v0 v1 u2.1 u10))
set_option maxRecDepth 100000 in
set_option maxHeartbeats 4000000 in
theorem fX5_readNick_J14_E (l : Launch) {S : pm_S} {p : pm_H} {v0 : Nat} {v1 : Nat} {t0 : Int32} {t1 : Nat} {σ : pm_H} (h0 : pm_is S v0 8) (h1 : pm_is S v1 12) (g1 : pm_is S t1 8) (hf : fX5_readNick_J14 S v0 v1 t0 t1 σ = some p) : pm_E l yX5_readNick cX5_readNick 3 none false 3 S (pm_ru S p) 14 [(0, .ref v0), (1, .ref v1)] [.int t0, .ref t1] S σ := by
  rw [fX5_readNick_J14] at hf
  obtain ⟨u1, hu1, hf⟩ := pm_bind_e hf
  refine pm_cVi (pc := 14) (as := [.int t0]) (st := []) mvX5_68 (KX5_takeWord l g1 hu1) (by decide) g1 rfl rfl (Nat.le_of_ble_eq_true rfl) rfl dX5_readNick_14 ?_
  refine pm_if_ne (pc := 17) 21 dX5_readNick_17 (by decide) (fun hc12 => ?_) (fun hc12 => ?_)
  · rw [if_pos hc12] at hf
    exact pm_vret rfl dX5_readNick_20 (pm_ru_e hf)
  · rw [if_neg hc12] at hf
    refine pm_aload_n (pc := 21) 0 dX5_readNick_21 rfl rfl h0.pos ?_
    refine pm_iconst (pc := 22) (1 : Int32) (by decide) dX5_readNick_22 ?_
    refine pm_sipush (pc := 23) (239 : Int32) (by decide) dX5_readNick_23 ?_
    obtain ⟨u2, hu2, hf⟩ := pm_bind_e hf
    refine pm_cVi (pc := 26) (as := [.int (1 : Int32), .int (239 : Int32)]) (st := []) mvX5_72 (KX5_takeNumber l h0 hu2) (by decide) h0 rfl rfl (Nat.le_of_ble_eq_true rfl) rfl dX5_readNick_26 ?_
    refine pm_istore_n (pc := 29) [(2, .int u2.1), (0, .ref v0), (1, .ref v1)] dX5_readNick_29 rfl (by decide) rfl ?_
    refine pm_aload_n (pc := 30) 2 dX5_readNick_30 rfl rfl h1.pos ?_
    refine pm_iload_n (pc := 31) 0 dX5_readNick_31 rfl rfl ?_
    obtain ⟨u3, hu3, hf⟩ := pm_bind_e hf
    refine pm_cVi (pc := 32) (as := [.int u2.1]) (st := []) mvX5_84 (KX9_hasNick l h1 hu3) (by decide) h1 rfl rfl (Nat.le_of_ble_eq_true rfl) rfl dX5_readNick_32 ?_
    refine pm_if_eq (pc := 35) 47 dX5_readNick_35 (by decide) (fun hc11 => ?_) (fun hc11 => ?_)
    · rw [if_pos hc11] at hf
      refine pm_lv [(0, .ref v0), (1, .ref v1), (2, .int u2.1)] [1, 2, 0] rfl ?_
      exact fX5_readNick_J47_E l h0 h1 hf
    · rw [if_neg hc11] at hf
      refine pm_aload_n (pc := 38) 1 dX5_readNick_38 rfl rfl h0.pos ?_
      refine pm_iconst (pc := 39) (4 : Int32) (by decide) dX5_readNick_39 ?_
      refine pm_aload_n (pc := 40) 1 dX5_readNick_40 rfl rfl h0.pos ?_
      refine pm_getI (pc := 41) (k := 5) pm_cl5 flX5_88 (by decide) rfl h0 dX5_readNick_41 ?_
      obtain ⟨u10, hu10, hf⟩ := pm_bind_e hf
      refine pm_cVu (pc := 44) (as := [.int (4 : Int32), .int (u3.2.1 v0 5)]) (st := []) mvX5_49 (KX5_blame l h0 hu10) (by decide) h0 rfl rfl (Nat.le_of_ble_eq_true rfl) rfl dX5_readNick_44 ?_
      refine pm_lv [(0, .ref v0), (1, .ref v1), (2, .int u2.1)] [1, 2, 0] rfl ?_
      exact fX5_readNick_J47_E l h0 h1 hf
def fX5_readNick (S : pm_S) (a0 : Nat) (a1 : Nat) (σ : pm_H) : Option (pm_H) :=
  (if (5 : Int32) ≤ (σ.1 a1 3) then fX5_readNick_J14 S a0 a1 (0 : Int32) a0 σ else fX5_readNick_J14 S a0 a1 (1 : Int32) a0 σ)
set_option maxRecDepth 100000 in
set_option maxHeartbeats 4000000 in
theorem KX5_readNick (l : Launch) {S : pm_S} {p : pm_H} {a0 : Nat} {a1 : Nat} {σ : pm_H} (h0 : pm_is S a0 8) (h1 : pm_is S a1 12) (hf : fX5_readNick S a0 a1 σ = some p) : pm_M l yX5_readNick cX5_readNick 3 none false 3 [.ref a0, .ref a1] S σ (pm_ru S p) := by
  refine pm_M.of (by decide +kernel) (Nat.le_of_ble_eq_true rfl) ?_
  show pm_E l yX5_readNick cX5_readNick 3 none false 3 S (pm_ru S p) 0 [(0, .ref a0), (1, .ref a1)] [] S σ
  rw [fX5_readNick] at hf
  refine pm_aload_n (pc := 0) 0 dX5_readNick_0 rfl rfl h0.pos ?_
  refine pm_aload_n (pc := 1) 1 dX5_readNick_1 rfl rfl h1.pos ?_
  refine pm_getI (pc := 2) (k := 3) pm_cl9 flX5_81 (by decide) rfl h1 dX5_readNick_2 ?_
  refine pm_iconst (pc := 5) (5 : Int32) (by decide) dX5_readNick_5 ?_
  refine pm_icmp_ge (pc := 6) 13 dX5_readNick_6 (by decide) (fun hc13 => ?_) (fun hc13 => ?_)
  · rw [if_pos hc13] at hf
    refine pm_iconst (pc := 13) (0 : Int32) (by decide) dX5_readNick_13 ?_
    refine pm_lv [(0, .ref a0), (1, .ref a1)] [0, 1] rfl ?_
    exact fX5_readNick_J14_E l h0 h1 h0 hf
  · rw [if_neg hc13] at hf
    refine pm_iconst (pc := 9) (1 : Int32) (by decide) dX5_readNick_9 ?_
    refine pm_goto (pc := 10) 14 dX5_readNick_10 (by decide) ?_
    refine pm_lv [(0, .ref a0), (1, .ref a1)] [0, 1] rfl ?_
    exact fX5_readNick_J14_E l h0 h1 h0 hf
def fX5_readOffice_J15 (S : pm_S) (v0 : Nat) (v1 : Nat) (t0 : Int32) (t1 : Nat) (σ : pm_H) : Option (pm_H) :=
  Option.bind (fX5_takeWord S t1 t0 σ) fun u1 => (if u1.1 = 0 then some u1.2 else Option.bind (fX5_takeNumber S v0 (1 : Int32) (99 : Int32) u1.2) fun u2 => Option.bind (fX5_takeNumber S v0 u2.1 (99 : Int32) u2.2) fun u3 => Option.bind (fX5_takeEnd S v0 u3.2) fun u4 => (if (u4.1 v0 0) = 0 then (if pm_ib (u4.1 v1 6) (pm_len S (u4.2 v1 4)) = true then pm_let (pm_si u4 (u4.2 v1 4) ((u4.1 v1 6)).toNatClampNeg u2.1) fun s7 => (if pm_ib (s7.1 v1 6) (pm_len S (s7.2 v1 5)) = true then pm_let (pm_si s7 (s7.2 v1 5) ((s7.1 v1 6)).toNatClampNeg u3.1) fun s10 => pm_let (pm_si s10 v1 6 ((s10.1 v1 6) + (1 : Int32))) fun s11 => some s11 else none) else none) else some u4))
set_option maxRecDepth 100000 in
set_option maxHeartbeats 4000000 in
theorem fX5_readOffice_J15_E (l : Launch) {S : pm_S} {p : pm_H} {v0 : Nat} {v1 : Nat} {t0 : Int32} {t1 : Nat} {σ : pm_H} (h0 : pm_is S v0 8) (h1 : pm_is S v1 12) (g1 : pm_is S t1 8) (hf : fX5_readOffice_J15 S v0 v1 t0 t1 σ = some p) : pm_E l yX5_readOffice cX5_readOffice 4 none false 3 S (pm_ru S p) 15 [(0, .ref v0), (1, .ref v1)] [.int t0, .ref t1] S σ := by
  rw [fX5_readOffice_J15] at hf
  obtain ⟨u1, hu1, hf⟩ := pm_bind_e hf
  refine pm_cVi (pc := 15) (as := [.int t0]) (st := []) mvX5_68 (KX5_takeWord l g1 hu1) (by decide) g1 rfl rfl (Nat.le_of_ble_eq_true rfl) rfl dX5_readOffice_15 ?_
  refine pm_if_ne (pc := 18) 22 dX5_readOffice_18 (by decide) (fun hc13 => ?_) (fun hc13 => ?_)
  · rw [if_pos hc13] at hf
    exact pm_vret rfl dX5_readOffice_21 (pm_ru_e hf)
  · rw [if_neg hc13] at hf
    refine pm_aload_n (pc := 22) 0 dX5_readOffice_22 rfl rfl h0.pos ?_
    refine pm_iconst (pc := 23) (1 : Int32) (by decide) dX5_readOffice_23 ?_
    refine pm_bipush (pc := 24) (99 : Int32) (by decide) dX5_readOffice_24 ?_
    obtain ⟨u2, hu2, hf⟩ := pm_bind_e hf
    refine pm_cVi (pc := 26) (as := [.int (1 : Int32), .int (99 : Int32)]) (st := []) mvX5_72 (KX5_takeNumber l h0 hu2) (by decide) h0 rfl rfl (Nat.le_of_ble_eq_true rfl) rfl dX5_readOffice_26 ?_
    refine pm_istore_n (pc := 29) [(2, .int u2.1), (0, .ref v0), (1, .ref v1)] dX5_readOffice_29 rfl (by decide) rfl ?_
    refine pm_aload_n (pc := 30) 1 dX5_readOffice_30 rfl rfl h0.pos ?_
    refine pm_iload_n (pc := 31) 0 dX5_readOffice_31 rfl rfl ?_
    refine pm_bipush (pc := 32) (99 : Int32) (by decide) dX5_readOffice_32 ?_
    obtain ⟨u3, hu3, hf⟩ := pm_bind_e hf
    refine pm_cVi (pc := 34) (as := [.int u2.1, .int (99 : Int32)]) (st := []) mvX5_72 (KX5_takeNumber l h0 hu3) (by decide) h0 rfl rfl (Nat.le_of_ble_eq_true rfl) rfl dX5_readOffice_34 ?_
    refine pm_istore_n (pc := 37) [(3, .int u3.1), (2, .int u2.1), (0, .ref v0), (1, .ref v1)] dX5_readOffice_37 rfl (by decide) rfl ?_
    refine pm_aload_n (pc := 38) 2 dX5_readOffice_38 rfl rfl h0.pos ?_
    obtain ⟨u4, hu4, hf⟩ := pm_bind_e hf
    refine pm_cVu (pc := 39) (as := []) (st := []) mvX5_75 (KX5_takeEnd l h0 hu4) (by decide) h0 rfl rfl (Nat.le_of_ble_eq_true rfl) rfl dX5_readOffice_39 ?_
    refine pm_aload_n (pc := 42) 2 dX5_readOffice_42 rfl rfl h0.pos ?_
    refine pm_getI (pc := 43) (k := 0) pm_cl5 flX5_31 (by decide) rfl h0 dX5_readOffice_43 ?_
    refine pm_if_ne (pc := 46) 79 dX5_readOffice_46 (by decide) (fun hc12 => ?_) (fun hc12 => ?_)
    · rw [if_pos hc12] at hf
      refine pm_aload_n (pc := 49) 3 dX5_readOffice_49 rfl rfl h1.pos ?_
      refine pm_getT (pc := 50) (k := 4) pm_cl9 flX5_97 (by decide) rfl h1 dX5_readOffice_50 (fun hr5 => ?_)
      refine pm_aload_n (pc := 53) 3 dX5_readOffice_53 rfl rfl h1.pos ?_
      refine pm_getI (pc := 54) (k := 6) pm_cl9 flX5_94 (by decide) rfl h1 dX5_readOffice_54 ?_
      refine pm_iload_n (pc := 57) 1 dX5_readOffice_57 rfl rfl ?_
      obtain ⟨hb6, hf⟩ := pm_gd hf
      refine pm_iast (pc := 58) hr5 (pm_ib_in hb6) dX5_readOffice_58 ?_
      obtain ⟨s7, es7, hf⟩ := pm_let_e hf
      refine pm_nmh es7 ?_
      refine pm_aload_n (pc := 59) 3 dX5_readOffice_59 rfl rfl h1.pos ?_
      refine pm_getT (pc := 60) (k := 5) pm_cl9 flX5_100 (by decide) rfl h1 dX5_readOffice_60 (fun hr8 => ?_)
      refine pm_aload_n (pc := 63) 3 dX5_readOffice_63 rfl rfl h1.pos ?_
      refine pm_getI (pc := 64) (k := 6) pm_cl9 flX5_94 (by decide) rfl h1 dX5_readOffice_64 ?_
      refine pm_iload_n (pc := 67) 0 dX5_readOffice_67 rfl rfl ?_
      obtain ⟨hb9, hf⟩ := pm_gd hf
      refine pm_iast (pc := 68) hr8 (pm_ib_in hb9) dX5_readOffice_68 ?_
      obtain ⟨s10, es10, hf⟩ := pm_let_e hf
      refine pm_nmh es10 ?_
      refine pm_aload_n (pc := 69) 3 dX5_readOffice_69 rfl rfl h1.pos ?_
      refine pm_dup (pc := 70) rfl dX5_readOffice_70 ?_
      refine pm_getI (pc := 71) (k := 6) pm_cl9 flX5_94 (by decide) rfl h1 dX5_readOffice_71 ?_
      refine pm_iconst (pc := 74) (1 : Int32) (by decide) dX5_readOffice_74 ?_
      refine pm_iadd (pc := 75) dX5_readOffice_75 ?_
      refine pm_putI (pc := 76) (k := 6) pm_cl9 flX5_94 (by decide) rfl rfl rfl h1 dX5_readOffice_76 ?_
      obtain ⟨s11, es11, hf⟩ := pm_let_e hf
      refine pm_nmh es11 ?_
      exact pm_vret rfl dX5_readOffice_79 (pm_ru_e hf)
    · rw [if_neg hc12] at hf
      exact pm_vret rfl dX5_readOffice_79 (pm_ru_e hf)
def fX5_readOffice (S : pm_S) (a0 : Nat) (a1 : Nat) (σ : pm_H) : Option (pm_H) :=
  (if (6 : Int32) ≤ (σ.1 a1 6) then fX5_readOffice_J15 S a0 a1 (0 : Int32) a0 σ else fX5_readOffice_J15 S a0 a1 (1 : Int32) a0 σ)
set_option maxRecDepth 100000 in
set_option maxHeartbeats 4000000 in
theorem KX5_readOffice (l : Launch) {S : pm_S} {p : pm_H} {a0 : Nat} {a1 : Nat} {σ : pm_H} (h0 : pm_is S a0 8) (h1 : pm_is S a1 12) (hf : fX5_readOffice S a0 a1 σ = some p) : pm_M l yX5_readOffice cX5_readOffice 4 none false 3 [.ref a0, .ref a1] S σ (pm_ru S p) := by
  refine pm_M.of (by decide +kernel) (Nat.le_of_ble_eq_true rfl) ?_
  show pm_E l yX5_readOffice cX5_readOffice 4 none false 3 S (pm_ru S p) 0 [(0, .ref a0), (1, .ref a1)] [] S σ
  rw [fX5_readOffice] at hf
  refine pm_aload_n (pc := 0) 0 dX5_readOffice_0 rfl rfl h0.pos ?_
  refine pm_aload_n (pc := 1) 1 dX5_readOffice_1 rfl rfl h1.pos ?_
  refine pm_getI (pc := 2) (k := 6) pm_cl9 flX5_94 (by decide) rfl h1 dX5_readOffice_2 ?_
  refine pm_bipush (pc := 5) (6 : Int32) (by decide) dX5_readOffice_5 ?_
  refine pm_icmp_ge (pc := 7) 14 dX5_readOffice_7 (by decide) (fun hc14 => ?_) (fun hc14 => ?_)
  · rw [if_pos hc14] at hf
    refine pm_iconst (pc := 14) (0 : Int32) (by decide) dX5_readOffice_14 ?_
    refine pm_lv [(0, .ref a0), (1, .ref a1)] [0, 1] rfl ?_
    exact fX5_readOffice_J15_E l h0 h1 h0 hf
  · rw [if_neg hc14] at hf
    refine pm_iconst (pc := 10) (1 : Int32) (by decide) dX5_readOffice_10 ?_
    refine pm_goto (pc := 11) 15 dX5_readOffice_11 (by decide) ?_
    refine pm_lv [(0, .ref a0), (1, .ref a1)] [0, 1] rfl ?_
    exact fX5_readOffice_J15_E l h0 h1 h0 hf
def fX5_readPerson_J15 (S : pm_S) (v0 : Nat) (v1 : Nat) (t0 : Int32) (t1 : Nat) (σ : pm_H) : Option (pm_H) :=
  Option.bind (fX5_takeWord S t1 t0 σ) fun u1 => (if u1.1 = 0 then some u1.2 else Option.bind (fX5_takeNumber S v0 (1 : Int32) (999 : Int32) u1.2) fun u2 => Option.bind (fX5_takeEnd S v0 u2.2) fun u3 => (if (u3.1 v0 0) = 0 then (if pm_ib (u3.1 v1 8) (pm_len S (u3.2 v1 7)) = true then pm_let (pm_si u3 (u3.2 v1 7) ((u3.1 v1 8)).toNatClampNeg u2.1) fun s6 => pm_let (pm_si s6 v1 8 ((s6.1 v1 8) + (1 : Int32))) fun s7 => some s7 else none) else some u3))
set_option maxRecDepth 100000 in
set_option maxHeartbeats 4000000 in
theorem fX5_readPerson_J15_E (l : Launch) {S : pm_S} {p : pm_H} {v0 : Nat} {v1 : Nat} {t0 : Int32} {t1 : Nat} {σ : pm_H} (h0 : pm_is S v0 8) (h1 : pm_is S v1 12) (g1 : pm_is S t1 8) (hf : fX5_readPerson_J15 S v0 v1 t0 t1 σ = some p) : pm_E l yX5_readPerson cX5_readPerson 3 none false 3 S (pm_ru S p) 15 [(0, .ref v0), (1, .ref v1)] [.int t0, .ref t1] S σ := by
  rw [fX5_readPerson_J15] at hf
  obtain ⟨u1, hu1, hf⟩ := pm_bind_e hf
  refine pm_cVi (pc := 15) (as := [.int t0]) (st := []) mvX5_68 (KX5_takeWord l g1 hu1) (by decide) g1 rfl rfl (Nat.le_of_ble_eq_true rfl) rfl dX5_readPerson_15 ?_
  refine pm_if_ne (pc := 18) 22 dX5_readPerson_18 (by decide) (fun hc9 => ?_) (fun hc9 => ?_)
  · rw [if_pos hc9] at hf
    exact pm_vret rfl dX5_readPerson_21 (pm_ru_e hf)
  · rw [if_neg hc9] at hf
    refine pm_aload_n (pc := 22) 0 dX5_readPerson_22 rfl rfl h0.pos ?_
    refine pm_iconst (pc := 23) (1 : Int32) (by decide) dX5_readPerson_23 ?_
    refine pm_sipush (pc := 24) (999 : Int32) (by decide) dX5_readPerson_24 ?_
    obtain ⟨u2, hu2, hf⟩ := pm_bind_e hf
    refine pm_cVi (pc := 27) (as := [.int (1 : Int32), .int (999 : Int32)]) (st := []) mvX5_72 (KX5_takeNumber l h0 hu2) (by decide) h0 rfl rfl (Nat.le_of_ble_eq_true rfl) rfl dX5_readPerson_27 ?_
    refine pm_istore_n (pc := 30) [(2, .int u2.1), (0, .ref v0), (1, .ref v1)] dX5_readPerson_30 rfl (by decide) rfl ?_
    refine pm_aload_n (pc := 31) 1 dX5_readPerson_31 rfl rfl h0.pos ?_
    obtain ⟨u3, hu3, hf⟩ := pm_bind_e hf
    refine pm_cVu (pc := 32) (as := []) (st := []) mvX5_75 (KX5_takeEnd l h0 hu3) (by decide) h0 rfl rfl (Nat.le_of_ble_eq_true rfl) rfl dX5_readPerson_32 ?_
    refine pm_aload_n (pc := 35) 1 dX5_readPerson_35 rfl rfl h0.pos ?_
    refine pm_getI (pc := 36) (k := 0) pm_cl5 flX5_31 (by decide) rfl h0 dX5_readPerson_36 ?_
    refine pm_if_ne (pc := 39) 62 dX5_readPerson_39 (by decide) (fun hc8 => ?_) (fun hc8 => ?_)
    · rw [if_pos hc8] at hf
      refine pm_aload_n (pc := 42) 2 dX5_readPerson_42 rfl rfl h1.pos ?_
      refine pm_getT (pc := 43) (k := 7) pm_cl9 flX5_106 (by decide) rfl h1 dX5_readPerson_43 (fun hr4 => ?_)
      refine pm_aload_n (pc := 46) 2 dX5_readPerson_46 rfl rfl h1.pos ?_
      refine pm_getI (pc := 47) (k := 8) pm_cl9 flX5_103 (by decide) rfl h1 dX5_readPerson_47 ?_
      refine pm_iload_n (pc := 50) 0 dX5_readPerson_50 rfl rfl ?_
      obtain ⟨hb5, hf⟩ := pm_gd hf
      refine pm_iast (pc := 51) hr4 (pm_ib_in hb5) dX5_readPerson_51 ?_
      obtain ⟨s6, es6, hf⟩ := pm_let_e hf
      refine pm_nmh es6 ?_
      refine pm_aload_n (pc := 52) 2 dX5_readPerson_52 rfl rfl h1.pos ?_
      refine pm_dup (pc := 53) rfl dX5_readPerson_53 ?_
      refine pm_getI (pc := 54) (k := 8) pm_cl9 flX5_103 (by decide) rfl h1 dX5_readPerson_54 ?_
      refine pm_iconst (pc := 57) (1 : Int32) (by decide) dX5_readPerson_57 ?_
      refine pm_iadd (pc := 58) dX5_readPerson_58 ?_
      refine pm_putI (pc := 59) (k := 8) pm_cl9 flX5_103 (by decide) rfl rfl rfl h1 dX5_readPerson_59 ?_
      obtain ⟨s7, es7, hf⟩ := pm_let_e hf
      refine pm_nmh es7 ?_
      exact pm_vret rfl dX5_readPerson_62 (pm_ru_e hf)
    · rw [if_neg hc8] at hf
      exact pm_vret rfl dX5_readPerson_62 (pm_ru_e hf)
def fX5_readPerson (S : pm_S) (a0 : Nat) (a1 : Nat) (σ : pm_H) : Option (pm_H) :=
  (if (6 : Int32) ≤ (σ.1 a1 8) then fX5_readPerson_J15 S a0 a1 (0 : Int32) a0 σ else fX5_readPerson_J15 S a0 a1 (1 : Int32) a0 σ)
set_option maxRecDepth 100000 in
set_option maxHeartbeats 4000000 in
theorem KX5_readPerson (l : Launch) {S : pm_S} {p : pm_H} {a0 : Nat} {a1 : Nat} {σ : pm_H} (h0 : pm_is S a0 8) (h1 : pm_is S a1 12) (hf : fX5_readPerson S a0 a1 σ = some p) : pm_M l yX5_readPerson cX5_readPerson 3 none false 3 [.ref a0, .ref a1] S σ (pm_ru S p) := by
  refine pm_M.of (by decide +kernel) (Nat.le_of_ble_eq_true rfl) ?_
  show pm_E l yX5_readPerson cX5_readPerson 3 none false 3 S (pm_ru S p) 0 [(0, .ref a0), (1, .ref a1)] [] S σ
  rw [fX5_readPerson] at hf
  refine pm_aload_n (pc := 0) 0 dX5_readPerson_0 rfl rfl h0.pos ?_
  refine pm_aload_n (pc := 1) 1 dX5_readPerson_1 rfl rfl h1.pos ?_
  refine pm_getI (pc := 2) (k := 8) pm_cl9 flX5_103 (by decide) rfl h1 dX5_readPerson_2 ?_
  refine pm_bipush (pc := 5) (6 : Int32) (by decide) dX5_readPerson_5 ?_
  refine pm_icmp_ge (pc := 7) 14 dX5_readPerson_7 (by decide) (fun hc10 => ?_) (fun hc10 => ?_)
  · rw [if_pos hc10] at hf
    refine pm_iconst (pc := 14) (0 : Int32) (by decide) dX5_readPerson_14 ?_
    refine pm_lv [(0, .ref a0), (1, .ref a1)] [0, 1] rfl ?_
    exact fX5_readPerson_J15_E l h0 h1 h0 hf
  · rw [if_neg hc10] at hf
    refine pm_iconst (pc := 10) (1 : Int32) (by decide) dX5_readPerson_10 ?_
    refine pm_goto (pc := 11) 15 dX5_readPerson_11 (by decide) ?_
    refine pm_lv [(0, .ref a0), (1, .ref a1)] [0, 1] rfl ?_
    exact fX5_readPerson_J15_E l h0 h1 h0 hf
def fX5_readSways_L24 (S : pm_S) (v0 : Nat) (v1 : Nat) (kx : pm_H → Option (pm_H)) : Nat → Int32 → Int32 → pm_H → Option (pm_H)
  | 0, _, _, _ => none
  | n + 1, v2, v3, σ => (if (12 : Int32) ≤ v3 then kx σ else (if v2 = 0 then kx σ else Option.bind (fX5_takeNumber S v0 (0 : Int32) (9 : Int32) σ) fun u3 => (if pm_ib v3 (pm_len S (σ.2 v1 9)) = true then pm_let (pm_si u3.2 (σ.2 v1 9) (v3).toNatClampNeg u3.1) fun s5 => pm_let (pm_si s5 v1 10 (v3 + (1 : Int32))) fun s6 => (if (12 : Int32) ≤ (v3 + (1 : Int32)) then fX5_readSways_L24 S v0 v1 kx n (0 : Int32) (v3 + (1 : Int32)) s6 else (if (s6.1 v0 0) = 0 then Option.bind (fX5_takeSign S v0 (44 : Int32) s6) fun u7 => (if u7.1 = 0 then fX5_readSways_L24 S v0 v1 kx n (0 : Int32) (v3 + (1 : Int32)) u7.2 else fX5_readSways_L24 S v0 v1 kx n (1 : Int32) (v3 + (1 : Int32)) u7.2) else fX5_readSways_L24 S v0 v1 kx n (0 : Int32) (v3 + (1 : Int32)) s6)) else none)))
set_option maxRecDepth 100000 in
set_option maxHeartbeats 4000000 in
theorem fX5_readSways_L24_E (l : Launch) {S : pm_S} {p : pm_H} {v0 : Nat} {v1 : Nat} {kx : pm_H → Option (pm_H)} (h0 : pm_is S v0 8) (h1 : pm_is S v1 12) (hkx : ∀  sw, kx  sw = some p → pm_E l yX5_readSways cX5_readSways 4 none false 3 S (pm_ru S p) 90 [(0, .ref v0)] [] S sw) : ∀ (n : Nat) (v2 : Int32) (v3 : Int32) (σ : pm_H), fX5_readSways_L24 S v0 v1 kx n v2 v3 σ = some p → pm_E l yX5_readSways cX5_readSways 4 none false 3 S (pm_ru S p) 24 [(0, .ref v0), (1, .ref v1), (2, .int v2), (3, .int v3)] [] S σ := by
  intro n
  induction n with
  | zero => intro v2 v3 σ hf; cases hf
  | succ n ih =>
    intro v2 v3 σ hf
    rw [fX5_readSways_L24] at hf
    refine pm_iload_n (pc := 24) 3 dX5_readSways_24 rfl rfl ?_
    refine pm_bipush (pc := 25) (12 : Int32) (by decide) dX5_readSways_25 ?_
    refine pm_icmp_ge (pc := 27) 90 dX5_readSways_27 (by decide) (fun hc12 => ?_) (fun hc12 => ?_)
    · rw [if_pos hc12] at hf
      refine pm_lv [(0, .ref v0)] [0] rfl ?_
      exact hkx σ hf
    · rw [if_neg hc12] at hf
      refine pm_iload_n (pc := 30) 2 dX5_readSways_30 rfl rfl ?_
      refine pm_if_eq (pc := 31) 90 dX5_readSways_31 (by decide) (fun hc11 => ?_) (fun hc11 => ?_)
      · rw [if_pos hc11] at hf
        refine pm_lv [(0, .ref v0)] [0] rfl ?_
        exact hkx σ hf
      · rw [if_neg hc11] at hf
        refine pm_aload_n (pc := 34) 1 dX5_readSways_34 rfl rfl h1.pos ?_
        refine pm_getT (pc := 35) (k := 9) pm_cl9 flX5_112 (by decide) rfl h1 dX5_readSways_35 (fun hr2 => ?_)
        refine pm_iload_n (pc := 38) 3 dX5_readSways_38 rfl rfl ?_
        refine pm_aload_n (pc := 39) 0 dX5_readSways_39 rfl rfl h0.pos ?_
        refine pm_iconst (pc := 40) (0 : Int32) (by decide) dX5_readSways_40 ?_
        refine pm_bipush (pc := 41) (9 : Int32) (by decide) dX5_readSways_41 ?_
        obtain ⟨u3, hu3, hf⟩ := pm_bind_e hf
        refine pm_cVi (pc := 43) (as := [.int (0 : Int32), .int (9 : Int32)]) (st := [.int v3, .ref (σ.2 v1 9)]) mvX5_72 (KX5_takeNumber l h0 hu3) (by decide) h0 rfl rfl (Nat.le_of_ble_eq_true rfl) rfl dX5_readSways_43 ?_
        obtain ⟨hb4, hf⟩ := pm_gd hf
        refine pm_iast (pc := 46) hr2 (pm_ib_in hb4) dX5_readSways_46 ?_
        obtain ⟨s5, es5, hf⟩ := pm_let_e hf
        refine pm_nmh es5 ?_
        refine pm_aload_n (pc := 47) 1 dX5_readSways_47 rfl rfl h1.pos ?_
        refine pm_iload_n (pc := 48) 3 dX5_readSways_48 rfl rfl ?_
        refine pm_iconst (pc := 49) (1 : Int32) (by decide) dX5_readSways_49 ?_
        refine pm_iadd (pc := 50) dX5_readSways_50 ?_
        refine pm_putI (pc := 51) (k := 10) pm_cl9 flX5_109 (by decide) rfl rfl rfl h1 dX5_readSways_51 ?_
        obtain ⟨s6, es6, hf⟩ := pm_let_e hf
        refine pm_nmh es6 ?_
        refine pm_iload_n (pc := 54) 3 dX5_readSways_54 rfl rfl ?_
        refine pm_iconst (pc := 55) (1 : Int32) (by decide) dX5_readSways_55 ?_
        refine pm_iadd (pc := 56) dX5_readSways_56 ?_
        refine pm_bipush (pc := 57) (12 : Int32) (by decide) dX5_readSways_57 ?_
        refine pm_icmp_ge (pc := 59) 82 dX5_readSways_59 (by decide) (fun hc10 => ?_) (fun hc10 => ?_)
        · rw [if_pos hc10] at hf
          refine pm_iconst (pc := 82) (0 : Int32) (by decide) dX5_readSways_82 ?_
          refine pm_istore_n (pc := 83) [(2, .int (0 : Int32)), (0, .ref v0), (1, .ref v1), (3, .int v3)] dX5_readSways_83 rfl (by decide) rfl ?_
          refine pm_iinc (pc := 84) 3 (v3 + (1 : Int32)) [(3, .int (v3 + (1 : Int32))), (2, .int (0 : Int32)), (0, .ref v0), (1, .ref v1)] dX5_readSways_84 rfl rfl (by decide) rfl ?_
          refine pm_goto (pc := 87) 24 dX5_readSways_87 (by decide) ?_
          refine pm_lv [(0, .ref v0), (1, .ref v1), (2, .int (0 : Int32)), (3, .int (v3 + (1 : Int32)))] [2, 3, 1, 0] rfl ?_
          exact ih (0 : Int32) (v3 + (1 : Int32)) s6 hf
        · rw [if_neg hc10] at hf
          refine pm_aload_n (pc := 62) 0 dX5_readSways_62 rfl rfl h0.pos ?_
          refine pm_getI (pc := 63) (k := 0) pm_cl5 flX5_31 (by decide) rfl h0 dX5_readSways_63 ?_
          refine pm_if_ne (pc := 66) 82 dX5_readSways_66 (by decide) (fun hc9 => ?_) (fun hc9 => ?_)
          · rw [if_pos hc9] at hf
            refine pm_aload_n (pc := 69) 0 dX5_readSways_69 rfl rfl h0.pos ?_
            refine pm_bipush (pc := 70) (44 : Int32) (by decide) dX5_readSways_70 ?_
            obtain ⟨u7, hu7, hf⟩ := pm_bind_e hf
            refine pm_cVi (pc := 72) (as := [.int (44 : Int32)]) (st := []) mvX5_115 (KX5_takeSign l h0 hu7) (by decide) h0 rfl rfl (Nat.le_of_ble_eq_true rfl) rfl dX5_readSways_72 ?_
            refine pm_if_eq (pc := 75) 82 dX5_readSways_75 (by decide) (fun hc8 => ?_) (fun hc8 => ?_)
            · rw [if_pos hc8] at hf
              refine pm_iconst (pc := 82) (0 : Int32) (by decide) dX5_readSways_82 ?_
              refine pm_istore_n (pc := 83) [(2, .int (0 : Int32)), (0, .ref v0), (1, .ref v1), (3, .int v3)] dX5_readSways_83 rfl (by decide) rfl ?_
              refine pm_iinc (pc := 84) 3 (v3 + (1 : Int32)) [(3, .int (v3 + (1 : Int32))), (2, .int (0 : Int32)), (0, .ref v0), (1, .ref v1)] dX5_readSways_84 rfl rfl (by decide) rfl ?_
              refine pm_goto (pc := 87) 24 dX5_readSways_87 (by decide) ?_
              refine pm_lv [(0, .ref v0), (1, .ref v1), (2, .int (0 : Int32)), (3, .int (v3 + (1 : Int32)))] [2, 3, 1, 0] rfl ?_
              exact ih (0 : Int32) (v3 + (1 : Int32)) u7.2 hf
            · rw [if_neg hc8] at hf
              refine pm_iconst (pc := 78) (1 : Int32) (by decide) dX5_readSways_78 ?_
              refine pm_goto (pc := 79) 83 dX5_readSways_79 (by decide) ?_
              refine pm_istore_n (pc := 83) [(2, .int (1 : Int32)), (0, .ref v0), (1, .ref v1), (3, .int v3)] dX5_readSways_83 rfl (by decide) rfl ?_
              refine pm_iinc (pc := 84) 3 (v3 + (1 : Int32)) [(3, .int (v3 + (1 : Int32))), (2, .int (1 : Int32)), (0, .ref v0), (1, .ref v1)] dX5_readSways_84 rfl rfl (by decide) rfl ?_
              refine pm_goto (pc := 87) 24 dX5_readSways_87 (by decide) ?_
              refine pm_lv [(0, .ref v0), (1, .ref v1), (2, .int (1 : Int32)), (3, .int (v3 + (1 : Int32)))] [2, 3, 1, 0] rfl ?_
              exact ih (1 : Int32) (v3 + (1 : Int32)) u7.2 hf
          · rw [if_neg hc9] at hf
            refine pm_iconst (pc := 82) (0 : Int32) (by decide) dX5_readSways_82 ?_
            refine pm_istore_n (pc := 83) [(2, .int (0 : Int32)), (0, .ref v0), (1, .ref v1), (3, .int v3)] dX5_readSways_83 rfl (by decide) rfl ?_
            refine pm_iinc (pc := 84) 3 (v3 + (1 : Int32)) [(3, .int (v3 + (1 : Int32))), (2, .int (0 : Int32)), (0, .ref v0), (1, .ref v1)] dX5_readSways_84 rfl rfl (by decide) rfl ?_
            refine pm_goto (pc := 87) 24 dX5_readSways_87 (by decide) ?_
            refine pm_lv [(0, .ref v0), (1, .ref v1), (2, .int (0 : Int32)), (3, .int (v3 + (1 : Int32)))] [2, 3, 1, 0] rfl ?_
            exact ih (0 : Int32) (v3 + (1 : Int32)) s6 hf
def fX5_readSways_J13 (S : pm_S) (v0 : Nat) (v1 : Nat) (t0 : Int32) (t1 : Nat) (σ : pm_H) : Option (pm_H) :=
  Option.bind (fX5_takeWord S t1 t0 σ) fun u1 => (if u1.1 = 0 then some u1.2 else fX5_readSways_L24 S v0 v1 (fun s13 => Option.bind (fX5_takeEnd S v0 s13) fun u14 => some u14) pm_fuel (1 : Int32) (0 : Int32) u1.2)
set_option maxRecDepth 100000 in
set_option maxHeartbeats 4000000 in
theorem fX5_readSways_J13_E (l : Launch) {S : pm_S} {p : pm_H} {v0 : Nat} {v1 : Nat} {t0 : Int32} {t1 : Nat} {σ : pm_H} (h0 : pm_is S v0 8) (h1 : pm_is S v1 12) (g1 : pm_is S t1 8) (hf : fX5_readSways_J13 S v0 v1 t0 t1 σ = some p) : pm_E l yX5_readSways cX5_readSways 4 none false 3 S (pm_ru S p) 13 [(0, .ref v0), (1, .ref v1)] [.int t0, .ref t1] S σ := by
  rw [fX5_readSways_J13] at hf
  obtain ⟨u1, hu1, hf⟩ := pm_bind_e hf
  refine pm_cVi (pc := 13) (as := [.int t0]) (st := []) mvX5_68 (KX5_takeWord l g1 hu1) (by decide) g1 rfl rfl (Nat.le_of_ble_eq_true rfl) rfl dX5_readSways_13 ?_
  refine pm_if_ne (pc := 16) 20 dX5_readSways_16 (by decide) (fun hc15 => ?_) (fun hc15 => ?_)
  · rw [if_pos hc15] at hf
    exact pm_vret rfl dX5_readSways_19 (pm_ru_e hf)
  · rw [if_neg hc15] at hf
    refine pm_iconst (pc := 20) (1 : Int32) (by decide) dX5_readSways_20 ?_
    refine pm_istore_n (pc := 21) [(2, .int (1 : Int32)), (0, .ref v0), (1, .ref v1)] dX5_readSways_21 rfl (by decide) rfl ?_
    refine pm_iconst (pc := 22) (0 : Int32) (by decide) dX5_readSways_22 ?_
    refine pm_istore_n (pc := 23) [(3, .int (0 : Int32)), (2, .int (1 : Int32)), (0, .ref v0), (1, .ref v1)] dX5_readSways_23 rfl (by decide) rfl ?_
    refine pm_lv [(0, .ref v0), (1, .ref v1), (2, .int (1 : Int32)), (3, .int (0 : Int32))] [2, 3, 1, 0] rfl ?_
    refine fX5_readSways_L24_E l h0 h1 (fun s13 hf => ?_) pm_fuel (1 : Int32) (0 : Int32) u1.2 hf
    refine pm_aload_n (pc := 90) 0 dX5_readSways_90 rfl rfl h0.pos ?_
    obtain ⟨u14, hu14, hf⟩ := pm_bind_e hf
    refine pm_cVu (pc := 91) (as := []) (st := []) mvX5_75 (KX5_takeEnd l h0 hu14) (by decide) h0 rfl rfl (Nat.le_of_ble_eq_true rfl) rfl dX5_readSways_91 ?_
    exact pm_vret rfl dX5_readSways_94 (pm_ru_e hf)
def fX5_readSways (S : pm_S) (a0 : Nat) (a1 : Nat) (σ : pm_H) : Option (pm_H) :=
  (if (σ.1 a1 10) = 0 then fX5_readSways_J13 S a0 a1 (1 : Int32) a0 σ else fX5_readSways_J13 S a0 a1 (0 : Int32) a0 σ)
set_option maxRecDepth 100000 in
set_option maxHeartbeats 4000000 in
theorem KX5_readSways (l : Launch) {S : pm_S} {p : pm_H} {a0 : Nat} {a1 : Nat} {σ : pm_H} (h0 : pm_is S a0 8) (h1 : pm_is S a1 12) (hf : fX5_readSways S a0 a1 σ = some p) : pm_M l yX5_readSways cX5_readSways 4 none false 3 [.ref a0, .ref a1] S σ (pm_ru S p) := by
  refine pm_M.of (by decide +kernel) (Nat.le_of_ble_eq_true rfl) ?_
  show pm_E l yX5_readSways cX5_readSways 4 none false 3 S (pm_ru S p) 0 [(0, .ref a0), (1, .ref a1)] [] S σ
  rw [fX5_readSways] at hf
  refine pm_aload_n (pc := 0) 0 dX5_readSways_0 rfl rfl h0.pos ?_
  refine pm_aload_n (pc := 1) 1 dX5_readSways_1 rfl rfl h1.pos ?_
  refine pm_getI (pc := 2) (k := 10) pm_cl9 flX5_109 (by decide) rfl h1 dX5_readSways_2 ?_
  refine pm_if_ne (pc := 5) 12 dX5_readSways_5 (by decide) (fun hc16 => ?_) (fun hc16 => ?_)
  · rw [if_pos hc16] at hf
    refine pm_iconst (pc := 8) (1 : Int32) (by decide) dX5_readSways_8 ?_
    refine pm_goto (pc := 9) 13 dX5_readSways_9 (by decide) ?_
    refine pm_lv [(0, .ref a0), (1, .ref a1)] [0, 1] rfl ?_
    exact fX5_readSways_J13_E l h0 h1 h0 hf
  · rw [if_neg hc16] at hf
    refine pm_iconst (pc := 12) (0 : Int32) (by decide) dX5_readSways_12 ?_
    refine pm_lv [(0, .ref a0), (1, .ref a1)] [0, 1] rfl ?_
    exact fX5_readSways_J13_E l h0 h1 h0 hf
def fX5_readClause_J148 (S : pm_S) (v0 : Nat) (σ : pm_H) : Option (pm_H) :=
  Option.bind (fX5_blame S v0 (1 : Int32) (σ.1 v0 4) σ) fun u14 => some u14
set_option maxRecDepth 100000 in
set_option maxHeartbeats 4000000 in
theorem fX5_readClause_J148_E (l : Launch) {S : pm_S} {p : pm_H} {v0 : Nat} {σ : pm_H} (h0 : pm_is S v0 8) (hf : fX5_readClause_J148 S v0 σ = some p) : pm_E l yX5_readClause cX5_readClause 3 none false 4 S (pm_ru S p) 148 [(0, .ref v0)] [] S σ := by
  rw [fX5_readClause_J148] at hf
  refine pm_aload_n (pc := 148) 0 dX5_readClause_148 rfl rfl h0.pos ?_
  refine pm_iconst (pc := 149) (1 : Int32) (by decide) dX5_readClause_149 ?_
  refine pm_aload_n (pc := 150) 0 dX5_readClause_150 rfl rfl h0.pos ?_
  refine pm_getI (pc := 151) (k := 4) pm_cl5 flX5_28 (by decide) rfl h0 dX5_readClause_151 ?_
  obtain ⟨u14, hu14, hf⟩ := pm_bind_e hf
  refine pm_cVu (pc := 154) (as := [.int (1 : Int32), .int (σ.1 v0 4)]) (st := []) mvX5_49 (KX5_blame l h0 hu14) (by decide) h0 rfl rfl (Nat.le_of_ble_eq_true rfl) rfl dX5_readClause_154 ?_
  exact pm_vret rfl dX5_readClause_157 (pm_ru_e hf)
def fX5_readClause_J33 (S : pm_S) (v0 : Nat) (v1 : Nat) (v2 : Int32) (σ : pm_H) : Option (pm_H) :=
  (if v2 = (100 : Int32) then Option.bind (fX5_readSways S v0 v1 σ) fun u4 => some u4 else (if v2 = (110 : Int32) then Option.bind (fX5_readNick S v0 v1 σ) fun u6 => some u6 else (if v2 = (111 : Int32) then Option.bind (fX5_readOffice S v0 v1 σ) fun u8 => some u8 else (if v2 = (112 : Int32) then Option.bind (fX5_readPerson S v0 v1 σ) fun u10 => some u10 else (if v2 = (114 : Int32) then Option.bind (fX5_readRod S v0 v1 σ) fun u12 => some u12 else fX5_readClause_J148 S v0 σ)))))
set_option maxRecDepth 100000 in
set_option maxHeartbeats 4000000 in
theorem fX5_readClause_J33_E (l : Launch) {S : pm_S} {p : pm_H} {v0 : Nat} {v1 : Nat} {v2 : Int32} {σ : pm_H} (h0 : pm_is S v0 8) (h1 : pm_is S v1 12) (hf : fX5_readClause_J33 S v0 v1 v2 σ = some p) : pm_E l yX5_readClause cX5_readClause 3 none false 4 S (pm_ru S p) 33 [(0, .ref v0), (1, .ref v1), (2, .int v2)] [] S σ := by
  rw [fX5_readClause_J33] at hf
  refine pm_iload_n (pc := 33) 2 dX5_readClause_33 rfl rfl ?_
  by_cases hc5 : v2 = (100 : Int32)
  · rw [if_pos hc5] at hf
    refine pm_tin (pc := 34) (off := 106) 140 hc5 dX5_readClause_34 (by decide) (by decide) ?_
    refine pm_aload_n (pc := 140) 0 dX5_readClause_140 rfl rfl h0.pos ?_
    refine pm_aload_n (pc := 141) 1 dX5_readClause_141 rfl rfl h1.pos ?_
    obtain ⟨u4, hu4, hf⟩ := pm_bind_e hf
    refine pm_cVu (pc := 142) (as := [.ref v1]) (st := []) mvX5_65 (KX5_readSways l h0 h1 hu4) (by decide) h0 rfl rfl (Nat.le_of_ble_eq_true rfl) rfl dX5_readClause_142 ?_
    refine pm_goto (pc := 145) 157 dX5_readClause_145 (by decide) ?_
    exact pm_vret rfl dX5_readClause_157 (pm_ru_e hf)
  · rw [if_neg hc5] at hf
    by_cases hc7 : v2 = (110 : Int32)
    · rw [if_pos hc7] at hf
      refine pm_tin (pc := 34) (off := 82) 116 hc7 dX5_readClause_34 (by decide) (by decide) ?_
      refine pm_aload_n (pc := 116) 0 dX5_readClause_116 rfl rfl h0.pos ?_
      refine pm_aload_n (pc := 117) 1 dX5_readClause_117 rfl rfl h1.pos ?_
      obtain ⟨u6, hu6, hf⟩ := pm_bind_e hf
      refine pm_cVu (pc := 118) (as := [.ref v1]) (st := []) mvX5_56 (KX5_readNick l h0 h1 hu6) (by decide) h0 rfl rfl (Nat.le_of_ble_eq_true rfl) rfl dX5_readClause_118 ?_
      refine pm_goto (pc := 121) 157 dX5_readClause_121 (by decide) ?_
      exact pm_vret rfl dX5_readClause_157 (pm_ru_e hf)
    · rw [if_neg hc7] at hf
      by_cases hc9 : v2 = (111 : Int32)
      · rw [if_pos hc9] at hf
        refine pm_tin (pc := 34) (off := 90) 124 hc9 dX5_readClause_34 (by decide) (by decide) ?_
        refine pm_aload_n (pc := 124) 0 dX5_readClause_124 rfl rfl h0.pos ?_
        refine pm_aload_n (pc := 125) 1 dX5_readClause_125 rfl rfl h1.pos ?_
        obtain ⟨u8, hu8, hf⟩ := pm_bind_e hf
        refine pm_cVu (pc := 126) (as := [.ref v1]) (st := []) mvX5_59 (KX5_readOffice l h0 h1 hu8) (by decide) h0 rfl rfl (Nat.le_of_ble_eq_true rfl) rfl dX5_readClause_126 ?_
        refine pm_goto (pc := 129) 157 dX5_readClause_129 (by decide) ?_
        exact pm_vret rfl dX5_readClause_157 (pm_ru_e hf)
      · rw [if_neg hc9] at hf
        by_cases hc11 : v2 = (112 : Int32)
        · rw [if_pos hc11] at hf
          refine pm_tin (pc := 34) (off := 98) 132 hc11 dX5_readClause_34 (by decide) (by decide) ?_
          refine pm_aload_n (pc := 132) 0 dX5_readClause_132 rfl rfl h0.pos ?_
          refine pm_aload_n (pc := 133) 1 dX5_readClause_133 rfl rfl h1.pos ?_
          obtain ⟨u10, hu10, hf⟩ := pm_bind_e hf
          refine pm_cVu (pc := 134) (as := [.ref v1]) (st := []) mvX5_62 (KX5_readPerson l h0 h1 hu10) (by decide) h0 rfl rfl (Nat.le_of_ble_eq_true rfl) rfl dX5_readClause_134 ?_
          refine pm_goto (pc := 137) 157 dX5_readClause_137 (by decide) ?_
          exact pm_vret rfl dX5_readClause_157 (pm_ru_e hf)
        · rw [if_neg hc11] at hf
          by_cases hc13 : v2 = (114 : Int32)
          · rw [if_pos hc13] at hf
            refine pm_tin (pc := 34) (off := 74) 108 hc13 dX5_readClause_34 (by decide) (by decide) ?_
            refine pm_aload_n (pc := 108) 0 dX5_readClause_108 rfl rfl h0.pos ?_
            refine pm_aload_n (pc := 109) 1 dX5_readClause_109 rfl rfl h1.pos ?_
            obtain ⟨u12, hu12, hf⟩ := pm_bind_e hf
            refine pm_cVu (pc := 110) (as := [.ref v1]) (st := []) mvX5_53 (KX5_readRod l h0 h1 hu12) (by decide) h0 rfl rfl (Nat.le_of_ble_eq_true rfl) rfl dX5_readClause_110 ?_
            refine pm_goto (pc := 113) 157 dX5_readClause_113 (by decide) ?_
            exact pm_vret rfl dX5_readClause_157 (pm_ru_e hf)
          · rw [if_neg hc13] at hf
            by_cases hc15 : v2 = (101 : Int32)
            · refine pm_tin (pc := 34) (off := 114) 148 hc15 dX5_readClause_34 (by decide) (by decide) ?_
              refine pm_lv [(0, .ref v0)] [0] rfl ?_
              exact fX5_readClause_J148_E l h0 hf
            · by_cases hc16 : v2 = (102 : Int32)
              · refine pm_tin (pc := 34) (off := 114) 148 hc16 dX5_readClause_34 (by decide) (by decide) ?_
                refine pm_lv [(0, .ref v0)] [0] rfl ?_
                exact fX5_readClause_J148_E l h0 hf
              · by_cases hc17 : v2 = (103 : Int32)
                · refine pm_tin (pc := 34) (off := 114) 148 hc17 dX5_readClause_34 (by decide) (by decide) ?_
                  refine pm_lv [(0, .ref v0)] [0] rfl ?_
                  exact fX5_readClause_J148_E l h0 hf
                · by_cases hc18 : v2 = (104 : Int32)
                  · refine pm_tin (pc := 34) (off := 114) 148 hc18 dX5_readClause_34 (by decide) (by decide) ?_
                    refine pm_lv [(0, .ref v0)] [0] rfl ?_
                    exact fX5_readClause_J148_E l h0 hf
                  · by_cases hc19 : v2 = (105 : Int32)
                    · refine pm_tin (pc := 34) (off := 114) 148 hc19 dX5_readClause_34 (by decide) (by decide) ?_
                      refine pm_lv [(0, .ref v0)] [0] rfl ?_
                      exact fX5_readClause_J148_E l h0 hf
                    · by_cases hc20 : v2 = (106 : Int32)
                      · refine pm_tin (pc := 34) (off := 114) 148 hc20 dX5_readClause_34 (by decide) (by decide) ?_
                        refine pm_lv [(0, .ref v0)] [0] rfl ?_
                        exact fX5_readClause_J148_E l h0 hf
                      · by_cases hc21 : v2 = (107 : Int32)
                        · refine pm_tin (pc := 34) (off := 114) 148 hc21 dX5_readClause_34 (by decide) (by decide) ?_
                          refine pm_lv [(0, .ref v0)] [0] rfl ?_
                          exact fX5_readClause_J148_E l h0 hf
                        · by_cases hc22 : v2 = (108 : Int32)
                          · refine pm_tin (pc := 34) (off := 114) 148 hc22 dX5_readClause_34 (by decide) (by decide) ?_
                            refine pm_lv [(0, .ref v0)] [0] rfl ?_
                            exact fX5_readClause_J148_E l h0 hf
                          · by_cases hc23 : v2 = (109 : Int32)
                            · refine pm_tin (pc := 34) (off := 114) 148 hc23 dX5_readClause_34 (by decide) (by decide) ?_
                              refine pm_lv [(0, .ref v0)] [0] rfl ?_
                              exact fX5_readClause_J148_E l h0 hf
                            · by_cases hc24 : v2 = (113 : Int32)
                              · refine pm_tin (pc := 34) (off := 114) 148 hc24 dX5_readClause_34 (by decide) (by decide) ?_
                                refine pm_lv [(0, .ref v0)] [0] rfl ?_
                                exact fX5_readClause_J148_E l h0 hf
                              · have q0 : ¬ (v2).toInt = 100 := lv_neT hc5 (by decide)
                                have q1 : ¬ (v2).toInt = 110 := lv_neT hc7 (by decide)
                                have q2 : ¬ (v2).toInt = 111 := lv_neT hc9 (by decide)
                                have q3 : ¬ (v2).toInt = 112 := lv_neT hc11 (by decide)
                                have q4 : ¬ (v2).toInt = 114 := lv_neT hc13 (by decide)
                                have q5 : ¬ (v2).toInt = 101 := lv_neT hc15 (by decide)
                                have q6 : ¬ (v2).toInt = 102 := lv_neT hc16 (by decide)
                                have q7 : ¬ (v2).toInt = 103 := lv_neT hc17 (by decide)
                                have q8 : ¬ (v2).toInt = 104 := lv_neT hc18 (by decide)
                                have q9 : ¬ (v2).toInt = 105 := lv_neT hc19 (by decide)
                                have q10 : ¬ (v2).toInt = 106 := lv_neT hc20 (by decide)
                                have q11 : ¬ (v2).toInt = 107 := lv_neT hc21 (by decide)
                                have q12 : ¬ (v2).toInt = 108 := lv_neT hc22 (by decide)
                                have q13 : ¬ (v2).toInt = 109 := lv_neT hc23 (by decide)
                                have q14 : ¬ (v2).toInt = 113 := lv_neT hc24 (by decide)
                                refine pm_tableOut (pc := 34) 148 dX5_readClause_34 (by omega) (by decide) ?_
                                refine pm_lv [(0, .ref v0)] [0] rfl ?_
                                exact fX5_readClause_J148_E l h0 hf
def fX5_readClause (S : pm_S) (a0 : Nat) (a1 : Nat) (σ : pm_H) : Option (pm_H) :=
  (if pm_ib (σ.1 a0 4) (pm_len S (σ.2 a0 2)) = true then pm_let (σ.1 (σ.2 a0 2) ((σ.1 a0 4)).toNatClampNeg) fun x3 => (if x3 = (114 : Int32) then fX5_readClause_J33 S a0 a1 x3 σ else (if (σ.1 a1 0) = 0 then Option.bind (fX5_blame S a0 (1 : Int32) (σ.1 a0 4) σ) fun u25 => some u25 else fX5_readClause_J33 S a0 a1 x3 σ)) else none)
set_option maxRecDepth 100000 in
set_option maxHeartbeats 4000000 in
theorem KX5_readClause (l : Launch) {S : pm_S} {p : pm_H} {a0 : Nat} {a1 : Nat} {σ : pm_H} (h0 : pm_is S a0 8) (h1 : pm_is S a1 12) (hf : fX5_readClause S a0 a1 σ = some p) : pm_M l yX5_readClause cX5_readClause 3 none false 4 [.ref a0, .ref a1] S σ (pm_ru S p) := by
  refine pm_M.of (by decide +kernel) (Nat.le_of_ble_eq_true rfl) ?_
  show pm_E l yX5_readClause cX5_readClause 3 none false 4 S (pm_ru S p) 0 [(0, .ref a0), (1, .ref a1)] [] S σ
  rw [fX5_readClause] at hf
  refine pm_aload_n (pc := 0) 0 dX5_readClause_0 rfl rfl h0.pos ?_
  refine pm_getT (pc := 1) (k := 2) pm_cl5 flX5_9 (by decide) rfl h0 dX5_readClause_1 (fun hr1 => ?_)
  refine pm_aload_n (pc := 4) 0 dX5_readClause_4 rfl rfl h0.pos ?_
  refine pm_getI (pc := 5) (k := 4) pm_cl5 flX5_28 (by decide) rfl h0 dX5_readClause_5 ?_
  obtain ⟨hb2, hf⟩ := pm_gd hf
  refine pm_iald (pc := 8) hr1 (pm_ib_in hb2) dX5_readClause_8 ?_
  obtain ⟨x3, ex3, hf⟩ := pm_let_e hf
  refine pm_nmi ex3 ?_
  refine pm_istore_n (pc := 9) [(2, .int x3), (0, .ref a0), (1, .ref a1)] dX5_readClause_9 rfl (by decide) rfl ?_
  refine pm_iload_n (pc := 10) 0 dX5_readClause_10 rfl rfl ?_
  refine pm_bipush (pc := 11) (114 : Int32) (by decide) dX5_readClause_11 ?_
  refine pm_icmp_eq (pc := 13) 33 dX5_readClause_13 (by decide) (fun hc27 => ?_) (fun hc27 => ?_)
  · rw [if_pos hc27] at hf
    refine pm_lv [(0, .ref a0), (1, .ref a1), (2, .int x3)] [1, 2, 0] rfl ?_
    exact fX5_readClause_J33_E l h0 h1 hf
  · rw [if_neg hc27] at hf
    refine pm_aload_n (pc := 16) 2 dX5_readClause_16 rfl rfl h1.pos ?_
    refine pm_getI (pc := 17) (k := 0) pm_cl9 flX5_46 (by decide) rfl h1 dX5_readClause_17 ?_
    refine pm_if_ne (pc := 20) 33 dX5_readClause_20 (by decide) (fun hc26 => ?_) (fun hc26 => ?_)
    · rw [if_pos hc26] at hf
      refine pm_aload_n (pc := 23) 1 dX5_readClause_23 rfl rfl h0.pos ?_
      refine pm_iconst (pc := 24) (1 : Int32) (by decide) dX5_readClause_24 ?_
      refine pm_aload_n (pc := 25) 1 dX5_readClause_25 rfl rfl h0.pos ?_
      refine pm_getI (pc := 26) (k := 4) pm_cl5 flX5_28 (by decide) rfl h0 dX5_readClause_26 ?_
      obtain ⟨u25, hu25, hf⟩ := pm_bind_e hf
      refine pm_cVu (pc := 29) (as := [.int (1 : Int32), .int (σ.1 a0 4)]) (st := []) mvX5_49 (KX5_blame l h0 hu25) (by decide) h0 rfl rfl (Nat.le_of_ble_eq_true rfl) rfl dX5_readClause_29 ?_
      exact pm_vret rfl dX5_readClause_32 (pm_ru_e hf)
    · rw [if_neg hc26] at hf
      refine pm_lv [(0, .ref a0), (1, .ref a1), (2, .int x3)] [1, 2, 0] rfl ?_
      exact fX5_readClause_J33_E l h0 h1 hf
def fX5_readText_L41 (S : pm_S) (v0 : Nat) (v3 : Nat) (kx : pm_H → Option (pm_H)) : Nat → Int32 → pm_H → Option (pm_H)
  | 0, _, _ => none
  | n + 1, v4, σ => (if (240 : Int32) ≤ v4 then kx σ else (if (σ.1 v0 3) ≤ (σ.1 v0 4) then kx σ else (if (σ.1 v0 0) = 0 then Option.bind (fX5_readClause S v0 v3 σ) fun u8 => Option.bind (fX5_skipBlanks S v0 u8) fun u9 => fX5_readText_L41 S v0 v3 kx n (v4 + (1 : Int32)) u9 else kx σ)))
set_option maxRecDepth 100000 in
set_option maxHeartbeats 4000000 in
theorem fX5_readText_L41_E (l : Launch) {S : pm_S} {p : pm_H} {v0 : Nat} {v3 : Nat} {kx : pm_H → Option (pm_H)} (h0 : pm_is S v0 8) (h3 : pm_is S v3 12) (hkx : ∀  sw, kx  sw = some p → pm_E l yX5_readText cX5_readText 5 none false 5 S (pm_ru S p) 82 [] [] S sw) : ∀ (n : Nat) (v4 : Int32) (σ : pm_H), fX5_readText_L41 S v0 v3 kx n v4 σ = some p → pm_E l yX5_readText cX5_readText 5 none false 5 S (pm_ru S p) 41 [(0, .ref v0), (3, .ref v3), (4, .int v4)] [] S σ := by
  intro n
  induction n with
  | zero => intro v4 σ hf; cases hf
  | succ n ih =>
    intro v4 σ hf
    rw [fX5_readText_L41] at hf
    refine pm_iload (pc := 41) 2 dX5_readText_41 rfl ?_
    refine pm_sipush (pc := 43) (240 : Int32) (by decide) dX5_readText_43 ?_
    refine pm_icmp_ge (pc := 46) 82 dX5_readText_46 (by decide) (fun hc12 => ?_) (fun hc12 => ?_)
    · rw [if_pos hc12] at hf
      refine pm_lv [] [] rfl ?_
      exact hkx σ hf
    · rw [if_neg hc12] at hf
      refine pm_aload_n (pc := 49) 0 dX5_readText_49 rfl rfl h0.pos ?_
      refine pm_getI (pc := 50) (k := 4) pm_cl5 flX5_28 (by decide) rfl h0 dX5_readText_50 ?_
      refine pm_aload_n (pc := 53) 0 dX5_readText_53 rfl rfl h0.pos ?_
      refine pm_getI (pc := 54) (k := 3) pm_cl5 flX5_25 (by decide) rfl h0 dX5_readText_54 ?_
      refine pm_icmp_ge (pc := 57) 82 dX5_readText_57 (by decide) (fun hc11 => ?_) (fun hc11 => ?_)
      · rw [if_pos hc11] at hf
        refine pm_lv [] [] rfl ?_
        exact hkx σ hf
      · rw [if_neg hc11] at hf
        refine pm_aload_n (pc := 60) 0 dX5_readText_60 rfl rfl h0.pos ?_
        refine pm_getI (pc := 61) (k := 0) pm_cl5 flX5_31 (by decide) rfl h0 dX5_readText_61 ?_
        refine pm_if_ne (pc := 64) 82 dX5_readText_64 (by decide) (fun hc10 => ?_) (fun hc10 => ?_)
        · rw [if_pos hc10] at hf
          refine pm_aload_n (pc := 67) 0 dX5_readText_67 rfl rfl h0.pos ?_
          refine pm_aload_n (pc := 68) 1 dX5_readText_68 rfl rfl h3.pos ?_
          obtain ⟨u8, hu8, hf⟩ := pm_bind_e hf
          refine pm_cVu (pc := 69) (as := [.ref v3]) (st := []) mvX5_42 (KX5_readClause l h0 h3 hu8) (by decide) h0 rfl rfl (Nat.le_of_ble_eq_true rfl) rfl dX5_readText_69 ?_
          refine pm_aload_n (pc := 72) 0 dX5_readText_72 rfl rfl h0.pos ?_
          obtain ⟨u9, hu9, hf⟩ := pm_bind_e hf
          refine pm_cVu (pc := 73) (as := []) (st := []) mvX5_39 (KX5_skipBlanks l h0 hu9) (by decide) h0 rfl rfl (Nat.le_of_ble_eq_true rfl) rfl dX5_readText_73 ?_
          refine pm_iinc (pc := 76) 2 (v4 + (1 : Int32)) [(4, .int (v4 + (1 : Int32))), (0, .ref v0), (3, .ref v3)] dX5_readText_76 rfl rfl (by decide) rfl ?_
          refine pm_goto (pc := 79) 41 dX5_readText_79 (by decide) ?_
          refine pm_lv [(0, .ref v0), (3, .ref v3), (4, .int (v4 + (1 : Int32)))] [1, 2, 0] rfl ?_
          exact ih (v4 + (1 : Int32)) u9 hf
        · rw [if_neg hc10] at hf
          refine pm_lv [] [] rfl ?_
          exact hkx σ hf
def fX5_readText (S : pm_S) (a0 : Nat) (a1 : Nat) (a2 : Int32) (a3 : Nat) (σ : pm_H) : Option (pm_H) :=
  pm_let (pm_sr σ a0 2 a1) fun s1 => pm_let (pm_si s1 a0 3 (pm_min a2 (Int32.ofNat (pm_len S a1)))) fun s2 => pm_let (pm_si s2 a0 4 (0 : Int32)) fun s3 => pm_let (pm_si s3 a0 0 (0 : Int32)) fun s4 => pm_let (pm_si s4 a0 1 (-1 : Int32)) fun s5 => Option.bind (fX9_clear S a3 s5) fun u6 => Option.bind (fX5_skipBlanks S a0 u6) fun u7 => fX5_readText_L41 S a0 a3 (fun s13 => some s13) pm_fuel (0 : Int32) u7
set_option maxRecDepth 100000 in
set_option maxHeartbeats 4000000 in
theorem KX5_readText (l : Launch) {S : pm_S} {p : pm_H} {a0 : Nat} {a1 : Nat} {a2 : Int32} {a3 : Nat} {σ : pm_H} (h0 : pm_is S a0 8) (h1 : pm_is S a1 0) (h3 : pm_is S a3 12) (hf : fX5_readText S a0 a1 a2 a3 σ = some p) : pm_M l yX5_readText cX5_readText 5 none false 5 [.ref a0, .ref a1, .int a2, .ref a3] S σ (pm_ru S p) := by
  refine pm_M.of (by decide +kernel) (Nat.le_of_ble_eq_true rfl) ?_
  show pm_E l yX5_readText cX5_readText 5 none false 5 S (pm_ru S p) 0 [(0, .ref a0), (1, .ref a1), (2, .int a2), (3, .ref a3)] [] S σ
  rw [fX5_readText] at hf
  refine pm_aload_n (pc := 0) 0 dX5_readText_0 rfl rfl h0.pos ?_
  refine pm_aload_n (pc := 1) 1 dX5_readText_1 rfl rfl h1.pos ?_
  refine pm_putR (pc := 2) (k := 2) pm_cl5 flX5_9 (by decide) rfl (fun _ => ⟨rfl, rfl⟩) (Or.inl rfl) h0 h1 dX5_readText_2 ?_
  obtain ⟨s1, es1, hf⟩ := pm_let_e hf
  refine pm_nmh es1 ?_
  refine pm_aload_n (pc := 5) 0 dX5_readText_5 rfl rfl h0.pos ?_
  refine pm_iload_n (pc := 6) 2 dX5_readText_6 rfl rfl ?_
  refine pm_aload_n (pc := 7) 1 dX5_readText_7 rfl rfl h1.pos ?_
  refine pm_alen (pc := 8) h1 (by decide) dX5_readText_8 ?_
  refine pm_mmin (pc := 9) (st := [.ref a0]) mmX5_19 (Nat.le_of_ble_eq_true rfl) (by decide) rfl dX5_readText_9 ?_
  refine pm_putI (pc := 12) (k := 3) pm_cl5 flX5_25 (by decide) rfl rfl rfl h0 dX5_readText_12 ?_
  obtain ⟨s2, es2, hf⟩ := pm_let_e hf
  refine pm_nmh es2 ?_
  refine pm_aload_n (pc := 15) 0 dX5_readText_15 rfl rfl h0.pos ?_
  refine pm_iconst (pc := 16) (0 : Int32) (by decide) dX5_readText_16 ?_
  refine pm_putI (pc := 17) (k := 4) pm_cl5 flX5_28 (by decide) rfl rfl rfl h0 dX5_readText_17 ?_
  obtain ⟨s3, es3, hf⟩ := pm_let_e hf
  refine pm_nmh es3 ?_
  refine pm_aload_n (pc := 20) 0 dX5_readText_20 rfl rfl h0.pos ?_
  refine pm_iconst (pc := 21) (0 : Int32) (by decide) dX5_readText_21 ?_
  refine pm_putI (pc := 22) (k := 0) pm_cl5 flX5_31 (by decide) rfl rfl rfl h0 dX5_readText_22 ?_
  obtain ⟨s4, es4, hf⟩ := pm_let_e hf
  refine pm_nmh es4 ?_
  refine pm_aload_n (pc := 25) 0 dX5_readText_25 rfl rfl h0.pos ?_
  refine pm_iconst (pc := 26) (-1 : Int32) (by decide) dX5_readText_26 ?_
  refine pm_putI (pc := 27) (k := 1) pm_cl5 flX5_15 (by decide) rfl rfl rfl h0 dX5_readText_27 ?_
  obtain ⟨s5, es5, hf⟩ := pm_let_e hf
  refine pm_nmh es5 ?_
  refine pm_aload_n (pc := 30) 3 dX5_readText_30 rfl rfl h3.pos ?_
  obtain ⟨u6, hu6, hf⟩ := pm_bind_e hf
  refine pm_cVu (pc := 31) (as := []) (st := []) mvX5_34 (KX9_clear l h3 hu6) (by decide) h3 rfl rfl (Nat.le_of_ble_eq_true rfl) rfl dX5_readText_31 ?_
  refine pm_aload_n (pc := 34) 0 dX5_readText_34 rfl rfl h0.pos ?_
  obtain ⟨u7, hu7, hf⟩ := pm_bind_e hf
  refine pm_cVu (pc := 35) (as := []) (st := []) mvX5_39 (KX5_skipBlanks l h0 hu7) (by decide) h0 rfl rfl (Nat.le_of_ble_eq_true rfl) rfl dX5_readText_35 ?_
  refine pm_iconst (pc := 38) (0 : Int32) (by decide) dX5_readText_38 ?_
  refine pm_istore (pc := 39) [(4, .int (0 : Int32)), (0, .ref a0), (1, .ref a1), (2, .int a2), (3, .ref a3)] dX5_readText_39 (by decide) rfl ?_
  refine pm_lv [(0, .ref a0), (3, .ref a3), (4, .int (0 : Int32))] [1, 4, 0] rfl ?_
  refine fX5_readText_L41_E l h0 h3 (fun s13 hf => ?_) pm_fuel (0 : Int32) u7 hf
  exact pm_vret rfl dX5_readText_82 (pm_ru_e hf)
def fX6_begin (S : pm_S) (a0 : Nat) (a1 : Int32) (σ : pm_H) : Option (pm_H) :=
  pm_let (pm_si σ a0 0 a1) fun s1 => pm_let (pm_si s1 a0 1 (0 : Int32)) fun s2 => pm_let (pm_si s2 a0 2 (0 : Int32)) fun s3 => pm_let (pm_si s3 a0 3 (0 : Int32)) fun s4 => some s4
set_option maxRecDepth 100000 in
set_option maxHeartbeats 4000000 in
theorem KX6_begin (l : Launch) {S : pm_S} {p : pm_H} {a0 : Nat} {a1 : Int32} {σ : pm_H} (h0 : pm_is S a0 9) (hf : fX6_begin S a0 a1 σ = some p) : pm_M l yX6_begin cX6_begin 2 none false 0 [.ref a0, .int a1] S σ (pm_ru S p) := by
  refine pm_M.of (by decide +kernel) (Nat.le_of_ble_eq_true rfl) ?_
  show pm_E l yX6_begin cX6_begin 2 none false 0 S (pm_ru S p) 0 [(0, .ref a0), (1, .int a1)] [] S σ
  rw [fX6_begin] at hf
  refine pm_aload_n (pc := 0) 0 dX6_begin_0 rfl rfl h0.pos ?_
  refine pm_iload_n (pc := 1) 1 dX6_begin_1 rfl rfl ?_
  refine pm_putI (pc := 2) (k := 0) pm_cl6 flX6_9 (by decide) rfl rfl rfl h0 dX6_begin_2 ?_
  obtain ⟨s1, es1, hf⟩ := pm_let_e hf
  refine pm_nmh es1 ?_
  refine pm_aload_n (pc := 5) 0 dX6_begin_5 rfl rfl h0.pos ?_
  refine pm_iconst (pc := 6) (0 : Int32) (by decide) dX6_begin_6 ?_
  refine pm_putI (pc := 7) (k := 1) pm_cl6 flX6_15 (by decide) rfl rfl rfl h0 dX6_begin_7 ?_
  obtain ⟨s2, es2, hf⟩ := pm_let_e hf
  refine pm_nmh es2 ?_
  refine pm_aload_n (pc := 10) 0 dX6_begin_10 rfl rfl h0.pos ?_
  refine pm_iconst (pc := 11) (0 : Int32) (by decide) dX6_begin_11 ?_
  refine pm_putZ (pc := 12) (k := 2) pm_cl6 flX6_18 (by decide) rfl rfl rfl h0 (by decide) dX6_begin_12 ?_
  obtain ⟨s3, es3, hf⟩ := pm_let_e hf
  refine pm_nmh es3 ?_
  refine pm_aload_n (pc := 15) 0 dX6_begin_15 rfl rfl h0.pos ?_
  refine pm_iconst (pc := 16) (0 : Int32) (by decide) dX6_begin_16 ?_
  refine pm_putI (pc := 17) (k := 3) pm_cl6 flX6_22 (by decide) rfl rfl rfl h0 dX6_begin_17 ?_
  obtain ⟨s4, es4, hf⟩ := pm_let_e hf
  refine pm_nmh es4 ?_
  exact pm_vret rfl dX6_begin_20 (pm_ru_e hf)
def fX9_bendIn (S : pm_S) (a0 : Nat) (a1 : Int32) (σ : pm_H) : Option (Int32 × pm_H) :=
  (if (σ.1 a0 10) < (1 : Int32) then some ((0 : Int32), σ) else (if 0 ≤ a1 then if (σ.1 a0 10) = 0 then none else (if pm_ib (pm_rem a1 (σ.1 a0 10)) (pm_len S (σ.2 a0 9)) = true then some (((σ.1 (σ.2 a0 9) ((pm_rem a1 (σ.1 a0 10))).toNatClampNeg) - (4 : Int32)), σ) else none) else some ((0 : Int32), σ)))
set_option maxRecDepth 100000 in
set_option maxHeartbeats 4000000 in
theorem KX9_bendIn (l : Launch) {S : pm_S} {p : Int32 × pm_H} {a0 : Nat} {a1 : Int32} {σ : pm_H} (h0 : pm_is S a0 12) (hf : fX9_bendIn S a0 a1 σ = some p) : pm_M l yX9_bendIn cX9_bendIn 2 (some .int) false 0 [.ref a0, .int a1] S σ (pm_ri S p) := by
  refine pm_M.of (by decide +kernel) (Nat.le_of_ble_eq_true rfl) ?_
  show pm_E l yX9_bendIn cX9_bendIn 2 (some .int) false 0 S (pm_ri S p) 0 [(0, .ref a0), (1, .int a1)] [] S σ
  rw [fX9_bendIn] at hf
  refine pm_aload_n (pc := 0) 0 dX9_bendIn_0 rfl rfl h0.pos ?_
  refine pm_getI (pc := 1) (k := 10) pm_cl9 flX9_43 (by decide) rfl h0 dX9_bendIn_1 ?_
  refine pm_iconst (pc := 4) (1 : Int32) (by decide) dX9_bendIn_4 ?_
  refine pm_icmp_lt (pc := 5) 12 dX9_bendIn_5 (by decide) (fun hc5 => ?_) (fun hc5 => ?_)
  · rw [if_pos hc5] at hf
    refine pm_iconst (pc := 12) (0 : Int32) (by decide) dX9_bendIn_12 ?_
    refine pm_goto (pc := 13) 29 dX9_bendIn_13 (by decide) ?_
    exact pm_iret rfl dX9_bendIn_29 (pm_ri_e hf)
  · rw [if_neg hc5] at hf
    refine pm_iload_n (pc := 8) 1 dX9_bendIn_8 rfl rfl ?_
    refine pm_if_ge (pc := 9) 16 dX9_bendIn_9 (by decide) (fun hc4 => ?_) (fun hc4 => ?_)
    · rw [if_pos hc4] at hf
      refine pm_aload_n (pc := 16) 0 dX9_bendIn_16 rfl rfl h0.pos ?_
      refine pm_getT (pc := 17) (k := 9) pm_cl9 flX9_24 (by decide) rfl h0 dX9_bendIn_17 (fun hr1 => ?_)
      refine pm_iload_n (pc := 20) 1 dX9_bendIn_20 rfl rfl ?_
      refine pm_aload_n (pc := 21) 0 dX9_bendIn_21 rfl rfl h0.pos ?_
      refine pm_getI (pc := 22) (k := 10) pm_cl9 flX9_43 (by decide) rfl h0 dX9_bendIn_22 ?_
      obtain ⟨hz2, hf⟩ := pm_gz hf
      refine pm_irem (pc := 25) hz2 dX9_bendIn_25 ?_
      obtain ⟨hb3, hf⟩ := pm_gd hf
      refine pm_iald (pc := 26) hr1 (pm_ib_in hb3) dX9_bendIn_26 ?_
      refine pm_iconst (pc := 27) (4 : Int32) (by decide) dX9_bendIn_27 ?_
      refine pm_isub (pc := 28) dX9_bendIn_28 ?_
      exact pm_iret rfl dX9_bendIn_29 (pm_ri_e hf)
    · rw [if_neg hc4] at hf
      refine pm_iconst (pc := 12) (0 : Int32) (by decide) dX9_bendIn_12 ?_
      refine pm_goto (pc := 13) 29 dX9_bendIn_13 (by decide) ?_
      exact pm_iret rfl dX9_bendIn_29 (pm_ri_e hf)
def fX6_passYear (S : pm_S) (a0 : Nat) (a1 : Nat) (σ : pm_H) : Option (pm_H) :=
  (if (σ.1 a0 2) = 0 then Option.bind (fX9_bendIn S a1 (σ.1 a0 3) σ) fun u2 => pm_let (pm_si u2.2 a0 1 (pm_max (-99 : Int32) (pm_min (99 : Int32) ((σ.1 a0 1) + u2.1)))) fun s3 => pm_let (pm_si s3 a0 0 (pm_max (1 : Int32) ((s3.1 a0 0) - (s3.1 a1 1)))) fun s4 => pm_let (pm_si s4 a0 3 ((s4.1 a0 3) + (1 : Int32))) fun s5 => some s5 else pm_let (pm_si σ a0 3 ((σ.1 a0 3) + (1 : Int32))) fun s1 => some s1)
set_option maxRecDepth 100000 in
set_option maxHeartbeats 4000000 in
theorem KX6_passYear (l : Launch) {S : pm_S} {p : pm_H} {a0 : Nat} {a1 : Nat} {σ : pm_H} (h0 : pm_is S a0 9) (h1 : pm_is S a1 12) (hf : fX6_passYear S a0 a1 σ = some p) : pm_M l yX6_passYear cX6_passYear 2 none false 1 [.ref a0, .ref a1] S σ (pm_ru S p) := by
  refine pm_M.of (by decide +kernel) (Nat.le_of_ble_eq_true rfl) ?_
  show pm_E l yX6_passYear cX6_passYear 2 none false 1 S (pm_ru S p) 0 [(0, .ref a0), (1, .ref a1)] [] S σ
  rw [fX6_passYear] at hf
  refine pm_aload_n (pc := 0) 0 dX6_passYear_0 rfl rfl h0.pos ?_
  refine pm_getI (pc := 1) (k := 2) pm_cl6 flX6_18 (by decide) rfl h0 dX6_passYear_1 ?_
  refine pm_if_ne (pc := 4) 51 dX6_passYear_4 (by decide) (fun hc6 => ?_) (fun hc6 => ?_)
  · rw [if_pos hc6] at hf
    refine pm_aload_n (pc := 7) 0 dX6_passYear_7 rfl rfl h0.pos ?_
    refine pm_bipush (pc := 8) (-99 : Int32) (by decide) dX6_passYear_8 ?_
    refine pm_bipush (pc := 10) (99 : Int32) (by decide) dX6_passYear_10 ?_
    refine pm_aload_n (pc := 12) 0 dX6_passYear_12 rfl rfl h0.pos ?_
    refine pm_getI (pc := 13) (k := 1) pm_cl6 flX6_15 (by decide) rfl h0 dX6_passYear_13 ?_
    refine pm_aload_n (pc := 16) 1 dX6_passYear_16 rfl rfl h1.pos ?_
    refine pm_aload_n (pc := 17) 0 dX6_passYear_17 rfl rfl h0.pos ?_
    refine pm_getI (pc := 18) (k := 3) pm_cl6 flX6_22 (by decide) rfl h0 dX6_passYear_18 ?_
    obtain ⟨u2, hu2, hf⟩ := pm_bind_e hf
    refine pm_cVi (pc := 21) (as := [.int (σ.1 a0 3)]) (st := [.int (σ.1 a0 1), .int (99 : Int32), .int (-99 : Int32), .ref a0]) mvX6_25 (KX9_bendIn l h1 hu2) (by decide) h1 rfl rfl (Nat.le_of_ble_eq_true rfl) rfl dX6_passYear_21 ?_
    refine pm_iadd (pc := 24) dX6_passYear_24 ?_
    refine pm_mmin (pc := 25) (st := [.int (-99 : Int32), .ref a0]) mmX6_31 (Nat.le_of_ble_eq_true rfl) (by decide) rfl dX6_passYear_25 ?_
    refine pm_mmax (pc := 28) (st := [.ref a0]) mmX6_37 (Nat.le_of_ble_eq_true rfl) (by decide) rfl dX6_passYear_28 ?_
    refine pm_putI (pc := 31) (k := 1) pm_cl6 flX6_15 (by decide) rfl rfl rfl h0 dX6_passYear_31 ?_
    obtain ⟨s3, es3, hf⟩ := pm_let_e hf
    refine pm_nmh es3 ?_
    refine pm_aload_n (pc := 34) 0 dX6_passYear_34 rfl rfl h0.pos ?_
    refine pm_iconst (pc := 35) (1 : Int32) (by decide) dX6_passYear_35 ?_
    refine pm_aload_n (pc := 36) 0 dX6_passYear_36 rfl rfl h0.pos ?_
    refine pm_getI (pc := 37) (k := 0) pm_cl6 flX6_9 (by decide) rfl h0 dX6_passYear_37 ?_
    refine pm_aload_n (pc := 40) 1 dX6_passYear_40 rfl rfl h1.pos ?_
    refine pm_getI (pc := 41) (k := 1) pm_cl9 flX6_40 (by decide) rfl h1 dX6_passYear_41 ?_
    refine pm_isub (pc := 44) dX6_passYear_44 ?_
    refine pm_mmax (pc := 45) (st := [.ref a0]) mmX6_37 (Nat.le_of_ble_eq_true rfl) (by decide) rfl dX6_passYear_45 ?_
    refine pm_putI (pc := 48) (k := 0) pm_cl6 flX6_9 (by decide) rfl rfl rfl h0 dX6_passYear_48 ?_
    obtain ⟨s4, es4, hf⟩ := pm_let_e hf
    refine pm_nmh es4 ?_
    refine pm_aload_n (pc := 51) 0 dX6_passYear_51 rfl rfl h0.pos ?_
    refine pm_dup (pc := 52) rfl dX6_passYear_52 ?_
    refine pm_getI (pc := 53) (k := 3) pm_cl6 flX6_22 (by decide) rfl h0 dX6_passYear_53 ?_
    refine pm_iconst (pc := 56) (1 : Int32) (by decide) dX6_passYear_56 ?_
    refine pm_iadd (pc := 57) dX6_passYear_57 ?_
    refine pm_putI (pc := 58) (k := 3) pm_cl6 flX6_22 (by decide) rfl rfl rfl h0 dX6_passYear_58 ?_
    obtain ⟨s5, es5, hf⟩ := pm_let_e hf
    refine pm_nmh es5 ?_
    exact pm_vret rfl dX6_passYear_61 (pm_ru_e hf)
  · rw [if_neg hc6] at hf
    refine pm_aload_n (pc := 51) 0 dX6_passYear_51 rfl rfl h0.pos ?_
    refine pm_dup (pc := 52) rfl dX6_passYear_52 ?_
    refine pm_getI (pc := 53) (k := 3) pm_cl6 flX6_22 (by decide) rfl h0 dX6_passYear_53 ?_
    refine pm_iconst (pc := 56) (1 : Int32) (by decide) dX6_passYear_56 ?_
    refine pm_iadd (pc := 57) dX6_passYear_57 ?_
    refine pm_putI (pc := 58) (k := 3) pm_cl6 flX6_22 (by decide) rfl rfl rfl h0 dX6_passYear_58 ?_
    obtain ⟨s1, es1, hf⟩ := pm_let_e hf
    refine pm_nmh es1 ?_
    exact pm_vret rfl dX6_passYear_61 (pm_ru_e hf)
def fX6_lengthIfPlaned (S : pm_S) (a0 : Nat) (σ : pm_H) : Option (Int32 × pm_H) :=
  some ((pm_max (1 : Int32) ((σ.1 a0 0) - (pm_abs (σ.1 a0 1)))), σ)
set_option maxRecDepth 100000 in
set_option maxHeartbeats 4000000 in
theorem KX6_lengthIfPlaned (l : Launch) {S : pm_S} {p : Int32 × pm_H} {a0 : Nat} {σ : pm_H} (h0 : pm_is S a0 9) (hf : fX6_lengthIfPlaned S a0 σ = some p) : pm_M l yX6_lengthIfPlaned cX6_lengthIfPlaned 1 (some .int) false 1 [.ref a0] S σ (pm_ri S p) := by
  refine pm_M.of (by decide +kernel) (Nat.le_of_ble_eq_true rfl) ?_
  show pm_E l yX6_lengthIfPlaned cX6_lengthIfPlaned 1 (some .int) false 1 S (pm_ri S p) 0 [(0, .ref a0)] [] S σ
  rw [fX6_lengthIfPlaned] at hf
  refine pm_iconst (pc := 0) (1 : Int32) (by decide) dX6_lengthIfPlaned_0 ?_
  refine pm_aload_n (pc := 1) 0 dX6_lengthIfPlaned_1 rfl rfl h0.pos ?_
  refine pm_getI (pc := 2) (k := 0) pm_cl6 flX6_9 (by decide) rfl h0 dX6_lengthIfPlaned_2 ?_
  refine pm_aload_n (pc := 5) 0 dX6_lengthIfPlaned_5 rfl rfl h0.pos ?_
  refine pm_getI (pc := 6) (k := 1) pm_cl6 flX6_15 (by decide) rfl h0 dX6_lengthIfPlaned_6 ?_
  refine pm_mabs (pc := 9) (st := [.int (σ.1 a0 0), .int (1 : Int32)]) mmX6_43 (Nat.le_of_ble_eq_true rfl) (by decide) rfl dX6_lengthIfPlaned_9 ?_
  refine pm_isub (pc := 12) dX6_lengthIfPlaned_12 ?_
  refine pm_mmax (pc := 13) (st := []) mmX6_37 (Nat.le_of_ble_eq_true rfl) (by decide) rfl dX6_lengthIfPlaned_13 ?_
  exact pm_iret rfl dX6_lengthIfPlaned_16 (pm_ri_e hf)
def fX7_add (S : pm_S) (a0 : Nat) (a1 : Int32) (a2 : Int32) (σ : pm_H) : Option (pm_H) :=
  (if (6 : Int32) ≤ (σ.1 a0 2) then some σ else (if pm_ib (σ.1 a0 2) (pm_len S (σ.2 a0 0)) = true then pm_let (pm_si σ (σ.2 a0 0) ((σ.1 a0 2)).toNatClampNeg a1) fun s3 => (if pm_ib (s3.1 a0 2) (pm_len S (s3.2 a0 1)) = true then pm_let (pm_si s3 (s3.2 a0 1) ((s3.1 a0 2)).toNatClampNeg a2) fun s6 => pm_let (pm_si s6 a0 2 ((s6.1 a0 2) + (1 : Int32))) fun s7 => some s7 else none) else none))
set_option maxRecDepth 100000 in
set_option maxHeartbeats 4000000 in
theorem KX7_add (l : Launch) {S : pm_S} {p : pm_H} {a0 : Nat} {a1 : Int32} {a2 : Int32} {σ : pm_H} (h0 : pm_is S a0 10) (hf : fX7_add S a0 a1 a2 σ = some p) : pm_M l yX7_add cX7_add 3 none false 0 [.ref a0, .int a1, .int a2] S σ (pm_ru S p) := by
  refine pm_M.of (by decide +kernel) (Nat.le_of_ble_eq_true rfl) ?_
  show pm_E l yX7_add cX7_add 3 none false 0 S (pm_ru S p) 0 [(0, .ref a0), (1, .int a1), (2, .int a2)] [] S σ
  rw [fX7_add] at hf
  refine pm_aload_n (pc := 0) 0 dX7_add_0 rfl rfl h0.pos ?_
  refine pm_getI (pc := 1) (k := 2) pm_cl7 flX7_27 (by decide) rfl h0 dX7_add_1 ?_
  refine pm_bipush (pc := 4) (6 : Int32) (by decide) dX7_add_4 ?_
  refine pm_icmp_ge (pc := 6) 39 dX7_add_6 (by decide) (fun hc8 => ?_) (fun hc8 => ?_)
  · rw [if_pos hc8] at hf
    exact pm_vret rfl dX7_add_39 (pm_ru_e hf)
  · rw [if_neg hc8] at hf
    refine pm_aload_n (pc := 9) 0 dX7_add_9 rfl rfl h0.pos ?_
    refine pm_getT (pc := 10) (k := 0) pm_cl7 flX7_9 (by decide) rfl h0 dX7_add_10 (fun hr1 => ?_)
    refine pm_aload_n (pc := 13) 0 dX7_add_13 rfl rfl h0.pos ?_
    refine pm_getI (pc := 14) (k := 2) pm_cl7 flX7_27 (by decide) rfl h0 dX7_add_14 ?_
    refine pm_iload_n (pc := 17) 1 dX7_add_17 rfl rfl ?_
    obtain ⟨hb2, hf⟩ := pm_gd hf
    refine pm_iast (pc := 18) hr1 (pm_ib_in hb2) dX7_add_18 ?_
    obtain ⟨s3, es3, hf⟩ := pm_let_e hf
    refine pm_nmh es3 ?_
    refine pm_aload_n (pc := 19) 0 dX7_add_19 rfl rfl h0.pos ?_
    refine pm_getT (pc := 20) (k := 1) pm_cl7 flX7_15 (by decide) rfl h0 dX7_add_20 (fun hr4 => ?_)
    refine pm_aload_n (pc := 23) 0 dX7_add_23 rfl rfl h0.pos ?_
    refine pm_getI (pc := 24) (k := 2) pm_cl7 flX7_27 (by decide) rfl h0 dX7_add_24 ?_
    refine pm_iload_n (pc := 27) 2 dX7_add_27 rfl rfl ?_
    obtain ⟨hb5, hf⟩ := pm_gd hf
    refine pm_iast (pc := 28) hr4 (pm_ib_in hb5) dX7_add_28 ?_
    obtain ⟨s6, es6, hf⟩ := pm_let_e hf
    refine pm_nmh es6 ?_
    refine pm_aload_n (pc := 29) 0 dX7_add_29 rfl rfl h0.pos ?_
    refine pm_dup (pc := 30) rfl dX7_add_30 ?_
    refine pm_getI (pc := 31) (k := 2) pm_cl7 flX7_27 (by decide) rfl h0 dX7_add_31 ?_
    refine pm_iconst (pc := 34) (1 : Int32) (by decide) dX7_add_34 ?_
    refine pm_iadd (pc := 35) dX7_add_35 ?_
    refine pm_putI (pc := 36) (k := 2) pm_cl7 flX7_27 (by decide) rfl rfl rfl h0 dX7_add_36 ?_
    obtain ⟨s7, es7, hf⟩ := pm_let_e hf
    refine pm_nmh es7 ?_
    exact pm_vret rfl dX7_add_39 (pm_ru_e hf)
def fX7_gather_L29 (S : pm_S) (v0 : Nat) (v1 : Int32) (v2 : Int32) (kx : pm_H → Option (Int32 × pm_H)) : Nat → Int32 → pm_H → Option (Int32 × pm_H)
  | 0, _, _ => none
  | n + 1, v3, σ => (if (σ.1 v0 2) ≤ v3 then kx σ else (if pm_ib v3 (pm_len S (σ.2 v0 1)) = true then (if pm_ib v3 (pm_len S (σ.2 v0 0)) = true then pm_let ((σ.1 (σ.2 v0 1) (v3).toNatClampNeg) - (v2 * (σ.1 (σ.2 v0 0) (v3).toNatClampNeg))) fun x11 => (if pm_ib v2 (pm_len S (σ.2 v0 3)) = true then (if pm_ib v2 (pm_len S (σ.2 v0 3)) = true then pm_let (pm_si σ (σ.2 v0 3) (v2).toNatClampNeg (pm_max (σ.1 (σ.2 v0 3) (v2).toNatClampNeg) x11)) fun s16 => (if pm_ib v2 (pm_len S (s16.2 v0 4)) = true then (if pm_ib v2 (pm_len S (s16.2 v0 4)) = true then pm_let (pm_si s16 (s16.2 v0 4) (v2).toNatClampNeg (pm_min (s16.1 (s16.2 v0 4) (v2).toNatClampNeg) x11)) fun s21 => fX7_gather_L29 S v0 v1 v2 kx n (v3 + (1 : Int32)) s21 else none) else none) else none) else none) else none) else none))
set_option maxRecDepth 100000 in
set_option maxHeartbeats 4000000 in
theorem fX7_gather_L29_E (l : Launch) {S : pm_S} {p : Int32 × pm_H} {v0 : Nat} {v1 : Int32} {v2 : Int32} {kx : pm_H → Option (Int32 × pm_H)} (h0 : pm_is S v0 10) (hkx : ∀  sw, kx  sw = some p → pm_E l yX7_gather cX7_gather 5 (some .int) false 1 S (pm_ri S p) 94 [(0, .ref v0), (1, .int v1), (2, .int v2)] [] S sw) : ∀ (n : Nat) (v3 : Int32) (σ : pm_H), fX7_gather_L29 S v0 v1 v2 kx n v3 σ = some p → pm_E l yX7_gather cX7_gather 5 (some .int) false 1 S (pm_ri S p) 29 [(0, .ref v0), (1, .int v1), (2, .int v2), (3, .int v3)] [] S σ := by
  intro n
  induction n with
  | zero => intro v3 σ hf; cases hf
  | succ n ih =>
    intro v3 σ hf
    rw [fX7_gather_L29] at hf
    refine pm_iload_n (pc := 29) 3 dX7_gather_29 rfl rfl ?_
    refine pm_aload_n (pc := 30) 0 dX7_gather_30 rfl rfl h0.pos ?_
    refine pm_getI (pc := 31) (k := 2) pm_cl7 flX7_27 (by decide) rfl h0 dX7_gather_31 ?_
    refine pm_icmp_ge (pc := 34) 94 dX7_gather_34 (by decide) (fun hc22 => ?_) (fun hc22 => ?_)
    · rw [if_pos hc22] at hf
      refine pm_lv [(0, .ref v0), (1, .int v1), (2, .int v2)] [0, 1, 2] rfl ?_
      exact hkx σ hf
    · rw [if_neg hc22] at hf
      refine pm_aload_n (pc := 37) 0 dX7_gather_37 rfl rfl h0.pos ?_
      refine pm_getT (pc := 38) (k := 1) pm_cl7 flX7_15 (by decide) rfl h0 dX7_gather_38 (fun hr7 => ?_)
      refine pm_iload_n (pc := 41) 3 dX7_gather_41 rfl rfl ?_
      obtain ⟨hb8, hf⟩ := pm_gd hf
      refine pm_iald (pc := 42) hr7 (pm_ib_in hb8) dX7_gather_42 ?_
      refine pm_iload_n (pc := 43) 2 dX7_gather_43 rfl rfl ?_
      refine pm_aload_n (pc := 44) 0 dX7_gather_44 rfl rfl h0.pos ?_
      refine pm_getT (pc := 45) (k := 0) pm_cl7 flX7_9 (by decide) rfl h0 dX7_gather_45 (fun hr9 => ?_)
      refine pm_iload_n (pc := 48) 3 dX7_gather_48 rfl rfl ?_
      obtain ⟨hb10, hf⟩ := pm_gd hf
      refine pm_iald (pc := 49) hr9 (pm_ib_in hb10) dX7_gather_49 ?_
      refine pm_imul (pc := 50) dX7_gather_50 ?_
      refine pm_isub (pc := 51) dX7_gather_51 ?_
      obtain ⟨x11, ex11, hf⟩ := pm_let_e hf
      refine pm_nmi ex11 ?_
      refine pm_istore (pc := 52) [(4, .int x11), (0, .ref v0), (1, .int v1), (2, .int v2), (3, .int v3)] dX7_gather_52 (by decide) rfl ?_
      refine pm_aload_n (pc := 54) 1 dX7_gather_54 rfl rfl h0.pos ?_
      refine pm_getT (pc := 55) (k := 3) pm_cl7 flX7_18 (by decide) rfl h0 dX7_gather_55 (fun hr12 => ?_)
      refine pm_iload_n (pc := 58) 3 dX7_gather_58 rfl rfl ?_
      refine pm_aload_n (pc := 59) 1 dX7_gather_59 rfl rfl h0.pos ?_
      refine pm_getT (pc := 60) (k := 3) pm_cl7 flX7_18 (by decide) rfl h0 dX7_gather_60 (fun hr13 => ?_)
      refine pm_iload_n (pc := 63) 3 dX7_gather_63 rfl rfl ?_
      obtain ⟨hb14, hf⟩ := pm_gd hf
      refine pm_iald (pc := 64) hr13 (pm_ib_in hb14) dX7_gather_64 ?_
      refine pm_iload (pc := 65) 0 dX7_gather_65 rfl ?_
      refine pm_mmax (pc := 67) (st := [.int v2, .ref (σ.2 v0 3)]) mmX7_31 (Nat.le_of_ble_eq_true rfl) (by decide) rfl dX7_gather_67 ?_
      obtain ⟨hb15, hf⟩ := pm_gd hf
      refine pm_iast (pc := 70) hr12 (pm_ib_in hb15) dX7_gather_70 ?_
      obtain ⟨s16, es16, hf⟩ := pm_let_e hf
      refine pm_nmh es16 ?_
      refine pm_aload_n (pc := 71) 1 dX7_gather_71 rfl rfl h0.pos ?_
      refine pm_getT (pc := 72) (k := 4) pm_cl7 flX7_21 (by decide) rfl h0 dX7_gather_72 (fun hr17 => ?_)
      refine pm_iload_n (pc := 75) 3 dX7_gather_75 rfl rfl ?_
      refine pm_aload_n (pc := 76) 1 dX7_gather_76 rfl rfl h0.pos ?_
      refine pm_getT (pc := 77) (k := 4) pm_cl7 flX7_21 (by decide) rfl h0 dX7_gather_77 (fun hr18 => ?_)
      refine pm_iload_n (pc := 80) 3 dX7_gather_80 rfl rfl ?_
      obtain ⟨hb19, hf⟩ := pm_gd hf
      refine pm_iald (pc := 81) hr18 (pm_ib_in hb19) dX7_gather_81 ?_
      refine pm_iload (pc := 82) 0 dX7_gather_82 rfl ?_
      refine pm_mmin (pc := 84) (st := [.int v2, .ref (s16.2 v0 4)]) mmX7_37 (Nat.le_of_ble_eq_true rfl) (by decide) rfl dX7_gather_84 ?_
      obtain ⟨hb20, hf⟩ := pm_gd hf
      refine pm_iast (pc := 87) hr17 (pm_ib_in hb20) dX7_gather_87 ?_
      obtain ⟨s21, es21, hf⟩ := pm_let_e hf
      refine pm_nmh es21 ?_
      refine pm_iinc (pc := 88) 4 (v3 + (1 : Int32)) [(3, .int (v3 + (1 : Int32))), (4, .int x11), (0, .ref v0), (1, .int v1), (2, .int v2)] dX7_gather_88 rfl rfl (by decide) rfl ?_
      refine pm_goto (pc := 91) 29 dX7_gather_91 (by decide) ?_
      refine pm_lv [(0, .ref v0), (1, .int v1), (2, .int v2), (3, .int (v3 + (1 : Int32)))] [2, 3, 4, 0] rfl ?_
      exact ih (v3 + (1 : Int32)) s21 hf
def fX7_gather_L4 (S : pm_S) (v0 : Nat) (kx : Int32 → pm_H → Option (Int32 × pm_H)) : Nat → Int32 → Int32 → pm_H → Option (Int32 × pm_H)
  | 0, _, _, _ => none
  | n + 1, v1, v2, σ => (if (240 : Int32) < v2 then kx v1 σ else (if pm_ib v2 (pm_len S (σ.2 v0 3)) = true then pm_let (pm_si σ (σ.2 v0 3) (v2).toNatClampNeg (-9 : Int32)) fun s3 => (if pm_ib v2 (pm_len S (s3.2 v0 4)) = true then pm_let (pm_si s3 (s3.2 v0 4) (v2).toNatClampNeg (9 : Int32)) fun s6 => fX7_gather_L29 S v0 v1 v2 (fun s23 => (if pm_ib v2 (pm_len S (s23.2 v0 4)) = true then (if pm_ib v2 (pm_len S (s23.2 v0 3)) = true then pm_let (v1 + (pm_max (0 : Int32) (((s23.1 (s23.2 v0 4) (v2).toNatClampNeg) - (s23.1 (s23.2 v0 3) (v2).toNatClampNeg)) + (1 : Int32)))) fun x28 => fX7_gather_L4 S v0 kx n x28 (v2 + (1 : Int32)) s23 else none) else none)) pm_fuel (0 : Int32) s6 else none) else none))
set_option maxRecDepth 100000 in
set_option maxHeartbeats 4000000 in
theorem fX7_gather_L4_E (l : Launch) {S : pm_S} {p : Int32 × pm_H} {v0 : Nat} {kx : Int32 → pm_H → Option (Int32 × pm_H)} (h0 : pm_is S v0 10) (hkx : ∀ w1 sw, kx w1 sw = some p → pm_E l yX7_gather cX7_gather 5 (some .int) false 1 S (pm_ri S p) 122 [(1, .int w1)] [] S sw) : ∀ (n : Nat) (v1 : Int32) (v2 : Int32) (σ : pm_H), fX7_gather_L4 S v0 kx n v1 v2 σ = some p → pm_E l yX7_gather cX7_gather 5 (some .int) false 1 S (pm_ri S p) 4 [(0, .ref v0), (1, .int v1), (2, .int v2)] [] S σ := by
  intro n
  induction n with
  | zero => intro v1 v2 σ hf; cases hf
  | succ n ih =>
    intro v1 v2 σ hf
    rw [fX7_gather_L4] at hf
    refine pm_iload_n (pc := 4) 2 dX7_gather_4 rfl rfl ?_
    refine pm_sipush (pc := 5) (240 : Int32) (by decide) dX7_gather_5 ?_
    refine pm_icmp_gt (pc := 8) 122 dX7_gather_8 (by decide) (fun hc29 => ?_) (fun hc29 => ?_)
    · rw [if_pos hc29] at hf
      refine pm_lv [(1, .int v1)] [1] rfl ?_
      exact hkx v1 σ hf
    · rw [if_neg hc29] at hf
      refine pm_aload_n (pc := 11) 0 dX7_gather_11 rfl rfl h0.pos ?_
      refine pm_getT (pc := 12) (k := 3) pm_cl7 flX7_18 (by decide) rfl h0 dX7_gather_12 (fun hr1 => ?_)
      refine pm_iload_n (pc := 15) 2 dX7_gather_15 rfl rfl ?_
      refine pm_bipush (pc := 16) (-9 : Int32) (by decide) dX7_gather_16 ?_
      obtain ⟨hb2, hf⟩ := pm_gd hf
      refine pm_iast (pc := 18) hr1 (pm_ib_in hb2) dX7_gather_18 ?_
      obtain ⟨s3, es3, hf⟩ := pm_let_e hf
      refine pm_nmh es3 ?_
      refine pm_aload_n (pc := 19) 0 dX7_gather_19 rfl rfl h0.pos ?_
      refine pm_getT (pc := 20) (k := 4) pm_cl7 flX7_21 (by decide) rfl h0 dX7_gather_20 (fun hr4 => ?_)
      refine pm_iload_n (pc := 23) 2 dX7_gather_23 rfl rfl ?_
      refine pm_bipush (pc := 24) (9 : Int32) (by decide) dX7_gather_24 ?_
      obtain ⟨hb5, hf⟩ := pm_gd hf
      refine pm_iast (pc := 26) hr4 (pm_ib_in hb5) dX7_gather_26 ?_
      obtain ⟨s6, es6, hf⟩ := pm_let_e hf
      refine pm_nmh es6 ?_
      refine pm_iconst (pc := 27) (0 : Int32) (by decide) dX7_gather_27 ?_
      refine pm_istore_n (pc := 28) [(3, .int (0 : Int32)), (0, .ref v0), (1, .int v1), (2, .int v2)] dX7_gather_28 rfl (by decide) rfl ?_
      refine pm_lv [(0, .ref v0), (1, .int v1), (2, .int v2), (3, .int (0 : Int32))] [1, 2, 3, 0] rfl ?_
      refine fX7_gather_L29_E l h0 (fun s23 hf => ?_) pm_fuel (0 : Int32) s6 hf
      refine pm_iload_n (pc := 94) 1 dX7_gather_94 rfl rfl ?_
      refine pm_iconst (pc := 95) (0 : Int32) (by decide) dX7_gather_95 ?_
      refine pm_aload_n (pc := 96) 0 dX7_gather_96 rfl rfl h0.pos ?_
      refine pm_getT (pc := 97) (k := 4) pm_cl7 flX7_21 (by decide) rfl h0 dX7_gather_97 (fun hr24 => ?_)
      refine pm_iload_n (pc := 100) 2 dX7_gather_100 rfl rfl ?_
      obtain ⟨hb25, hf⟩ := pm_gd hf
      refine pm_iald (pc := 101) hr24 (pm_ib_in hb25) dX7_gather_101 ?_
      refine pm_aload_n (pc := 102) 0 dX7_gather_102 rfl rfl h0.pos ?_
      refine pm_getT (pc := 103) (k := 3) pm_cl7 flX7_18 (by decide) rfl h0 dX7_gather_103 (fun hr26 => ?_)
      refine pm_iload_n (pc := 106) 2 dX7_gather_106 rfl rfl ?_
      obtain ⟨hb27, hf⟩ := pm_gd hf
      refine pm_iald (pc := 107) hr26 (pm_ib_in hb27) dX7_gather_107 ?_
      refine pm_isub (pc := 108) dX7_gather_108 ?_
      refine pm_iconst (pc := 109) (1 : Int32) (by decide) dX7_gather_109 ?_
      refine pm_iadd (pc := 110) dX7_gather_110 ?_
      refine pm_mmax (pc := 111) (st := [.int v1]) mmX7_31 (Nat.le_of_ble_eq_true rfl) (by decide) rfl dX7_gather_111 ?_
      refine pm_iadd (pc := 114) dX7_gather_114 ?_
      obtain ⟨x28, ex28, hf⟩ := pm_let_e hf
      refine pm_nmi ex28 ?_
      refine pm_istore_n (pc := 115) [(1, .int x28), (0, .ref v0), (2, .int v2)] dX7_gather_115 rfl (by decide) rfl ?_
      refine pm_iinc (pc := 116) 2 (v2 + (1 : Int32)) [(2, .int (v2 + (1 : Int32))), (1, .int x28), (0, .ref v0)] dX7_gather_116 rfl rfl (by decide) rfl ?_
      refine pm_goto (pc := 119) 4 dX7_gather_119 (by decide) ?_
      refine pm_lv [(0, .ref v0), (1, .int x28), (2, .int (v2 + (1 : Int32)))] [2, 1, 0] rfl ?_
      exact ih x28 (v2 + (1 : Int32)) s23 hf
def fX7_gather (S : pm_S) (a0 : Nat) (σ : pm_H) : Option (Int32 × pm_H) :=
  fX7_gather_L4 S a0 (fun w30 s31 => some (w30, s31)) pm_fuel (0 : Int32) (1 : Int32) σ
set_option maxRecDepth 100000 in
set_option maxHeartbeats 4000000 in
theorem KX7_gather (l : Launch) {S : pm_S} {p : Int32 × pm_H} {a0 : Nat} {σ : pm_H} (h0 : pm_is S a0 10) (hf : fX7_gather S a0 σ = some p) : pm_M l yX7_gather cX7_gather 5 (some .int) false 1 [.ref a0] S σ (pm_ri S p) := by
  refine pm_M.of (by decide +kernel) (Nat.le_of_ble_eq_true rfl) ?_
  show pm_E l yX7_gather cX7_gather 5 (some .int) false 1 S (pm_ri S p) 0 [(0, .ref a0)] [] S σ
  rw [fX7_gather] at hf
  refine pm_iconst (pc := 0) (0 : Int32) (by decide) dX7_gather_0 ?_
  refine pm_istore_n (pc := 1) [(1, .int (0 : Int32)), (0, .ref a0)] dX7_gather_1 rfl (by decide) rfl ?_
  refine pm_iconst (pc := 2) (1 : Int32) (by decide) dX7_gather_2 ?_
  refine pm_istore_n (pc := 3) [(2, .int (1 : Int32)), (1, .int (0 : Int32)), (0, .ref a0)] dX7_gather_3 rfl (by decide) rfl ?_
  refine pm_lv [(0, .ref a0), (1, .int (0 : Int32)), (2, .int (1 : Int32))] [2, 1, 0] rfl ?_
  refine fX7_gather_L4_E l h0 (fun w30 s31 hf => ?_) pm_fuel (0 : Int32) (1 : Int32) σ hf
  refine pm_iload_n (pc := 122) 0 dX7_gather_122 rfl rfl ?_
  exact pm_iret rfl dX7_gather_123 (pm_ri_e hf)
def fX7_leastLength_L2 (S : pm_S) (v0 : Nat) (kx : pm_H → Option (Int32 × pm_H)) : Nat → Int32 → pm_H → Option (Int32 × pm_H)
  | 0, _, _ => none
  | n + 1, v1, σ => (if (240 : Int32) < v1 then kx σ else (if pm_ib v1 (pm_len S (σ.2 v0 3)) = true then (if pm_ib v1 (pm_len S (σ.2 v0 4)) = true then (if (σ.1 (σ.2 v0 4) (v1).toNatClampNeg) < (σ.1 (σ.2 v0 3) (v1).toNatClampNeg) then fX7_leastLength_L2 S v0 kx n (v1 + (1 : Int32)) σ else some (v1, σ)) else none) else none))
set_option maxRecDepth 100000 in
set_option maxHeartbeats 4000000 in
theorem fX7_leastLength_L2_E (l : Launch) {S : pm_S} {p : Int32 × pm_H} {v0 : Nat} {kx : pm_H → Option (Int32 × pm_H)} (h0 : pm_is S v0 10) (hkx : ∀  sw, kx  sw = some p → pm_E l yX7_leastLength cX7_leastLength 2 (some .int) false 0 S (pm_ri S p) 32 [] [] S sw) : ∀ (n : Nat) (v1 : Int32) (σ : pm_H), fX7_leastLength_L2 S v0 kx n v1 σ = some p → pm_E l yX7_leastLength cX7_leastLength 2 (some .int) false 0 S (pm_ri S p) 2 [(0, .ref v0), (1, .int v1)] [] S σ := by
  intro n
  induction n with
  | zero => intro v1 σ hf; cases hf
  | succ n ih =>
    intro v1 σ hf
    rw [fX7_leastLength_L2] at hf
    refine pm_iload_n (pc := 2) 1 dX7_leastLength_2 rfl rfl ?_
    refine pm_sipush (pc := 3) (240 : Int32) (by decide) dX7_leastLength_3 ?_
    refine pm_icmp_gt (pc := 6) 32 dX7_leastLength_6 (by decide) (fun hc6 => ?_) (fun hc6 => ?_)
    · rw [if_pos hc6] at hf
      refine pm_lv [] [] rfl ?_
      exact hkx σ hf
    · rw [if_neg hc6] at hf
      refine pm_aload_n (pc := 9) 0 dX7_leastLength_9 rfl rfl h0.pos ?_
      refine pm_getT (pc := 10) (k := 3) pm_cl7 flX7_18 (by decide) rfl h0 dX7_leastLength_10 (fun hr1 => ?_)
      refine pm_iload_n (pc := 13) 1 dX7_leastLength_13 rfl rfl ?_
      obtain ⟨hb2, hf⟩ := pm_gd hf
      refine pm_iald (pc := 14) hr1 (pm_ib_in hb2) dX7_leastLength_14 ?_
      refine pm_aload_n (pc := 15) 0 dX7_leastLength_15 rfl rfl h0.pos ?_
      refine pm_getT (pc := 16) (k := 4) pm_cl7 flX7_21 (by decide) rfl h0 dX7_leastLength_16 (fun hr3 => ?_)
      refine pm_iload_n (pc := 19) 1 dX7_leastLength_19 rfl rfl ?_
      obtain ⟨hb4, hf⟩ := pm_gd hf
      refine pm_iald (pc := 20) hr3 (pm_ib_in hb4) dX7_leastLength_20 ?_
      refine pm_icmp_gt (pc := 21) 26 dX7_leastLength_21 (by decide) (fun hc5 => ?_) (fun hc5 => ?_)
      · rw [if_pos hc5] at hf
        refine pm_iinc (pc := 26) 1 (v1 + (1 : Int32)) [(1, .int (v1 + (1 : Int32))), (0, .ref v0)] dX7_leastLength_26 rfl rfl (by decide) rfl ?_
        refine pm_goto (pc := 29) 2 dX7_leastLength_29 (by decide) ?_
        refine pm_lv [(0, .ref v0), (1, .int (v1 + (1 : Int32)))] [1, 0] rfl ?_
        exact ih (v1 + (1 : Int32)) σ hf
      · rw [if_neg hc5] at hf
        refine pm_iload_n (pc := 24) 1 dX7_leastLength_24 rfl rfl ?_
        exact pm_iret rfl dX7_leastLength_25 (pm_ri_e hf)
def fX7_leastLength (S : pm_S) (a0 : Nat) (σ : pm_H) : Option (Int32 × pm_H) :=
  fX7_leastLength_L2 S a0 (fun s7 => some ((-1 : Int32), s7)) pm_fuel (1 : Int32) σ
set_option maxRecDepth 100000 in
set_option maxHeartbeats 4000000 in
theorem KX7_leastLength (l : Launch) {S : pm_S} {p : Int32 × pm_H} {a0 : Nat} {σ : pm_H} (h0 : pm_is S a0 10) (hf : fX7_leastLength S a0 σ = some p) : pm_M l yX7_leastLength cX7_leastLength 2 (some .int) false 0 [.ref a0] S σ (pm_ri S p) := by
  refine pm_M.of (by decide +kernel) (Nat.le_of_ble_eq_true rfl) ?_
  show pm_E l yX7_leastLength cX7_leastLength 2 (some .int) false 0 S (pm_ri S p) 0 [(0, .ref a0)] [] S σ
  rw [fX7_leastLength] at hf
  refine pm_iconst (pc := 0) (1 : Int32) (by decide) dX7_leastLength_0 ?_
  refine pm_istore_n (pc := 1) [(1, .int (1 : Int32)), (0, .ref a0)] dX7_leastLength_1 rfl (by decide) rfl ?_
  refine pm_lv [(0, .ref a0), (1, .int (1 : Int32))] [1, 0] rfl ?_
  refine fX7_leastLength_L2_E l h0 (fun s7 hf => ?_) pm_fuel (1 : Int32) σ hf
  refine pm_iconst (pc := 32) (-1 : Int32) (by decide) dX7_leastLength_32 ?_
  exact pm_iret rfl dX7_leastLength_33 (pm_ri_e hf)
def fX7_greatestPart_L27 (S : pm_S) (v0 : Nat) (v1 : Int32) (v3 : Int32) (kx : Int32 → pm_H → Option (Int32 × pm_H)) : Nat → Int32 → Int32 → pm_H → Option (Int32 × pm_H)
  | 0, _, _, _ => none
  | n + 1, v2, v4, σ => (if pm_ib v3 (pm_len S (σ.2 v0 4)) = true then (if (σ.1 (σ.2 v0 4) (v3).toNatClampNeg) < v4 then kx v2 σ else pm_let (((v3 * v1) + v4) + (9 : Int32)) fun x8 => (if pm_ib x8 (pm_len S (σ.2 v0 5)) = true then (if pm_ib x8 (pm_len S (σ.2 v0 5)) = true then pm_let (pm_si σ (σ.2 v0 5) (x8).toNatClampNeg ((σ.1 (σ.2 v0 5) (x8).toNatClampNeg) + (1 : Int32))) fun s12 => (if pm_ib x8 (pm_len S (s12.2 v0 5)) = true then pm_let (pm_max v2 (s12.1 (s12.2 v0 5) (x8).toNatClampNeg)) fun x15 => fX7_greatestPart_L27 S v0 v1 v3 kx n x15 (v4 + (1 : Int32)) s12 else none) else none) else none)) else none)
set_option maxRecDepth 100000 in
set_option maxHeartbeats 4000000 in
theorem fX7_greatestPart_L27_E (l : Launch) {S : pm_S} {p : Int32 × pm_H} {v0 : Nat} {v1 : Int32} {v3 : Int32} {kx : Int32 → pm_H → Option (Int32 × pm_H)} (h0 : pm_is S v0 10) (hkx : ∀ w2 sw, kx w2 sw = some p → pm_E l yX7_greatestPart cX7_greatestPart 6 (some .int) false 1 S (pm_ri S p) 78 [(0, .ref v0), (1, .int v1), (2, .int w2), (3, .int v3)] [] S sw) : ∀ (n : Nat) (v2 : Int32) (v4 : Int32) (σ : pm_H), fX7_greatestPart_L27 S v0 v1 v3 kx n v2 v4 σ = some p → pm_E l yX7_greatestPart cX7_greatestPart 6 (some .int) false 1 S (pm_ri S p) 27 [(0, .ref v0), (1, .int v1), (2, .int v2), (3, .int v3), (4, .int v4)] [] S σ := by
  intro n
  induction n with
  | zero => intro v2 v4 σ hf; cases hf
  | succ n ih =>
    intro v2 v4 σ hf
    rw [fX7_greatestPart_L27] at hf
    refine pm_iload (pc := 27) 4 dX7_greatestPart_27 rfl ?_
    refine pm_aload_n (pc := 29) 0 dX7_greatestPart_29 rfl rfl h0.pos ?_
    refine pm_getT (pc := 30) (k := 4) pm_cl7 flX7_21 (by decide) rfl h0 dX7_greatestPart_30 (fun hr6 => ?_)
    refine pm_iload_n (pc := 33) 3 dX7_greatestPart_33 rfl rfl ?_
    obtain ⟨hb7, hf⟩ := pm_gd hf
    refine pm_iald (pc := 34) hr6 (pm_ib_in hb7) dX7_greatestPart_34 ?_
    refine pm_icmp_gt (pc := 35) 78 dX7_greatestPart_35 (by decide) (fun hc16 => ?_) (fun hc16 => ?_)
    · rw [if_pos hc16] at hf
      refine pm_lv [(0, .ref v0), (1, .int v1), (2, .int v2), (3, .int v3)] [0, 1, 2, 3] rfl ?_
      exact hkx v2 σ hf
    · rw [if_neg hc16] at hf
      refine pm_iload_n (pc := 38) 3 dX7_greatestPart_38 rfl rfl ?_
      refine pm_iload_n (pc := 39) 1 dX7_greatestPart_39 rfl rfl ?_
      refine pm_imul (pc := 40) dX7_greatestPart_40 ?_
      refine pm_iload (pc := 41) 4 dX7_greatestPart_41 rfl ?_
      refine pm_iadd (pc := 43) dX7_greatestPart_43 ?_
      refine pm_bipush (pc := 44) (9 : Int32) (by decide) dX7_greatestPart_44 ?_
      refine pm_iadd (pc := 46) dX7_greatestPart_46 ?_
      obtain ⟨x8, ex8, hf⟩ := pm_let_e hf
      refine pm_nmi ex8 ?_
      refine pm_istore (pc := 47) [(5, .int x8), (0, .ref v0), (1, .int v1), (2, .int v2), (3, .int v3), (4, .int v4)] dX7_greatestPart_47 (by decide) rfl ?_
      refine pm_aload_n (pc := 49) 1 dX7_greatestPart_49 rfl rfl h0.pos ?_
      refine pm_getT (pc := 50) (k := 5) pm_cl7 flX7_24 (by decide) rfl h0 dX7_greatestPart_50 (fun hr9 => ?_)
      refine pm_iload (pc := 53) 0 dX7_greatestPart_53 rfl ?_
      refine pm_dup2 (pc := 55) rfl rfl dX7_greatestPart_55 ?_
      obtain ⟨hb10, hf⟩ := pm_gd hf
      refine pm_iald (pc := 56) hr9 (pm_ib_in hb10) dX7_greatestPart_56 ?_
      refine pm_iconst (pc := 57) (1 : Int32) (by decide) dX7_greatestPart_57 ?_
      refine pm_iadd (pc := 58) dX7_greatestPart_58 ?_
      obtain ⟨hb11, hf⟩ := pm_gd hf
      refine pm_iast (pc := 59) hr9 (pm_ib_in hb11) dX7_greatestPart_59 ?_
      obtain ⟨s12, es12, hf⟩ := pm_let_e hf
      refine pm_nmh es12 ?_
      refine pm_iload_n (pc := 60) 3 dX7_greatestPart_60 rfl rfl ?_
      refine pm_aload_n (pc := 61) 1 dX7_greatestPart_61 rfl rfl h0.pos ?_
      refine pm_getT (pc := 62) (k := 5) pm_cl7 flX7_24 (by decide) rfl h0 dX7_greatestPart_62 (fun hr13 => ?_)
      refine pm_iload (pc := 65) 0 dX7_greatestPart_65 rfl ?_
      obtain ⟨hb14, hf⟩ := pm_gd hf
      refine pm_iald (pc := 67) hr13 (pm_ib_in hb14) dX7_greatestPart_67 ?_
      refine pm_mmax (pc := 68) (st := []) mmX7_31 (Nat.le_of_ble_eq_true rfl) (by decide) rfl dX7_greatestPart_68 ?_
      obtain ⟨x15, ex15, hf⟩ := pm_let_e hf
      refine pm_nmi ex15 ?_
      refine pm_istore_n (pc := 71) [(2, .int x15), (5, .int x8), (0, .ref v0), (1, .int v1), (3, .int v3), (4, .int v4)] dX7_greatestPart_71 rfl (by decide) rfl ?_
      refine pm_iinc (pc := 72) 5 (v4 + (1 : Int32)) [(4, .int (v4 + (1 : Int32))), (2, .int x15), (5, .int x8), (0, .ref v0), (1, .int v1), (3, .int v3)] dX7_greatestPart_72 rfl rfl (by decide) rfl ?_
      refine pm_goto (pc := 75) 27 dX7_greatestPart_75 (by decide) ?_
      refine pm_lv [(0, .ref v0), (1, .int v1), (2, .int x15), (3, .int v3), (4, .int (v4 + (1 : Int32)))] [3, 4, 1, 5, 0] rfl ?_
      exact ih x15 (v4 + (1 : Int32)) s12 hf
def fX7_greatestPart_L12 (S : pm_S) (v0 : Nat) (v1 : Int32) (kx : Int32 → pm_H → Option (Int32 × pm_H)) : Nat → Int32 → Int32 → pm_H → Option (Int32 × pm_H)
  | 0, _, _, _ => none
  | n + 1, v2, v3, σ => (if (240 : Int32) < v3 then kx v2 σ else (if pm_ib v3 (pm_len S (σ.2 v0 3)) = true then pm_let (σ.1 (σ.2 v0 3) (v3).toNatClampNeg) fun x5 => fX7_greatestPart_L27 S v0 v1 v3 (fun w17 s18 => fX7_greatestPart_L12 S v0 v1 kx n w17 (v3 + (1 : Int32)) s18) pm_fuel v2 x5 σ else none))
set_option maxRecDepth 100000 in
set_option maxHeartbeats 4000000 in
theorem fX7_greatestPart_L12_E (l : Launch) {S : pm_S} {p : Int32 × pm_H} {v0 : Nat} {v1 : Int32} {kx : Int32 → pm_H → Option (Int32 × pm_H)} (h0 : pm_is S v0 10) (hkx : ∀ w2 sw, kx w2 sw = some p → pm_E l yX7_greatestPart cX7_greatestPart 6 (some .int) false 1 S (pm_ri S p) 84 [(2, .int w2)] [] S sw) : ∀ (n : Nat) (v2 : Int32) (v3 : Int32) (σ : pm_H), fX7_greatestPart_L12 S v0 v1 kx n v2 v3 σ = some p → pm_E l yX7_greatestPart cX7_greatestPart 6 (some .int) false 1 S (pm_ri S p) 12 [(0, .ref v0), (1, .int v1), (2, .int v2), (3, .int v3)] [] S σ := by
  intro n
  induction n with
  | zero => intro v2 v3 σ hf; cases hf
  | succ n ih =>
    intro v2 v3 σ hf
    rw [fX7_greatestPart_L12] at hf
    refine pm_iload_n (pc := 12) 3 dX7_greatestPart_12 rfl rfl ?_
    refine pm_sipush (pc := 13) (240 : Int32) (by decide) dX7_greatestPart_13 ?_
    refine pm_icmp_gt (pc := 16) 84 dX7_greatestPart_16 (by decide) (fun hc19 => ?_) (fun hc19 => ?_)
    · rw [if_pos hc19] at hf
      refine pm_lv [(2, .int v2)] [2] rfl ?_
      exact hkx v2 σ hf
    · rw [if_neg hc19] at hf
      refine pm_aload_n (pc := 19) 0 dX7_greatestPart_19 rfl rfl h0.pos ?_
      refine pm_getT (pc := 20) (k := 3) pm_cl7 flX7_18 (by decide) rfl h0 dX7_greatestPart_20 (fun hr3 => ?_)
      refine pm_iload_n (pc := 23) 3 dX7_greatestPart_23 rfl rfl ?_
      obtain ⟨hb4, hf⟩ := pm_gd hf
      refine pm_iald (pc := 24) hr3 (pm_ib_in hb4) dX7_greatestPart_24 ?_
      obtain ⟨x5, ex5, hf⟩ := pm_let_e hf
      refine pm_nmi ex5 ?_
      refine pm_istore (pc := 25) [(4, .int x5), (0, .ref v0), (1, .int v1), (2, .int v2), (3, .int v3)] dX7_greatestPart_25 (by decide) rfl ?_
      refine pm_lv [(0, .ref v0), (1, .int v1), (2, .int v2), (3, .int v3), (4, .int x5)] [1, 2, 3, 4, 0] rfl ?_
      refine fX7_greatestPart_L27_E l h0 (fun w17 s18 hf => ?_) pm_fuel v2 x5 σ hf
      refine pm_iinc (pc := 78) 3 (v3 + (1 : Int32)) [(3, .int (v3 + (1 : Int32))), (0, .ref v0), (1, .int v1), (2, .int w17)] dX7_greatestPart_78 rfl rfl (by decide) rfl ?_
      refine pm_goto (pc := 81) 12 dX7_greatestPart_81 (by decide) ?_
      refine pm_lv [(0, .ref v0), (1, .int v1), (2, .int w17), (3, .int (v3 + (1 : Int32)))] [1, 2, 3, 0] rfl ?_
      exact ih w17 (v3 + (1 : Int32)) s18 hf
def fX7_greatestPart (S : pm_S) (a0 : Nat) (a1 : Int32) (σ : pm_H) : Option (Int32 × pm_H) :=
  Option.bind (fJ7_fill_53178 S (σ.2 a0 5) (0 : Int32) σ) fun u2 => fX7_greatestPart_L12 S a0 a1 (fun w20 s21 => some (w20, s21)) pm_fuel (0 : Int32) (1 : Int32) u2
set_option maxRecDepth 100000 in
set_option maxHeartbeats 4000000 in
theorem KX7_greatestPart (l : Launch) {S : pm_S} {p : Int32 × pm_H} {a0 : Nat} {a1 : Int32} {σ : pm_H} (h0 : pm_is S a0 10) (hf : fX7_greatestPart S a0 a1 σ = some p) : pm_M l yX7_greatestPart cX7_greatestPart 6 (some .int) false 1 [.ref a0, .int a1] S σ (pm_ri S p) := by
  refine pm_M.of (by decide +kernel) (Nat.le_of_ble_eq_true rfl) ?_
  show pm_E l yX7_greatestPart cX7_greatestPart 6 (some .int) false 1 S (pm_ri S p) 0 [(0, .ref a0), (1, .int a1)] [] S σ
  rw [fX7_greatestPart] at hf
  refine pm_aload_n (pc := 0) 0 dX7_greatestPart_0 rfl rfl h0.pos ?_
  refine pm_getT (pc := 1) (k := 5) pm_cl7 flX7_24 (by decide) rfl h0 dX7_greatestPart_1 (fun hr1 => ?_)
  refine pm_iconst (pc := 4) (0 : Int32) (by decide) dX7_greatestPart_4 ?_
  obtain ⟨u2, hu2, hf⟩ := pm_bind_e hf
  refine pm_cSu (pc := 5) (as := [.ref (σ.2 a0 5), .int (0 : Int32)]) (st := []) msX7_48 (KJ7_fill_53178 l hr1 hu2) (by decide) rfl rfl (Nat.le_of_ble_eq_true rfl) rfl dX7_greatestPart_5 ?_
  refine pm_iconst (pc := 8) (0 : Int32) (by decide) dX7_greatestPart_8 ?_
  refine pm_istore_n (pc := 9) [(2, .int (0 : Int32)), (0, .ref a0), (1, .int a1)] dX7_greatestPart_9 rfl (by decide) rfl ?_
  refine pm_iconst (pc := 10) (1 : Int32) (by decide) dX7_greatestPart_10 ?_
  refine pm_istore_n (pc := 11) [(3, .int (1 : Int32)), (2, .int (0 : Int32)), (0, .ref a0), (1, .int a1)] dX7_greatestPart_11 rfl (by decide) rfl ?_
  refine pm_lv [(0, .ref a0), (1, .int a1), (2, .int (0 : Int32)), (3, .int (1 : Int32))] [2, 3, 1, 0] rfl ?_
  refine fX7_greatestPart_L12_E l h0 (fun w20 s21 hf => ?_) pm_fuel (0 : Int32) (1 : Int32) u2 hf
  refine pm_iload_n (pc := 84) 0 dX7_greatestPart_84 rfl rfl ?_
  exact pm_iret rfl dX7_greatestPart_85 (pm_ri_e hf)
def fX7_bestDoor_L9 (S : pm_S) (v0 : Nat) (kx : Int32 → pm_H → Option (Int32 × pm_H)) : Nat → Int32 → Int32 → Int32 → pm_H → Option (Int32 × pm_H)
  | 0, _, _, _, _ => none
  | n + 1, v1, v2, v3, σ => (if (9 : Int32) < v3 then kx v2 σ else Option.bind (fX7_greatestPart S v0 v3 σ) fun u2 => (if v1 ≤ u2.1 then fX7_bestDoor_L9 S v0 kx n v1 v2 (v3 + (1 : Int32)) u2.2 else fX7_bestDoor_L9 S v0 kx n u2.1 v3 (v3 + (1 : Int32)) u2.2))
set_option maxRecDepth 100000 in
set_option maxHeartbeats 4000000 in
theorem fX7_bestDoor_L9_E (l : Launch) {S : pm_S} {p : Int32 × pm_H} {v0 : Nat} {kx : Int32 → pm_H → Option (Int32 × pm_H)} (h0 : pm_is S v0 10) (hkx : ∀ w2 sw, kx w2 sw = some p → pm_E l yX7_bestDoor cX7_bestDoor 5 (some .int) false 2 S (pm_ri S p) 39 [(2, .int w2)] [] S sw) : ∀ (n : Nat) (v1 : Int32) (v2 : Int32) (v3 : Int32) (σ : pm_H), fX7_bestDoor_L9 S v0 kx n v1 v2 v3 σ = some p → pm_E l yX7_bestDoor cX7_bestDoor 5 (some .int) false 2 S (pm_ri S p) 9 [(0, .ref v0), (1, .int v1), (2, .int v2), (3, .int v3)] [] S σ := by
  intro n
  induction n with
  | zero => intro v1 v2 v3 σ hf; cases hf
  | succ n ih =>
    intro v1 v2 v3 σ hf
    rw [fX7_bestDoor_L9] at hf
    refine pm_iload_n (pc := 9) 3 dX7_bestDoor_9 rfl rfl ?_
    refine pm_bipush (pc := 10) (9 : Int32) (by decide) dX7_bestDoor_10 ?_
    refine pm_icmp_gt (pc := 12) 39 dX7_bestDoor_12 (by decide) (fun hc4 => ?_) (fun hc4 => ?_)
    · rw [if_pos hc4] at hf
      refine pm_lv [(2, .int v2)] [2] rfl ?_
      exact hkx v2 σ hf
    · rw [if_neg hc4] at hf
      refine pm_aload_n (pc := 15) 0 dX7_bestDoor_15 rfl rfl h0.pos ?_
      refine pm_iload_n (pc := 16) 3 dX7_bestDoor_16 rfl rfl ?_
      obtain ⟨u2, hu2, hf⟩ := pm_bind_e hf
      refine pm_cVi (pc := 17) (as := [.int v3]) (st := []) mvX7_44 (KX7_greatestPart l h0 hu2) (by decide) h0 rfl rfl (Nat.le_of_ble_eq_true rfl) rfl dX7_bestDoor_17 ?_
      refine pm_istore (pc := 20) [(4, .int u2.1), (0, .ref v0), (1, .int v1), (2, .int v2), (3, .int v3)] dX7_bestDoor_20 (by decide) rfl ?_
      refine pm_iload (pc := 22) 0 dX7_bestDoor_22 rfl ?_
      refine pm_iload_n (pc := 24) 2 dX7_bestDoor_24 rfl rfl ?_
      refine pm_icmp_ge (pc := 25) 33 dX7_bestDoor_25 (by decide) (fun hc3 => ?_) (fun hc3 => ?_)
      · rw [if_pos hc3] at hf
        refine pm_iinc (pc := 33) 4 (v3 + (1 : Int32)) [(3, .int (v3 + (1 : Int32))), (4, .int u2.1), (0, .ref v0), (1, .int v1), (2, .int v2)] dX7_bestDoor_33 rfl rfl (by decide) rfl ?_
        refine pm_goto (pc := 36) 9 dX7_bestDoor_36 (by decide) ?_
        refine pm_lv [(0, .ref v0), (1, .int v1), (2, .int v2), (3, .int (v3 + (1 : Int32)))] [2, 3, 4, 0] rfl ?_
        exact ih v1 v2 (v3 + (1 : Int32)) u2.2 hf
      · rw [if_neg hc3] at hf
        refine pm_iload (pc := 28) 0 dX7_bestDoor_28 rfl ?_
        refine pm_istore_n (pc := 30) [(1, .int u2.1), (4, .int u2.1), (0, .ref v0), (2, .int v2), (3, .int v3)] dX7_bestDoor_30 rfl (by decide) rfl ?_
        refine pm_iload_n (pc := 31) 4 dX7_bestDoor_31 rfl rfl ?_
        refine pm_istore_n (pc := 32) [(2, .int v3), (1, .int u2.1), (4, .int u2.1), (0, .ref v0), (3, .int v3)] dX7_bestDoor_32 rfl (by decide) rfl ?_
        refine pm_iinc (pc := 33) 4 (v3 + (1 : Int32)) [(3, .int (v3 + (1 : Int32))), (2, .int v3), (1, .int u2.1), (4, .int u2.1), (0, .ref v0)] dX7_bestDoor_33 rfl rfl (by decide) rfl ?_
        refine pm_goto (pc := 36) 9 dX7_bestDoor_36 (by decide) ?_
        refine pm_lv [(0, .ref v0), (1, .int u2.1), (2, .int v3), (3, .int (v3 + (1 : Int32)))] [4, 2, 1, 0] rfl ?_
        exact ih u2.1 v3 (v3 + (1 : Int32)) u2.2 hf
def fX7_bestDoor (S : pm_S) (a0 : Nat) (σ : pm_H) : Option (Int32 × pm_H) :=
  Option.bind (fX7_gather S a0 σ) fun u1 => fX7_bestDoor_L9 S a0 (fun w5 s6 => some (w5, s6)) pm_fuel u1.1 (-1 : Int32) (1 : Int32) u1.2
set_option maxRecDepth 100000 in
set_option maxHeartbeats 4000000 in
theorem KX7_bestDoor (l : Launch) {S : pm_S} {p : Int32 × pm_H} {a0 : Nat} {σ : pm_H} (h0 : pm_is S a0 10) (hf : fX7_bestDoor S a0 σ = some p) : pm_M l yX7_bestDoor cX7_bestDoor 5 (some .int) false 2 [.ref a0] S σ (pm_ri S p) := by
  refine pm_M.of (by decide +kernel) (Nat.le_of_ble_eq_true rfl) ?_
  show pm_E l yX7_bestDoor cX7_bestDoor 5 (some .int) false 2 S (pm_ri S p) 0 [(0, .ref a0)] [] S σ
  rw [fX7_bestDoor] at hf
  refine pm_aload_n (pc := 0) 0 dX7_bestDoor_0 rfl rfl h0.pos ?_
  obtain ⟨u1, hu1, hf⟩ := pm_bind_e hf
  refine pm_cVi (pc := 1) (as := []) (st := []) mvX7_40 (KX7_gather l h0 hu1) (by decide) h0 rfl rfl (Nat.le_of_ble_eq_true rfl) rfl dX7_bestDoor_1 ?_
  refine pm_istore_n (pc := 4) [(1, .int u1.1), (0, .ref a0)] dX7_bestDoor_4 rfl (by decide) rfl ?_
  refine pm_iconst (pc := 5) (-1 : Int32) (by decide) dX7_bestDoor_5 ?_
  refine pm_istore_n (pc := 6) [(2, .int (-1 : Int32)), (1, .int u1.1), (0, .ref a0)] dX7_bestDoor_6 rfl (by decide) rfl ?_
  refine pm_iconst (pc := 7) (1 : Int32) (by decide) dX7_bestDoor_7 ?_
  refine pm_istore_n (pc := 8) [(3, .int (1 : Int32)), (2, .int (-1 : Int32)), (1, .int u1.1), (0, .ref a0)] dX7_bestDoor_8 rfl (by decide) rfl ?_
  refine pm_lv [(0, .ref a0), (1, .int u1.1), (2, .int (-1 : Int32)), (3, .int (1 : Int32))] [3, 2, 1, 0] rfl ?_
  refine fX7_bestDoor_L9_E l h0 (fun w5 s6 hf => ?_) pm_fuel u1.1 (-1 : Int32) (1 : Int32) u1.2 hf
  refine pm_iload_n (pc := 39) 0 dX7_bestDoor_39 rfl rfl ?_
  exact pm_iret rfl dX7_bestDoor_40 (pm_ri_e hf)
def fX8_begin (S : pm_S) (a0 : Nat) (a1 : Nat) (σ : pm_H) : Option (pm_H) :=
  Option.bind (fX6_begin S (σ.2 a0 0) (σ.1 a1 0) σ) fun u2 => pm_let (pm_si u2 (u2.2 a0 1) 4 (0 : Int32)) fun s4 => pm_let (pm_si s4 (s4.2 a0 2) 1 (0 : Int32)) fun s6 => (if pm_cb (0 : Int32) (0 : Int32) (6 : Int32) (pm_len S (s6.2 a1 7)) (pm_len S (s6.2 a0 3)) = true then pm_let (pm_sa s6 (s6.2 a0 3) (va_cpy (s6.1 (s6.2 a1 7)) (s6.1 (s6.2 a0 3)) ((0 : Int32)).toNatClampNeg ((0 : Int32)).toNatClampNeg ((6 : Int32)).toNatClampNeg)) fun s10 => some s10 else none)
set_option maxRecDepth 100000 in
set_option maxHeartbeats 4000000 in
theorem KX8_begin (l : Launch) {S : pm_S} {p : pm_H} {a0 : Nat} {a1 : Nat} {σ : pm_H} (h0 : pm_is S a0 11) (h1 : pm_is S a1 12) (hf : fX8_begin S a0 a1 σ = some p) : pm_M l yX8_begin cX8_begin 2 none false 1 [.ref a0, .ref a1] S σ (pm_ru S p) := by
  refine pm_M.of (by decide +kernel) (Nat.le_of_ble_eq_true rfl) ?_
  show pm_E l yX8_begin cX8_begin 2 none false 1 S (pm_ru S p) 0 [(0, .ref a0), (1, .ref a1)] [] S σ
  rw [fX8_begin] at hf
  refine pm_aload_n (pc := 0) 0 dX8_begin_0 rfl rfl h0.pos ?_
  refine pm_getT (pc := 1) (k := 0) pm_cl8 flX8_12 (by decide) rfl h0 dX8_begin_1 (fun hr1 => ?_)
  refine pm_aload_n (pc := 4) 1 dX8_begin_4 rfl rfl h1.pos ?_
  refine pm_getI (pc := 5) (k := 0) pm_cl9 flX8_52 (by decide) rfl h1 dX8_begin_5 ?_
  obtain ⟨u2, hu2, hf⟩ := pm_bind_e hf
  refine pm_cVu (pc := 8) (as := [.int (σ.1 a1 0)]) (st := []) mvX8_58 (KX6_begin l hr1 hu2) (by decide) hr1 rfl rfl (Nat.le_of_ble_eq_true rfl) rfl dX8_begin_8 ?_
  refine pm_aload_n (pc := 11) 0 dX8_begin_11 rfl rfl h0.pos ?_
  refine pm_getT (pc := 12) (k := 1) pm_cl8 flX8_21 (by decide) rfl h0 dX8_begin_12 (fun hr3 => ?_)
  refine pm_iconst (pc := 15) (0 : Int32) (by decide) dX8_begin_15 ?_
  refine pm_putI (pc := 16) (k := 4) pm_cl10 flX8_62 (by decide) rfl rfl rfl hr3 dX8_begin_16 ?_
  obtain ⟨s4, es4, hf⟩ := pm_let_e hf
  refine pm_nmh es4 ?_
  refine pm_aload_n (pc := 19) 0 dX8_begin_19 rfl rfl h0.pos ?_
  refine pm_getT (pc := 20) (k := 2) pm_cl8 flX8_28 (by decide) rfl h0 dX8_begin_20 (fun hr5 => ?_)
  refine pm_iconst (pc := 23) (0 : Int32) (by decide) dX8_begin_23 ?_
  refine pm_putI (pc := 24) (k := 1) pm_cl1 flX8_65 (by decide) rfl rfl rfl hr5 dX8_begin_24 ?_
  obtain ⟨s6, es6, hf⟩ := pm_let_e hf
  refine pm_nmh es6 ?_
  refine pm_aload_n (pc := 27) 1 dX8_begin_27 rfl rfl h1.pos ?_
  refine pm_getT (pc := 28) (k := 7) pm_cl9 flX8_66 (by decide) rfl h1 dX8_begin_28 (fun hr7 => ?_)
  refine pm_iconst (pc := 31) (0 : Int32) (by decide) dX8_begin_31 ?_
  refine pm_aload_n (pc := 32) 0 dX8_begin_32 rfl rfl h0.pos ?_
  refine pm_getT (pc := 33) (k := 3) pm_cl8 flX8_32 (by decide) rfl h0 dX8_begin_33 (fun hr8 => ?_)
  refine pm_iconst (pc := 36) (0 : Int32) (by decide) dX8_begin_36 ?_
  refine pm_bipush (pc := 37) (6 : Int32) (by decide) dX8_begin_37 ?_
  obtain ⟨hb9, hf⟩ := pm_gd hf
  refine pm_copy (pc := 39) cpX8_46 hr7 hr8 (pm_cb_e hb9).1 (pm_cb_e hb9).2.1 (pm_cb_e hb9).2.2.1 (pm_cb_e hb9).2.2.2.1 (pm_cb_e hb9).2.2.2.2 (Nat.le_of_ble_eq_true rfl) (by decide) dX8_begin_39 ?_
  obtain ⟨s10, es10, hf⟩ := pm_let_e hf
  refine pm_nmh es10 ?_
  exact pm_vret rfl dX8_begin_42 (pm_ru_e hf)
def fX10_span (S : pm_S) (a0 : Int32) (a1 : Int32) (a2 : Int32) (σ : pm_H) : Option (Int32 × pm_H) :=
  some (((a0 * (((12 : Int32) * a1) + a2)) / (12 : Int32)), σ)
set_option maxRecDepth 100000 in
set_option maxHeartbeats 4000000 in
theorem KX10_span (l : Launch) {S : pm_S} {p : Int32 × pm_H} {a0 : Int32} {a1 : Int32} {a2 : Int32} {σ : pm_H}  (hf : fX10_span S a0 a1 a2 σ = some p) : pm_M l yX10_span cX10_span 3 (some .int) false 0 [.int a0, .int a1, .int a2] S σ (pm_ri S p) := by
  refine pm_M.of (by decide +kernel) (Nat.le_of_ble_eq_true rfl) ?_
  show pm_E l yX10_span cX10_span 3 (some .int) false 0 S (pm_ri S p) 0 [(0, .int a0), (1, .int a1), (2, .int a2)] [] S σ
  rw [fX10_span] at hf
  refine pm_iload_n (pc := 0) 0 dX10_span_0 rfl rfl ?_
  refine pm_bipush (pc := 1) (12 : Int32) (by decide) dX10_span_1 ?_
  refine pm_iload_n (pc := 3) 1 dX10_span_3 rfl rfl ?_
  refine pm_imul (pc := 4) dX10_span_4 ?_
  refine pm_iload_n (pc := 5) 2 dX10_span_5 rfl rfl ?_
  refine pm_iadd (pc := 6) dX10_span_6 ?_
  refine pm_imul (pc := 7) dX10_span_7 ?_
  refine pm_bipush (pc := 8) (12 : Int32) (by decide) dX10_span_8 ?_
  refine pm_idiv (pc := 10) (by decide) dX10_span_10 ?_
  exact pm_iret rfl dX10_span_11 (pm_ri_e hf)
def fX10_loseEarliest (S : pm_S) (a0 : Nat) (σ : pm_H) : Option (pm_H) :=
  (if pm_cb (1 : Int32) (0 : Int32) (19 : Int32) (pm_len S (σ.2 a0 0)) (pm_len S (σ.2 a0 0)) = true then pm_let (pm_sa σ (σ.2 a0 0) (va_cpy (σ.1 (σ.2 a0 0)) (σ.1 (σ.2 a0 0)) ((1 : Int32)).toNatClampNeg ((0 : Int32)).toNatClampNeg ((19 : Int32)).toNatClampNeg)) fun s4 => (if pm_cb (1 : Int32) (0 : Int32) (19 : Int32) (pm_len S (s4.2 a0 1)) (pm_len S (s4.2 a0 1)) = true then pm_let (pm_sa s4 (s4.2 a0 1) (va_cpy (s4.1 (s4.2 a0 1)) (s4.1 (s4.2 a0 1)) ((1 : Int32)).toNatClampNeg ((0 : Int32)).toNatClampNeg ((19 : Int32)).toNatClampNeg)) fun s8 => (if pm_cb (1 : Int32) (0 : Int32) (19 : Int32) (pm_len S (s8.2 a0 2)) (pm_len S (s8.2 a0 2)) = true then pm_let (pm_sa s8 (s8.2 a0 2) (va_cpy (s8.1 (s8.2 a0 2)) (s8.1 (s8.2 a0 2)) ((1 : Int32)).toNatClampNeg ((0 : Int32)).toNatClampNeg ((19 : Int32)).toNatClampNeg)) fun s12 => (if pm_cb (1 : Int32) (0 : Int32) (19 : Int32) (pm_len S (s12.2 a0 3)) (pm_len S (s12.2 a0 3)) = true then pm_let (pm_sa s12 (s12.2 a0 3) (va_cpy (s12.1 (s12.2 a0 3)) (s12.1 (s12.2 a0 3)) ((1 : Int32)).toNatClampNeg ((0 : Int32)).toNatClampNeg ((19 : Int32)).toNatClampNeg)) fun s16 => pm_let (pm_si s16 a0 4 (19 : Int32)) fun s17 => some s17 else none) else none) else none) else none)
set_option maxRecDepth 100000 in
set_option maxHeartbeats 4000000 in
theorem KX10_loseEarliest (l : Launch) {S : pm_S} {p : pm_H} {a0 : Nat} {σ : pm_H} (h0 : pm_is S a0 13) (hf : fX10_loseEarliest S a0 σ = some p) : pm_M l yX10_loseEarliest cX10_loseEarliest 1 none false 1 [.ref a0] S σ (pm_ru S p) := by
  refine pm_M.of (by decide +kernel) (Nat.le_of_ble_eq_true rfl) ?_
  show pm_E l yX10_loseEarliest cX10_loseEarliest 1 none false 1 S (pm_ru S p) 0 [(0, .ref a0)] [] S σ
  rw [fX10_loseEarliest] at hf
  refine pm_aload_n (pc := 0) 0 dX10_loseEarliest_0 rfl rfl h0.pos ?_
  refine pm_getT (pc := 1) (k := 0) pm_cl10 flX10_9 (by decide) rfl h0 dX10_loseEarliest_1 (fun hr1 => ?_)
  refine pm_iconst (pc := 4) (1 : Int32) (by decide) dX10_loseEarliest_4 ?_
  refine pm_aload_n (pc := 5) 0 dX10_loseEarliest_5 rfl rfl h0.pos ?_
  refine pm_getT (pc := 6) (k := 0) pm_cl10 flX10_9 (by decide) rfl h0 dX10_loseEarliest_6 (fun hr2 => ?_)
  refine pm_iconst (pc := 9) (0 : Int32) (by decide) dX10_loseEarliest_9 ?_
  refine pm_bipush (pc := 10) (19 : Int32) (by decide) dX10_loseEarliest_10 ?_
  obtain ⟨hb3, hf⟩ := pm_gd hf
  refine pm_copy (pc := 12) cpX10_28 hr1 hr2 (pm_cb_e hb3).1 (pm_cb_e hb3).2.1 (pm_cb_e hb3).2.2.1 (pm_cb_e hb3).2.2.2.1 (pm_cb_e hb3).2.2.2.2 (Nat.le_of_ble_eq_true rfl) (by decide) dX10_loseEarliest_12 ?_
  obtain ⟨s4, es4, hf⟩ := pm_let_e hf
  refine pm_nmh es4 ?_
  refine pm_aload_n (pc := 15) 0 dX10_loseEarliest_15 rfl rfl h0.pos ?_
  refine pm_getT (pc := 16) (k := 1) pm_cl10 flX10_15 (by decide) rfl h0 dX10_loseEarliest_16 (fun hr5 => ?_)
  refine pm_iconst (pc := 19) (1 : Int32) (by decide) dX10_loseEarliest_19 ?_
  refine pm_aload_n (pc := 20) 0 dX10_loseEarliest_20 rfl rfl h0.pos ?_
  refine pm_getT (pc := 21) (k := 1) pm_cl10 flX10_15 (by decide) rfl h0 dX10_loseEarliest_21 (fun hr6 => ?_)
  refine pm_iconst (pc := 24) (0 : Int32) (by decide) dX10_loseEarliest_24 ?_
  refine pm_bipush (pc := 25) (19 : Int32) (by decide) dX10_loseEarliest_25 ?_
  obtain ⟨hb7, hf⟩ := pm_gd hf
  refine pm_copy (pc := 27) cpX10_28 hr5 hr6 (pm_cb_e hb7).1 (pm_cb_e hb7).2.1 (pm_cb_e hb7).2.2.1 (pm_cb_e hb7).2.2.2.1 (pm_cb_e hb7).2.2.2.2 (Nat.le_of_ble_eq_true rfl) (by decide) dX10_loseEarliest_27 ?_
  obtain ⟨s8, es8, hf⟩ := pm_let_e hf
  refine pm_nmh es8 ?_
  refine pm_aload_n (pc := 30) 0 dX10_loseEarliest_30 rfl rfl h0.pos ?_
  refine pm_getT (pc := 31) (k := 2) pm_cl10 flX10_18 (by decide) rfl h0 dX10_loseEarliest_31 (fun hr9 => ?_)
  refine pm_iconst (pc := 34) (1 : Int32) (by decide) dX10_loseEarliest_34 ?_
  refine pm_aload_n (pc := 35) 0 dX10_loseEarliest_35 rfl rfl h0.pos ?_
  refine pm_getT (pc := 36) (k := 2) pm_cl10 flX10_18 (by decide) rfl h0 dX10_loseEarliest_36 (fun hr10 => ?_)
  refine pm_iconst (pc := 39) (0 : Int32) (by decide) dX10_loseEarliest_39 ?_
  refine pm_bipush (pc := 40) (19 : Int32) (by decide) dX10_loseEarliest_40 ?_
  obtain ⟨hb11, hf⟩ := pm_gd hf
  refine pm_copy (pc := 42) cpX10_28 hr9 hr10 (pm_cb_e hb11).1 (pm_cb_e hb11).2.1 (pm_cb_e hb11).2.2.1 (pm_cb_e hb11).2.2.2.1 (pm_cb_e hb11).2.2.2.2 (Nat.le_of_ble_eq_true rfl) (by decide) dX10_loseEarliest_42 ?_
  obtain ⟨s12, es12, hf⟩ := pm_let_e hf
  refine pm_nmh es12 ?_
  refine pm_aload_n (pc := 45) 0 dX10_loseEarliest_45 rfl rfl h0.pos ?_
  refine pm_getT (pc := 46) (k := 3) pm_cl10 flX10_21 (by decide) rfl h0 dX10_loseEarliest_46 (fun hr13 => ?_)
  refine pm_iconst (pc := 49) (1 : Int32) (by decide) dX10_loseEarliest_49 ?_
  refine pm_aload_n (pc := 50) 0 dX10_loseEarliest_50 rfl rfl h0.pos ?_
  refine pm_getT (pc := 51) (k := 3) pm_cl10 flX10_21 (by decide) rfl h0 dX10_loseEarliest_51 (fun hr14 => ?_)
  refine pm_iconst (pc := 54) (0 : Int32) (by decide) dX10_loseEarliest_54 ?_
  refine pm_bipush (pc := 55) (19 : Int32) (by decide) dX10_loseEarliest_55 ?_
  obtain ⟨hb15, hf⟩ := pm_gd hf
  refine pm_copy (pc := 57) cpX10_28 hr13 hr14 (pm_cb_e hb15).1 (pm_cb_e hb15).2.1 (pm_cb_e hb15).2.2.1 (pm_cb_e hb15).2.2.2.1 (pm_cb_e hb15).2.2.2.2 (Nat.le_of_ble_eq_true rfl) (by decide) dX10_loseEarliest_57 ?_
  obtain ⟨s16, es16, hf⟩ := pm_let_e hf
  refine pm_nmh es16 ?_
  refine pm_aload_n (pc := 60) 0 dX10_loseEarliest_60 rfl rfl h0.pos ?_
  refine pm_bipush (pc := 61) (19 : Int32) (by decide) dX10_loseEarliest_61 ?_
  refine pm_putI (pc := 63) (k := 4) pm_cl10 flX10_24 (by decide) rfl rfl rfl h0 dX10_loseEarliest_63 ?_
  obtain ⟨s17, es17, hf⟩ := pm_let_e hf
  refine pm_nmh es17 ?_
  exact pm_vret rfl dX10_loseEarliest_66 (pm_ru_e hf)
def fX10_add_J13 (S : pm_S) (v0 : Nat) (v1 : Int32) (v2 : Int32) (v3 : Int32) (v4 : Int32) (σ : pm_H) : Option (pm_H) :=
  (if pm_ib (σ.1 v0 4) (pm_len S (σ.2 v0 0)) = true then pm_let (pm_si σ (σ.2 v0 0) ((σ.1 v0 4)).toNatClampNeg v1) fun s3 => (if pm_ib (s3.1 v0 4) (pm_len S (s3.2 v0 1)) = true then pm_let (pm_si s3 (s3.2 v0 1) ((s3.1 v0 4)).toNatClampNeg v2) fun s6 => (if pm_ib (s6.1 v0 4) (pm_len S (s6.2 v0 2)) = true then pm_let (pm_si s6 (s6.2 v0 2) ((s6.1 v0 4)).toNatClampNeg v3) fun s9 => (if pm_ib (s9.1 v0 4) (pm_len S (s9.2 v0 3)) = true then pm_let (pm_si s9 (s9.2 v0 3) ((s9.1 v0 4)).toNatClampNeg v4) fun s12 => pm_let (pm_si s12 v0 4 ((s12.1 v0 4) + (1 : Int32))) fun s13 => some s13 else none) else none) else none) else none)
set_option maxRecDepth 100000 in
set_option maxHeartbeats 4000000 in
theorem fX10_add_J13_E (l : Launch) {S : pm_S} {p : pm_H} {v0 : Nat} {v1 : Int32} {v2 : Int32} {v3 : Int32} {v4 : Int32} {σ : pm_H} (h0 : pm_is S v0 13) (hf : fX10_add_J13 S v0 v1 v2 v3 v4 σ = some p) : pm_E l yX10_add cX10_add 5 none false 2 S (pm_ru S p) 13 [(0, .ref v0), (1, .int v1), (2, .int v2), (3, .int v3), (4, .int v4)] [] S σ := by
  rw [fX10_add_J13] at hf
  refine pm_aload_n (pc := 13) 0 dX10_add_13 rfl rfl h0.pos ?_
  refine pm_getT (pc := 14) (k := 0) pm_cl10 flX10_9 (by decide) rfl h0 dX10_add_14 (fun hr1 => ?_)
  refine pm_aload_n (pc := 17) 0 dX10_add_17 rfl rfl h0.pos ?_
  refine pm_getI (pc := 18) (k := 4) pm_cl10 flX10_24 (by decide) rfl h0 dX10_add_18 ?_
  refine pm_iload_n (pc := 21) 1 dX10_add_21 rfl rfl ?_
  obtain ⟨hb2, hf⟩ := pm_gd hf
  refine pm_iast (pc := 22) hr1 (pm_ib_in hb2) dX10_add_22 ?_
  obtain ⟨s3, es3, hf⟩ := pm_let_e hf
  refine pm_nmh es3 ?_
  refine pm_aload_n (pc := 23) 0 dX10_add_23 rfl rfl h0.pos ?_
  refine pm_getT (pc := 24) (k := 1) pm_cl10 flX10_15 (by decide) rfl h0 dX10_add_24 (fun hr4 => ?_)
  refine pm_aload_n (pc := 27) 0 dX10_add_27 rfl rfl h0.pos ?_
  refine pm_getI (pc := 28) (k := 4) pm_cl10 flX10_24 (by decide) rfl h0 dX10_add_28 ?_
  refine pm_iload_n (pc := 31) 2 dX10_add_31 rfl rfl ?_
  obtain ⟨hb5, hf⟩ := pm_gd hf
  refine pm_iast (pc := 32) hr4 (pm_ib_in hb5) dX10_add_32 ?_
  obtain ⟨s6, es6, hf⟩ := pm_let_e hf
  refine pm_nmh es6 ?_
  refine pm_aload_n (pc := 33) 0 dX10_add_33 rfl rfl h0.pos ?_
  refine pm_getT (pc := 34) (k := 2) pm_cl10 flX10_18 (by decide) rfl h0 dX10_add_34 (fun hr7 => ?_)
  refine pm_aload_n (pc := 37) 0 dX10_add_37 rfl rfl h0.pos ?_
  refine pm_getI (pc := 38) (k := 4) pm_cl10 flX10_24 (by decide) rfl h0 dX10_add_38 ?_
  refine pm_iload_n (pc := 41) 3 dX10_add_41 rfl rfl ?_
  obtain ⟨hb8, hf⟩ := pm_gd hf
  refine pm_iast (pc := 42) hr7 (pm_ib_in hb8) dX10_add_42 ?_
  obtain ⟨s9, es9, hf⟩ := pm_let_e hf
  refine pm_nmh es9 ?_
  refine pm_aload_n (pc := 43) 0 dX10_add_43 rfl rfl h0.pos ?_
  refine pm_getT (pc := 44) (k := 3) pm_cl10 flX10_21 (by decide) rfl h0 dX10_add_44 (fun hr10 => ?_)
  refine pm_aload_n (pc := 47) 0 dX10_add_47 rfl rfl h0.pos ?_
  refine pm_getI (pc := 48) (k := 4) pm_cl10 flX10_24 (by decide) rfl h0 dX10_add_48 ?_
  refine pm_iload (pc := 51) 4 dX10_add_51 rfl ?_
  obtain ⟨hb11, hf⟩ := pm_gd hf
  refine pm_iast (pc := 53) hr10 (pm_ib_in hb11) dX10_add_53 ?_
  obtain ⟨s12, es12, hf⟩ := pm_let_e hf
  refine pm_nmh es12 ?_
  refine pm_aload_n (pc := 54) 0 dX10_add_54 rfl rfl h0.pos ?_
  refine pm_dup (pc := 55) rfl dX10_add_55 ?_
  refine pm_getI (pc := 56) (k := 4) pm_cl10 flX10_24 (by decide) rfl h0 dX10_add_56 ?_
  refine pm_iconst (pc := 59) (1 : Int32) (by decide) dX10_add_59 ?_
  refine pm_iadd (pc := 60) dX10_add_60 ?_
  refine pm_putI (pc := 61) (k := 4) pm_cl10 flX10_24 (by decide) rfl rfl rfl h0 dX10_add_61 ?_
  obtain ⟨s13, es13, hf⟩ := pm_let_e hf
  refine pm_nmh es13 ?_
  exact pm_vret rfl dX10_add_64 (pm_ru_e hf)
def fX10_add (S : pm_S) (a0 : Nat) (a1 : Int32) (a2 : Int32) (a3 : Int32) (a4 : Int32) (σ : pm_H) : Option (pm_H) :=
  (if (σ.1 a0 4) < (20 : Int32) then fX10_add_J13 S a0 a1 a2 a3 a4 σ else Option.bind (fX10_loseEarliest S a0 σ) fun u14 => fX10_add_J13 S a0 a1 a2 a3 a4 u14)
set_option maxRecDepth 100000 in
set_option maxHeartbeats 4000000 in
theorem KX10_add (l : Launch) {S : pm_S} {p : pm_H} {a0 : Nat} {a1 : Int32} {a2 : Int32} {a3 : Int32} {a4 : Int32} {σ : pm_H} (h0 : pm_is S a0 13) (hf : fX10_add S a0 a1 a2 a3 a4 σ = some p) : pm_M l yX10_add cX10_add 5 none false 2 [.ref a0, .int a1, .int a2, .int a3, .int a4] S σ (pm_ru S p) := by
  refine pm_M.of (by decide +kernel) (Nat.le_of_ble_eq_true rfl) ?_
  show pm_E l yX10_add cX10_add 5 none false 2 S (pm_ru S p) 0 [(0, .ref a0), (1, .int a1), (2, .int a2), (3, .int a3), (4, .int a4)] [] S σ
  rw [fX10_add] at hf
  refine pm_aload_n (pc := 0) 0 dX10_add_0 rfl rfl h0.pos ?_
  refine pm_getI (pc := 1) (k := 4) pm_cl10 flX10_24 (by decide) rfl h0 dX10_add_1 ?_
  refine pm_bipush (pc := 4) (20 : Int32) (by decide) dX10_add_4 ?_
  refine pm_icmp_lt (pc := 6) 13 dX10_add_6 (by decide) (fun hc15 => ?_) (fun hc15 => ?_)
  · rw [if_pos hc15] at hf
    refine pm_lv [(0, .ref a0), (1, .int a1), (2, .int a2), (3, .int a3), (4, .int a4)] [0, 1, 2, 3, 4] rfl ?_
    exact fX10_add_J13_E l h0 hf
  · rw [if_neg hc15] at hf
    refine pm_aload_n (pc := 9) 0 dX10_add_9 rfl rfl h0.pos ?_
    obtain ⟨u14, hu14, hf⟩ := pm_bind_e hf
    refine pm_cVu (pc := 10) (as := []) (st := []) mvX10_34 (KX10_loseEarliest l h0 hu14) (by decide) h0 rfl rfl (Nat.le_of_ble_eq_true rfl) rfl dX10_add_10 ?_
    refine pm_lv [(0, .ref a0), (1, .int a1), (2, .int a2), (3, .int a3), (4, .int a4)] [0, 1, 2, 3, 4] rfl ?_
    exact fX10_add_J13_E l h0 hf
def fX8_produce (S : pm_S) (a0 : Nat) (a1 : Int32) (a2 : Int32) (σ : pm_H) : Option (Int32 × pm_H) :=
  Option.bind (fX10_span S (σ.1 (σ.2 a0 0) 0) a1 a2 σ) fun u2 => pm_let (u2.1 + (u2.2.1 (u2.2.2 a0 0) 1)) fun x4 => Option.bind (fX10_add S (u2.2.2 a0 1) x4 a1 a2 (u2.2.1 (u2.2.2 a0 0) 3) u2.2) fun u7 => some (x4, u7)
set_option maxRecDepth 100000 in
set_option maxHeartbeats 4000000 in
theorem KX8_produce (l : Launch) {S : pm_S} {p : Int32 × pm_H} {a0 : Nat} {a1 : Int32} {a2 : Int32} {σ : pm_H} (h0 : pm_is S a0 11) (hf : fX8_produce S a0 a1 a2 σ = some p) : pm_M l yX8_produce cX8_produce 4 (some .int) false 3 [.ref a0, .int a1, .int a2] S σ (pm_ri S p) := by
  refine pm_M.of (by decide +kernel) (Nat.le_of_ble_eq_true rfl) ?_
  show pm_E l yX8_produce cX8_produce 4 (some .int) false 3 S (pm_ri S p) 0 [(0, .ref a0), (1, .int a1), (2, .int a2)] [] S σ
  rw [fX8_produce] at hf
  refine pm_aload_n (pc := 0) 0 dX8_produce_0 rfl rfl h0.pos ?_
  refine pm_getT (pc := 1) (k := 0) pm_cl8 flX8_12 (by decide) rfl h0 dX8_produce_1 (fun hr1 => ?_)
  refine pm_getI (pc := 4) (k := 0) pm_cl6 flX8_67 (by decide) rfl hr1 dX8_produce_4 ?_
  refine pm_iload_n (pc := 7) 1 dX8_produce_7 rfl rfl ?_
  refine pm_iload_n (pc := 8) 2 dX8_produce_8 rfl rfl ?_
  obtain ⟨u2, hu2, hf⟩ := pm_bind_e hf
  refine pm_cSi (pc := 9) (as := [.int (σ.1 (σ.2 a0 0) 0), .int a1, .int a2]) (st := []) msX8_68 (KX10_span l  hu2) (by decide) rfl rfl (Nat.le_of_ble_eq_true rfl) rfl dX8_produce_9 ?_
  refine pm_aload_n (pc := 12) 0 dX8_produce_12 rfl rfl h0.pos ?_
  refine pm_getT (pc := 13) (k := 0) pm_cl8 flX8_12 (by decide) rfl h0 dX8_produce_13 (fun hr3 => ?_)
  refine pm_getI (pc := 16) (k := 1) pm_cl6 flX8_72 (by decide) rfl hr3 dX8_produce_16 ?_
  refine pm_iadd (pc := 19) dX8_produce_19 ?_
  obtain ⟨x4, ex4, hf⟩ := pm_let_e hf
  refine pm_nmi ex4 ?_
  refine pm_istore_n (pc := 20) [(3, .int x4), (0, .ref a0), (1, .int a1), (2, .int a2)] dX8_produce_20 rfl (by decide) rfl ?_
  refine pm_aload_n (pc := 21) 1 dX8_produce_21 rfl rfl h0.pos ?_
  refine pm_getT (pc := 22) (k := 1) pm_cl8 flX8_21 (by decide) rfl h0 dX8_produce_22 (fun hr5 => ?_)
  refine pm_iload_n (pc := 25) 0 dX8_produce_25 rfl rfl ?_
  refine pm_iload_n (pc := 26) 2 dX8_produce_26 rfl rfl ?_
  refine pm_iload_n (pc := 27) 3 dX8_produce_27 rfl rfl ?_
  refine pm_aload_n (pc := 28) 1 dX8_produce_28 rfl rfl h0.pos ?_
  refine pm_getT (pc := 29) (k := 0) pm_cl8 flX8_12 (by decide) rfl h0 dX8_produce_29 (fun hr6 => ?_)
  refine pm_getI (pc := 32) (k := 3) pm_cl6 flX8_75 (by decide) rfl hr6 dX8_produce_32 ?_
  obtain ⟨u7, hu7, hf⟩ := pm_bind_e hf
  refine pm_cVu (pc := 35) (as := [.int x4, .int a1, .int a2, .int (u2.2.1 (u2.2.2 a0 0) 3)]) (st := []) mvX8_78 (KX10_add l hr5 hu7) (by decide) hr5 rfl rfl (Nat.le_of_ble_eq_true rfl) rfl dX8_produce_35 ?_
  refine pm_iload_n (pc := 38) 0 dX8_produce_38 rfl rfl ?_
  exact pm_iret rfl dX8_produce_39 (pm_ri_e hf)
def fX10_bendIfLong (S : pm_S) (a0 : Nat) (a1 : Int32) (a2 : Int32) (σ : pm_H) : Option (Int32 × pm_H) :=
  (if pm_ib a1 (pm_len S (σ.2 a0 0)) = true then (if pm_ib a1 (pm_len S (σ.2 a0 1)) = true then (if pm_ib a1 (pm_len S (σ.2 a0 2)) = true then Option.bind (fX10_span S a2 (σ.1 (σ.2 a0 1) (a1).toNatClampNeg) (σ.1 (σ.2 a0 2) (a1).toNatClampNeg) σ) fun u7 => some (((σ.1 (σ.2 a0 0) (a1).toNatClampNeg) - u7.1), u7.2) else none) else none) else none)
set_option maxRecDepth 100000 in
set_option maxHeartbeats 4000000 in
theorem KX10_bendIfLong (l : Launch) {S : pm_S} {p : Int32 × pm_H} {a0 : Nat} {a1 : Int32} {a2 : Int32} {σ : pm_H} (h0 : pm_is S a0 13) (hf : fX10_bendIfLong S a0 a1 a2 σ = some p) : pm_M l yX10_bendIfLong cX10_bendIfLong 3 (some .int) false 1 [.ref a0, .int a1, .int a2] S σ (pm_ri S p) := by
  refine pm_M.of (by decide +kernel) (Nat.le_of_ble_eq_true rfl) ?_
  show pm_E l yX10_bendIfLong cX10_bendIfLong 3 (some .int) false 1 S (pm_ri S p) 0 [(0, .ref a0), (1, .int a1), (2, .int a2)] [] S σ
  rw [fX10_bendIfLong] at hf
  refine pm_aload_n (pc := 0) 0 dX10_bendIfLong_0 rfl rfl h0.pos ?_
  refine pm_getT (pc := 1) (k := 0) pm_cl10 flX10_9 (by decide) rfl h0 dX10_bendIfLong_1 (fun hr1 => ?_)
  refine pm_iload_n (pc := 4) 1 dX10_bendIfLong_4 rfl rfl ?_
  obtain ⟨hb2, hf⟩ := pm_gd hf
  refine pm_iald (pc := 5) hr1 (pm_ib_in hb2) dX10_bendIfLong_5 ?_
  refine pm_iload_n (pc := 6) 2 dX10_bendIfLong_6 rfl rfl ?_
  refine pm_aload_n (pc := 7) 0 dX10_bendIfLong_7 rfl rfl h0.pos ?_
  refine pm_getT (pc := 8) (k := 1) pm_cl10 flX10_15 (by decide) rfl h0 dX10_bendIfLong_8 (fun hr3 => ?_)
  refine pm_iload_n (pc := 11) 1 dX10_bendIfLong_11 rfl rfl ?_
  obtain ⟨hb4, hf⟩ := pm_gd hf
  refine pm_iald (pc := 12) hr3 (pm_ib_in hb4) dX10_bendIfLong_12 ?_
  refine pm_aload_n (pc := 13) 0 dX10_bendIfLong_13 rfl rfl h0.pos ?_
  refine pm_getT (pc := 14) (k := 2) pm_cl10 flX10_18 (by decide) rfl h0 dX10_bendIfLong_14 (fun hr5 => ?_)
  refine pm_iload_n (pc := 17) 1 dX10_bendIfLong_17 rfl rfl ?_
  obtain ⟨hb6, hf⟩ := pm_gd hf
  refine pm_iald (pc := 18) hr5 (pm_ib_in hb6) dX10_bendIfLong_18 ?_
  obtain ⟨u7, hu7, hf⟩ := pm_bind_e hf
  refine pm_cSi (pc := 19) (as := [.int a2, .int (σ.1 (σ.2 a0 1) (a1).toNatClampNeg), .int (σ.1 (σ.2 a0 2) (a1).toNatClampNeg)]) (st := [.int (σ.1 (σ.2 a0 0) (a1).toNatClampNeg)]) msX10_37 (KX10_span l  hu7) (by decide) rfl rfl (Nat.le_of_ble_eq_true rfl) rfl dX10_bendIfLong_19 ?_
  refine pm_isub (pc := 22) dX10_bendIfLong_22 ?_
  exact pm_iret rfl dX10_bendIfLong_23 (pm_ri_e hf)
def fX10_longest_L4 (S : pm_S) (v0 : Nat) (kx : Int32 → pm_H → Option (Int32 × pm_H)) : Nat → Int32 → Int32 → pm_H → Option (Int32 × pm_H)
  | 0, _, _, _ => none
  | n + 1, v1, v2, σ => (if (σ.1 v0 4) ≤ v2 then kx v1 σ else (if v1 = (-1 : Int32) then fX10_longest_L4 S v0 kx n v2 (v2 + (1 : Int32)) σ else (if pm_ib v2 (pm_len S (σ.2 v0 0)) = true then (if pm_ib v1 (pm_len S (σ.2 v0 0)) = true then (if (σ.1 (σ.2 v0 0) (v2).toNatClampNeg) ≤ (σ.1 (σ.2 v0 0) (v1).toNatClampNeg) then fX10_longest_L4 S v0 kx n v1 (v2 + (1 : Int32)) σ else fX10_longest_L4 S v0 kx n v2 (v2 + (1 : Int32)) σ) else none) else none)))
set_option maxRecDepth 100000 in
set_option maxHeartbeats 4000000 in
theorem fX10_longest_L4_E (l : Launch) {S : pm_S} {p : Int32 × pm_H} {v0 : Nat} {kx : Int32 → pm_H → Option (Int32 × pm_H)} (h0 : pm_is S v0 13) (hkx : ∀ w1 sw, kx w1 sw = some p → pm_E l yX10_longest cX10_longest 3 (some .int) false 0 S (pm_ri S p) 40 [(1, .int w1)] [] S sw) : ∀ (n : Nat) (v1 : Int32) (v2 : Int32) (σ : pm_H), fX10_longest_L4 S v0 kx n v1 v2 σ = some p → pm_E l yX10_longest cX10_longest 3 (some .int) false 0 S (pm_ri S p) 4 [(0, .ref v0), (1, .int v1), (2, .int v2)] [] S σ := by
  intro n
  induction n with
  | zero => intro v1 v2 σ hf; cases hf
  | succ n ih =>
    intro v1 v2 σ hf
    rw [fX10_longest_L4] at hf
    refine pm_iload_n (pc := 4) 2 dX10_longest_4 rfl rfl ?_
    refine pm_aload_n (pc := 5) 0 dX10_longest_5 rfl rfl h0.pos ?_
    refine pm_getI (pc := 6) (k := 4) pm_cl10 flX10_24 (by decide) rfl h0 dX10_longest_6 ?_
    refine pm_icmp_ge (pc := 9) 40 dX10_longest_9 (by decide) (fun hc7 => ?_) (fun hc7 => ?_)
    · rw [if_pos hc7] at hf
      refine pm_lv [(1, .int v1)] [1] rfl ?_
      exact hkx v1 σ hf
    · rw [if_neg hc7] at hf
      refine pm_iload_n (pc := 12) 1 dX10_longest_12 rfl rfl ?_
      refine pm_iconst (pc := 13) (-1 : Int32) (by decide) dX10_longest_13 ?_
      refine pm_icmp_eq (pc := 14) 32 dX10_longest_14 (by decide) (fun hc6 => ?_) (fun hc6 => ?_)
      · rw [if_pos hc6] at hf
        refine pm_iload_n (pc := 32) 2 dX10_longest_32 rfl rfl ?_
        refine pm_istore_n (pc := 33) [(1, .int v2), (0, .ref v0), (2, .int v2)] dX10_longest_33 rfl (by decide) rfl ?_
        refine pm_iinc (pc := 34) 2 (v2 + (1 : Int32)) [(2, .int (v2 + (1 : Int32))), (1, .int v2), (0, .ref v0)] dX10_longest_34 rfl rfl (by decide) rfl ?_
        refine pm_goto (pc := 37) 4 dX10_longest_37 (by decide) ?_
        refine pm_lv [(0, .ref v0), (1, .int v2), (2, .int (v2 + (1 : Int32)))] [2, 1, 0] rfl ?_
        exact ih v2 (v2 + (1 : Int32)) σ hf
      · rw [if_neg hc6] at hf
        refine pm_aload_n (pc := 17) 0 dX10_longest_17 rfl rfl h0.pos ?_
        refine pm_getT (pc := 18) (k := 0) pm_cl10 flX10_9 (by decide) rfl h0 dX10_longest_18 (fun hr1 => ?_)
        refine pm_iload_n (pc := 21) 2 dX10_longest_21 rfl rfl ?_
        obtain ⟨hb2, hf⟩ := pm_gd hf
        refine pm_iald (pc := 22) hr1 (pm_ib_in hb2) dX10_longest_22 ?_
        refine pm_aload_n (pc := 23) 0 dX10_longest_23 rfl rfl h0.pos ?_
        refine pm_getT (pc := 24) (k := 0) pm_cl10 flX10_9 (by decide) rfl h0 dX10_longest_24 (fun hr3 => ?_)
        refine pm_iload_n (pc := 27) 1 dX10_longest_27 rfl rfl ?_
        obtain ⟨hb4, hf⟩ := pm_gd hf
        refine pm_iald (pc := 28) hr3 (pm_ib_in hb4) dX10_longest_28 ?_
        refine pm_icmp_le (pc := 29) 34 dX10_longest_29 (by decide) (fun hc5 => ?_) (fun hc5 => ?_)
        · rw [if_pos hc5] at hf
          refine pm_iinc (pc := 34) 2 (v2 + (1 : Int32)) [(2, .int (v2 + (1 : Int32))), (0, .ref v0), (1, .int v1)] dX10_longest_34 rfl rfl (by decide) rfl ?_
          refine pm_goto (pc := 37) 4 dX10_longest_37 (by decide) ?_
          refine pm_lv [(0, .ref v0), (1, .int v1), (2, .int (v2 + (1 : Int32)))] [1, 2, 0] rfl ?_
          exact ih v1 (v2 + (1 : Int32)) σ hf
        · rw [if_neg hc5] at hf
          refine pm_iload_n (pc := 32) 2 dX10_longest_32 rfl rfl ?_
          refine pm_istore_n (pc := 33) [(1, .int v2), (0, .ref v0), (2, .int v2)] dX10_longest_33 rfl (by decide) rfl ?_
          refine pm_iinc (pc := 34) 2 (v2 + (1 : Int32)) [(2, .int (v2 + (1 : Int32))), (1, .int v2), (0, .ref v0)] dX10_longest_34 rfl rfl (by decide) rfl ?_
          refine pm_goto (pc := 37) 4 dX10_longest_37 (by decide) ?_
          refine pm_lv [(0, .ref v0), (1, .int v2), (2, .int (v2 + (1 : Int32)))] [2, 1, 0] rfl ?_
          exact ih v2 (v2 + (1 : Int32)) σ hf
def fX10_longest (S : pm_S) (a0 : Nat) (σ : pm_H) : Option (Int32 × pm_H) :=
  fX10_longest_L4 S a0 (fun w8 s9 => some (w8, s9)) pm_fuel (-1 : Int32) (0 : Int32) σ
set_option maxRecDepth 100000 in
set_option maxHeartbeats 4000000 in
theorem KX10_longest (l : Launch) {S : pm_S} {p : Int32 × pm_H} {a0 : Nat} {σ : pm_H} (h0 : pm_is S a0 13) (hf : fX10_longest S a0 σ = some p) : pm_M l yX10_longest cX10_longest 3 (some .int) false 0 [.ref a0] S σ (pm_ri S p) := by
  refine pm_M.of (by decide +kernel) (Nat.le_of_ble_eq_true rfl) ?_
  show pm_E l yX10_longest cX10_longest 3 (some .int) false 0 S (pm_ri S p) 0 [(0, .ref a0)] [] S σ
  rw [fX10_longest] at hf
  refine pm_iconst (pc := 0) (-1 : Int32) (by decide) dX10_longest_0 ?_
  refine pm_istore_n (pc := 1) [(1, .int (-1 : Int32)), (0, .ref a0)] dX10_longest_1 rfl (by decide) rfl ?_
  refine pm_iconst (pc := 2) (0 : Int32) (by decide) dX10_longest_2 ?_
  refine pm_istore_n (pc := 3) [(2, .int (0 : Int32)), (1, .int (-1 : Int32)), (0, .ref a0)] dX10_longest_3 rfl (by decide) rfl ?_
  refine pm_lv [(0, .ref a0), (1, .int (-1 : Int32)), (2, .int (0 : Int32))] [2, 1, 0] rfl ?_
  refine fX10_longest_L4_E l h0 (fun w8 s9 hf => ?_) pm_fuel (-1 : Int32) (0 : Int32) σ hf
  refine pm_iload_n (pc := 40) 0 dX10_longest_40 rfl rfl ?_
  exact pm_iret rfl dX10_longest_41 (pm_ri_e hf)
def fX10_pairOfLike_L17 (S : pm_S) (v0 : Nat) (v1 : Int32) (v3 : Int32) (kx : Int32 → pm_H → Option (Int32 × pm_H)) : Nat → Int32 → Int32 → pm_H → Option (Int32 × pm_H)
  | 0, _, _, _ => none
  | n + 1, v2, v4, σ => (if (σ.1 v0 4) ≤ v4 then kx v2 σ else (if pm_ib v3 (pm_len S (σ.2 v0 0)) = true then (if pm_ib v4 (pm_len S (σ.2 v0 0)) = true then (if (σ.1 (σ.2 v0 0) (v3).toNatClampNeg) = (σ.1 (σ.2 v0 0) (v4).toNatClampNeg) then (if v2 = v1 then some ((((100 : Int32) * v3) + v4), σ) else fX10_pairOfLike_L17 S v0 v1 v3 kx n (v2 + (1 : Int32)) (v4 + (1 : Int32)) σ) else fX10_pairOfLike_L17 S v0 v1 v3 kx n v2 (v4 + (1 : Int32)) σ) else none) else none))
set_option maxRecDepth 100000 in
set_option maxHeartbeats 4000000 in
theorem fX10_pairOfLike_L17_E (l : Launch) {S : pm_S} {p : Int32 × pm_H} {v0 : Nat} {v1 : Int32} {v3 : Int32} {kx : Int32 → pm_H → Option (Int32 × pm_H)} (h0 : pm_is S v0 13) (hkx : ∀ w2 sw, kx w2 sw = some p → pm_E l yX10_pairOfLike cX10_pairOfLike 5 (some .int) false 0 S (pm_ri S p) 64 [(0, .ref v0), (1, .int v1), (2, .int w2), (3, .int v3)] [] S sw) : ∀ (n : Nat) (v2 : Int32) (v4 : Int32) (σ : pm_H), fX10_pairOfLike_L17 S v0 v1 v3 kx n v2 v4 σ = some p → pm_E l yX10_pairOfLike cX10_pairOfLike 5 (some .int) false 0 S (pm_ri S p) 17 [(0, .ref v0), (1, .int v1), (2, .int v2), (3, .int v3), (4, .int v4)] [] S σ := by
  intro n
  induction n with
  | zero => intro v2 v4 σ hf; cases hf
  | succ n ih =>
    intro v2 v4 σ hf
    rw [fX10_pairOfLike_L17] at hf
    refine pm_iload (pc := 17) 4 dX10_pairOfLike_17 rfl ?_
    refine pm_aload_n (pc := 19) 0 dX10_pairOfLike_19 rfl rfl h0.pos ?_
    refine pm_getI (pc := 20) (k := 4) pm_cl10 flX10_24 (by decide) rfl h0 dX10_pairOfLike_20 ?_
    refine pm_icmp_ge (pc := 23) 64 dX10_pairOfLike_23 (by decide) (fun hc8 => ?_) (fun hc8 => ?_)
    · rw [if_pos hc8] at hf
      refine pm_lv [(0, .ref v0), (1, .int v1), (2, .int v2), (3, .int v3)] [0, 1, 2, 3] rfl ?_
      exact hkx v2 σ hf
    · rw [if_neg hc8] at hf
      refine pm_aload_n (pc := 26) 0 dX10_pairOfLike_26 rfl rfl h0.pos ?_
      refine pm_getT (pc := 27) (k := 0) pm_cl10 flX10_9 (by decide) rfl h0 dX10_pairOfLike_27 (fun hr2 => ?_)
      refine pm_iload_n (pc := 30) 3 dX10_pairOfLike_30 rfl rfl ?_
      obtain ⟨hb3, hf⟩ := pm_gd hf
      refine pm_iald (pc := 31) hr2 (pm_ib_in hb3) dX10_pairOfLike_31 ?_
      refine pm_aload_n (pc := 32) 0 dX10_pairOfLike_32 rfl rfl h0.pos ?_
      refine pm_getT (pc := 33) (k := 0) pm_cl10 flX10_9 (by decide) rfl h0 dX10_pairOfLike_33 (fun hr4 => ?_)
      refine pm_iload (pc := 36) 4 dX10_pairOfLike_36 rfl ?_
      obtain ⟨hb5, hf⟩ := pm_gd hf
      refine pm_iald (pc := 38) hr4 (pm_ib_in hb5) dX10_pairOfLike_38 ?_
      refine pm_icmp_ne (pc := 39) 58 dX10_pairOfLike_39 (by decide) (fun hc7 => ?_) (fun hc7 => ?_)
      · rw [if_pos hc7] at hf
        refine pm_iload_n (pc := 42) 2 dX10_pairOfLike_42 rfl rfl ?_
        refine pm_iload_n (pc := 43) 1 dX10_pairOfLike_43 rfl rfl ?_
        refine pm_icmp_ne (pc := 44) 55 dX10_pairOfLike_44 (by decide) (fun hc6 => ?_) (fun hc6 => ?_)
        · rw [if_pos hc6] at hf
          refine pm_bipush (pc := 47) (100 : Int32) (by decide) dX10_pairOfLike_47 ?_
          refine pm_iload_n (pc := 49) 3 dX10_pairOfLike_49 rfl rfl ?_
          refine pm_imul (pc := 50) dX10_pairOfLike_50 ?_
          refine pm_iload (pc := 51) 4 dX10_pairOfLike_51 rfl ?_
          refine pm_iadd (pc := 53) dX10_pairOfLike_53 ?_
          exact pm_iret rfl dX10_pairOfLike_54 (pm_ri_e hf)
        · rw [if_neg hc6] at hf
          refine pm_iinc (pc := 55) 2 (v2 + (1 : Int32)) [(2, .int (v2 + (1 : Int32))), (0, .ref v0), (1, .int v1), (3, .int v3), (4, .int v4)] dX10_pairOfLike_55 rfl rfl (by decide) rfl ?_
          refine pm_iinc (pc := 58) 4 (v4 + (1 : Int32)) [(4, .int (v4 + (1 : Int32))), (2, .int (v2 + (1 : Int32))), (0, .ref v0), (1, .int v1), (3, .int v3)] dX10_pairOfLike_58 rfl rfl (by decide) rfl ?_
          refine pm_goto (pc := 61) 17 dX10_pairOfLike_61 (by decide) ?_
          refine pm_lv [(0, .ref v0), (1, .int v1), (2, .int (v2 + (1 : Int32))), (3, .int v3), (4, .int (v4 + (1 : Int32)))] [2, 3, 1, 4, 0] rfl ?_
          exact ih (v2 + (1 : Int32)) (v4 + (1 : Int32)) σ hf
      · rw [if_neg hc7] at hf
        refine pm_iinc (pc := 58) 4 (v4 + (1 : Int32)) [(4, .int (v4 + (1 : Int32))), (0, .ref v0), (1, .int v1), (2, .int v2), (3, .int v3)] dX10_pairOfLike_58 rfl rfl (by decide) rfl ?_
        refine pm_goto (pc := 61) 17 dX10_pairOfLike_61 (by decide) ?_
        refine pm_lv [(0, .ref v0), (1, .int v1), (2, .int v2), (3, .int v3), (4, .int (v4 + (1 : Int32)))] [1, 2, 3, 4, 0] rfl ?_
        exact ih v2 (v4 + (1 : Int32)) σ hf
def fX10_pairOfLike_L4 (S : pm_S) (v0 : Nat) (v1 : Int32) (kx : Int32 → pm_H → Option (Int32 × pm_H)) : Nat → Int32 → Int32 → pm_H → Option (Int32 × pm_H)
  | 0, _, _, _ => none
  | n + 1, v2, v3, σ => (if (σ.1 v0 4) ≤ v3 then kx v2 σ else pm_let (v3 + (1 : Int32)) fun x1 => fX10_pairOfLike_L17 S v0 v1 v3 (fun w9 s10 => fX10_pairOfLike_L4 S v0 v1 kx n w9 (v3 + (1 : Int32)) s10) pm_fuel v2 x1 σ)
set_option maxRecDepth 100000 in
set_option maxHeartbeats 4000000 in
theorem fX10_pairOfLike_L4_E (l : Launch) {S : pm_S} {p : Int32 × pm_H} {v0 : Nat} {v1 : Int32} {kx : Int32 → pm_H → Option (Int32 × pm_H)} (h0 : pm_is S v0 13) (hkx : ∀ w2 sw, kx w2 sw = some p → pm_E l yX10_pairOfLike cX10_pairOfLike 5 (some .int) false 0 S (pm_ri S p) 70 [(1, .int v1), (2, .int w2)] [] S sw) : ∀ (n : Nat) (v2 : Int32) (v3 : Int32) (σ : pm_H), fX10_pairOfLike_L4 S v0 v1 kx n v2 v3 σ = some p → pm_E l yX10_pairOfLike cX10_pairOfLike 5 (some .int) false 0 S (pm_ri S p) 4 [(0, .ref v0), (1, .int v1), (2, .int v2), (3, .int v3)] [] S σ := by
  intro n
  induction n with
  | zero => intro v2 v3 σ hf; cases hf
  | succ n ih =>
    intro v2 v3 σ hf
    rw [fX10_pairOfLike_L4] at hf
    refine pm_iload_n (pc := 4) 3 dX10_pairOfLike_4 rfl rfl ?_
    refine pm_aload_n (pc := 5) 0 dX10_pairOfLike_5 rfl rfl h0.pos ?_
    refine pm_getI (pc := 6) (k := 4) pm_cl10 flX10_24 (by decide) rfl h0 dX10_pairOfLike_6 ?_
    refine pm_icmp_ge (pc := 9) 70 dX10_pairOfLike_9 (by decide) (fun hc11 => ?_) (fun hc11 => ?_)
    · rw [if_pos hc11] at hf
      refine pm_lv [(1, .int v1), (2, .int v2)] [1, 2] rfl ?_
      exact hkx v2 σ hf
    · rw [if_neg hc11] at hf
      refine pm_iload_n (pc := 12) 3 dX10_pairOfLike_12 rfl rfl ?_
      refine pm_iconst (pc := 13) (1 : Int32) (by decide) dX10_pairOfLike_13 ?_
      refine pm_iadd (pc := 14) dX10_pairOfLike_14 ?_
      obtain ⟨x1, ex1, hf⟩ := pm_let_e hf
      refine pm_nmi ex1 ?_
      refine pm_istore (pc := 15) [(4, .int x1), (0, .ref v0), (1, .int v1), (2, .int v2), (3, .int v3)] dX10_pairOfLike_15 (by decide) rfl ?_
      refine pm_lv [(0, .ref v0), (1, .int v1), (2, .int v2), (3, .int v3), (4, .int x1)] [1, 2, 3, 4, 0] rfl ?_
      refine fX10_pairOfLike_L17_E l h0 (fun w9 s10 hf => ?_) pm_fuel v2 x1 σ hf
      refine pm_iinc (pc := 64) 3 (v3 + (1 : Int32)) [(3, .int (v3 + (1 : Int32))), (0, .ref v0), (1, .int v1), (2, .int w9)] dX10_pairOfLike_64 rfl rfl (by decide) rfl ?_
      refine pm_goto (pc := 67) 4 dX10_pairOfLike_67 (by decide) ?_
      refine pm_lv [(0, .ref v0), (1, .int v1), (2, .int w9), (3, .int (v3 + (1 : Int32)))] [1, 2, 3, 0] rfl ?_
      exact ih w9 (v3 + (1 : Int32)) s10 hf
def fX10_pairOfLike (S : pm_S) (a0 : Nat) (a1 : Int32) (σ : pm_H) : Option (Int32 × pm_H) :=
  fX10_pairOfLike_L4 S a0 a1 (fun w12 s13 => (if a1 = (-1 : Int32) then some (w12, s13) else some ((-1 : Int32), s13))) pm_fuel (0 : Int32) (0 : Int32) σ
set_option maxRecDepth 100000 in
set_option maxHeartbeats 4000000 in
theorem KX10_pairOfLike (l : Launch) {S : pm_S} {p : Int32 × pm_H} {a0 : Nat} {a1 : Int32} {σ : pm_H} (h0 : pm_is S a0 13) (hf : fX10_pairOfLike S a0 a1 σ = some p) : pm_M l yX10_pairOfLike cX10_pairOfLike 5 (some .int) false 0 [.ref a0, .int a1] S σ (pm_ri S p) := by
  refine pm_M.of (by decide +kernel) (Nat.le_of_ble_eq_true rfl) ?_
  show pm_E l yX10_pairOfLike cX10_pairOfLike 5 (some .int) false 0 S (pm_ri S p) 0 [(0, .ref a0), (1, .int a1)] [] S σ
  rw [fX10_pairOfLike] at hf
  refine pm_iconst (pc := 0) (0 : Int32) (by decide) dX10_pairOfLike_0 ?_
  refine pm_istore_n (pc := 1) [(2, .int (0 : Int32)), (0, .ref a0), (1, .int a1)] dX10_pairOfLike_1 rfl (by decide) rfl ?_
  refine pm_iconst (pc := 2) (0 : Int32) (by decide) dX10_pairOfLike_2 ?_
  refine pm_istore_n (pc := 3) [(3, .int (0 : Int32)), (2, .int (0 : Int32)), (0, .ref a0), (1, .int a1)] dX10_pairOfLike_3 rfl (by decide) rfl ?_
  refine pm_lv [(0, .ref a0), (1, .int a1), (2, .int (0 : Int32)), (3, .int (0 : Int32))] [2, 3, 1, 0] rfl ?_
  refine fX10_pairOfLike_L4_E l h0 (fun w12 s13 hf => ?_) pm_fuel (0 : Int32) (0 : Int32) σ hf
  refine pm_iload_n (pc := 70) 0 dX10_pairOfLike_70 rfl rfl ?_
  refine pm_iconst (pc := 71) (-1 : Int32) (by decide) dX10_pairOfLike_71 ?_
  refine pm_icmp_ne (pc := 72) 79 dX10_pairOfLike_72 (by decide) (fun hc14 => ?_) (fun hc14 => ?_)
  · rw [if_pos hc14] at hf
    refine pm_iload_n (pc := 75) 1 dX10_pairOfLike_75 rfl rfl ?_
    refine pm_goto (pc := 76) 80 dX10_pairOfLike_76 (by decide) ?_
    exact pm_iret rfl dX10_pairOfLike_80 (pm_ri_e hf)
  · rw [if_neg hc14] at hf
    refine pm_iconst (pc := 79) (-1 : Int32) (by decide) dX10_pairOfLike_79 ?_
    exact pm_iret rfl dX10_pairOfLike_80 (pm_ri_e hf)
