def fX12_in (S : pm_S) (a0 : Int64) (a2 : Int64) (a4 : Int64) (σ : pm_H) : Option (Int32 × pm_H) :=
  (if (lg_cmp a0 a2) < 0 then some ((0 : Int32), σ) else (if 0 < (lg_cmp a0 a4) then some ((0 : Int32), σ) else some ((1 : Int32), σ)))
set_option maxRecDepth 100000 in
set_option maxHeartbeats 4000000 in
theorem KX12_in (l : Launch) {S : pm_S} {p : Int32 × pm_H} {a0 : Int64} {a2 : Int64} {a4 : Int64} {σ : pm_H}  (hf : fX12_in S a0 a2 a4 σ = some p) : pm_M l yX12_in cX12_in 6 (some .boolean) false 0 [.long a0, .long a2, .long a4] S σ (pm_ri S p) := by
  refine pm_M.of (by decide +kernel) (Nat.le_of_ble_eq_true rfl) ?_
  show pm_E l yX12_in cX12_in 6 (some .boolean) false 0 S (pm_ri S p) 0 [(0, .long a0), (2, .long a2), (4, .long a4)] [] S σ
  rw [fX12_in] at hf
  refine pm_lload_n (pc := 0) 0 dX12_in_0 rfl rfl ?_
  refine pm_lload_n (pc := 1) 1 dX12_in_1 rfl rfl ?_
  refine pm_lcmp (pc := 2) dX12_in_2 ?_
  refine pm_if_lt (pc := 3) 17 dX12_in_3 (by decide) (fun hc2 => ?_) (fun hc2 => ?_)
  · rw [if_pos hc2] at hf
    refine pm_iconst (pc := 17) (0 : Int32) (by decide) dX12_in_17 ?_
    exact pm_zret rfl (by decide) dX12_in_18 (pm_ri_e hf)
  · rw [if_neg hc2] at hf
    refine pm_lload_n (pc := 6) 0 dX12_in_6 rfl rfl ?_
    refine pm_lload (pc := 7) 2 dX12_in_7 rfl ?_
    refine pm_lcmp (pc := 9) dX12_in_9 ?_
    refine pm_if_gt (pc := 10) 17 dX12_in_10 (by decide) (fun hc1 => ?_) (fun hc1 => ?_)
    · rw [if_pos hc1] at hf
      refine pm_iconst (pc := 17) (0 : Int32) (by decide) dX12_in_17 ?_
      exact pm_zret rfl (by decide) dX12_in_18 (pm_ri_e hf)
    · rw [if_neg hc1] at hf
      refine pm_iconst (pc := 13) (1 : Int32) (by decide) dX12_in_13 ?_
      refine pm_goto (pc := 14) 18 dX12_in_14 (by decide) ?_
      exact pm_zret rfl (by decide) dX12_in_18 (pm_ri_e hf)
def fX12_has (S : pm_S) (a0 : Int32) (a1 : Int32) (σ : pm_H) : Option (Int32 × pm_H) :=
  (if ((a0 >>> (a1 &&& 31)) &&& (1 : Int32)) = (1 : Int32) then some ((1 : Int32), σ) else some ((0 : Int32), σ))
set_option maxRecDepth 100000 in
set_option maxHeartbeats 4000000 in
theorem KX12_has (l : Launch) {S : pm_S} {p : Int32 × pm_H} {a0 : Int32} {a1 : Int32} {σ : pm_H}  (hf : fX12_has S a0 a1 σ = some p) : pm_M l yX12_has cX12_has 2 (some .boolean) false 0 [.int a0, .int a1] S σ (pm_ri S p) := by
  refine pm_M.of (by decide +kernel) (Nat.le_of_ble_eq_true rfl) ?_
  show pm_E l yX12_has cX12_has 2 (some .boolean) false 0 S (pm_ri S p) 0 [(0, .int a0), (1, .int a1)] [] S σ
  rw [fX12_has] at hf
  refine pm_iload_n (pc := 0) 0 dX12_has_0 rfl rfl ?_
  refine pm_iload_n (pc := 1) 1 dX12_has_1 rfl rfl ?_
  refine pm_ishr (pc := 2) dX12_has_2 ?_
  refine pm_iconst (pc := 3) (1 : Int32) (by decide) dX12_has_3 ?_
  refine pm_iand (pc := 4) dX12_has_4 ?_
  refine pm_iconst (pc := 5) (1 : Int32) (by decide) dX12_has_5 ?_
  refine pm_icmp_ne (pc := 6) 13 dX12_has_6 (by decide) (fun hc1 => ?_) (fun hc1 => ?_)
  · rw [if_pos hc1] at hf
    refine pm_iconst (pc := 9) (1 : Int32) (by decide) dX12_has_9 ?_
    refine pm_goto (pc := 10) 14 dX12_has_10 (by decide) ?_
    exact pm_zret rfl (by decide) dX12_has_14 (pm_ri_e hf)
  · rw [if_neg hc1] at hf
    refine pm_iconst (pc := 13) (0 : Int32) (by decide) dX12_has_13 ?_
    exact pm_zret rfl (by decide) dX12_has_14 (pm_ri_e hf)
def fX12_size (S : pm_S) (a0 : Int32) (σ : pm_H) : Option (Int32 × pm_H) :=
  (if 0 ≤ a0 then some (a0, σ) else some ((-a0), σ))
set_option maxRecDepth 100000 in
set_option maxHeartbeats 4000000 in
theorem KX12_size (l : Launch) {S : pm_S} {p : Int32 × pm_H} {a0 : Int32} {σ : pm_H}  (hf : fX12_size S a0 σ = some p) : pm_M l yX12_size cX12_size 1 (some .int) false 0 [.int a0] S σ (pm_ri S p) := by
  refine pm_M.of (by decide +kernel) (Nat.le_of_ble_eq_true rfl) ?_
  show pm_E l yX12_size cX12_size 1 (some .int) false 0 S (pm_ri S p) 0 [(0, .int a0)] [] S σ
  rw [fX12_size] at hf
  refine pm_iload_n (pc := 0) 0 dX12_size_0 rfl rfl ?_
  refine pm_if_ge (pc := 1) 9 dX12_size_1 (by decide) (fun hc1 => ?_) (fun hc1 => ?_)
  · rw [if_pos hc1] at hf
    refine pm_iload_n (pc := 9) 0 dX12_size_9 rfl rfl ?_
    exact pm_iret rfl dX12_size_10 (pm_ri_e hf)
  · rw [if_neg hc1] at hf
    refine pm_iload_n (pc := 4) 0 dX12_size_4 rfl rfl ?_
    refine pm_ineg (pc := 5) dX12_size_5 ?_
    refine pm_goto (pc := 6) 10 dX12_size_6 (by decide) ?_
    exact pm_iret rfl dX12_size_10 (pm_ri_e hf)
def fX12_isRealm (S : pm_S) (a0 : Nat) (σ : pm_H) : Option (Int32 × pm_H) :=
  (if (σ.1 a0 0) ≤ 0 then some ((0 : Int32), σ) else some ((1 : Int32), σ))
set_option maxRecDepth 100000 in
set_option maxHeartbeats 4000000 in
theorem KX12_isRealm (l : Launch) {S : pm_S} {p : Int32 × pm_H} {a0 : Nat} {σ : pm_H} (h0 : pm_is S a0 15) (hf : fX12_isRealm S a0 σ = some p) : pm_M l yX12_isRealm cX12_isRealm 1 (some .boolean) false 0 [.ref a0] S σ (pm_ri S p) := by
  refine pm_M.of (by decide +kernel) (Nat.le_of_ble_eq_true rfl) ?_
  show pm_E l yX12_isRealm cX12_isRealm 1 (some .boolean) false 0 S (pm_ri S p) 0 [(0, .ref a0)] [] S σ
  rw [fX12_isRealm] at hf
  refine pm_aload_n (pc := 0) 0 dX12_isRealm_0 rfl rfl h0.pos ?_
  refine pm_getI (pc := 1) (k := 0) pm_cl12 flX12_81 (by decide) rfl h0 dX12_isRealm_1 ?_
  refine pm_if_le (pc := 4) 11 dX12_isRealm_4 (by decide) (fun hc1 => ?_) (fun hc1 => ?_)
  · rw [if_pos hc1] at hf
    refine pm_iconst (pc := 11) (0 : Int32) (by decide) dX12_isRealm_11 ?_
    exact pm_zret rfl (by decide) dX12_isRealm_12 (pm_ri_e hf)
  · rw [if_neg hc1] at hf
    refine pm_iconst (pc := 7) (1 : Int32) (by decide) dX12_isRealm_7 ?_
    refine pm_goto (pc := 8) 12 dX12_isRealm_8 (by decide) ?_
    exact pm_zret rfl (by decide) dX12_isRealm_12 (pm_ri_e hf)
def fX12_isOffice (S : pm_S) (a0 : Nat) (a1 : Int32) (σ : pm_H) : Option (Int32 × pm_H) :=
  Option.bind (fX12_in S a1.toInt64 (0 : Int64) ((σ.1 a0 4) - (1 : Int32)).toInt64 σ) fun u1 => (if pm_zb u1.1 = true then some (u1.1, u1.2) else none)
set_option maxRecDepth 100000 in
set_option maxHeartbeats 4000000 in
theorem KX12_isOffice (l : Launch) {S : pm_S} {p : Int32 × pm_H} {a0 : Nat} {a1 : Int32} {σ : pm_H} (h0 : pm_is S a0 15) (hf : fX12_isOffice S a0 a1 σ = some p) : pm_M l yX12_isOffice cX12_isOffice 2 (some .boolean) false 1 [.ref a0, .int a1] S σ (pm_ri S p) := by
  refine pm_M.of (by decide +kernel) (Nat.le_of_ble_eq_true rfl) ?_
  show pm_E l yX12_isOffice cX12_isOffice 2 (some .boolean) false 1 S (pm_ri S p) 0 [(0, .ref a0), (1, .int a1)] [] S σ
  rw [fX12_isOffice] at hf
  refine pm_iload_n (pc := 0) 1 dX12_isOffice_0 rfl rfl ?_
  refine pm_i2l (pc := 1) dX12_isOffice_1 ?_
  refine pm_lconst (pc := 2) (0 : Int64) (by decide) dX12_isOffice_2 ?_
  refine pm_aload_n (pc := 3) 0 dX12_isOffice_3 rfl rfl h0.pos ?_
  refine pm_getI (pc := 4) (k := 4) pm_cl12 flX12_84 (by decide) rfl h0 dX12_isOffice_4 ?_
  refine pm_iconst (pc := 7) (1 : Int32) (by decide) dX12_isOffice_7 ?_
  refine pm_isub (pc := 8) dX12_isOffice_8 ?_
  refine pm_i2l (pc := 9) dX12_isOffice_9 ?_
  obtain ⟨u1, hu1, hf⟩ := pm_bind_e hf
  refine pm_cSi (pc := 10) (as := [.long a1.toInt64, .long (0 : Int64), .long ((σ.1 a0 4) - (1 : Int32)).toInt64]) (st := []) msX12_87 (KX12_in l  hu1) (by decide) rfl rfl (Nat.le_of_ble_eq_true rfl) rfl dX12_isOffice_10 ?_
  obtain ⟨hz2, hf⟩ := pm_gd hf
  exact pm_zret rfl (pm_zb_or hz2) dX12_isOffice_13 (pm_ri_e hf)
def fX12_isPerson (S : pm_S) (a0 : Nat) (a1 : Int32) (σ : pm_H) : Option (Int32 × pm_H) :=
  Option.bind (fX12_in S a1.toInt64 (0 : Int64) ((σ.1 a0 7) - (1 : Int32)).toInt64 σ) fun u1 => (if pm_zb u1.1 = true then some (u1.1, u1.2) else none)
set_option maxRecDepth 100000 in
set_option maxHeartbeats 4000000 in
theorem KX12_isPerson (l : Launch) {S : pm_S} {p : Int32 × pm_H} {a0 : Nat} {a1 : Int32} {σ : pm_H} (h0 : pm_is S a0 15) (hf : fX12_isPerson S a0 a1 σ = some p) : pm_M l yX12_isPerson cX12_isPerson 2 (some .boolean) false 1 [.ref a0, .int a1] S σ (pm_ri S p) := by
  refine pm_M.of (by decide +kernel) (Nat.le_of_ble_eq_true rfl) ?_
  show pm_E l yX12_isPerson cX12_isPerson 2 (some .boolean) false 1 S (pm_ri S p) 0 [(0, .ref a0), (1, .int a1)] [] S σ
  rw [fX12_isPerson] at hf
  refine pm_iload_n (pc := 0) 1 dX12_isPerson_0 rfl rfl ?_
  refine pm_i2l (pc := 1) dX12_isPerson_1 ?_
  refine pm_lconst (pc := 2) (0 : Int64) (by decide) dX12_isPerson_2 ?_
  refine pm_aload_n (pc := 3) 0 dX12_isPerson_3 rfl rfl h0.pos ?_
  refine pm_getI (pc := 4) (k := 7) pm_cl12 flX12_91 (by decide) rfl h0 dX12_isPerson_4 ?_
  refine pm_iconst (pc := 7) (1 : Int32) (by decide) dX12_isPerson_7 ?_
  refine pm_isub (pc := 8) dX12_isPerson_8 ?_
  refine pm_i2l (pc := 9) dX12_isPerson_9 ?_
  obtain ⟨u1, hu1, hf⟩ := pm_bind_e hf
  refine pm_cSi (pc := 10) (as := [.long a1.toInt64, .long (0 : Int64), .long ((σ.1 a0 7) - (1 : Int32)).toInt64]) (st := []) msX12_87 (KX12_in l  hu1) (by decide) rfl rfl (Nat.le_of_ble_eq_true rfl) rfl dX12_isPerson_10 ?_
  obtain ⟨hz2, hf⟩ := pm_gd hf
  exact pm_zret rfl (pm_zb_or hz2) dX12_isPerson_13 (pm_ri_e hf)
def fX12_feed (S : pm_S) (a0 : Nat) (a1 : Int32) (σ : pm_H) : Option (Int32 × pm_H) :=
  Option.bind (fX12_in S a1.toInt64 (0 : Int64) (255 : Int64) σ) fun u1 => (if u1.1 = 0 then some ((-1000000002 : Int32), u1.2) else (if (u1.2.1 a0 14) = (240 : Int32) then some ((-1000000004 : Int32), u1.2) else (if pm_ib (u1.2.1 a0 14) (pm_len S (u1.2.2 a0 13)) = true then pm_let (pm_si u1.2 (u1.2.2 a0 13) ((u1.2.1 a0 14)).toNatClampNeg a1) fun s4 => pm_let (pm_si s4 a0 14 ((s4.1 a0 14) + (1 : Int32))) fun s5 => some ((s5.1 a0 14), s5) else none)))
set_option maxRecDepth 100000 in
set_option maxHeartbeats 4000000 in
theorem KX12_feed (l : Launch) {S : pm_S} {p : Int32 × pm_H} {a0 : Nat} {a1 : Int32} {σ : pm_H} (h0 : pm_is S a0 15) (hf : fX12_feed S a0 a1 σ = some p) : pm_M l yX12_feed cX12_feed 2 (some .int) false 1 [.ref a0, .int a1] S σ (pm_ri S p) := by
  refine pm_M.of (by decide +kernel) (Nat.le_of_ble_eq_true rfl) ?_
  show pm_E l yX12_feed cX12_feed 2 (some .int) false 1 S (pm_ri S p) 0 [(0, .ref a0), (1, .int a1)] [] S σ
  rw [fX12_feed] at hf
  refine pm_iload_n (pc := 0) 1 dX12_feed_0 rfl rfl ?_
  refine pm_i2l (pc := 1) dX12_feed_1 ?_
  refine pm_lconst (pc := 2) (0 : Int64) (by decide) dX12_feed_2 ?_
  refine pm_ldc2 (pc := 3) klX12_94 dX12_feed_3 ?_
  obtain ⟨u1, hu1, hf⟩ := pm_bind_e hf
  refine pm_cSi (pc := 6) (as := [.long a1.toInt64, .long (0 : Int64), .long (255 : Int64)]) (st := []) msX12_87 (KX12_in l  hu1) (by decide) rfl rfl (Nat.le_of_ble_eq_true rfl) rfl dX12_feed_6 ?_
  refine pm_if_ne (pc := 9) 15 dX12_feed_9 (by decide) (fun hc7 => ?_) (fun hc7 => ?_)
  · rw [if_pos hc7] at hf
    refine pm_ldc (pc := 12) kcX12_96 dX12_feed_12 ?_
    exact pm_iret rfl dX12_feed_14 (pm_ri_e hf)
  · rw [if_neg hc7] at hf
    refine pm_aload_n (pc := 15) 0 dX12_feed_15 rfl rfl h0.pos ?_
    refine pm_getI (pc := 16) (k := 14) pm_cl12 flX12_97 (by decide) rfl h0 dX12_feed_16 ?_
    refine pm_sipush (pc := 19) (240 : Int32) (by decide) dX12_feed_19 ?_
    refine pm_icmp_ne (pc := 22) 28 dX12_feed_22 (by decide) (fun hc6 => ?_) (fun hc6 => ?_)
    · rw [if_pos hc6] at hf
      refine pm_ldc (pc := 25) kcX12_100 dX12_feed_25 ?_
      exact pm_iret rfl dX12_feed_27 (pm_ri_e hf)
    · rw [if_neg hc6] at hf
      refine pm_aload_n (pc := 28) 0 dX12_feed_28 rfl rfl h0.pos ?_
      refine pm_getT (pc := 29) (k := 13) pm_cl12 flX12_28 (by decide) rfl h0 dX12_feed_29 (fun hr2 => ?_)
      refine pm_aload_n (pc := 32) 0 dX12_feed_32 rfl rfl h0.pos ?_
      refine pm_getI (pc := 33) (k := 14) pm_cl12 flX12_97 (by decide) rfl h0 dX12_feed_33 ?_
      refine pm_iload_n (pc := 36) 1 dX12_feed_36 rfl rfl ?_
      obtain ⟨hb3, hf⟩ := pm_gd hf
      refine pm_iast (pc := 37) hr2 (pm_ib_in hb3) dX12_feed_37 ?_
      obtain ⟨s4, es4, hf⟩ := pm_let_e hf
      refine pm_nmh es4 ?_
      refine pm_aload_n (pc := 38) 0 dX12_feed_38 rfl rfl h0.pos ?_
      refine pm_dup (pc := 39) rfl dX12_feed_39 ?_
      refine pm_getI (pc := 40) (k := 14) pm_cl12 flX12_97 (by decide) rfl h0 dX12_feed_40 ?_
      refine pm_iconst (pc := 43) (1 : Int32) (by decide) dX12_feed_43 ?_
      refine pm_iadd (pc := 44) dX12_feed_44 ?_
      refine pm_putI (pc := 45) (k := 14) pm_cl12 flX12_97 (by decide) rfl rfl rfl h0 dX12_feed_45 ?_
      obtain ⟨s5, es5, hf⟩ := pm_let_e hf
      refine pm_nmh es5 ?_
      refine pm_aload_n (pc := 48) 0 dX12_feed_48 rfl rfl h0.pos ?_
      refine pm_getI (pc := 49) (k := 14) pm_cl12 flX12_97 (by decide) rfl h0 dX12_feed_49 ?_
      exact pm_iret rfl dX12_feed_52 (pm_ri_e hf)
def fX12_here_L0 (S : pm_S) (v0 : Nat) (kx : pm_H → Option (Int32 × pm_H)) : Nat → pm_H → Option (Int32 × pm_H)
  | 0, _ => none
  | n + 1, σ => (if (σ.1 v0 14) ≤ (σ.1 v0 16) then kx σ else (if pm_ib (σ.1 v0 16) (pm_len S (σ.2 v0 13)) = true then (if (σ.1 (σ.2 v0 13) ((σ.1 v0 16)).toNatClampNeg) = (32 : Int32) then pm_let (pm_si σ v0 16 ((σ.1 v0 16) + (1 : Int32))) fun s3 => fX12_here_L0 S v0 kx n s3 else kx σ) else none))
set_option maxRecDepth 100000 in
set_option maxHeartbeats 4000000 in
theorem fX12_here_L0_E (l : Launch) {S : pm_S} {p : Int32 × pm_H} {v0 : Nat} {kx : pm_H → Option (Int32 × pm_H)} (h0 : pm_is S v0 15) (hkx : ∀  sw, kx  sw = some p → pm_E l yX12_here cX12_here 1 (some .int) false 0 S (pm_ri S p) 38 [(0, .ref v0)] [] S sw) : ∀ (n : Nat)  (σ : pm_H), fX12_here_L0 S v0 kx n σ = some p → pm_E l yX12_here cX12_here 1 (some .int) false 0 S (pm_ri S p) 0 [(0, .ref v0)] [] S σ := by
  intro n
  induction n with
  | zero => intro σ hf; cases hf
  | succ n ih =>
    intro σ hf
    rw [fX12_here_L0] at hf
    refine pm_aload_n (pc := 0) 0 dX12_here_0 rfl rfl h0.pos ?_
    refine pm_getI (pc := 1) (k := 16) pm_cl12 flX12_101 (by decide) rfl h0 dX12_here_1 ?_
    refine pm_aload_n (pc := 4) 0 dX12_here_4 rfl rfl h0.pos ?_
    refine pm_getI (pc := 5) (k := 14) pm_cl12 flX12_97 (by decide) rfl h0 dX12_here_5 ?_
    refine pm_icmp_ge (pc := 8) 38 dX12_here_8 (by decide) (fun hc5 => ?_) (fun hc5 => ?_)
    · rw [if_pos hc5] at hf
      refine pm_lv [(0, .ref v0)] [0] rfl ?_
      exact hkx σ hf
    · rw [if_neg hc5] at hf
      refine pm_aload_n (pc := 11) 0 dX12_here_11 rfl rfl h0.pos ?_
      refine pm_getT (pc := 12) (k := 13) pm_cl12 flX12_28 (by decide) rfl h0 dX12_here_12 (fun hr1 => ?_)
      refine pm_aload_n (pc := 15) 0 dX12_here_15 rfl rfl h0.pos ?_
      refine pm_getI (pc := 16) (k := 16) pm_cl12 flX12_101 (by decide) rfl h0 dX12_here_16 ?_
      obtain ⟨hb2, hf⟩ := pm_gd hf
      refine pm_iald (pc := 19) hr1 (pm_ib_in hb2) dX12_here_19 ?_
      refine pm_bipush (pc := 20) (32 : Int32) (by decide) dX12_here_20 ?_
      refine pm_icmp_ne (pc := 22) 38 dX12_here_22 (by decide) (fun hc4 => ?_) (fun hc4 => ?_)
      · rw [if_pos hc4] at hf
        refine pm_aload_n (pc := 25) 0 dX12_here_25 rfl rfl h0.pos ?_
        refine pm_dup (pc := 26) rfl dX12_here_26 ?_
        refine pm_getI (pc := 27) (k := 16) pm_cl12 flX12_101 (by decide) rfl h0 dX12_here_27 ?_
        refine pm_iconst (pc := 30) (1 : Int32) (by decide) dX12_here_30 ?_
        refine pm_iadd (pc := 31) dX12_here_31 ?_
        refine pm_putI (pc := 32) (k := 16) pm_cl12 flX12_101 (by decide) rfl rfl rfl h0 dX12_here_32 ?_
        obtain ⟨s3, es3, hf⟩ := pm_let_e hf
        refine pm_nmh es3 ?_
        refine pm_goto (pc := 35) 0 dX12_here_35 (by decide) ?_
        refine pm_lv [(0, .ref v0)] [0] rfl ?_
        exact ih s3 hf
      · rw [if_neg hc4] at hf
        refine pm_lv [(0, .ref v0)] [0] rfl ?_
        exact hkx σ hf
def fX12_here_J38 (S : pm_S) (v0 : Nat) (σ : pm_H) : Option (Int32 × pm_H) :=
  (if (σ.1 v0 14) ≤ (σ.1 v0 16) then some ((-1 : Int32), σ) else (if pm_ib (σ.1 v0 16) (pm_len S (σ.2 v0 13)) = true then some ((σ.1 (σ.2 v0 13) ((σ.1 v0 16)).toNatClampNeg), σ) else none))
set_option maxRecDepth 100000 in
set_option maxHeartbeats 4000000 in
theorem fX12_here_J38_E (l : Launch) {S : pm_S} {p : Int32 × pm_H} {v0 : Nat} {σ : pm_H} (h0 : pm_is S v0 15) (hf : fX12_here_J38 S v0 σ = some p) : pm_E l yX12_here cX12_here 1 (some .int) false 0 S (pm_ri S p) 38 [(0, .ref v0)] [] S σ := by
  rw [fX12_here_J38] at hf
  refine pm_aload_n (pc := 38) 0 dX12_here_38 rfl rfl h0.pos ?_
  refine pm_getI (pc := 39) (k := 16) pm_cl12 flX12_101 (by decide) rfl h0 dX12_here_39 ?_
  refine pm_aload_n (pc := 42) 0 dX12_here_42 rfl rfl h0.pos ?_
  refine pm_getI (pc := 43) (k := 14) pm_cl12 flX12_97 (by decide) rfl h0 dX12_here_43 ?_
  refine pm_icmp_ge (pc := 46) 61 dX12_here_46 (by decide) (fun hc9 => ?_) (fun hc9 => ?_)
  · rw [if_pos hc9] at hf
    refine pm_iconst (pc := 61) (-1 : Int32) (by decide) dX12_here_61 ?_
    exact pm_iret rfl dX12_here_62 (pm_ri_e hf)
  · rw [if_neg hc9] at hf
    refine pm_aload_n (pc := 49) 0 dX12_here_49 rfl rfl h0.pos ?_
    refine pm_getT (pc := 50) (k := 13) pm_cl12 flX12_28 (by decide) rfl h0 dX12_here_50 (fun hr7 => ?_)
    refine pm_aload_n (pc := 53) 0 dX12_here_53 rfl rfl h0.pos ?_
    refine pm_getI (pc := 54) (k := 16) pm_cl12 flX12_101 (by decide) rfl h0 dX12_here_54 ?_
    obtain ⟨hb8, hf⟩ := pm_gd hf
    refine pm_iald (pc := 57) hr7 (pm_ib_in hb8) dX12_here_57 ?_
    refine pm_goto (pc := 58) 62 dX12_here_58 (by decide) ?_
    exact pm_iret rfl dX12_here_62 (pm_ri_e hf)
def fX12_here (S : pm_S) (a0 : Nat) (σ : pm_H) : Option (Int32 × pm_H) :=
  fX12_here_L0 S a0 (fun s6 => fX12_here_J38 S a0 s6) pm_fuel  σ
set_option maxRecDepth 100000 in
set_option maxHeartbeats 4000000 in
theorem KX12_here (l : Launch) {S : pm_S} {p : Int32 × pm_H} {a0 : Nat} {σ : pm_H} (h0 : pm_is S a0 15) (hf : fX12_here S a0 σ = some p) : pm_M l yX12_here cX12_here 1 (some .int) false 0 [.ref a0] S σ (pm_ri S p) := by
  refine pm_M.of (by decide +kernel) (Nat.le_of_ble_eq_true rfl) ?_
  show pm_E l yX12_here cX12_here 1 (some .int) false 0 S (pm_ri S p) 0 [(0, .ref a0)] [] S σ
  rw [fX12_here] at hf
  refine pm_lv [(0, .ref a0)] [0] rfl ?_
  refine fX12_here_L0_E l h0 (fun s6 hf => ?_) pm_fuel  σ hf
  refine pm_lv [(0, .ref a0)] [0] rfl ?_
  exact fX12_here_J38_E l h0 hf
def fX12_fails (S : pm_S) (a0 : Nat) (a1 : Int32) (a2 : Int32) (σ : pm_H) : Option (Int32 × pm_H) :=
  pm_let (pm_si σ a0 15 a2) fun s1 => some (a1, s1)
set_option maxRecDepth 100000 in
set_option maxHeartbeats 4000000 in
theorem KX12_fails (l : Launch) {S : pm_S} {p : Int32 × pm_H} {a0 : Nat} {a1 : Int32} {a2 : Int32} {σ : pm_H} (h0 : pm_is S a0 15) (hf : fX12_fails S a0 a1 a2 σ = some p) : pm_M l yX12_fails cX12_fails 3 (some .int) false 0 [.ref a0, .int a1, .int a2] S σ (pm_ri S p) := by
  refine pm_M.of (by decide +kernel) (Nat.le_of_ble_eq_true rfl) ?_
  show pm_E l yX12_fails cX12_fails 3 (some .int) false 0 S (pm_ri S p) 0 [(0, .ref a0), (1, .int a1), (2, .int a2)] [] S σ
  rw [fX12_fails] at hf
  refine pm_aload_n (pc := 0) 0 dX12_fails_0 rfl rfl h0.pos ?_
  refine pm_iload_n (pc := 1) 2 dX12_fails_1 rfl rfl ?_
  refine pm_putI (pc := 2) (k := 15) pm_cl12 flX12_31 (by decide) rfl rfl rfl h0 dX12_fails_2 ?_
  obtain ⟨s1, es1, hf⟩ := pm_let_e hf
  refine pm_nmh es1 ?_
  refine pm_iload_n (pc := 5) 1 dX12_fails_5 rfl rfl ?_
  exact pm_iret rfl dX12_fails_6 (pm_ri_e hf)
def fX12_takeNumber_L42 (S : pm_S) (v0 : Nat) (v1 : Int32) (v2 : Int32) (kx : pm_H → Option (Int32 × pm_H)) : Nat → pm_H → Option (Int32 × pm_H)
  | 0, _ => none
  | n + 1, σ => (if (σ.1 v0 14) ≤ (σ.1 v0 16) then kx σ else (if pm_ib (σ.1 v0 16) (pm_len S (σ.2 v0 13)) = true then Option.bind (fX12_in S (σ.1 (σ.2 v0 13) ((σ.1 v0 16)).toNatClampNeg).toInt64 (48 : Int64) (57 : Int64) σ) fun u7 => (if u7.1 = 0 then kx u7.2 else (if (u7.2.1 v0 17) ≤ (10000 : Int32) then (if pm_ib (u7.2.1 v0 16) (pm_len S (u7.2.2 v0 13)) = true then pm_let (pm_si u7.2 v0 17 ((((10 : Int32) * (u7.2.1 v0 17)) + (u7.2.1 (u7.2.2 v0 13) ((u7.2.1 v0 16)).toNatClampNeg)) - (48 : Int32))) fun s10 => pm_let (pm_si s10 v0 16 ((s10.1 v0 16) + (1 : Int32))) fun s11 => fX12_takeNumber_L42 S v0 v1 v2 kx n s11 else none) else pm_let (pm_si u7.2 v0 17 (u7.2.1 v0 17)) fun s12 => pm_let (pm_si s12 v0 16 ((s12.1 v0 16) + (1 : Int32))) fun s13 => fX12_takeNumber_L42 S v0 v1 v2 kx n s13)) else none))
set_option maxRecDepth 100000 in
set_option maxHeartbeats 4000000 in
theorem fX12_takeNumber_L42_E (l : Launch) {S : pm_S} {p : Int32 × pm_H} {v0 : Nat} {v1 : Int32} {v2 : Int32} {kx : pm_H → Option (Int32 × pm_H)} (h0 : pm_is S v0 15) (hkx : ∀  sw, kx  sw = some p → pm_E l yX12_takeNumber cX12_takeNumber 4 (some .int) false 1 S (pm_ri S p) 129 [(0, .ref v0), (1, .int v1), (2, .int v2)] [] S sw) : ∀ (n : Nat)  (σ : pm_H), fX12_takeNumber_L42 S v0 v1 v2 kx n σ = some p → pm_E l yX12_takeNumber cX12_takeNumber 4 (some .int) false 1 S (pm_ri S p) 42 [(0, .ref v0), (1, .int v1), (2, .int v2)] [] S σ := by
  intro n
  induction n with
  | zero => intro σ hf; cases hf
  | succ n ih =>
    intro σ hf
    rw [fX12_takeNumber_L42] at hf
    refine pm_aload_n (pc := 42) 0 dX12_takeNumber_42 rfl rfl h0.pos ?_
    refine pm_getI (pc := 43) (k := 16) pm_cl12 flX12_101 (by decide) rfl h0 dX12_takeNumber_43 ?_
    refine pm_aload_n (pc := 46) 0 dX12_takeNumber_46 rfl rfl h0.pos ?_
    refine pm_getI (pc := 47) (k := 14) pm_cl12 flX12_97 (by decide) rfl h0 dX12_takeNumber_47 ?_
    refine pm_icmp_ge (pc := 50) 129 dX12_takeNumber_50 (by decide) (fun hc16 => ?_) (fun hc16 => ?_)
    · rw [if_pos hc16] at hf
      refine pm_lv [(0, .ref v0), (1, .int v1), (2, .int v2)] [0, 1, 2] rfl ?_
      exact hkx σ hf
    · rw [if_neg hc16] at hf
      refine pm_aload_n (pc := 53) 0 dX12_takeNumber_53 rfl rfl h0.pos ?_
      refine pm_getT (pc := 54) (k := 13) pm_cl12 flX12_28 (by decide) rfl h0 dX12_takeNumber_54 (fun hr5 => ?_)
      refine pm_aload_n (pc := 57) 0 dX12_takeNumber_57 rfl rfl h0.pos ?_
      refine pm_getI (pc := 58) (k := 16) pm_cl12 flX12_101 (by decide) rfl h0 dX12_takeNumber_58 ?_
      obtain ⟨hb6, hf⟩ := pm_gd hf
      refine pm_iald (pc := 61) hr5 (pm_ib_in hb6) dX12_takeNumber_61 ?_
      refine pm_i2l (pc := 62) dX12_takeNumber_62 ?_
      refine pm_ldc2 (pc := 63) klX12_108 dX12_takeNumber_63 ?_
      refine pm_ldc2 (pc := 66) klX12_110 dX12_takeNumber_66 ?_
      obtain ⟨u7, hu7, hf⟩ := pm_bind_e hf
      refine pm_cSi (pc := 69) (as := [.long (σ.1 (σ.2 v0 13) ((σ.1 v0 16)).toNatClampNeg).toInt64, .long (48 : Int64), .long (57 : Int64)]) (st := []) msX12_87 (KX12_in l  hu7) (by decide) rfl rfl (Nat.le_of_ble_eq_true rfl) rfl dX12_takeNumber_69 ?_
      refine pm_if_eq (pc := 72) 129 dX12_takeNumber_72 (by decide) (fun hc15 => ?_) (fun hc15 => ?_)
      · rw [if_pos hc15] at hf
        refine pm_lv [(0, .ref v0), (1, .int v1), (2, .int v2)] [0, 1, 2] rfl ?_
        exact hkx u7.2 hf
      · rw [if_neg hc15] at hf
        refine pm_aload_n (pc := 75) 0 dX12_takeNumber_75 rfl rfl h0.pos ?_
        refine pm_aload_n (pc := 76) 0 dX12_takeNumber_76 rfl rfl h0.pos ?_
        refine pm_getI (pc := 77) (k := 17) pm_cl12 flX12_119 (by decide) rfl h0 dX12_takeNumber_77 ?_
        refine pm_sipush (pc := 80) (10000 : Int32) (by decide) dX12_takeNumber_80 ?_
        refine pm_icmp_le (pc := 83) 93 dX12_takeNumber_83 (by decide) (fun hc14 => ?_) (fun hc14 => ?_)
        · rw [if_pos hc14] at hf
          refine pm_bipush (pc := 93) (10 : Int32) (by decide) dX12_takeNumber_93 ?_
          refine pm_aload_n (pc := 95) 0 dX12_takeNumber_95 rfl rfl h0.pos ?_
          refine pm_getI (pc := 96) (k := 17) pm_cl12 flX12_119 (by decide) rfl h0 dX12_takeNumber_96 ?_
          refine pm_imul (pc := 99) dX12_takeNumber_99 ?_
          refine pm_aload_n (pc := 100) 0 dX12_takeNumber_100 rfl rfl h0.pos ?_
          refine pm_getT (pc := 101) (k := 13) pm_cl12 flX12_28 (by decide) rfl h0 dX12_takeNumber_101 (fun hr8 => ?_)
          refine pm_aload_n (pc := 104) 0 dX12_takeNumber_104 rfl rfl h0.pos ?_
          refine pm_getI (pc := 105) (k := 16) pm_cl12 flX12_101 (by decide) rfl h0 dX12_takeNumber_105 ?_
          obtain ⟨hb9, hf⟩ := pm_gd hf
          refine pm_iald (pc := 108) hr8 (pm_ib_in hb9) dX12_takeNumber_108 ?_
          refine pm_iadd (pc := 109) dX12_takeNumber_109 ?_
          refine pm_bipush (pc := 110) (48 : Int32) (by decide) dX12_takeNumber_110 ?_
          refine pm_isub (pc := 112) dX12_takeNumber_112 ?_
          refine pm_putI (pc := 113) (k := 17) pm_cl12 flX12_119 (by decide) rfl rfl rfl h0 dX12_takeNumber_113 ?_
          obtain ⟨s10, es10, hf⟩ := pm_let_e hf
          refine pm_nmh es10 ?_
          refine pm_aload_n (pc := 116) 0 dX12_takeNumber_116 rfl rfl h0.pos ?_
          refine pm_dup (pc := 117) rfl dX12_takeNumber_117 ?_
          refine pm_getI (pc := 118) (k := 16) pm_cl12 flX12_101 (by decide) rfl h0 dX12_takeNumber_118 ?_
          refine pm_iconst (pc := 121) (1 : Int32) (by decide) dX12_takeNumber_121 ?_
          refine pm_iadd (pc := 122) dX12_takeNumber_122 ?_
          refine pm_putI (pc := 123) (k := 16) pm_cl12 flX12_101 (by decide) rfl rfl rfl h0 dX12_takeNumber_123 ?_
          obtain ⟨s11, es11, hf⟩ := pm_let_e hf
          refine pm_nmh es11 ?_
          refine pm_goto (pc := 126) 42 dX12_takeNumber_126 (by decide) ?_
          refine pm_lv [(0, .ref v0), (1, .int v1), (2, .int v2)] [0, 1, 2] rfl ?_
          exact ih s11 hf
        · rw [if_neg hc14] at hf
          refine pm_aload_n (pc := 86) 0 dX12_takeNumber_86 rfl rfl h0.pos ?_
          refine pm_getI (pc := 87) (k := 17) pm_cl12 flX12_119 (by decide) rfl h0 dX12_takeNumber_87 ?_
          refine pm_goto (pc := 90) 113 dX12_takeNumber_90 (by decide) ?_
          refine pm_putI (pc := 113) (k := 17) pm_cl12 flX12_119 (by decide) rfl rfl rfl h0 dX12_takeNumber_113 ?_
          obtain ⟨s12, es12, hf⟩ := pm_let_e hf
          refine pm_nmh es12 ?_
          refine pm_aload_n (pc := 116) 0 dX12_takeNumber_116 rfl rfl h0.pos ?_
          refine pm_dup (pc := 117) rfl dX12_takeNumber_117 ?_
          refine pm_getI (pc := 118) (k := 16) pm_cl12 flX12_101 (by decide) rfl h0 dX12_takeNumber_118 ?_
          refine pm_iconst (pc := 121) (1 : Int32) (by decide) dX12_takeNumber_121 ?_
          refine pm_iadd (pc := 122) dX12_takeNumber_122 ?_
          refine pm_putI (pc := 123) (k := 16) pm_cl12 flX12_101 (by decide) rfl rfl rfl h0 dX12_takeNumber_123 ?_
          obtain ⟨s13, es13, hf⟩ := pm_let_e hf
          refine pm_nmh es13 ?_
          refine pm_goto (pc := 126) 42 dX12_takeNumber_126 (by decide) ?_
          refine pm_lv [(0, .ref v0), (1, .int v1), (2, .int v2)] [0, 1, 2] rfl ?_
          exact ih s13 hf
def fX12_takeNumber_J129 (S : pm_S) (v0 : Nat) (v1 : Int32) (v2 : Int32) (σ : pm_H) : Option (Int32 × pm_H) :=
  (if (3 : Int32) < ((σ.1 v0 16) - (σ.1 v0 18)) then Option.bind (fX12_fails S v0 (2 : Int32) (σ.1 v0 18) σ) fun u18 => some (u18.1, u18.2) else Option.bind (fX12_in S (σ.1 v0 17).toInt64 v1.toInt64 v2.toInt64 σ) fun u19 => (if u19.1 = 0 then Option.bind (fX12_fails S v0 (2 : Int32) (u19.2.1 v0 18) u19.2) fun u20 => some (u20.1, u20.2) else some ((0 : Int32), u19.2)))
set_option maxRecDepth 100000 in
set_option maxHeartbeats 4000000 in
theorem fX12_takeNumber_J129_E (l : Launch) {S : pm_S} {p : Int32 × pm_H} {v0 : Nat} {v1 : Int32} {v2 : Int32} {σ : pm_H} (h0 : pm_is S v0 15) (hf : fX12_takeNumber_J129 S v0 v1 v2 σ = some p) : pm_E l yX12_takeNumber cX12_takeNumber 4 (some .int) false 1 S (pm_ri S p) 129 [(0, .ref v0), (1, .int v1), (2, .int v2)] [] S σ := by
  rw [fX12_takeNumber_J129] at hf
  refine pm_aload_n (pc := 129) 0 dX12_takeNumber_129 rfl rfl h0.pos ?_
  refine pm_getI (pc := 130) (k := 16) pm_cl12 flX12_101 (by decide) rfl h0 dX12_takeNumber_130 ?_
  refine pm_aload_n (pc := 133) 0 dX12_takeNumber_133 rfl rfl h0.pos ?_
  refine pm_getI (pc := 134) (k := 18) pm_cl12 flX12_116 (by decide) rfl h0 dX12_takeNumber_134 ?_
  refine pm_isub (pc := 137) dX12_takeNumber_137 ?_
  refine pm_iconst (pc := 138) (3 : Int32) (by decide) dX12_takeNumber_138 ?_
  refine pm_icmp_gt (pc := 139) 157 dX12_takeNumber_139 (by decide) (fun hc22 => ?_) (fun hc22 => ?_)
  · rw [if_pos hc22] at hf
    refine pm_aload_n (pc := 157) 0 dX12_takeNumber_157 rfl rfl h0.pos ?_
    refine pm_iconst (pc := 158) (2 : Int32) (by decide) dX12_takeNumber_158 ?_
    refine pm_aload_n (pc := 159) 0 dX12_takeNumber_159 rfl rfl h0.pos ?_
    refine pm_getI (pc := 160) (k := 18) pm_cl12 flX12_116 (by decide) rfl h0 dX12_takeNumber_160 ?_
    obtain ⟨u18, hu18, hf⟩ := pm_bind_e hf
    refine pm_cVi (pc := 163) (as := [.int (2 : Int32), .int (σ.1 v0 18)]) (st := []) mvX12_112 (KX12_fails l h0 hu18) (by decide) h0 rfl rfl (Nat.le_of_ble_eq_true rfl) rfl dX12_takeNumber_163 ?_
    refine pm_goto (pc := 166) 170 dX12_takeNumber_166 (by decide) ?_
    exact pm_iret rfl dX12_takeNumber_170 (pm_ri_e hf)
  · rw [if_neg hc22] at hf
    refine pm_aload_n (pc := 142) 0 dX12_takeNumber_142 rfl rfl h0.pos ?_
    refine pm_getI (pc := 143) (k := 17) pm_cl12 flX12_119 (by decide) rfl h0 dX12_takeNumber_143 ?_
    refine pm_i2l (pc := 146) dX12_takeNumber_146 ?_
    refine pm_iload_n (pc := 147) 1 dX12_takeNumber_147 rfl rfl ?_
    refine pm_i2l (pc := 148) dX12_takeNumber_148 ?_
    refine pm_iload_n (pc := 149) 2 dX12_takeNumber_149 rfl rfl ?_
    refine pm_i2l (pc := 150) dX12_takeNumber_150 ?_
    obtain ⟨u19, hu19, hf⟩ := pm_bind_e hf
    refine pm_cSi (pc := 151) (as := [.long (σ.1 v0 17).toInt64, .long v1.toInt64, .long v2.toInt64]) (st := []) msX12_87 (KX12_in l  hu19) (by decide) rfl rfl (Nat.le_of_ble_eq_true rfl) rfl dX12_takeNumber_151 ?_
    refine pm_if_ne (pc := 154) 169 dX12_takeNumber_154 (by decide) (fun hc21 => ?_) (fun hc21 => ?_)
    · rw [if_pos hc21] at hf
      refine pm_aload_n (pc := 157) 0 dX12_takeNumber_157 rfl rfl h0.pos ?_
      refine pm_iconst (pc := 158) (2 : Int32) (by decide) dX12_takeNumber_158 ?_
      refine pm_aload_n (pc := 159) 0 dX12_takeNumber_159 rfl rfl h0.pos ?_
      refine pm_getI (pc := 160) (k := 18) pm_cl12 flX12_116 (by decide) rfl h0 dX12_takeNumber_160 ?_
      obtain ⟨u20, hu20, hf⟩ := pm_bind_e hf
      refine pm_cVi (pc := 163) (as := [.int (2 : Int32), .int (u19.2.1 v0 18)]) (st := []) mvX12_112 (KX12_fails l h0 hu20) (by decide) h0 rfl rfl (Nat.le_of_ble_eq_true rfl) rfl dX12_takeNumber_163 ?_
      refine pm_goto (pc := 166) 170 dX12_takeNumber_166 (by decide) ?_
      exact pm_iret rfl dX12_takeNumber_170 (pm_ri_e hf)
    · rw [if_neg hc21] at hf
      refine pm_iconst (pc := 169) (0 : Int32) (by decide) dX12_takeNumber_169 ?_
      exact pm_iret rfl dX12_takeNumber_170 (pm_ri_e hf)
def fX12_takeNumber (S : pm_S) (a0 : Nat) (a1 : Int32) (a2 : Int32) (σ : pm_H) : Option (Int32 × pm_H) :=
  Option.bind (fX12_here S a0 σ) fun u1 => Option.bind (fX12_in S u1.1.toInt64 (48 : Int64) (57 : Int64) u1.2) fun u2 => (if u2.1 = 0 then Option.bind (fX12_fails S a0 (1 : Int32) (u2.2.1 a0 16) u2.2) fun u23 => some (u23.1, u23.2) else pm_let (pm_si u2.2 a0 18 (u2.2.1 a0 16)) fun s3 => pm_let (pm_si s3 a0 17 (0 : Int32)) fun s4 => fX12_takeNumber_L42 S a0 a1 a2 (fun s17 => fX12_takeNumber_J129 S a0 a1 a2 s17) pm_fuel  s4)
set_option maxRecDepth 100000 in
set_option maxHeartbeats 4000000 in
theorem KX12_takeNumber (l : Launch) {S : pm_S} {p : Int32 × pm_H} {a0 : Nat} {a1 : Int32} {a2 : Int32} {σ : pm_H} (h0 : pm_is S a0 15) (hf : fX12_takeNumber S a0 a1 a2 σ = some p) : pm_M l yX12_takeNumber cX12_takeNumber 4 (some .int) false 1 [.ref a0, .int a1, .int a2] S σ (pm_ri S p) := by
  refine pm_M.of (by decide +kernel) (Nat.le_of_ble_eq_true rfl) ?_
  show pm_E l yX12_takeNumber cX12_takeNumber 4 (some .int) false 1 S (pm_ri S p) 0 [(0, .ref a0), (1, .int a1), (2, .int a2)] [] S σ
  rw [fX12_takeNumber] at hf
  refine pm_aload_n (pc := 0) 0 dX12_takeNumber_0 rfl rfl h0.pos ?_
  obtain ⟨u1, hu1, hf⟩ := pm_bind_e hf
  refine pm_cVi (pc := 1) (as := []) (st := []) mvX12_104 (KX12_here l h0 hu1) (by decide) h0 rfl rfl (Nat.le_of_ble_eq_true rfl) rfl dX12_takeNumber_1 ?_
  refine pm_istore_n (pc := 4) [(3, .int u1.1), (0, .ref a0), (1, .int a1), (2, .int a2)] dX12_takeNumber_4 rfl (by decide) rfl ?_
  refine pm_iload_n (pc := 5) 0 dX12_takeNumber_5 rfl rfl ?_
  refine pm_i2l (pc := 6) dX12_takeNumber_6 ?_
  refine pm_ldc2 (pc := 7) klX12_108 dX12_takeNumber_7 ?_
  refine pm_ldc2 (pc := 10) klX12_110 dX12_takeNumber_10 ?_
  obtain ⟨u2, hu2, hf⟩ := pm_bind_e hf
  refine pm_cSi (pc := 13) (as := [.long u1.1.toInt64, .long (48 : Int64), .long (57 : Int64)]) (st := []) msX12_87 (KX12_in l  hu2) (by decide) rfl rfl (Nat.le_of_ble_eq_true rfl) rfl dX12_takeNumber_13 ?_
  refine pm_if_ne (pc := 16) 29 dX12_takeNumber_16 (by decide) (fun hc24 => ?_) (fun hc24 => ?_)
  · rw [if_pos hc24] at hf
    refine pm_aload_n (pc := 19) 1 dX12_takeNumber_19 rfl rfl h0.pos ?_
    refine pm_iconst (pc := 20) (1 : Int32) (by decide) dX12_takeNumber_20 ?_
    refine pm_aload_n (pc := 21) 1 dX12_takeNumber_21 rfl rfl h0.pos ?_
    refine pm_getI (pc := 22) (k := 16) pm_cl12 flX12_101 (by decide) rfl h0 dX12_takeNumber_22 ?_
    obtain ⟨u23, hu23, hf⟩ := pm_bind_e hf
    refine pm_cVi (pc := 25) (as := [.int (1 : Int32), .int (u2.2.1 a0 16)]) (st := []) mvX12_112 (KX12_fails l h0 hu23) (by decide) h0 rfl rfl (Nat.le_of_ble_eq_true rfl) rfl dX12_takeNumber_25 ?_
    exact pm_iret rfl dX12_takeNumber_28 (pm_ri_e hf)
  · rw [if_neg hc24] at hf
    refine pm_aload_n (pc := 29) 1 dX12_takeNumber_29 rfl rfl h0.pos ?_
    refine pm_aload_n (pc := 30) 1 dX12_takeNumber_30 rfl rfl h0.pos ?_
    refine pm_getI (pc := 31) (k := 16) pm_cl12 flX12_101 (by decide) rfl h0 dX12_takeNumber_31 ?_
    refine pm_putI (pc := 34) (k := 18) pm_cl12 flX12_116 (by decide) rfl rfl rfl h0 dX12_takeNumber_34 ?_
    obtain ⟨s3, es3, hf⟩ := pm_let_e hf
    refine pm_nmh es3 ?_
    refine pm_aload_n (pc := 37) 1 dX12_takeNumber_37 rfl rfl h0.pos ?_
    refine pm_iconst (pc := 38) (0 : Int32) (by decide) dX12_takeNumber_38 ?_
    refine pm_putI (pc := 39) (k := 17) pm_cl12 flX12_119 (by decide) rfl rfl rfl h0 dX12_takeNumber_39 ?_
    obtain ⟨s4, es4, hf⟩ := pm_let_e hf
    refine pm_nmh es4 ?_
    refine pm_lv [(0, .ref a0), (1, .int a1), (2, .int a2)] [1, 2, 3] rfl ?_
    refine fX12_takeNumber_L42_E l h0 (fun s17 hf => ?_) pm_fuel  s4 hf
    refine pm_lv [(0, .ref a0), (1, .int a1), (2, .int a2)] [0, 1, 2] rfl ?_
    exact fX12_takeNumber_J129_E l h0 hf
def fX12_into (S : pm_S) (a0 : Nat) (a1 : Nat) (a2 : Int32) (a3 : Int32) (a4 : Int32) (σ : pm_H) : Option (Int32 × pm_H) :=
  Option.bind (fX12_takeNumber S a0 a3 a4 σ) fun u1 => (if pm_ib a2 (pm_len S a1) = true then pm_let (pm_si u1.2 a1 (a2).toNatClampNeg (u1.2.1 a0 17)) fun s3 => some (u1.1, s3) else none)
set_option maxRecDepth 100000 in
set_option maxHeartbeats 4000000 in
theorem KX12_into (l : Launch) {S : pm_S} {p : Int32 × pm_H} {a0 : Nat} {a1 : Nat} {a2 : Int32} {a3 : Int32} {a4 : Int32} {σ : pm_H} (h0 : pm_is S a0 15) (h1 : pm_is S a1 0) (hf : fX12_into S a0 a1 a2 a3 a4 σ = some p) : pm_M l yX12_into cX12_into 6 (some .int) false 2 [.ref a0, .ref a1, .int a2, .int a3, .int a4] S σ (pm_ri S p) := by
  refine pm_M.of (by decide +kernel) (Nat.le_of_ble_eq_true rfl) ?_
  show pm_E l yX12_into cX12_into 6 (some .int) false 2 S (pm_ri S p) 0 [(0, .ref a0), (1, .ref a1), (2, .int a2), (3, .int a3), (4, .int a4)] [] S σ
  rw [fX12_into] at hf
  refine pm_aload_n (pc := 0) 0 dX12_into_0 rfl rfl h0.pos ?_
  refine pm_iload_n (pc := 1) 3 dX12_into_1 rfl rfl ?_
  refine pm_iload (pc := 2) 4 dX12_into_2 rfl ?_
  obtain ⟨u1, hu1, hf⟩ := pm_bind_e hf
  refine pm_cVi (pc := 4) (as := [.int a3, .int a4]) (st := []) mvX12_122 (KX12_takeNumber l h0 hu1) (by decide) h0 rfl rfl (Nat.le_of_ble_eq_true rfl) rfl dX12_into_4 ?_
  refine pm_istore (pc := 7) [(5, .int u1.1), (0, .ref a0), (1, .ref a1), (2, .int a2), (3, .int a3), (4, .int a4)] dX12_into_7 (by decide) rfl ?_
  refine pm_aload_n (pc := 9) 2 dX12_into_9 rfl rfl h1.pos ?_
  refine pm_iload_n (pc := 10) 3 dX12_into_10 rfl rfl ?_
  refine pm_aload_n (pc := 11) 1 dX12_into_11 rfl rfl h0.pos ?_
  refine pm_getI (pc := 12) (k := 17) pm_cl12 flX12_119 (by decide) rfl h0 dX12_into_12 ?_
  obtain ⟨hb2, hf⟩ := pm_gd hf
  refine pm_iast (pc := 15) h1 (pm_ib_in hb2) dX12_into_15 ?_
  obtain ⟨s3, es3, hf⟩ := pm_let_e hf
  refine pm_nmh es3 ?_
  refine pm_iload (pc := 16) 0 dX12_into_16 rfl ?_
  exact pm_iret rfl dX12_into_18 (pm_ri_e hf)
def fX12_takeRod (S : pm_S) (a0 : Nat) (σ : pm_H) : Option (Int32 × pm_H) :=
  Option.bind (fX12_takeNumber S a0 (12 : Int32) (240 : Int32) σ) fun u1 => pm_let (pm_si u1.2 a0 19 (u1.2.1 a0 17)) fun s2 => (if u1.1 ≤ 0 then Option.bind (fX12_takeNumber S a0 (0 : Int32) (9 : Int32) s2) fun u3 => pm_let (pm_si u3.2 a0 20 (u3.2.1 a0 17)) fun s4 => some (u3.1, s4) else pm_let (pm_si s2 a0 20 (s2.1 a0 17)) fun s5 => some (u1.1, s5))
set_option maxRecDepth 100000 in
set_option maxHeartbeats 4000000 in
theorem KX12_takeRod (l : Launch) {S : pm_S} {p : Int32 × pm_H} {a0 : Nat} {σ : pm_H} (h0 : pm_is S a0 15) (hf : fX12_takeRod S a0 σ = some p) : pm_M l yX12_takeRod cX12_takeRod 2 (some .int) false 2 [.ref a0] S σ (pm_ri S p) := by
  refine pm_M.of (by decide +kernel) (Nat.le_of_ble_eq_true rfl) ?_
  show pm_E l yX12_takeRod cX12_takeRod 2 (some .int) false 2 S (pm_ri S p) 0 [(0, .ref a0)] [] S σ
  rw [fX12_takeRod] at hf
  refine pm_aload_n (pc := 0) 0 dX12_takeRod_0 rfl rfl h0.pos ?_
  refine pm_bipush (pc := 1) (12 : Int32) (by decide) dX12_takeRod_1 ?_
  refine pm_sipush (pc := 3) (240 : Int32) (by decide) dX12_takeRod_3 ?_
  obtain ⟨u1, hu1, hf⟩ := pm_bind_e hf
  refine pm_cVi (pc := 6) (as := [.int (12 : Int32), .int (240 : Int32)]) (st := []) mvX12_122 (KX12_takeNumber l h0 hu1) (by decide) h0 rfl rfl (Nat.le_of_ble_eq_true rfl) rfl dX12_takeRod_6 ?_
  refine pm_istore_n (pc := 9) [(1, .int u1.1), (0, .ref a0)] dX12_takeRod_9 rfl (by decide) rfl ?_
  refine pm_aload_n (pc := 10) 1 dX12_takeRod_10 rfl rfl h0.pos ?_
  refine pm_aload_n (pc := 11) 1 dX12_takeRod_11 rfl rfl h0.pos ?_
  refine pm_getI (pc := 12) (k := 17) pm_cl12 flX12_119 (by decide) rfl h0 dX12_takeRod_12 ?_
  refine pm_putI (pc := 15) (k := 19) pm_cl12 flX12_125 (by decide) rfl rfl rfl h0 dX12_takeRod_15 ?_
  obtain ⟨s2, es2, hf⟩ := pm_let_e hf
  refine pm_nmh es2 ?_
  refine pm_iload_n (pc := 18) 0 dX12_takeRod_18 rfl rfl ?_
  refine pm_if_le (pc := 19) 26 dX12_takeRod_19 (by decide) (fun hc6 => ?_) (fun hc6 => ?_)
  · rw [if_pos hc6] at hf
    refine pm_aload_n (pc := 26) 1 dX12_takeRod_26 rfl rfl h0.pos ?_
    refine pm_iconst (pc := 27) (0 : Int32) (by decide) dX12_takeRod_27 ?_
    refine pm_bipush (pc := 28) (9 : Int32) (by decide) dX12_takeRod_28 ?_
    obtain ⟨u3, hu3, hf⟩ := pm_bind_e hf
    refine pm_cVi (pc := 30) (as := [.int (0 : Int32), .int (9 : Int32)]) (st := []) mvX12_122 (KX12_takeNumber l h0 hu3) (by decide) h0 rfl rfl (Nat.le_of_ble_eq_true rfl) rfl dX12_takeRod_30 ?_
    refine pm_istore_n (pc := 33) [(1, .int u3.1), (0, .ref a0)] dX12_takeRod_33 rfl (by decide) rfl ?_
    refine pm_aload_n (pc := 34) 1 dX12_takeRod_34 rfl rfl h0.pos ?_
    refine pm_aload_n (pc := 35) 1 dX12_takeRod_35 rfl rfl h0.pos ?_
    refine pm_getI (pc := 36) (k := 17) pm_cl12 flX12_119 (by decide) rfl h0 dX12_takeRod_36 ?_
    refine pm_putI (pc := 39) (k := 20) pm_cl12 flX12_128 (by decide) rfl rfl rfl h0 dX12_takeRod_39 ?_
    obtain ⟨s4, es4, hf⟩ := pm_let_e hf
    refine pm_nmh es4 ?_
    refine pm_iload_n (pc := 42) 0 dX12_takeRod_42 rfl rfl ?_
    exact pm_iret rfl dX12_takeRod_43 (pm_ri_e hf)
  · rw [if_neg hc6] at hf
    refine pm_iload_n (pc := 22) 0 dX12_takeRod_22 rfl rfl ?_
    refine pm_goto (pc := 23) 33 dX12_takeRod_23 (by decide) ?_
    refine pm_istore_n (pc := 33) [(1, .int u1.1), (0, .ref a0)] dX12_takeRod_33 rfl (by decide) rfl ?_
    refine pm_aload_n (pc := 34) 1 dX12_takeRod_34 rfl rfl h0.pos ?_
    refine pm_aload_n (pc := 35) 1 dX12_takeRod_35 rfl rfl h0.pos ?_
    refine pm_getI (pc := 36) (k := 17) pm_cl12 flX12_119 (by decide) rfl h0 dX12_takeRod_36 ?_
    refine pm_putI (pc := 39) (k := 20) pm_cl12 flX12_128 (by decide) rfl rfl rfl h0 dX12_takeRod_39 ?_
    obtain ⟨s5, es5, hf⟩ := pm_let_e hf
    refine pm_nmh es5 ?_
    refine pm_iload_n (pc := 42) 0 dX12_takeRod_42 rfl rfl ?_
    exact pm_iret rfl dX12_takeRod_43 (pm_ri_e hf)
def fX12_takeNick_L19 (S : pm_S) (v0 : Nat) (kx : Int32 → pm_H → Option (Int32 × pm_H)) : Nat → Int32 → Int32 → pm_H → Option (Int32 × pm_H)
  | 0, _, _, _ => none
  | n + 1, v1, v2, σ => (if (σ.1 v0 21) ≤ v2 then kx v1 σ else (if v1 = 0 then (if pm_ib v2 (pm_len S (σ.2 v0 22)) = true then (if pm_ib (σ.1 v0 21) (pm_len S (σ.2 v0 22)) = true then (if (σ.1 (σ.2 v0 22) (v2).toNatClampNeg) = (σ.1 (σ.2 v0 22) ((σ.1 v0 21)).toNatClampNeg) then Option.bind (fX12_fails S v0 (4 : Int32) (σ.1 v0 18) σ) fun u7 => fX12_takeNick_L19 S v0 kx n u7.1 (v2 + (1 : Int32)) u7.2 else fX12_takeNick_L19 S v0 kx n (0 : Int32) (v2 + (1 : Int32)) σ) else none) else none) else kx v1 σ))
set_option maxRecDepth 100000 in
set_option maxHeartbeats 4000000 in
theorem fX12_takeNick_L19_E (l : Launch) {S : pm_S} {p : Int32 × pm_H} {v0 : Nat} {kx : Int32 → pm_H → Option (Int32 × pm_H)} (h0 : pm_is S v0 15) (hkx : ∀ w1 sw, kx w1 sw = some p → pm_E l yX12_takeNick cX12_takeNick 3 (some .int) false 3 S (pm_ri S p) 69 [(0, .ref v0), (1, .int w1)] [] S sw) : ∀ (n : Nat) (v1 : Int32) (v2 : Int32) (σ : pm_H), fX12_takeNick_L19 S v0 kx n v1 v2 σ = some p → pm_E l yX12_takeNick cX12_takeNick 3 (some .int) false 3 S (pm_ri S p) 19 [(0, .ref v0), (1, .int v1), (2, .int v2)] [] S σ := by
  intro n
  induction n with
  | zero => intro v1 v2 σ hf; cases hf
  | succ n ih =>
    intro v1 v2 σ hf
    rw [fX12_takeNick_L19] at hf
    refine pm_iload_n (pc := 19) 2 dX12_takeNick_19 rfl rfl ?_
    refine pm_aload_n (pc := 20) 0 dX12_takeNick_20 rfl rfl h0.pos ?_
    refine pm_getI (pc := 21) (k := 21) pm_cl12 flX12_131 (by decide) rfl h0 dX12_takeNick_21 ?_
    refine pm_icmp_ge (pc := 24) 69 dX12_takeNick_24 (by decide) (fun hc10 => ?_) (fun hc10 => ?_)
    · rw [if_pos hc10] at hf
      refine pm_lv [(0, .ref v0), (1, .int v1)] [0, 1] rfl ?_
      exact hkx v1 σ hf
    · rw [if_neg hc10] at hf
      refine pm_iload_n (pc := 27) 1 dX12_takeNick_27 rfl rfl ?_
      refine pm_if_ne (pc := 28) 69 dX12_takeNick_28 (by decide) (fun hc9 => ?_) (fun hc9 => ?_)
      · rw [if_pos hc9] at hf
        refine pm_aload_n (pc := 31) 0 dX12_takeNick_31 rfl rfl h0.pos ?_
        refine pm_getT (pc := 32) (k := 22) pm_cl12 flX12_35 (by decide) rfl h0 dX12_takeNick_32 (fun hr3 => ?_)
        refine pm_iload_n (pc := 35) 2 dX12_takeNick_35 rfl rfl ?_
        obtain ⟨hb4, hf⟩ := pm_gd hf
        refine pm_iald (pc := 36) hr3 (pm_ib_in hb4) dX12_takeNick_36 ?_
        refine pm_aload_n (pc := 37) 0 dX12_takeNick_37 rfl rfl h0.pos ?_
        refine pm_getT (pc := 38) (k := 22) pm_cl12 flX12_35 (by decide) rfl h0 dX12_takeNick_38 (fun hr5 => ?_)
        refine pm_aload_n (pc := 41) 0 dX12_takeNick_41 rfl rfl h0.pos ?_
        refine pm_getI (pc := 42) (k := 21) pm_cl12 flX12_131 (by decide) rfl h0 dX12_takeNick_42 ?_
        obtain ⟨hb6, hf⟩ := pm_gd hf
        refine pm_iald (pc := 45) hr5 (pm_ib_in hb6) dX12_takeNick_45 ?_
        refine pm_icmp_ne (pc := 46) 61 dX12_takeNick_46 (by decide) (fun hc8 => ?_) (fun hc8 => ?_)
        · rw [if_pos hc8] at hf
          refine pm_aload_n (pc := 49) 0 dX12_takeNick_49 rfl rfl h0.pos ?_
          refine pm_iconst (pc := 50) (4 : Int32) (by decide) dX12_takeNick_50 ?_
          refine pm_aload_n (pc := 51) 0 dX12_takeNick_51 rfl rfl h0.pos ?_
          refine pm_getI (pc := 52) (k := 18) pm_cl12 flX12_116 (by decide) rfl h0 dX12_takeNick_52 ?_
          obtain ⟨u7, hu7, hf⟩ := pm_bind_e hf
          refine pm_cVi (pc := 55) (as := [.int (4 : Int32), .int (σ.1 v0 18)]) (st := []) mvX12_112 (KX12_fails l h0 hu7) (by decide) h0 rfl rfl (Nat.le_of_ble_eq_true rfl) rfl dX12_takeNick_55 ?_
          refine pm_goto (pc := 58) 62 dX12_takeNick_58 (by decide) ?_
          refine pm_istore_n (pc := 62) [(1, .int u7.1), (0, .ref v0), (2, .int v2)] dX12_takeNick_62 rfl (by decide) rfl ?_
          refine pm_iinc (pc := 63) 2 (v2 + (1 : Int32)) [(2, .int (v2 + (1 : Int32))), (1, .int u7.1), (0, .ref v0)] dX12_takeNick_63 rfl rfl (by decide) rfl ?_
          refine pm_goto (pc := 66) 19 dX12_takeNick_66 (by decide) ?_
          refine pm_lv [(0, .ref v0), (1, .int u7.1), (2, .int (v2 + (1 : Int32)))] [2, 1, 0] rfl ?_
          exact ih u7.1 (v2 + (1 : Int32)) u7.2 hf
        · rw [if_neg hc8] at hf
          refine pm_iconst (pc := 61) (0 : Int32) (by decide) dX12_takeNick_61 ?_
          refine pm_istore_n (pc := 62) [(1, .int (0 : Int32)), (0, .ref v0), (2, .int v2)] dX12_takeNick_62 rfl (by decide) rfl ?_
          refine pm_iinc (pc := 63) 2 (v2 + (1 : Int32)) [(2, .int (v2 + (1 : Int32))), (1, .int (0 : Int32)), (0, .ref v0)] dX12_takeNick_63 rfl rfl (by decide) rfl ?_
          refine pm_goto (pc := 66) 19 dX12_takeNick_66 (by decide) ?_
          refine pm_lv [(0, .ref v0), (1, .int (0 : Int32)), (2, .int (v2 + (1 : Int32)))] [2, 1, 0] rfl ?_
          exact ih (0 : Int32) (v2 + (1 : Int32)) σ hf
      · rw [if_neg hc9] at hf
        refine pm_lv [(0, .ref v0), (1, .int v1)] [0, 1] rfl ?_
        exact hkx v1 σ hf
def fX12_takeNick (S : pm_S) (a0 : Nat) (σ : pm_H) : Option (Int32 × pm_H) :=
  Option.bind (fX12_into S a0 (σ.2 a0 22) (σ.1 a0 21) (1 : Int32) (239 : Int32) σ) fun u2 => fX12_takeNick_L19 S a0 (fun w11 s12 => pm_let (pm_si s12 a0 21 ((s12.1 a0 21) + (1 : Int32))) fun s13 => some (w11, s13)) pm_fuel u2.1 (0 : Int32) u2.2
set_option maxRecDepth 100000 in
set_option maxHeartbeats 4000000 in
theorem KX12_takeNick (l : Launch) {S : pm_S} {p : Int32 × pm_H} {a0 : Nat} {σ : pm_H} (h0 : pm_is S a0 15) (hf : fX12_takeNick S a0 σ = some p) : pm_M l yX12_takeNick cX12_takeNick 3 (some .int) false 3 [.ref a0] S σ (pm_ri S p) := by
  refine pm_M.of (by decide +kernel) (Nat.le_of_ble_eq_true rfl) ?_
  show pm_E l yX12_takeNick cX12_takeNick 3 (some .int) false 3 S (pm_ri S p) 0 [(0, .ref a0)] [] S σ
  rw [fX12_takeNick] at hf
  refine pm_aload_n (pc := 0) 0 dX12_takeNick_0 rfl rfl h0.pos ?_
  refine pm_aload_n (pc := 1) 0 dX12_takeNick_1 rfl rfl h0.pos ?_
  refine pm_getT (pc := 2) (k := 22) pm_cl12 flX12_35 (by decide) rfl h0 dX12_takeNick_2 (fun hr1 => ?_)
  refine pm_aload_n (pc := 5) 0 dX12_takeNick_5 rfl rfl h0.pos ?_
  refine pm_getI (pc := 6) (k := 21) pm_cl12 flX12_131 (by decide) rfl h0 dX12_takeNick_6 ?_
  refine pm_iconst (pc := 9) (1 : Int32) (by decide) dX12_takeNick_9 ?_
  refine pm_sipush (pc := 10) (239 : Int32) (by decide) dX12_takeNick_10 ?_
  obtain ⟨u2, hu2, hf⟩ := pm_bind_e hf
  refine pm_cVi (pc := 13) (as := [.ref (σ.2 a0 22), .int (σ.1 a0 21), .int (1 : Int32), .int (239 : Int32)]) (st := []) mvX12_134 (KX12_into l h0 hr1 hu2) (by decide) h0 rfl rfl (Nat.le_of_ble_eq_true rfl) rfl dX12_takeNick_13 ?_
  refine pm_istore_n (pc := 16) [(1, .int u2.1), (0, .ref a0)] dX12_takeNick_16 rfl (by decide) rfl ?_
  refine pm_iconst (pc := 17) (0 : Int32) (by decide) dX12_takeNick_17 ?_
  refine pm_istore_n (pc := 18) [(2, .int (0 : Int32)), (1, .int u2.1), (0, .ref a0)] dX12_takeNick_18 rfl (by decide) rfl ?_
  refine pm_lv [(0, .ref a0), (1, .int u2.1), (2, .int (0 : Int32))] [2, 1, 0] rfl ?_
  refine fX12_takeNick_L19_E l h0 (fun w11 s12 hf => ?_) pm_fuel u2.1 (0 : Int32) u2.2 hf
  refine pm_aload_n (pc := 69) 0 dX12_takeNick_69 rfl rfl h0.pos ?_
  refine pm_dup (pc := 70) rfl dX12_takeNick_70 ?_
  refine pm_getI (pc := 71) (k := 21) pm_cl12 flX12_131 (by decide) rfl h0 dX12_takeNick_71 ?_
  refine pm_iconst (pc := 74) (1 : Int32) (by decide) dX12_takeNick_74 ?_
  refine pm_iadd (pc := 75) dX12_takeNick_75 ?_
  refine pm_putI (pc := 76) (k := 21) pm_cl12 flX12_131 (by decide) rfl rfl rfl h0 dX12_takeNick_76 ?_
  obtain ⟨s13, es13, hf⟩ := pm_let_e hf
  refine pm_nmh es13 ?_
  refine pm_iload_n (pc := 79) 1 dX12_takeNick_79 rfl rfl ?_
  exact pm_iret rfl dX12_takeNick_80 (pm_ri_e hf)
def fX12_takeOffice (S : pm_S) (a0 : Nat) (σ : pm_H) : Option (Int32 × pm_H) :=
  pm_let (σ.1 a0 23) fun x1 => pm_let (pm_si σ a0 23 ((σ.1 a0 23) + (1 : Int32))) fun s2 => Option.bind (fX12_into S a0 (s2.2 a0 24) x1 (1 : Int32) (99 : Int32) s2) fun u4 => (if u4.1 ≤ 0 then (if pm_ib x1 (pm_len S (u4.2.2 a0 24)) = true then Option.bind (fX12_into S a0 (u4.2.2 a0 25) x1 (u4.2.1 (u4.2.2 a0 24) (x1).toNatClampNeg) (99 : Int32) u4.2) fun u8 => some (u8.1, u8.2) else none) else some (u4.1, u4.2))
set_option maxRecDepth 100000 in
set_option maxHeartbeats 4000000 in
theorem KX12_takeOffice (l : Launch) {S : pm_S} {p : Int32 × pm_H} {a0 : Nat} {σ : pm_H} (h0 : pm_is S a0 15) (hf : fX12_takeOffice S a0 σ = some p) : pm_M l yX12_takeOffice cX12_takeOffice 3 (some .int) false 3 [.ref a0] S σ (pm_ri S p) := by
  refine pm_M.of (by decide +kernel) (Nat.le_of_ble_eq_true rfl) ?_
  show pm_E l yX12_takeOffice cX12_takeOffice 3 (some .int) false 3 S (pm_ri S p) 0 [(0, .ref a0)] [] S σ
  rw [fX12_takeOffice] at hf
  refine pm_aload_n (pc := 0) 0 dX12_takeOffice_0 rfl rfl h0.pos ?_
  refine pm_getI (pc := 1) (k := 23) pm_cl12 flX12_138 (by decide) rfl h0 dX12_takeOffice_1 ?_
  obtain ⟨x1, ex1, hf⟩ := pm_let_e hf
  refine pm_nmi ex1 ?_
  refine pm_istore_n (pc := 4) [(1, .int x1), (0, .ref a0)] dX12_takeOffice_4 rfl (by decide) rfl ?_
  refine pm_aload_n (pc := 5) 1 dX12_takeOffice_5 rfl rfl h0.pos ?_
  refine pm_dup (pc := 6) rfl dX12_takeOffice_6 ?_
  refine pm_getI (pc := 7) (k := 23) pm_cl12 flX12_138 (by decide) rfl h0 dX12_takeOffice_7 ?_
  refine pm_iconst (pc := 10) (1 : Int32) (by decide) dX12_takeOffice_10 ?_
  refine pm_iadd (pc := 11) dX12_takeOffice_11 ?_
  refine pm_putI (pc := 12) (k := 23) pm_cl12 flX12_138 (by decide) rfl rfl rfl h0 dX12_takeOffice_12 ?_
  obtain ⟨s2, es2, hf⟩ := pm_let_e hf
  refine pm_nmh es2 ?_
  refine pm_aload_n (pc := 15) 1 dX12_takeOffice_15 rfl rfl h0.pos ?_
  refine pm_aload_n (pc := 16) 1 dX12_takeOffice_16 rfl rfl h0.pos ?_
  refine pm_getT (pc := 17) (k := 24) pm_cl12 flX12_38 (by decide) rfl h0 dX12_takeOffice_17 (fun hr3 => ?_)
  refine pm_iload_n (pc := 20) 0 dX12_takeOffice_20 rfl rfl ?_
  refine pm_iconst (pc := 21) (1 : Int32) (by decide) dX12_takeOffice_21 ?_
  refine pm_bipush (pc := 22) (99 : Int32) (by decide) dX12_takeOffice_22 ?_
  obtain ⟨u4, hu4, hf⟩ := pm_bind_e hf
  refine pm_cVi (pc := 24) (as := [.ref (s2.2 a0 24), .int x1, .int (1 : Int32), .int (99 : Int32)]) (st := []) mvX12_134 (KX12_into l h0 hr3 hu4) (by decide) h0 rfl rfl (Nat.le_of_ble_eq_true rfl) rfl dX12_takeOffice_24 ?_
  refine pm_istore_n (pc := 27) [(2, .int u4.1), (1, .int x1), (0, .ref a0)] dX12_takeOffice_27 rfl (by decide) rfl ?_
  refine pm_iload_n (pc := 28) 0 dX12_takeOffice_28 rfl rfl ?_
  refine pm_if_le (pc := 29) 36 dX12_takeOffice_29 (by decide) (fun hc9 => ?_) (fun hc9 => ?_)
  · rw [if_pos hc9] at hf
    refine pm_aload_n (pc := 36) 2 dX12_takeOffice_36 rfl rfl h0.pos ?_
    refine pm_aload_n (pc := 37) 2 dX12_takeOffice_37 rfl rfl h0.pos ?_
    refine pm_getT (pc := 38) (k := 25) pm_cl12 flX12_41 (by decide) rfl h0 dX12_takeOffice_38 (fun hr5 => ?_)
    refine pm_iload_n (pc := 41) 1 dX12_takeOffice_41 rfl rfl ?_
    refine pm_aload_n (pc := 42) 2 dX12_takeOffice_42 rfl rfl h0.pos ?_
    refine pm_getT (pc := 43) (k := 24) pm_cl12 flX12_38 (by decide) rfl h0 dX12_takeOffice_43 (fun hr6 => ?_)
    refine pm_iload_n (pc := 46) 1 dX12_takeOffice_46 rfl rfl ?_
    obtain ⟨hb7, hf⟩ := pm_gd hf
    refine pm_iald (pc := 47) hr6 (pm_ib_in hb7) dX12_takeOffice_47 ?_
    refine pm_bipush (pc := 48) (99 : Int32) (by decide) dX12_takeOffice_48 ?_
    obtain ⟨u8, hu8, hf⟩ := pm_bind_e hf
    refine pm_cVi (pc := 50) (as := [.ref (u4.2.2 a0 25), .int x1, .int (u4.2.1 (u4.2.2 a0 24) (x1).toNatClampNeg), .int (99 : Int32)]) (st := []) mvX12_134 (KX12_into l h0 hr5 hu8) (by decide) h0 rfl rfl (Nat.le_of_ble_eq_true rfl) rfl dX12_takeOffice_50 ?_
    exact pm_iret rfl dX12_takeOffice_53 (pm_ri_e hf)
  · rw [if_neg hc9] at hf
    refine pm_iload_n (pc := 32) 0 dX12_takeOffice_32 rfl rfl ?_
    refine pm_goto (pc := 33) 53 dX12_takeOffice_33 (by decide) ?_
    exact pm_iret rfl dX12_takeOffice_53 (pm_ri_e hf)
def fX12_takePerson (S : pm_S) (a0 : Nat) (σ : pm_H) : Option (Int32 × pm_H) :=
  pm_let (pm_si σ a0 26 ((σ.1 a0 26) + (1 : Int32))) fun s1 => Option.bind (fX12_into S a0 (s1.2 a0 27) ((s1.1 a0 26) - (1 : Int32)) (1 : Int32) (999 : Int32) s1) fun u3 => some (u3.1, u3.2)
set_option maxRecDepth 100000 in
set_option maxHeartbeats 4000000 in
theorem KX12_takePerson (l : Launch) {S : pm_S} {p : Int32 × pm_H} {a0 : Nat} {σ : pm_H} (h0 : pm_is S a0 15) (hf : fX12_takePerson S a0 σ = some p) : pm_M l yX12_takePerson cX12_takePerson 1 (some .int) false 3 [.ref a0] S σ (pm_ri S p) := by
  refine pm_M.of (by decide +kernel) (Nat.le_of_ble_eq_true rfl) ?_
  show pm_E l yX12_takePerson cX12_takePerson 1 (some .int) false 3 S (pm_ri S p) 0 [(0, .ref a0)] [] S σ
  rw [fX12_takePerson] at hf
  refine pm_aload_n (pc := 0) 0 dX12_takePerson_0 rfl rfl h0.pos ?_
  refine pm_dup (pc := 1) rfl dX12_takePerson_1 ?_
  refine pm_getI (pc := 2) (k := 26) pm_cl12 flX12_141 (by decide) rfl h0 dX12_takePerson_2 ?_
  refine pm_iconst (pc := 5) (1 : Int32) (by decide) dX12_takePerson_5 ?_
  refine pm_iadd (pc := 6) dX12_takePerson_6 ?_
  refine pm_putI (pc := 7) (k := 26) pm_cl12 flX12_141 (by decide) rfl rfl rfl h0 dX12_takePerson_7 ?_
  obtain ⟨s1, es1, hf⟩ := pm_let_e hf
  refine pm_nmh es1 ?_
  refine pm_aload_n (pc := 10) 0 dX12_takePerson_10 rfl rfl h0.pos ?_
  refine pm_aload_n (pc := 11) 0 dX12_takePerson_11 rfl rfl h0.pos ?_
  refine pm_getT (pc := 12) (k := 27) pm_cl12 flX12_44 (by decide) rfl h0 dX12_takePerson_12 (fun hr2 => ?_)
  refine pm_aload_n (pc := 15) 0 dX12_takePerson_15 rfl rfl h0.pos ?_
  refine pm_getI (pc := 16) (k := 26) pm_cl12 flX12_141 (by decide) rfl h0 dX12_takePerson_16 ?_
  refine pm_iconst (pc := 19) (1 : Int32) (by decide) dX12_takePerson_19 ?_
  refine pm_isub (pc := 20) dX12_takePerson_20 ?_
  refine pm_iconst (pc := 21) (1 : Int32) (by decide) dX12_takePerson_21 ?_
  refine pm_sipush (pc := 22) (999 : Int32) (by decide) dX12_takePerson_22 ?_
  obtain ⟨u3, hu3, hf⟩ := pm_bind_e hf
  refine pm_cVi (pc := 25) (as := [.ref (s1.2 a0 27), .int ((s1.1 a0 26) - (1 : Int32)), .int (1 : Int32), .int (999 : Int32)]) (st := []) mvX12_134 (KX12_into l h0 hr2 hu3) (by decide) h0 rfl rfl (Nat.le_of_ble_eq_true rfl) rfl dX12_takePerson_25 ?_
  exact pm_iret rfl dX12_takePerson_28 (pm_ri_e hf)
def fX12_takeSways_L18 (S : pm_S) (v0 : Nat) (kx : Int32 → pm_H → Option (Int32 × pm_H)) : Nat → Int32 → pm_H → Option (Int32 × pm_H)
  | 0, _, _ => none
  | n + 1, v1, σ => (if v1 = 0 then Option.bind (fX12_here S v0 σ) fun u4 => (if u4.1 = (44 : Int32) then (if (u4.2.1 v0 28) = (12 : Int32) then Option.bind (fX12_fails S v0 (1 : Int32) (u4.2.1 v0 16) u4.2) fun u9 => some (u9.1, u9.2) else pm_let (pm_si u4.2 v0 16 ((u4.2.1 v0 16) + (1 : Int32))) fun s5 => Option.bind (fX12_into S v0 (s5.2 v0 29) (s5.1 v0 28) (0 : Int32) (9 : Int32) s5) fun u7 => pm_let (pm_si u7.2 v0 28 ((u7.2.1 v0 28) + (1 : Int32))) fun s8 => fX12_takeSways_L18 S v0 kx n u7.1 s8) else kx v1 u4.2) else kx v1 σ)
set_option maxRecDepth 100000 in
set_option maxHeartbeats 4000000 in
theorem fX12_takeSways_L18_E (l : Launch) {S : pm_S} {p : Int32 × pm_H} {v0 : Nat} {kx : Int32 → pm_H → Option (Int32 × pm_H)} (h0 : pm_is S v0 15) (hkx : ∀ w1 sw, kx w1 sw = some p → pm_E l yX12_takeSways cX12_takeSways 2 (some .int) false 3 S (pm_ri S p) 89 [(1, .int w1)] [] S sw) : ∀ (n : Nat) (v1 : Int32) (σ : pm_H), fX12_takeSways_L18 S v0 kx n v1 σ = some p → pm_E l yX12_takeSways cX12_takeSways 2 (some .int) false 3 S (pm_ri S p) 18 [(0, .ref v0), (1, .int v1)] [] S σ := by
  intro n
  induction n with
  | zero => intro v1 σ hf; cases hf
  | succ n ih =>
    intro v1 σ hf
    rw [fX12_takeSways_L18] at hf
    refine pm_iload_n (pc := 18) 1 dX12_takeSways_18 rfl rfl ?_
    refine pm_if_ne (pc := 19) 89 dX12_takeSways_19 (by decide) (fun hc12 => ?_) (fun hc12 => ?_)
    · rw [if_pos hc12] at hf
      refine pm_aload_n (pc := 22) 0 dX12_takeSways_22 rfl rfl h0.pos ?_
      obtain ⟨u4, hu4, hf⟩ := pm_bind_e hf
      refine pm_cVi (pc := 23) (as := []) (st := []) mvX12_104 (KX12_here l h0 hu4) (by decide) h0 rfl rfl (Nat.le_of_ble_eq_true rfl) rfl dX12_takeSways_23 ?_
      refine pm_bipush (pc := 26) (44 : Int32) (by decide) dX12_takeSways_26 ?_
      refine pm_icmp_ne (pc := 28) 89 dX12_takeSways_28 (by decide) (fun hc11 => ?_) (fun hc11 => ?_)
      · rw [if_pos hc11] at hf
        refine pm_aload_n (pc := 31) 0 dX12_takeSways_31 rfl rfl h0.pos ?_
        refine pm_getI (pc := 32) (k := 28) pm_cl12 flX12_144 (by decide) rfl h0 dX12_takeSways_32 ?_
        refine pm_bipush (pc := 35) (12 : Int32) (by decide) dX12_takeSways_35 ?_
        refine pm_icmp_ne (pc := 37) 50 dX12_takeSways_37 (by decide) (fun hc10 => ?_) (fun hc10 => ?_)
        · rw [if_pos hc10] at hf
          refine pm_aload_n (pc := 40) 0 dX12_takeSways_40 rfl rfl h0.pos ?_
          refine pm_iconst (pc := 41) (1 : Int32) (by decide) dX12_takeSways_41 ?_
          refine pm_aload_n (pc := 42) 0 dX12_takeSways_42 rfl rfl h0.pos ?_
          refine pm_getI (pc := 43) (k := 16) pm_cl12 flX12_101 (by decide) rfl h0 dX12_takeSways_43 ?_
          obtain ⟨u9, hu9, hf⟩ := pm_bind_e hf
          refine pm_cVi (pc := 46) (as := [.int (1 : Int32), .int (u4.2.1 v0 16)]) (st := []) mvX12_112 (KX12_fails l h0 hu9) (by decide) h0 rfl rfl (Nat.le_of_ble_eq_true rfl) rfl dX12_takeSways_46 ?_
          exact pm_iret rfl dX12_takeSways_49 (pm_ri_e hf)
        · rw [if_neg hc10] at hf
          refine pm_aload_n (pc := 50) 0 dX12_takeSways_50 rfl rfl h0.pos ?_
          refine pm_dup (pc := 51) rfl dX12_takeSways_51 ?_
          refine pm_getI (pc := 52) (k := 16) pm_cl12 flX12_101 (by decide) rfl h0 dX12_takeSways_52 ?_
          refine pm_iconst (pc := 55) (1 : Int32) (by decide) dX12_takeSways_55 ?_
          refine pm_iadd (pc := 56) dX12_takeSways_56 ?_
          refine pm_putI (pc := 57) (k := 16) pm_cl12 flX12_101 (by decide) rfl rfl rfl h0 dX12_takeSways_57 ?_
          obtain ⟨s5, es5, hf⟩ := pm_let_e hf
          refine pm_nmh es5 ?_
          refine pm_aload_n (pc := 60) 0 dX12_takeSways_60 rfl rfl h0.pos ?_
          refine pm_aload_n (pc := 61) 0 dX12_takeSways_61 rfl rfl h0.pos ?_
          refine pm_getT (pc := 62) (k := 29) pm_cl12 flX12_47 (by decide) rfl h0 dX12_takeSways_62 (fun hr6 => ?_)
          refine pm_aload_n (pc := 65) 0 dX12_takeSways_65 rfl rfl h0.pos ?_
          refine pm_getI (pc := 66) (k := 28) pm_cl12 flX12_144 (by decide) rfl h0 dX12_takeSways_66 ?_
          refine pm_iconst (pc := 69) (0 : Int32) (by decide) dX12_takeSways_69 ?_
          refine pm_bipush (pc := 70) (9 : Int32) (by decide) dX12_takeSways_70 ?_
          obtain ⟨u7, hu7, hf⟩ := pm_bind_e hf
          refine pm_cVi (pc := 72) (as := [.ref (s5.2 v0 29), .int (s5.1 v0 28), .int (0 : Int32), .int (9 : Int32)]) (st := []) mvX12_134 (KX12_into l h0 hr6 hu7) (by decide) h0 rfl rfl (Nat.le_of_ble_eq_true rfl) rfl dX12_takeSways_72 ?_
          refine pm_istore_n (pc := 75) [(1, .int u7.1), (0, .ref v0)] dX12_takeSways_75 rfl (by decide) rfl ?_
          refine pm_aload_n (pc := 76) 1 dX12_takeSways_76 rfl rfl h0.pos ?_
          refine pm_dup (pc := 77) rfl dX12_takeSways_77 ?_
          refine pm_getI (pc := 78) (k := 28) pm_cl12 flX12_144 (by decide) rfl h0 dX12_takeSways_78 ?_
          refine pm_iconst (pc := 81) (1 : Int32) (by decide) dX12_takeSways_81 ?_
          refine pm_iadd (pc := 82) dX12_takeSways_82 ?_
          refine pm_putI (pc := 83) (k := 28) pm_cl12 flX12_144 (by decide) rfl rfl rfl h0 dX12_takeSways_83 ?_
          obtain ⟨s8, es8, hf⟩ := pm_let_e hf
          refine pm_nmh es8 ?_
          refine pm_goto (pc := 86) 18 dX12_takeSways_86 (by decide) ?_
          refine pm_lv [(0, .ref v0), (1, .int u7.1)] [1, 0] rfl ?_
          exact ih u7.1 s8 hf
      · rw [if_neg hc11] at hf
        refine pm_lv [(1, .int v1)] [1] rfl ?_
        exact hkx v1 u4.2 hf
    · rw [if_neg hc12] at hf
      refine pm_lv [(1, .int v1)] [1] rfl ?_
      exact hkx v1 σ hf
def fX12_takeSways (S : pm_S) (a0 : Nat) (σ : pm_H) : Option (Int32 × pm_H) :=
  Option.bind (fX12_into S a0 (σ.2 a0 29) (0 : Int32) (0 : Int32) (9 : Int32) σ) fun u2 => pm_let (pm_si u2.2 a0 28 (1 : Int32)) fun s3 => fX12_takeSways_L18 S a0 (fun w13 s14 => some (w13, s14)) pm_fuel u2.1 s3
set_option maxRecDepth 100000 in
set_option maxHeartbeats 4000000 in
theorem KX12_takeSways (l : Launch) {S : pm_S} {p : Int32 × pm_H} {a0 : Nat} {σ : pm_H} (h0 : pm_is S a0 15) (hf : fX12_takeSways S a0 σ = some p) : pm_M l yX12_takeSways cX12_takeSways 2 (some .int) false 3 [.ref a0] S σ (pm_ri S p) := by
  refine pm_M.of (by decide +kernel) (Nat.le_of_ble_eq_true rfl) ?_
  show pm_E l yX12_takeSways cX12_takeSways 2 (some .int) false 3 S (pm_ri S p) 0 [(0, .ref a0)] [] S σ
  rw [fX12_takeSways] at hf
  refine pm_aload_n (pc := 0) 0 dX12_takeSways_0 rfl rfl h0.pos ?_
  refine pm_aload_n (pc := 1) 0 dX12_takeSways_1 rfl rfl h0.pos ?_
  refine pm_getT (pc := 2) (k := 29) pm_cl12 flX12_47 (by decide) rfl h0 dX12_takeSways_2 (fun hr1 => ?_)
  refine pm_iconst (pc := 5) (0 : Int32) (by decide) dX12_takeSways_5 ?_
  refine pm_iconst (pc := 6) (0 : Int32) (by decide) dX12_takeSways_6 ?_
  refine pm_bipush (pc := 7) (9 : Int32) (by decide) dX12_takeSways_7 ?_
  obtain ⟨u2, hu2, hf⟩ := pm_bind_e hf
  refine pm_cVi (pc := 9) (as := [.ref (σ.2 a0 29), .int (0 : Int32), .int (0 : Int32), .int (9 : Int32)]) (st := []) mvX12_134 (KX12_into l h0 hr1 hu2) (by decide) h0 rfl rfl (Nat.le_of_ble_eq_true rfl) rfl dX12_takeSways_9 ?_
  refine pm_istore_n (pc := 12) [(1, .int u2.1), (0, .ref a0)] dX12_takeSways_12 rfl (by decide) rfl ?_
  refine pm_aload_n (pc := 13) 1 dX12_takeSways_13 rfl rfl h0.pos ?_
  refine pm_iconst (pc := 14) (1 : Int32) (by decide) dX12_takeSways_14 ?_
  refine pm_putI (pc := 15) (k := 28) pm_cl12 flX12_144 (by decide) rfl rfl rfl h0 dX12_takeSways_15 ?_
  obtain ⟨s3, es3, hf⟩ := pm_let_e hf
  refine pm_nmh es3 ?_
  refine pm_lv [(0, .ref a0), (1, .int u2.1)] [1, 0] rfl ?_
  refine fX12_takeSways_L18_E l h0 (fun w13 s14 hf => ?_) pm_fuel u2.1 s3 hf
  refine pm_iload_n (pc := 89) 0 dX12_takeSways_89 rfl rfl ?_
  exact pm_iret rfl dX12_takeSways_90 (pm_ri_e hf)
def fX12_isFull (S : pm_S) (a0 : Nat) (a1 : Int32) (σ : pm_H) : Option (Int32 × pm_H) :=
  (if a1 = (0 : Int32) then (if (σ.1 a0 19) ≤ 0 then some ((0 : Int32), σ) else some ((1 : Int32), σ)) else (if a1 = (1 : Int32) then (if (σ.1 a0 21) = (5 : Int32) then some ((1 : Int32), σ) else some ((0 : Int32), σ)) else (if a1 = (2 : Int32) then (if (σ.1 a0 23) = (6 : Int32) then some ((1 : Int32), σ) else some ((0 : Int32), σ)) else (if a1 = (3 : Int32) then (if (σ.1 a0 26) = (6 : Int32) then some ((1 : Int32), σ) else some ((0 : Int32), σ)) else (if (σ.1 a0 28) ≤ 0 then some ((0 : Int32), σ) else some ((1 : Int32), σ))))))
set_option maxRecDepth 100000 in
set_option maxHeartbeats 4000000 in
theorem KX12_isFull (l : Launch) {S : pm_S} {p : Int32 × pm_H} {a0 : Nat} {a1 : Int32} {σ : pm_H} (h0 : pm_is S a0 15) (hf : fX12_isFull S a0 a1 σ = some p) : pm_M l yX12_isFull cX12_isFull 2 (some .boolean) false 0 [.ref a0, .int a1] S σ (pm_ri S p) := by
  refine pm_M.of (by decide +kernel) (Nat.le_of_ble_eq_true rfl) ?_
  show pm_E l yX12_isFull cX12_isFull 2 (some .boolean) false 0 S (pm_ri S p) 0 [(0, .ref a0), (1, .int a1)] [] S σ
  rw [fX12_isFull] at hf
  refine pm_iload_n (pc := 0) 1 dX12_isFull_0 rfl rfl ?_
  by_cases hc2 : a1 = (0 : Int32)
  · rw [if_pos hc2] at hf
    refine pm_tin (pc := 1) (off := 31) 32 hc2 dX12_isFull_1 (by decide) (by decide) ?_
    refine pm_aload_n (pc := 32) 0 dX12_isFull_32 rfl rfl h0.pos ?_
    refine pm_getI (pc := 33) (k := 19) pm_cl12 flX12_125 (by decide) rfl h0 dX12_isFull_33 ?_
    refine pm_if_le (pc := 36) 43 dX12_isFull_36 (by decide) (fun hc1 => ?_) (fun hc1 => ?_)
    · rw [if_pos hc1] at hf
      refine pm_iconst (pc := 43) (0 : Int32) (by decide) dX12_isFull_43 ?_
      exact pm_zret rfl (by decide) dX12_isFull_44 (pm_ri_e hf)
    · rw [if_neg hc1] at hf
      refine pm_iconst (pc := 39) (1 : Int32) (by decide) dX12_isFull_39 ?_
      refine pm_goto (pc := 40) 44 dX12_isFull_40 (by decide) ?_
      exact pm_zret rfl (by decide) dX12_isFull_44 (pm_ri_e hf)
  · rw [if_neg hc2] at hf
    by_cases hc4 : a1 = (1 : Int32)
    · rw [if_pos hc4] at hf
      refine pm_tin (pc := 1) (off := 44) 45 hc4 dX12_isFull_1 (by decide) (by decide) ?_
      refine pm_aload_n (pc := 45) 0 dX12_isFull_45 rfl rfl h0.pos ?_
      refine pm_getI (pc := 46) (k := 21) pm_cl12 flX12_131 (by decide) rfl h0 dX12_isFull_46 ?_
      refine pm_iconst (pc := 49) (5 : Int32) (by decide) dX12_isFull_49 ?_
      refine pm_icmp_ne (pc := 50) 57 dX12_isFull_50 (by decide) (fun hc3 => ?_) (fun hc3 => ?_)
      · rw [if_pos hc3] at hf
        refine pm_iconst (pc := 53) (1 : Int32) (by decide) dX12_isFull_53 ?_
        refine pm_goto (pc := 54) 58 dX12_isFull_54 (by decide) ?_
        exact pm_zret rfl (by decide) dX12_isFull_58 (pm_ri_e hf)
      · rw [if_neg hc3] at hf
        refine pm_iconst (pc := 57) (0 : Int32) (by decide) dX12_isFull_57 ?_
        exact pm_zret rfl (by decide) dX12_isFull_58 (pm_ri_e hf)
    · rw [if_neg hc4] at hf
      by_cases hc6 : a1 = (2 : Int32)
      · rw [if_pos hc6] at hf
        refine pm_tin (pc := 1) (off := 58) 59 hc6 dX12_isFull_1 (by decide) (by decide) ?_
        refine pm_aload_n (pc := 59) 0 dX12_isFull_59 rfl rfl h0.pos ?_
        refine pm_getI (pc := 60) (k := 23) pm_cl12 flX12_138 (by decide) rfl h0 dX12_isFull_60 ?_
        refine pm_bipush (pc := 63) (6 : Int32) (by decide) dX12_isFull_63 ?_
        refine pm_icmp_ne (pc := 65) 72 dX12_isFull_65 (by decide) (fun hc5 => ?_) (fun hc5 => ?_)
        · rw [if_pos hc5] at hf
          refine pm_iconst (pc := 68) (1 : Int32) (by decide) dX12_isFull_68 ?_
          refine pm_goto (pc := 69) 73 dX12_isFull_69 (by decide) ?_
          exact pm_zret rfl (by decide) dX12_isFull_73 (pm_ri_e hf)
        · rw [if_neg hc5] at hf
          refine pm_iconst (pc := 72) (0 : Int32) (by decide) dX12_isFull_72 ?_
          exact pm_zret rfl (by decide) dX12_isFull_73 (pm_ri_e hf)
      · rw [if_neg hc6] at hf
        by_cases hc8 : a1 = (3 : Int32)
        · rw [if_pos hc8] at hf
          refine pm_tin (pc := 1) (off := 73) 74 hc8 dX12_isFull_1 (by decide) (by decide) ?_
          refine pm_aload_n (pc := 74) 0 dX12_isFull_74 rfl rfl h0.pos ?_
          refine pm_getI (pc := 75) (k := 26) pm_cl12 flX12_141 (by decide) rfl h0 dX12_isFull_75 ?_
          refine pm_bipush (pc := 78) (6 : Int32) (by decide) dX12_isFull_78 ?_
          refine pm_icmp_ne (pc := 80) 87 dX12_isFull_80 (by decide) (fun hc7 => ?_) (fun hc7 => ?_)
          · rw [if_pos hc7] at hf
            refine pm_iconst (pc := 83) (1 : Int32) (by decide) dX12_isFull_83 ?_
            refine pm_goto (pc := 84) 88 dX12_isFull_84 (by decide) ?_
            exact pm_zret rfl (by decide) dX12_isFull_88 (pm_ri_e hf)
          · rw [if_neg hc7] at hf
            refine pm_iconst (pc := 87) (0 : Int32) (by decide) dX12_isFull_87 ?_
            exact pm_zret rfl (by decide) dX12_isFull_88 (pm_ri_e hf)
        · rw [if_neg hc8] at hf
          have q0 : ¬ (a1).toInt = 0 := lv_neT hc2 (by decide)
          have q1 : ¬ (a1).toInt = 1 := lv_neT hc4 (by decide)
          have q2 : ¬ (a1).toInt = 2 := lv_neT hc6 (by decide)
          have q3 : ¬ (a1).toInt = 3 := lv_neT hc8 (by decide)
          refine pm_tableOut (pc := 1) 89 dX12_isFull_1 (by omega) (by decide) ?_
          refine pm_aload_n (pc := 89) 0 dX12_isFull_89 rfl rfl h0.pos ?_
          refine pm_getI (pc := 90) (k := 28) pm_cl12 flX12_144 (by decide) rfl h0 dX12_isFull_90 ?_
          refine pm_if_le (pc := 93) 100 dX12_isFull_93 (by decide) (fun hc9 => ?_) (fun hc9 => ?_)
          · rw [if_pos hc9] at hf
            refine pm_iconst (pc := 100) (0 : Int32) (by decide) dX12_isFull_100 ?_
            exact pm_zret rfl (by decide) dX12_isFull_101 (pm_ri_e hf)
          · rw [if_neg hc9] at hf
            refine pm_iconst (pc := 96) (1 : Int32) (by decide) dX12_isFull_96 ?_
            refine pm_goto (pc := 97) 101 dX12_isFull_97 (by decide) ?_
            exact pm_zret rfl (by decide) dX12_isFull_101 (pm_ri_e hf)
def fX12_takeBody (S : pm_S) (a0 : Nat) (a1 : Int32) (σ : pm_H) : Option (Int32 × pm_H) :=
  (if a1 = (0 : Int32) then Option.bind (fX12_takeRod S a0 σ) fun u1 => some (u1.1, u1.2) else (if a1 = (1 : Int32) then Option.bind (fX12_takeNick S a0 σ) fun u3 => some (u3.1, u3.2) else (if a1 = (2 : Int32) then Option.bind (fX12_takeOffice S a0 σ) fun u5 => some (u5.1, u5.2) else (if a1 = (3 : Int32) then Option.bind (fX12_takePerson S a0 σ) fun u7 => some (u7.1, u7.2) else Option.bind (fX12_takeSways S a0 σ) fun u9 => some (u9.1, u9.2)))))
set_option maxRecDepth 100000 in
set_option maxHeartbeats 4000000 in
theorem KX12_takeBody (l : Launch) {S : pm_S} {p : Int32 × pm_H} {a0 : Nat} {a1 : Int32} {σ : pm_H} (h0 : pm_is S a0 15) (hf : fX12_takeBody S a0 a1 σ = some p) : pm_M l yX12_takeBody cX12_takeBody 2 (some .int) false 4 [.ref a0, .int a1] S σ (pm_ri S p) := by
  refine pm_M.of (by decide +kernel) (Nat.le_of_ble_eq_true rfl) ?_
  show pm_E l yX12_takeBody cX12_takeBody 2 (some .int) false 4 S (pm_ri S p) 0 [(0, .ref a0), (1, .int a1)] [] S σ
  rw [fX12_takeBody] at hf
  refine pm_iload_n (pc := 0) 1 dX12_takeBody_0 rfl rfl ?_
  by_cases hc2 : a1 = (0 : Int32)
  · rw [if_pos hc2] at hf
    refine pm_tin (pc := 1) (off := 31) 32 hc2 dX12_takeBody_1 (by decide) (by decide) ?_
    refine pm_aload_n (pc := 32) 0 dX12_takeBody_32 rfl rfl h0.pos ?_
    obtain ⟨u1, hu1, hf⟩ := pm_bind_e hf
    refine pm_cVi (pc := 33) (as := []) (st := []) mvX12_147 (KX12_takeRod l h0 hu1) (by decide) h0 rfl rfl (Nat.le_of_ble_eq_true rfl) rfl dX12_takeBody_33 ?_
    exact pm_iret rfl dX12_takeBody_36 (pm_ri_e hf)
  · rw [if_neg hc2] at hf
    by_cases hc4 : a1 = (1 : Int32)
    · rw [if_pos hc4] at hf
      refine pm_tin (pc := 1) (off := 36) 37 hc4 dX12_takeBody_1 (by decide) (by decide) ?_
      refine pm_aload_n (pc := 37) 0 dX12_takeBody_37 rfl rfl h0.pos ?_
      obtain ⟨u3, hu3, hf⟩ := pm_bind_e hf
      refine pm_cVi (pc := 38) (as := []) (st := []) mvX12_150 (KX12_takeNick l h0 hu3) (by decide) h0 rfl rfl (Nat.le_of_ble_eq_true rfl) rfl dX12_takeBody_38 ?_
      exact pm_iret rfl dX12_takeBody_41 (pm_ri_e hf)
    · rw [if_neg hc4] at hf
      by_cases hc6 : a1 = (2 : Int32)
      · rw [if_pos hc6] at hf
        refine pm_tin (pc := 1) (off := 41) 42 hc6 dX12_takeBody_1 (by decide) (by decide) ?_
        refine pm_aload_n (pc := 42) 0 dX12_takeBody_42 rfl rfl h0.pos ?_
        obtain ⟨u5, hu5, hf⟩ := pm_bind_e hf
        refine pm_cVi (pc := 43) (as := []) (st := []) mvX12_153 (KX12_takeOffice l h0 hu5) (by decide) h0 rfl rfl (Nat.le_of_ble_eq_true rfl) rfl dX12_takeBody_43 ?_
        exact pm_iret rfl dX12_takeBody_46 (pm_ri_e hf)
      · rw [if_neg hc6] at hf
        by_cases hc8 : a1 = (3 : Int32)
        · rw [if_pos hc8] at hf
          refine pm_tin (pc := 1) (off := 46) 47 hc8 dX12_takeBody_1 (by decide) (by decide) ?_
          refine pm_aload_n (pc := 47) 0 dX12_takeBody_47 rfl rfl h0.pos ?_
          obtain ⟨u7, hu7, hf⟩ := pm_bind_e hf
          refine pm_cVi (pc := 48) (as := []) (st := []) mvX12_156 (KX12_takePerson l h0 hu7) (by decide) h0 rfl rfl (Nat.le_of_ble_eq_true rfl) rfl dX12_takeBody_48 ?_
          exact pm_iret rfl dX12_takeBody_51 (pm_ri_e hf)
        · rw [if_neg hc8] at hf
          have q0 : ¬ (a1).toInt = 0 := lv_neT hc2 (by decide)
          have q1 : ¬ (a1).toInt = 1 := lv_neT hc4 (by decide)
          have q2 : ¬ (a1).toInt = 2 := lv_neT hc6 (by decide)
          have q3 : ¬ (a1).toInt = 3 := lv_neT hc8 (by decide)
          refine pm_tableOut (pc := 1) 52 dX12_takeBody_1 (by omega) (by decide) ?_
          refine pm_aload_n (pc := 52) 0 dX12_takeBody_52 rfl rfl h0.pos ?_
          obtain ⟨u9, hu9, hf⟩ := pm_bind_e hf
          refine pm_cVi (pc := 53) (as := []) (st := []) mvX12_159 (KX12_takeSways l h0 hu9) (by decide) h0 rfl rfl (Nat.le_of_ble_eq_true rfl) rfl dX12_takeBody_53 ?_
          exact pm_iret rfl dX12_takeBody_56 (pm_ri_e hf)
def fX12_takeClause_J82 (S : pm_S) (v0 : Nat) (v2 : Int32) (σ : pm_H) : Option (Int32 × pm_H) :=
  Option.bind (fX12_isFull S v0 v2 σ) fun u3 => (if u3.1 = 0 then pm_let (pm_si u3.2 v0 16 ((u3.2.1 v0 16) + (1 : Int32))) fun s4 => Option.bind (fX12_takeBody S v0 v2 s4) fun u5 => (if u5.1 = 0 then Option.bind (fX12_here S v0 u5.2) fun u7 => (if u7.1 = (59 : Int32) then pm_let (pm_si u7.2 v0 16 ((u7.2.1 v0 16) + (1 : Int32))) fun s8 => some (u5.1, s8) else Option.bind (fX12_fails S v0 (1 : Int32) (u7.2.1 v0 16) u7.2) fun u9 => some (u9.1, u9.2)) else pm_let (pm_si u5.2 v0 16 ((u5.2.1 v0 16) + (1 : Int32))) fun s6 => some (u5.1, s6)) else Option.bind (fX12_fails S v0 (3 : Int32) (u3.2.1 v0 16) u3.2) fun u12 => some (u12.1, u12.2))
set_option maxRecDepth 100000 in
set_option maxHeartbeats 4000000 in
theorem fX12_takeClause_J82_E (l : Launch) {S : pm_S} {p : Int32 × pm_H} {v0 : Nat} {v2 : Int32} {σ : pm_H} (h0 : pm_is S v0 15) (hf : fX12_takeClause_J82 S v0 v2 σ = some p) : pm_E l yX12_takeClause cX12_takeClause 4 (some .int) false 5 S (pm_ri S p) 82 [(0, .ref v0), (2, .int v2)] [] S σ := by
  rw [fX12_takeClause_J82] at hf
  refine pm_aload_n (pc := 82) 0 dX12_takeClause_82 rfl rfl h0.pos ?_
  refine pm_iload_n (pc := 83) 1 dX12_takeClause_83 rfl rfl ?_
  obtain ⟨u3, hu3, hf⟩ := pm_bind_e hf
  refine pm_cVi (pc := 84) (as := [.int v2]) (st := []) mvX12_162 (KX12_isFull l h0 hu3) (by decide) h0 rfl rfl (Nat.le_of_ble_eq_true rfl) rfl dX12_takeClause_84 ?_
  refine pm_if_eq (pc := 87) 100 dX12_takeClause_87 (by decide) (fun hc13 => ?_) (fun hc13 => ?_)
  · rw [if_pos hc13] at hf
    refine pm_aload_n (pc := 100) 0 dX12_takeClause_100 rfl rfl h0.pos ?_
    refine pm_dup (pc := 101) rfl dX12_takeClause_101 ?_
    refine pm_getI (pc := 102) (k := 16) pm_cl12 flX12_101 (by decide) rfl h0 dX12_takeClause_102 ?_
    refine pm_iconst (pc := 105) (1 : Int32) (by decide) dX12_takeClause_105 ?_
    refine pm_iadd (pc := 106) dX12_takeClause_106 ?_
    refine pm_putI (pc := 107) (k := 16) pm_cl12 flX12_101 (by decide) rfl rfl rfl h0 dX12_takeClause_107 ?_
    obtain ⟨s4, es4, hf⟩ := pm_let_e hf
    refine pm_nmh es4 ?_
    refine pm_aload_n (pc := 110) 0 dX12_takeClause_110 rfl rfl h0.pos ?_
    refine pm_iload_n (pc := 111) 1 dX12_takeClause_111 rfl rfl ?_
    obtain ⟨u5, hu5, hf⟩ := pm_bind_e hf
    refine pm_cVi (pc := 112) (as := [.int v2]) (st := []) mvX12_166 (KX12_takeBody l h0 hu5) (by decide) h0 rfl rfl (Nat.le_of_ble_eq_true rfl) rfl dX12_takeClause_112 ?_
    refine pm_istore_n (pc := 115) [(3, .int u5.1), (0, .ref v0), (2, .int v2)] dX12_takeClause_115 rfl (by decide) rfl ?_
    refine pm_iload_n (pc := 116) 0 dX12_takeClause_116 rfl rfl ?_
    refine pm_if_ne (pc := 117) 139 dX12_takeClause_117 (by decide) (fun hc11 => ?_) (fun hc11 => ?_)
    · rw [if_pos hc11] at hf
      refine pm_aload_n (pc := 120) 1 dX12_takeClause_120 rfl rfl h0.pos ?_
      obtain ⟨u7, hu7, hf⟩ := pm_bind_e hf
      refine pm_cVi (pc := 121) (as := []) (st := []) mvX12_104 (KX12_here l h0 hu7) (by decide) h0 rfl rfl (Nat.le_of_ble_eq_true rfl) rfl dX12_takeClause_121 ?_
      refine pm_bipush (pc := 124) (59 : Int32) (by decide) dX12_takeClause_124 ?_
      refine pm_icmp_eq (pc := 126) 139 dX12_takeClause_126 (by decide) (fun hc10 => ?_) (fun hc10 => ?_)
      · rw [if_pos hc10] at hf
        refine pm_aload_n (pc := 139) 1 dX12_takeClause_139 rfl rfl h0.pos ?_
        refine pm_dup (pc := 140) rfl dX12_takeClause_140 ?_
        refine pm_getI (pc := 141) (k := 16) pm_cl12 flX12_101 (by decide) rfl h0 dX12_takeClause_141 ?_
        refine pm_iconst (pc := 144) (1 : Int32) (by decide) dX12_takeClause_144 ?_
        refine pm_iadd (pc := 145) dX12_takeClause_145 ?_
        refine pm_putI (pc := 146) (k := 16) pm_cl12 flX12_101 (by decide) rfl rfl rfl h0 dX12_takeClause_146 ?_
        obtain ⟨s8, es8, hf⟩ := pm_let_e hf
        refine pm_nmh es8 ?_
        refine pm_iload_n (pc := 149) 0 dX12_takeClause_149 rfl rfl ?_
        exact pm_iret rfl dX12_takeClause_150 (pm_ri_e hf)
      · rw [if_neg hc10] at hf
        refine pm_aload_n (pc := 129) 1 dX12_takeClause_129 rfl rfl h0.pos ?_
        refine pm_iconst (pc := 130) (1 : Int32) (by decide) dX12_takeClause_130 ?_
        refine pm_aload_n (pc := 131) 1 dX12_takeClause_131 rfl rfl h0.pos ?_
        refine pm_getI (pc := 132) (k := 16) pm_cl12 flX12_101 (by decide) rfl h0 dX12_takeClause_132 ?_
        obtain ⟨u9, hu9, hf⟩ := pm_bind_e hf
        refine pm_cVi (pc := 135) (as := [.int (1 : Int32), .int (u7.2.1 v0 16)]) (st := []) mvX12_112 (KX12_fails l h0 hu9) (by decide) h0 rfl rfl (Nat.le_of_ble_eq_true rfl) rfl dX12_takeClause_135 ?_
        exact pm_iret rfl dX12_takeClause_138 (pm_ri_e hf)
    · rw [if_neg hc11] at hf
      refine pm_aload_n (pc := 139) 1 dX12_takeClause_139 rfl rfl h0.pos ?_
      refine pm_dup (pc := 140) rfl dX12_takeClause_140 ?_
      refine pm_getI (pc := 141) (k := 16) pm_cl12 flX12_101 (by decide) rfl h0 dX12_takeClause_141 ?_
      refine pm_iconst (pc := 144) (1 : Int32) (by decide) dX12_takeClause_144 ?_
      refine pm_iadd (pc := 145) dX12_takeClause_145 ?_
      refine pm_putI (pc := 146) (k := 16) pm_cl12 flX12_101 (by decide) rfl rfl rfl h0 dX12_takeClause_146 ?_
      obtain ⟨s6, es6, hf⟩ := pm_let_e hf
      refine pm_nmh es6 ?_
      refine pm_iload_n (pc := 149) 0 dX12_takeClause_149 rfl rfl ?_
      exact pm_iret rfl dX12_takeClause_150 (pm_ri_e hf)
  · rw [if_neg hc13] at hf
    refine pm_aload_n (pc := 90) 0 dX12_takeClause_90 rfl rfl h0.pos ?_
    refine pm_iconst (pc := 91) (3 : Int32) (by decide) dX12_takeClause_91 ?_
    refine pm_aload_n (pc := 92) 0 dX12_takeClause_92 rfl rfl h0.pos ?_
    refine pm_getI (pc := 93) (k := 16) pm_cl12 flX12_101 (by decide) rfl h0 dX12_takeClause_93 ?_
    obtain ⟨u12, hu12, hf⟩ := pm_bind_e hf
    refine pm_cVi (pc := 96) (as := [.int (3 : Int32), .int (u3.2.1 v0 16)]) (st := []) mvX12_112 (KX12_fails l h0 hu12) (by decide) h0 rfl rfl (Nat.le_of_ble_eq_true rfl) rfl dX12_takeClause_96 ?_
    exact pm_iret rfl dX12_takeClause_99 (pm_ri_e hf)
def fX12_takeClause_J56 (S : pm_S) (v0 : Nat) (t0 : Int32) (σ : pm_H) : Option (Int32 × pm_H) :=
  (if t0 < 0 then Option.bind (fX12_fails S v0 (1 : Int32) (σ.1 v0 16) σ) fun u2 => some (u2.1, u2.2) else (if t0 ≤ 0 then fX12_takeClause_J82 S v0 t0 σ else (if (σ.1 v0 19) = 0 then Option.bind (fX12_fails S v0 (1 : Int32) (σ.1 v0 16) σ) fun u14 => some (u14.1, u14.2) else fX12_takeClause_J82 S v0 t0 σ)))
set_option maxRecDepth 100000 in
set_option maxHeartbeats 4000000 in
theorem fX12_takeClause_J56_E (l : Launch) {S : pm_S} {p : Int32 × pm_H} {v0 : Nat} {t0 : Int32} {σ : pm_H} (h0 : pm_is S v0 15) (hf : fX12_takeClause_J56 S v0 t0 σ = some p) : pm_E l yX12_takeClause cX12_takeClause 4 (some .int) false 5 S (pm_ri S p) 56 [(0, .ref v0)] [.int t0] S σ := by
  rw [fX12_takeClause_J56] at hf
  refine pm_istore_n (pc := 56) [(2, .int t0), (0, .ref v0)] dX12_takeClause_56 rfl (by decide) rfl ?_
  refine pm_iload_n (pc := 57) 0 dX12_takeClause_57 rfl rfl ?_
  refine pm_if_lt (pc := 58) 72 dX12_takeClause_58 (by decide) (fun hc17 => ?_) (fun hc17 => ?_)
  · rw [if_pos hc17] at hf
    refine pm_aload_n (pc := 72) 1 dX12_takeClause_72 rfl rfl h0.pos ?_
    refine pm_iconst (pc := 73) (1 : Int32) (by decide) dX12_takeClause_73 ?_
    refine pm_aload_n (pc := 74) 1 dX12_takeClause_74 rfl rfl h0.pos ?_
    refine pm_getI (pc := 75) (k := 16) pm_cl12 flX12_101 (by decide) rfl h0 dX12_takeClause_75 ?_
    obtain ⟨u2, hu2, hf⟩ := pm_bind_e hf
    refine pm_cVi (pc := 78) (as := [.int (1 : Int32), .int (σ.1 v0 16)]) (st := []) mvX12_112 (KX12_fails l h0 hu2) (by decide) h0 rfl rfl (Nat.le_of_ble_eq_true rfl) rfl dX12_takeClause_78 ?_
    exact pm_iret rfl dX12_takeClause_81 (pm_ri_e hf)
  · rw [if_neg hc17] at hf
    refine pm_iload_n (pc := 61) 0 dX12_takeClause_61 rfl rfl ?_
    refine pm_if_le (pc := 62) 82 dX12_takeClause_62 (by decide) (fun hc16 => ?_) (fun hc16 => ?_)
    · rw [if_pos hc16] at hf
      refine pm_lv [(0, .ref v0), (2, .int t0)] [1, 0] rfl ?_
      exact fX12_takeClause_J82_E l h0 hf
    · rw [if_neg hc16] at hf
      refine pm_aload_n (pc := 65) 1 dX12_takeClause_65 rfl rfl h0.pos ?_
      refine pm_getI (pc := 66) (k := 19) pm_cl12 flX12_125 (by decide) rfl h0 dX12_takeClause_66 ?_
      refine pm_if_ne (pc := 69) 82 dX12_takeClause_69 (by decide) (fun hc15 => ?_) (fun hc15 => ?_)
      · rw [if_pos hc15] at hf
        refine pm_aload_n (pc := 72) 1 dX12_takeClause_72 rfl rfl h0.pos ?_
        refine pm_iconst (pc := 73) (1 : Int32) (by decide) dX12_takeClause_73 ?_
        refine pm_aload_n (pc := 74) 1 dX12_takeClause_74 rfl rfl h0.pos ?_
        refine pm_getI (pc := 75) (k := 16) pm_cl12 flX12_101 (by decide) rfl h0 dX12_takeClause_75 ?_
        obtain ⟨u14, hu14, hf⟩ := pm_bind_e hf
        refine pm_cVi (pc := 78) (as := [.int (1 : Int32), .int (σ.1 v0 16)]) (st := []) mvX12_112 (KX12_fails l h0 hu14) (by decide) h0 rfl rfl (Nat.le_of_ble_eq_true rfl) rfl dX12_takeClause_78 ?_
        exact pm_iret rfl dX12_takeClause_81 (pm_ri_e hf)
      · rw [if_neg hc15] at hf
        refine pm_lv [(0, .ref v0), (2, .int t0)] [1, 0] rfl ?_
        exact fX12_takeClause_J82_E l h0 hf
def fX12_takeClause (S : pm_S) (a0 : Nat) (σ : pm_H) : Option (Int32 × pm_H) :=
  Option.bind (fX12_here S a0 σ) fun u1 => (if u1.1 = (114 : Int32) then fX12_takeClause_J56 S a0 (0 : Int32) u1.2 else (if u1.1 = (110 : Int32) then fX12_takeClause_J56 S a0 (1 : Int32) u1.2 else (if u1.1 = (111 : Int32) then fX12_takeClause_J56 S a0 (2 : Int32) u1.2 else (if u1.1 = (112 : Int32) then fX12_takeClause_J56 S a0 (3 : Int32) u1.2 else (if u1.1 = (100 : Int32) then fX12_takeClause_J56 S a0 (4 : Int32) u1.2 else fX12_takeClause_J56 S a0 (-1 : Int32) u1.2)))))
set_option maxRecDepth 100000 in
set_option maxHeartbeats 4000000 in
theorem KX12_takeClause (l : Launch) {S : pm_S} {p : Int32 × pm_H} {a0 : Nat} {σ : pm_H} (h0 : pm_is S a0 15) (hf : fX12_takeClause S a0 σ = some p) : pm_M l yX12_takeClause cX12_takeClause 4 (some .int) false 5 [.ref a0] S σ (pm_ri S p) := by
  refine pm_M.of (by decide +kernel) (Nat.le_of_ble_eq_true rfl) ?_
  show pm_E l yX12_takeClause cX12_takeClause 4 (some .int) false 5 S (pm_ri S p) 0 [(0, .ref a0)] [] S σ
  rw [fX12_takeClause] at hf
  refine pm_aload_n (pc := 0) 0 dX12_takeClause_0 rfl rfl h0.pos ?_
  obtain ⟨u1, hu1, hf⟩ := pm_bind_e hf
  refine pm_cVi (pc := 1) (as := []) (st := []) mvX12_104 (KX12_here l h0 hu1) (by decide) h0 rfl rfl (Nat.le_of_ble_eq_true rfl) rfl dX12_takeClause_1 ?_
  refine pm_istore_n (pc := 4) [(1, .int u1.1), (0, .ref a0)] dX12_takeClause_4 rfl (by decide) rfl ?_
  refine pm_iload_n (pc := 5) 0 dX12_takeClause_5 rfl rfl ?_
  refine pm_bipush (pc := 6) (114 : Int32) (by decide) dX12_takeClause_6 ?_
  refine pm_icmp_ne (pc := 8) 15 dX12_takeClause_8 (by decide) (fun hc22 => ?_) (fun hc22 => ?_)
  · rw [if_pos hc22] at hf
    refine pm_iconst (pc := 11) (0 : Int32) (by decide) dX12_takeClause_11 ?_
    refine pm_goto (pc := 12) 56 dX12_takeClause_12 (by decide) ?_
    refine pm_lv [(0, .ref a0)] [1] rfl ?_
    exact fX12_takeClause_J56_E l h0 hf
  · rw [if_neg hc22] at hf
    refine pm_iload_n (pc := 15) 0 dX12_takeClause_15 rfl rfl ?_
    refine pm_bipush (pc := 16) (110 : Int32) (by decide) dX12_takeClause_16 ?_
    refine pm_icmp_ne (pc := 18) 25 dX12_takeClause_18 (by decide) (fun hc21 => ?_) (fun hc21 => ?_)
    · rw [if_pos hc21] at hf
      refine pm_iconst (pc := 21) (1 : Int32) (by decide) dX12_takeClause_21 ?_
      refine pm_goto (pc := 22) 56 dX12_takeClause_22 (by decide) ?_
      refine pm_lv [(0, .ref a0)] [1] rfl ?_
      exact fX12_takeClause_J56_E l h0 hf
    · rw [if_neg hc21] at hf
      refine pm_iload_n (pc := 25) 0 dX12_takeClause_25 rfl rfl ?_
      refine pm_bipush (pc := 26) (111 : Int32) (by decide) dX12_takeClause_26 ?_
      refine pm_icmp_ne (pc := 28) 35 dX12_takeClause_28 (by decide) (fun hc20 => ?_) (fun hc20 => ?_)
      · rw [if_pos hc20] at hf
        refine pm_iconst (pc := 31) (2 : Int32) (by decide) dX12_takeClause_31 ?_
        refine pm_goto (pc := 32) 56 dX12_takeClause_32 (by decide) ?_
        refine pm_lv [(0, .ref a0)] [1] rfl ?_
        exact fX12_takeClause_J56_E l h0 hf
      · rw [if_neg hc20] at hf
        refine pm_iload_n (pc := 35) 0 dX12_takeClause_35 rfl rfl ?_
        refine pm_bipush (pc := 36) (112 : Int32) (by decide) dX12_takeClause_36 ?_
        refine pm_icmp_ne (pc := 38) 45 dX12_takeClause_38 (by decide) (fun hc19 => ?_) (fun hc19 => ?_)
        · rw [if_pos hc19] at hf
          refine pm_iconst (pc := 41) (3 : Int32) (by decide) dX12_takeClause_41 ?_
          refine pm_goto (pc := 42) 56 dX12_takeClause_42 (by decide) ?_
          refine pm_lv [(0, .ref a0)] [1] rfl ?_
          exact fX12_takeClause_J56_E l h0 hf
        · rw [if_neg hc19] at hf
          refine pm_iload_n (pc := 45) 0 dX12_takeClause_45 rfl rfl ?_
          refine pm_bipush (pc := 46) (100 : Int32) (by decide) dX12_takeClause_46 ?_
          refine pm_icmp_ne (pc := 48) 55 dX12_takeClause_48 (by decide) (fun hc18 => ?_) (fun hc18 => ?_)
          · rw [if_pos hc18] at hf
            refine pm_iconst (pc := 51) (4 : Int32) (by decide) dX12_takeClause_51 ?_
            refine pm_goto (pc := 52) 56 dX12_takeClause_52 (by decide) ?_
            refine pm_lv [(0, .ref a0)] [1] rfl ?_
            exact fX12_takeClause_J56_E l h0 hf
          · rw [if_neg hc18] at hf
            refine pm_iconst (pc := 55) (-1 : Int32) (by decide) dX12_takeClause_55 ?_
            refine pm_lv [(0, .ref a0)] [1] rfl ?_
            exact fX12_takeClause_J56_E l h0 hf
def fX12_copyRow_L2 (S : pm_S) (v0 : Nat) (v1 : Nat) (v2 : Int32) (kx : pm_H → Option (pm_H)) : Nat → Int32 → pm_H → Option (pm_H)
  | 0, _, _ => none
  | n + 1, v3, σ => (if v2 ≤ v3 then kx σ else (if pm_ib v3 (pm_len S v0) = true then (if pm_ib v3 (pm_len S v1) = true then pm_let (pm_si σ v1 (v3).toNatClampNeg (σ.1 v0 (v3).toNatClampNeg)) fun s3 => fX12_copyRow_L2 S v0 v1 v2 kx n (v3 + (1 : Int32)) s3 else none) else none))
set_option maxRecDepth 100000 in
set_option maxHeartbeats 4000000 in
theorem fX12_copyRow_L2_E (l : Launch) {S : pm_S} {p : pm_H} {v0 : Nat} {v1 : Nat} {v2 : Int32} {kx : pm_H → Option (pm_H)} (h0 : pm_is S v0 0) (h1 : pm_is S v1 0) (hkx : ∀  sw, kx  sw = some p → pm_E l yX12_copyRow cX12_copyRow 4 none false 0 S (pm_ru S p) 19 [] [] S sw) : ∀ (n : Nat) (v3 : Int32) (σ : pm_H), fX12_copyRow_L2 S v0 v1 v2 kx n v3 σ = some p → pm_E l yX12_copyRow cX12_copyRow 4 none false 0 S (pm_ru S p) 2 [(0, .ref v0), (1, .ref v1), (2, .int v2), (3, .int v3)] [] S σ := by
  intro n
  induction n with
  | zero => intro v3 σ hf; cases hf
  | succ n ih =>
    intro v3 σ hf
    rw [fX12_copyRow_L2] at hf
    refine pm_iload_n (pc := 2) 3 dX12_copyRow_2 rfl rfl ?_
    refine pm_iload_n (pc := 3) 2 dX12_copyRow_3 rfl rfl ?_
    refine pm_icmp_ge (pc := 4) 19 dX12_copyRow_4 (by decide) (fun hc4 => ?_) (fun hc4 => ?_)
    · rw [if_pos hc4] at hf
      refine pm_lv [] [] rfl ?_
      exact hkx σ hf
    · rw [if_neg hc4] at hf
      refine pm_aload_n (pc := 7) 1 dX12_copyRow_7 rfl rfl h1.pos ?_
      refine pm_iload_n (pc := 8) 3 dX12_copyRow_8 rfl rfl ?_
      refine pm_aload_n (pc := 9) 0 dX12_copyRow_9 rfl rfl h0.pos ?_
      refine pm_iload_n (pc := 10) 3 dX12_copyRow_10 rfl rfl ?_
      obtain ⟨hb1, hf⟩ := pm_gd hf
      refine pm_iald (pc := 11) h0 (pm_ib_in hb1) dX12_copyRow_11 ?_
      obtain ⟨hb2, hf⟩ := pm_gd hf
      refine pm_iast (pc := 12) h1 (pm_ib_in hb2) dX12_copyRow_12 ?_
      obtain ⟨s3, es3, hf⟩ := pm_let_e hf
      refine pm_nmh es3 ?_
      refine pm_iinc (pc := 13) 3 (v3 + (1 : Int32)) [(3, .int (v3 + (1 : Int32))), (0, .ref v0), (1, .ref v1), (2, .int v2)] dX12_copyRow_13 rfl rfl (by decide) rfl ?_
      refine pm_goto (pc := 16) 2 dX12_copyRow_16 (by decide) ?_
      refine pm_lv [(0, .ref v0), (1, .ref v1), (2, .int v2), (3, .int (v3 + (1 : Int32)))] [1, 2, 3, 0] rfl ?_
      exact ih (v3 + (1 : Int32)) s3 hf
def fX12_copyRow (S : pm_S) (a0 : Nat) (a1 : Nat) (a2 : Int32) (σ : pm_H) : Option (pm_H) :=
  fX12_copyRow_L2 S a0 a1 a2 (fun s5 => some s5) pm_fuel (0 : Int32) σ
set_option maxRecDepth 100000 in
set_option maxHeartbeats 4000000 in
theorem KX12_copyRow (l : Launch) {S : pm_S} {p : pm_H} {a0 : Nat} {a1 : Nat} {a2 : Int32} {σ : pm_H} (h0 : pm_is S a0 0) (h1 : pm_is S a1 0) (hf : fX12_copyRow S a0 a1 a2 σ = some p) : pm_M l yX12_copyRow cX12_copyRow 4 none false 0 [.ref a0, .ref a1, .int a2] S σ (pm_ru S p) := by
  refine pm_M.of (by decide +kernel) (Nat.le_of_ble_eq_true rfl) ?_
  show pm_E l yX12_copyRow cX12_copyRow 4 none false 0 S (pm_ru S p) 0 [(0, .ref a0), (1, .ref a1), (2, .int a2)] [] S σ
  rw [fX12_copyRow] at hf
  refine pm_iconst (pc := 0) (0 : Int32) (by decide) dX12_copyRow_0 ?_
  refine pm_istore_n (pc := 1) [(3, .int (0 : Int32)), (0, .ref a0), (1, .ref a1), (2, .int a2)] dX12_copyRow_1 rfl (by decide) rfl ?_
  refine pm_lv [(0, .ref a0), (1, .ref a1), (2, .int a2), (3, .int (0 : Int32))] [1, 2, 3, 0] rfl ?_
  refine fX12_copyRow_L2_E l h0 h1 (fun s5 hf => ?_) pm_fuel (0 : Int32) σ hf
  exact pm_vret rfl dX12_copyRow_19 (pm_ru_e hf)
def fX12_takeRead_L125 (S : pm_S) (v0 : Nat) (kx : pm_H → Option (pm_H)) : Nat → Int32 → pm_H → Option (pm_H)
  | 0, _, _ => none
  | n + 1, v1, σ => (if (80 : Int32) ≤ v1 then kx σ else (if pm_ib v1 (pm_len S (σ.2 v0 11)) = true then pm_let (pm_si σ (σ.2 v0 11) (v1).toNatClampNeg (0 : Int32)) fun s24 => fX12_takeRead_L125 S v0 kx n (v1 + (1 : Int32)) s24 else none))
set_option maxRecDepth 100000 in
set_option maxHeartbeats 4000000 in
theorem fX12_takeRead_L125_E (l : Launch) {S : pm_S} {p : pm_H} {v0 : Nat} {kx : pm_H → Option (pm_H)} (h0 : pm_is S v0 15) (hkx : ∀  sw, kx  sw = some p → pm_E l yX12_takeRead cX12_takeRead 2 none false 1 S (pm_ru S p) 144 [(0, .ref v0)] [] S sw) : ∀ (n : Nat) (v1 : Int32) (σ : pm_H), fX12_takeRead_L125 S v0 kx n v1 σ = some p → pm_E l yX12_takeRead cX12_takeRead 2 none false 1 S (pm_ru S p) 125 [(0, .ref v0), (1, .int v1)] [] S σ := by
  intro n
  induction n with
  | zero => intro v1 σ hf; cases hf
  | succ n ih =>
    intro v1 σ hf
    rw [fX12_takeRead_L125] at hf
    refine pm_iload_n (pc := 125) 1 dX12_takeRead_125 rfl rfl ?_
    refine pm_bipush (pc := 126) (80 : Int32) (by decide) dX12_takeRead_126 ?_
    refine pm_icmp_ge (pc := 128) 144 dX12_takeRead_128 (by decide) (fun hc25 => ?_) (fun hc25 => ?_)
    · rw [if_pos hc25] at hf
      refine pm_lv [(0, .ref v0)] [0] rfl ?_
      exact hkx σ hf
    · rw [if_neg hc25] at hf
      refine pm_aload_n (pc := 131) 0 dX12_takeRead_131 rfl rfl h0.pos ?_
      refine pm_getT (pc := 132) (k := 11) pm_cl12 flX12_25 (by decide) rfl h0 dX12_takeRead_132 (fun hr22 => ?_)
      refine pm_iload_n (pc := 135) 1 dX12_takeRead_135 rfl rfl ?_
      refine pm_iconst (pc := 136) (0 : Int32) (by decide) dX12_takeRead_136 ?_
      obtain ⟨hb23, hf⟩ := pm_gd hf
      refine pm_iast (pc := 137) hr22 (pm_ib_in hb23) dX12_takeRead_137 ?_
      obtain ⟨s24, es24, hf⟩ := pm_let_e hf
      refine pm_nmh es24 ?_
      refine pm_iinc (pc := 138) 1 (v1 + (1 : Int32)) [(1, .int (v1 + (1 : Int32))), (0, .ref v0)] dX12_takeRead_138 rfl rfl (by decide) rfl ?_
      refine pm_goto (pc := 141) 125 dX12_takeRead_141 (by decide) ?_
      refine pm_lv [(0, .ref v0), (1, .int (v1 + (1 : Int32)))] [1, 0] rfl ?_
      exact ih (v1 + (1 : Int32)) s24 hf
def fX12_takeRead_L156 (S : pm_S) (v0 : Nat) (kx : pm_H → Option (pm_H)) : Nat → Int32 → pm_H → Option (pm_H)
  | 0, _, _ => none
  | n + 1, v1, σ => (if (σ.1 v0 7) ≤ v1 then kx σ else (if pm_ib v1 (pm_len S (σ.2 v0 8)) = true then (if pm_ib ((74 : Int32) + v1) (pm_len S (σ.2 v0 11)) = true then pm_let (pm_si σ (σ.2 v0 11) (((74 : Int32) + v1)).toNatClampNeg (σ.1 (σ.2 v0 8) (v1).toNatClampNeg)) fun s34 => fX12_takeRead_L156 S v0 kx n (v1 + (1 : Int32)) s34 else none) else none))
set_option maxRecDepth 100000 in
set_option maxHeartbeats 4000000 in
theorem fX12_takeRead_L156_E (l : Launch) {S : pm_S} {p : pm_H} {v0 : Nat} {kx : pm_H → Option (pm_H)} (h0 : pm_is S v0 15) (hkx : ∀  sw, kx  sw = some p → pm_E l yX12_takeRead cX12_takeRead 2 none false 1 S (pm_ru S p) 185 [] [] S sw) : ∀ (n : Nat) (v1 : Int32) (σ : pm_H), fX12_takeRead_L156 S v0 kx n v1 σ = some p → pm_E l yX12_takeRead cX12_takeRead 2 none false 1 S (pm_ru S p) 156 [(0, .ref v0), (1, .int v1)] [] S σ := by
  intro n
  induction n with
  | zero => intro v1 σ hf; cases hf
  | succ n ih =>
    intro v1 σ hf
    rw [fX12_takeRead_L156] at hf
    refine pm_iload_n (pc := 156) 1 dX12_takeRead_156 rfl rfl ?_
    refine pm_aload_n (pc := 157) 0 dX12_takeRead_157 rfl rfl h0.pos ?_
    refine pm_getI (pc := 158) (k := 7) pm_cl12 flX12_91 (by decide) rfl h0 dX12_takeRead_158 ?_
    refine pm_icmp_ge (pc := 161) 185 dX12_takeRead_161 (by decide) (fun hc35 => ?_) (fun hc35 => ?_)
    · rw [if_pos hc35] at hf
      refine pm_lv [] [] rfl ?_
      exact hkx σ hf
    · rw [if_neg hc35] at hf
      refine pm_aload_n (pc := 164) 0 dX12_takeRead_164 rfl rfl h0.pos ?_
      refine pm_getT (pc := 165) (k := 11) pm_cl12 flX12_25 (by decide) rfl h0 dX12_takeRead_165 (fun hr30 => ?_)
      refine pm_bipush (pc := 168) (74 : Int32) (by decide) dX12_takeRead_168 ?_
      refine pm_iload_n (pc := 170) 1 dX12_takeRead_170 rfl rfl ?_
      refine pm_iadd (pc := 171) dX12_takeRead_171 ?_
      refine pm_aload_n (pc := 172) 0 dX12_takeRead_172 rfl rfl h0.pos ?_
      refine pm_getT (pc := 173) (k := 8) pm_cl12 flX12_19 (by decide) rfl h0 dX12_takeRead_173 (fun hr31 => ?_)
      refine pm_iload_n (pc := 176) 1 dX12_takeRead_176 rfl rfl ?_
      obtain ⟨hb32, hf⟩ := pm_gd hf
      refine pm_iald (pc := 177) hr31 (pm_ib_in hb32) dX12_takeRead_177 ?_
      obtain ⟨hb33, hf⟩ := pm_gd hf
      refine pm_iast (pc := 178) hr30 (pm_ib_in hb33) dX12_takeRead_178 ?_
      obtain ⟨s34, es34, hf⟩ := pm_let_e hf
      refine pm_nmh es34 ?_
      refine pm_iinc (pc := 179) 1 (v1 + (1 : Int32)) [(1, .int (v1 + (1 : Int32))), (0, .ref v0)] dX12_takeRead_179 rfl rfl (by decide) rfl ?_
      refine pm_goto (pc := 182) 156 dX12_takeRead_182 (by decide) ?_
      refine pm_lv [(0, .ref v0), (1, .int (v1 + (1 : Int32)))] [1, 0] rfl ?_
      exact ih (v1 + (1 : Int32)) s34 hf
def fX12_takeRead (S : pm_S) (a0 : Nat) (σ : pm_H) : Option (pm_H) :=
  pm_let (pm_si σ a0 0 (σ.1 a0 19)) fun s1 => pm_let (pm_si s1 a0 1 (s1.1 a0 20)) fun s2 => pm_let (pm_si s2 a0 2 (s2.1 a0 21)) fun s3 => pm_let (pm_si s3 a0 4 (s3.1 a0 23)) fun s4 => pm_let (pm_si s4 a0 7 (s4.1 a0 26)) fun s5 => pm_let (pm_si s5 a0 9 (s5.1 a0 28)) fun s6 => Option.bind (fX12_copyRow S (s6.2 a0 22) (s6.2 a0 3) (s6.1 a0 2) s6) fun u9 => Option.bind (fX12_copyRow S (u9.2 a0 24) (u9.2 a0 5) (u9.1 a0 4) u9) fun u12 => Option.bind (fX12_copyRow S (u12.2 a0 25) (u12.2 a0 6) (u12.1 a0 4) u12) fun u15 => Option.bind (fX12_copyRow S (u15.2 a0 27) (u15.2 a0 8) (u15.1 a0 7) u15) fun u18 => Option.bind (fX12_copyRow S (u18.2 a0 29) (u18.2 a0 10) (u18.1 a0 9) u18) fun u21 => fX12_takeRead_L125 S a0 (fun s26 => (if pm_ib (0 : Int32) (pm_len S (s26.2 a0 11)) = true then pm_let (pm_si s26 (s26.2 a0 11) ((0 : Int32)).toNatClampNeg (s26.1 a0 0)) fun s29 => fX12_takeRead_L156 S a0 (fun s36 => some s36) pm_fuel (0 : Int32) s29 else none)) pm_fuel (0 : Int32) u21
set_option maxRecDepth 100000 in
set_option maxHeartbeats 4000000 in
theorem KX12_takeRead (l : Launch) {S : pm_S} {p : pm_H} {a0 : Nat} {σ : pm_H} (h0 : pm_is S a0 15) (hf : fX12_takeRead S a0 σ = some p) : pm_M l yX12_takeRead cX12_takeRead 2 none false 1 [.ref a0] S σ (pm_ru S p) := by
  refine pm_M.of (by decide +kernel) (Nat.le_of_ble_eq_true rfl) ?_
  show pm_E l yX12_takeRead cX12_takeRead 2 none false 1 S (pm_ru S p) 0 [(0, .ref a0)] [] S σ
  rw [fX12_takeRead] at hf
  refine pm_aload_n (pc := 0) 0 dX12_takeRead_0 rfl rfl h0.pos ?_
  refine pm_aload_n (pc := 1) 0 dX12_takeRead_1 rfl rfl h0.pos ?_
  refine pm_getI (pc := 2) (k := 19) pm_cl12 flX12_125 (by decide) rfl h0 dX12_takeRead_2 ?_
  refine pm_putI (pc := 5) (k := 0) pm_cl12 flX12_81 (by decide) rfl rfl rfl h0 dX12_takeRead_5 ?_
  obtain ⟨s1, es1, hf⟩ := pm_let_e hf
  refine pm_nmh es1 ?_
  refine pm_aload_n (pc := 8) 0 dX12_takeRead_8 rfl rfl h0.pos ?_
  refine pm_aload_n (pc := 9) 0 dX12_takeRead_9 rfl rfl h0.pos ?_
  refine pm_getI (pc := 10) (k := 20) pm_cl12 flX12_128 (by decide) rfl h0 dX12_takeRead_10 ?_
  refine pm_putI (pc := 13) (k := 1) pm_cl12 flX12_170 (by decide) rfl rfl rfl h0 dX12_takeRead_13 ?_
  obtain ⟨s2, es2, hf⟩ := pm_let_e hf
  refine pm_nmh es2 ?_
  refine pm_aload_n (pc := 16) 0 dX12_takeRead_16 rfl rfl h0.pos ?_
  refine pm_aload_n (pc := 17) 0 dX12_takeRead_17 rfl rfl h0.pos ?_
  refine pm_getI (pc := 18) (k := 21) pm_cl12 flX12_131 (by decide) rfl h0 dX12_takeRead_18 ?_
  refine pm_putI (pc := 21) (k := 2) pm_cl12 flX12_173 (by decide) rfl rfl rfl h0 dX12_takeRead_21 ?_
  obtain ⟨s3, es3, hf⟩ := pm_let_e hf
  refine pm_nmh es3 ?_
  refine pm_aload_n (pc := 24) 0 dX12_takeRead_24 rfl rfl h0.pos ?_
  refine pm_aload_n (pc := 25) 0 dX12_takeRead_25 rfl rfl h0.pos ?_
  refine pm_getI (pc := 26) (k := 23) pm_cl12 flX12_138 (by decide) rfl h0 dX12_takeRead_26 ?_
  refine pm_putI (pc := 29) (k := 4) pm_cl12 flX12_84 (by decide) rfl rfl rfl h0 dX12_takeRead_29 ?_
  obtain ⟨s4, es4, hf⟩ := pm_let_e hf
  refine pm_nmh es4 ?_
  refine pm_aload_n (pc := 32) 0 dX12_takeRead_32 rfl rfl h0.pos ?_
  refine pm_aload_n (pc := 33) 0 dX12_takeRead_33 rfl rfl h0.pos ?_
  refine pm_getI (pc := 34) (k := 26) pm_cl12 flX12_141 (by decide) rfl h0 dX12_takeRead_34 ?_
  refine pm_putI (pc := 37) (k := 7) pm_cl12 flX12_91 (by decide) rfl rfl rfl h0 dX12_takeRead_37 ?_
  obtain ⟨s5, es5, hf⟩ := pm_let_e hf
  refine pm_nmh es5 ?_
  refine pm_aload_n (pc := 40) 0 dX12_takeRead_40 rfl rfl h0.pos ?_
  refine pm_aload_n (pc := 41) 0 dX12_takeRead_41 rfl rfl h0.pos ?_
  refine pm_getI (pc := 42) (k := 28) pm_cl12 flX12_144 (by decide) rfl h0 dX12_takeRead_42 ?_
  refine pm_putI (pc := 45) (k := 9) pm_cl12 flX12_176 (by decide) rfl rfl rfl h0 dX12_takeRead_45 ?_
  obtain ⟨s6, es6, hf⟩ := pm_let_e hf
  refine pm_nmh es6 ?_
  refine pm_aload_n (pc := 48) 0 dX12_takeRead_48 rfl rfl h0.pos ?_
  refine pm_getT (pc := 49) (k := 22) pm_cl12 flX12_35 (by decide) rfl h0 dX12_takeRead_49 (fun hr7 => ?_)
  refine pm_aload_n (pc := 52) 0 dX12_takeRead_52 rfl rfl h0.pos ?_
  refine pm_getT (pc := 53) (k := 3) pm_cl12 flX12_7 (by decide) rfl h0 dX12_takeRead_53 (fun hr8 => ?_)
  refine pm_aload_n (pc := 56) 0 dX12_takeRead_56 rfl rfl h0.pos ?_
  refine pm_getI (pc := 57) (k := 2) pm_cl12 flX12_173 (by decide) rfl h0 dX12_takeRead_57 ?_
  obtain ⟨u9, hu9, hf⟩ := pm_bind_e hf
  refine pm_cSu (pc := 60) (as := [.ref (s6.2 a0 22), .ref (s6.2 a0 3), .int (s6.1 a0 2)]) (st := []) msX12_179 (KX12_copyRow l hr7 hr8 hu9) (by decide) rfl rfl (Nat.le_of_ble_eq_true rfl) rfl dX12_takeRead_60 ?_
  refine pm_aload_n (pc := 63) 0 dX12_takeRead_63 rfl rfl h0.pos ?_
  refine pm_getT (pc := 64) (k := 24) pm_cl12 flX12_38 (by decide) rfl h0 dX12_takeRead_64 (fun hr10 => ?_)
  refine pm_aload_n (pc := 67) 0 dX12_takeRead_67 rfl rfl h0.pos ?_
  refine pm_getT (pc := 68) (k := 5) pm_cl12 flX12_13 (by decide) rfl h0 dX12_takeRead_68 (fun hr11 => ?_)
  refine pm_aload_n (pc := 71) 0 dX12_takeRead_71 rfl rfl h0.pos ?_
  refine pm_getI (pc := 72) (k := 4) pm_cl12 flX12_84 (by decide) rfl h0 dX12_takeRead_72 ?_
  obtain ⟨u12, hu12, hf⟩ := pm_bind_e hf
  refine pm_cSu (pc := 75) (as := [.ref (u9.2 a0 24), .ref (u9.2 a0 5), .int (u9.1 a0 4)]) (st := []) msX12_179 (KX12_copyRow l hr10 hr11 hu12) (by decide) rfl rfl (Nat.le_of_ble_eq_true rfl) rfl dX12_takeRead_75 ?_
  refine pm_aload_n (pc := 78) 0 dX12_takeRead_78 rfl rfl h0.pos ?_
  refine pm_getT (pc := 79) (k := 25) pm_cl12 flX12_41 (by decide) rfl h0 dX12_takeRead_79 (fun hr13 => ?_)
  refine pm_aload_n (pc := 82) 0 dX12_takeRead_82 rfl rfl h0.pos ?_
  refine pm_getT (pc := 83) (k := 6) pm_cl12 flX12_16 (by decide) rfl h0 dX12_takeRead_83 (fun hr14 => ?_)
  refine pm_aload_n (pc := 86) 0 dX12_takeRead_86 rfl rfl h0.pos ?_
  refine pm_getI (pc := 87) (k := 4) pm_cl12 flX12_84 (by decide) rfl h0 dX12_takeRead_87 ?_
  obtain ⟨u15, hu15, hf⟩ := pm_bind_e hf
  refine pm_cSu (pc := 90) (as := [.ref (u12.2 a0 25), .ref (u12.2 a0 6), .int (u12.1 a0 4)]) (st := []) msX12_179 (KX12_copyRow l hr13 hr14 hu15) (by decide) rfl rfl (Nat.le_of_ble_eq_true rfl) rfl dX12_takeRead_90 ?_
  refine pm_aload_n (pc := 93) 0 dX12_takeRead_93 rfl rfl h0.pos ?_
  refine pm_getT (pc := 94) (k := 27) pm_cl12 flX12_44 (by decide) rfl h0 dX12_takeRead_94 (fun hr16 => ?_)
  refine pm_aload_n (pc := 97) 0 dX12_takeRead_97 rfl rfl h0.pos ?_
  refine pm_getT (pc := 98) (k := 8) pm_cl12 flX12_19 (by decide) rfl h0 dX12_takeRead_98 (fun hr17 => ?_)
  refine pm_aload_n (pc := 101) 0 dX12_takeRead_101 rfl rfl h0.pos ?_
  refine pm_getI (pc := 102) (k := 7) pm_cl12 flX12_91 (by decide) rfl h0 dX12_takeRead_102 ?_
  obtain ⟨u18, hu18, hf⟩ := pm_bind_e hf
  refine pm_cSu (pc := 105) (as := [.ref (u15.2 a0 27), .ref (u15.2 a0 8), .int (u15.1 a0 7)]) (st := []) msX12_179 (KX12_copyRow l hr16 hr17 hu18) (by decide) rfl rfl (Nat.le_of_ble_eq_true rfl) rfl dX12_takeRead_105 ?_
  refine pm_aload_n (pc := 108) 0 dX12_takeRead_108 rfl rfl h0.pos ?_
  refine pm_getT (pc := 109) (k := 29) pm_cl12 flX12_47 (by decide) rfl h0 dX12_takeRead_109 (fun hr19 => ?_)
  refine pm_aload_n (pc := 112) 0 dX12_takeRead_112 rfl rfl h0.pos ?_
  refine pm_getT (pc := 113) (k := 10) pm_cl12 flX12_22 (by decide) rfl h0 dX12_takeRead_113 (fun hr20 => ?_)
  refine pm_aload_n (pc := 116) 0 dX12_takeRead_116 rfl rfl h0.pos ?_
  refine pm_getI (pc := 117) (k := 9) pm_cl12 flX12_176 (by decide) rfl h0 dX12_takeRead_117 ?_
  obtain ⟨u21, hu21, hf⟩ := pm_bind_e hf
  refine pm_cSu (pc := 120) (as := [.ref (u18.2 a0 29), .ref (u18.2 a0 10), .int (u18.1 a0 9)]) (st := []) msX12_179 (KX12_copyRow l hr19 hr20 hu21) (by decide) rfl rfl (Nat.le_of_ble_eq_true rfl) rfl dX12_takeRead_120 ?_
  refine pm_iconst (pc := 123) (0 : Int32) (by decide) dX12_takeRead_123 ?_
  refine pm_istore_n (pc := 124) [(1, .int (0 : Int32)), (0, .ref a0)] dX12_takeRead_124 rfl (by decide) rfl ?_
  refine pm_lv [(0, .ref a0), (1, .int (0 : Int32))] [1, 0] rfl ?_
  refine fX12_takeRead_L125_E l h0 (fun s26 hf => ?_) pm_fuel (0 : Int32) u21 hf
  refine pm_aload_n (pc := 144) 0 dX12_takeRead_144 rfl rfl h0.pos ?_
  refine pm_getT (pc := 145) (k := 11) pm_cl12 flX12_25 (by decide) rfl h0 dX12_takeRead_145 (fun hr27 => ?_)
  refine pm_iconst (pc := 148) (0 : Int32) (by decide) dX12_takeRead_148 ?_
  refine pm_aload_n (pc := 149) 0 dX12_takeRead_149 rfl rfl h0.pos ?_
  refine pm_getI (pc := 150) (k := 0) pm_cl12 flX12_81 (by decide) rfl h0 dX12_takeRead_150 ?_
  obtain ⟨hb28, hf⟩ := pm_gd hf
  refine pm_iast (pc := 153) hr27 (pm_ib_in hb28) dX12_takeRead_153 ?_
  obtain ⟨s29, es29, hf⟩ := pm_let_e hf
  refine pm_nmh es29 ?_
  refine pm_iconst (pc := 154) (0 : Int32) (by decide) dX12_takeRead_154 ?_
  refine pm_istore_n (pc := 155) [(1, .int (0 : Int32)), (0, .ref a0)] dX12_takeRead_155 rfl (by decide) rfl ?_
  refine pm_lv [(0, .ref a0), (1, .int (0 : Int32))] [1, 0] rfl ?_
  refine fX12_takeRead_L156_E l h0 (fun s36 hf => ?_) pm_fuel (0 : Int32) s29 hf
  exact pm_vret rfl dX12_takeRead_185 (pm_ru_e hf)
def fX12_realm_L37 (S : pm_S) (v0 : Nat) (kx : Int32 → pm_H → Option (Int32 × pm_H)) : Nat → Int32 → pm_H → Option (Int32 × pm_H)
  | 0, _, _ => none
  | n + 1, v1, σ => (if v1 = 0 then Option.bind (fX12_here S v0 σ) fun u8 => (if u8.1 < 0 then kx v1 u8.2 else Option.bind (fX12_takeClause S v0 u8.2) fun u9 => fX12_realm_L37 S v0 kx n u9.1 u9.2) else kx v1 σ)
set_option maxRecDepth 100000 in
set_option maxHeartbeats 4000000 in
theorem fX12_realm_L37_E (l : Launch) {S : pm_S} {p : Int32 × pm_H} {v0 : Nat} {kx : Int32 → pm_H → Option (Int32 × pm_H)} (h0 : pm_is S v0 15) (hkx : ∀ w1 sw, kx w1 sw = some p → pm_E l yX12_realm cX12_realm 2 (some .int) false 6 S (pm_ri S p) 56 [(0, .ref v0), (1, .int w1)] [] S sw) : ∀ (n : Nat) (v1 : Int32) (σ : pm_H), fX12_realm_L37 S v0 kx n v1 σ = some p → pm_E l yX12_realm cX12_realm 2 (some .int) false 6 S (pm_ri S p) 37 [(0, .ref v0), (1, .int v1)] [] S σ := by
  intro n
  induction n with
  | zero => intro v1 σ hf; cases hf
  | succ n ih =>
    intro v1 σ hf
    rw [fX12_realm_L37] at hf
    refine pm_iload_n (pc := 37) 1 dX12_realm_37 rfl rfl ?_
    refine pm_if_ne (pc := 38) 56 dX12_realm_38 (by decide) (fun hc11 => ?_) (fun hc11 => ?_)
    · rw [if_pos hc11] at hf
      refine pm_aload_n (pc := 41) 0 dX12_realm_41 rfl rfl h0.pos ?_
      obtain ⟨u8, hu8, hf⟩ := pm_bind_e hf
      refine pm_cVi (pc := 42) (as := []) (st := []) mvX12_104 (KX12_here l h0 hu8) (by decide) h0 rfl rfl (Nat.le_of_ble_eq_true rfl) rfl dX12_realm_42 ?_
      refine pm_if_lt (pc := 45) 56 dX12_realm_45 (by decide) (fun hc10 => ?_) (fun hc10 => ?_)
      · rw [if_pos hc10] at hf
        refine pm_lv [(0, .ref v0), (1, .int v1)] [0, 1] rfl ?_
        exact hkx v1 u8.2 hf
      · rw [if_neg hc10] at hf
        refine pm_aload_n (pc := 48) 0 dX12_realm_48 rfl rfl h0.pos ?_
        obtain ⟨u9, hu9, hf⟩ := pm_bind_e hf
        refine pm_cVi (pc := 49) (as := []) (st := []) mvX12_183 (KX12_takeClause l h0 hu9) (by decide) h0 rfl rfl (Nat.le_of_ble_eq_true rfl) rfl dX12_realm_49 ?_
        refine pm_istore_n (pc := 52) [(1, .int u9.1), (0, .ref v0)] dX12_realm_52 rfl (by decide) rfl ?_
        refine pm_goto (pc := 53) 37 dX12_realm_53 (by decide) ?_
        refine pm_lv [(0, .ref v0), (1, .int u9.1)] [1, 0] rfl ?_
        exact ih u9.1 u9.2 hf
    · rw [if_neg hc11] at hf
      refine pm_lv [(0, .ref v0), (1, .int v1)] [0, 1] rfl ?_
      exact hkx v1 σ hf
def fX12_realm_J56 (S : pm_S) (v0 : Nat) (v1 : Int32) (σ : pm_H) : Option (Int32 × pm_H) :=
  pm_let (pm_si σ v0 14 (0 : Int32)) fun s14 => (if v1 ≤ 0 then Option.bind (fX12_takeRead S v0 s14) fun u15 => pm_let (pm_si u15 v0 34 (0 : Int32)) fun s16 => pm_let (pm_si s16 v0 38 (0 : Int32)) fun s17 => pm_let (pm_si s17 v0 30 (0 : Int32)) fun s18 => (if pm_ib (0 : Int32) (pm_len S (s18.2 v0 42)) = true then pm_let (pm_si s18 (s18.2 v0 42) ((0 : Int32)).toNatClampNeg (0 : Int32)) fun s21 => (if pm_ib (1 : Int32) (pm_len S (s21.2 v0 42)) = true then pm_let (pm_si s21 (s21.2 v0 42) ((1 : Int32)).toNatClampNeg (0 : Int32)) fun s24 => some ((s24.1 v0 0), s24) else none) else none) else some (((-10 : Int32) - v1), s14))
set_option maxRecDepth 100000 in
set_option maxHeartbeats 4000000 in
theorem fX12_realm_J56_E (l : Launch) {S : pm_S} {p : Int32 × pm_H} {v0 : Nat} {v1 : Int32} {σ : pm_H} (h0 : pm_is S v0 15) (hf : fX12_realm_J56 S v0 v1 σ = some p) : pm_E l yX12_realm cX12_realm 2 (some .int) false 6 S (pm_ri S p) 56 [(0, .ref v0), (1, .int v1)] [] S σ := by
  rw [fX12_realm_J56] at hf
  refine pm_aload_n (pc := 56) 0 dX12_realm_56 rfl rfl h0.pos ?_
  refine pm_iconst (pc := 57) (0 : Int32) (by decide) dX12_realm_57 ?_
  refine pm_putI (pc := 58) (k := 14) pm_cl12 flX12_97 (by decide) rfl rfl rfl h0 dX12_realm_58 ?_
  obtain ⟨s14, es14, hf⟩ := pm_let_e hf
  refine pm_nmh es14 ?_
  refine pm_iload_n (pc := 61) 1 dX12_realm_61 rfl rfl ?_
  refine pm_if_le (pc := 62) 70 dX12_realm_62 (by decide) (fun hc25 => ?_) (fun hc25 => ?_)
  · rw [if_pos hc25] at hf
    refine pm_aload_n (pc := 70) 0 dX12_realm_70 rfl rfl h0.pos ?_
    obtain ⟨u15, hu15, hf⟩ := pm_bind_e hf
    refine pm_cVu (pc := 71) (as := []) (st := []) mvX12_186 (KX12_takeRead l h0 hu15) (by decide) h0 rfl rfl (Nat.le_of_ble_eq_true rfl) rfl dX12_realm_71 ?_
    refine pm_aload_n (pc := 74) 0 dX12_realm_74 rfl rfl h0.pos ?_
    refine pm_iconst (pc := 75) (0 : Int32) (by decide) dX12_realm_75 ?_
    refine pm_putI (pc := 76) (k := 34) pm_cl12 flX12_189 (by decide) rfl rfl rfl h0 dX12_realm_76 ?_
    obtain ⟨s16, es16, hf⟩ := pm_let_e hf
    refine pm_nmh es16 ?_
    refine pm_aload_n (pc := 79) 0 dX12_realm_79 rfl rfl h0.pos ?_
    refine pm_iconst (pc := 80) (0 : Int32) (by decide) dX12_realm_80 ?_
    refine pm_putI (pc := 81) (k := 38) pm_cl12 flX12_192 (by decide) rfl rfl rfl h0 dX12_realm_81 ?_
    obtain ⟨s17, es17, hf⟩ := pm_let_e hf
    refine pm_nmh es17 ?_
    refine pm_aload_n (pc := 84) 0 dX12_realm_84 rfl rfl h0.pos ?_
    refine pm_iconst (pc := 85) (0 : Int32) (by decide) dX12_realm_85 ?_
    refine pm_putI (pc := 86) (k := 30) pm_cl12 flX12_195 (by decide) rfl rfl rfl h0 dX12_realm_86 ?_
    obtain ⟨s18, es18, hf⟩ := pm_let_e hf
    refine pm_nmh es18 ?_
    refine pm_aload_n (pc := 89) 0 dX12_realm_89 rfl rfl h0.pos ?_
    refine pm_getT (pc := 90) (k := 42) pm_cl12 flX12_77 (by decide) rfl h0 dX12_realm_90 (fun hr19 => ?_)
    refine pm_iconst (pc := 93) (0 : Int32) (by decide) dX12_realm_93 ?_
    refine pm_iconst (pc := 94) (0 : Int32) (by decide) dX12_realm_94 ?_
    obtain ⟨hb20, hf⟩ := pm_gd hf
    refine pm_zast (pc := 95) hr19 (pm_ib_in hb20) (by decide) dX12_realm_95 ?_
    obtain ⟨s21, es21, hf⟩ := pm_let_e hf
    refine pm_nmh es21 ?_
    refine pm_aload_n (pc := 96) 0 dX12_realm_96 rfl rfl h0.pos ?_
    refine pm_getT (pc := 97) (k := 42) pm_cl12 flX12_77 (by decide) rfl h0 dX12_realm_97 (fun hr22 => ?_)
    refine pm_iconst (pc := 100) (1 : Int32) (by decide) dX12_realm_100 ?_
    refine pm_iconst (pc := 101) (0 : Int32) (by decide) dX12_realm_101 ?_
    obtain ⟨hb23, hf⟩ := pm_gd hf
    refine pm_zast (pc := 102) hr22 (pm_ib_in hb23) (by decide) dX12_realm_102 ?_
    obtain ⟨s24, es24, hf⟩ := pm_let_e hf
    refine pm_nmh es24 ?_
    refine pm_aload_n (pc := 103) 0 dX12_realm_103 rfl rfl h0.pos ?_
    refine pm_getI (pc := 104) (k := 0) pm_cl12 flX12_81 (by decide) rfl h0 dX12_realm_104 ?_
    exact pm_iret rfl dX12_realm_107 (pm_ri_e hf)
  · rw [if_neg hc25] at hf
    refine pm_bipush (pc := 65) (-10 : Int32) (by decide) dX12_realm_65 ?_
    refine pm_iload_n (pc := 67) 1 dX12_realm_67 rfl rfl ?_
    refine pm_isub (pc := 68) dX12_realm_68 ?_
    exact pm_iret rfl dX12_realm_69 (pm_ri_e hf)
def fX12_realm (S : pm_S) (a0 : Nat) (σ : pm_H) : Option (Int32 × pm_H) :=
  pm_let (pm_si σ a0 15 (-1 : Int32)) fun s1 => pm_let (pm_si s1 a0 16 (0 : Int32)) fun s2 => pm_let (pm_si s2 a0 19 (0 : Int32)) fun s3 => pm_let (pm_si s3 a0 21 (0 : Int32)) fun s4 => pm_let (pm_si s4 a0 23 (0 : Int32)) fun s5 => pm_let (pm_si s5 a0 26 (0 : Int32)) fun s6 => pm_let (pm_si s6 a0 28 (0 : Int32)) fun s7 => fX12_realm_L37 S a0 (fun w12 s13 => fX12_realm_J56 S a0 w12 s13) pm_fuel (0 : Int32) s7
set_option maxRecDepth 100000 in
set_option maxHeartbeats 4000000 in
theorem KX12_realm (l : Launch) {S : pm_S} {p : Int32 × pm_H} {a0 : Nat} {σ : pm_H} (h0 : pm_is S a0 15) (hf : fX12_realm S a0 σ = some p) : pm_M l yX12_realm cX12_realm 2 (some .int) false 6 [.ref a0] S σ (pm_ri S p) := by
  refine pm_M.of (by decide +kernel) (Nat.le_of_ble_eq_true rfl) ?_
  show pm_E l yX12_realm cX12_realm 2 (some .int) false 6 S (pm_ri S p) 0 [(0, .ref a0)] [] S σ
  rw [fX12_realm] at hf
  refine pm_aload_n (pc := 0) 0 dX12_realm_0 rfl rfl h0.pos ?_
  refine pm_iconst (pc := 1) (-1 : Int32) (by decide) dX12_realm_1 ?_
  refine pm_putI (pc := 2) (k := 15) pm_cl12 flX12_31 (by decide) rfl rfl rfl h0 dX12_realm_2 ?_
  obtain ⟨s1, es1, hf⟩ := pm_let_e hf
  refine pm_nmh es1 ?_
  refine pm_aload_n (pc := 5) 0 dX12_realm_5 rfl rfl h0.pos ?_
  refine pm_iconst (pc := 6) (0 : Int32) (by decide) dX12_realm_6 ?_
  refine pm_putI (pc := 7) (k := 16) pm_cl12 flX12_101 (by decide) rfl rfl rfl h0 dX12_realm_7 ?_
  obtain ⟨s2, es2, hf⟩ := pm_let_e hf
  refine pm_nmh es2 ?_
  refine pm_aload_n (pc := 10) 0 dX12_realm_10 rfl rfl h0.pos ?_
  refine pm_iconst (pc := 11) (0 : Int32) (by decide) dX12_realm_11 ?_
  refine pm_putI (pc := 12) (k := 19) pm_cl12 flX12_125 (by decide) rfl rfl rfl h0 dX12_realm_12 ?_
  obtain ⟨s3, es3, hf⟩ := pm_let_e hf
  refine pm_nmh es3 ?_
  refine pm_aload_n (pc := 15) 0 dX12_realm_15 rfl rfl h0.pos ?_
  refine pm_iconst (pc := 16) (0 : Int32) (by decide) dX12_realm_16 ?_
  refine pm_putI (pc := 17) (k := 21) pm_cl12 flX12_131 (by decide) rfl rfl rfl h0 dX12_realm_17 ?_
  obtain ⟨s4, es4, hf⟩ := pm_let_e hf
  refine pm_nmh es4 ?_
  refine pm_aload_n (pc := 20) 0 dX12_realm_20 rfl rfl h0.pos ?_
  refine pm_iconst (pc := 21) (0 : Int32) (by decide) dX12_realm_21 ?_
  refine pm_putI (pc := 22) (k := 23) pm_cl12 flX12_138 (by decide) rfl rfl rfl h0 dX12_realm_22 ?_
  obtain ⟨s5, es5, hf⟩ := pm_let_e hf
  refine pm_nmh es5 ?_
  refine pm_aload_n (pc := 25) 0 dX12_realm_25 rfl rfl h0.pos ?_
  refine pm_iconst (pc := 26) (0 : Int32) (by decide) dX12_realm_26 ?_
  refine pm_putI (pc := 27) (k := 26) pm_cl12 flX12_141 (by decide) rfl rfl rfl h0 dX12_realm_27 ?_
  obtain ⟨s6, es6, hf⟩ := pm_let_e hf
  refine pm_nmh es6 ?_
  refine pm_aload_n (pc := 30) 0 dX12_realm_30 rfl rfl h0.pos ?_
  refine pm_iconst (pc := 31) (0 : Int32) (by decide) dX12_realm_31 ?_
  refine pm_putI (pc := 32) (k := 28) pm_cl12 flX12_144 (by decide) rfl rfl rfl h0 dX12_realm_32 ?_
  obtain ⟨s7, es7, hf⟩ := pm_let_e hf
  refine pm_nmh es7 ?_
  refine pm_iconst (pc := 35) (0 : Int32) (by decide) dX12_realm_35 ?_
  refine pm_istore_n (pc := 36) [(1, .int (0 : Int32)), (0, .ref a0)] dX12_realm_36 rfl (by decide) rfl ?_
  refine pm_lv [(0, .ref a0), (1, .int (0 : Int32))] [1, 0] rfl ?_
  refine fX12_realm_L37_E l h0 (fun w12 s13 hf => ?_) pm_fuel (0 : Int32) s7 hf
  refine pm_lv [(0, .ref a0), (1, .int w12)] [0, 1] rfl ?_
  exact fX12_realm_J56_E l h0 hf
def fX12_fault (S : pm_S) (a0 : Nat) (σ : pm_H) : Option (Int32 × pm_H) :=
  some ((σ.1 a0 15), σ)
set_option maxRecDepth 100000 in
set_option maxHeartbeats 4000000 in
theorem KX12_fault (l : Launch) {S : pm_S} {p : Int32 × pm_H} {a0 : Nat} {σ : pm_H} (h0 : pm_is S a0 15) (hf : fX12_fault S a0 σ = some p) : pm_M l yX12_fault cX12_fault 1 (some .int) false 0 [.ref a0] S σ (pm_ri S p) := by
  refine pm_M.of (by decide +kernel) (Nat.le_of_ble_eq_true rfl) ?_
  show pm_E l yX12_fault cX12_fault 1 (some .int) false 0 S (pm_ri S p) 0 [(0, .ref a0)] [] S σ
  rw [fX12_fault] at hf
  refine pm_aload_n (pc := 0) 0 dX12_fault_0 rfl rfl h0.pos ?_
  refine pm_getI (pc := 1) (k := 15) pm_cl12 flX12_31 (by decide) rfl h0 dX12_fault_1 ?_
  exact pm_iret rfl dX12_fault_4 (pm_ri_e hf)
def fX12_swayOf (S : pm_S) (a0 : Nat) (a1 : Int32) (σ : pm_H) : Option (Int32 × pm_H) :=
  (if (σ.1 a0 9) = 0 then some ((0 : Int32), σ) else if (σ.1 a0 9) = 0 then none else (if pm_ib (pm_rem a1 (σ.1 a0 9)) (pm_len S (σ.2 a0 10)) = true then some (((σ.1 (σ.2 a0 10) ((pm_rem a1 (σ.1 a0 9))).toNatClampNeg) - (4 : Int32)), σ) else none))
set_option maxRecDepth 100000 in
set_option maxHeartbeats 4000000 in
theorem KX12_swayOf (l : Launch) {S : pm_S} {p : Int32 × pm_H} {a0 : Nat} {a1 : Int32} {σ : pm_H} (h0 : pm_is S a0 15) (hf : fX12_swayOf S a0 a1 σ = some p) : pm_M l yX12_swayOf cX12_swayOf 2 (some .int) false 0 [.ref a0, .int a1] S σ (pm_ri S p) := by
  refine pm_M.of (by decide +kernel) (Nat.le_of_ble_eq_true rfl) ?_
  show pm_E l yX12_swayOf cX12_swayOf 2 (some .int) false 0 S (pm_ri S p) 0 [(0, .ref a0), (1, .int a1)] [] S σ
  rw [fX12_swayOf] at hf
  refine pm_aload_n (pc := 0) 0 dX12_swayOf_0 rfl rfl h0.pos ?_
  refine pm_getI (pc := 1) (k := 9) pm_cl12 flX12_176 (by decide) rfl h0 dX12_swayOf_1 ?_
  refine pm_if_ne (pc := 4) 11 dX12_swayOf_4 (by decide) (fun hc4 => ?_) (fun hc4 => ?_)
  · rw [if_pos hc4] at hf
    refine pm_iconst (pc := 7) (0 : Int32) (by decide) dX12_swayOf_7 ?_
    refine pm_goto (pc := 8) 24 dX12_swayOf_8 (by decide) ?_
    exact pm_iret rfl dX12_swayOf_24 (pm_ri_e hf)
  · rw [if_neg hc4] at hf
    refine pm_aload_n (pc := 11) 0 dX12_swayOf_11 rfl rfl h0.pos ?_
    refine pm_getT (pc := 12) (k := 10) pm_cl12 flX12_22 (by decide) rfl h0 dX12_swayOf_12 (fun hr1 => ?_)
    refine pm_iload_n (pc := 15) 1 dX12_swayOf_15 rfl rfl ?_
    refine pm_aload_n (pc := 16) 0 dX12_swayOf_16 rfl rfl h0.pos ?_
    refine pm_getI (pc := 17) (k := 9) pm_cl12 flX12_176 (by decide) rfl h0 dX12_swayOf_17 ?_
    obtain ⟨hz2, hf⟩ := pm_gz hf
    refine pm_irem (pc := 20) hz2 dX12_swayOf_20 ?_
    obtain ⟨hb3, hf⟩ := pm_gd hf
    refine pm_iald (pc := 21) hr1 (pm_ib_in hb3) dX12_swayOf_21 ?_
    refine pm_iconst (pc := 22) (4 : Int32) (by decide) dX12_swayOf_22 ?_
    refine pm_isub (pc := 23) dX12_swayOf_23 ?_
    exact pm_iret rfl dX12_swayOf_24 (pm_ri_e hf)
def fX12_bound (S : pm_S) (a0 : Int32) (σ : pm_H) : Option (Int32 × pm_H) :=
  (if a0 ≤ (99 : Int32) then (if (-99 : Int32) ≤ a0 then some (a0, σ) else some ((-99 : Int32), σ)) else some ((99 : Int32), σ))
set_option maxRecDepth 100000 in
set_option maxHeartbeats 4000000 in
theorem KX12_bound (l : Launch) {S : pm_S} {p : Int32 × pm_H} {a0 : Int32} {σ : pm_H}  (hf : fX12_bound S a0 σ = some p) : pm_M l yX12_bound cX12_bound 1 (some .int) false 0 [.int a0] S σ (pm_ri S p) := by
  refine pm_M.of (by decide +kernel) (Nat.le_of_ble_eq_true rfl) ?_
  show pm_E l yX12_bound cX12_bound 1 (some .int) false 0 S (pm_ri S p) 0 [(0, .int a0)] [] S σ
  rw [fX12_bound] at hf
  refine pm_iload_n (pc := 0) 0 dX12_bound_0 rfl rfl ?_
  refine pm_bipush (pc := 1) (99 : Int32) (by decide) dX12_bound_1 ?_
  refine pm_icmp_le (pc := 3) 11 dX12_bound_3 (by decide) (fun hc2 => ?_) (fun hc2 => ?_)
  · rw [if_pos hc2] at hf
    refine pm_iload_n (pc := 11) 0 dX12_bound_11 rfl rfl ?_
    refine pm_bipush (pc := 12) (-99 : Int32) (by decide) dX12_bound_12 ?_
    refine pm_icmp_ge (pc := 14) 22 dX12_bound_14 (by decide) (fun hc1 => ?_) (fun hc1 => ?_)
    · rw [if_pos hc1] at hf
      refine pm_iload_n (pc := 22) 0 dX12_bound_22 rfl rfl ?_
      exact pm_iret rfl dX12_bound_23 (pm_ri_e hf)
    · rw [if_neg hc1] at hf
      refine pm_bipush (pc := 17) (-99 : Int32) (by decide) dX12_bound_17 ?_
      refine pm_goto (pc := 19) 23 dX12_bound_19 (by decide) ?_
      exact pm_iret rfl dX12_bound_23 (pm_ri_e hf)
  · rw [if_neg hc2] at hf
    refine pm_bipush (pc := 6) (99 : Int32) (by decide) dX12_bound_6 ?_
    refine pm_goto (pc := 8) 23 dX12_bound_8 (by decide) ?_
    exact pm_iret rfl dX12_bound_23 (pm_ri_e hf)
def fX12_measuredBy (S : pm_S) (a0 : Nat) (a1 : Int32) (σ : pm_H) : Option (Int32 × pm_H) :=
  (if pm_ib (0 : Int32) (pm_len S (σ.2 a0 11)) = true then if (σ.1 (σ.2 a0 11) ((0 : Int32)).toNatClampNeg) = 0 then none else some ((((10 : Int32) * a1) / (σ.1 (σ.2 a0 11) ((0 : Int32)).toNatClampNeg)), σ) else none)
set_option maxRecDepth 100000 in
set_option maxHeartbeats 4000000 in
theorem KX12_measuredBy (l : Launch) {S : pm_S} {p : Int32 × pm_H} {a0 : Nat} {a1 : Int32} {σ : pm_H} (h0 : pm_is S a0 15) (hf : fX12_measuredBy S a0 a1 σ = some p) : pm_M l yX12_measuredBy cX12_measuredBy 2 (some .int) false 0 [.ref a0, .int a1] S σ (pm_ri S p) := by
  refine pm_M.of (by decide +kernel) (Nat.le_of_ble_eq_true rfl) ?_
  show pm_E l yX12_measuredBy cX12_measuredBy 2 (some .int) false 0 S (pm_ri S p) 0 [(0, .ref a0), (1, .int a1)] [] S σ
  rw [fX12_measuredBy] at hf
  refine pm_bipush (pc := 0) (10 : Int32) (by decide) dX12_measuredBy_0 ?_
  refine pm_iload_n (pc := 2) 1 dX12_measuredBy_2 rfl rfl ?_
  refine pm_imul (pc := 3) dX12_measuredBy_3 ?_
  refine pm_aload_n (pc := 4) 0 dX12_measuredBy_4 rfl rfl h0.pos ?_
  refine pm_getT (pc := 5) (k := 11) pm_cl12 flX12_25 (by decide) rfl h0 dX12_measuredBy_5 (fun hr1 => ?_)
  refine pm_iconst (pc := 8) (0 : Int32) (by decide) dX12_measuredBy_8 ?_
  obtain ⟨hb2, hf⟩ := pm_gd hf
  refine pm_iald (pc := 9) hr1 (pm_ib_in hb2) dX12_measuredBy_9 ?_
  obtain ⟨hz3, hf⟩ := pm_gz hf
  refine pm_idiv (pc := 10) hz3 dX12_measuredBy_10 ?_
  exact pm_iret rfl dX12_measuredBy_11 (pm_ri_e hf)
def fX12_fits (S : pm_S) (a0 : Nat) (a1 : Int32) (a2 : Int32) (σ : pm_H) : Option (Int32 × pm_H) :=
  Option.bind (fX12_measuredBy S a0 a2 σ) fun u1 => (if pm_ib a1 (pm_len S (u1.2.2 a0 5)) = true then (if pm_ib a1 (pm_len S (u1.2.2 a0 6)) = true then Option.bind (fX12_in S u1.1.toInt64 (u1.2.1 (u1.2.2 a0 5) (a1).toNatClampNeg).toInt64 (u1.2.1 (u1.2.2 a0 6) (a1).toNatClampNeg).toInt64 u1.2) fun u6 => (if pm_zb u6.1 = true then some (u6.1, u6.2) else none) else none) else none)
set_option maxRecDepth 100000 in
set_option maxHeartbeats 4000000 in
theorem KX12_fits (l : Launch) {S : pm_S} {p : Int32 × pm_H} {a0 : Nat} {a1 : Int32} {a2 : Int32} {σ : pm_H} (h0 : pm_is S a0 15) (hf : fX12_fits S a0 a1 a2 σ = some p) : pm_M l yX12_fits cX12_fits 3 (some .boolean) false 1 [.ref a0, .int a1, .int a2] S σ (pm_ri S p) := by
  refine pm_M.of (by decide +kernel) (Nat.le_of_ble_eq_true rfl) ?_
  show pm_E l yX12_fits cX12_fits 3 (some .boolean) false 1 S (pm_ri S p) 0 [(0, .ref a0), (1, .int a1), (2, .int a2)] [] S σ
  rw [fX12_fits] at hf
  refine pm_aload_n (pc := 0) 0 dX12_fits_0 rfl rfl h0.pos ?_
  refine pm_iload_n (pc := 1) 2 dX12_fits_1 rfl rfl ?_
  obtain ⟨u1, hu1, hf⟩ := pm_bind_e hf
  refine pm_cVi (pc := 2) (as := [.int a2]) (st := []) mvX12_198 (KX12_measuredBy l h0 hu1) (by decide) h0 rfl rfl (Nat.le_of_ble_eq_true rfl) rfl dX12_fits_2 ?_
  refine pm_i2l (pc := 5) dX12_fits_5 ?_
  refine pm_aload_n (pc := 6) 0 dX12_fits_6 rfl rfl h0.pos ?_
  refine pm_getT (pc := 7) (k := 5) pm_cl12 flX12_13 (by decide) rfl h0 dX12_fits_7 (fun hr2 => ?_)
  refine pm_iload_n (pc := 10) 1 dX12_fits_10 rfl rfl ?_
  obtain ⟨hb3, hf⟩ := pm_gd hf
  refine pm_iald (pc := 11) hr2 (pm_ib_in hb3) dX12_fits_11 ?_
  refine pm_i2l (pc := 12) dX12_fits_12 ?_
  refine pm_aload_n (pc := 13) 0 dX12_fits_13 rfl rfl h0.pos ?_
  refine pm_getT (pc := 14) (k := 6) pm_cl12 flX12_16 (by decide) rfl h0 dX12_fits_14 (fun hr4 => ?_)
  refine pm_iload_n (pc := 17) 1 dX12_fits_17 rfl rfl ?_
  obtain ⟨hb5, hf⟩ := pm_gd hf
  refine pm_iald (pc := 18) hr4 (pm_ib_in hb5) dX12_fits_18 ?_
  refine pm_i2l (pc := 19) dX12_fits_19 ?_
  obtain ⟨u6, hu6, hf⟩ := pm_bind_e hf
  refine pm_cSi (pc := 20) (as := [.long u1.1.toInt64, .long (u1.2.1 (u1.2.2 a0 5) (a1).toNatClampNeg).toInt64, .long (u1.2.1 (u1.2.2 a0 6) (a1).toNatClampNeg).toInt64]) (st := []) msX12_87 (KX12_in l  hu6) (by decide) rfl rfl (Nat.le_of_ble_eq_true rfl) rfl dX12_fits_20 ?_
  obtain ⟨hz7, hf⟩ := pm_gd hf
  exact pm_zret rfl (pm_zb_or hz7) dX12_fits_23 (pm_ri_e hf)
def fX12_fitsOf_L4 (S : pm_S) (v0 : Nat) (v1 : Int32) (kx : Int32 → pm_H → Option (Int32 × pm_H)) : Nat → Int32 → Int32 → pm_H → Option (Int32 × pm_H)
  | 0, _, _, _ => none
  | n + 1, v2, v3, σ => (if (σ.1 v0 7) ≤ v3 then kx v2 σ else (if pm_ib ((74 : Int32) + v3) (pm_len S (σ.2 v0 11)) = true then Option.bind (fX12_fits S v0 v1 (σ.1 (σ.2 v0 11) (((74 : Int32) + v3)).toNatClampNeg) σ) fun u3 => (if u3.1 = 0 then pm_let (v2 ||| (0 : Int32)) fun x4 => fX12_fitsOf_L4 S v0 v1 kx n x4 (v3 + (1 : Int32)) u3.2 else pm_let (v2 ||| ((1 : Int32) <<< (v3 &&& 31))) fun x5 => fX12_fitsOf_L4 S v0 v1 kx n x5 (v3 + (1 : Int32)) u3.2) else none))
set_option maxRecDepth 100000 in
set_option maxHeartbeats 4000000 in
theorem fX12_fitsOf_L4_E (l : Launch) {S : pm_S} {p : Int32 × pm_H} {v0 : Nat} {v1 : Int32} {kx : Int32 → pm_H → Option (Int32 × pm_H)} (h0 : pm_is S v0 15) (hkx : ∀ w2 sw, kx w2 sw = some p → pm_E l yX12_fitsOf cX12_fitsOf 4 (some .int) false 2 S (pm_ri S p) 45 [(2, .int w2)] [] S sw) : ∀ (n : Nat) (v2 : Int32) (v3 : Int32) (σ : pm_H), fX12_fitsOf_L4 S v0 v1 kx n v2 v3 σ = some p → pm_E l yX12_fitsOf cX12_fitsOf 4 (some .int) false 2 S (pm_ri S p) 4 [(0, .ref v0), (1, .int v1), (2, .int v2), (3, .int v3)] [] S σ := by
  intro n
  induction n with
  | zero => intro v2 v3 σ hf; cases hf
  | succ n ih =>
    intro v2 v3 σ hf
    rw [fX12_fitsOf_L4] at hf
    refine pm_iload_n (pc := 4) 3 dX12_fitsOf_4 rfl rfl ?_
    refine pm_aload_n (pc := 5) 0 dX12_fitsOf_5 rfl rfl h0.pos ?_
    refine pm_getI (pc := 6) (k := 7) pm_cl12 flX12_91 (by decide) rfl h0 dX12_fitsOf_6 ?_
    refine pm_icmp_ge (pc := 9) 45 dX12_fitsOf_9 (by decide) (fun hc7 => ?_) (fun hc7 => ?_)
    · rw [if_pos hc7] at hf
      refine pm_lv [(2, .int v2)] [2] rfl ?_
      exact hkx v2 σ hf
    · rw [if_neg hc7] at hf
      refine pm_iload_n (pc := 12) 2 dX12_fitsOf_12 rfl rfl ?_
      refine pm_aload_n (pc := 13) 0 dX12_fitsOf_13 rfl rfl h0.pos ?_
      refine pm_iload_n (pc := 14) 1 dX12_fitsOf_14 rfl rfl ?_
      refine pm_aload_n (pc := 15) 0 dX12_fitsOf_15 rfl rfl h0.pos ?_
      refine pm_getT (pc := 16) (k := 11) pm_cl12 flX12_25 (by decide) rfl h0 dX12_fitsOf_16 (fun hr1 => ?_)
      refine pm_bipush (pc := 19) (74 : Int32) (by decide) dX12_fitsOf_19 ?_
      refine pm_iload_n (pc := 21) 3 dX12_fitsOf_21 rfl rfl ?_
      refine pm_iadd (pc := 22) dX12_fitsOf_22 ?_
      obtain ⟨hb2, hf⟩ := pm_gd hf
      refine pm_iald (pc := 23) hr1 (pm_ib_in hb2) dX12_fitsOf_23 ?_
      obtain ⟨u3, hu3, hf⟩ := pm_bind_e hf
      refine pm_cVi (pc := 24) (as := [.int v1, .int (σ.1 (σ.2 v0 11) (((74 : Int32) + v3)).toNatClampNeg)]) (st := [.int v2]) mvX12_201 (KX12_fits l h0 hu3) (by decide) h0 rfl rfl (Nat.le_of_ble_eq_true rfl) rfl dX12_fitsOf_24 ?_
      refine pm_if_eq (pc := 27) 36 dX12_fitsOf_27 (by decide) (fun hc6 => ?_) (fun hc6 => ?_)
      · rw [if_pos hc6] at hf
        refine pm_iconst (pc := 36) (0 : Int32) (by decide) dX12_fitsOf_36 ?_
        refine pm_ior (pc := 37) dX12_fitsOf_37 ?_
        obtain ⟨x4, ex4, hf⟩ := pm_let_e hf
        refine pm_nmi ex4 ?_
        refine pm_istore_n (pc := 38) [(2, .int x4), (0, .ref v0), (1, .int v1), (3, .int v3)] dX12_fitsOf_38 rfl (by decide) rfl ?_
        refine pm_iinc (pc := 39) 3 (v3 + (1 : Int32)) [(3, .int (v3 + (1 : Int32))), (2, .int x4), (0, .ref v0), (1, .int v1)] dX12_fitsOf_39 rfl rfl (by decide) rfl ?_
        refine pm_goto (pc := 42) 4 dX12_fitsOf_42 (by decide) ?_
        refine pm_lv [(0, .ref v0), (1, .int v1), (2, .int x4), (3, .int (v3 + (1 : Int32)))] [2, 3, 1, 0] rfl ?_
        exact ih x4 (v3 + (1 : Int32)) u3.2 hf
      · rw [if_neg hc6] at hf
        refine pm_iconst (pc := 30) (1 : Int32) (by decide) dX12_fitsOf_30 ?_
        refine pm_iload_n (pc := 31) 3 dX12_fitsOf_31 rfl rfl ?_
        refine pm_ishl (pc := 32) dX12_fitsOf_32 ?_
        refine pm_goto (pc := 33) 37 dX12_fitsOf_33 (by decide) ?_
        refine pm_ior (pc := 37) dX12_fitsOf_37 ?_
        obtain ⟨x5, ex5, hf⟩ := pm_let_e hf
        refine pm_nmi ex5 ?_
        refine pm_istore_n (pc := 38) [(2, .int x5), (0, .ref v0), (1, .int v1), (3, .int v3)] dX12_fitsOf_38 rfl (by decide) rfl ?_
        refine pm_iinc (pc := 39) 3 (v3 + (1 : Int32)) [(3, .int (v3 + (1 : Int32))), (2, .int x5), (0, .ref v0), (1, .int v1)] dX12_fitsOf_39 rfl rfl (by decide) rfl ?_
        refine pm_goto (pc := 42) 4 dX12_fitsOf_42 (by decide) ?_
        refine pm_lv [(0, .ref v0), (1, .int v1), (2, .int x5), (3, .int (v3 + (1 : Int32)))] [2, 3, 1, 0] rfl ?_
        exact ih x5 (v3 + (1 : Int32)) u3.2 hf
def fX12_fitsOf (S : pm_S) (a0 : Nat) (a1 : Int32) (σ : pm_H) : Option (Int32 × pm_H) :=
  fX12_fitsOf_L4 S a0 a1 (fun w8 s9 => some (w8, s9)) pm_fuel (0 : Int32) (0 : Int32) σ
set_option maxRecDepth 100000 in
set_option maxHeartbeats 4000000 in
theorem KX12_fitsOf (l : Launch) {S : pm_S} {p : Int32 × pm_H} {a0 : Nat} {a1 : Int32} {σ : pm_H} (h0 : pm_is S a0 15) (hf : fX12_fitsOf S a0 a1 σ = some p) : pm_M l yX12_fitsOf cX12_fitsOf 4 (some .int) false 2 [.ref a0, .int a1] S σ (pm_ri S p) := by
  refine pm_M.of (by decide +kernel) (Nat.le_of_ble_eq_true rfl) ?_
  show pm_E l yX12_fitsOf cX12_fitsOf 4 (some .int) false 2 S (pm_ri S p) 0 [(0, .ref a0), (1, .int a1)] [] S σ
  rw [fX12_fitsOf] at hf
  refine pm_iconst (pc := 0) (0 : Int32) (by decide) dX12_fitsOf_0 ?_
  refine pm_istore_n (pc := 1) [(2, .int (0 : Int32)), (0, .ref a0), (1, .int a1)] dX12_fitsOf_1 rfl (by decide) rfl ?_
  refine pm_iconst (pc := 2) (0 : Int32) (by decide) dX12_fitsOf_2 ?_
  refine pm_istore_n (pc := 3) [(3, .int (0 : Int32)), (2, .int (0 : Int32)), (0, .ref a0), (1, .int a1)] dX12_fitsOf_3 rfl (by decide) rfl ?_
  refine pm_lv [(0, .ref a0), (1, .int a1), (2, .int (0 : Int32)), (3, .int (0 : Int32))] [2, 3, 1, 0] rfl ?_
  refine fX12_fitsOf_L4_E l h0 (fun w8 s9 hf => ?_) pm_fuel (0 : Int32) (0 : Int32) σ hf
  refine pm_iload_n (pc := 45) 0 dX12_fitsOf_45 rfl rfl ?_
  exact pm_iret rfl dX12_fitsOf_46 (pm_ri_e hf)
def fX12_longest_L4 (S : pm_S) (v0 : Nat) (kx : Int32 → pm_H → Option (Int32 × pm_H)) : Nat → Int32 → Int32 → pm_H → Option (Int32 × pm_H)
  | 0, _, _, _ => none
  | n + 1, v1, v2, σ => (if pm_ib (4 : Int32) (pm_len S (σ.2 v0 11)) = true then (if (σ.1 (σ.2 v0 11) ((4 : Int32)).toNatClampNeg) ≤ v2 then kx v1 σ else (if v1 < 0 then fX12_longest_L4 S v0 kx n v2 (v2 + (1 : Int32)) σ else (if pm_ib ((6 : Int32) + v2) (pm_len S (σ.2 v0 11)) = true then (if pm_ib ((6 : Int32) + v1) (pm_len S (σ.2 v0 11)) = true then (if (σ.1 (σ.2 v0 11) (((6 : Int32) + v2)).toNatClampNeg) ≤ (σ.1 (σ.2 v0 11) (((6 : Int32) + v1)).toNatClampNeg) then fX12_longest_L4 S v0 kx n v1 (v2 + (1 : Int32)) σ else fX12_longest_L4 S v0 kx n v2 (v2 + (1 : Int32)) σ) else none) else none))) else none)
set_option maxRecDepth 100000 in
set_option maxHeartbeats 4000000 in
theorem fX12_longest_L4_E (l : Launch) {S : pm_S} {p : Int32 × pm_H} {v0 : Nat} {kx : Int32 → pm_H → Option (Int32 × pm_H)} (h0 : pm_is S v0 15) (hkx : ∀ w1 sw, kx w1 sw = some p → pm_E l yX12_longest cX12_longest 3 (some .int) false 0 S (pm_ri S p) 51 [(1, .int w1)] [] S sw) : ∀ (n : Nat) (v1 : Int32) (v2 : Int32) (σ : pm_H), fX12_longest_L4 S v0 kx n v1 v2 σ = some p → pm_E l yX12_longest cX12_longest 3 (some .int) false 0 S (pm_ri S p) 4 [(0, .ref v0), (1, .int v1), (2, .int v2)] [] S σ := by
  intro n
  induction n with
  | zero => intro v1 v2 σ hf; cases hf
  | succ n ih =>
    intro v1 v2 σ hf
    rw [fX12_longest_L4] at hf
    refine pm_iload_n (pc := 4) 2 dX12_longest_4 rfl rfl ?_
    refine pm_aload_n (pc := 5) 0 dX12_longest_5 rfl rfl h0.pos ?_
    refine pm_getT (pc := 6) (k := 11) pm_cl12 flX12_25 (by decide) rfl h0 dX12_longest_6 (fun hr1 => ?_)
    refine pm_iconst (pc := 9) (4 : Int32) (by decide) dX12_longest_9 ?_
    obtain ⟨hb2, hf⟩ := pm_gd hf
    refine pm_iald (pc := 10) hr1 (pm_ib_in hb2) dX12_longest_10 ?_
    refine pm_icmp_ge (pc := 11) 51 dX12_longest_11 (by decide) (fun hc9 => ?_) (fun hc9 => ?_)
    · rw [if_pos hc9] at hf
      refine pm_lv [(1, .int v1)] [1] rfl ?_
      exact hkx v1 σ hf
    · rw [if_neg hc9] at hf
      refine pm_iload_n (pc := 14) 1 dX12_longest_14 rfl rfl ?_
      refine pm_if_lt (pc := 15) 39 dX12_longest_15 (by decide) (fun hc8 => ?_) (fun hc8 => ?_)
      · rw [if_pos hc8] at hf
        refine pm_iload_n (pc := 39) 2 dX12_longest_39 rfl rfl ?_
        refine pm_goto (pc := 40) 44 dX12_longest_40 (by decide) ?_
        refine pm_istore_n (pc := 44) [(1, .int v2), (0, .ref v0), (2, .int v2)] dX12_longest_44 rfl (by decide) rfl ?_
        refine pm_iinc (pc := 45) 2 (v2 + (1 : Int32)) [(2, .int (v2 + (1 : Int32))), (1, .int v2), (0, .ref v0)] dX12_longest_45 rfl rfl (by decide) rfl ?_
        refine pm_goto (pc := 48) 4 dX12_longest_48 (by decide) ?_
        refine pm_lv [(0, .ref v0), (1, .int v2), (2, .int (v2 + (1 : Int32)))] [2, 1, 0] rfl ?_
        exact ih v2 (v2 + (1 : Int32)) σ hf
      · rw [if_neg hc8] at hf
        refine pm_aload_n (pc := 18) 0 dX12_longest_18 rfl rfl h0.pos ?_
        refine pm_getT (pc := 19) (k := 11) pm_cl12 flX12_25 (by decide) rfl h0 dX12_longest_19 (fun hr3 => ?_)
        refine pm_bipush (pc := 22) (6 : Int32) (by decide) dX12_longest_22 ?_
        refine pm_iload_n (pc := 24) 2 dX12_longest_24 rfl rfl ?_
        refine pm_iadd (pc := 25) dX12_longest_25 ?_
        obtain ⟨hb4, hf⟩ := pm_gd hf
        refine pm_iald (pc := 26) hr3 (pm_ib_in hb4) dX12_longest_26 ?_
        refine pm_aload_n (pc := 27) 0 dX12_longest_27 rfl rfl h0.pos ?_
        refine pm_getT (pc := 28) (k := 11) pm_cl12 flX12_25 (by decide) rfl h0 dX12_longest_28 (fun hr5 => ?_)
        refine pm_bipush (pc := 31) (6 : Int32) (by decide) dX12_longest_31 ?_
        refine pm_iload_n (pc := 33) 1 dX12_longest_33 rfl rfl ?_
        refine pm_iadd (pc := 34) dX12_longest_34 ?_
        obtain ⟨hb6, hf⟩ := pm_gd hf
        refine pm_iald (pc := 35) hr5 (pm_ib_in hb6) dX12_longest_35 ?_
        refine pm_icmp_le (pc := 36) 43 dX12_longest_36 (by decide) (fun hc7 => ?_) (fun hc7 => ?_)
        · rw [if_pos hc7] at hf
          refine pm_iload_n (pc := 43) 1 dX12_longest_43 rfl rfl ?_
          refine pm_istore_n (pc := 44) [(1, .int v1), (0, .ref v0), (2, .int v2)] dX12_longest_44 rfl (by decide) rfl ?_
          refine pm_iinc (pc := 45) 2 (v2 + (1 : Int32)) [(2, .int (v2 + (1 : Int32))), (1, .int v1), (0, .ref v0)] dX12_longest_45 rfl rfl (by decide) rfl ?_
          refine pm_goto (pc := 48) 4 dX12_longest_48 (by decide) ?_
          refine pm_lv [(0, .ref v0), (1, .int v1), (2, .int (v2 + (1 : Int32)))] [2, 1, 0] rfl ?_
          exact ih v1 (v2 + (1 : Int32)) σ hf
        · rw [if_neg hc7] at hf
          refine pm_iload_n (pc := 39) 2 dX12_longest_39 rfl rfl ?_
          refine pm_goto (pc := 40) 44 dX12_longest_40 (by decide) ?_
          refine pm_istore_n (pc := 44) [(1, .int v2), (0, .ref v0), (2, .int v2)] dX12_longest_44 rfl (by decide) rfl ?_
          refine pm_iinc (pc := 45) 2 (v2 + (1 : Int32)) [(2, .int (v2 + (1 : Int32))), (1, .int v2), (0, .ref v0)] dX12_longest_45 rfl rfl (by decide) rfl ?_
          refine pm_goto (pc := 48) 4 dX12_longest_48 (by decide) ?_
          refine pm_lv [(0, .ref v0), (1, .int v2), (2, .int (v2 + (1 : Int32)))] [2, 1, 0] rfl ?_
          exact ih v2 (v2 + (1 : Int32)) σ hf
def fX12_longest (S : pm_S) (a0 : Nat) (σ : pm_H) : Option (Int32 × pm_H) :=
  fX12_longest_L4 S a0 (fun w10 s11 => some (w10, s11)) pm_fuel (-1 : Int32) (0 : Int32) σ
set_option maxRecDepth 100000 in
set_option maxHeartbeats 4000000 in
theorem KX12_longest (l : Launch) {S : pm_S} {p : Int32 × pm_H} {a0 : Nat} {σ : pm_H} (h0 : pm_is S a0 15) (hf : fX12_longest S a0 σ = some p) : pm_M l yX12_longest cX12_longest 3 (some .int) false 0 [.ref a0] S σ (pm_ri S p) := by
  refine pm_M.of (by decide +kernel) (Nat.le_of_ble_eq_true rfl) ?_
  show pm_E l yX12_longest cX12_longest 3 (some .int) false 0 S (pm_ri S p) 0 [(0, .ref a0)] [] S σ
  rw [fX12_longest] at hf
  refine pm_iconst (pc := 0) (-1 : Int32) (by decide) dX12_longest_0 ?_
  refine pm_istore_n (pc := 1) [(1, .int (-1 : Int32)), (0, .ref a0)] dX12_longest_1 rfl (by decide) rfl ?_
  refine pm_iconst (pc := 2) (0 : Int32) (by decide) dX12_longest_2 ?_
  refine pm_istore_n (pc := 3) [(2, .int (0 : Int32)), (1, .int (-1 : Int32)), (0, .ref a0)] dX12_longest_3 rfl (by decide) rfl ?_
  refine pm_lv [(0, .ref a0), (1, .int (-1 : Int32)), (2, .int (0 : Int32))] [2, 1, 0] rfl ?_
  refine fX12_longest_L4_E l h0 (fun w10 s11 hf => ?_) pm_fuel (-1 : Int32) (0 : Int32) σ hf
  refine pm_iload_n (pc := 51) 0 dX12_longest_51 rfl rfl ?_
  exact pm_iret rfl dX12_longest_52 (pm_ri_e hf)
def fX12_told (S : pm_S) (a0 : Nat) (a1 : Int32) (σ : pm_H) : Option (Int32 × pm_H) :=
  (if a1 = (0 : Int32) then some ((σ.1 a0 0), σ) else (if a1 = (1 : Int32) then some ((σ.1 a0 2), σ) else (if a1 = (2 : Int32) then some ((σ.1 a0 4), σ) else (if a1 = (3 : Int32) then some ((σ.1 a0 7), σ) else (if a1 = (4 : Int32) then some ((σ.1 a0 14), σ) else (if a1 = (5 : Int32) then (if pm_ib (3 : Int32) (pm_len S (σ.2 a0 11)) = true then some ((σ.1 (σ.2 a0 11) ((3 : Int32)).toNatClampNeg), σ) else none) else (if a1 = (6 : Int32) then (if pm_ib (0 : Int32) (pm_len S (σ.2 a0 11)) = true then some ((σ.1 (σ.2 a0 11) ((0 : Int32)).toNatClampNeg), σ) else none) else (if a1 = (7 : Int32) then (if pm_ib (2 : Int32) (pm_len S (σ.2 a0 11)) = true then some ((σ.1 (σ.2 a0 11) ((2 : Int32)).toNatClampNeg), σ) else none) else (if a1 = (8 : Int32) then (if pm_ib (4 : Int32) (pm_len S (σ.2 a0 11)) = true then some ((σ.1 (σ.2 a0 11) ((4 : Int32)).toNatClampNeg), σ) else none) else (if a1 = (9 : Int32) then (if pm_ib (5 : Int32) (pm_len S (σ.2 a0 11)) = true then some ((σ.1 (σ.2 a0 11) ((5 : Int32)).toNatClampNeg), σ) else none) else (if a1 = (10 : Int32) then Option.bind (fX12_longest S a0 σ) fun u21 => some (u21.1, u21.2) else (if a1 = (11 : Int32) then some ((σ.1 a0 34), σ) else (if a1 = (12 : Int32) then some ((σ.1 a0 38), σ) else (if a1 = (13 : Int32) then some ((σ.1 a0 30), σ) else some ((-1000000002 : Int32), σ)))))))))))))))
set_option maxRecDepth 100000 in
set_option maxHeartbeats 4000000 in
theorem KX12_told (l : Launch) {S : pm_S} {p : Int32 × pm_H} {a0 : Nat} {a1 : Int32} {σ : pm_H} (h0 : pm_is S a0 15) (hf : fX12_told S a0 a1 σ = some p) : pm_M l yX12_told cX12_told 2 (some .int) false 1 [.ref a0, .int a1] S σ (pm_ri S p) := by
  refine pm_M.of (by decide +kernel) (Nat.le_of_ble_eq_true rfl) ?_
  show pm_E l yX12_told cX12_told 2 (some .int) false 1 S (pm_ri S p) 0 [(0, .ref a0), (1, .int a1)] [] S σ
  rw [fX12_told] at hf
  refine pm_iload_n (pc := 0) 1 dX12_told_0 rfl rfl ?_
  by_cases hc1 : a1 = (0 : Int32)
  · rw [if_pos hc1] at hf
    refine pm_tin (pc := 1) (off := 71) 72 hc1 dX12_told_1 (by decide) (by decide) ?_
    refine pm_aload_n (pc := 72) 0 dX12_told_72 rfl rfl h0.pos ?_
    refine pm_getI (pc := 73) (k := 0) pm_cl12 flX12_81 (by decide) rfl h0 dX12_told_73 ?_
    exact pm_iret rfl dX12_told_76 (pm_ri_e hf)
  · rw [if_neg hc1] at hf
    by_cases hc2 : a1 = (1 : Int32)
    · rw [if_pos hc2] at hf
      refine pm_tin (pc := 1) (off := 76) 77 hc2 dX12_told_1 (by decide) (by decide) ?_
      refine pm_aload_n (pc := 77) 0 dX12_told_77 rfl rfl h0.pos ?_
      refine pm_getI (pc := 78) (k := 2) pm_cl12 flX12_173 (by decide) rfl h0 dX12_told_78 ?_
      exact pm_iret rfl dX12_told_81 (pm_ri_e hf)
    · rw [if_neg hc2] at hf
      by_cases hc3 : a1 = (2 : Int32)
      · rw [if_pos hc3] at hf
        refine pm_tin (pc := 1) (off := 81) 82 hc3 dX12_told_1 (by decide) (by decide) ?_
        refine pm_aload_n (pc := 82) 0 dX12_told_82 rfl rfl h0.pos ?_
        refine pm_getI (pc := 83) (k := 4) pm_cl12 flX12_84 (by decide) rfl h0 dX12_told_83 ?_
        exact pm_iret rfl dX12_told_86 (pm_ri_e hf)
      · rw [if_neg hc3] at hf
        by_cases hc4 : a1 = (3 : Int32)
        · rw [if_pos hc4] at hf
          refine pm_tin (pc := 1) (off := 86) 87 hc4 dX12_told_1 (by decide) (by decide) ?_
          refine pm_aload_n (pc := 87) 0 dX12_told_87 rfl rfl h0.pos ?_
          refine pm_getI (pc := 88) (k := 7) pm_cl12 flX12_91 (by decide) rfl h0 dX12_told_88 ?_
          exact pm_iret rfl dX12_told_91 (pm_ri_e hf)
        · rw [if_neg hc4] at hf
          by_cases hc5 : a1 = (4 : Int32)
          · rw [if_pos hc5] at hf
            refine pm_tin (pc := 1) (off := 91) 92 hc5 dX12_told_1 (by decide) (by decide) ?_
            refine pm_aload_n (pc := 92) 0 dX12_told_92 rfl rfl h0.pos ?_
            refine pm_getI (pc := 93) (k := 14) pm_cl12 flX12_97 (by decide) rfl h0 dX12_told_93 ?_
            exact pm_iret rfl dX12_told_96 (pm_ri_e hf)
          · rw [if_neg hc5] at hf
            by_cases hc8 : a1 = (5 : Int32)
            · rw [if_pos hc8] at hf
              refine pm_tin (pc := 1) (off := 96) 97 hc8 dX12_told_1 (by decide) (by decide) ?_
              refine pm_aload_n (pc := 97) 0 dX12_told_97 rfl rfl h0.pos ?_
              refine pm_getT (pc := 98) (k := 11) pm_cl12 flX12_25 (by decide) rfl h0 dX12_told_98 (fun hr6 => ?_)
              refine pm_iconst (pc := 101) (3 : Int32) (by decide) dX12_told_101 ?_
              obtain ⟨hb7, hf⟩ := pm_gd hf
              refine pm_iald (pc := 102) hr6 (pm_ib_in hb7) dX12_told_102 ?_
              exact pm_iret rfl dX12_told_103 (pm_ri_e hf)
            · rw [if_neg hc8] at hf
              by_cases hc11 : a1 = (6 : Int32)
              · rw [if_pos hc11] at hf
                refine pm_tin (pc := 1) (off := 103) 104 hc11 dX12_told_1 (by decide) (by decide) ?_
                refine pm_aload_n (pc := 104) 0 dX12_told_104 rfl rfl h0.pos ?_
                refine pm_getT (pc := 105) (k := 11) pm_cl12 flX12_25 (by decide) rfl h0 dX12_told_105 (fun hr9 => ?_)
                refine pm_iconst (pc := 108) (0 : Int32) (by decide) dX12_told_108 ?_
                obtain ⟨hb10, hf⟩ := pm_gd hf
                refine pm_iald (pc := 109) hr9 (pm_ib_in hb10) dX12_told_109 ?_
                exact pm_iret rfl dX12_told_110 (pm_ri_e hf)
              · rw [if_neg hc11] at hf
                by_cases hc14 : a1 = (7 : Int32)
                · rw [if_pos hc14] at hf
                  refine pm_tin (pc := 1) (off := 110) 111 hc14 dX12_told_1 (by decide) (by decide) ?_
                  refine pm_aload_n (pc := 111) 0 dX12_told_111 rfl rfl h0.pos ?_
                  refine pm_getT (pc := 112) (k := 11) pm_cl12 flX12_25 (by decide) rfl h0 dX12_told_112 (fun hr12 => ?_)
                  refine pm_iconst (pc := 115) (2 : Int32) (by decide) dX12_told_115 ?_
                  obtain ⟨hb13, hf⟩ := pm_gd hf
                  refine pm_iald (pc := 116) hr12 (pm_ib_in hb13) dX12_told_116 ?_
                  exact pm_iret rfl dX12_told_117 (pm_ri_e hf)
                · rw [if_neg hc14] at hf
                  by_cases hc17 : a1 = (8 : Int32)
                  · rw [if_pos hc17] at hf
                    refine pm_tin (pc := 1) (off := 117) 118 hc17 dX12_told_1 (by decide) (by decide) ?_
                    refine pm_aload_n (pc := 118) 0 dX12_told_118 rfl rfl h0.pos ?_
                    refine pm_getT (pc := 119) (k := 11) pm_cl12 flX12_25 (by decide) rfl h0 dX12_told_119 (fun hr15 => ?_)
                    refine pm_iconst (pc := 122) (4 : Int32) (by decide) dX12_told_122 ?_
                    obtain ⟨hb16, hf⟩ := pm_gd hf
                    refine pm_iald (pc := 123) hr15 (pm_ib_in hb16) dX12_told_123 ?_
                    exact pm_iret rfl dX12_told_124 (pm_ri_e hf)
                  · rw [if_neg hc17] at hf
                    by_cases hc20 : a1 = (9 : Int32)
                    · rw [if_pos hc20] at hf
                      refine pm_tin (pc := 1) (off := 124) 125 hc20 dX12_told_1 (by decide) (by decide) ?_
                      refine pm_aload_n (pc := 125) 0 dX12_told_125 rfl rfl h0.pos ?_
                      refine pm_getT (pc := 126) (k := 11) pm_cl12 flX12_25 (by decide) rfl h0 dX12_told_126 (fun hr18 => ?_)
                      refine pm_iconst (pc := 129) (5 : Int32) (by decide) dX12_told_129 ?_
                      obtain ⟨hb19, hf⟩ := pm_gd hf
                      refine pm_iald (pc := 130) hr18 (pm_ib_in hb19) dX12_told_130 ?_
                      exact pm_iret rfl dX12_told_131 (pm_ri_e hf)
                    · rw [if_neg hc20] at hf
                      by_cases hc22 : a1 = (10 : Int32)
                      · rw [if_pos hc22] at hf
                        refine pm_tin (pc := 1) (off := 131) 132 hc22 dX12_told_1 (by decide) (by decide) ?_
                        refine pm_aload_n (pc := 132) 0 dX12_told_132 rfl rfl h0.pos ?_
                        obtain ⟨u21, hu21, hf⟩ := pm_bind_e hf
                        refine pm_cVi (pc := 133) (as := []) (st := []) mvX12_205 (KX12_longest l h0 hu21) (by decide) h0 rfl rfl (Nat.le_of_ble_eq_true rfl) rfl dX12_told_133 ?_
                        exact pm_iret rfl dX12_told_136 (pm_ri_e hf)
                      · rw [if_neg hc22] at hf
                        by_cases hc23 : a1 = (11 : Int32)
                        · rw [if_pos hc23] at hf
                          refine pm_tin (pc := 1) (off := 136) 137 hc23 dX12_told_1 (by decide) (by decide) ?_
                          refine pm_aload_n (pc := 137) 0 dX12_told_137 rfl rfl h0.pos ?_
                          refine pm_getI (pc := 138) (k := 34) pm_cl12 flX12_189 (by decide) rfl h0 dX12_told_138 ?_
                          exact pm_iret rfl dX12_told_141 (pm_ri_e hf)
                        · rw [if_neg hc23] at hf
                          by_cases hc24 : a1 = (12 : Int32)
                          · rw [if_pos hc24] at hf
                            refine pm_tin (pc := 1) (off := 141) 142 hc24 dX12_told_1 (by decide) (by decide) ?_
                            refine pm_aload_n (pc := 142) 0 dX12_told_142 rfl rfl h0.pos ?_
                            refine pm_getI (pc := 143) (k := 38) pm_cl12 flX12_192 (by decide) rfl h0 dX12_told_143 ?_
                            exact pm_iret rfl dX12_told_146 (pm_ri_e hf)
                          · rw [if_neg hc24] at hf
                            by_cases hc25 : a1 = (13 : Int32)
                            · rw [if_pos hc25] at hf
                              refine pm_tin (pc := 1) (off := 146) 147 hc25 dX12_told_1 (by decide) (by decide) ?_
                              refine pm_aload_n (pc := 147) 0 dX12_told_147 rfl rfl h0.pos ?_
                              refine pm_getI (pc := 148) (k := 30) pm_cl12 flX12_195 (by decide) rfl h0 dX12_told_148 ?_
                              exact pm_iret rfl dX12_told_151 (pm_ri_e hf)
                            · rw [if_neg hc25] at hf
                              have q0 : ¬ (a1).toInt = 0 := lv_neT hc1 (by decide)
                              have q1 : ¬ (a1).toInt = 1 := lv_neT hc2 (by decide)
                              have q2 : ¬ (a1).toInt = 2 := lv_neT hc3 (by decide)
                              have q3 : ¬ (a1).toInt = 3 := lv_neT hc4 (by decide)
                              have q4 : ¬ (a1).toInt = 4 := lv_neT hc5 (by decide)
                              have q5 : ¬ (a1).toInt = 5 := lv_neT hc8 (by decide)
                              have q6 : ¬ (a1).toInt = 6 := lv_neT hc11 (by decide)
                              have q7 : ¬ (a1).toInt = 7 := lv_neT hc14 (by decide)
                              have q8 : ¬ (a1).toInt = 8 := lv_neT hc17 (by decide)
                              have q9 : ¬ (a1).toInt = 9 := lv_neT hc20 (by decide)
                              have q10 : ¬ (a1).toInt = 10 := lv_neT hc22 (by decide)
                              have q11 : ¬ (a1).toInt = 11 := lv_neT hc23 (by decide)
                              have q12 : ¬ (a1).toInt = 12 := lv_neT hc24 (by decide)
                              have q13 : ¬ (a1).toInt = 13 := lv_neT hc25 (by decide)
                              refine pm_tableOut (pc := 1) 152 dX12_told_1 (by omega) (by decide) ?_
                              refine pm_ldc (pc := 152) kcX12_96 dX12_told_152 ?_
                              exact pm_iret rfl dX12_told_154 (pm_ri_e hf)
def fX12_warped (S : pm_S) (a0 : Nat) (σ : pm_H) : Option (Int32 × pm_H) :=
  Option.bind (fX12_isRealm S a0 σ) fun u1 => (if u1.1 = 0 then some ((-1000000003 : Int32), u1.2) else (if pm_ib (1 : Int32) (pm_len S (u1.2.2 a0 11)) = true then some (((u1.2.1 (u1.2.2 a0 11) ((1 : Int32)).toNatClampNeg) + (1000 : Int32)), u1.2) else none))
set_option maxRecDepth 100000 in
set_option maxHeartbeats 4000000 in
theorem KX12_warped (l : Launch) {S : pm_S} {p : Int32 × pm_H} {a0 : Nat} {σ : pm_H} (h0 : pm_is S a0 15) (hf : fX12_warped S a0 σ = some p) : pm_M l yX12_warped cX12_warped 1 (some .int) false 1 [.ref a0] S σ (pm_ri S p) := by
  refine pm_M.of (by decide +kernel) (Nat.le_of_ble_eq_true rfl) ?_
  show pm_E l yX12_warped cX12_warped 1 (some .int) false 1 S (pm_ri S p) 0 [(0, .ref a0)] [] S σ
  rw [fX12_warped] at hf
  refine pm_aload_n (pc := 0) 0 dX12_warped_0 rfl rfl h0.pos ?_
  obtain ⟨u1, hu1, hf⟩ := pm_bind_e hf
  refine pm_cVi (pc := 1) (as := []) (st := []) mvX12_208 (KX12_isRealm l h0 hu1) (by decide) h0 rfl rfl (Nat.le_of_ble_eq_true rfl) rfl dX12_warped_1 ?_
  refine pm_if_eq (pc := 4) 20 dX12_warped_4 (by decide) (fun hc4 => ?_) (fun hc4 => ?_)
  · rw [if_pos hc4] at hf
    refine pm_ldc (pc := 20) kcX12_212 dX12_warped_20 ?_
    exact pm_iret rfl dX12_warped_22 (pm_ri_e hf)
  · rw [if_neg hc4] at hf
    refine pm_aload_n (pc := 7) 0 dX12_warped_7 rfl rfl h0.pos ?_
    refine pm_getT (pc := 8) (k := 11) pm_cl12 flX12_25 (by decide) rfl h0 dX12_warped_8 (fun hr2 => ?_)
    refine pm_iconst (pc := 11) (1 : Int32) (by decide) dX12_warped_11 ?_
    obtain ⟨hb3, hf⟩ := pm_gd hf
    refine pm_iald (pc := 12) hr2 (pm_ib_in hb3) dX12_warped_12 ?_
    refine pm_sipush (pc := 13) (1000 : Int32) (by decide) dX12_warped_13 ?_
    refine pm_iadd (pc := 16) dX12_warped_16 ?_
    refine pm_goto (pc := 17) 22 dX12_warped_17 (by decide) ?_
    exact pm_iret rfl dX12_warped_22 (pm_ri_e hf)
def fX12_nick (S : pm_S) (a0 : Nat) (a1 : Int32) (σ : pm_H) : Option (Int32 × pm_H) :=
  Option.bind (fX12_in S a1.toInt64 (0 : Int64) ((σ.1 a0 2) - (1 : Int32)).toInt64 σ) fun u1 => (if u1.1 = 0 then some ((-1 : Int32), u1.2) else (if pm_ib a1 (pm_len S (u1.2.2 a0 3)) = true then some ((u1.2.1 (u1.2.2 a0 3) (a1).toNatClampNeg), u1.2) else none))
set_option maxRecDepth 100000 in
set_option maxHeartbeats 4000000 in
theorem KX12_nick (l : Launch) {S : pm_S} {p : Int32 × pm_H} {a0 : Nat} {a1 : Int32} {σ : pm_H} (h0 : pm_is S a0 15) (hf : fX12_nick S a0 a1 σ = some p) : pm_M l yX12_nick cX12_nick 2 (some .int) false 1 [.ref a0, .int a1] S σ (pm_ri S p) := by
  refine pm_M.of (by decide +kernel) (Nat.le_of_ble_eq_true rfl) ?_
  show pm_E l yX12_nick cX12_nick 2 (some .int) false 1 S (pm_ri S p) 0 [(0, .ref a0), (1, .int a1)] [] S σ
  rw [fX12_nick] at hf
  refine pm_iload_n (pc := 0) 1 dX12_nick_0 rfl rfl ?_
  refine pm_i2l (pc := 1) dX12_nick_1 ?_
  refine pm_lconst (pc := 2) (0 : Int64) (by decide) dX12_nick_2 ?_
  refine pm_aload_n (pc := 3) 0 dX12_nick_3 rfl rfl h0.pos ?_
  refine pm_getI (pc := 4) (k := 2) pm_cl12 flX12_173 (by decide) rfl h0 dX12_nick_4 ?_
  refine pm_iconst (pc := 7) (1 : Int32) (by decide) dX12_nick_7 ?_
  refine pm_isub (pc := 8) dX12_nick_8 ?_
  refine pm_i2l (pc := 9) dX12_nick_9 ?_
  obtain ⟨u1, hu1, hf⟩ := pm_bind_e hf
  refine pm_cSi (pc := 10) (as := [.long a1.toInt64, .long (0 : Int64), .long ((σ.1 a0 2) - (1 : Int32)).toInt64]) (st := []) msX12_87 (KX12_in l  hu1) (by decide) rfl rfl (Nat.le_of_ble_eq_true rfl) rfl dX12_nick_10 ?_
  refine pm_if_eq (pc := 13) 25 dX12_nick_13 (by decide) (fun hc4 => ?_) (fun hc4 => ?_)
  · rw [if_pos hc4] at hf
    refine pm_iconst (pc := 25) (-1 : Int32) (by decide) dX12_nick_25 ?_
    exact pm_iret rfl dX12_nick_26 (pm_ri_e hf)
  · rw [if_neg hc4] at hf
    refine pm_aload_n (pc := 16) 0 dX12_nick_16 rfl rfl h0.pos ?_
    refine pm_getT (pc := 17) (k := 3) pm_cl12 flX12_7 (by decide) rfl h0 dX12_nick_17 (fun hr2 => ?_)
    refine pm_iload_n (pc := 20) 1 dX12_nick_20 rfl rfl ?_
    obtain ⟨hb3, hf⟩ := pm_gd hf
    refine pm_iald (pc := 21) hr2 (pm_ib_in hb3) dX12_nick_21 ?_
    refine pm_goto (pc := 22) 26 dX12_nick_22 (by decide) ?_
    exact pm_iret rfl dX12_nick_26 (pm_ri_e hf)
def fX12_office (S : pm_S) (a0 : Nat) (a1 : Int32) (a2 : Int32) (σ : pm_H) : Option (Int32 × pm_H) :=
  Option.bind (fX12_isOffice S a0 a1 σ) fun u1 => (if u1.1 = 0 then some ((-1000000001 : Int32), u1.2) else (if a2 = (0 : Int32) then (if pm_ib a1 (pm_len S (u1.2.2 a0 5)) = true then some ((u1.2.1 (u1.2.2 a0 5) (a1).toNatClampNeg), u1.2) else none) else (if a2 = (1 : Int32) then (if pm_ib a1 (pm_len S (u1.2.2 a0 6)) = true then some ((u1.2.1 (u1.2.2 a0 6) (a1).toNatClampNeg), u1.2) else none) else (if a2 = (2 : Int32) then Option.bind (fX12_fitsOf S a0 a1 u1.2) fun u8 => some (u8.1, u8.2) else some ((-1000000002 : Int32), u1.2)))))
set_option maxRecDepth 100000 in
set_option maxHeartbeats 4000000 in
theorem KX12_office (l : Launch) {S : pm_S} {p : Int32 × pm_H} {a0 : Nat} {a1 : Int32} {a2 : Int32} {σ : pm_H} (h0 : pm_is S a0 15) (hf : fX12_office S a0 a1 a2 σ = some p) : pm_M l yX12_office cX12_office 3 (some .int) false 3 [.ref a0, .int a1, .int a2] S σ (pm_ri S p) := by
  refine pm_M.of (by decide +kernel) (Nat.le_of_ble_eq_true rfl) ?_
  show pm_E l yX12_office cX12_office 3 (some .int) false 3 S (pm_ri S p) 0 [(0, .ref a0), (1, .int a1), (2, .int a2)] [] S σ
  rw [fX12_office] at hf
  refine pm_aload_n (pc := 0) 0 dX12_office_0 rfl rfl h0.pos ?_
  refine pm_iload_n (pc := 1) 1 dX12_office_1 rfl rfl ?_
  obtain ⟨u1, hu1, hf⟩ := pm_bind_e hf
  refine pm_cVi (pc := 2) (as := [.int a1]) (st := []) mvX12_213 (KX12_isOffice l h0 hu1) (by decide) h0 rfl rfl (Nat.le_of_ble_eq_true rfl) rfl dX12_office_2 ?_
  refine pm_if_ne (pc := 5) 11 dX12_office_5 (by decide) (fun hc10 => ?_) (fun hc10 => ?_)
  · rw [if_pos hc10] at hf
    refine pm_ldc (pc := 8) kcX12_216 dX12_office_8 ?_
    exact pm_iret rfl dX12_office_10 (pm_ri_e hf)
  · rw [if_neg hc10] at hf
    refine pm_iload_n (pc := 11) 2 dX12_office_11 rfl rfl ?_
    by_cases hc4 : a2 = (0 : Int32)
    · rw [if_pos hc4] at hf
      refine pm_tin (pc := 12) (off := 28) 40 hc4 dX12_office_12 (by decide) (by decide) ?_
      refine pm_aload_n (pc := 40) 0 dX12_office_40 rfl rfl h0.pos ?_
      refine pm_getT (pc := 41) (k := 5) pm_cl12 flX12_13 (by decide) rfl h0 dX12_office_41 (fun hr2 => ?_)
      refine pm_iload_n (pc := 44) 1 dX12_office_44 rfl rfl ?_
      obtain ⟨hb3, hf⟩ := pm_gd hf
      refine pm_iald (pc := 45) hr2 (pm_ib_in hb3) dX12_office_45 ?_
      exact pm_iret rfl dX12_office_46 (pm_ri_e hf)
    · rw [if_neg hc4] at hf
      by_cases hc7 : a2 = (1 : Int32)
      · rw [if_pos hc7] at hf
        refine pm_tin (pc := 12) (off := 35) 47 hc7 dX12_office_12 (by decide) (by decide) ?_
        refine pm_aload_n (pc := 47) 0 dX12_office_47 rfl rfl h0.pos ?_
        refine pm_getT (pc := 48) (k := 6) pm_cl12 flX12_16 (by decide) rfl h0 dX12_office_48 (fun hr5 => ?_)
        refine pm_iload_n (pc := 51) 1 dX12_office_51 rfl rfl ?_
        obtain ⟨hb6, hf⟩ := pm_gd hf
        refine pm_iald (pc := 52) hr5 (pm_ib_in hb6) dX12_office_52 ?_
        exact pm_iret rfl dX12_office_53 (pm_ri_e hf)
      · rw [if_neg hc7] at hf
        by_cases hc9 : a2 = (2 : Int32)
        · rw [if_pos hc9] at hf
          refine pm_tin (pc := 12) (off := 42) 54 hc9 dX12_office_12 (by decide) (by decide) ?_
          refine pm_aload_n (pc := 54) 0 dX12_office_54 rfl rfl h0.pos ?_
          refine pm_iload_n (pc := 55) 1 dX12_office_55 rfl rfl ?_
          obtain ⟨u8, hu8, hf⟩ := pm_bind_e hf
          refine pm_cVi (pc := 56) (as := [.int a1]) (st := []) mvX12_217 (KX12_fitsOf l h0 hu8) (by decide) h0 rfl rfl (Nat.le_of_ble_eq_true rfl) rfl dX12_office_56 ?_
          exact pm_iret rfl dX12_office_59 (pm_ri_e hf)
        · rw [if_neg hc9] at hf
          have q0 : ¬ (a2).toInt = 0 := lv_neT hc4 (by decide)
          have q1 : ¬ (a2).toInt = 1 := lv_neT hc7 (by decide)
          have q2 : ¬ (a2).toInt = 2 := lv_neT hc9 (by decide)
          refine pm_tableOut (pc := 12) 60 dX12_office_12 (by omega) (by decide) ?_
          refine pm_ldc (pc := 60) kcX12_96 dX12_office_60 ?_
          exact pm_iret rfl dX12_office_62 (pm_ri_e hf)
def fX12_person (S : pm_S) (a0 : Nat) (a1 : Int32) (a2 : Int32) (σ : pm_H) : Option (Int32 × pm_H) :=
  Option.bind (fX12_isPerson S a0 a1 σ) fun u1 => (if u1.1 = 0 then some ((-1000000001 : Int32), u1.2) else (if a2 = (0 : Int32) then (if pm_ib ((74 : Int32) + a1) (pm_len S (u1.2.2 a0 11)) = true then some ((u1.2.1 (u1.2.2 a0 11) (((74 : Int32) + a1)).toNatClampNeg), u1.2) else none) else (if a2 = (1 : Int32) then (if pm_ib ((74 : Int32) + a1) (pm_len S (u1.2.2 a0 11)) = true then Option.bind (fX12_measuredBy S a0 (u1.2.1 (u1.2.2 a0 11) (((74 : Int32) + a1)).toNatClampNeg) u1.2) fun u7 => some (u7.1, u7.2) else none) else some ((-1000000002 : Int32), u1.2))))
set_option maxRecDepth 100000 in
set_option maxHeartbeats 4000000 in
theorem KX12_person (l : Launch) {S : pm_S} {p : Int32 × pm_H} {a0 : Nat} {a1 : Int32} {a2 : Int32} {σ : pm_H} (h0 : pm_is S a0 15) (hf : fX12_person S a0 a1 a2 σ = some p) : pm_M l yX12_person cX12_person 3 (some .int) false 2 [.ref a0, .int a1, .int a2] S σ (pm_ri S p) := by
  refine pm_M.of (by decide +kernel) (Nat.le_of_ble_eq_true rfl) ?_
  show pm_E l yX12_person cX12_person 3 (some .int) false 2 S (pm_ri S p) 0 [(0, .ref a0), (1, .int a1), (2, .int a2)] [] S σ
  rw [fX12_person] at hf
  refine pm_aload_n (pc := 0) 0 dX12_person_0 rfl rfl h0.pos ?_
  refine pm_iload_n (pc := 1) 1 dX12_person_1 rfl rfl ?_
  obtain ⟨u1, hu1, hf⟩ := pm_bind_e hf
  refine pm_cVi (pc := 2) (as := [.int a1]) (st := []) mvX12_220 (KX12_isPerson l h0 hu1) (by decide) h0 rfl rfl (Nat.le_of_ble_eq_true rfl) rfl dX12_person_2 ?_
  refine pm_if_ne (pc := 5) 11 dX12_person_5 (by decide) (fun hc9 => ?_) (fun hc9 => ?_)
  · rw [if_pos hc9] at hf
    refine pm_ldc (pc := 8) kcX12_216 dX12_person_8 ?_
    exact pm_iret rfl dX12_person_10 (pm_ri_e hf)
  · rw [if_neg hc9] at hf
    refine pm_iload_n (pc := 11) 2 dX12_person_11 rfl rfl ?_
    by_cases hc4 : a2 = (0 : Int32)
    · rw [if_pos hc4] at hf
      refine pm_lookup (pc := 12) (off := 28) 40 dX12_person_12 (by decide) (by rw [hc4]; decide) (by decide) ?_
      refine pm_aload_n (pc := 40) 0 dX12_person_40 rfl rfl h0.pos ?_
      refine pm_getT (pc := 41) (k := 11) pm_cl12 flX12_25 (by decide) rfl h0 dX12_person_41 (fun hr2 => ?_)
      refine pm_bipush (pc := 44) (74 : Int32) (by decide) dX12_person_44 ?_
      refine pm_iload_n (pc := 46) 1 dX12_person_46 rfl rfl ?_
      refine pm_iadd (pc := 47) dX12_person_47 ?_
      obtain ⟨hb3, hf⟩ := pm_gd hf
      refine pm_iald (pc := 48) hr2 (pm_ib_in hb3) dX12_person_48 ?_
      exact pm_iret rfl dX12_person_49 (pm_ri_e hf)
    · rw [if_neg hc4] at hf
      by_cases hc8 : a2 = (1 : Int32)
      · rw [if_pos hc8] at hf
        refine pm_lookup (pc := 12) (off := 38) 50 dX12_person_12 (by decide) (by rw [hc8]; decide) (by decide) ?_
        refine pm_aload_n (pc := 50) 0 dX12_person_50 rfl rfl h0.pos ?_
        refine pm_aload_n (pc := 51) 0 dX12_person_51 rfl rfl h0.pos ?_
        refine pm_getT (pc := 52) (k := 11) pm_cl12 flX12_25 (by decide) rfl h0 dX12_person_52 (fun hr5 => ?_)
        refine pm_bipush (pc := 55) (74 : Int32) (by decide) dX12_person_55 ?_
        refine pm_iload_n (pc := 57) 1 dX12_person_57 rfl rfl ?_
        refine pm_iadd (pc := 58) dX12_person_58 ?_
        obtain ⟨hb6, hf⟩ := pm_gd hf
        refine pm_iald (pc := 59) hr5 (pm_ib_in hb6) dX12_person_59 ?_
        obtain ⟨u7, hu7, hf⟩ := pm_bind_e hf
        refine pm_cVi (pc := 60) (as := [.int (u1.2.1 (u1.2.2 a0 11) (((74 : Int32) + a1)).toNatClampNeg)]) (st := []) mvX12_198 (KX12_measuredBy l h0 hu7) (by decide) h0 rfl rfl (Nat.le_of_ble_eq_true rfl) rfl dX12_person_60 ?_
        exact pm_iret rfl dX12_person_63 (pm_ri_e hf)
      · rw [if_neg hc8] at hf
        refine pm_lookup (pc := 12) (off := 52) 64 dX12_person_12 (by decide) (by show Op.lookupswitch.offset [(0, 28), (1, 38)] 52 (a2).toInt = 52; rw [lv_osw hc4 (by decide), lv_osw hc8 (by decide)]; rfl) (by decide) ?_
        refine pm_ldc (pc := 64) kcX12_96 dX12_person_64 ?_
        exact pm_iret rfl dX12_person_66 (pm_ri_e hf)
def fX12_thing (S : pm_S) (a0 : Nat) (a1 : Int32) (a2 : Int32) (σ : pm_H) : Option (Int32 × pm_H) :=
  (if pm_ib (4 : Int32) (pm_len S (σ.2 a0 11)) = true then Option.bind (fX12_in S a1.toInt64 (0 : Int64) ((σ.1 (σ.2 a0 11) ((4 : Int32)).toNatClampNeg) - (1 : Int32)).toInt64 σ) fun u3 => (if u3.1 = 0 then some ((-1000000001 : Int32), u3.2) else (if a2 = (0 : Int32) then (if pm_ib ((6 : Int32) + a1) (pm_len S (u3.2.2 a0 11)) = true then some (((u3.2.1 (u3.2.2 a0 11) (((6 : Int32) + a1)).toNatClampNeg) + (1000 : Int32)), u3.2) else none) else (if a2 = (1 : Int32) then (if pm_ib ((26 : Int32) + a1) (pm_len S (u3.2.2 a0 11)) = true then some (((u3.2.1 (u3.2.2 a0 11) (((26 : Int32) + a1)).toNatClampNeg) / (12 : Int32)), u3.2) else none) else (if a2 = (2 : Int32) then (if pm_ib ((26 : Int32) + a1) (pm_len S (u3.2.2 a0 11)) = true then some ((pm_rem (u3.2.1 (u3.2.2 a0 11) (((26 : Int32) + a1)).toNatClampNeg) (12 : Int32)), u3.2) else none) else (if a2 = (3 : Int32) then (if pm_ib ((46 : Int32) + a1) (pm_len S (u3.2.2 a0 11)) = true then some ((u3.2.1 (u3.2.2 a0 11) (((46 : Int32) + a1)).toNatClampNeg), u3.2) else none) else some ((-1000000002 : Int32), u3.2)))))) else none)
set_option maxRecDepth 100000 in
set_option maxHeartbeats 4000000 in
theorem KX12_thing (l : Launch) {S : pm_S} {p : Int32 × pm_H} {a0 : Nat} {a1 : Int32} {a2 : Int32} {σ : pm_H} (h0 : pm_is S a0 15) (hf : fX12_thing S a0 a1 a2 σ = some p) : pm_M l yX12_thing cX12_thing 3 (some .int) false 1 [.ref a0, .int a1, .int a2] S σ (pm_ri S p) := by
  refine pm_M.of (by decide +kernel) (Nat.le_of_ble_eq_true rfl) ?_
  show pm_E l yX12_thing cX12_thing 3 (some .int) false 1 S (pm_ri S p) 0 [(0, .ref a0), (1, .int a1), (2, .int a2)] [] S σ
  rw [fX12_thing] at hf
  refine pm_iload_n (pc := 0) 1 dX12_thing_0 rfl rfl ?_
  refine pm_i2l (pc := 1) dX12_thing_1 ?_
  refine pm_lconst (pc := 2) (0 : Int64) (by decide) dX12_thing_2 ?_
  refine pm_aload_n (pc := 3) 0 dX12_thing_3 rfl rfl h0.pos ?_
  refine pm_getT (pc := 4) (k := 11) pm_cl12 flX12_25 (by decide) rfl h0 dX12_thing_4 (fun hr1 => ?_)
  refine pm_iconst (pc := 7) (4 : Int32) (by decide) dX12_thing_7 ?_
  obtain ⟨hb2, hf⟩ := pm_gd hf
  refine pm_iald (pc := 8) hr1 (pm_ib_in hb2) dX12_thing_8 ?_
  refine pm_iconst (pc := 9) (1 : Int32) (by decide) dX12_thing_9 ?_
  refine pm_isub (pc := 10) dX12_thing_10 ?_
  refine pm_i2l (pc := 11) dX12_thing_11 ?_
  obtain ⟨u3, hu3, hf⟩ := pm_bind_e hf
  refine pm_cSi (pc := 12) (as := [.long a1.toInt64, .long (0 : Int64), .long ((σ.1 (σ.2 a0 11) ((4 : Int32)).toNatClampNeg) - (1 : Int32)).toInt64]) (st := []) msX12_87 (KX12_in l  hu3) (by decide) rfl rfl (Nat.le_of_ble_eq_true rfl) rfl dX12_thing_12 ?_
  refine pm_if_ne (pc := 15) 21 dX12_thing_15 (by decide) (fun hc16 => ?_) (fun hc16 => ?_)
  · rw [if_pos hc16] at hf
    refine pm_ldc (pc := 18) kcX12_216 dX12_thing_18 ?_
    exact pm_iret rfl dX12_thing_20 (pm_ri_e hf)
  · rw [if_neg hc16] at hf
    refine pm_iload_n (pc := 21) 2 dX12_thing_21 rfl rfl ?_
    by_cases hc6 : a2 = (0 : Int32)
    · rw [if_pos hc6] at hf
      refine pm_tin (pc := 22) (off := 30) 52 hc6 dX12_thing_22 (by decide) (by decide) ?_
      refine pm_aload_n (pc := 52) 0 dX12_thing_52 rfl rfl h0.pos ?_
      refine pm_getT (pc := 53) (k := 11) pm_cl12 flX12_25 (by decide) rfl h0 dX12_thing_53 (fun hr4 => ?_)
      refine pm_bipush (pc := 56) (6 : Int32) (by decide) dX12_thing_56 ?_
      refine pm_iload_n (pc := 58) 1 dX12_thing_58 rfl rfl ?_
      refine pm_iadd (pc := 59) dX12_thing_59 ?_
      obtain ⟨hb5, hf⟩ := pm_gd hf
      refine pm_iald (pc := 60) hr4 (pm_ib_in hb5) dX12_thing_60 ?_
      refine pm_sipush (pc := 61) (1000 : Int32) (by decide) dX12_thing_61 ?_
      refine pm_iadd (pc := 64) dX12_thing_64 ?_
      exact pm_iret rfl dX12_thing_65 (pm_ri_e hf)
    · rw [if_neg hc6] at hf
      by_cases hc9 : a2 = (1 : Int32)
      · rw [if_pos hc9] at hf
        refine pm_tin (pc := 22) (off := 44) 66 hc9 dX12_thing_22 (by decide) (by decide) ?_
        refine pm_aload_n (pc := 66) 0 dX12_thing_66 rfl rfl h0.pos ?_
        refine pm_getT (pc := 67) (k := 11) pm_cl12 flX12_25 (by decide) rfl h0 dX12_thing_67 (fun hr7 => ?_)
        refine pm_bipush (pc := 70) (26 : Int32) (by decide) dX12_thing_70 ?_
        refine pm_iload_n (pc := 72) 1 dX12_thing_72 rfl rfl ?_
        refine pm_iadd (pc := 73) dX12_thing_73 ?_
        obtain ⟨hb8, hf⟩ := pm_gd hf
        refine pm_iald (pc := 74) hr7 (pm_ib_in hb8) dX12_thing_74 ?_
        refine pm_bipush (pc := 75) (12 : Int32) (by decide) dX12_thing_75 ?_
        refine pm_idiv (pc := 77) (by decide) dX12_thing_77 ?_
        exact pm_iret rfl dX12_thing_78 (pm_ri_e hf)
      · rw [if_neg hc9] at hf
        by_cases hc12 : a2 = (2 : Int32)
        · rw [if_pos hc12] at hf
          refine pm_tin (pc := 22) (off := 57) 79 hc12 dX12_thing_22 (by decide) (by decide) ?_
          refine pm_aload_n (pc := 79) 0 dX12_thing_79 rfl rfl h0.pos ?_
          refine pm_getT (pc := 80) (k := 11) pm_cl12 flX12_25 (by decide) rfl h0 dX12_thing_80 (fun hr10 => ?_)
          refine pm_bipush (pc := 83) (26 : Int32) (by decide) dX12_thing_83 ?_
          refine pm_iload_n (pc := 85) 1 dX12_thing_85 rfl rfl ?_
          refine pm_iadd (pc := 86) dX12_thing_86 ?_
          obtain ⟨hb11, hf⟩ := pm_gd hf
          refine pm_iald (pc := 87) hr10 (pm_ib_in hb11) dX12_thing_87 ?_
          refine pm_bipush (pc := 88) (12 : Int32) (by decide) dX12_thing_88 ?_
          refine pm_irem (pc := 90) (by decide) dX12_thing_90 ?_
          exact pm_iret rfl dX12_thing_91 (pm_ri_e hf)
        · rw [if_neg hc12] at hf
          by_cases hc15 : a2 = (3 : Int32)
          · rw [if_pos hc15] at hf
            refine pm_tin (pc := 22) (off := 70) 92 hc15 dX12_thing_22 (by decide) (by decide) ?_
            refine pm_aload_n (pc := 92) 0 dX12_thing_92 rfl rfl h0.pos ?_
            refine pm_getT (pc := 93) (k := 11) pm_cl12 flX12_25 (by decide) rfl h0 dX12_thing_93 (fun hr13 => ?_)
            refine pm_bipush (pc := 96) (46 : Int32) (by decide) dX12_thing_96 ?_
            refine pm_iload_n (pc := 98) 1 dX12_thing_98 rfl rfl ?_
            refine pm_iadd (pc := 99) dX12_thing_99 ?_
            obtain ⟨hb14, hf⟩ := pm_gd hf
            refine pm_iald (pc := 100) hr13 (pm_ib_in hb14) dX12_thing_100 ?_
            exact pm_iret rfl dX12_thing_101 (pm_ri_e hf)
          · rw [if_neg hc15] at hf
            have q0 : ¬ (a2).toInt = 0 := lv_neT hc6 (by decide)
            have q1 : ¬ (a2).toInt = 1 := lv_neT hc9 (by decide)
            have q2 : ¬ (a2).toInt = 2 := lv_neT hc12 (by decide)
            have q3 : ¬ (a2).toInt = 3 := lv_neT hc15 (by decide)
            refine pm_tableOut (pc := 22) 102 dX12_thing_22 (by omega) (by decide) ?_
            refine pm_ldc (pc := 102) kcX12_96 dX12_thing_102 ?_
            exact pm_iret rfl dX12_thing_104 (pm_ri_e hf)
def fX12_hand (S : pm_S) (a0 : Nat) (a1 : Int32) (σ : pm_H) : Option (Int32 × pm_H) :=
  (if pm_ib (5 : Int32) (pm_len S (σ.2 a0 11)) = true then Option.bind (fX12_in S a1.toInt64 (0 : Int64) ((σ.1 (σ.2 a0 11) ((5 : Int32)).toNatClampNeg) - (1 : Int32)).toInt64 σ) fun u3 => (if u3.1 = 0 then some ((-1000000001 : Int32), u3.2) else (if pm_ib ((66 : Int32) + a1) (pm_len S (u3.2.2 a0 11)) = true then some ((u3.2.1 (u3.2.2 a0 11) (((66 : Int32) + a1)).toNatClampNeg), u3.2) else none)) else none)
set_option maxRecDepth 100000 in
set_option maxHeartbeats 4000000 in
theorem KX12_hand (l : Launch) {S : pm_S} {p : Int32 × pm_H} {a0 : Nat} {a1 : Int32} {σ : pm_H} (h0 : pm_is S a0 15) (hf : fX12_hand S a0 a1 σ = some p) : pm_M l yX12_hand cX12_hand 2 (some .int) false 1 [.ref a0, .int a1] S σ (pm_ri S p) := by
  refine pm_M.of (by decide +kernel) (Nat.le_of_ble_eq_true rfl) ?_
  show pm_E l yX12_hand cX12_hand 2 (some .int) false 1 S (pm_ri S p) 0 [(0, .ref a0), (1, .int a1)] [] S σ
  rw [fX12_hand] at hf
  refine pm_iload_n (pc := 0) 1 dX12_hand_0 rfl rfl ?_
  refine pm_i2l (pc := 1) dX12_hand_1 ?_
  refine pm_lconst (pc := 2) (0 : Int64) (by decide) dX12_hand_2 ?_
  refine pm_aload_n (pc := 3) 0 dX12_hand_3 rfl rfl h0.pos ?_
  refine pm_getT (pc := 4) (k := 11) pm_cl12 flX12_25 (by decide) rfl h0 dX12_hand_4 (fun hr1 => ?_)
  refine pm_iconst (pc := 7) (5 : Int32) (by decide) dX12_hand_7 ?_
  obtain ⟨hb2, hf⟩ := pm_gd hf
  refine pm_iald (pc := 8) hr1 (pm_ib_in hb2) dX12_hand_8 ?_
  refine pm_iconst (pc := 9) (1 : Int32) (by decide) dX12_hand_9 ?_
  refine pm_isub (pc := 10) dX12_hand_10 ?_
  refine pm_i2l (pc := 11) dX12_hand_11 ?_
  obtain ⟨u3, hu3, hf⟩ := pm_bind_e hf
  refine pm_cSi (pc := 12) (as := [.long a1.toInt64, .long (0 : Int64), .long ((σ.1 (σ.2 a0 11) ((5 : Int32)).toNatClampNeg) - (1 : Int32)).toInt64]) (st := []) msX12_87 (KX12_in l  hu3) (by decide) rfl rfl (Nat.le_of_ble_eq_true rfl) rfl dX12_hand_12 ?_
  refine pm_if_eq (pc := 15) 30 dX12_hand_15 (by decide) (fun hc6 => ?_) (fun hc6 => ?_)
  · rw [if_pos hc6] at hf
    refine pm_ldc (pc := 30) kcX12_216 dX12_hand_30 ?_
    exact pm_iret rfl dX12_hand_32 (pm_ri_e hf)
  · rw [if_neg hc6] at hf
    refine pm_aload_n (pc := 18) 0 dX12_hand_18 rfl rfl h0.pos ?_
    refine pm_getT (pc := 19) (k := 11) pm_cl12 flX12_25 (by decide) rfl h0 dX12_hand_19 (fun hr4 => ?_)
    refine pm_bipush (pc := 22) (66 : Int32) (by decide) dX12_hand_22 ?_
    refine pm_iload_n (pc := 24) 1 dX12_hand_24 rfl rfl ?_
    refine pm_iadd (pc := 25) dX12_hand_25 ?_
    obtain ⟨hb5, hf⟩ := pm_gd hf
    refine pm_iald (pc := 26) hr4 (pm_ib_in hb5) dX12_hand_26 ?_
    refine pm_goto (pc := 27) 32 dX12_hand_27 (by decide) ?_
    exact pm_iret rfl dX12_hand_32 (pm_ri_e hf)
def fX12_remember_L52 (S : pm_S) (v0 : Nat) (kx : pm_H → Option (pm_H)) : Nat → Int32 → pm_H → Option (pm_H)
  | 0, _, _ => none
  | n + 1, v1, σ => (if (80 : Int32) ≤ v1 then kx σ else (if pm_ib v1 (pm_len S (σ.2 v0 11)) = true then (if pm_ib (((80 : Int32) * (σ.1 v0 30)) + v1) (pm_len S (σ.2 v0 31)) = true then pm_let (pm_si σ (σ.2 v0 31) ((((80 : Int32) * (σ.1 v0 30)) + v1)).toNatClampNeg (σ.1 (σ.2 v0 11) (v1).toNatClampNeg)) fun s5 => fX12_remember_L52 S v0 kx n (v1 + (1 : Int32)) s5 else none) else none))
set_option maxRecDepth 100000 in
set_option maxHeartbeats 4000000 in
theorem fX12_remember_L52_E (l : Launch) {S : pm_S} {p : pm_H} {v0 : Nat} {kx : pm_H → Option (pm_H)} (h0 : pm_is S v0 15) (hkx : ∀  sw, kx  sw = some p → pm_E l yX12_remember cX12_remember 2 none false 0 S (pm_ru S p) 84 [(0, .ref v0)] [] S sw) : ∀ (n : Nat) (v1 : Int32) (σ : pm_H), fX12_remember_L52 S v0 kx n v1 σ = some p → pm_E l yX12_remember cX12_remember 2 none false 0 S (pm_ru S p) 52 [(0, .ref v0), (1, .int v1)] [] S σ := by
  intro n
  induction n with
  | zero => intro v1 σ hf; cases hf
  | succ n ih =>
    intro v1 σ hf
    rw [fX12_remember_L52] at hf
    refine pm_iload_n (pc := 52) 1 dX12_remember_52 rfl rfl ?_
    refine pm_bipush (pc := 53) (80 : Int32) (by decide) dX12_remember_53 ?_
    refine pm_icmp_ge (pc := 55) 84 dX12_remember_55 (by decide) (fun hc6 => ?_) (fun hc6 => ?_)
    · rw [if_pos hc6] at hf
      refine pm_lv [(0, .ref v0)] [0] rfl ?_
      exact hkx σ hf
    · rw [if_neg hc6] at hf
      refine pm_aload_n (pc := 58) 0 dX12_remember_58 rfl rfl h0.pos ?_
      refine pm_getT (pc := 59) (k := 31) pm_cl12 flX12_50 (by decide) rfl h0 dX12_remember_59 (fun hr1 => ?_)
      refine pm_bipush (pc := 62) (80 : Int32) (by decide) dX12_remember_62 ?_
      refine pm_aload_n (pc := 64) 0 dX12_remember_64 rfl rfl h0.pos ?_
      refine pm_getI (pc := 65) (k := 30) pm_cl12 flX12_195 (by decide) rfl h0 dX12_remember_65 ?_
      refine pm_imul (pc := 68) dX12_remember_68 ?_
      refine pm_iload_n (pc := 69) 1 dX12_remember_69 rfl rfl ?_
      refine pm_iadd (pc := 70) dX12_remember_70 ?_
      refine pm_aload_n (pc := 71) 0 dX12_remember_71 rfl rfl h0.pos ?_
      refine pm_getT (pc := 72) (k := 11) pm_cl12 flX12_25 (by decide) rfl h0 dX12_remember_72 (fun hr2 => ?_)
      refine pm_iload_n (pc := 75) 1 dX12_remember_75 rfl rfl ?_
      obtain ⟨hb3, hf⟩ := pm_gd hf
      refine pm_iald (pc := 76) hr2 (pm_ib_in hb3) dX12_remember_76 ?_
      obtain ⟨hb4, hf⟩ := pm_gd hf
      refine pm_iast (pc := 77) hr1 (pm_ib_in hb4) dX12_remember_77 ?_
      obtain ⟨s5, es5, hf⟩ := pm_let_e hf
      refine pm_nmh es5 ?_
      refine pm_iinc (pc := 78) 1 (v1 + (1 : Int32)) [(1, .int (v1 + (1 : Int32))), (0, .ref v0)] dX12_remember_78 rfl rfl (by decide) rfl ?_
      refine pm_goto (pc := 81) 52 dX12_remember_81 (by decide) ?_
      refine pm_lv [(0, .ref v0), (1, .int (v1 + (1 : Int32)))] [1, 0] rfl ?_
      exact ih (v1 + (1 : Int32)) s5 hf
def fX12_remember_J50 (S : pm_S) (v0 : Nat) (σ : pm_H) : Option (pm_H) :=
  fX12_remember_L52 S v0 (fun s7 => pm_let (pm_si s7 v0 30 ((s7.1 v0 30) + (1 : Int32))) fun s8 => some s8) pm_fuel (0 : Int32) σ
set_option maxRecDepth 100000 in
set_option maxHeartbeats 4000000 in
theorem fX12_remember_J50_E (l : Launch) {S : pm_S} {p : pm_H} {v0 : Nat} {σ : pm_H} (h0 : pm_is S v0 15) (hf : fX12_remember_J50 S v0 σ = some p) : pm_E l yX12_remember cX12_remember 2 none false 0 S (pm_ru S p) 50 [(0, .ref v0)] [] S σ := by
  rw [fX12_remember_J50] at hf
  refine pm_iconst (pc := 50) (0 : Int32) (by decide) dX12_remember_50 ?_
  refine pm_istore_n (pc := 51) [(1, .int (0 : Int32)), (0, .ref v0)] dX12_remember_51 rfl (by decide) rfl ?_
  refine pm_lv [(0, .ref v0), (1, .int (0 : Int32))] [1, 0] rfl ?_
  refine fX12_remember_L52_E l h0 (fun s7 hf => ?_) pm_fuel (0 : Int32) σ hf
  refine pm_aload_n (pc := 84) 0 dX12_remember_84 rfl rfl h0.pos ?_
  refine pm_dup (pc := 85) rfl dX12_remember_85 ?_
  refine pm_getI (pc := 86) (k := 30) pm_cl12 flX12_195 (by decide) rfl h0 dX12_remember_86 ?_
  refine pm_iconst (pc := 89) (1 : Int32) (by decide) dX12_remember_89 ?_
  refine pm_iadd (pc := 90) dX12_remember_90 ?_
  refine pm_putI (pc := 91) (k := 30) pm_cl12 flX12_195 (by decide) rfl rfl rfl h0 dX12_remember_91 ?_
  obtain ⟨s8, es8, hf⟩ := pm_let_e hf
  refine pm_nmh es8 ?_
  exact pm_vret rfl dX12_remember_94 (pm_ru_e hf)
def fX12_remember_L12 (S : pm_S) (v0 : Nat) (kx : pm_H → Option (pm_H)) : Nat → Int32 → pm_H → Option (pm_H)
  | 0, _, _ => none
  | n + 1, v1, σ => (if (1280 : Int32) ≤ v1 then kx σ else (if pm_ib v1 (pm_len S (σ.2 v0 31)) = true then (if pm_ib (v1 - (80 : Int32)) (pm_len S (σ.2 v0 31)) = true then pm_let (pm_si σ (σ.2 v0 31) ((v1 - (80 : Int32))).toNatClampNeg (σ.1 (σ.2 v0 31) (v1).toNatClampNeg)) fun s13 => fX12_remember_L12 S v0 kx n (v1 + (1 : Int32)) s13 else none) else none))
set_option maxRecDepth 100000 in
set_option maxHeartbeats 4000000 in
theorem fX12_remember_L12_E (l : Launch) {S : pm_S} {p : pm_H} {v0 : Nat} {kx : pm_H → Option (pm_H)} (h0 : pm_is S v0 15) (hkx : ∀  sw, kx  sw = some p → pm_E l yX12_remember cX12_remember 2 none false 0 S (pm_ru S p) 40 [(0, .ref v0)] [] S sw) : ∀ (n : Nat) (v1 : Int32) (σ : pm_H), fX12_remember_L12 S v0 kx n v1 σ = some p → pm_E l yX12_remember cX12_remember 2 none false 0 S (pm_ru S p) 12 [(0, .ref v0), (1, .int v1)] [] S σ := by
  intro n
  induction n with
  | zero => intro v1 σ hf; cases hf
  | succ n ih =>
    intro v1 σ hf
    rw [fX12_remember_L12] at hf
    refine pm_iload_n (pc := 12) 1 dX12_remember_12 rfl rfl ?_
    refine pm_sipush (pc := 13) (1280 : Int32) (by decide) dX12_remember_13 ?_
    refine pm_icmp_ge (pc := 16) 40 dX12_remember_16 (by decide) (fun hc14 => ?_) (fun hc14 => ?_)
    · rw [if_pos hc14] at hf
      refine pm_lv [(0, .ref v0)] [0] rfl ?_
      exact hkx σ hf
    · rw [if_neg hc14] at hf
      refine pm_aload_n (pc := 19) 0 dX12_remember_19 rfl rfl h0.pos ?_
      refine pm_getT (pc := 20) (k := 31) pm_cl12 flX12_50 (by decide) rfl h0 dX12_remember_20 (fun hr9 => ?_)
      refine pm_iload_n (pc := 23) 1 dX12_remember_23 rfl rfl ?_
      refine pm_bipush (pc := 24) (80 : Int32) (by decide) dX12_remember_24 ?_
      refine pm_isub (pc := 26) dX12_remember_26 ?_
      refine pm_aload_n (pc := 27) 0 dX12_remember_27 rfl rfl h0.pos ?_
      refine pm_getT (pc := 28) (k := 31) pm_cl12 flX12_50 (by decide) rfl h0 dX12_remember_28 (fun hr10 => ?_)
      refine pm_iload_n (pc := 31) 1 dX12_remember_31 rfl rfl ?_
      obtain ⟨hb11, hf⟩ := pm_gd hf
      refine pm_iald (pc := 32) hr10 (pm_ib_in hb11) dX12_remember_32 ?_
      obtain ⟨hb12, hf⟩ := pm_gd hf
      refine pm_iast (pc := 33) hr9 (pm_ib_in hb12) dX12_remember_33 ?_
      obtain ⟨s13, es13, hf⟩ := pm_let_e hf
      refine pm_nmh es13 ?_
      refine pm_iinc (pc := 34) 1 (v1 + (1 : Int32)) [(1, .int (v1 + (1 : Int32))), (0, .ref v0)] dX12_remember_34 rfl rfl (by decide) rfl ?_
      refine pm_goto (pc := 37) 12 dX12_remember_37 (by decide) ?_
      refine pm_lv [(0, .ref v0), (1, .int (v1 + (1 : Int32)))] [1, 0] rfl ?_
      exact ih (v1 + (1 : Int32)) s13 hf
def fX12_remember (S : pm_S) (a0 : Nat) (σ : pm_H) : Option (pm_H) :=
  (if (σ.1 a0 30) = (16 : Int32) then fX12_remember_L12 S a0 (fun s15 => pm_let (pm_si s15 a0 30 ((s15.1 a0 30) - (1 : Int32))) fun s16 => fX12_remember_J50 S a0 s16) pm_fuel (80 : Int32) σ else fX12_remember_J50 S a0 σ)
set_option maxRecDepth 100000 in
set_option maxHeartbeats 4000000 in
theorem KX12_remember (l : Launch) {S : pm_S} {p : pm_H} {a0 : Nat} {σ : pm_H} (h0 : pm_is S a0 15) (hf : fX12_remember S a0 σ = some p) : pm_M l yX12_remember cX12_remember 2 none false 0 [.ref a0] S σ (pm_ru S p) := by
  refine pm_M.of (by decide +kernel) (Nat.le_of_ble_eq_true rfl) ?_
  show pm_E l yX12_remember cX12_remember 2 none false 0 S (pm_ru S p) 0 [(0, .ref a0)] [] S σ
  rw [fX12_remember] at hf
  refine pm_aload_n (pc := 0) 0 dX12_remember_0 rfl rfl h0.pos ?_
  refine pm_getI (pc := 1) (k := 30) pm_cl12 flX12_195 (by decide) rfl h0 dX12_remember_1 ?_
  refine pm_bipush (pc := 4) (16 : Int32) (by decide) dX12_remember_4 ?_
  refine pm_icmp_ne (pc := 6) 50 dX12_remember_6 (by decide) (fun hc17 => ?_) (fun hc17 => ?_)
  · rw [if_pos hc17] at hf
    refine pm_bipush (pc := 9) (80 : Int32) (by decide) dX12_remember_9 ?_
    refine pm_istore_n (pc := 11) [(1, .int (80 : Int32)), (0, .ref a0)] dX12_remember_11 rfl (by decide) rfl ?_
    refine pm_lv [(0, .ref a0), (1, .int (80 : Int32))] [1, 0] rfl ?_
    refine fX12_remember_L12_E l h0 (fun s15 hf => ?_) pm_fuel (80 : Int32) σ hf
    refine pm_aload_n (pc := 40) 0 dX12_remember_40 rfl rfl h0.pos ?_
    refine pm_dup (pc := 41) rfl dX12_remember_41 ?_
    refine pm_getI (pc := 42) (k := 30) pm_cl12 flX12_195 (by decide) rfl h0 dX12_remember_42 ?_
    refine pm_iconst (pc := 45) (1 : Int32) (by decide) dX12_remember_45 ?_
    refine pm_isub (pc := 46) dX12_remember_46 ?_
    refine pm_putI (pc := 47) (k := 30) pm_cl12 flX12_195 (by decide) rfl rfl rfl h0 dX12_remember_47 ?_
    obtain ⟨s16, es16, hf⟩ := pm_let_e hf
    refine pm_nmh es16 ?_
    refine pm_lv [(0, .ref a0)] [0] rfl ?_
    exact fX12_remember_J50_E l h0 hf
  · rw [if_neg hc17] at hf
    refine pm_lv [(0, .ref a0)] [0] rfl ?_
    exact fX12_remember_J50_E l h0 hf
def fX12_pass (S : pm_S) (a0 : Nat) (σ : pm_H) : Option (pm_H) :=
  (if pm_ib (2 : Int32) (pm_len S (σ.2 a0 11)) = true then (if (σ.1 (σ.2 a0 11) ((2 : Int32)).toNatClampNeg) = 0 then (if pm_ib (1 : Int32) (pm_len S (σ.2 a0 11)) = true then (if pm_ib (3 : Int32) (pm_len S (σ.2 a0 11)) = true then Option.bind (fX12_swayOf S a0 (σ.1 (σ.2 a0 11) ((3 : Int32)).toNatClampNeg) σ) fun u12 => Option.bind (fX12_bound S ((σ.1 (σ.2 a0 11) ((1 : Int32)).toNatClampNeg) + u12.1) u12.2) fun u13 => (if pm_ib (1 : Int32) (pm_len S (σ.2 a0 11)) = true then pm_let (pm_si u13.2 (σ.2 a0 11) ((1 : Int32)).toNatClampNeg u13.1) fun s15 => (if pm_ib (0 : Int32) (pm_len S (s15.2 a0 11)) = true then (if (s15.1 (s15.2 a0 11) ((0 : Int32)).toNatClampNeg) ≤ (s15.1 a0 1) then (if pm_ib (0 : Int32) (pm_len S (s15.2 a0 11)) = true then pm_let (pm_si s15 (s15.2 a0 11) ((0 : Int32)).toNatClampNeg (1 : Int32)) fun s20 => (if pm_ib (3 : Int32) (pm_len S (s20.2 a0 11)) = true then (if pm_ib (3 : Int32) (pm_len S (s20.2 a0 11)) = true then pm_let (pm_si s20 (s20.2 a0 11) ((3 : Int32)).toNatClampNeg ((s20.1 (s20.2 a0 11) ((3 : Int32)).toNatClampNeg) + (1 : Int32))) fun s24 => some s24 else none) else none) else none) else (if pm_ib (0 : Int32) (pm_len S (s15.2 a0 11)) = true then (if pm_ib (0 : Int32) (pm_len S (s15.2 a0 11)) = true then pm_let (pm_si s15 (s15.2 a0 11) ((0 : Int32)).toNatClampNeg ((s15.1 (s15.2 a0 11) ((0 : Int32)).toNatClampNeg) - (s15.1 a0 1))) fun s28 => (if pm_ib (3 : Int32) (pm_len S (s28.2 a0 11)) = true then (if pm_ib (3 : Int32) (pm_len S (s28.2 a0 11)) = true then pm_let (pm_si s28 (s28.2 a0 11) ((3 : Int32)).toNatClampNeg ((s28.1 (s28.2 a0 11) ((3 : Int32)).toNatClampNeg) + (1 : Int32))) fun s32 => some s32 else none) else none) else none) else none)) else none) else none) else none) else none) else (if pm_ib (3 : Int32) (pm_len S (σ.2 a0 11)) = true then (if pm_ib (3 : Int32) (pm_len S (σ.2 a0 11)) = true then pm_let (pm_si σ (σ.2 a0 11) ((3 : Int32)).toNatClampNeg ((σ.1 (σ.2 a0 11) ((3 : Int32)).toNatClampNeg) + (1 : Int32))) fun s6 => some s6 else none) else none)) else none)
set_option maxRecDepth 100000 in
set_option maxHeartbeats 4000000 in
theorem KX12_pass (l : Launch) {S : pm_S} {p : pm_H} {a0 : Nat} {σ : pm_H} (h0 : pm_is S a0 15) (hf : fX12_pass S a0 σ = some p) : pm_M l yX12_pass cX12_pass 1 none false 1 [.ref a0] S σ (pm_ru S p) := by
  refine pm_M.of (by decide +kernel) (Nat.le_of_ble_eq_true rfl) ?_
  show pm_E l yX12_pass cX12_pass 1 none false 1 S (pm_ru S p) 0 [(0, .ref a0)] [] S σ
  rw [fX12_pass] at hf
  refine pm_aload_n (pc := 0) 0 dX12_pass_0 rfl rfl h0.pos ?_
  refine pm_getT (pc := 1) (k := 11) pm_cl12 flX12_25 (by decide) rfl h0 dX12_pass_1 (fun hr1 => ?_)
  refine pm_iconst (pc := 4) (2 : Int32) (by decide) dX12_pass_4 ?_
  obtain ⟨hb2, hf⟩ := pm_gd hf
  refine pm_iald (pc := 5) hr1 (pm_ib_in hb2) dX12_pass_5 ?_
  refine pm_if_ne (pc := 6) 69 dX12_pass_6 (by decide) (fun hc34 => ?_) (fun hc34 => ?_)
  · rw [if_pos hc34] at hf
    refine pm_aload_n (pc := 9) 0 dX12_pass_9 rfl rfl h0.pos ?_
    refine pm_getT (pc := 10) (k := 11) pm_cl12 flX12_25 (by decide) rfl h0 dX12_pass_10 (fun hr7 => ?_)
    refine pm_iconst (pc := 13) (1 : Int32) (by decide) dX12_pass_13 ?_
    refine pm_aload_n (pc := 14) 0 dX12_pass_14 rfl rfl h0.pos ?_
    refine pm_getT (pc := 15) (k := 11) pm_cl12 flX12_25 (by decide) rfl h0 dX12_pass_15 (fun hr8 => ?_)
    refine pm_iconst (pc := 18) (1 : Int32) (by decide) dX12_pass_18 ?_
    obtain ⟨hb9, hf⟩ := pm_gd hf
    refine pm_iald (pc := 19) hr8 (pm_ib_in hb9) dX12_pass_19 ?_
    refine pm_aload_n (pc := 20) 0 dX12_pass_20 rfl rfl h0.pos ?_
    refine pm_aload_n (pc := 21) 0 dX12_pass_21 rfl rfl h0.pos ?_
    refine pm_getT (pc := 22) (k := 11) pm_cl12 flX12_25 (by decide) rfl h0 dX12_pass_22 (fun hr10 => ?_)
    refine pm_iconst (pc := 25) (3 : Int32) (by decide) dX12_pass_25 ?_
    obtain ⟨hb11, hf⟩ := pm_gd hf
    refine pm_iald (pc := 26) hr10 (pm_ib_in hb11) dX12_pass_26 ?_
    obtain ⟨u12, hu12, hf⟩ := pm_bind_e hf
    refine pm_cVi (pc := 27) (as := [.int (σ.1 (σ.2 a0 11) ((3 : Int32)).toNatClampNeg)]) (st := [.int (σ.1 (σ.2 a0 11) ((1 : Int32)).toNatClampNeg), .int (1 : Int32), .ref (σ.2 a0 11)]) mvX12_223 (KX12_swayOf l h0 hu12) (by decide) h0 rfl rfl (Nat.le_of_ble_eq_true rfl) rfl dX12_pass_27 ?_
    refine pm_iadd (pc := 30) dX12_pass_30 ?_
    obtain ⟨u13, hu13, hf⟩ := pm_bind_e hf
    refine pm_cSi (pc := 31) (as := [.int ((σ.1 (σ.2 a0 11) ((1 : Int32)).toNatClampNeg) + u12.1)]) (st := [.int (1 : Int32), .ref (σ.2 a0 11)]) msX12_226 (KX12_bound l  hu13) (by decide) rfl rfl (Nat.le_of_ble_eq_true rfl) rfl dX12_pass_31 ?_
    obtain ⟨hb14, hf⟩ := pm_gd hf
    refine pm_iast (pc := 34) hr7 (pm_ib_in hb14) dX12_pass_34 ?_
    obtain ⟨s15, es15, hf⟩ := pm_let_e hf
    refine pm_nmh es15 ?_
    refine pm_aload_n (pc := 35) 0 dX12_pass_35 rfl rfl h0.pos ?_
    refine pm_getT (pc := 36) (k := 11) pm_cl12 flX12_25 (by decide) rfl h0 dX12_pass_36 (fun hr16 => ?_)
    refine pm_iconst (pc := 39) (0 : Int32) (by decide) dX12_pass_39 ?_
    refine pm_aload_n (pc := 40) 0 dX12_pass_40 rfl rfl h0.pos ?_
    refine pm_getT (pc := 41) (k := 11) pm_cl12 flX12_25 (by decide) rfl h0 dX12_pass_41 (fun hr17 => ?_)
    refine pm_iconst (pc := 44) (0 : Int32) (by decide) dX12_pass_44 ?_
    obtain ⟨hb18, hf⟩ := pm_gd hf
    refine pm_iald (pc := 45) hr17 (pm_ib_in hb18) dX12_pass_45 ?_
    refine pm_aload_n (pc := 46) 0 dX12_pass_46 rfl rfl h0.pos ?_
    refine pm_getI (pc := 47) (k := 1) pm_cl12 flX12_170 (by decide) rfl h0 dX12_pass_47 ?_
    refine pm_icmp_le (pc := 50) 67 dX12_pass_50 (by decide) (fun hc33 => ?_) (fun hc33 => ?_)
    · rw [if_pos hc33] at hf
      refine pm_iconst (pc := 67) (1 : Int32) (by decide) dX12_pass_67 ?_
      obtain ⟨hb19, hf⟩ := pm_gd hf
      refine pm_iast (pc := 68) hr16 (pm_ib_in hb19) dX12_pass_68 ?_
      obtain ⟨s20, es20, hf⟩ := pm_let_e hf
      refine pm_nmh es20 ?_
      refine pm_aload_n (pc := 69) 0 dX12_pass_69 rfl rfl h0.pos ?_
      refine pm_getT (pc := 70) (k := 11) pm_cl12 flX12_25 (by decide) rfl h0 dX12_pass_70 (fun hr21 => ?_)
      refine pm_iconst (pc := 73) (3 : Int32) (by decide) dX12_pass_73 ?_
      refine pm_dup2 (pc := 74) rfl rfl dX12_pass_74 ?_
      obtain ⟨hb22, hf⟩ := pm_gd hf
      refine pm_iald (pc := 75) hr21 (pm_ib_in hb22) dX12_pass_75 ?_
      refine pm_iconst (pc := 76) (1 : Int32) (by decide) dX12_pass_76 ?_
      refine pm_iadd (pc := 77) dX12_pass_77 ?_
      obtain ⟨hb23, hf⟩ := pm_gd hf
      refine pm_iast (pc := 78) hr21 (pm_ib_in hb23) dX12_pass_78 ?_
      obtain ⟨s24, es24, hf⟩ := pm_let_e hf
      refine pm_nmh es24 ?_
      exact pm_vret rfl dX12_pass_79 (pm_ru_e hf)
    · rw [if_neg hc33] at hf
      refine pm_aload_n (pc := 53) 0 dX12_pass_53 rfl rfl h0.pos ?_
      refine pm_getT (pc := 54) (k := 11) pm_cl12 flX12_25 (by decide) rfl h0 dX12_pass_54 (fun hr25 => ?_)
      refine pm_iconst (pc := 57) (0 : Int32) (by decide) dX12_pass_57 ?_
      obtain ⟨hb26, hf⟩ := pm_gd hf
      refine pm_iald (pc := 58) hr25 (pm_ib_in hb26) dX12_pass_58 ?_
      refine pm_aload_n (pc := 59) 0 dX12_pass_59 rfl rfl h0.pos ?_
      refine pm_getI (pc := 60) (k := 1) pm_cl12 flX12_170 (by decide) rfl h0 dX12_pass_60 ?_
      refine pm_isub (pc := 63) dX12_pass_63 ?_
      refine pm_goto (pc := 64) 68 dX12_pass_64 (by decide) ?_
      obtain ⟨hb27, hf⟩ := pm_gd hf
      refine pm_iast (pc := 68) hr16 (pm_ib_in hb27) dX12_pass_68 ?_
      obtain ⟨s28, es28, hf⟩ := pm_let_e hf
      refine pm_nmh es28 ?_
      refine pm_aload_n (pc := 69) 0 dX12_pass_69 rfl rfl h0.pos ?_
      refine pm_getT (pc := 70) (k := 11) pm_cl12 flX12_25 (by decide) rfl h0 dX12_pass_70 (fun hr29 => ?_)
      refine pm_iconst (pc := 73) (3 : Int32) (by decide) dX12_pass_73 ?_
      refine pm_dup2 (pc := 74) rfl rfl dX12_pass_74 ?_
      obtain ⟨hb30, hf⟩ := pm_gd hf
      refine pm_iald (pc := 75) hr29 (pm_ib_in hb30) dX12_pass_75 ?_
      refine pm_iconst (pc := 76) (1 : Int32) (by decide) dX12_pass_76 ?_
      refine pm_iadd (pc := 77) dX12_pass_77 ?_
      obtain ⟨hb31, hf⟩ := pm_gd hf
      refine pm_iast (pc := 78) hr29 (pm_ib_in hb31) dX12_pass_78 ?_
      obtain ⟨s32, es32, hf⟩ := pm_let_e hf
      refine pm_nmh es32 ?_
      exact pm_vret rfl dX12_pass_79 (pm_ru_e hf)
  · rw [if_neg hc34] at hf
    refine pm_aload_n (pc := 69) 0 dX12_pass_69 rfl rfl h0.pos ?_
    refine pm_getT (pc := 70) (k := 11) pm_cl12 flX12_25 (by decide) rfl h0 dX12_pass_70 (fun hr3 => ?_)
    refine pm_iconst (pc := 73) (3 : Int32) (by decide) dX12_pass_73 ?_
    refine pm_dup2 (pc := 74) rfl rfl dX12_pass_74 ?_
    obtain ⟨hb4, hf⟩ := pm_gd hf
    refine pm_iald (pc := 75) hr3 (pm_ib_in hb4) dX12_pass_75 ?_
    refine pm_iconst (pc := 76) (1 : Int32) (by decide) dX12_pass_76 ?_
    refine pm_iadd (pc := 77) dX12_pass_77 ?_
    obtain ⟨hb5, hf⟩ := pm_gd hf
    refine pm_iast (pc := 78) hr3 (pm_ib_in hb5) dX12_pass_78 ?_
    obtain ⟨s6, es6, hf⟩ := pm_let_e hf
    refine pm_nmh es6 ?_
    exact pm_vret rfl dX12_pass_79 (pm_ru_e hf)
def fX12_yearsRefused (S : pm_S) (a0 : Nat) (a1 : Int32) (σ : pm_H) : Option (Int32 × pm_H) :=
  Option.bind (fX12_in S a1.toInt64 (1 : Int64) (60 : Int64) σ) fun u1 => (if u1.1 = 0 then some ((-1000000002 : Int32), u1.2) else Option.bind (fX12_isRealm S a0 u1.2) fun u2 => (if u2.1 = 0 then some ((-1000000003 : Int32), u2.2) else (if pm_ib (3 : Int32) (pm_len S (u2.2.2 a0 11)) = true then (if (u2.2.1 (u2.2.2 a0 11) ((3 : Int32)).toNatClampNeg) ≤ (9000 : Int32) then some ((0 : Int32), u2.2) else some ((-1000000004 : Int32), u2.2)) else none)))
set_option maxRecDepth 100000 in
set_option maxHeartbeats 4000000 in
theorem KX12_yearsRefused (l : Launch) {S : pm_S} {p : Int32 × pm_H} {a0 : Nat} {a1 : Int32} {σ : pm_H} (h0 : pm_is S a0 15) (hf : fX12_yearsRefused S a0 a1 σ = some p) : pm_M l yX12_yearsRefused cX12_yearsRefused 2 (some .int) false 1 [.ref a0, .int a1] S σ (pm_ri S p) := by
  refine pm_M.of (by decide +kernel) (Nat.le_of_ble_eq_true rfl) ?_
  show pm_E l yX12_yearsRefused cX12_yearsRefused 2 (some .int) false 1 S (pm_ri S p) 0 [(0, .ref a0), (1, .int a1)] [] S σ
  rw [fX12_yearsRefused] at hf
  refine pm_iload_n (pc := 0) 1 dX12_yearsRefused_0 rfl rfl ?_
  refine pm_i2l (pc := 1) dX12_yearsRefused_1 ?_
  refine pm_lconst (pc := 2) (1 : Int64) (by decide) dX12_yearsRefused_2 ?_
  refine pm_ldc2 (pc := 3) klX12_229 dX12_yearsRefused_3 ?_
  obtain ⟨u1, hu1, hf⟩ := pm_bind_e hf
  refine pm_cSi (pc := 6) (as := [.long a1.toInt64, .long (1 : Int64), .long (60 : Int64)]) (st := []) msX12_87 (KX12_in l  hu1) (by decide) rfl rfl (Nat.le_of_ble_eq_true rfl) rfl dX12_yearsRefused_6 ?_
  refine pm_if_ne (pc := 9) 15 dX12_yearsRefused_9 (by decide) (fun hc7 => ?_) (fun hc7 => ?_)
  · rw [if_pos hc7] at hf
    refine pm_ldc (pc := 12) kcX12_96 dX12_yearsRefused_12 ?_
    exact pm_iret rfl dX12_yearsRefused_14 (pm_ri_e hf)
  · rw [if_neg hc7] at hf
    refine pm_aload_n (pc := 15) 0 dX12_yearsRefused_15 rfl rfl h0.pos ?_
    obtain ⟨u2, hu2, hf⟩ := pm_bind_e hf
    refine pm_cVi (pc := 16) (as := []) (st := []) mvX12_208 (KX12_isRealm l h0 hu2) (by decide) h0 rfl rfl (Nat.le_of_ble_eq_true rfl) rfl dX12_yearsRefused_16 ?_
    refine pm_if_ne (pc := 19) 27 dX12_yearsRefused_19 (by decide) (fun hc6 => ?_) (fun hc6 => ?_)
    · rw [if_pos hc6] at hf
      refine pm_ldc (pc := 22) kcX12_212 dX12_yearsRefused_22 ?_
      refine pm_goto (pc := 24) 45 dX12_yearsRefused_24 (by decide) ?_
      exact pm_iret rfl dX12_yearsRefused_45 (pm_ri_e hf)
    · rw [if_neg hc6] at hf
      refine pm_aload_n (pc := 27) 0 dX12_yearsRefused_27 rfl rfl h0.pos ?_
      refine pm_getT (pc := 28) (k := 11) pm_cl12 flX12_25 (by decide) rfl h0 dX12_yearsRefused_28 (fun hr3 => ?_)
      refine pm_iconst (pc := 31) (3 : Int32) (by decide) dX12_yearsRefused_31 ?_
      obtain ⟨hb4, hf⟩ := pm_gd hf
      refine pm_iald (pc := 32) hr3 (pm_ib_in hb4) dX12_yearsRefused_32 ?_
      refine pm_sipush (pc := 33) (9000 : Int32) (by decide) dX12_yearsRefused_33 ?_
      refine pm_icmp_le (pc := 36) 44 dX12_yearsRefused_36 (by decide) (fun hc5 => ?_) (fun hc5 => ?_)
      · rw [if_pos hc5] at hf
        refine pm_iconst (pc := 44) (0 : Int32) (by decide) dX12_yearsRefused_44 ?_
        exact pm_iret rfl dX12_yearsRefused_45 (pm_ri_e hf)
      · rw [if_neg hc5] at hf
        refine pm_ldc (pc := 39) kcX12_100 dX12_yearsRefused_39 ?_
        refine pm_goto (pc := 41) 45 dX12_yearsRefused_41 (by decide) ?_
        exact pm_iret rfl dX12_yearsRefused_45 (pm_ri_e hf)
def fX12_year_L18 (S : pm_S) (v0 : Nat) (v1 : Int32) (kx : pm_H → Option (Int32 × pm_H)) : Nat → Int32 → pm_H → Option (Int32 × pm_H)
  | 0, _, _ => none
  | n + 1, v3, σ => (if v1 ≤ v3 then kx σ else Option.bind (fX12_pass S v0 σ) fun u3 => fX12_year_L18 S v0 v1 kx n (v3 + (1 : Int32)) u3)
set_option maxRecDepth 100000 in
set_option maxHeartbeats 4000000 in
theorem fX12_year_L18_E (l : Launch) {S : pm_S} {p : Int32 × pm_H} {v0 : Nat} {v1 : Int32} {kx : pm_H → Option (Int32 × pm_H)} (h0 : pm_is S v0 15) (hkx : ∀  sw, kx  sw = some p → pm_E l yX12_year cX12_year 4 (some .int) false 2 S (pm_ri S p) 33 [(0, .ref v0)] [] S sw) : ∀ (n : Nat) (v3 : Int32) (σ : pm_H), fX12_year_L18 S v0 v1 kx n v3 σ = some p → pm_E l yX12_year cX12_year 4 (some .int) false 2 S (pm_ri S p) 18 [(0, .ref v0), (1, .int v1), (3, .int v3)] [] S σ := by
  intro n
  induction n with
  | zero => intro v3 σ hf; cases hf
  | succ n ih =>
    intro v3 σ hf
    rw [fX12_year_L18] at hf
    refine pm_iload_n (pc := 18) 2 dX12_year_18 rfl rfl ?_
    refine pm_iload_n (pc := 19) 1 dX12_year_19 rfl rfl ?_
    refine pm_icmp_ge (pc := 20) 33 dX12_year_20 (by decide) (fun hc4 => ?_) (fun hc4 => ?_)
    · rw [if_pos hc4] at hf
      refine pm_lv [(0, .ref v0)] [0] rfl ?_
      exact hkx σ hf
    · rw [if_neg hc4] at hf
      refine pm_aload_n (pc := 23) 0 dX12_year_23 rfl rfl h0.pos ?_
      obtain ⟨u3, hu3, hf⟩ := pm_bind_e hf
      refine pm_cVu (pc := 24) (as := []) (st := []) mvX12_237 (KX12_pass l h0 hu3) (by decide) h0 rfl rfl (Nat.le_of_ble_eq_true rfl) rfl dX12_year_24 ?_
      refine pm_iinc (pc := 27) 2 (v3 + (1 : Int32)) [(3, .int (v3 + (1 : Int32))), (0, .ref v0), (1, .int v1)] dX12_year_27 rfl rfl (by decide) rfl ?_
      refine pm_goto (pc := 30) 18 dX12_year_30 (by decide) ?_
      refine pm_lv [(0, .ref v0), (1, .int v1), (3, .int (v3 + (1 : Int32)))] [1, 2, 0] rfl ?_
      exact ih (v3 + (1 : Int32)) u3 hf
def fX12_year (S : pm_S) (a0 : Nat) (a1 : Int32) (σ : pm_H) : Option (Int32 × pm_H) :=
  Option.bind (fX12_yearsRefused S a0 a1 σ) fun u1 => (if u1.1 = 0 then Option.bind (fX12_remember S a0 u1.2) fun u2 => fX12_year_L18 S a0 a1 (fun s5 => (if pm_ib (3 : Int32) (pm_len S (s5.2 a0 11)) = true then some ((s5.1 (s5.2 a0 11) ((3 : Int32)).toNatClampNeg), s5) else none)) pm_fuel (0 : Int32) u2 else some (u1.1, u1.2))
set_option maxRecDepth 100000 in
set_option maxHeartbeats 4000000 in
theorem KX12_year (l : Launch) {S : pm_S} {p : Int32 × pm_H} {a0 : Nat} {a1 : Int32} {σ : pm_H} (h0 : pm_is S a0 15) (hf : fX12_year S a0 a1 σ = some p) : pm_M l yX12_year cX12_year 4 (some .int) false 2 [.ref a0, .int a1] S σ (pm_ri S p) := by
  refine pm_M.of (by decide +kernel) (Nat.le_of_ble_eq_true rfl) ?_
  show pm_E l yX12_year cX12_year 4 (some .int) false 2 S (pm_ri S p) 0 [(0, .ref a0), (1, .int a1)] [] S σ
  rw [fX12_year] at hf
  refine pm_aload_n (pc := 0) 0 dX12_year_0 rfl rfl h0.pos ?_
  refine pm_iload_n (pc := 1) 1 dX12_year_1 rfl rfl ?_
  obtain ⟨u1, hu1, hf⟩ := pm_bind_e hf
  refine pm_cVi (pc := 2) (as := [.int a1]) (st := []) mvX12_231 (KX12_yearsRefused l h0 hu1) (by decide) h0 rfl rfl (Nat.le_of_ble_eq_true rfl) rfl dX12_year_2 ?_
  refine pm_istore_n (pc := 5) [(2, .int u1.1), (0, .ref a0), (1, .int a1)] dX12_year_5 rfl (by decide) rfl ?_
  refine pm_iload_n (pc := 6) 0 dX12_year_6 rfl rfl ?_
  refine pm_if_eq (pc := 7) 12 dX12_year_7 (by decide) (fun hc8 => ?_) (fun hc8 => ?_)
  · rw [if_pos hc8] at hf
    refine pm_aload_n (pc := 12) 1 dX12_year_12 rfl rfl h0.pos ?_
    obtain ⟨u2, hu2, hf⟩ := pm_bind_e hf
    refine pm_cVu (pc := 13) (as := []) (st := []) mvX12_234 (KX12_remember l h0 hu2) (by decide) h0 rfl rfl (Nat.le_of_ble_eq_true rfl) rfl dX12_year_13 ?_
    refine pm_iconst (pc := 16) (0 : Int32) (by decide) dX12_year_16 ?_
    refine pm_istore_n (pc := 17) [(3, .int (0 : Int32)), (2, .int u1.1), (0, .ref a0), (1, .int a1)] dX12_year_17 rfl (by decide) rfl ?_
    refine pm_lv [(0, .ref a0), (1, .int a1), (3, .int (0 : Int32))] [2, 3, 0] rfl ?_
    refine fX12_year_L18_E l h0 (fun s5 hf => ?_) pm_fuel (0 : Int32) u2 hf
    refine pm_aload_n (pc := 33) 0 dX12_year_33 rfl rfl h0.pos ?_
    refine pm_getT (pc := 34) (k := 11) pm_cl12 flX12_25 (by decide) rfl h0 dX12_year_34 (fun hr6 => ?_)
    refine pm_iconst (pc := 37) (3 : Int32) (by decide) dX12_year_37 ?_
    obtain ⟨hb7, hf⟩ := pm_gd hf
    refine pm_iald (pc := 38) hr6 (pm_ib_in hb7) dX12_year_38 ?_
    exact pm_iret rfl dX12_year_39 (pm_ri_e hf)
  · rw [if_neg hc8] at hf
    refine pm_iload_n (pc := 10) 0 dX12_year_10 rfl rfl ?_
    exact pm_iret rfl dX12_year_11 (pm_ri_e hf)
