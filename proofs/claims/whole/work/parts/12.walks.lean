def fX11_feed (S : pm_S) (a0 : Nat) (a1 : Int32) (σ : pm_H) : Option (Int32 × pm_H) :=
  Option.bind (fX11_within S a1 (0 : Int32) (255 : Int32) σ) fun u1 => (if u1.1 = 0 then some ((-1000000002 : Int32), u1.2) else (if (u1.2.1 a0 1) < 0 then some ((-1000000004 : Int32), u1.2) else (if (u1.2.1 a0 1) < (240 : Int32) then (if pm_ib (u1.2.1 a0 1) (pm_len S (u1.2.2 a0 0)) = true then pm_let (pm_si u1.2 (u1.2.2 a0 0) ((u1.2.1 a0 1)).toNatClampNeg a1) fun s4 => pm_let (pm_si s4 a0 1 ((s4.1 a0 1) + (1 : Int32))) fun s5 => some ((s5.1 a0 1), s5) else none) else some ((-1000000004 : Int32), u1.2))))
set_option maxRecDepth 100000 in
set_option maxHeartbeats 4000000 in
theorem KX11_feed (l : Launch) {S : pm_S} {p : Int32 × pm_H} {a0 : Nat} {a1 : Int32} {σ : pm_H} (h0 : pm_is S a0 14) (hf : fX11_feed S a0 a1 σ = some p) : pm_M l yX11_feed cX11_feed 2 (some .int) false 1 [.ref a0, .int a1] S σ (pm_ri S p) := by
  refine pm_M.of (by decide +kernel) (Nat.le_of_ble_eq_true rfl) ?_
  show pm_E l yX11_feed cX11_feed 2 (some .int) false 1 S (pm_ri S p) 0 [(0, .ref a0), (1, .int a1)] [] S σ
  rw [fX11_feed] at hf
  refine pm_iload_n (pc := 0) 1 dX11_feed_0 rfl rfl ?_
  refine pm_iconst (pc := 1) (0 : Int32) (by decide) dX11_feed_1 ?_
  refine pm_sipush (pc := 2) (255 : Int32) (by decide) dX11_feed_2 ?_
  obtain ⟨u1, hu1, hf⟩ := pm_bind_e hf
  refine pm_cSi (pc := 5) (as := [.int a1, .int (0 : Int32), .int (255 : Int32)]) (st := []) msX11_94 (KX11_within l  hu1) (by decide) rfl rfl (Nat.le_of_ble_eq_true rfl) rfl dX11_feed_5 ?_
  refine pm_if_ne (pc := 8) 14 dX11_feed_8 (by decide) (fun hc8 => ?_) (fun hc8 => ?_)
  · rw [if_pos hc8] at hf
    refine pm_ldc (pc := 11) kcX11_98 dX11_feed_11 ?_
    exact pm_iret rfl dX11_feed_13 (pm_ri_e hf)
  · rw [if_neg hc8] at hf
    refine pm_aload_n (pc := 14) 0 dX11_feed_14 rfl rfl h0.pos ?_
    refine pm_getI (pc := 15) (k := 1) pm_cl11 flX11_99 (by decide) rfl h0 dX11_feed_15 ?_
    refine pm_if_lt (pc := 18) 31 dX11_feed_18 (by decide) (fun hc7 => ?_) (fun hc7 => ?_)
    · rw [if_pos hc7] at hf
      refine pm_ldc (pc := 31) kcX11_102 dX11_feed_31 ?_
      exact pm_iret rfl dX11_feed_33 (pm_ri_e hf)
    · rw [if_neg hc7] at hf
      refine pm_aload_n (pc := 21) 0 dX11_feed_21 rfl rfl h0.pos ?_
      refine pm_getI (pc := 22) (k := 1) pm_cl11 flX11_99 (by decide) rfl h0 dX11_feed_22 ?_
      refine pm_sipush (pc := 25) (240 : Int32) (by decide) dX11_feed_25 ?_
      refine pm_icmp_lt (pc := 28) 34 dX11_feed_28 (by decide) (fun hc6 => ?_) (fun hc6 => ?_)
      · rw [if_pos hc6] at hf
        refine pm_aload_n (pc := 34) 0 dX11_feed_34 rfl rfl h0.pos ?_
        refine pm_getT (pc := 35) (k := 0) pm_cl11 flX11_9 (by decide) rfl h0 dX11_feed_35 (fun hr2 => ?_)
        refine pm_aload_n (pc := 38) 0 dX11_feed_38 rfl rfl h0.pos ?_
        refine pm_getI (pc := 39) (k := 1) pm_cl11 flX11_99 (by decide) rfl h0 dX11_feed_39 ?_
        refine pm_iload_n (pc := 42) 1 dX11_feed_42 rfl rfl ?_
        obtain ⟨hb3, hf⟩ := pm_gd hf
        refine pm_iast (pc := 43) hr2 (pm_ib_in hb3) dX11_feed_43 ?_
        obtain ⟨s4, es4, hf⟩ := pm_let_e hf
        refine pm_nmh es4 ?_
        refine pm_aload_n (pc := 44) 0 dX11_feed_44 rfl rfl h0.pos ?_
        refine pm_dup (pc := 45) rfl dX11_feed_45 ?_
        refine pm_getI (pc := 46) (k := 1) pm_cl11 flX11_99 (by decide) rfl h0 dX11_feed_46 ?_
        refine pm_iconst (pc := 49) (1 : Int32) (by decide) dX11_feed_49 ?_
        refine pm_iadd (pc := 50) dX11_feed_50 ?_
        refine pm_putI (pc := 51) (k := 1) pm_cl11 flX11_99 (by decide) rfl rfl rfl h0 dX11_feed_51 ?_
        obtain ⟨s5, es5, hf⟩ := pm_let_e hf
        refine pm_nmh es5 ?_
        refine pm_aload_n (pc := 54) 0 dX11_feed_54 rfl rfl h0.pos ?_
        refine pm_getI (pc := 55) (k := 1) pm_cl11 flX11_99 (by decide) rfl h0 dX11_feed_55 ?_
        exact pm_iret rfl dX11_feed_58 (pm_ri_e hf)
      · rw [if_neg hc6] at hf
        refine pm_ldc (pc := 31) kcX11_102 dX11_feed_31 ?_
        exact pm_iret rfl dX11_feed_33 (pm_ri_e hf)
def fX11_realm_L94 (S : pm_S) (v0 : Nat) (kx : pm_H → Option (Int32 × pm_H)) : Nat → Int32 → pm_H → Option (Int32 × pm_H)
  | 0, _, _ => none
  | n + 1, v2, σ => (if (2 : Int32) ≤ v2 then kx σ else (if pm_ib v2 (pm_len S (σ.2 v0 10)) = true then pm_let (pm_si σ (σ.2 v0 10) (v2).toNatClampNeg (0 : Int32)) fun s20 => fX11_realm_L94 S v0 kx n (v2 + (1 : Int32)) s20 else none))
set_option maxRecDepth 100000 in
set_option maxHeartbeats 4000000 in
theorem fX11_realm_L94_E (l : Launch) {S : pm_S} {p : Int32 × pm_H} {v0 : Nat} {kx : pm_H → Option (Int32 × pm_H)} (h0 : pm_is S v0 14) (hkx : ∀  sw, kx  sw = some p → pm_E l yX11_realm cX11_realm 3 (some .int) false 6 S (pm_ri S p) 112 [(0, .ref v0)] [] S sw) : ∀ (n : Nat) (v2 : Int32) (σ : pm_H), fX11_realm_L94 S v0 kx n v2 σ = some p → pm_E l yX11_realm cX11_realm 3 (some .int) false 6 S (pm_ri S p) 94 [(0, .ref v0), (2, .int v2)] [] S σ := by
  intro n
  induction n with
  | zero => intro v2 σ hf; cases hf
  | succ n ih =>
    intro v2 σ hf
    rw [fX11_realm_L94] at hf
    refine pm_iload_n (pc := 94) 1 dX11_realm_94 rfl rfl ?_
    refine pm_iconst (pc := 95) (2 : Int32) (by decide) dX11_realm_95 ?_
    refine pm_icmp_ge (pc := 96) 112 dX11_realm_96 (by decide) (fun hc21 => ?_) (fun hc21 => ?_)
    · rw [if_pos hc21] at hf
      refine pm_lv [(0, .ref v0)] [0] rfl ?_
      exact hkx σ hf
    · rw [if_neg hc21] at hf
      refine pm_aload_n (pc := 99) 0 dX11_realm_99 rfl rfl h0.pos ?_
      refine pm_getT (pc := 100) (k := 10) pm_cl11 flX11_59 (by decide) rfl h0 dX11_realm_100 (fun hr18 => ?_)
      refine pm_iload_n (pc := 103) 1 dX11_realm_103 rfl rfl ?_
      refine pm_iconst (pc := 104) (0 : Int32) (by decide) dX11_realm_104 ?_
      obtain ⟨hb19, hf⟩ := pm_gd hf
      refine pm_zast (pc := 105) hr18 (pm_ib_in hb19) (by decide) dX11_realm_105 ?_
      obtain ⟨s20, es20, hf⟩ := pm_let_e hf
      refine pm_nmh es20 ?_
      refine pm_iinc (pc := 106) 1 (v2 + (1 : Int32)) [(2, .int (v2 + (1 : Int32))), (0, .ref v0)] dX11_realm_106 rfl rfl (by decide) rfl ?_
      refine pm_goto (pc := 109) 94 dX11_realm_109 (by decide) ?_
      refine pm_lv [(0, .ref v0), (2, .int (v2 + (1 : Int32)))] [1, 0] rfl ?_
      exact ih (v2 + (1 : Int32)) s20 hf
def fX11_realm (S : pm_S) (a0 : Nat) (σ : pm_H) : Option (Int32 × pm_H) :=
  Option.bind (fX5_readText S (σ.2 a0 3) (σ.2 a0 0) (σ.1 a0 1) (σ.2 a0 5) σ) fun u4 => pm_let (pm_si u4 a0 1 (0 : Int32)) fun s5 => pm_let (pm_si s5 a0 2 (s5.1 (s5.2 a0 3) 1)) fun s7 => (if (s7.1 (s7.2 a0 3) 0) = 0 then pm_let (pm_sr s7 a0 4 (s7.2 a0 5)) fun s11 => pm_let (pm_sr s11 a0 5 (s7.2 a0 4)) fun s12 => Option.bind (fX8_begin S (s12.2 a0 6) (s12.2 a0 4) s12) fun u15 => Option.bind (fX3_forget S (u15.2 a0 8) u15) fun u17 => fX11_realm_L94 S a0 (fun s22 => pm_let (pm_si s22 (s22.2 a0 15) 2 (0 : Int32)) fun s24 => pm_let (pm_si s24 (s24.2 a0 16) 2 (0 : Int32)) fun s26 => some ((s26.1 (s26.2 a0 4) 0), s26)) pm_fuel (0 : Int32) u17 else some (((-10 : Int32) - (s7.1 (s7.2 a0 3) 0)), s7))
set_option maxRecDepth 100000 in
set_option maxHeartbeats 4000000 in
theorem KX11_realm (l : Launch) {S : pm_S} {p : Int32 × pm_H} {a0 : Nat} {σ : pm_H} (h0 : pm_is S a0 14) (hf : fX11_realm S a0 σ = some p) : pm_M l yX11_realm cX11_realm 3 (some .int) false 6 [.ref a0] S σ (pm_ri S p) := by
  refine pm_M.of (by decide +kernel) (Nat.le_of_ble_eq_true rfl) ?_
  show pm_E l yX11_realm cX11_realm 3 (some .int) false 6 S (pm_ri S p) 0 [(0, .ref a0)] [] S σ
  rw [fX11_realm] at hf
  refine pm_aload_n (pc := 0) 0 dX11_realm_0 rfl rfl h0.pos ?_
  refine pm_getT (pc := 1) (k := 3) pm_cl11 flX11_20 (by decide) rfl h0 dX11_realm_1 (fun hr1 => ?_)
  refine pm_aload_n (pc := 4) 0 dX11_realm_4 rfl rfl h0.pos ?_
  refine pm_getT (pc := 5) (k := 0) pm_cl11 flX11_9 (by decide) rfl h0 dX11_realm_5 (fun hr2 => ?_)
  refine pm_aload_n (pc := 8) 0 dX11_realm_8 rfl rfl h0.pos ?_
  refine pm_getI (pc := 9) (k := 1) pm_cl11 flX11_99 (by decide) rfl h0 dX11_realm_9 ?_
  refine pm_aload_n (pc := 12) 0 dX11_realm_12 rfl rfl h0.pos ?_
  refine pm_getT (pc := 13) (k := 5) pm_cl11 flX11_31 (by decide) rfl h0 dX11_realm_13 (fun hr3 => ?_)
  obtain ⟨u4, hu4, hf⟩ := pm_bind_e hf
  refine pm_cVu (pc := 16) (as := [.ref (σ.2 a0 0), .int (σ.1 a0 1), .ref (σ.2 a0 5)]) (st := []) mvX11_103 (KX5_readText l hr1 hr2 hr3 hu4) (by decide) hr1 rfl rfl (Nat.le_of_ble_eq_true rfl) rfl dX11_realm_16 ?_
  refine pm_aload_n (pc := 19) 0 dX11_realm_19 rfl rfl h0.pos ?_
  refine pm_iconst (pc := 20) (0 : Int32) (by decide) dX11_realm_20 ?_
  refine pm_putI (pc := 21) (k := 1) pm_cl11 flX11_99 (by decide) rfl rfl rfl h0 dX11_realm_21 ?_
  obtain ⟨s5, es5, hf⟩ := pm_let_e hf
  refine pm_nmh es5 ?_
  refine pm_aload_n (pc := 24) 0 dX11_realm_24 rfl rfl h0.pos ?_
  refine pm_aload_n (pc := 25) 0 dX11_realm_25 rfl rfl h0.pos ?_
  refine pm_getT (pc := 26) (k := 3) pm_cl11 flX11_20 (by decide) rfl h0 dX11_realm_26 (fun hr6 => ?_)
  refine pm_getI (pc := 29) (k := 1) pm_cl5 flX11_107 (by decide) rfl hr6 dX11_realm_29 ?_
  refine pm_putI (pc := 32) (k := 2) pm_cl11 flX11_13 (by decide) rfl rfl rfl h0 dX11_realm_32 ?_
  obtain ⟨s7, es7, hf⟩ := pm_let_e hf
  refine pm_nmh es7 ?_
  refine pm_aload_n (pc := 35) 0 dX11_realm_35 rfl rfl h0.pos ?_
  refine pm_getT (pc := 36) (k := 3) pm_cl11 flX11_20 (by decide) rfl h0 dX11_realm_36 (fun hr8 => ?_)
  refine pm_getI (pc := 39) (k := 0) pm_cl5 flX11_108 (by decide) rfl hr8 dX11_realm_39 ?_
  refine pm_if_eq (pc := 42) 56 dX11_realm_42 (by decide) (fun hc29 => ?_) (fun hc29 => ?_)
  · rw [if_pos hc29] at hf
    refine pm_aload_n (pc := 56) 0 dX11_realm_56 rfl rfl h0.pos ?_
    refine pm_getT (pc := 57) (k := 4) pm_cl11 flX11_27 (by decide) rfl h0 dX11_realm_57 (fun hr9 => ?_)
    refine pm_astore_n (pc := 60) [(1, .ref (s7.2 a0 4)), (0, .ref a0)] dX11_realm_60 rfl (by decide) hr9.pos rfl ?_
    refine pm_aload_n (pc := 61) 1 dX11_realm_61 rfl rfl h0.pos ?_
    refine pm_aload_n (pc := 62) 1 dX11_realm_62 rfl rfl h0.pos ?_
    refine pm_getT (pc := 63) (k := 5) pm_cl11 flX11_31 (by decide) rfl h0 dX11_realm_63 (fun hr10 => ?_)
    refine pm_putR (pc := 66) (k := 4) pm_cl11 flX11_27 (by decide) rfl (fun _ => ⟨rfl, rfl⟩) (Or.inl rfl) h0 hr10 dX11_realm_66 ?_
    obtain ⟨s11, es11, hf⟩ := pm_let_e hf
    refine pm_nmh es11 ?_
    refine pm_aload_n (pc := 69) 1 dX11_realm_69 rfl rfl h0.pos ?_
    refine pm_aload_n (pc := 70) 0 dX11_realm_70 rfl rfl hr9.pos ?_
    refine pm_putR (pc := 71) (k := 5) pm_cl11 flX11_31 (by decide) rfl (fun _ => ⟨rfl, rfl⟩) (Or.inl rfl) h0 hr9 dX11_realm_71 ?_
    obtain ⟨s12, es12, hf⟩ := pm_let_e hf
    refine pm_nmh es12 ?_
    refine pm_aload_n (pc := 74) 1 dX11_realm_74 rfl rfl h0.pos ?_
    refine pm_getT (pc := 75) (k := 6) pm_cl11 flX11_37 (by decide) rfl h0 dX11_realm_75 (fun hr13 => ?_)
    refine pm_aload_n (pc := 78) 1 dX11_realm_78 rfl rfl h0.pos ?_
    refine pm_getT (pc := 79) (k := 4) pm_cl11 flX11_27 (by decide) rfl h0 dX11_realm_79 (fun hr14 => ?_)
    obtain ⟨u15, hu15, hf⟩ := pm_bind_e hf
    refine pm_cVu (pc := 82) (as := [.ref (s12.2 a0 4)]) (st := []) mvX11_111 (KX8_begin l hr13 hr14 hu15) (by decide) hr13 rfl rfl (Nat.le_of_ble_eq_true rfl) rfl dX11_realm_82 ?_
    refine pm_aload_n (pc := 85) 1 dX11_realm_85 rfl rfl h0.pos ?_
    refine pm_getT (pc := 86) (k := 8) pm_cl11 flX11_51 (by decide) rfl h0 dX11_realm_86 (fun hr16 => ?_)
    obtain ⟨u17, hu17, hf⟩ := pm_bind_e hf
    refine pm_cVu (pc := 89) (as := []) (st := []) mvX11_115 (KX3_forget l hr16 hu17) (by decide) hr16 rfl rfl (Nat.le_of_ble_eq_true rfl) rfl dX11_realm_89 ?_
    refine pm_iconst (pc := 92) (0 : Int32) (by decide) dX11_realm_92 ?_
    refine pm_istore_n (pc := 93) [(2, .int (0 : Int32)), (1, .ref (s7.2 a0 4)), (0, .ref a0)] dX11_realm_93 rfl (by decide) rfl ?_
    refine pm_lv [(0, .ref a0), (2, .int (0 : Int32))] [2, 0] rfl ?_
    refine fX11_realm_L94_E l h0 (fun s22 hf => ?_) pm_fuel (0 : Int32) u17 hf
    refine pm_aload_n (pc := 112) 0 dX11_realm_112 rfl rfl h0.pos ?_
    refine pm_getT (pc := 113) (k := 15) pm_cl11 flX11_83 (by decide) rfl h0 dX11_realm_113 (fun hr23 => ?_)
    refine pm_iconst (pc := 116) (0 : Int32) (by decide) dX11_realm_116 ?_
    refine pm_putI (pc := 117) (k := 2) pm_cl7 flX11_118 (by decide) rfl rfl rfl hr23 dX11_realm_117 ?_
    obtain ⟨s24, es24, hf⟩ := pm_let_e hf
    refine pm_nmh es24 ?_
    refine pm_aload_n (pc := 120) 0 dX11_realm_120 rfl rfl h0.pos ?_
    refine pm_getT (pc := 121) (k := 16) pm_cl11 flX11_90 (by decide) rfl h0 dX11_realm_121 (fun hr25 => ?_)
    refine pm_iconst (pc := 124) (0 : Int32) (by decide) dX11_realm_124 ?_
    refine pm_putI (pc := 125) (k := 2) pm_cl0 flX11_121 (by decide) rfl rfl rfl hr25 dX11_realm_125 ?_
    obtain ⟨s26, es26, hf⟩ := pm_let_e hf
    refine pm_nmh es26 ?_
    refine pm_aload_n (pc := 128) 0 dX11_realm_128 rfl rfl h0.pos ?_
    refine pm_getT (pc := 129) (k := 4) pm_cl11 flX11_27 (by decide) rfl h0 dX11_realm_129 (fun hr27 => ?_)
    refine pm_getI (pc := 132) (k := 0) pm_cl9 flX11_122 (by decide) rfl hr27 dX11_realm_132 ?_
    exact pm_iret rfl dX11_realm_135 (pm_ri_e hf)
  · rw [if_neg hc29] at hf
    refine pm_bipush (pc := 45) (-10 : Int32) (by decide) dX11_realm_45 ?_
    refine pm_aload_n (pc := 47) 0 dX11_realm_47 rfl rfl h0.pos ?_
    refine pm_getT (pc := 48) (k := 3) pm_cl11 flX11_20 (by decide) rfl h0 dX11_realm_48 (fun hr28 => ?_)
    refine pm_getI (pc := 51) (k := 0) pm_cl5 flX11_108 (by decide) rfl hr28 dX11_realm_51 ?_
    refine pm_isub (pc := 54) dX11_realm_54 ?_
    exact pm_iret rfl dX11_realm_55 (pm_ri_e hf)
def fX11_fault (S : pm_S) (a0 : Nat) (σ : pm_H) : Option (Int32 × pm_H) :=
  some ((σ.1 a0 2), σ)
set_option maxRecDepth 100000 in
set_option maxHeartbeats 4000000 in
theorem KX11_fault (l : Launch) {S : pm_S} {p : Int32 × pm_H} {a0 : Nat} {σ : pm_H} (h0 : pm_is S a0 14) (hf : fX11_fault S a0 σ = some p) : pm_M l yX11_fault cX11_fault 1 (some .int) false 0 [.ref a0] S σ (pm_ri S p) := by
  refine pm_M.of (by decide +kernel) (Nat.le_of_ble_eq_true rfl) ?_
  show pm_E l yX11_fault cX11_fault 1 (some .int) false 0 S (pm_ri S p) 0 [(0, .ref a0)] [] S σ
  rw [fX11_fault] at hf
  refine pm_aload_n (pc := 0) 0 dX11_fault_0 rfl rfl h0.pos ?_
  refine pm_getI (pc := 1) (k := 2) pm_cl11 flX11_13 (by decide) rfl h0 dX11_fault_1 ?_
  exact pm_iret rfl dX11_fault_4 (pm_ri_e hf)
def fX11_told (S : pm_S) (a0 : Nat) (a1 : Int32) (σ : pm_H) : Option (Int32 × pm_H) :=
  (if a1 = (0 : Int32) then some ((σ.1 (σ.2 a0 4) 0), σ) else (if a1 = (1 : Int32) then some ((σ.1 (σ.2 a0 4) 3), σ) else (if a1 = (2 : Int32) then some ((σ.1 (σ.2 a0 4) 6), σ) else (if a1 = (3 : Int32) then some ((σ.1 (σ.2 a0 4) 8), σ) else (if a1 = (4 : Int32) then some ((σ.1 a0 1), σ) else (if a1 = (5 : Int32) then some ((σ.1 (σ.2 (σ.2 a0 6) 0) 3), σ) else (if a1 = (6 : Int32) then some ((σ.1 (σ.2 (σ.2 a0 6) 0) 0), σ) else (if a1 = (7 : Int32) then (if (σ.1 (σ.2 (σ.2 a0 6) 0) 2) = 0 then some ((0 : Int32), σ) else some ((1 : Int32), σ)) else (if a1 = (8 : Int32) then some ((σ.1 (σ.2 (σ.2 a0 6) 1) 4), σ) else (if a1 = (9 : Int32) then some ((σ.1 (σ.2 (σ.2 a0 6) 2) 1), σ) else (if a1 = (10 : Int32) then Option.bind (fX10_longest S (σ.2 (σ.2 a0 6) 1) σ) fun u28 => some (u28.1, u28.2) else (if a1 = (11 : Int32) then some ((σ.1 (σ.2 a0 15) 2), σ) else (if a1 = (12 : Int32) then some ((σ.1 (σ.2 a0 16) 2), σ) else (if a1 = (13 : Int32) then some ((σ.1 (σ.2 a0 8) 2), σ) else some ((-1000000002 : Int32), σ)))))))))))))))
set_option maxRecDepth 100000 in
set_option maxHeartbeats 4000000 in
theorem KX11_told (l : Launch) {S : pm_S} {p : Int32 × pm_H} {a0 : Nat} {a1 : Int32} {σ : pm_H} (h0 : pm_is S a0 14) (hf : fX11_told S a0 a1 σ = some p) : pm_M l yX11_told cX11_told 2 (some .int) false 1 [.ref a0, .int a1] S σ (pm_ri S p) := by
  refine pm_M.of (by decide +kernel) (Nat.le_of_ble_eq_true rfl) ?_
  show pm_E l yX11_told cX11_told 2 (some .int) false 1 S (pm_ri S p) 0 [(0, .ref a0), (1, .int a1)] [] S σ
  rw [fX11_told] at hf
  refine pm_iload_n (pc := 0) 1 dX11_told_0 rfl rfl ?_
  by_cases hc2 : a1 = (0 : Int32)
  · rw [if_pos hc2] at hf
    refine pm_tin (pc := 1) (off := 71) 72 hc2 dX11_told_1 (by decide) (by decide) ?_
    refine pm_aload_n (pc := 72) 0 dX11_told_72 rfl rfl h0.pos ?_
    refine pm_getT (pc := 73) (k := 4) pm_cl11 flX11_27 (by decide) rfl h0 dX11_told_73 (fun hr1 => ?_)
    refine pm_getI (pc := 76) (k := 0) pm_cl9 flX11_122 (by decide) rfl hr1 dX11_told_76 ?_
    exact pm_iret rfl dX11_told_79 (pm_ri_e hf)
  · rw [if_neg hc2] at hf
    by_cases hc4 : a1 = (1 : Int32)
    · rw [if_pos hc4] at hf
      refine pm_tin (pc := 1) (off := 79) 80 hc4 dX11_told_1 (by decide) (by decide) ?_
      refine pm_aload_n (pc := 80) 0 dX11_told_80 rfl rfl h0.pos ?_
      refine pm_getT (pc := 81) (k := 4) pm_cl11 flX11_27 (by decide) rfl h0 dX11_told_81 (fun hr3 => ?_)
      refine pm_getI (pc := 84) (k := 3) pm_cl9 flX11_125 (by decide) rfl hr3 dX11_told_84 ?_
      exact pm_iret rfl dX11_told_87 (pm_ri_e hf)
    · rw [if_neg hc4] at hf
      by_cases hc6 : a1 = (2 : Int32)
      · rw [if_pos hc6] at hf
        refine pm_tin (pc := 1) (off := 87) 88 hc6 dX11_told_1 (by decide) (by decide) ?_
        refine pm_aload_n (pc := 88) 0 dX11_told_88 rfl rfl h0.pos ?_
        refine pm_getT (pc := 89) (k := 4) pm_cl11 flX11_27 (by decide) rfl h0 dX11_told_89 (fun hr5 => ?_)
        refine pm_getI (pc := 92) (k := 6) pm_cl9 flX11_128 (by decide) rfl hr5 dX11_told_92 ?_
        exact pm_iret rfl dX11_told_95 (pm_ri_e hf)
      · rw [if_neg hc6] at hf
        by_cases hc8 : a1 = (3 : Int32)
        · rw [if_pos hc8] at hf
          refine pm_tin (pc := 1) (off := 95) 96 hc8 dX11_told_1 (by decide) (by decide) ?_
          refine pm_aload_n (pc := 96) 0 dX11_told_96 rfl rfl h0.pos ?_
          refine pm_getT (pc := 97) (k := 4) pm_cl11 flX11_27 (by decide) rfl h0 dX11_told_97 (fun hr7 => ?_)
          refine pm_getI (pc := 100) (k := 8) pm_cl9 flX11_131 (by decide) rfl hr7 dX11_told_100 ?_
          exact pm_iret rfl dX11_told_103 (pm_ri_e hf)
        · rw [if_neg hc8] at hf
          by_cases hc9 : a1 = (4 : Int32)
          · rw [if_pos hc9] at hf
            refine pm_tin (pc := 1) (off := 103) 104 hc9 dX11_told_1 (by decide) (by decide) ?_
            refine pm_aload_n (pc := 104) 0 dX11_told_104 rfl rfl h0.pos ?_
            refine pm_getI (pc := 105) (k := 1) pm_cl11 flX11_99 (by decide) rfl h0 dX11_told_105 ?_
            exact pm_iret rfl dX11_told_108 (pm_ri_e hf)
          · rw [if_neg hc9] at hf
            by_cases hc12 : a1 = (5 : Int32)
            · rw [if_pos hc12] at hf
              refine pm_tin (pc := 1) (off := 108) 109 hc12 dX11_told_1 (by decide) (by decide) ?_
              refine pm_aload_n (pc := 109) 0 dX11_told_109 rfl rfl h0.pos ?_
              refine pm_getT (pc := 110) (k := 6) pm_cl11 flX11_37 (by decide) rfl h0 dX11_told_110 (fun hr10 => ?_)
              refine pm_getT (pc := 113) (k := 0) pm_cl8 flX11_134 (by decide) rfl hr10 dX11_told_113 (fun hr11 => ?_)
              refine pm_getI (pc := 116) (k := 3) pm_cl6 flX11_137 (by decide) rfl hr11 dX11_told_116 ?_
              exact pm_iret rfl dX11_told_119 (pm_ri_e hf)
            · rw [if_neg hc12] at hf
              by_cases hc15 : a1 = (6 : Int32)
              · rw [if_pos hc15] at hf
                refine pm_tin (pc := 1) (off := 119) 120 hc15 dX11_told_1 (by decide) (by decide) ?_
                refine pm_aload_n (pc := 120) 0 dX11_told_120 rfl rfl h0.pos ?_
                refine pm_getT (pc := 121) (k := 6) pm_cl11 flX11_37 (by decide) rfl h0 dX11_told_121 (fun hr13 => ?_)
                refine pm_getT (pc := 124) (k := 0) pm_cl8 flX11_134 (by decide) rfl hr13 dX11_told_124 (fun hr14 => ?_)
                refine pm_getI (pc := 127) (k := 0) pm_cl6 flX11_140 (by decide) rfl hr14 dX11_told_127 ?_
                exact pm_iret rfl dX11_told_130 (pm_ri_e hf)
              · rw [if_neg hc15] at hf
                by_cases hc19 : a1 = (7 : Int32)
                · rw [if_pos hc19] at hf
                  refine pm_tin (pc := 1) (off := 130) 131 hc19 dX11_told_1 (by decide) (by decide) ?_
                  refine pm_aload_n (pc := 131) 0 dX11_told_131 rfl rfl h0.pos ?_
                  refine pm_getT (pc := 132) (k := 6) pm_cl11 flX11_37 (by decide) rfl h0 dX11_told_132 (fun hr16 => ?_)
                  refine pm_getT (pc := 135) (k := 0) pm_cl8 flX11_134 (by decide) rfl hr16 dX11_told_135 (fun hr17 => ?_)
                  refine pm_getI (pc := 138) (k := 2) pm_cl6 flX11_141 (by decide) rfl hr17 dX11_told_138 ?_
                  refine pm_if_eq (pc := 141) 148 dX11_told_141 (by decide) (fun hc18 => ?_) (fun hc18 => ?_)
                  · rw [if_pos hc18] at hf
                    refine pm_iconst (pc := 148) (0 : Int32) (by decide) dX11_told_148 ?_
                    exact pm_iret rfl dX11_told_149 (pm_ri_e hf)
                  · rw [if_neg hc18] at hf
                    refine pm_iconst (pc := 144) (1 : Int32) (by decide) dX11_told_144 ?_
                    refine pm_goto (pc := 145) 149 dX11_told_145 (by decide) ?_
                    exact pm_iret rfl dX11_told_149 (pm_ri_e hf)
                · rw [if_neg hc19] at hf
                  by_cases hc22 : a1 = (8 : Int32)
                  · rw [if_pos hc22] at hf
                    refine pm_tin (pc := 1) (off := 149) 150 hc22 dX11_told_1 (by decide) (by decide) ?_
                    refine pm_aload_n (pc := 150) 0 dX11_told_150 rfl rfl h0.pos ?_
                    refine pm_getT (pc := 151) (k := 6) pm_cl11 flX11_37 (by decide) rfl h0 dX11_told_151 (fun hr20 => ?_)
                    refine pm_getT (pc := 154) (k := 1) pm_cl8 flX11_145 (by decide) rfl hr20 dX11_told_154 (fun hr21 => ?_)
                    refine pm_getI (pc := 157) (k := 4) pm_cl10 flX11_149 (by decide) rfl hr21 dX11_told_157 ?_
                    exact pm_iret rfl dX11_told_160 (pm_ri_e hf)
                  · rw [if_neg hc22] at hf
                    by_cases hc25 : a1 = (9 : Int32)
                    · rw [if_pos hc25] at hf
                      refine pm_tin (pc := 1) (off := 160) 161 hc25 dX11_told_1 (by decide) (by decide) ?_
                      refine pm_aload_n (pc := 161) 0 dX11_told_161 rfl rfl h0.pos ?_
                      refine pm_getT (pc := 162) (k := 6) pm_cl11 flX11_37 (by decide) rfl h0 dX11_told_162 (fun hr23 => ?_)
                      refine pm_getT (pc := 165) (k := 2) pm_cl8 flX11_152 (by decide) rfl hr23 dX11_told_165 (fun hr24 => ?_)
                      refine pm_getI (pc := 168) (k := 1) pm_cl1 flX11_156 (by decide) rfl hr24 dX11_told_168 ?_
                      exact pm_iret rfl dX11_told_171 (pm_ri_e hf)
                    · rw [if_neg hc25] at hf
                      by_cases hc29 : a1 = (10 : Int32)
                      · rw [if_pos hc29] at hf
                        refine pm_tin (pc := 1) (off := 171) 172 hc29 dX11_told_1 (by decide) (by decide) ?_
                        refine pm_aload_n (pc := 172) 0 dX11_told_172 rfl rfl h0.pos ?_
                        refine pm_getT (pc := 173) (k := 6) pm_cl11 flX11_37 (by decide) rfl h0 dX11_told_173 (fun hr26 => ?_)
                        refine pm_getT (pc := 176) (k := 1) pm_cl8 flX11_145 (by decide) rfl hr26 dX11_told_176 (fun hr27 => ?_)
                        obtain ⟨u28, hu28, hf⟩ := pm_bind_e hf
                        refine pm_cVi (pc := 179) (as := []) (st := []) mvX11_159 (KX10_longest l hr27 hu28) (by decide) hr27 rfl rfl (Nat.le_of_ble_eq_true rfl) rfl dX11_told_179 ?_
                        exact pm_iret rfl dX11_told_182 (pm_ri_e hf)
                      · rw [if_neg hc29] at hf
                        by_cases hc31 : a1 = (11 : Int32)
                        · rw [if_pos hc31] at hf
                          refine pm_tin (pc := 1) (off := 182) 183 hc31 dX11_told_1 (by decide) (by decide) ?_
                          refine pm_aload_n (pc := 183) 0 dX11_told_183 rfl rfl h0.pos ?_
                          refine pm_getT (pc := 184) (k := 15) pm_cl11 flX11_83 (by decide) rfl h0 dX11_told_184 (fun hr30 => ?_)
                          refine pm_getI (pc := 187) (k := 2) pm_cl7 flX11_118 (by decide) rfl hr30 dX11_told_187 ?_
                          exact pm_iret rfl dX11_told_190 (pm_ri_e hf)
                        · rw [if_neg hc31] at hf
                          by_cases hc33 : a1 = (12 : Int32)
                          · rw [if_pos hc33] at hf
                            refine pm_tin (pc := 1) (off := 190) 191 hc33 dX11_told_1 (by decide) (by decide) ?_
                            refine pm_aload_n (pc := 191) 0 dX11_told_191 rfl rfl h0.pos ?_
                            refine pm_getT (pc := 192) (k := 16) pm_cl11 flX11_90 (by decide) rfl h0 dX11_told_192 (fun hr32 => ?_)
                            refine pm_getI (pc := 195) (k := 2) pm_cl0 flX11_121 (by decide) rfl hr32 dX11_told_195 ?_
                            exact pm_iret rfl dX11_told_198 (pm_ri_e hf)
                          · rw [if_neg hc33] at hf
                            by_cases hc35 : a1 = (13 : Int32)
                            · rw [if_pos hc35] at hf
                              refine pm_tin (pc := 1) (off := 198) 199 hc35 dX11_told_1 (by decide) (by decide) ?_
                              refine pm_aload_n (pc := 199) 0 dX11_told_199 rfl rfl h0.pos ?_
                              refine pm_getT (pc := 200) (k := 8) pm_cl11 flX11_51 (by decide) rfl h0 dX11_told_200 (fun hr34 => ?_)
                              refine pm_getI (pc := 203) (k := 2) pm_cl3 flX11_163 (by decide) rfl hr34 dX11_told_203 ?_
                              exact pm_iret rfl dX11_told_206 (pm_ri_e hf)
                            · rw [if_neg hc35] at hf
                              have q0 : ¬ (a1).toInt = 0 := lv_neT hc2 (by decide)
                              have q1 : ¬ (a1).toInt = 1 := lv_neT hc4 (by decide)
                              have q2 : ¬ (a1).toInt = 2 := lv_neT hc6 (by decide)
                              have q3 : ¬ (a1).toInt = 3 := lv_neT hc8 (by decide)
                              have q4 : ¬ (a1).toInt = 4 := lv_neT hc9 (by decide)
                              have q5 : ¬ (a1).toInt = 5 := lv_neT hc12 (by decide)
                              have q6 : ¬ (a1).toInt = 6 := lv_neT hc15 (by decide)
                              have q7 : ¬ (a1).toInt = 7 := lv_neT hc19 (by decide)
                              have q8 : ¬ (a1).toInt = 8 := lv_neT hc22 (by decide)
                              have q9 : ¬ (a1).toInt = 9 := lv_neT hc25 (by decide)
                              have q10 : ¬ (a1).toInt = 10 := lv_neT hc29 (by decide)
                              have q11 : ¬ (a1).toInt = 11 := lv_neT hc31 (by decide)
                              have q12 : ¬ (a1).toInt = 12 := lv_neT hc33 (by decide)
                              have q13 : ¬ (a1).toInt = 13 := lv_neT hc35 (by decide)
                              refine pm_tableOut (pc := 1) 207 dX11_told_1 (by omega) (by decide) ?_
                              refine pm_ldc (pc := 207) kcX11_98 dX11_told_207 ?_
                              exact pm_iret rfl dX11_told_209 (pm_ri_e hf)
def fX11_noRealm (S : pm_S) (a0 : Nat) (σ : pm_H) : Option (Int32 × pm_H) :=
  (if (1 : Int32) ≤ (σ.1 (σ.2 a0 4) 0) then some ((0 : Int32), σ) else some ((1 : Int32), σ))
set_option maxRecDepth 100000 in
set_option maxHeartbeats 4000000 in
theorem KX11_noRealm (l : Launch) {S : pm_S} {p : Int32 × pm_H} {a0 : Nat} {σ : pm_H} (h0 : pm_is S a0 14) (hf : fX11_noRealm S a0 σ = some p) : pm_M l yX11_noRealm cX11_noRealm 1 (some .boolean) false 0 [.ref a0] S σ (pm_ri S p) := by
  refine pm_M.of (by decide +kernel) (Nat.le_of_ble_eq_true rfl) ?_
  show pm_E l yX11_noRealm cX11_noRealm 1 (some .boolean) false 0 S (pm_ri S p) 0 [(0, .ref a0)] [] S σ
  rw [fX11_noRealm] at hf
  refine pm_aload_n (pc := 0) 0 dX11_noRealm_0 rfl rfl h0.pos ?_
  refine pm_getT (pc := 1) (k := 4) pm_cl11 flX11_27 (by decide) rfl h0 dX11_noRealm_1 (fun hr1 => ?_)
  refine pm_getI (pc := 4) (k := 0) pm_cl9 flX11_122 (by decide) rfl hr1 dX11_noRealm_4 ?_
  refine pm_iconst (pc := 7) (1 : Int32) (by decide) dX11_noRealm_7 ?_
  refine pm_icmp_ge (pc := 8) 15 dX11_noRealm_8 (by decide) (fun hc2 => ?_) (fun hc2 => ?_)
  · rw [if_pos hc2] at hf
    refine pm_iconst (pc := 15) (0 : Int32) (by decide) dX11_noRealm_15 ?_
    exact pm_zret rfl (by decide) dX11_noRealm_16 (pm_ri_e hf)
  · rw [if_neg hc2] at hf
    refine pm_iconst (pc := 11) (1 : Int32) (by decide) dX11_noRealm_11 ?_
    refine pm_goto (pc := 12) 16 dX11_noRealm_12 (by decide) ?_
    exact pm_zret rfl (by decide) dX11_noRealm_16 (pm_ri_e hf)
def fX11_warped (S : pm_S) (a0 : Nat) (σ : pm_H) : Option (Int32 × pm_H) :=
  Option.bind (fX11_noRealm S a0 σ) fun u1 => (if u1.1 = 0 then some (((u1.2.1 (u1.2.2 (u1.2.2 a0 6) 0) 1) + (1000 : Int32)), u1.2) else some ((-1000000003 : Int32), u1.2))
set_option maxRecDepth 100000 in
set_option maxHeartbeats 4000000 in
theorem KX11_warped (l : Launch) {S : pm_S} {p : Int32 × pm_H} {a0 : Nat} {σ : pm_H} (h0 : pm_is S a0 14) (hf : fX11_warped S a0 σ = some p) : pm_M l yX11_warped cX11_warped 1 (some .int) false 1 [.ref a0] S σ (pm_ri S p) := by
  refine pm_M.of (by decide +kernel) (Nat.le_of_ble_eq_true rfl) ?_
  show pm_E l yX11_warped cX11_warped 1 (some .int) false 1 S (pm_ri S p) 0 [(0, .ref a0)] [] S σ
  rw [fX11_warped] at hf
  refine pm_aload_n (pc := 0) 0 dX11_warped_0 rfl rfl h0.pos ?_
  obtain ⟨u1, hu1, hf⟩ := pm_bind_e hf
  refine pm_cVi (pc := 1) (as := []) (st := []) mvX11_164 (KX11_noRealm l h0 hu1) (by decide) h0 rfl rfl (Nat.le_of_ble_eq_true rfl) rfl dX11_warped_1 ?_
  refine pm_if_eq (pc := 4) 12 dX11_warped_4 (by decide) (fun hc4 => ?_) (fun hc4 => ?_)
  · rw [if_pos hc4] at hf
    refine pm_aload_n (pc := 12) 0 dX11_warped_12 rfl rfl h0.pos ?_
    refine pm_getT (pc := 13) (k := 6) pm_cl11 flX11_37 (by decide) rfl h0 dX11_warped_13 (fun hr2 => ?_)
    refine pm_getT (pc := 16) (k := 0) pm_cl8 flX11_134 (by decide) rfl hr2 dX11_warped_16 (fun hr3 => ?_)
    refine pm_getI (pc := 19) (k := 1) pm_cl6 flX11_169 (by decide) rfl hr3 dX11_warped_19 ?_
    refine pm_sipush (pc := 22) (1000 : Int32) (by decide) dX11_warped_22 ?_
    refine pm_iadd (pc := 25) dX11_warped_25 ?_
    exact pm_iret rfl dX11_warped_26 (pm_ri_e hf)
  · rw [if_neg hc4] at hf
    refine pm_ldc (pc := 7) kcX11_168 dX11_warped_7 ?_
    refine pm_goto (pc := 9) 26 dX11_warped_9 (by decide) ?_
    exact pm_iret rfl dX11_warped_26 (pm_ri_e hf)
def fX11_nick (S : pm_S) (a0 : Nat) (a1 : Int32) (σ : pm_H) : Option (Int32 × pm_H) :=
  Option.bind (fX11_within S a1 (0 : Int32) ((σ.1 (σ.2 a0 4) 3) - (1 : Int32)) σ) fun u2 => (if u2.1 = 0 then some ((-1 : Int32), u2.2) else (if pm_ib a1 (pm_len S (u2.2.2 (u2.2.2 a0 4) 2)) = true then some ((u2.2.1 (u2.2.2 (u2.2.2 a0 4) 2) (a1).toNatClampNeg), u2.2) else none))
set_option maxRecDepth 100000 in
set_option maxHeartbeats 4000000 in
theorem KX11_nick (l : Launch) {S : pm_S} {p : Int32 × pm_H} {a0 : Nat} {a1 : Int32} {σ : pm_H} (h0 : pm_is S a0 14) (hf : fX11_nick S a0 a1 σ = some p) : pm_M l yX11_nick cX11_nick 2 (some .int) false 1 [.ref a0, .int a1] S σ (pm_ri S p) := by
  refine pm_M.of (by decide +kernel) (Nat.le_of_ble_eq_true rfl) ?_
  show pm_E l yX11_nick cX11_nick 2 (some .int) false 1 S (pm_ri S p) 0 [(0, .ref a0), (1, .int a1)] [] S σ
  rw [fX11_nick] at hf
  refine pm_iload_n (pc := 0) 1 dX11_nick_0 rfl rfl ?_
  refine pm_iconst (pc := 1) (0 : Int32) (by decide) dX11_nick_1 ?_
  refine pm_aload_n (pc := 2) 0 dX11_nick_2 rfl rfl h0.pos ?_
  refine pm_getT (pc := 3) (k := 4) pm_cl11 flX11_27 (by decide) rfl h0 dX11_nick_3 (fun hr1 => ?_)
  refine pm_getI (pc := 6) (k := 3) pm_cl9 flX11_125 (by decide) rfl hr1 dX11_nick_6 ?_
  refine pm_iconst (pc := 9) (1 : Int32) (by decide) dX11_nick_9 ?_
  refine pm_isub (pc := 10) dX11_nick_10 ?_
  obtain ⟨u2, hu2, hf⟩ := pm_bind_e hf
  refine pm_cSi (pc := 11) (as := [.int a1, .int (0 : Int32), .int ((σ.1 (σ.2 a0 4) 3) - (1 : Int32))]) (st := []) msX11_94 (KX11_within l  hu2) (by decide) rfl rfl (Nat.le_of_ble_eq_true rfl) rfl dX11_nick_11 ?_
  refine pm_if_eq (pc := 14) 29 dX11_nick_14 (by decide) (fun hc6 => ?_) (fun hc6 => ?_)
  · rw [if_pos hc6] at hf
    refine pm_iconst (pc := 29) (-1 : Int32) (by decide) dX11_nick_29 ?_
    exact pm_iret rfl dX11_nick_30 (pm_ri_e hf)
  · rw [if_neg hc6] at hf
    refine pm_aload_n (pc := 17) 0 dX11_nick_17 rfl rfl h0.pos ?_
    refine pm_getT (pc := 18) (k := 4) pm_cl11 flX11_27 (by decide) rfl h0 dX11_nick_18 (fun hr3 => ?_)
    refine pm_getT (pc := 21) (k := 2) pm_cl9 flX11_172 (by decide) rfl hr3 dX11_nick_21 (fun hr4 => ?_)
    refine pm_iload_n (pc := 24) 1 dX11_nick_24 rfl rfl ?_
    obtain ⟨hb5, hf⟩ := pm_gd hf
    refine pm_iald (pc := 25) hr4 (pm_ib_in hb5) dX11_nick_25 ?_
    refine pm_goto (pc := 26) 30 dX11_nick_26 (by decide) ?_
    exact pm_iret rfl dX11_nick_30 (pm_ri_e hf)
def fX11_isOffice (S : pm_S) (a0 : Nat) (a1 : Int32) (σ : pm_H) : Option (Int32 × pm_H) :=
  Option.bind (fX11_within S a1 (0 : Int32) ((σ.1 (σ.2 a0 4) 6) - (1 : Int32)) σ) fun u2 => (if pm_zb u2.1 = true then some (u2.1, u2.2) else none)
set_option maxRecDepth 100000 in
set_option maxHeartbeats 4000000 in
theorem KX11_isOffice (l : Launch) {S : pm_S} {p : Int32 × pm_H} {a0 : Nat} {a1 : Int32} {σ : pm_H} (h0 : pm_is S a0 14) (hf : fX11_isOffice S a0 a1 σ = some p) : pm_M l yX11_isOffice cX11_isOffice 2 (some .boolean) false 1 [.ref a0, .int a1] S σ (pm_ri S p) := by
  refine pm_M.of (by decide +kernel) (Nat.le_of_ble_eq_true rfl) ?_
  show pm_E l yX11_isOffice cX11_isOffice 2 (some .boolean) false 1 S (pm_ri S p) 0 [(0, .ref a0), (1, .int a1)] [] S σ
  rw [fX11_isOffice] at hf
  refine pm_iload_n (pc := 0) 1 dX11_isOffice_0 rfl rfl ?_
  refine pm_iconst (pc := 1) (0 : Int32) (by decide) dX11_isOffice_1 ?_
  refine pm_aload_n (pc := 2) 0 dX11_isOffice_2 rfl rfl h0.pos ?_
  refine pm_getT (pc := 3) (k := 4) pm_cl11 flX11_27 (by decide) rfl h0 dX11_isOffice_3 (fun hr1 => ?_)
  refine pm_getI (pc := 6) (k := 6) pm_cl9 flX11_128 (by decide) rfl hr1 dX11_isOffice_6 ?_
  refine pm_iconst (pc := 9) (1 : Int32) (by decide) dX11_isOffice_9 ?_
  refine pm_isub (pc := 10) dX11_isOffice_10 ?_
  obtain ⟨u2, hu2, hf⟩ := pm_bind_e hf
  refine pm_cSi (pc := 11) (as := [.int a1, .int (0 : Int32), .int ((σ.1 (σ.2 a0 4) 6) - (1 : Int32))]) (st := []) msX11_94 (KX11_within l  hu2) (by decide) rfl rfl (Nat.le_of_ble_eq_true rfl) rfl dX11_isOffice_11 ?_
  obtain ⟨hz3, hf⟩ := pm_gd hf
  exact pm_zret rfl (pm_zb_or hz3) dX11_isOffice_14 (pm_ri_e hf)
def fX11_office (S : pm_S) (a0 : Nat) (a1 : Int32) (a2 : Int32) (σ : pm_H) : Option (Int32 × pm_H) :=
  Option.bind (fX11_isOffice S a0 a1 σ) fun u1 => (if u1.1 = 0 then some ((-1000000001 : Int32), u1.2) else (if a2 = (0 : Int32) then (if pm_ib a1 (pm_len S (u1.2.2 (u1.2.2 a0 4) 4)) = true then some ((u1.2.1 (u1.2.2 (u1.2.2 a0 4) 4) (a1).toNatClampNeg), u1.2) else none) else (if a2 = (1 : Int32) then (if pm_ib a1 (pm_len S (u1.2.2 (u1.2.2 a0 4) 5)) = true then some ((u1.2.1 (u1.2.2 (u1.2.2 a0 4) 5) (a1).toNatClampNeg), u1.2) else none) else (if a2 = (2 : Int32) then Option.bind (fX8_fitting S (u1.2.2 a0 6) (u1.2.2 a0 4) a1 u1.2) fun u12 => some (u12.1, u12.2) else some ((-1000000002 : Int32), u1.2)))))
set_option maxRecDepth 100000 in
set_option maxHeartbeats 4000000 in
theorem KX11_office (l : Launch) {S : pm_S} {p : Int32 × pm_H} {a0 : Nat} {a1 : Int32} {a2 : Int32} {σ : pm_H} (h0 : pm_is S a0 14) (hf : fX11_office S a0 a1 a2 σ = some p) : pm_M l yX11_office cX11_office 3 (some .int) false 2 [.ref a0, .int a1, .int a2] S σ (pm_ri S p) := by
  refine pm_M.of (by decide +kernel) (Nat.le_of_ble_eq_true rfl) ?_
  show pm_E l yX11_office cX11_office 3 (some .int) false 2 S (pm_ri S p) 0 [(0, .ref a0), (1, .int a1), (2, .int a2)] [] S σ
  rw [fX11_office] at hf
  refine pm_aload_n (pc := 0) 0 dX11_office_0 rfl rfl h0.pos ?_
  refine pm_iload_n (pc := 1) 1 dX11_office_1 rfl rfl ?_
  obtain ⟨u1, hu1, hf⟩ := pm_bind_e hf
  refine pm_cVi (pc := 2) (as := [.int a1]) (st := []) mvX11_175 (KX11_isOffice l h0 hu1) (by decide) h0 rfl rfl (Nat.le_of_ble_eq_true rfl) rfl dX11_office_2 ?_
  refine pm_if_ne (pc := 5) 11 dX11_office_5 (by decide) (fun hc14 => ?_) (fun hc14 => ?_)
  · rw [if_pos hc14] at hf
    refine pm_ldc (pc := 8) kcX11_179 dX11_office_8 ?_
    exact pm_iret rfl dX11_office_10 (pm_ri_e hf)
  · rw [if_neg hc14] at hf
    refine pm_iload_n (pc := 11) 2 dX11_office_11 rfl rfl ?_
    by_cases hc5 : a2 = (0 : Int32)
    · rw [if_pos hc5] at hf
      refine pm_tin (pc := 12) (off := 28) 40 hc5 dX11_office_12 (by decide) (by decide) ?_
      refine pm_aload_n (pc := 40) 0 dX11_office_40 rfl rfl h0.pos ?_
      refine pm_getT (pc := 41) (k := 4) pm_cl11 flX11_27 (by decide) rfl h0 dX11_office_41 (fun hr2 => ?_)
      refine pm_getT (pc := 44) (k := 4) pm_cl9 flX11_180 (by decide) rfl hr2 dX11_office_44 (fun hr3 => ?_)
      refine pm_iload_n (pc := 47) 1 dX11_office_47 rfl rfl ?_
      obtain ⟨hb4, hf⟩ := pm_gd hf
      refine pm_iald (pc := 48) hr3 (pm_ib_in hb4) dX11_office_48 ?_
      exact pm_iret rfl dX11_office_49 (pm_ri_e hf)
    · rw [if_neg hc5] at hf
      by_cases hc9 : a2 = (1 : Int32)
      · rw [if_pos hc9] at hf
        refine pm_tin (pc := 12) (off := 38) 50 hc9 dX11_office_12 (by decide) (by decide) ?_
        refine pm_aload_n (pc := 50) 0 dX11_office_50 rfl rfl h0.pos ?_
        refine pm_getT (pc := 51) (k := 4) pm_cl11 flX11_27 (by decide) rfl h0 dX11_office_51 (fun hr6 => ?_)
        refine pm_getT (pc := 54) (k := 5) pm_cl9 flX11_183 (by decide) rfl hr6 dX11_office_54 (fun hr7 => ?_)
        refine pm_iload_n (pc := 57) 1 dX11_office_57 rfl rfl ?_
        obtain ⟨hb8, hf⟩ := pm_gd hf
        refine pm_iald (pc := 58) hr7 (pm_ib_in hb8) dX11_office_58 ?_
        exact pm_iret rfl dX11_office_59 (pm_ri_e hf)
      · rw [if_neg hc9] at hf
        by_cases hc13 : a2 = (2 : Int32)
        · rw [if_pos hc13] at hf
          refine pm_tin (pc := 12) (off := 48) 60 hc13 dX11_office_12 (by decide) (by decide) ?_
          refine pm_aload_n (pc := 60) 0 dX11_office_60 rfl rfl h0.pos ?_
          refine pm_getT (pc := 61) (k := 6) pm_cl11 flX11_37 (by decide) rfl h0 dX11_office_61 (fun hr10 => ?_)
          refine pm_aload_n (pc := 64) 0 dX11_office_64 rfl rfl h0.pos ?_
          refine pm_getT (pc := 65) (k := 4) pm_cl11 flX11_27 (by decide) rfl h0 dX11_office_65 (fun hr11 => ?_)
          refine pm_iload_n (pc := 68) 1 dX11_office_68 rfl rfl ?_
          obtain ⟨u12, hu12, hf⟩ := pm_bind_e hf
          refine pm_cVi (pc := 69) (as := [.ref (u1.2.2 a0 4), .int a1]) (st := []) mvX11_186 (KX8_fitting l hr10 hr11 hu12) (by decide) hr10 rfl rfl (Nat.le_of_ble_eq_true rfl) rfl dX11_office_69 ?_
          exact pm_iret rfl dX11_office_72 (pm_ri_e hf)
        · rw [if_neg hc13] at hf
          have q0 : ¬ (a2).toInt = 0 := lv_neT hc5 (by decide)
          have q1 : ¬ (a2).toInt = 1 := lv_neT hc9 (by decide)
          have q2 : ¬ (a2).toInt = 2 := lv_neT hc13 (by decide)
          refine pm_tableOut (pc := 12) 73 dX11_office_12 (by omega) (by decide) ?_
          refine pm_ldc (pc := 73) kcX11_98 dX11_office_73 ?_
          exact pm_iret rfl dX11_office_75 (pm_ri_e hf)
def fX11_isPerson (S : pm_S) (a0 : Nat) (a1 : Int32) (σ : pm_H) : Option (Int32 × pm_H) :=
  Option.bind (fX11_within S a1 (0 : Int32) ((σ.1 (σ.2 a0 4) 8) - (1 : Int32)) σ) fun u2 => (if pm_zb u2.1 = true then some (u2.1, u2.2) else none)
set_option maxRecDepth 100000 in
set_option maxHeartbeats 4000000 in
theorem KX11_isPerson (l : Launch) {S : pm_S} {p : Int32 × pm_H} {a0 : Nat} {a1 : Int32} {σ : pm_H} (h0 : pm_is S a0 14) (hf : fX11_isPerson S a0 a1 σ = some p) : pm_M l yX11_isPerson cX11_isPerson 2 (some .boolean) false 1 [.ref a0, .int a1] S σ (pm_ri S p) := by
  refine pm_M.of (by decide +kernel) (Nat.le_of_ble_eq_true rfl) ?_
  show pm_E l yX11_isPerson cX11_isPerson 2 (some .boolean) false 1 S (pm_ri S p) 0 [(0, .ref a0), (1, .int a1)] [] S σ
  rw [fX11_isPerson] at hf
  refine pm_iload_n (pc := 0) 1 dX11_isPerson_0 rfl rfl ?_
  refine pm_iconst (pc := 1) (0 : Int32) (by decide) dX11_isPerson_1 ?_
  refine pm_aload_n (pc := 2) 0 dX11_isPerson_2 rfl rfl h0.pos ?_
  refine pm_getT (pc := 3) (k := 4) pm_cl11 flX11_27 (by decide) rfl h0 dX11_isPerson_3 (fun hr1 => ?_)
  refine pm_getI (pc := 6) (k := 8) pm_cl9 flX11_131 (by decide) rfl hr1 dX11_isPerson_6 ?_
  refine pm_iconst (pc := 9) (1 : Int32) (by decide) dX11_isPerson_9 ?_
  refine pm_isub (pc := 10) dX11_isPerson_10 ?_
  obtain ⟨u2, hu2, hf⟩ := pm_bind_e hf
  refine pm_cSi (pc := 11) (as := [.int a1, .int (0 : Int32), .int ((σ.1 (σ.2 a0 4) 8) - (1 : Int32))]) (st := []) msX11_94 (KX11_within l  hu2) (by decide) rfl rfl (Nat.le_of_ble_eq_true rfl) rfl dX11_isPerson_11 ?_
  obtain ⟨hz3, hf⟩ := pm_gd hf
  exact pm_zret rfl (pm_zb_or hz3) dX11_isPerson_14 (pm_ri_e hf)
def fX11_person (S : pm_S) (a0 : Nat) (a1 : Int32) (a2 : Int32) (σ : pm_H) : Option (Int32 × pm_H) :=
  Option.bind (fX11_isPerson S a0 a1 σ) fun u1 => (if u1.1 = 0 then some ((-1000000001 : Int32), u1.2) else (if a2 = (0 : Int32) then (if pm_ib a1 (pm_len S (u1.2.2 (u1.2.2 a0 6) 3)) = true then some ((u1.2.1 (u1.2.2 (u1.2.2 a0 6) 3) (a1).toNatClampNeg), u1.2) else none) else (if a2 = (1 : Int32) then (if pm_ib a1 (pm_len S (u1.2.2 (u1.2.2 a0 6) 3)) = true then Option.bind (fX6_tenthsOf S (u1.2.2 (u1.2.2 a0 6) 0) (u1.2.1 (u1.2.2 (u1.2.2 a0 6) 3) (a1).toNatClampNeg) u1.2) fun u11 => some (u11.1, u11.2) else none) else some ((-1000000002 : Int32), u1.2))))
set_option maxRecDepth 100000 in
set_option maxHeartbeats 4000000 in
theorem KX11_person (l : Launch) {S : pm_S} {p : Int32 × pm_H} {a0 : Nat} {a1 : Int32} {a2 : Int32} {σ : pm_H} (h0 : pm_is S a0 14) (hf : fX11_person S a0 a1 a2 σ = some p) : pm_M l yX11_person cX11_person 3 (some .int) false 2 [.ref a0, .int a1, .int a2] S σ (pm_ri S p) := by
  refine pm_M.of (by decide +kernel) (Nat.le_of_ble_eq_true rfl) ?_
  show pm_E l yX11_person cX11_person 3 (some .int) false 2 S (pm_ri S p) 0 [(0, .ref a0), (1, .int a1), (2, .int a2)] [] S σ
  rw [fX11_person] at hf
  refine pm_aload_n (pc := 0) 0 dX11_person_0 rfl rfl h0.pos ?_
  refine pm_iload_n (pc := 1) 1 dX11_person_1 rfl rfl ?_
  obtain ⟨u1, hu1, hf⟩ := pm_bind_e hf
  refine pm_cVi (pc := 2) (as := [.int a1]) (st := []) mvX11_190 (KX11_isPerson l h0 hu1) (by decide) h0 rfl rfl (Nat.le_of_ble_eq_true rfl) rfl dX11_person_2 ?_
  refine pm_if_ne (pc := 5) 11 dX11_person_5 (by decide) (fun hc13 => ?_) (fun hc13 => ?_)
  · rw [if_pos hc13] at hf
    refine pm_ldc (pc := 8) kcX11_179 dX11_person_8 ?_
    exact pm_iret rfl dX11_person_10 (pm_ri_e hf)
  · rw [if_neg hc13] at hf
    refine pm_iload_n (pc := 11) 2 dX11_person_11 rfl rfl ?_
    by_cases hc5 : a2 = (0 : Int32)
    · rw [if_pos hc5] at hf
      refine pm_lookup (pc := 12) (off := 28) 40 dX11_person_12 (by decide) (by rw [hc5]; decide) (by decide) ?_
      refine pm_aload_n (pc := 40) 0 dX11_person_40 rfl rfl h0.pos ?_
      refine pm_getT (pc := 41) (k := 6) pm_cl11 flX11_37 (by decide) rfl h0 dX11_person_41 (fun hr2 => ?_)
      refine pm_getT (pc := 44) (k := 3) pm_cl8 flX11_193 (by decide) rfl hr2 dX11_person_44 (fun hr3 => ?_)
      refine pm_iload_n (pc := 47) 1 dX11_person_47 rfl rfl ?_
      obtain ⟨hb4, hf⟩ := pm_gd hf
      refine pm_iald (pc := 48) hr3 (pm_ib_in hb4) dX11_person_48 ?_
      exact pm_iret rfl dX11_person_49 (pm_ri_e hf)
    · rw [if_neg hc5] at hf
      by_cases hc12 : a2 = (1 : Int32)
      · rw [if_pos hc12] at hf
        refine pm_lookup (pc := 12) (off := 38) 50 dX11_person_12 (by decide) (by rw [hc12]; decide) (by decide) ?_
        refine pm_aload_n (pc := 50) 0 dX11_person_50 rfl rfl h0.pos ?_
        refine pm_getT (pc := 51) (k := 6) pm_cl11 flX11_37 (by decide) rfl h0 dX11_person_51 (fun hr6 => ?_)
        refine pm_getT (pc := 54) (k := 0) pm_cl8 flX11_134 (by decide) rfl hr6 dX11_person_54 (fun hr7 => ?_)
        refine pm_aload_n (pc := 57) 0 dX11_person_57 rfl rfl h0.pos ?_
        refine pm_getT (pc := 58) (k := 6) pm_cl11 flX11_37 (by decide) rfl h0 dX11_person_58 (fun hr8 => ?_)
        refine pm_getT (pc := 61) (k := 3) pm_cl8 flX11_193 (by decide) rfl hr8 dX11_person_61 (fun hr9 => ?_)
        refine pm_iload_n (pc := 64) 1 dX11_person_64 rfl rfl ?_
        obtain ⟨hb10, hf⟩ := pm_gd hf
        refine pm_iald (pc := 65) hr9 (pm_ib_in hb10) dX11_person_65 ?_
        obtain ⟨u11, hu11, hf⟩ := pm_bind_e hf
        refine pm_cVi (pc := 66) (as := [.int (u1.2.1 (u1.2.2 (u1.2.2 a0 6) 3) (a1).toNatClampNeg)]) (st := []) mvX11_196 (KX6_tenthsOf l hr7 hu11) (by decide) hr7 rfl rfl (Nat.le_of_ble_eq_true rfl) rfl dX11_person_66 ?_
        exact pm_iret rfl dX11_person_69 (pm_ri_e hf)
      · rw [if_neg hc12] at hf
        refine pm_lookup (pc := 12) (off := 58) 70 dX11_person_12 (by decide) (by show Op.lookupswitch.offset [(0, 28), (1, 38)] 58 (a2).toInt = 58; rw [lv_osw hc5 (by decide), lv_osw hc12 (by decide)]; rfl) (by decide) ?_
        refine pm_ldc (pc := 70) kcX11_98 dX11_person_70 ?_
        exact pm_iret rfl dX11_person_72 (pm_ri_e hf)
def fX11_thing (S : pm_S) (a0 : Nat) (a1 : Int32) (a2 : Int32) (σ : pm_H) : Option (Int32 × pm_H) :=
  Option.bind (fX11_within S a1 (0 : Int32) ((σ.1 (σ.2 (σ.2 a0 6) 1) 4) - (1 : Int32)) σ) fun u3 => (if u3.1 = 0 then some ((-1000000001 : Int32), u3.2) else (if a2 = (0 : Int32) then (if pm_ib a1 (pm_len S (u3.2.2 (u3.2.2 (u3.2.2 a0 6) 1) 0)) = true then some (((u3.2.1 (u3.2.2 (u3.2.2 (u3.2.2 a0 6) 1) 0) (a1).toNatClampNeg) + (1000 : Int32)), u3.2) else none) else (if a2 = (1 : Int32) then (if pm_ib a1 (pm_len S (u3.2.2 (u3.2.2 (u3.2.2 a0 6) 1) 1)) = true then some ((u3.2.1 (u3.2.2 (u3.2.2 (u3.2.2 a0 6) 1) 1) (a1).toNatClampNeg), u3.2) else none) else (if a2 = (2 : Int32) then (if pm_ib a1 (pm_len S (u3.2.2 (u3.2.2 (u3.2.2 a0 6) 1) 2)) = true then some ((u3.2.1 (u3.2.2 (u3.2.2 (u3.2.2 a0 6) 1) 2) (a1).toNatClampNeg), u3.2) else none) else (if a2 = (3 : Int32) then (if pm_ib a1 (pm_len S (u3.2.2 (u3.2.2 (u3.2.2 a0 6) 1) 3)) = true then some ((u3.2.1 (u3.2.2 (u3.2.2 (u3.2.2 a0 6) 1) 3) (a1).toNatClampNeg), u3.2) else none) else some ((-1000000002 : Int32), u3.2))))))
set_option maxRecDepth 100000 in
set_option maxHeartbeats 4000000 in
theorem KX11_thing (l : Launch) {S : pm_S} {p : Int32 × pm_H} {a0 : Nat} {a1 : Int32} {a2 : Int32} {σ : pm_H} (h0 : pm_is S a0 14) (hf : fX11_thing S a0 a1 a2 σ = some p) : pm_M l yX11_thing cX11_thing 3 (some .int) false 1 [.ref a0, .int a1, .int a2] S σ (pm_ri S p) := by
  refine pm_M.of (by decide +kernel) (Nat.le_of_ble_eq_true rfl) ?_
  show pm_E l yX11_thing cX11_thing 3 (some .int) false 1 S (pm_ri S p) 0 [(0, .ref a0), (1, .int a1), (2, .int a2)] [] S σ
  rw [fX11_thing] at hf
  refine pm_iload_n (pc := 0) 1 dX11_thing_0 rfl rfl ?_
  refine pm_iconst (pc := 1) (0 : Int32) (by decide) dX11_thing_1 ?_
  refine pm_aload_n (pc := 2) 0 dX11_thing_2 rfl rfl h0.pos ?_
  refine pm_getT (pc := 3) (k := 6) pm_cl11 flX11_37 (by decide) rfl h0 dX11_thing_3 (fun hr1 => ?_)
  refine pm_getT (pc := 6) (k := 1) pm_cl8 flX11_145 (by decide) rfl hr1 dX11_thing_6 (fun hr2 => ?_)
  refine pm_getI (pc := 9) (k := 4) pm_cl10 flX11_149 (by decide) rfl hr2 dX11_thing_9 ?_
  refine pm_iconst (pc := 12) (1 : Int32) (by decide) dX11_thing_12 ?_
  refine pm_isub (pc := 13) dX11_thing_13 ?_
  obtain ⟨u3, hu3, hf⟩ := pm_bind_e hf
  refine pm_cSi (pc := 14) (as := [.int a1, .int (0 : Int32), .int ((σ.1 (σ.2 (σ.2 a0 6) 1) 4) - (1 : Int32))]) (st := []) msX11_94 (KX11_within l  hu3) (by decide) rfl rfl (Nat.le_of_ble_eq_true rfl) rfl dX11_thing_14 ?_
  refine pm_if_ne (pc := 17) 23 dX11_thing_17 (by decide) (fun hc24 => ?_) (fun hc24 => ?_)
  · rw [if_pos hc24] at hf
    refine pm_ldc (pc := 20) kcX11_179 dX11_thing_20 ?_
    exact pm_iret rfl dX11_thing_22 (pm_ri_e hf)
  · rw [if_neg hc24] at hf
    refine pm_iload_n (pc := 23) 2 dX11_thing_23 rfl rfl ?_
    by_cases hc8 : a2 = (0 : Int32)
    · rw [if_pos hc8] at hf
      refine pm_tin (pc := 24) (off := 32) 56 hc8 dX11_thing_24 (by decide) (by decide) ?_
      refine pm_aload_n (pc := 56) 0 dX11_thing_56 rfl rfl h0.pos ?_
      refine pm_getT (pc := 57) (k := 6) pm_cl11 flX11_37 (by decide) rfl h0 dX11_thing_57 (fun hr4 => ?_)
      refine pm_getT (pc := 60) (k := 1) pm_cl8 flX11_145 (by decide) rfl hr4 dX11_thing_60 (fun hr5 => ?_)
      refine pm_getT (pc := 63) (k := 0) pm_cl10 flX11_200 (by decide) rfl hr5 dX11_thing_63 (fun hr6 => ?_)
      refine pm_iload_n (pc := 66) 1 dX11_thing_66 rfl rfl ?_
      obtain ⟨hb7, hf⟩ := pm_gd hf
      refine pm_iald (pc := 67) hr6 (pm_ib_in hb7) dX11_thing_67 ?_
      refine pm_sipush (pc := 68) (1000 : Int32) (by decide) dX11_thing_68 ?_
      refine pm_iadd (pc := 71) dX11_thing_71 ?_
      exact pm_iret rfl dX11_thing_72 (pm_ri_e hf)
    · rw [if_neg hc8] at hf
      by_cases hc13 : a2 = (1 : Int32)
      · rw [if_pos hc13] at hf
        refine pm_tin (pc := 24) (off := 49) 73 hc13 dX11_thing_24 (by decide) (by decide) ?_
        refine pm_aload_n (pc := 73) 0 dX11_thing_73 rfl rfl h0.pos ?_
        refine pm_getT (pc := 74) (k := 6) pm_cl11 flX11_37 (by decide) rfl h0 dX11_thing_74 (fun hr9 => ?_)
        refine pm_getT (pc := 77) (k := 1) pm_cl8 flX11_145 (by decide) rfl hr9 dX11_thing_77 (fun hr10 => ?_)
        refine pm_getT (pc := 80) (k := 1) pm_cl10 flX11_203 (by decide) rfl hr10 dX11_thing_80 (fun hr11 => ?_)
        refine pm_iload_n (pc := 83) 1 dX11_thing_83 rfl rfl ?_
        obtain ⟨hb12, hf⟩ := pm_gd hf
        refine pm_iald (pc := 84) hr11 (pm_ib_in hb12) dX11_thing_84 ?_
        exact pm_iret rfl dX11_thing_85 (pm_ri_e hf)
      · rw [if_neg hc13] at hf
        by_cases hc18 : a2 = (2 : Int32)
        · rw [if_pos hc18] at hf
          refine pm_tin (pc := 24) (off := 62) 86 hc18 dX11_thing_24 (by decide) (by decide) ?_
          refine pm_aload_n (pc := 86) 0 dX11_thing_86 rfl rfl h0.pos ?_
          refine pm_getT (pc := 87) (k := 6) pm_cl11 flX11_37 (by decide) rfl h0 dX11_thing_87 (fun hr14 => ?_)
          refine pm_getT (pc := 90) (k := 1) pm_cl8 flX11_145 (by decide) rfl hr14 dX11_thing_90 (fun hr15 => ?_)
          refine pm_getT (pc := 93) (k := 2) pm_cl10 flX11_206 (by decide) rfl hr15 dX11_thing_93 (fun hr16 => ?_)
          refine pm_iload_n (pc := 96) 1 dX11_thing_96 rfl rfl ?_
          obtain ⟨hb17, hf⟩ := pm_gd hf
          refine pm_iald (pc := 97) hr16 (pm_ib_in hb17) dX11_thing_97 ?_
          exact pm_iret rfl dX11_thing_98 (pm_ri_e hf)
        · rw [if_neg hc18] at hf
          by_cases hc23 : a2 = (3 : Int32)
          · rw [if_pos hc23] at hf
            refine pm_tin (pc := 24) (off := 75) 99 hc23 dX11_thing_24 (by decide) (by decide) ?_
            refine pm_aload_n (pc := 99) 0 dX11_thing_99 rfl rfl h0.pos ?_
            refine pm_getT (pc := 100) (k := 6) pm_cl11 flX11_37 (by decide) rfl h0 dX11_thing_100 (fun hr19 => ?_)
            refine pm_getT (pc := 103) (k := 1) pm_cl8 flX11_145 (by decide) rfl hr19 dX11_thing_103 (fun hr20 => ?_)
            refine pm_getT (pc := 106) (k := 3) pm_cl10 flX11_209 (by decide) rfl hr20 dX11_thing_106 (fun hr21 => ?_)
            refine pm_iload_n (pc := 109) 1 dX11_thing_109 rfl rfl ?_
            obtain ⟨hb22, hf⟩ := pm_gd hf
            refine pm_iald (pc := 110) hr21 (pm_ib_in hb22) dX11_thing_110 ?_
            exact pm_iret rfl dX11_thing_111 (pm_ri_e hf)
          · rw [if_neg hc23] at hf
            have q0 : ¬ (a2).toInt = 0 := lv_neT hc8 (by decide)
            have q1 : ¬ (a2).toInt = 1 := lv_neT hc13 (by decide)
            have q2 : ¬ (a2).toInt = 2 := lv_neT hc18 (by decide)
            have q3 : ¬ (a2).toInt = 3 := lv_neT hc23 (by decide)
            refine pm_tableOut (pc := 24) 112 dX11_thing_24 (by omega) (by decide) ?_
            refine pm_ldc (pc := 112) kcX11_98 dX11_thing_112 ?_
            exact pm_iret rfl dX11_thing_114 (pm_ri_e hf)
def fX11_hand (S : pm_S) (a0 : Nat) (a1 : Int32) (σ : pm_H) : Option (Int32 × pm_H) :=
  Option.bind (fX11_within S a1 (0 : Int32) ((σ.1 (σ.2 (σ.2 a0 6) 2) 1) - (1 : Int32)) σ) fun u3 => (if u3.1 = 0 then some ((-1000000001 : Int32), u3.2) else (if pm_ib a1 (pm_len S (u3.2.2 (u3.2.2 (u3.2.2 a0 6) 2) 0)) = true then some ((u3.2.1 (u3.2.2 (u3.2.2 (u3.2.2 a0 6) 2) 0) (a1).toNatClampNeg), u3.2) else none))
set_option maxRecDepth 100000 in
set_option maxHeartbeats 4000000 in
theorem KX11_hand (l : Launch) {S : pm_S} {p : Int32 × pm_H} {a0 : Nat} {a1 : Int32} {σ : pm_H} (h0 : pm_is S a0 14) (hf : fX11_hand S a0 a1 σ = some p) : pm_M l yX11_hand cX11_hand 2 (some .int) false 1 [.ref a0, .int a1] S σ (pm_ri S p) := by
  refine pm_M.of (by decide +kernel) (Nat.le_of_ble_eq_true rfl) ?_
  show pm_E l yX11_hand cX11_hand 2 (some .int) false 1 S (pm_ri S p) 0 [(0, .ref a0), (1, .int a1)] [] S σ
  rw [fX11_hand] at hf
  refine pm_iload_n (pc := 0) 1 dX11_hand_0 rfl rfl ?_
  refine pm_iconst (pc := 1) (0 : Int32) (by decide) dX11_hand_1 ?_
  refine pm_aload_n (pc := 2) 0 dX11_hand_2 rfl rfl h0.pos ?_
  refine pm_getT (pc := 3) (k := 6) pm_cl11 flX11_37 (by decide) rfl h0 dX11_hand_3 (fun hr1 => ?_)
  refine pm_getT (pc := 6) (k := 2) pm_cl8 flX11_152 (by decide) rfl hr1 dX11_hand_6 (fun hr2 => ?_)
  refine pm_getI (pc := 9) (k := 1) pm_cl1 flX11_156 (by decide) rfl hr2 dX11_hand_9 ?_
  refine pm_iconst (pc := 12) (1 : Int32) (by decide) dX11_hand_12 ?_
  refine pm_isub (pc := 13) dX11_hand_13 ?_
  obtain ⟨u3, hu3, hf⟩ := pm_bind_e hf
  refine pm_cSi (pc := 14) (as := [.int a1, .int (0 : Int32), .int ((σ.1 (σ.2 (σ.2 a0 6) 2) 1) - (1 : Int32))]) (st := []) msX11_94 (KX11_within l  hu3) (by decide) rfl rfl (Nat.le_of_ble_eq_true rfl) rfl dX11_hand_14 ?_
  refine pm_if_eq (pc := 17) 35 dX11_hand_17 (by decide) (fun hc8 => ?_) (fun hc8 => ?_)
  · rw [if_pos hc8] at hf
    refine pm_ldc (pc := 35) kcX11_179 dX11_hand_35 ?_
    exact pm_iret rfl dX11_hand_37 (pm_ri_e hf)
  · rw [if_neg hc8] at hf
    refine pm_aload_n (pc := 20) 0 dX11_hand_20 rfl rfl h0.pos ?_
    refine pm_getT (pc := 21) (k := 6) pm_cl11 flX11_37 (by decide) rfl h0 dX11_hand_21 (fun hr4 => ?_)
    refine pm_getT (pc := 24) (k := 2) pm_cl8 flX11_152 (by decide) rfl hr4 dX11_hand_24 (fun hr5 => ?_)
    refine pm_getT (pc := 27) (k := 0) pm_cl1 flX11_212 (by decide) rfl hr5 dX11_hand_27 (fun hr6 => ?_)
    refine pm_iload_n (pc := 30) 1 dX11_hand_30 rfl rfl ?_
    obtain ⟨hb7, hf⟩ := pm_gd hf
    refine pm_iald (pc := 31) hr6 (pm_ib_in hb7) dX11_hand_31 ?_
    refine pm_goto (pc := 32) 37 dX11_hand_32 (by decide) ?_
    exact pm_iret rfl dX11_hand_37 (pm_ri_e hf)
def fX11_refusalOfYears (S : pm_S) (a0 : Nat) (a1 : Int32) (σ : pm_H) : Option (Int32 × pm_H) :=
  Option.bind (fX11_within S a1 (1 : Int32) (60 : Int32) σ) fun u1 => (if u1.1 = 0 then some ((-1000000002 : Int32), u1.2) else Option.bind (fX11_noRealm S a0 u1.2) fun u2 => (if u2.1 = 0 then (if (u2.2.1 (u2.2.2 (u2.2.2 a0 6) 0) 3) ≤ (9000 : Int32) then some ((0 : Int32), u2.2) else some ((-1000000004 : Int32), u2.2)) else some ((-1000000003 : Int32), u2.2)))
set_option maxRecDepth 100000 in
set_option maxHeartbeats 4000000 in
theorem KX11_refusalOfYears (l : Launch) {S : pm_S} {p : Int32 × pm_H} {a0 : Nat} {a1 : Int32} {σ : pm_H} (h0 : pm_is S a0 14) (hf : fX11_refusalOfYears S a0 a1 σ = some p) : pm_M l yX11_refusalOfYears cX11_refusalOfYears 2 (some .int) false 1 [.ref a0, .int a1] S σ (pm_ri S p) := by
  refine pm_M.of (by decide +kernel) (Nat.le_of_ble_eq_true rfl) ?_
  show pm_E l yX11_refusalOfYears cX11_refusalOfYears 2 (some .int) false 1 S (pm_ri S p) 0 [(0, .ref a0), (1, .int a1)] [] S σ
  rw [fX11_refusalOfYears] at hf
  refine pm_iload_n (pc := 0) 1 dX11_refusalOfYears_0 rfl rfl ?_
  refine pm_iconst (pc := 1) (1 : Int32) (by decide) dX11_refusalOfYears_1 ?_
  refine pm_bipush (pc := 2) (60 : Int32) (by decide) dX11_refusalOfYears_2 ?_
  obtain ⟨u1, hu1, hf⟩ := pm_bind_e hf
  refine pm_cSi (pc := 4) (as := [.int a1, .int (1 : Int32), .int (60 : Int32)]) (st := []) msX11_94 (KX11_within l  hu1) (by decide) rfl rfl (Nat.le_of_ble_eq_true rfl) rfl dX11_refusalOfYears_4 ?_
  refine pm_if_ne (pc := 7) 13 dX11_refusalOfYears_7 (by decide) (fun hc7 => ?_) (fun hc7 => ?_)
  · rw [if_pos hc7] at hf
    refine pm_ldc (pc := 10) kcX11_98 dX11_refusalOfYears_10 ?_
    exact pm_iret rfl dX11_refusalOfYears_12 (pm_ri_e hf)
  · rw [if_neg hc7] at hf
    refine pm_aload_n (pc := 13) 0 dX11_refusalOfYears_13 rfl rfl h0.pos ?_
    obtain ⟨u2, hu2, hf⟩ := pm_bind_e hf
    refine pm_cVi (pc := 14) (as := []) (st := []) mvX11_164 (KX11_noRealm l h0 hu2) (by decide) h0 rfl rfl (Nat.le_of_ble_eq_true rfl) rfl dX11_refusalOfYears_14 ?_
    refine pm_if_eq (pc := 17) 23 dX11_refusalOfYears_17 (by decide) (fun hc6 => ?_) (fun hc6 => ?_)
    · rw [if_pos hc6] at hf
      refine pm_aload_n (pc := 23) 0 dX11_refusalOfYears_23 rfl rfl h0.pos ?_
      refine pm_getT (pc := 24) (k := 6) pm_cl11 flX11_37 (by decide) rfl h0 dX11_refusalOfYears_24 (fun hr3 => ?_)
      refine pm_getT (pc := 27) (k := 0) pm_cl8 flX11_134 (by decide) rfl hr3 dX11_refusalOfYears_27 (fun hr4 => ?_)
      refine pm_getI (pc := 30) (k := 3) pm_cl6 flX11_137 (by decide) rfl hr4 dX11_refusalOfYears_30 ?_
      refine pm_sipush (pc := 33) (9000 : Int32) (by decide) dX11_refusalOfYears_33 ?_
      refine pm_icmp_le (pc := 36) 44 dX11_refusalOfYears_36 (by decide) (fun hc5 => ?_) (fun hc5 => ?_)
      · rw [if_pos hc5] at hf
        refine pm_iconst (pc := 44) (0 : Int32) (by decide) dX11_refusalOfYears_44 ?_
        exact pm_iret rfl dX11_refusalOfYears_45 (pm_ri_e hf)
      · rw [if_neg hc5] at hf
        refine pm_ldc (pc := 39) kcX11_102 dX11_refusalOfYears_39 ?_
        refine pm_goto (pc := 41) 45 dX11_refusalOfYears_41 (by decide) ?_
        exact pm_iret rfl dX11_refusalOfYears_45 (pm_ri_e hf)
    · rw [if_neg hc6] at hf
      refine pm_ldc (pc := 20) kcX11_168 dX11_refusalOfYears_20 ?_
      exact pm_iret rfl dX11_refusalOfYears_22 (pm_ri_e hf)
def fX11_year_L25 (S : pm_S) (v0 : Nat) (v1 : Int32) (kx : pm_H → Option (Int32 × pm_H)) : Nat → Int32 → pm_H → Option (Int32 × pm_H)
  | 0, _, _ => none
  | n + 1, v3, σ => (if v1 ≤ v3 then kx σ else Option.bind (fX6_passYear S (σ.2 (σ.2 v0 6) 0) (σ.2 v0 4) σ) fun u8 => fX11_year_L25 S v0 v1 kx n (v3 + (1 : Int32)) u8)
set_option maxRecDepth 100000 in
set_option maxHeartbeats 4000000 in
theorem fX11_year_L25_E (l : Launch) {S : pm_S} {p : Int32 × pm_H} {v0 : Nat} {v1 : Int32} {kx : pm_H → Option (Int32 × pm_H)} (h0 : pm_is S v0 14) (hkx : ∀  sw, kx  sw = some p → pm_E l yX11_year cX11_year 4 (some .int) false 4 S (pm_ri S p) 50 [(0, .ref v0)] [] S sw) : ∀ (n : Nat) (v3 : Int32) (σ : pm_H), fX11_year_L25 S v0 v1 kx n v3 σ = some p → pm_E l yX11_year cX11_year 4 (some .int) false 4 S (pm_ri S p) 25 [(0, .ref v0), (1, .int v1), (3, .int v3)] [] S σ := by
  intro n
  induction n with
  | zero => intro v3 σ hf; cases hf
  | succ n ih =>
    intro v3 σ hf
    rw [fX11_year_L25] at hf
    refine pm_iload_n (pc := 25) 2 dX11_year_25 rfl rfl ?_
    refine pm_iload_n (pc := 26) 1 dX11_year_26 rfl rfl ?_
    refine pm_icmp_ge (pc := 27) 50 dX11_year_27 (by decide) (fun hc9 => ?_) (fun hc9 => ?_)
    · rw [if_pos hc9] at hf
      refine pm_lv [(0, .ref v0)] [0] rfl ?_
      exact hkx σ hf
    · rw [if_neg hc9] at hf
      refine pm_aload_n (pc := 30) 0 dX11_year_30 rfl rfl h0.pos ?_
      refine pm_getT (pc := 31) (k := 6) pm_cl11 flX11_37 (by decide) rfl h0 dX11_year_31 (fun hr5 => ?_)
      refine pm_getT (pc := 34) (k := 0) pm_cl8 flX11_134 (by decide) rfl hr5 dX11_year_34 (fun hr6 => ?_)
      refine pm_aload_n (pc := 37) 0 dX11_year_37 rfl rfl h0.pos ?_
      refine pm_getT (pc := 38) (k := 4) pm_cl11 flX11_27 (by decide) rfl h0 dX11_year_38 (fun hr7 => ?_)
      obtain ⟨u8, hu8, hf⟩ := pm_bind_e hf
      refine pm_cVu (pc := 41) (as := [.ref (σ.2 v0 4)]) (st := []) mvX11_222 (KX6_passYear l hr6 hr7 hu8) (by decide) hr6 rfl rfl (Nat.le_of_ble_eq_true rfl) rfl dX11_year_41 ?_
      refine pm_iinc (pc := 44) 2 (v3 + (1 : Int32)) [(3, .int (v3 + (1 : Int32))), (0, .ref v0), (1, .int v1)] dX11_year_44 rfl rfl (by decide) rfl ?_
      refine pm_goto (pc := 47) 25 dX11_year_47 (by decide) ?_
      refine pm_lv [(0, .ref v0), (1, .int v1), (3, .int (v3 + (1 : Int32)))] [1, 2, 0] rfl ?_
      exact ih (v3 + (1 : Int32)) u8 hf
def fX11_year (S : pm_S) (a0 : Nat) (a1 : Int32) (σ : pm_H) : Option (Int32 × pm_H) :=
  Option.bind (fX11_refusalOfYears S a0 a1 σ) fun u1 => (if u1.1 = 0 then Option.bind (fX3_remember S (u1.2.2 a0 8) (u1.2.2 a0 6) u1.2) fun u4 => fX11_year_L25 S a0 a1 (fun s10 => some ((s10.1 (s10.2 (s10.2 a0 6) 0) 3), s10)) pm_fuel (0 : Int32) u4 else some (u1.1, u1.2))
set_option maxRecDepth 100000 in
set_option maxHeartbeats 4000000 in
theorem KX11_year (l : Launch) {S : pm_S} {p : Int32 × pm_H} {a0 : Nat} {a1 : Int32} {σ : pm_H} (h0 : pm_is S a0 14) (hf : fX11_year S a0 a1 σ = some p) : pm_M l yX11_year cX11_year 4 (some .int) false 4 [.ref a0, .int a1] S σ (pm_ri S p) := by
  refine pm_M.of (by decide +kernel) (Nat.le_of_ble_eq_true rfl) ?_
  show pm_E l yX11_year cX11_year 4 (some .int) false 4 S (pm_ri S p) 0 [(0, .ref a0), (1, .int a1)] [] S σ
  rw [fX11_year] at hf
  refine pm_aload_n (pc := 0) 0 dX11_year_0 rfl rfl h0.pos ?_
  refine pm_iload_n (pc := 1) 1 dX11_year_1 rfl rfl ?_
  obtain ⟨u1, hu1, hf⟩ := pm_bind_e hf
  refine pm_cVi (pc := 2) (as := [.int a1]) (st := []) mvX11_215 (KX11_refusalOfYears l h0 hu1) (by decide) h0 rfl rfl (Nat.le_of_ble_eq_true rfl) rfl dX11_year_2 ?_
  refine pm_istore_n (pc := 5) [(2, .int u1.1), (0, .ref a0), (1, .int a1)] dX11_year_5 rfl (by decide) rfl ?_
  refine pm_iload_n (pc := 6) 0 dX11_year_6 rfl rfl ?_
  refine pm_if_eq (pc := 7) 12 dX11_year_7 (by decide) (fun hc13 => ?_) (fun hc13 => ?_)
  · rw [if_pos hc13] at hf
    refine pm_aload_n (pc := 12) 1 dX11_year_12 rfl rfl h0.pos ?_
    refine pm_getT (pc := 13) (k := 8) pm_cl11 flX11_51 (by decide) rfl h0 dX11_year_13 (fun hr2 => ?_)
    refine pm_aload_n (pc := 16) 1 dX11_year_16 rfl rfl h0.pos ?_
    refine pm_getT (pc := 17) (k := 6) pm_cl11 flX11_37 (by decide) rfl h0 dX11_year_17 (fun hr3 => ?_)
    obtain ⟨u4, hu4, hf⟩ := pm_bind_e hf
    refine pm_cVu (pc := 20) (as := [.ref (u1.2.2 a0 6)]) (st := []) mvX11_218 (KX3_remember l hr2 hr3 hu4) (by decide) hr2 rfl rfl (Nat.le_of_ble_eq_true rfl) rfl dX11_year_20 ?_
    refine pm_iconst (pc := 23) (0 : Int32) (by decide) dX11_year_23 ?_
    refine pm_istore_n (pc := 24) [(3, .int (0 : Int32)), (2, .int u1.1), (0, .ref a0), (1, .int a1)] dX11_year_24 rfl (by decide) rfl ?_
    refine pm_lv [(0, .ref a0), (1, .int a1), (3, .int (0 : Int32))] [2, 3, 0] rfl ?_
    refine fX11_year_L25_E l h0 (fun s10 hf => ?_) pm_fuel (0 : Int32) u4 hf
    refine pm_aload_n (pc := 50) 0 dX11_year_50 rfl rfl h0.pos ?_
    refine pm_getT (pc := 51) (k := 6) pm_cl11 flX11_37 (by decide) rfl h0 dX11_year_51 (fun hr11 => ?_)
    refine pm_getT (pc := 54) (k := 0) pm_cl8 flX11_134 (by decide) rfl hr11 dX11_year_54 (fun hr12 => ?_)
    refine pm_getI (pc := 57) (k := 3) pm_cl6 flX11_137 (by decide) rfl hr12 dX11_year_57 ?_
    exact pm_iret rfl dX11_year_60 (pm_ri_e hf)
  · rw [if_neg hc13] at hf
    refine pm_iload_n (pc := 10) 0 dX11_year_10 rfl rfl ?_
    exact pm_iret rfl dX11_year_11 (pm_ri_e hf)
def fX11_noRodAtHand (S : pm_S) (a0 : Nat) (σ : pm_H) : Option (Int32 × pm_H) :=
  Option.bind (fX11_noRealm S a0 σ) fun u1 => (if u1.1 = 0 then (if (u1.2.1 (u1.2.2 (u1.2.2 a0 6) 0) 2) = 0 then some ((0 : Int32), u1.2) else some ((1 : Int32), u1.2)) else some ((1 : Int32), u1.2))
set_option maxRecDepth 100000 in
set_option maxHeartbeats 4000000 in
theorem KX11_noRodAtHand (l : Launch) {S : pm_S} {p : Int32 × pm_H} {a0 : Nat} {σ : pm_H} (h0 : pm_is S a0 14) (hf : fX11_noRodAtHand S a0 σ = some p) : pm_M l yX11_noRodAtHand cX11_noRodAtHand 1 (some .boolean) false 1 [.ref a0] S σ (pm_ri S p) := by
  refine pm_M.of (by decide +kernel) (Nat.le_of_ble_eq_true rfl) ?_
  show pm_E l yX11_noRodAtHand cX11_noRodAtHand 1 (some .boolean) false 1 S (pm_ri S p) 0 [(0, .ref a0)] [] S σ
  rw [fX11_noRodAtHand] at hf
  refine pm_aload_n (pc := 0) 0 dX11_noRodAtHand_0 rfl rfl h0.pos ?_
  obtain ⟨u1, hu1, hf⟩ := pm_bind_e hf
  refine pm_cVi (pc := 1) (as := []) (st := []) mvX11_164 (KX11_noRealm l h0 hu1) (by decide) h0 rfl rfl (Nat.le_of_ble_eq_true rfl) rfl dX11_noRodAtHand_1 ?_
  refine pm_if_ne (pc := 4) 20 dX11_noRodAtHand_4 (by decide) (fun hc5 => ?_) (fun hc5 => ?_)
  · rw [if_pos hc5] at hf
    refine pm_aload_n (pc := 7) 0 dX11_noRodAtHand_7 rfl rfl h0.pos ?_
    refine pm_getT (pc := 8) (k := 6) pm_cl11 flX11_37 (by decide) rfl h0 dX11_noRodAtHand_8 (fun hr2 => ?_)
    refine pm_getT (pc := 11) (k := 0) pm_cl8 flX11_134 (by decide) rfl hr2 dX11_noRodAtHand_11 (fun hr3 => ?_)
    refine pm_getI (pc := 14) (k := 2) pm_cl6 flX11_141 (by decide) rfl hr3 dX11_noRodAtHand_14 ?_
    refine pm_if_eq (pc := 17) 24 dX11_noRodAtHand_17 (by decide) (fun hc4 => ?_) (fun hc4 => ?_)
    · rw [if_pos hc4] at hf
      refine pm_iconst (pc := 24) (0 : Int32) (by decide) dX11_noRodAtHand_24 ?_
      exact pm_zret rfl (by decide) dX11_noRodAtHand_25 (pm_ri_e hf)
    · rw [if_neg hc4] at hf
      refine pm_iconst (pc := 20) (1 : Int32) (by decide) dX11_noRodAtHand_20 ?_
      refine pm_goto (pc := 21) 25 dX11_noRodAtHand_21 (by decide) ?_
      exact pm_zret rfl (by decide) dX11_noRodAtHand_25 (pm_ri_e hf)
  · rw [if_neg hc5] at hf
    refine pm_iconst (pc := 20) (1 : Int32) (by decide) dX11_noRodAtHand_20 ?_
    refine pm_goto (pc := 21) 25 dX11_noRodAtHand_21 (by decide) ?_
    exact pm_zret rfl (by decide) dX11_noRodAtHand_25 (pm_ri_e hf)
def fX11_make (S : pm_S) (a0 : Nat) (a1 : Int32) (a2 : Int32) (σ : pm_H) : Option (Int32 × pm_H) :=
  Option.bind (fX11_within S a1 (0 : Int32) (20 : Int32) σ) fun u1 => (if u1.1 = 0 then some ((-1000000002 : Int32), u1.2) else Option.bind (fX11_within S a2 (0 : Int32) (11 : Int32) u1.2) fun u2 => (if u2.1 = 0 then some ((-1000000002 : Int32), u2.2) else Option.bind (fX11_noRodAtHand S a0 u2.2) fun u3 => (if u3.1 = 0 then Option.bind (fX3_remember S (u3.2.2 a0 8) (u3.2.2 a0 6) u3.2) fun u6 => Option.bind (fX8_produce S (u6.2 a0 6) a1 a2 u6) fun u8 => some ((u8.1 + (1000 : Int32)), u8.2) else some ((-1000000003 : Int32), u3.2))))
set_option maxRecDepth 100000 in
set_option maxHeartbeats 4000000 in
theorem KX11_make (l : Launch) {S : pm_S} {p : Int32 × pm_H} {a0 : Nat} {a1 : Int32} {a2 : Int32} {σ : pm_H} (h0 : pm_is S a0 14) (hf : fX11_make S a0 a1 a2 σ = some p) : pm_M l yX11_make cX11_make 3 (some .int) false 4 [.ref a0, .int a1, .int a2] S σ (pm_ri S p) := by
  refine pm_M.of (by decide +kernel) (Nat.le_of_ble_eq_true rfl) ?_
  show pm_E l yX11_make cX11_make 3 (some .int) false 4 S (pm_ri S p) 0 [(0, .ref a0), (1, .int a1), (2, .int a2)] [] S σ
  rw [fX11_make] at hf
  refine pm_iload_n (pc := 0) 1 dX11_make_0 rfl rfl ?_
  refine pm_iconst (pc := 1) (0 : Int32) (by decide) dX11_make_1 ?_
  refine pm_bipush (pc := 2) (20 : Int32) (by decide) dX11_make_2 ?_
  obtain ⟨u1, hu1, hf⟩ := pm_bind_e hf
  refine pm_cSi (pc := 4) (as := [.int a1, .int (0 : Int32), .int (20 : Int32)]) (st := []) msX11_94 (KX11_within l  hu1) (by decide) rfl rfl (Nat.le_of_ble_eq_true rfl) rfl dX11_make_4 ?_
  refine pm_if_eq (pc := 7) 20 dX11_make_7 (by decide) (fun hc11 => ?_) (fun hc11 => ?_)
  · rw [if_pos hc11] at hf
    refine pm_ldc (pc := 20) kcX11_98 dX11_make_20 ?_
    exact pm_iret rfl dX11_make_22 (pm_ri_e hf)
  · rw [if_neg hc11] at hf
    refine pm_iload_n (pc := 10) 2 dX11_make_10 rfl rfl ?_
    refine pm_iconst (pc := 11) (0 : Int32) (by decide) dX11_make_11 ?_
    refine pm_bipush (pc := 12) (11 : Int32) (by decide) dX11_make_12 ?_
    obtain ⟨u2, hu2, hf⟩ := pm_bind_e hf
    refine pm_cSi (pc := 14) (as := [.int a2, .int (0 : Int32), .int (11 : Int32)]) (st := []) msX11_94 (KX11_within l  hu2) (by decide) rfl rfl (Nat.le_of_ble_eq_true rfl) rfl dX11_make_14 ?_
    refine pm_if_ne (pc := 17) 23 dX11_make_17 (by decide) (fun hc10 => ?_) (fun hc10 => ?_)
    · rw [if_pos hc10] at hf
      refine pm_ldc (pc := 20) kcX11_98 dX11_make_20 ?_
      exact pm_iret rfl dX11_make_22 (pm_ri_e hf)
    · rw [if_neg hc10] at hf
      refine pm_aload_n (pc := 23) 0 dX11_make_23 rfl rfl h0.pos ?_
      obtain ⟨u3, hu3, hf⟩ := pm_bind_e hf
      refine pm_cVi (pc := 24) (as := []) (st := []) mvX11_225 (KX11_noRodAtHand l h0 hu3) (by decide) h0 rfl rfl (Nat.le_of_ble_eq_true rfl) rfl dX11_make_24 ?_
      refine pm_if_eq (pc := 27) 33 dX11_make_27 (by decide) (fun hc9 => ?_) (fun hc9 => ?_)
      · rw [if_pos hc9] at hf
        refine pm_aload_n (pc := 33) 0 dX11_make_33 rfl rfl h0.pos ?_
        refine pm_getT (pc := 34) (k := 8) pm_cl11 flX11_51 (by decide) rfl h0 dX11_make_34 (fun hr4 => ?_)
        refine pm_aload_n (pc := 37) 0 dX11_make_37 rfl rfl h0.pos ?_
        refine pm_getT (pc := 38) (k := 6) pm_cl11 flX11_37 (by decide) rfl h0 dX11_make_38 (fun hr5 => ?_)
        obtain ⟨u6, hu6, hf⟩ := pm_bind_e hf
        refine pm_cVu (pc := 41) (as := [.ref (u3.2.2 a0 6)]) (st := []) mvX11_218 (KX3_remember l hr4 hr5 hu6) (by decide) hr4 rfl rfl (Nat.le_of_ble_eq_true rfl) rfl dX11_make_41 ?_
        refine pm_aload_n (pc := 44) 0 dX11_make_44 rfl rfl h0.pos ?_
        refine pm_getT (pc := 45) (k := 6) pm_cl11 flX11_37 (by decide) rfl h0 dX11_make_45 (fun hr7 => ?_)
        refine pm_iload_n (pc := 48) 1 dX11_make_48 rfl rfl ?_
        refine pm_iload_n (pc := 49) 2 dX11_make_49 rfl rfl ?_
        obtain ⟨u8, hu8, hf⟩ := pm_bind_e hf
        refine pm_cVi (pc := 50) (as := [.int a1, .int a2]) (st := []) mvX11_228 (KX8_produce l hr7 hu8) (by decide) hr7 rfl rfl (Nat.le_of_ble_eq_true rfl) rfl dX11_make_50 ?_
        refine pm_sipush (pc := 53) (1000 : Int32) (by decide) dX11_make_53 ?_
        refine pm_iadd (pc := 56) dX11_make_56 ?_
        exact pm_iret rfl dX11_make_57 (pm_ri_e hf)
      · rw [if_neg hc9] at hf
        refine pm_ldc (pc := 30) kcX11_168 dX11_make_30 ?_
        exact pm_iret rfl dX11_make_32 (pm_ri_e hf)
def fX11_warp (S : pm_S) (a0 : Nat) (a1 : Int32) (σ : pm_H) : Option (Int32 × pm_H) :=
  Option.bind (fX11_within S a1 (-99 : Int32) (99 : Int32) σ) fun u1 => (if u1.1 = 0 then some ((-1000000002 : Int32), u1.2) else Option.bind (fX11_noRodAtHand S a0 u1.2) fun u2 => (if u2.1 = 0 then Option.bind (fX3_remember S (u2.2.2 a0 8) (u2.2.2 a0 6) u2.2) fun u5 => pm_let (u5.1 (u5.2 (u5.2 a0 6) 0) 1) fun x8 => pm_let (pm_si u5 (u5.2 (u5.2 a0 6) 0) 1 a1) fun s11 => some ((x8 + (1000 : Int32)), s11) else some ((-1000000003 : Int32), u2.2)))
set_option maxRecDepth 100000 in
set_option maxHeartbeats 4000000 in
theorem KX11_warp (l : Launch) {S : pm_S} {p : Int32 × pm_H} {a0 : Nat} {a1 : Int32} {σ : pm_H} (h0 : pm_is S a0 14) (hf : fX11_warp S a0 a1 σ = some p) : pm_M l yX11_warp cX11_warp 3 (some .int) false 4 [.ref a0, .int a1] S σ (pm_ri S p) := by
  refine pm_M.of (by decide +kernel) (Nat.le_of_ble_eq_true rfl) ?_
  show pm_E l yX11_warp cX11_warp 3 (some .int) false 4 S (pm_ri S p) 0 [(0, .ref a0), (1, .int a1)] [] S σ
  rw [fX11_warp] at hf
  refine pm_iload_n (pc := 0) 1 dX11_warp_0 rfl rfl ?_
  refine pm_bipush (pc := 1) (-99 : Int32) (by decide) dX11_warp_1 ?_
  refine pm_bipush (pc := 3) (99 : Int32) (by decide) dX11_warp_3 ?_
  obtain ⟨u1, hu1, hf⟩ := pm_bind_e hf
  refine pm_cSi (pc := 5) (as := [.int a1, .int (-99 : Int32), .int (99 : Int32)]) (st := []) msX11_94 (KX11_within l  hu1) (by decide) rfl rfl (Nat.le_of_ble_eq_true rfl) rfl dX11_warp_5 ?_
  refine pm_if_ne (pc := 8) 14 dX11_warp_8 (by decide) (fun hc13 => ?_) (fun hc13 => ?_)
  · rw [if_pos hc13] at hf
    refine pm_ldc (pc := 11) kcX11_98 dX11_warp_11 ?_
    exact pm_iret rfl dX11_warp_13 (pm_ri_e hf)
  · rw [if_neg hc13] at hf
    refine pm_aload_n (pc := 14) 0 dX11_warp_14 rfl rfl h0.pos ?_
    obtain ⟨u2, hu2, hf⟩ := pm_bind_e hf
    refine pm_cVi (pc := 15) (as := []) (st := []) mvX11_225 (KX11_noRodAtHand l h0 hu2) (by decide) h0 rfl rfl (Nat.le_of_ble_eq_true rfl) rfl dX11_warp_15 ?_
    refine pm_if_eq (pc := 18) 24 dX11_warp_18 (by decide) (fun hc12 => ?_) (fun hc12 => ?_)
    · rw [if_pos hc12] at hf
      refine pm_aload_n (pc := 24) 0 dX11_warp_24 rfl rfl h0.pos ?_
      refine pm_getT (pc := 25) (k := 8) pm_cl11 flX11_51 (by decide) rfl h0 dX11_warp_25 (fun hr3 => ?_)
      refine pm_aload_n (pc := 28) 0 dX11_warp_28 rfl rfl h0.pos ?_
      refine pm_getT (pc := 29) (k := 6) pm_cl11 flX11_37 (by decide) rfl h0 dX11_warp_29 (fun hr4 => ?_)
      obtain ⟨u5, hu5, hf⟩ := pm_bind_e hf
      refine pm_cVu (pc := 32) (as := [.ref (u2.2.2 a0 6)]) (st := []) mvX11_218 (KX3_remember l hr3 hr4 hu5) (by decide) hr3 rfl rfl (Nat.le_of_ble_eq_true rfl) rfl dX11_warp_32 ?_
      refine pm_aload_n (pc := 35) 0 dX11_warp_35 rfl rfl h0.pos ?_
      refine pm_getT (pc := 36) (k := 6) pm_cl11 flX11_37 (by decide) rfl h0 dX11_warp_36 (fun hr6 => ?_)
      refine pm_getT (pc := 39) (k := 0) pm_cl8 flX11_134 (by decide) rfl hr6 dX11_warp_39 (fun hr7 => ?_)
      refine pm_getI (pc := 42) (k := 1) pm_cl6 flX11_169 (by decide) rfl hr7 dX11_warp_42 ?_
      obtain ⟨x8, ex8, hf⟩ := pm_let_e hf
      refine pm_nmi ex8 ?_
      refine pm_istore_n (pc := 45) [(2, .int x8), (0, .ref a0), (1, .int a1)] dX11_warp_45 rfl (by decide) rfl ?_
      refine pm_aload_n (pc := 46) 1 dX11_warp_46 rfl rfl h0.pos ?_
      refine pm_getT (pc := 47) (k := 6) pm_cl11 flX11_37 (by decide) rfl h0 dX11_warp_47 (fun hr9 => ?_)
      refine pm_getT (pc := 50) (k := 0) pm_cl8 flX11_134 (by decide) rfl hr9 dX11_warp_50 (fun hr10 => ?_)
      refine pm_iload_n (pc := 53) 2 dX11_warp_53 rfl rfl ?_
      refine pm_putI (pc := 54) (k := 1) pm_cl6 flX11_169 (by decide) rfl rfl rfl hr10 dX11_warp_54 ?_
      obtain ⟨s11, es11, hf⟩ := pm_let_e hf
      refine pm_nmh es11 ?_
      refine pm_iload_n (pc := 57) 0 dX11_warp_57 rfl rfl ?_
      refine pm_sipush (pc := 58) (1000 : Int32) (by decide) dX11_warp_58 ?_
      refine pm_iadd (pc := 61) dX11_warp_61 ?_
      exact pm_iret rfl dX11_warp_62 (pm_ri_e hf)
    · rw [if_neg hc12] at hf
      refine pm_ldc (pc := 21) kcX11_168 dX11_warp_21 ?_
      exact pm_iret rfl dX11_warp_23 (pm_ri_e hf)
def fX11_plane (S : pm_S) (a0 : Nat) (σ : pm_H) : Option (Int32 × pm_H) :=
  Option.bind (fX11_noRodAtHand S a0 σ) fun u1 => (if u1.1 = 0 then Option.bind (fX3_remember S (u1.2.2 a0 8) (u1.2.2 a0 6) u1.2) fun u4 => Option.bind (fX6_lengthIfPlaned S (u4.2 (u4.2 a0 6) 0) u4) fun u9 => pm_let (pm_si u9.2 (u4.2 (u4.2 a0 6) 0) 0 u9.1) fun s10 => pm_let (pm_si s10 (s10.2 (s10.2 a0 6) 0) 1 (0 : Int32)) fun s13 => some ((s13.1 (s13.2 (s13.2 a0 6) 0) 0), s13) else some ((-1000000003 : Int32), u1.2))
set_option maxRecDepth 100000 in
set_option maxHeartbeats 4000000 in
theorem KX11_plane (l : Launch) {S : pm_S} {p : Int32 × pm_H} {a0 : Nat} {σ : pm_H} (h0 : pm_is S a0 14) (hf : fX11_plane S a0 σ = some p) : pm_M l yX11_plane cX11_plane 1 (some .int) false 4 [.ref a0] S σ (pm_ri S p) := by
  refine pm_M.of (by decide +kernel) (Nat.le_of_ble_eq_true rfl) ?_
  show pm_E l yX11_plane cX11_plane 1 (some .int) false 4 S (pm_ri S p) 0 [(0, .ref a0)] [] S σ
  rw [fX11_plane] at hf
  refine pm_aload_n (pc := 0) 0 dX11_plane_0 rfl rfl h0.pos ?_
  obtain ⟨u1, hu1, hf⟩ := pm_bind_e hf
  refine pm_cVi (pc := 1) (as := []) (st := []) mvX11_225 (KX11_noRodAtHand l h0 hu1) (by decide) h0 rfl rfl (Nat.le_of_ble_eq_true rfl) rfl dX11_plane_1 ?_
  refine pm_if_eq (pc := 4) 10 dX11_plane_4 (by decide) (fun hc16 => ?_) (fun hc16 => ?_)
  · rw [if_pos hc16] at hf
    refine pm_aload_n (pc := 10) 0 dX11_plane_10 rfl rfl h0.pos ?_
    refine pm_getT (pc := 11) (k := 8) pm_cl11 flX11_51 (by decide) rfl h0 dX11_plane_11 (fun hr2 => ?_)
    refine pm_aload_n (pc := 14) 0 dX11_plane_14 rfl rfl h0.pos ?_
    refine pm_getT (pc := 15) (k := 6) pm_cl11 flX11_37 (by decide) rfl h0 dX11_plane_15 (fun hr3 => ?_)
    obtain ⟨u4, hu4, hf⟩ := pm_bind_e hf
    refine pm_cVu (pc := 18) (as := [.ref (u1.2.2 a0 6)]) (st := []) mvX11_218 (KX3_remember l hr2 hr3 hu4) (by decide) hr2 rfl rfl (Nat.le_of_ble_eq_true rfl) rfl dX11_plane_18 ?_
    refine pm_aload_n (pc := 21) 0 dX11_plane_21 rfl rfl h0.pos ?_
    refine pm_getT (pc := 22) (k := 6) pm_cl11 flX11_37 (by decide) rfl h0 dX11_plane_22 (fun hr5 => ?_)
    refine pm_getT (pc := 25) (k := 0) pm_cl8 flX11_134 (by decide) rfl hr5 dX11_plane_25 (fun hr6 => ?_)
    refine pm_aload_n (pc := 28) 0 dX11_plane_28 rfl rfl h0.pos ?_
    refine pm_getT (pc := 29) (k := 6) pm_cl11 flX11_37 (by decide) rfl h0 dX11_plane_29 (fun hr7 => ?_)
    refine pm_getT (pc := 32) (k := 0) pm_cl8 flX11_134 (by decide) rfl hr7 dX11_plane_32 (fun hr8 => ?_)
    obtain ⟨u9, hu9, hf⟩ := pm_bind_e hf
    refine pm_cVi (pc := 35) (as := []) (st := [.ref (u4.2 (u4.2 a0 6) 0)]) mvX11_232 (KX6_lengthIfPlaned l hr8 hu9) (by decide) hr8 rfl rfl (Nat.le_of_ble_eq_true rfl) rfl dX11_plane_35 ?_
    refine pm_putI (pc := 38) (k := 0) pm_cl6 flX11_140 (by decide) rfl rfl rfl hr6 dX11_plane_38 ?_
    obtain ⟨s10, es10, hf⟩ := pm_let_e hf
    refine pm_nmh es10 ?_
    refine pm_aload_n (pc := 41) 0 dX11_plane_41 rfl rfl h0.pos ?_
    refine pm_getT (pc := 42) (k := 6) pm_cl11 flX11_37 (by decide) rfl h0 dX11_plane_42 (fun hr11 => ?_)
    refine pm_getT (pc := 45) (k := 0) pm_cl8 flX11_134 (by decide) rfl hr11 dX11_plane_45 (fun hr12 => ?_)
    refine pm_iconst (pc := 48) (0 : Int32) (by decide) dX11_plane_48 ?_
    refine pm_putI (pc := 49) (k := 1) pm_cl6 flX11_169 (by decide) rfl rfl rfl hr12 dX11_plane_49 ?_
    obtain ⟨s13, es13, hf⟩ := pm_let_e hf
    refine pm_nmh es13 ?_
    refine pm_aload_n (pc := 52) 0 dX11_plane_52 rfl rfl h0.pos ?_
    refine pm_getT (pc := 53) (k := 6) pm_cl11 flX11_37 (by decide) rfl h0 dX11_plane_53 (fun hr14 => ?_)
    refine pm_getT (pc := 56) (k := 0) pm_cl8 flX11_134 (by decide) rfl hr14 dX11_plane_56 (fun hr15 => ?_)
    refine pm_getI (pc := 59) (k := 0) pm_cl6 flX11_140 (by decide) rfl hr15 dX11_plane_59 ?_
    exact pm_iret rfl dX11_plane_62 (pm_ri_e hf)
  · rw [if_neg hc16] at hf
    refine pm_ldc (pc := 7) kcX11_168 dX11_plane_7 ?_
    exact pm_iret rfl dX11_plane_9 (pm_ri_e hf)
def fX11_lose (S : pm_S) (a0 : Nat) (a1 : Int32) (σ : pm_H) : Option (Int32 × pm_H) :=
  Option.bind (fX11_noRealm S a0 σ) fun u1 => (if u1.1 = 0 then Option.bind (fX3_remember S (u1.2.2 a0 8) (u1.2.2 a0 6) u1.2) fun u4 => (if (u4.1 (u4.2 (u4.2 a0 6) 0) 2) = 0 then (if pm_zb a1 = true then pm_let (pm_si u4 (u4.2 (u4.2 a0 6) 0) 2 a1) fun s10 => some ((0 : Int32), s10) else none) else (if pm_zb a1 = true then pm_let (pm_si u4 (u4.2 (u4.2 a0 6) 0) 2 a1) fun s14 => some ((1 : Int32), s14) else none)) else some ((-1000000003 : Int32), u1.2))
set_option maxRecDepth 100000 in
set_option maxHeartbeats 4000000 in
theorem KX11_lose (l : Launch) {S : pm_S} {p : Int32 × pm_H} {a0 : Nat} {a1 : Int32} {σ : pm_H} (h0 : pm_is S a0 14) (hf : fX11_lose S a0 a1 σ = some p) : pm_M l yX11_lose cX11_lose 3 (some .int) false 4 [.ref a0, .int a1] S σ (pm_ri S p) := by
  refine pm_M.of (by decide +kernel) (Nat.le_of_ble_eq_true rfl) ?_
  show pm_E l yX11_lose cX11_lose 3 (some .int) false 4 S (pm_ri S p) 0 [(0, .ref a0), (1, .int a1)] [] S σ
  rw [fX11_lose] at hf
  refine pm_aload_n (pc := 0) 0 dX11_lose_0 rfl rfl h0.pos ?_
  obtain ⟨u1, hu1, hf⟩ := pm_bind_e hf
  refine pm_cVi (pc := 1) (as := []) (st := []) mvX11_164 (KX11_noRealm l h0 hu1) (by decide) h0 rfl rfl (Nat.le_of_ble_eq_true rfl) rfl dX11_lose_1 ?_
  refine pm_if_eq (pc := 4) 10 dX11_lose_4 (by decide) (fun hc16 => ?_) (fun hc16 => ?_)
  · rw [if_pos hc16] at hf
    refine pm_aload_n (pc := 10) 0 dX11_lose_10 rfl rfl h0.pos ?_
    refine pm_getT (pc := 11) (k := 8) pm_cl11 flX11_51 (by decide) rfl h0 dX11_lose_11 (fun hr2 => ?_)
    refine pm_aload_n (pc := 14) 0 dX11_lose_14 rfl rfl h0.pos ?_
    refine pm_getT (pc := 15) (k := 6) pm_cl11 flX11_37 (by decide) rfl h0 dX11_lose_15 (fun hr3 => ?_)
    obtain ⟨u4, hu4, hf⟩ := pm_bind_e hf
    refine pm_cVu (pc := 18) (as := [.ref (u1.2.2 a0 6)]) (st := []) mvX11_218 (KX3_remember l hr2 hr3 hu4) (by decide) hr2 rfl rfl (Nat.le_of_ble_eq_true rfl) rfl dX11_lose_18 ?_
    refine pm_aload_n (pc := 21) 0 dX11_lose_21 rfl rfl h0.pos ?_
    refine pm_getT (pc := 22) (k := 6) pm_cl11 flX11_37 (by decide) rfl h0 dX11_lose_22 (fun hr5 => ?_)
    refine pm_getT (pc := 25) (k := 0) pm_cl8 flX11_134 (by decide) rfl hr5 dX11_lose_25 (fun hr6 => ?_)
    refine pm_getI (pc := 28) (k := 2) pm_cl6 flX11_141 (by decide) rfl hr6 dX11_lose_28 ?_
    refine pm_if_eq (pc := 31) 38 dX11_lose_31 (by decide) (fun hc15 => ?_) (fun hc15 => ?_)
    · rw [if_pos hc15] at hf
      refine pm_iconst (pc := 38) (0 : Int32) (by decide) dX11_lose_38 ?_
      refine pm_istore_n (pc := 39) [(2, .int (0 : Int32)), (0, .ref a0), (1, .int a1)] dX11_lose_39 rfl (by decide) rfl ?_
      refine pm_aload_n (pc := 40) 1 dX11_lose_40 rfl rfl h0.pos ?_
      refine pm_getT (pc := 41) (k := 6) pm_cl11 flX11_37 (by decide) rfl h0 dX11_lose_41 (fun hr7 => ?_)
      refine pm_getT (pc := 44) (k := 0) pm_cl8 flX11_134 (by decide) rfl hr7 dX11_lose_44 (fun hr8 => ?_)
      refine pm_iload_n (pc := 47) 2 dX11_lose_47 rfl rfl ?_
      obtain ⟨hz9, hf⟩ := pm_gd hf
      refine pm_putZ (pc := 48) (k := 2) pm_cl6 flX11_141 (by decide) rfl rfl rfl hr8 (pm_zb_or hz9) dX11_lose_48 ?_
      obtain ⟨s10, es10, hf⟩ := pm_let_e hf
      refine pm_nmh es10 ?_
      refine pm_iload_n (pc := 51) 0 dX11_lose_51 rfl rfl ?_
      exact pm_iret rfl dX11_lose_52 (pm_ri_e hf)
    · rw [if_neg hc15] at hf
      refine pm_iconst (pc := 34) (1 : Int32) (by decide) dX11_lose_34 ?_
      refine pm_goto (pc := 35) 39 dX11_lose_35 (by decide) ?_
      refine pm_istore_n (pc := 39) [(2, .int (1 : Int32)), (0, .ref a0), (1, .int a1)] dX11_lose_39 rfl (by decide) rfl ?_
      refine pm_aload_n (pc := 40) 1 dX11_lose_40 rfl rfl h0.pos ?_
      refine pm_getT (pc := 41) (k := 6) pm_cl11 flX11_37 (by decide) rfl h0 dX11_lose_41 (fun hr11 => ?_)
      refine pm_getT (pc := 44) (k := 0) pm_cl8 flX11_134 (by decide) rfl hr11 dX11_lose_44 (fun hr12 => ?_)
      refine pm_iload_n (pc := 47) 2 dX11_lose_47 rfl rfl ?_
      obtain ⟨hz13, hf⟩ := pm_gd hf
      refine pm_putZ (pc := 48) (k := 2) pm_cl6 flX11_141 (by decide) rfl rfl rfl hr12 (pm_zb_or hz13) dX11_lose_48 ?_
      obtain ⟨s14, es14, hf⟩ := pm_let_e hf
      refine pm_nmh es14 ?_
      refine pm_iload_n (pc := 51) 0 dX11_lose_51 rfl rfl ?_
      exact pm_iret rfl dX11_lose_52 (pm_ri_e hf)
  · rw [if_neg hc16] at hf
    refine pm_ldc (pc := 7) kcX11_168 dX11_lose_7 ?_
    exact pm_iret rfl dX11_lose_9 (pm_ri_e hf)
def fX11_hold (S : pm_S) (a0 : Nat) (a1 : Int32) (σ : pm_H) : Option (Int32 × pm_H) :=
  Option.bind (fX11_within S a1 (-20 : Int32) (20 : Int32) σ) fun u1 => (if u1.1 = 0 then some ((-1000000002 : Int32), u1.2) else Option.bind (fX11_noRodAtHand S a0 u1.2) fun u2 => (if u2.1 = 0 then (if (u2.2.1 (u2.2.2 (u2.2.2 a0 6) 2) 1) < (8 : Int32) then Option.bind (fX3_remember S (u2.2.2 a0 8) (u2.2.2 a0 6) u2.2) fun u7 => Option.bind (fX1_add S (u7.2 (u7.2 a0 6) 2) (pm_max (0 : Int32) ((u7.1 (u7.2 (u7.2 a0 6) 0) 0) + a1)) u7) fun u12 => some ((u12.1 (u12.2 (u12.2 a0 6) 2) 1), u12) else some ((-1000000004 : Int32), u2.2)) else some ((-1000000003 : Int32), u2.2)))
set_option maxRecDepth 100000 in
set_option maxHeartbeats 4000000 in
theorem KX11_hold (l : Launch) {S : pm_S} {p : Int32 × pm_H} {a0 : Nat} {a1 : Int32} {σ : pm_H} (h0 : pm_is S a0 14) (hf : fX11_hold S a0 a1 σ = some p) : pm_M l yX11_hold cX11_hold 2 (some .int) false 4 [.ref a0, .int a1] S σ (pm_ri S p) := by
  refine pm_M.of (by decide +kernel) (Nat.le_of_ble_eq_true rfl) ?_
  show pm_E l yX11_hold cX11_hold 2 (some .int) false 4 S (pm_ri S p) 0 [(0, .ref a0), (1, .int a1)] [] S σ
  rw [fX11_hold] at hf
  refine pm_iload_n (pc := 0) 1 dX11_hold_0 rfl rfl ?_
  refine pm_bipush (pc := 1) (-20 : Int32) (by decide) dX11_hold_1 ?_
  refine pm_bipush (pc := 3) (20 : Int32) (by decide) dX11_hold_3 ?_
  obtain ⟨u1, hu1, hf⟩ := pm_bind_e hf
  refine pm_cSi (pc := 5) (as := [.int a1, .int (-20 : Int32), .int (20 : Int32)]) (st := []) msX11_94 (KX11_within l  hu1) (by decide) rfl rfl (Nat.le_of_ble_eq_true rfl) rfl dX11_hold_5 ?_
  refine pm_if_ne (pc := 8) 14 dX11_hold_8 (by decide) (fun hc17 => ?_) (fun hc17 => ?_)
  · rw [if_pos hc17] at hf
    refine pm_ldc (pc := 11) kcX11_98 dX11_hold_11 ?_
    exact pm_iret rfl dX11_hold_13 (pm_ri_e hf)
  · rw [if_neg hc17] at hf
    refine pm_aload_n (pc := 14) 0 dX11_hold_14 rfl rfl h0.pos ?_
    obtain ⟨u2, hu2, hf⟩ := pm_bind_e hf
    refine pm_cVi (pc := 15) (as := []) (st := []) mvX11_225 (KX11_noRodAtHand l h0 hu2) (by decide) h0 rfl rfl (Nat.le_of_ble_eq_true rfl) rfl dX11_hold_15 ?_
    refine pm_if_eq (pc := 18) 24 dX11_hold_18 (by decide) (fun hc16 => ?_) (fun hc16 => ?_)
    · rw [if_pos hc16] at hf
      refine pm_aload_n (pc := 24) 0 dX11_hold_24 rfl rfl h0.pos ?_
      refine pm_getT (pc := 25) (k := 6) pm_cl11 flX11_37 (by decide) rfl h0 dX11_hold_25 (fun hr3 => ?_)
      refine pm_getT (pc := 28) (k := 2) pm_cl8 flX11_152 (by decide) rfl hr3 dX11_hold_28 (fun hr4 => ?_)
      refine pm_getI (pc := 31) (k := 1) pm_cl1 flX11_156 (by decide) rfl hr4 dX11_hold_31 ?_
      refine pm_bipush (pc := 34) (8 : Int32) (by decide) dX11_hold_34 ?_
      refine pm_icmp_lt (pc := 36) 42 dX11_hold_36 (by decide) (fun hc15 => ?_) (fun hc15 => ?_)
      · rw [if_pos hc15] at hf
        refine pm_aload_n (pc := 42) 0 dX11_hold_42 rfl rfl h0.pos ?_
        refine pm_getT (pc := 43) (k := 8) pm_cl11 flX11_51 (by decide) rfl h0 dX11_hold_43 (fun hr5 => ?_)
        refine pm_aload_n (pc := 46) 0 dX11_hold_46 rfl rfl h0.pos ?_
        refine pm_getT (pc := 47) (k := 6) pm_cl11 flX11_37 (by decide) rfl h0 dX11_hold_47 (fun hr6 => ?_)
        obtain ⟨u7, hu7, hf⟩ := pm_bind_e hf
        refine pm_cVu (pc := 50) (as := [.ref (u2.2.2 a0 6)]) (st := []) mvX11_218 (KX3_remember l hr5 hr6 hu7) (by decide) hr5 rfl rfl (Nat.le_of_ble_eq_true rfl) rfl dX11_hold_50 ?_
        refine pm_aload_n (pc := 53) 0 dX11_hold_53 rfl rfl h0.pos ?_
        refine pm_getT (pc := 54) (k := 6) pm_cl11 flX11_37 (by decide) rfl h0 dX11_hold_54 (fun hr8 => ?_)
        refine pm_getT (pc := 57) (k := 2) pm_cl8 flX11_152 (by decide) rfl hr8 dX11_hold_57 (fun hr9 => ?_)
        refine pm_iconst (pc := 60) (0 : Int32) (by decide) dX11_hold_60 ?_
        refine pm_aload_n (pc := 61) 0 dX11_hold_61 rfl rfl h0.pos ?_
        refine pm_getT (pc := 62) (k := 6) pm_cl11 flX11_37 (by decide) rfl h0 dX11_hold_62 (fun hr10 => ?_)
        refine pm_getT (pc := 65) (k := 0) pm_cl8 flX11_134 (by decide) rfl hr10 dX11_hold_65 (fun hr11 => ?_)
        refine pm_getI (pc := 68) (k := 0) pm_cl6 flX11_140 (by decide) rfl hr11 dX11_hold_68 ?_
        refine pm_iload_n (pc := 71) 1 dX11_hold_71 rfl rfl ?_
        refine pm_iadd (pc := 72) dX11_hold_72 ?_
        refine pm_mmax (pc := 73) (st := [.ref (u7.2 (u7.2 a0 6) 2)]) mmX11_235 (Nat.le_of_ble_eq_true rfl) (by decide) rfl dX11_hold_73 ?_
        obtain ⟨u12, hu12, hf⟩ := pm_bind_e hf
        refine pm_cVu (pc := 76) (as := [.int (pm_max (0 : Int32) ((u7.1 (u7.2 (u7.2 a0 6) 0) 0) + a1))]) (st := []) mvX11_240 (KX1_add l hr9 hu12) (by decide) hr9 rfl rfl (Nat.le_of_ble_eq_true rfl) rfl dX11_hold_76 ?_
        refine pm_aload_n (pc := 79) 0 dX11_hold_79 rfl rfl h0.pos ?_
        refine pm_getT (pc := 80) (k := 6) pm_cl11 flX11_37 (by decide) rfl h0 dX11_hold_80 (fun hr13 => ?_)
        refine pm_getT (pc := 83) (k := 2) pm_cl8 flX11_152 (by decide) rfl hr13 dX11_hold_83 (fun hr14 => ?_)
        refine pm_getI (pc := 86) (k := 1) pm_cl1 flX11_156 (by decide) rfl hr14 dX11_hold_86 ?_
        exact pm_iret rfl dX11_hold_89 (pm_ri_e hf)
      · rw [if_neg hc15] at hf
        refine pm_ldc (pc := 39) kcX11_102 dX11_hold_39 ?_
        exact pm_iret rfl dX11_hold_41 (pm_ri_e hf)
    · rw [if_neg hc16] at hf
      refine pm_ldc (pc := 21) kcX11_168 dX11_hold_21 ?_
      exact pm_iret rfl dX11_hold_23 (pm_ri_e hf)
def fX11_drop (S : pm_S) (a0 : Nat) (σ : pm_H) : Option (Int32 × pm_H) :=
  Option.bind (fX3_remember S (σ.2 a0 8) (σ.2 a0 6) σ) fun u3 => pm_let (u3.1 (u3.2 (u3.2 a0 6) 2) 1) fun x6 => pm_let (pm_si u3 (u3.2 (u3.2 a0 6) 2) 1 (0 : Int32)) fun s9 => some (x6, s9)
set_option maxRecDepth 100000 in
set_option maxHeartbeats 4000000 in
theorem KX11_drop (l : Launch) {S : pm_S} {p : Int32 × pm_H} {a0 : Nat} {σ : pm_H} (h0 : pm_is S a0 14) (hf : fX11_drop S a0 σ = some p) : pm_M l yX11_drop cX11_drop 2 (some .int) false 4 [.ref a0] S σ (pm_ri S p) := by
  refine pm_M.of (by decide +kernel) (Nat.le_of_ble_eq_true rfl) ?_
  show pm_E l yX11_drop cX11_drop 2 (some .int) false 4 S (pm_ri S p) 0 [(0, .ref a0)] [] S σ
  rw [fX11_drop] at hf
  refine pm_aload_n (pc := 0) 0 dX11_drop_0 rfl rfl h0.pos ?_
  refine pm_getT (pc := 1) (k := 8) pm_cl11 flX11_51 (by decide) rfl h0 dX11_drop_1 (fun hr1 => ?_)
  refine pm_aload_n (pc := 4) 0 dX11_drop_4 rfl rfl h0.pos ?_
  refine pm_getT (pc := 5) (k := 6) pm_cl11 flX11_37 (by decide) rfl h0 dX11_drop_5 (fun hr2 => ?_)
  obtain ⟨u3, hu3, hf⟩ := pm_bind_e hf
  refine pm_cVu (pc := 8) (as := [.ref (σ.2 a0 6)]) (st := []) mvX11_218 (KX3_remember l hr1 hr2 hu3) (by decide) hr1 rfl rfl (Nat.le_of_ble_eq_true rfl) rfl dX11_drop_8 ?_
  refine pm_aload_n (pc := 11) 0 dX11_drop_11 rfl rfl h0.pos ?_
  refine pm_getT (pc := 12) (k := 6) pm_cl11 flX11_37 (by decide) rfl h0 dX11_drop_12 (fun hr4 => ?_)
  refine pm_getT (pc := 15) (k := 2) pm_cl8 flX11_152 (by decide) rfl hr4 dX11_drop_15 (fun hr5 => ?_)
  refine pm_getI (pc := 18) (k := 1) pm_cl1 flX11_156 (by decide) rfl hr5 dX11_drop_18 ?_
  obtain ⟨x6, ex6, hf⟩ := pm_let_e hf
  refine pm_nmi ex6 ?_
  refine pm_istore_n (pc := 21) [(1, .int x6), (0, .ref a0)] dX11_drop_21 rfl (by decide) rfl ?_
  refine pm_aload_n (pc := 22) 1 dX11_drop_22 rfl rfl h0.pos ?_
  refine pm_getT (pc := 23) (k := 6) pm_cl11 flX11_37 (by decide) rfl h0 dX11_drop_23 (fun hr7 => ?_)
  refine pm_getT (pc := 26) (k := 2) pm_cl8 flX11_152 (by decide) rfl hr7 dX11_drop_26 (fun hr8 => ?_)
  refine pm_iconst (pc := 29) (0 : Int32) (by decide) dX11_drop_29 ?_
  refine pm_putI (pc := 30) (k := 1) pm_cl1 flX11_156 (by decide) rfl rfl rfl hr8 dX11_drop_30 ?_
  obtain ⟨s9, es9, hf⟩ := pm_let_e hf
  refine pm_nmh es9 ?_
  refine pm_iload_n (pc := 33) 0 dX11_drop_33 rfl rfl ?_
  exact pm_iret rfl dX11_drop_34 (pm_ri_e hf)
def fX11_shorten (S : pm_S) (a0 : Nat) (a1 : Int32) (a2 : Int32) (σ : pm_H) : Option (Int32 × pm_H) :=
  Option.bind (fX11_isPerson S a0 a1 σ) fun u1 => (if u1.1 = 0 then some ((-1000000001 : Int32), u1.2) else Option.bind (fX11_within S a2 (1 : Int32) (999 : Int32) u1.2) fun u2 => (if u2.1 = 0 then some ((-1000000002 : Int32), u2.2) else Option.bind (fX3_remember S (u2.2.2 a0 8) (u2.2.2 a0 6) u2.2) fun u5 => (if pm_ib a1 (pm_len S (u5.2 (u5.2 a0 6) 3)) = true then (if pm_ib a1 (pm_len S (u5.2 (u5.2 a0 6) 3)) = true then pm_let (pm_si u5 (u5.2 (u5.2 a0 6) 3) (a1).toNatClampNeg (pm_max (1 : Int32) ((u5.1 (u5.2 (u5.2 a0 6) 3) (a1).toNatClampNeg) - a2))) fun s12 => (if pm_ib a1 (pm_len S (s12.2 (s12.2 a0 6) 3)) = true then some ((s12.1 (s12.2 (s12.2 a0 6) 3) (a1).toNatClampNeg), s12) else none) else none) else none)))
set_option maxRecDepth 100000 in
set_option maxHeartbeats 4000000 in
theorem KX11_shorten (l : Launch) {S : pm_S} {p : Int32 × pm_H} {a0 : Nat} {a1 : Int32} {a2 : Int32} {σ : pm_H} (h0 : pm_is S a0 14) (hf : fX11_shorten S a0 a1 a2 σ = some p) : pm_M l yX11_shorten cX11_shorten 3 (some .int) false 4 [.ref a0, .int a1, .int a2] S σ (pm_ri S p) := by
  refine pm_M.of (by decide +kernel) (Nat.le_of_ble_eq_true rfl) ?_
  show pm_E l yX11_shorten cX11_shorten 3 (some .int) false 4 S (pm_ri S p) 0 [(0, .ref a0), (1, .int a1), (2, .int a2)] [] S σ
  rw [fX11_shorten] at hf
  refine pm_aload_n (pc := 0) 0 dX11_shorten_0 rfl rfl h0.pos ?_
  refine pm_iload_n (pc := 1) 1 dX11_shorten_1 rfl rfl ?_
  obtain ⟨u1, hu1, hf⟩ := pm_bind_e hf
  refine pm_cVi (pc := 2) (as := [.int a1]) (st := []) mvX11_190 (KX11_isPerson l h0 hu1) (by decide) h0 rfl rfl (Nat.le_of_ble_eq_true rfl) rfl dX11_shorten_2 ?_
  refine pm_if_ne (pc := 5) 11 dX11_shorten_5 (by decide) (fun hc17 => ?_) (fun hc17 => ?_)
  · rw [if_pos hc17] at hf
    refine pm_ldc (pc := 8) kcX11_179 dX11_shorten_8 ?_
    exact pm_iret rfl dX11_shorten_10 (pm_ri_e hf)
  · rw [if_neg hc17] at hf
    refine pm_iload_n (pc := 11) 2 dX11_shorten_11 rfl rfl ?_
    refine pm_iconst (pc := 12) (1 : Int32) (by decide) dX11_shorten_12 ?_
    refine pm_sipush (pc := 13) (999 : Int32) (by decide) dX11_shorten_13 ?_
    obtain ⟨u2, hu2, hf⟩ := pm_bind_e hf
    refine pm_cSi (pc := 16) (as := [.int a2, .int (1 : Int32), .int (999 : Int32)]) (st := []) msX11_94 (KX11_within l  hu2) (by decide) rfl rfl (Nat.le_of_ble_eq_true rfl) rfl dX11_shorten_16 ?_
    refine pm_if_ne (pc := 19) 25 dX11_shorten_19 (by decide) (fun hc16 => ?_) (fun hc16 => ?_)
    · rw [if_pos hc16] at hf
      refine pm_ldc (pc := 22) kcX11_98 dX11_shorten_22 ?_
      exact pm_iret rfl dX11_shorten_24 (pm_ri_e hf)
    · rw [if_neg hc16] at hf
      refine pm_aload_n (pc := 25) 0 dX11_shorten_25 rfl rfl h0.pos ?_
      refine pm_getT (pc := 26) (k := 8) pm_cl11 flX11_51 (by decide) rfl h0 dX11_shorten_26 (fun hr3 => ?_)
      refine pm_aload_n (pc := 29) 0 dX11_shorten_29 rfl rfl h0.pos ?_
      refine pm_getT (pc := 30) (k := 6) pm_cl11 flX11_37 (by decide) rfl h0 dX11_shorten_30 (fun hr4 => ?_)
      obtain ⟨u5, hu5, hf⟩ := pm_bind_e hf
      refine pm_cVu (pc := 33) (as := [.ref (u2.2.2 a0 6)]) (st := []) mvX11_218 (KX3_remember l hr3 hr4 hu5) (by decide) hr3 rfl rfl (Nat.le_of_ble_eq_true rfl) rfl dX11_shorten_33 ?_
      refine pm_aload_n (pc := 36) 0 dX11_shorten_36 rfl rfl h0.pos ?_
      refine pm_getT (pc := 37) (k := 6) pm_cl11 flX11_37 (by decide) rfl h0 dX11_shorten_37 (fun hr6 => ?_)
      refine pm_getT (pc := 40) (k := 3) pm_cl8 flX11_193 (by decide) rfl hr6 dX11_shorten_40 (fun hr7 => ?_)
      refine pm_iload_n (pc := 43) 1 dX11_shorten_43 rfl rfl ?_
      refine pm_iconst (pc := 44) (1 : Int32) (by decide) dX11_shorten_44 ?_
      refine pm_aload_n (pc := 45) 0 dX11_shorten_45 rfl rfl h0.pos ?_
      refine pm_getT (pc := 46) (k := 6) pm_cl11 flX11_37 (by decide) rfl h0 dX11_shorten_46 (fun hr8 => ?_)
      refine pm_getT (pc := 49) (k := 3) pm_cl8 flX11_193 (by decide) rfl hr8 dX11_shorten_49 (fun hr9 => ?_)
      refine pm_iload_n (pc := 52) 1 dX11_shorten_52 rfl rfl ?_
      obtain ⟨hb10, hf⟩ := pm_gd hf
      refine pm_iald (pc := 53) hr9 (pm_ib_in hb10) dX11_shorten_53 ?_
      refine pm_iload_n (pc := 54) 2 dX11_shorten_54 rfl rfl ?_
      refine pm_isub (pc := 55) dX11_shorten_55 ?_
      refine pm_mmax (pc := 56) (st := [.int a1, .ref (u5.2 (u5.2 a0 6) 3)]) mmX11_235 (Nat.le_of_ble_eq_true rfl) (by decide) rfl dX11_shorten_56 ?_
      obtain ⟨hb11, hf⟩ := pm_gd hf
      refine pm_iast (pc := 59) hr7 (pm_ib_in hb11) dX11_shorten_59 ?_
      obtain ⟨s12, es12, hf⟩ := pm_let_e hf
      refine pm_nmh es12 ?_
      refine pm_aload_n (pc := 60) 0 dX11_shorten_60 rfl rfl h0.pos ?_
      refine pm_getT (pc := 61) (k := 6) pm_cl11 flX11_37 (by decide) rfl h0 dX11_shorten_61 (fun hr13 => ?_)
      refine pm_getT (pc := 64) (k := 3) pm_cl8 flX11_193 (by decide) rfl hr13 dX11_shorten_64 (fun hr14 => ?_)
      refine pm_iload_n (pc := 67) 1 dX11_shorten_67 rfl rfl ?_
      obtain ⟨hb15, hf⟩ := pm_gd hf
      refine pm_iald (pc := 68) hr14 (pm_ib_in hb15) dX11_shorten_68 ?_
      exact pm_iret rfl dX11_shorten_69 (pm_ri_e hf)
def fX11_draw (S : pm_S) (a0 : Nat) (a1 : Int32) (σ : pm_H) : Option (Int32 × pm_H) :=
  pm_let (pm_si σ a0 12 ((((σ.1 a0 12).toInt64 * (1103515245 : Int64)) + (12345 : Int64)) &&& (2147483647 : Int64)).toInt32) fun s1 => (if (1 : Int32) ≤ a1 then if a1 = 0 then none else some ((pm_rem ((s1.1 a0 12) / (65536 : Int32)) a1), s1) else some ((0 : Int32), s1))
set_option maxRecDepth 100000 in
set_option maxHeartbeats 4000000 in
theorem KX11_draw (l : Launch) {S : pm_S} {p : Int32 × pm_H} {a0 : Nat} {a1 : Int32} {σ : pm_H} (h0 : pm_is S a0 14) (hf : fX11_draw S a0 a1 σ = some p) : pm_M l yX11_draw cX11_draw 2 (some .int) false 0 [.ref a0, .int a1] S σ (pm_ri S p) := by
  refine pm_M.of (by decide +kernel) (Nat.le_of_ble_eq_true rfl) ?_
  show pm_E l yX11_draw cX11_draw 2 (some .int) false 0 S (pm_ri S p) 0 [(0, .ref a0), (1, .int a1)] [] S σ
  rw [fX11_draw] at hf
  refine pm_aload_n (pc := 0) 0 dX11_draw_0 rfl rfl h0.pos ?_
  refine pm_aload_n (pc := 1) 0 dX11_draw_1 rfl rfl h0.pos ?_
  refine pm_getI (pc := 2) (k := 12) pm_cl11 flX11_325 (by decide) rfl h0 dX11_draw_2 ?_
  refine pm_i2l (pc := 5) dX11_draw_5 ?_
  refine pm_ldc2 (pc := 6) klX11_331 dX11_draw_6 ?_
  refine pm_lmul (pc := 9) dX11_draw_9 ?_
  refine pm_ldc2 (pc := 10) klX11_333 dX11_draw_10 ?_
  refine pm_ladd (pc := 13) dX11_draw_13 ?_
  refine pm_ldc2 (pc := 14) klX11_335 dX11_draw_14 ?_
  refine pm_land (pc := 17) dX11_draw_17 ?_
  refine pm_l2i (pc := 18) dX11_draw_18 ?_
  refine pm_putI (pc := 19) (k := 12) pm_cl11 flX11_325 (by decide) rfl rfl rfl h0 dX11_draw_19 ?_
  obtain ⟨s1, es1, hf⟩ := pm_let_e hf
  refine pm_nmh es1 ?_
  refine pm_iload_n (pc := 22) 1 dX11_draw_22 rfl rfl ?_
  refine pm_iconst (pc := 23) (1 : Int32) (by decide) dX11_draw_23 ?_
  refine pm_icmp_ge (pc := 24) 31 dX11_draw_24 (by decide) (fun hc3 => ?_) (fun hc3 => ?_)
  · rw [if_pos hc3] at hf
    refine pm_aload_n (pc := 31) 0 dX11_draw_31 rfl rfl h0.pos ?_
    refine pm_getI (pc := 32) (k := 12) pm_cl11 flX11_325 (by decide) rfl h0 dX11_draw_32 ?_
    refine pm_ldcw (pc := 35) kcX11_337 dX11_draw_35 ?_
    refine pm_idiv (pc := 38) (by decide) dX11_draw_38 ?_
    refine pm_iload_n (pc := 39) 1 dX11_draw_39 rfl rfl ?_
    obtain ⟨hz2, hf⟩ := pm_gz hf
    refine pm_irem (pc := 40) hz2 dX11_draw_40 ?_
    exact pm_iret rfl dX11_draw_41 (pm_ri_e hf)
  · rw [if_neg hc3] at hf
    refine pm_iconst (pc := 27) (0 : Int32) (by decide) dX11_draw_27 ?_
    refine pm_goto (pc := 28) 41 dX11_draw_28 (by decide) ?_
    exact pm_iret rfl dX11_draw_41 (pm_ri_e hf)
def fX11_bendByDraw (S : pm_S) (a0 : Nat) (σ : pm_H) : Option (pm_H) :=
  Option.bind (fX11_draw S a0 (21 : Int32) σ) fun u1 => pm_let (u1.1 - (10 : Int32)) fun x2 => (if (u1.2.1 (u1.2.2 (u1.2.2 a0 6) 0) 2) = 0 then pm_let (pm_si u1.2 (u1.2.2 (u1.2.2 a0 6) 0) 1 x2) fun s7 => some s7 else some u1.2)
set_option maxRecDepth 100000 in
set_option maxHeartbeats 4000000 in
theorem KX11_bendByDraw (l : Launch) {S : pm_S} {p : pm_H} {a0 : Nat} {σ : pm_H} (h0 : pm_is S a0 14) (hf : fX11_bendByDraw S a0 σ = some p) : pm_M l yX11_bendByDraw cX11_bendByDraw 2 none false 1 [.ref a0] S σ (pm_ru S p) := by
  refine pm_M.of (by decide +kernel) (Nat.le_of_ble_eq_true rfl) ?_
  show pm_E l yX11_bendByDraw cX11_bendByDraw 2 none false 1 S (pm_ru S p) 0 [(0, .ref a0)] [] S σ
  rw [fX11_bendByDraw] at hf
  refine pm_aload_n (pc := 0) 0 dX11_bendByDraw_0 rfl rfl h0.pos ?_
  refine pm_bipush (pc := 1) (21 : Int32) (by decide) dX11_bendByDraw_1 ?_
  obtain ⟨u1, hu1, hf⟩ := pm_bind_e hf
  refine pm_cVi (pc := 3) (as := [.int (21 : Int32)]) (st := []) mvX11_338 (KX11_draw l h0 hu1) (by decide) h0 rfl rfl (Nat.le_of_ble_eq_true rfl) rfl dX11_bendByDraw_3 ?_
  refine pm_bipush (pc := 6) (10 : Int32) (by decide) dX11_bendByDraw_6 ?_
  refine pm_isub (pc := 8) dX11_bendByDraw_8 ?_
  obtain ⟨x2, ex2, hf⟩ := pm_let_e hf
  refine pm_nmi ex2 ?_
  refine pm_istore_n (pc := 9) [(1, .int x2), (0, .ref a0)] dX11_bendByDraw_9 rfl (by decide) rfl ?_
  refine pm_aload_n (pc := 10) 1 dX11_bendByDraw_10 rfl rfl h0.pos ?_
  refine pm_getT (pc := 11) (k := 6) pm_cl11 flX11_37 (by decide) rfl h0 dX11_bendByDraw_11 (fun hr3 => ?_)
  refine pm_getT (pc := 14) (k := 0) pm_cl8 flX11_134 (by decide) rfl hr3 dX11_bendByDraw_14 (fun hr4 => ?_)
  refine pm_getI (pc := 17) (k := 2) pm_cl6 flX11_141 (by decide) rfl hr4 dX11_bendByDraw_17 ?_
  refine pm_if_ne (pc := 20) 34 dX11_bendByDraw_20 (by decide) (fun hc8 => ?_) (fun hc8 => ?_)
  · rw [if_pos hc8] at hf
    refine pm_aload_n (pc := 23) 1 dX11_bendByDraw_23 rfl rfl h0.pos ?_
    refine pm_getT (pc := 24) (k := 6) pm_cl11 flX11_37 (by decide) rfl h0 dX11_bendByDraw_24 (fun hr5 => ?_)
    refine pm_getT (pc := 27) (k := 0) pm_cl8 flX11_134 (by decide) rfl hr5 dX11_bendByDraw_27 (fun hr6 => ?_)
    refine pm_iload_n (pc := 30) 0 dX11_bendByDraw_30 rfl rfl ?_
    refine pm_putI (pc := 31) (k := 1) pm_cl6 flX11_169 (by decide) rfl rfl rfl hr6 dX11_bendByDraw_31 ?_
    obtain ⟨s7, es7, hf⟩ := pm_let_e hf
    refine pm_nmh es7 ?_
    exact pm_vret rfl dX11_bendByDraw_34 (pm_ru_e hf)
  · rw [if_neg hc8] at hf
    exact pm_vret rfl dX11_bendByDraw_34 (pm_ru_e hf)
def fX11_produceByDraw (S : pm_S) (a0 : Nat) (σ : pm_H) : Option (pm_H) :=
  Option.bind (fX11_draw S a0 (10 : Int32) σ) fun u1 => (if (u1.2.1 (u1.2.2 (u1.2.2 a0 6) 0) 2) = 0 then Option.bind (fX8_produce S (u1.2.2 a0 6) u1.1 (0 : Int32) u1.2) fun u5 => some u5.2 else some u1.2)
set_option maxRecDepth 100000 in
set_option maxHeartbeats 4000000 in
theorem KX11_produceByDraw (l : Launch) {S : pm_S} {p : pm_H} {a0 : Nat} {σ : pm_H} (h0 : pm_is S a0 14) (hf : fX11_produceByDraw S a0 σ = some p) : pm_M l yX11_produceByDraw cX11_produceByDraw 2 none false 4 [.ref a0] S σ (pm_ru S p) := by
  refine pm_M.of (by decide +kernel) (Nat.le_of_ble_eq_true rfl) ?_
  show pm_E l yX11_produceByDraw cX11_produceByDraw 2 none false 4 S (pm_ru S p) 0 [(0, .ref a0)] [] S σ
  rw [fX11_produceByDraw] at hf
  refine pm_aload_n (pc := 0) 0 dX11_produceByDraw_0 rfl rfl h0.pos ?_
  refine pm_bipush (pc := 1) (10 : Int32) (by decide) dX11_produceByDraw_1 ?_
  obtain ⟨u1, hu1, hf⟩ := pm_bind_e hf
  refine pm_cVi (pc := 3) (as := [.int (10 : Int32)]) (st := []) mvX11_338 (KX11_draw l h0 hu1) (by decide) h0 rfl rfl (Nat.le_of_ble_eq_true rfl) rfl dX11_produceByDraw_3 ?_
  refine pm_istore_n (pc := 6) [(1, .int u1.1), (0, .ref a0)] dX11_produceByDraw_6 rfl (by decide) rfl ?_
  refine pm_aload_n (pc := 7) 1 dX11_produceByDraw_7 rfl rfl h0.pos ?_
  refine pm_getT (pc := 8) (k := 6) pm_cl11 flX11_37 (by decide) rfl h0 dX11_produceByDraw_8 (fun hr2 => ?_)
  refine pm_getT (pc := 11) (k := 0) pm_cl8 flX11_134 (by decide) rfl hr2 dX11_produceByDraw_11 (fun hr3 => ?_)
  refine pm_getI (pc := 14) (k := 2) pm_cl6 flX11_141 (by decide) rfl hr3 dX11_produceByDraw_14 ?_
  refine pm_if_ne (pc := 17) 30 dX11_produceByDraw_17 (by decide) (fun hc6 => ?_) (fun hc6 => ?_)
  · rw [if_pos hc6] at hf
    refine pm_aload_n (pc := 20) 1 dX11_produceByDraw_20 rfl rfl h0.pos ?_
    refine pm_getT (pc := 21) (k := 6) pm_cl11 flX11_37 (by decide) rfl h0 dX11_produceByDraw_21 (fun hr4 => ?_)
    refine pm_iload_n (pc := 24) 0 dX11_produceByDraw_24 rfl rfl ?_
    refine pm_iconst (pc := 25) (0 : Int32) (by decide) dX11_produceByDraw_25 ?_
    obtain ⟨u5, hu5, hf⟩ := pm_bind_e hf
    refine pm_cVi (pc := 26) (as := [.int u1.1, .int (0 : Int32)]) (st := []) mvX11_228 (KX8_produce l hr4 hu5) (by decide) hr4 rfl rfl (Nat.le_of_ble_eq_true rfl) rfl dX11_produceByDraw_26 ?_
    refine pm_pop (pc := 29) rfl dX11_produceByDraw_29 ?_
    exact pm_vret rfl dX11_produceByDraw_30 (pm_ru_e hf)
  · rw [if_neg hc6] at hf
    exact pm_vret rfl dX11_produceByDraw_30 (pm_ru_e hf)
def fX11_meetChance (S : pm_S) (a0 : Nat) (σ : pm_H) : Option (pm_H) :=
  Option.bind (fX11_draw S a0 (8 : Int32) σ) fun u1 => (if u1.1 = (0 : Int32) then pm_let (pm_si u1.2 (u1.2.2 (u1.2.2 a0 6) 0) 2 (1 : Int32)) fun s4 => some s4 else (if u1.1 = (1 : Int32) then pm_let (pm_si u1.2 (u1.2.2 (u1.2.2 a0 6) 0) 2 (0 : Int32)) fun s8 => some s8 else (if u1.1 = (2 : Int32) then Option.bind (fX11_bendByDraw S a0 u1.2) fun u10 => some u10 else (if u1.1 = (3 : Int32) then Option.bind (fX11_produceByDraw S a0 u1.2) fun u12 => some u12 else some u1.2))))
set_option maxRecDepth 100000 in
set_option maxHeartbeats 4000000 in
theorem KX11_meetChance (l : Launch) {S : pm_S} {p : pm_H} {a0 : Nat} {σ : pm_H} (h0 : pm_is S a0 14) (hf : fX11_meetChance S a0 σ = some p) : pm_M l yX11_meetChance cX11_meetChance 1 none false 5 [.ref a0] S σ (pm_ru S p) := by
  refine pm_M.of (by decide +kernel) (Nat.le_of_ble_eq_true rfl) ?_
  show pm_E l yX11_meetChance cX11_meetChance 1 none false 5 S (pm_ru S p) 0 [(0, .ref a0)] [] S σ
  rw [fX11_meetChance] at hf
  refine pm_aload_n (pc := 0) 0 dX11_meetChance_0 rfl rfl h0.pos ?_
  refine pm_bipush (pc := 1) (8 : Int32) (by decide) dX11_meetChance_1 ?_
  obtain ⟨u1, hu1, hf⟩ := pm_bind_e hf
  refine pm_cVi (pc := 3) (as := [.int (8 : Int32)]) (st := []) mvX11_338 (KX11_draw l h0 hu1) (by decide) h0 rfl rfl (Nat.le_of_ble_eq_true rfl) rfl dX11_meetChance_3 ?_
  by_cases hc5 : u1.1 = (0 : Int32)
  · rw [if_pos hc5] at hf
    refine pm_tin (pc := 6) (off := 30) 36 hc5 dX11_meetChance_6 (by decide) (by decide) ?_
    refine pm_aload_n (pc := 36) 0 dX11_meetChance_36 rfl rfl h0.pos ?_
    refine pm_getT (pc := 37) (k := 6) pm_cl11 flX11_37 (by decide) rfl h0 dX11_meetChance_37 (fun hr2 => ?_)
    refine pm_getT (pc := 40) (k := 0) pm_cl8 flX11_134 (by decide) rfl hr2 dX11_meetChance_40 (fun hr3 => ?_)
    refine pm_iconst (pc := 43) (1 : Int32) (by decide) dX11_meetChance_43 ?_
    refine pm_putZ (pc := 44) (k := 2) pm_cl6 flX11_141 (by decide) rfl rfl rfl hr3 (by decide) dX11_meetChance_44 ?_
    obtain ⟨s4, es4, hf⟩ := pm_let_e hf
    refine pm_nmh es4 ?_
    refine pm_goto (pc := 47) 78 dX11_meetChance_47 (by decide) ?_
    exact pm_vret rfl dX11_meetChance_78 (pm_ru_e hf)
  · rw [if_neg hc5] at hf
    by_cases hc9 : u1.1 = (1 : Int32)
    · rw [if_pos hc9] at hf
      refine pm_tin (pc := 6) (off := 44) 50 hc9 dX11_meetChance_6 (by decide) (by decide) ?_
      refine pm_aload_n (pc := 50) 0 dX11_meetChance_50 rfl rfl h0.pos ?_
      refine pm_getT (pc := 51) (k := 6) pm_cl11 flX11_37 (by decide) rfl h0 dX11_meetChance_51 (fun hr6 => ?_)
      refine pm_getT (pc := 54) (k := 0) pm_cl8 flX11_134 (by decide) rfl hr6 dX11_meetChance_54 (fun hr7 => ?_)
      refine pm_iconst (pc := 57) (0 : Int32) (by decide) dX11_meetChance_57 ?_
      refine pm_putZ (pc := 58) (k := 2) pm_cl6 flX11_141 (by decide) rfl rfl rfl hr7 (by decide) dX11_meetChance_58 ?_
      obtain ⟨s8, es8, hf⟩ := pm_let_e hf
      refine pm_nmh es8 ?_
      refine pm_goto (pc := 61) 78 dX11_meetChance_61 (by decide) ?_
      exact pm_vret rfl dX11_meetChance_78 (pm_ru_e hf)
    · rw [if_neg hc9] at hf
      by_cases hc11 : u1.1 = (2 : Int32)
      · rw [if_pos hc11] at hf
        refine pm_tin (pc := 6) (off := 58) 64 hc11 dX11_meetChance_6 (by decide) (by decide) ?_
        refine pm_aload_n (pc := 64) 0 dX11_meetChance_64 rfl rfl h0.pos ?_
        obtain ⟨u10, hu10, hf⟩ := pm_bind_e hf
        refine pm_cVu (pc := 65) (as := []) (st := []) mvX11_341 (KX11_bendByDraw l h0 hu10) (by decide) h0 rfl rfl (Nat.le_of_ble_eq_true rfl) rfl dX11_meetChance_65 ?_
        refine pm_goto (pc := 68) 78 dX11_meetChance_68 (by decide) ?_
        exact pm_vret rfl dX11_meetChance_78 (pm_ru_e hf)
      · rw [if_neg hc11] at hf
        by_cases hc13 : u1.1 = (3 : Int32)
        · rw [if_pos hc13] at hf
          refine pm_tin (pc := 6) (off := 65) 71 hc13 dX11_meetChance_6 (by decide) (by decide) ?_
          refine pm_aload_n (pc := 71) 0 dX11_meetChance_71 rfl rfl h0.pos ?_
          obtain ⟨u12, hu12, hf⟩ := pm_bind_e hf
          refine pm_cVu (pc := 72) (as := []) (st := []) mvX11_344 (KX11_produceByDraw l h0 hu12) (by decide) h0 rfl rfl (Nat.le_of_ble_eq_true rfl) rfl dX11_meetChance_72 ?_
          refine pm_goto (pc := 75) 78 dX11_meetChance_75 (by decide) ?_
          exact pm_vret rfl dX11_meetChance_78 (pm_ru_e hf)
        · rw [if_neg hc13] at hf
          have q0 : ¬ (u1.1).toInt = 0 := lv_neT hc5 (by decide)
          have q1 : ¬ (u1.1).toInt = 1 := lv_neT hc9 (by decide)
          have q2 : ¬ (u1.1).toInt = 2 := lv_neT hc11 (by decide)
          have q3 : ¬ (u1.1).toInt = 3 := lv_neT hc13 (by decide)
          refine pm_tableOut (pc := 6) 78 dX11_meetChance_6 (by omega) (by decide) ?_
          exact pm_vret rfl dX11_meetChance_78 (pm_ru_e hf)
def fX11_drift_L25 (S : pm_S) (v0 : Nat) (v1 : Int32) (kx : pm_H → Option (Int32 × pm_H)) : Nat → Int32 → pm_H → Option (Int32 × pm_H)
  | 0, _, _ => none
  | n + 1, v3, σ => (if v1 ≤ v3 then kx σ else Option.bind (fX11_meetChance S v0 σ) fun u5 => Option.bind (fX6_passYear S (u5.2 (u5.2 v0 6) 0) (u5.2 v0 4) u5) fun u9 => fX11_drift_L25 S v0 v1 kx n (v3 + (1 : Int32)) u9)
set_option maxRecDepth 100000 in
set_option maxHeartbeats 4000000 in
theorem fX11_drift_L25_E (l : Launch) {S : pm_S} {p : Int32 × pm_H} {v0 : Nat} {v1 : Int32} {kx : pm_H → Option (Int32 × pm_H)} (h0 : pm_is S v0 14) (hkx : ∀  sw, kx  sw = some p → pm_E l yX11_drift cX11_drift 4 (some .int) false 6 S (pm_ri S p) 54 [(0, .ref v0)] [] S sw) : ∀ (n : Nat) (v3 : Int32) (σ : pm_H), fX11_drift_L25 S v0 v1 kx n v3 σ = some p → pm_E l yX11_drift cX11_drift 4 (some .int) false 6 S (pm_ri S p) 25 [(0, .ref v0), (1, .int v1), (3, .int v3)] [] S σ := by
  intro n
  induction n with
  | zero => intro v3 σ hf; cases hf
  | succ n ih =>
    intro v3 σ hf
    rw [fX11_drift_L25] at hf
    refine pm_iload_n (pc := 25) 2 dX11_drift_25 rfl rfl ?_
    refine pm_iload_n (pc := 26) 1 dX11_drift_26 rfl rfl ?_
    refine pm_icmp_ge (pc := 27) 54 dX11_drift_27 (by decide) (fun hc10 => ?_) (fun hc10 => ?_)
    · rw [if_pos hc10] at hf
      refine pm_lv [(0, .ref v0)] [0] rfl ?_
      exact hkx σ hf
    · rw [if_neg hc10] at hf
      refine pm_aload_n (pc := 30) 0 dX11_drift_30 rfl rfl h0.pos ?_
      obtain ⟨u5, hu5, hf⟩ := pm_bind_e hf
      refine pm_cVu (pc := 31) (as := []) (st := []) mvX11_244 (KX11_meetChance l h0 hu5) (by decide) h0 rfl rfl (Nat.le_of_ble_eq_true rfl) rfl dX11_drift_31 ?_
      refine pm_aload_n (pc := 34) 0 dX11_drift_34 rfl rfl h0.pos ?_
      refine pm_getT (pc := 35) (k := 6) pm_cl11 flX11_37 (by decide) rfl h0 dX11_drift_35 (fun hr6 => ?_)
      refine pm_getT (pc := 38) (k := 0) pm_cl8 flX11_134 (by decide) rfl hr6 dX11_drift_38 (fun hr7 => ?_)
      refine pm_aload_n (pc := 41) 0 dX11_drift_41 rfl rfl h0.pos ?_
      refine pm_getT (pc := 42) (k := 4) pm_cl11 flX11_27 (by decide) rfl h0 dX11_drift_42 (fun hr8 => ?_)
      obtain ⟨u9, hu9, hf⟩ := pm_bind_e hf
      refine pm_cVu (pc := 45) (as := [.ref (u5.2 v0 4)]) (st := []) mvX11_222 (KX6_passYear l hr7 hr8 hu9) (by decide) hr7 rfl rfl (Nat.le_of_ble_eq_true rfl) rfl dX11_drift_45 ?_
      refine pm_iinc (pc := 48) 2 (v3 + (1 : Int32)) [(3, .int (v3 + (1 : Int32))), (0, .ref v0), (1, .int v1)] dX11_drift_48 rfl rfl (by decide) rfl ?_
      refine pm_goto (pc := 51) 25 dX11_drift_51 (by decide) ?_
      refine pm_lv [(0, .ref v0), (1, .int v1), (3, .int (v3 + (1 : Int32)))] [1, 2, 0] rfl ?_
      exact ih (v3 + (1 : Int32)) u9 hf
def fX11_drift (S : pm_S) (a0 : Nat) (a1 : Int32) (σ : pm_H) : Option (Int32 × pm_H) :=
  Option.bind (fX11_refusalOfYears S a0 a1 σ) fun u1 => (if u1.1 = 0 then Option.bind (fX3_remember S (u1.2.2 a0 8) (u1.2.2 a0 6) u1.2) fun u4 => fX11_drift_L25 S a0 a1 (fun s11 => some ((s11.1 (s11.2 (s11.2 a0 6) 1) 4), s11)) pm_fuel (0 : Int32) u4 else some (u1.1, u1.2))
set_option maxRecDepth 100000 in
set_option maxHeartbeats 4000000 in
theorem KX11_drift (l : Launch) {S : pm_S} {p : Int32 × pm_H} {a0 : Nat} {a1 : Int32} {σ : pm_H} (h0 : pm_is S a0 14) (hf : fX11_drift S a0 a1 σ = some p) : pm_M l yX11_drift cX11_drift 4 (some .int) false 6 [.ref a0, .int a1] S σ (pm_ri S p) := by
  refine pm_M.of (by decide +kernel) (Nat.le_of_ble_eq_true rfl) ?_
  show pm_E l yX11_drift cX11_drift 4 (some .int) false 6 S (pm_ri S p) 0 [(0, .ref a0), (1, .int a1)] [] S σ
  rw [fX11_drift] at hf
  refine pm_aload_n (pc := 0) 0 dX11_drift_0 rfl rfl h0.pos ?_
  refine pm_iload_n (pc := 1) 1 dX11_drift_1 rfl rfl ?_
  obtain ⟨u1, hu1, hf⟩ := pm_bind_e hf
  refine pm_cVi (pc := 2) (as := [.int a1]) (st := []) mvX11_215 (KX11_refusalOfYears l h0 hu1) (by decide) h0 rfl rfl (Nat.le_of_ble_eq_true rfl) rfl dX11_drift_2 ?_
  refine pm_istore_n (pc := 5) [(2, .int u1.1), (0, .ref a0), (1, .int a1)] dX11_drift_5 rfl (by decide) rfl ?_
  refine pm_iload_n (pc := 6) 0 dX11_drift_6 rfl rfl ?_
  refine pm_if_eq (pc := 7) 12 dX11_drift_7 (by decide) (fun hc14 => ?_) (fun hc14 => ?_)
  · rw [if_pos hc14] at hf
    refine pm_aload_n (pc := 12) 1 dX11_drift_12 rfl rfl h0.pos ?_
    refine pm_getT (pc := 13) (k := 8) pm_cl11 flX11_51 (by decide) rfl h0 dX11_drift_13 (fun hr2 => ?_)
    refine pm_aload_n (pc := 16) 1 dX11_drift_16 rfl rfl h0.pos ?_
    refine pm_getT (pc := 17) (k := 6) pm_cl11 flX11_37 (by decide) rfl h0 dX11_drift_17 (fun hr3 => ?_)
    obtain ⟨u4, hu4, hf⟩ := pm_bind_e hf
    refine pm_cVu (pc := 20) (as := [.ref (u1.2.2 a0 6)]) (st := []) mvX11_218 (KX3_remember l hr2 hr3 hu4) (by decide) hr2 rfl rfl (Nat.le_of_ble_eq_true rfl) rfl dX11_drift_20 ?_
    refine pm_iconst (pc := 23) (0 : Int32) (by decide) dX11_drift_23 ?_
    refine pm_istore_n (pc := 24) [(3, .int (0 : Int32)), (2, .int u1.1), (0, .ref a0), (1, .int a1)] dX11_drift_24 rfl (by decide) rfl ?_
    refine pm_lv [(0, .ref a0), (1, .int a1), (3, .int (0 : Int32))] [2, 3, 0] rfl ?_
    refine fX11_drift_L25_E l h0 (fun s11 hf => ?_) pm_fuel (0 : Int32) u4 hf
    refine pm_aload_n (pc := 54) 0 dX11_drift_54 rfl rfl h0.pos ?_
    refine pm_getT (pc := 55) (k := 6) pm_cl11 flX11_37 (by decide) rfl h0 dX11_drift_55 (fun hr12 => ?_)
    refine pm_getT (pc := 58) (k := 1) pm_cl8 flX11_145 (by decide) rfl hr12 dX11_drift_58 (fun hr13 => ?_)
    refine pm_getI (pc := 61) (k := 4) pm_cl10 flX11_149 (by decide) rfl hr13 dX11_drift_61 ?_
    exact pm_iret rfl dX11_drift_64 (pm_ri_e hf)
  · rw [if_neg hc14] at hf
    refine pm_iload_n (pc := 10) 0 dX11_drift_10 rfl rfl ?_
    exact pm_iret rfl dX11_drift_11 (pm_ri_e hf)
def fX11_undo (S : pm_S) (a0 : Nat) (σ : pm_H) : Option (Int32 × pm_H) :=
  (if (1 : Int32) ≤ (σ.1 (σ.2 a0 8) 2) then Option.bind (fX3_bringBack S (σ.2 a0 8) (σ.2 a0 6) σ) fun u4 => some ((u4.1 (u4.2 a0 8) 2), u4) else some ((-1000000003 : Int32), σ))
set_option maxRecDepth 100000 in
set_option maxHeartbeats 4000000 in
theorem KX11_undo (l : Launch) {S : pm_S} {p : Int32 × pm_H} {a0 : Nat} {σ : pm_H} (h0 : pm_is S a0 14) (hf : fX11_undo S a0 σ = some p) : pm_M l yX11_undo cX11_undo 1 (some .int) false 4 [.ref a0] S σ (pm_ri S p) := by
  refine pm_M.of (by decide +kernel) (Nat.le_of_ble_eq_true rfl) ?_
  show pm_E l yX11_undo cX11_undo 1 (some .int) false 4 S (pm_ri S p) 0 [(0, .ref a0)] [] S σ
  rw [fX11_undo] at hf
  refine pm_aload_n (pc := 0) 0 dX11_undo_0 rfl rfl h0.pos ?_
  refine pm_getT (pc := 1) (k := 8) pm_cl11 flX11_51 (by decide) rfl h0 dX11_undo_1 (fun hr1 => ?_)
  refine pm_getI (pc := 4) (k := 2) pm_cl3 flX11_163 (by decide) rfl hr1 dX11_undo_4 ?_
  refine pm_iconst (pc := 7) (1 : Int32) (by decide) dX11_undo_7 ?_
  refine pm_icmp_ge (pc := 8) 14 dX11_undo_8 (by decide) (fun hc6 => ?_) (fun hc6 => ?_)
  · rw [if_pos hc6] at hf
    refine pm_aload_n (pc := 14) 0 dX11_undo_14 rfl rfl h0.pos ?_
    refine pm_getT (pc := 15) (k := 8) pm_cl11 flX11_51 (by decide) rfl h0 dX11_undo_15 (fun hr2 => ?_)
    refine pm_aload_n (pc := 18) 0 dX11_undo_18 rfl rfl h0.pos ?_
    refine pm_getT (pc := 19) (k := 6) pm_cl11 flX11_37 (by decide) rfl h0 dX11_undo_19 (fun hr3 => ?_)
    obtain ⟨u4, hu4, hf⟩ := pm_bind_e hf
    refine pm_cVu (pc := 22) (as := [.ref (σ.2 a0 6)]) (st := []) mvX11_247 (KX3_bringBack l hr2 hr3 hu4) (by decide) hr2 rfl rfl (Nat.le_of_ble_eq_true rfl) rfl dX11_undo_22 ?_
    refine pm_aload_n (pc := 25) 0 dX11_undo_25 rfl rfl h0.pos ?_
    refine pm_getT (pc := 26) (k := 8) pm_cl11 flX11_51 (by decide) rfl h0 dX11_undo_26 (fun hr5 => ?_)
    refine pm_getI (pc := 29) (k := 2) pm_cl3 flX11_163 (by decide) rfl hr5 dX11_undo_29 ?_
    exact pm_iret rfl dX11_undo_32 (pm_ri_e hf)
  · rw [if_neg hc6] at hf
    refine pm_ldc (pc := 11) kcX11_168 dX11_undo_11 ?_
    exact pm_iret rfl dX11_undo_13 (pm_ri_e hf)
def fX11_refusalOfTrial (S : pm_S) (a0 : Nat) (a1 : Int32) (a2 : Int32) (σ : pm_H) : Option (Int32 × pm_H) :=
  Option.bind (fX11_within S a1 (0 : Int32) (60 : Int32) σ) fun u1 => (if u1.1 = 0 then some ((-1000000002 : Int32), u1.2) else Option.bind (fX11_within S a2 (0 : Int32) (1 : Int32) u1.2) fun u2 => (if u2.1 = 0 then some ((-1000000002 : Int32), u2.2) else Option.bind (fX11_noRealm S a0 u2.2) fun u3 => (if u3.1 = 0 then some ((0 : Int32), u3.2) else some ((-1000000003 : Int32), u3.2))))
set_option maxRecDepth 100000 in
set_option maxHeartbeats 4000000 in
theorem KX11_refusalOfTrial (l : Launch) {S : pm_S} {p : Int32 × pm_H} {a0 : Nat} {a1 : Int32} {a2 : Int32} {σ : pm_H} (h0 : pm_is S a0 14) (hf : fX11_refusalOfTrial S a0 a1 a2 σ = some p) : pm_M l yX11_refusalOfTrial cX11_refusalOfTrial 3 (some .int) false 1 [.ref a0, .int a1, .int a2] S σ (pm_ri S p) := by
  refine pm_M.of (by decide +kernel) (Nat.le_of_ble_eq_true rfl) ?_
  show pm_E l yX11_refusalOfTrial cX11_refusalOfTrial 3 (some .int) false 1 S (pm_ri S p) 0 [(0, .ref a0), (1, .int a1), (2, .int a2)] [] S σ
  rw [fX11_refusalOfTrial] at hf
  refine pm_iload_n (pc := 0) 1 dX11_refusalOfTrial_0 rfl rfl ?_
  refine pm_iconst (pc := 1) (0 : Int32) (by decide) dX11_refusalOfTrial_1 ?_
  refine pm_bipush (pc := 2) (60 : Int32) (by decide) dX11_refusalOfTrial_2 ?_
  obtain ⟨u1, hu1, hf⟩ := pm_bind_e hf
  refine pm_cSi (pc := 4) (as := [.int a1, .int (0 : Int32), .int (60 : Int32)]) (st := []) msX11_94 (KX11_within l  hu1) (by decide) rfl rfl (Nat.le_of_ble_eq_true rfl) rfl dX11_refusalOfTrial_4 ?_
  refine pm_if_eq (pc := 7) 19 dX11_refusalOfTrial_7 (by decide) (fun hc6 => ?_) (fun hc6 => ?_)
  · rw [if_pos hc6] at hf
    refine pm_ldc (pc := 19) kcX11_98 dX11_refusalOfTrial_19 ?_
    exact pm_iret rfl dX11_refusalOfTrial_21 (pm_ri_e hf)
  · rw [if_neg hc6] at hf
    refine pm_iload_n (pc := 10) 2 dX11_refusalOfTrial_10 rfl rfl ?_
    refine pm_iconst (pc := 11) (0 : Int32) (by decide) dX11_refusalOfTrial_11 ?_
    refine pm_iconst (pc := 12) (1 : Int32) (by decide) dX11_refusalOfTrial_12 ?_
    obtain ⟨u2, hu2, hf⟩ := pm_bind_e hf
    refine pm_cSi (pc := 13) (as := [.int a2, .int (0 : Int32), .int (1 : Int32)]) (st := []) msX11_94 (KX11_within l  hu2) (by decide) rfl rfl (Nat.le_of_ble_eq_true rfl) rfl dX11_refusalOfTrial_13 ?_
    refine pm_if_ne (pc := 16) 22 dX11_refusalOfTrial_16 (by decide) (fun hc5 => ?_) (fun hc5 => ?_)
    · rw [if_pos hc5] at hf
      refine pm_ldc (pc := 19) kcX11_98 dX11_refusalOfTrial_19 ?_
      exact pm_iret rfl dX11_refusalOfTrial_21 (pm_ri_e hf)
    · rw [if_neg hc5] at hf
      refine pm_aload_n (pc := 22) 0 dX11_refusalOfTrial_22 rfl rfl h0.pos ?_
      obtain ⟨u3, hu3, hf⟩ := pm_bind_e hf
      refine pm_cVi (pc := 23) (as := []) (st := []) mvX11_164 (KX11_noRealm l h0 hu3) (by decide) h0 rfl rfl (Nat.le_of_ble_eq_true rfl) rfl dX11_refusalOfTrial_23 ?_
      refine pm_if_eq (pc := 26) 34 dX11_refusalOfTrial_26 (by decide) (fun hc4 => ?_) (fun hc4 => ?_)
      · rw [if_pos hc4] at hf
        refine pm_iconst (pc := 34) (0 : Int32) (by decide) dX11_refusalOfTrial_34 ?_
        exact pm_iret rfl dX11_refusalOfTrial_35 (pm_ri_e hf)
      · rw [if_neg hc4] at hf
        refine pm_ldc (pc := 29) kcX11_168 dX11_refusalOfTrial_29 ?_
        refine pm_goto (pc := 31) 35 dX11_refusalOfTrial_31 (by decide) ?_
        exact pm_iret rfl dX11_refusalOfTrial_35 (pm_ri_e hf)
def fX11_beginTrial (S : pm_S) (a0 : Nat) (σ : pm_H) : Option (pm_H) :=
  Option.bind (fX6_copyFrom S (σ.2 a0 7) (σ.2 (σ.2 a0 6) 0) σ) fun u4 => pm_let (pm_si u4 (u4.2 a0 7) 2 (0 : Int32)) fun s6 => some s6
set_option maxRecDepth 100000 in
set_option maxHeartbeats 4000000 in
theorem KX11_beginTrial (l : Launch) {S : pm_S} {p : pm_H} {a0 : Nat} {σ : pm_H} (h0 : pm_is S a0 14) (hf : fX11_beginTrial S a0 σ = some p) : pm_M l yX11_beginTrial cX11_beginTrial 1 none false 1 [.ref a0] S σ (pm_ru S p) := by
  refine pm_M.of (by decide +kernel) (Nat.le_of_ble_eq_true rfl) ?_
  show pm_E l yX11_beginTrial cX11_beginTrial 1 none false 1 S (pm_ru S p) 0 [(0, .ref a0)] [] S σ
  rw [fX11_beginTrial] at hf
  refine pm_aload_n (pc := 0) 0 dX11_beginTrial_0 rfl rfl h0.pos ?_
  refine pm_getT (pc := 1) (k := 7) pm_cl11 flX11_44 (by decide) rfl h0 dX11_beginTrial_1 (fun hr1 => ?_)
  refine pm_aload_n (pc := 4) 0 dX11_beginTrial_4 rfl rfl h0.pos ?_
  refine pm_getT (pc := 5) (k := 6) pm_cl11 flX11_37 (by decide) rfl h0 dX11_beginTrial_5 (fun hr2 => ?_)
  refine pm_getT (pc := 8) (k := 0) pm_cl8 flX11_134 (by decide) rfl hr2 dX11_beginTrial_8 (fun hr3 => ?_)
  obtain ⟨u4, hu4, hf⟩ := pm_bind_e hf
  refine pm_cVu (pc := 11) (as := [.ref (σ.2 (σ.2 a0 6) 0)]) (st := []) mvX11_347 (KX6_copyFrom l hr1 hr3 hu4) (by decide) hr1 rfl rfl (Nat.le_of_ble_eq_true rfl) rfl dX11_beginTrial_11 ?_
  refine pm_aload_n (pc := 14) 0 dX11_beginTrial_14 rfl rfl h0.pos ?_
  refine pm_getT (pc := 15) (k := 7) pm_cl11 flX11_44 (by decide) rfl h0 dX11_beginTrial_15 (fun hr5 => ?_)
  refine pm_iconst (pc := 18) (0 : Int32) (by decide) dX11_beginTrial_18 ?_
  refine pm_putZ (pc := 19) (k := 2) pm_cl6 flX11_141 (by decide) rfl rfl rfl hr5 (by decide) dX11_beginTrial_19 ?_
  obtain ⟨s6, es6, hf⟩ := pm_let_e hf
  refine pm_nmh es6 ?_
  exact pm_vret rfl dX11_beginTrial_22 (pm_ru_e hf)
def fX11_longAt_L20 (S : pm_S) (v0 : Nat) (v1 : Int32) (v2 : Int32) (kx : pm_H → Option (Int32 × pm_H)) : Nat → Int32 → pm_H → Option (Int32 × pm_H)
  | 0, _, _ => none
  | n + 1, v4, σ => (if v1 ≤ v4 then kx σ else Option.bind (fX6_passYear S (σ.2 v0 7) (σ.2 v0 4) σ) fun u5 => fX11_longAt_L20 S v0 v1 v2 kx n (v4 + (1 : Int32)) u5)
set_option maxRecDepth 100000 in
set_option maxHeartbeats 4000000 in
theorem fX11_longAt_L20_E (l : Launch) {S : pm_S} {p : Int32 × pm_H} {v0 : Nat} {v1 : Int32} {v2 : Int32} {kx : pm_H → Option (Int32 × pm_H)} (h0 : pm_is S v0 14) (hkx : ∀  sw, kx  sw = some p → pm_E l yX11_longAt cX11_longAt 5 (some .int) false 2 S (pm_ri S p) 43 [(0, .ref v0), (2, .int v2)] [] S sw) : ∀ (n : Nat) (v4 : Int32) (σ : pm_H), fX11_longAt_L20 S v0 v1 v2 kx n v4 σ = some p → pm_E l yX11_longAt cX11_longAt 5 (some .int) false 2 S (pm_ri S p) 20 [(0, .ref v0), (1, .int v1), (2, .int v2), (4, .int v4)] [] S σ := by
  intro n
  induction n with
  | zero => intro v4 σ hf; cases hf
  | succ n ih =>
    intro v4 σ hf
    rw [fX11_longAt_L20] at hf
    refine pm_iload (pc := 20) 3 dX11_longAt_20 rfl ?_
    refine pm_iload_n (pc := 22) 1 dX11_longAt_22 rfl rfl ?_
    refine pm_icmp_ge (pc := 23) 43 dX11_longAt_23 (by decide) (fun hc6 => ?_) (fun hc6 => ?_)
    · rw [if_pos hc6] at hf
      refine pm_lv [(0, .ref v0), (2, .int v2)] [0, 2] rfl ?_
      exact hkx σ hf
    · rw [if_neg hc6] at hf
      refine pm_aload_n (pc := 26) 0 dX11_longAt_26 rfl rfl h0.pos ?_
      refine pm_getT (pc := 27) (k := 7) pm_cl11 flX11_44 (by decide) rfl h0 dX11_longAt_27 (fun hr3 => ?_)
      refine pm_aload_n (pc := 30) 0 dX11_longAt_30 rfl rfl h0.pos ?_
      refine pm_getT (pc := 31) (k := 4) pm_cl11 flX11_27 (by decide) rfl h0 dX11_longAt_31 (fun hr4 => ?_)
      obtain ⟨u5, hu5, hf⟩ := pm_bind_e hf
      refine pm_cVu (pc := 34) (as := [.ref (σ.2 v0 4)]) (st := []) mvX11_222 (KX6_passYear l hr3 hr4 hu5) (by decide) hr3 rfl rfl (Nat.le_of_ble_eq_true rfl) rfl dX11_longAt_34 ?_
      refine pm_iinc (pc := 37) 3 (v4 + (1 : Int32)) [(4, .int (v4 + (1 : Int32))), (0, .ref v0), (1, .int v1), (2, .int v2)] dX11_longAt_37 rfl rfl (by decide) rfl ?_
      refine pm_goto (pc := 40) 20 dX11_longAt_40 (by decide) ?_
      refine pm_lv [(0, .ref v0), (1, .int v1), (2, .int v2), (4, .int (v4 + (1 : Int32)))] [1, 2, 3, 0] rfl ?_
      exact ih (v4 + (1 : Int32)) u5 hf
def fX11_longAt (S : pm_S) (a0 : Nat) (a1 : Int32) (a2 : Int32) (σ : pm_H) : Option (Int32 × pm_H) :=
  Option.bind (fX11_refusalOfTrial S a0 a1 a2 σ) fun u1 => (if u1.1 = 0 then Option.bind (fX11_beginTrial S a0 u1.2) fun u2 => fX11_longAt_L20 S a0 a1 a2 (fun s7 => (if a2 = 0 then some ((s7.1 (s7.2 a0 7) 0), s7) else some (((s7.1 (s7.2 a0 7) 1) + (1000 : Int32)), s7))) pm_fuel (0 : Int32) u2 else some (u1.1, u1.2))
set_option maxRecDepth 100000 in
set_option maxHeartbeats 4000000 in
theorem KX11_longAt (l : Launch) {S : pm_S} {p : Int32 × pm_H} {a0 : Nat} {a1 : Int32} {a2 : Int32} {σ : pm_H} (h0 : pm_is S a0 14) (hf : fX11_longAt S a0 a1 a2 σ = some p) : pm_M l yX11_longAt cX11_longAt 5 (some .int) false 2 [.ref a0, .int a1, .int a2] S σ (pm_ri S p) := by
  refine pm_M.of (by decide +kernel) (Nat.le_of_ble_eq_true rfl) ?_
  show pm_E l yX11_longAt cX11_longAt 5 (some .int) false 2 S (pm_ri S p) 0 [(0, .ref a0), (1, .int a1), (2, .int a2)] [] S σ
  rw [fX11_longAt] at hf
  refine pm_aload_n (pc := 0) 0 dX11_longAt_0 rfl rfl h0.pos ?_
  refine pm_iload_n (pc := 1) 1 dX11_longAt_1 rfl rfl ?_
  refine pm_iload_n (pc := 2) 2 dX11_longAt_2 rfl rfl ?_
  obtain ⟨u1, hu1, hf⟩ := pm_bind_e hf
  refine pm_cVi (pc := 3) (as := [.int a1, .int a2]) (st := []) mvX11_250 (KX11_refusalOfTrial l h0 hu1) (by decide) h0 rfl rfl (Nat.le_of_ble_eq_true rfl) rfl dX11_longAt_3 ?_
  refine pm_istore_n (pc := 6) [(3, .int u1.1), (0, .ref a0), (1, .int a1), (2, .int a2)] dX11_longAt_6 rfl (by decide) rfl ?_
  refine pm_iload_n (pc := 7) 0 dX11_longAt_7 rfl rfl ?_
  refine pm_if_eq (pc := 8) 13 dX11_longAt_8 (by decide) (fun hc11 => ?_) (fun hc11 => ?_)
  · rw [if_pos hc11] at hf
    refine pm_aload_n (pc := 13) 1 dX11_longAt_13 rfl rfl h0.pos ?_
    obtain ⟨u2, hu2, hf⟩ := pm_bind_e hf
    refine pm_cVu (pc := 14) (as := []) (st := []) mvX11_253 (KX11_beginTrial l h0 hu2) (by decide) h0 rfl rfl (Nat.le_of_ble_eq_true rfl) rfl dX11_longAt_14 ?_
    refine pm_iconst (pc := 17) (0 : Int32) (by decide) dX11_longAt_17 ?_
    refine pm_istore (pc := 18) [(4, .int (0 : Int32)), (3, .int u1.1), (0, .ref a0), (1, .int a1), (2, .int a2)] dX11_longAt_18 (by decide) rfl ?_
    refine pm_lv [(0, .ref a0), (1, .int a1), (2, .int a2), (4, .int (0 : Int32))] [2, 3, 4, 0] rfl ?_
    refine fX11_longAt_L20_E l h0 (fun s7 hf => ?_) pm_fuel (0 : Int32) u2 hf
    refine pm_iload_n (pc := 43) 1 dX11_longAt_43 rfl rfl ?_
    refine pm_if_ne (pc := 44) 57 dX11_longAt_44 (by decide) (fun hc10 => ?_) (fun hc10 => ?_)
    · rw [if_pos hc10] at hf
      refine pm_aload_n (pc := 47) 0 dX11_longAt_47 rfl rfl h0.pos ?_
      refine pm_getT (pc := 48) (k := 7) pm_cl11 flX11_44 (by decide) rfl h0 dX11_longAt_48 (fun hr9 => ?_)
      refine pm_getI (pc := 51) (k := 0) pm_cl6 flX11_140 (by decide) rfl hr9 dX11_longAt_51 ?_
      refine pm_goto (pc := 54) 68 dX11_longAt_54 (by decide) ?_
      exact pm_iret rfl dX11_longAt_68 (pm_ri_e hf)
    · rw [if_neg hc10] at hf
      refine pm_aload_n (pc := 57) 0 dX11_longAt_57 rfl rfl h0.pos ?_
      refine pm_getT (pc := 58) (k := 7) pm_cl11 flX11_44 (by decide) rfl h0 dX11_longAt_58 (fun hr8 => ?_)
      refine pm_getI (pc := 61) (k := 1) pm_cl6 flX11_169 (by decide) rfl hr8 dX11_longAt_61 ?_
      refine pm_sipush (pc := 64) (1000 : Int32) (by decide) dX11_longAt_64 ?_
      refine pm_iadd (pc := 67) dX11_longAt_67 ?_
      exact pm_iret rfl dX11_longAt_68 (pm_ri_e hf)
  · rw [if_neg hc11] at hf
    refine pm_iload_n (pc := 11) 0 dX11_longAt_11 rfl rfl ?_
    exact pm_iret rfl dX11_longAt_12 (pm_ri_e hf)
def fX11_firstShort_L30 (S : pm_S) (v0 : Nat) (v1 : Int32) (kx : pm_H → Option (Int32 × pm_H)) : Nat → Int32 → pm_H → Option (Int32 × pm_H)
  | 0, _, _ => none
  | n + 1, v2, σ => (if (200 : Int32) < v2 then kx σ else (if v1 ≤ (σ.1 (σ.2 v0 7) 0) then Option.bind (fX6_passYear S (σ.2 v0 7) (σ.2 v0 4) σ) fun u7 => fX11_firstShort_L30 S v0 v1 kx n (v2 + (1 : Int32)) u7 else some (v2, σ)))
set_option maxRecDepth 100000 in
set_option maxHeartbeats 4000000 in
theorem fX11_firstShort_L30_E (l : Launch) {S : pm_S} {p : Int32 × pm_H} {v0 : Nat} {v1 : Int32} {kx : pm_H → Option (Int32 × pm_H)} (h0 : pm_is S v0 14) (hkx : ∀  sw, kx  sw = some p → pm_E l yX11_firstShort cX11_firstShort 3 (some .int) false 2 S (pm_ri S p) 67 [] [] S sw) : ∀ (n : Nat) (v2 : Int32) (σ : pm_H), fX11_firstShort_L30 S v0 v1 kx n v2 σ = some p → pm_E l yX11_firstShort cX11_firstShort 3 (some .int) false 2 S (pm_ri S p) 30 [(0, .ref v0), (1, .int v1), (2, .int v2)] [] S σ := by
  intro n
  induction n with
  | zero => intro v2 σ hf; cases hf
  | succ n ih =>
    intro v2 σ hf
    rw [fX11_firstShort_L30] at hf
    refine pm_iload_n (pc := 30) 2 dX11_firstShort_30 rfl rfl ?_
    refine pm_sipush (pc := 31) (200 : Int32) (by decide) dX11_firstShort_31 ?_
    refine pm_icmp_gt (pc := 34) 67 dX11_firstShort_34 (by decide) (fun hc9 => ?_) (fun hc9 => ?_)
    · rw [if_pos hc9] at hf
      refine pm_lv [] [] rfl ?_
      exact hkx σ hf
    · rw [if_neg hc9] at hf
      refine pm_aload_n (pc := 37) 0 dX11_firstShort_37 rfl rfl h0.pos ?_
      refine pm_getT (pc := 38) (k := 7) pm_cl11 flX11_44 (by decide) rfl h0 dX11_firstShort_38 (fun hr4 => ?_)
      refine pm_getI (pc := 41) (k := 0) pm_cl6 flX11_140 (by decide) rfl hr4 dX11_firstShort_41 ?_
      refine pm_iload_n (pc := 44) 1 dX11_firstShort_44 rfl rfl ?_
      refine pm_icmp_ge (pc := 45) 50 dX11_firstShort_45 (by decide) (fun hc8 => ?_) (fun hc8 => ?_)
      · rw [if_pos hc8] at hf
        refine pm_aload_n (pc := 50) 0 dX11_firstShort_50 rfl rfl h0.pos ?_
        refine pm_getT (pc := 51) (k := 7) pm_cl11 flX11_44 (by decide) rfl h0 dX11_firstShort_51 (fun hr5 => ?_)
        refine pm_aload_n (pc := 54) 0 dX11_firstShort_54 rfl rfl h0.pos ?_
        refine pm_getT (pc := 55) (k := 4) pm_cl11 flX11_27 (by decide) rfl h0 dX11_firstShort_55 (fun hr6 => ?_)
        obtain ⟨u7, hu7, hf⟩ := pm_bind_e hf
        refine pm_cVu (pc := 58) (as := [.ref (σ.2 v0 4)]) (st := []) mvX11_222 (KX6_passYear l hr5 hr6 hu7) (by decide) hr5 rfl rfl (Nat.le_of_ble_eq_true rfl) rfl dX11_firstShort_58 ?_
        refine pm_iinc (pc := 61) 2 (v2 + (1 : Int32)) [(2, .int (v2 + (1 : Int32))), (0, .ref v0), (1, .int v1)] dX11_firstShort_61 rfl rfl (by decide) rfl ?_
        refine pm_goto (pc := 64) 30 dX11_firstShort_64 (by decide) ?_
        refine pm_lv [(0, .ref v0), (1, .int v1), (2, .int (v2 + (1 : Int32)))] [1, 2, 0] rfl ?_
        exact ih (v2 + (1 : Int32)) u7 hf
      · rw [if_neg hc8] at hf
        refine pm_iload_n (pc := 48) 2 dX11_firstShort_48 rfl rfl ?_
        exact pm_iret rfl dX11_firstShort_49 (pm_ri_e hf)
def fX11_firstShort (S : pm_S) (a0 : Nat) (a1 : Int32) (σ : pm_H) : Option (Int32 × pm_H) :=
  Option.bind (fX11_within S a1 (1 : Int32) (240 : Int32) σ) fun u1 => (if u1.1 = 0 then some ((-1000000002 : Int32), u1.2) else Option.bind (fX11_noRealm S a0 u1.2) fun u2 => (if u2.1 = 0 then Option.bind (fX11_beginTrial S a0 u2.2) fun u3 => fX11_firstShort_L30 S a0 a1 (fun s10 => some ((-1 : Int32), s10)) pm_fuel (0 : Int32) u3 else some ((-1000000003 : Int32), u2.2)))
set_option maxRecDepth 100000 in
set_option maxHeartbeats 4000000 in
theorem KX11_firstShort (l : Launch) {S : pm_S} {p : Int32 × pm_H} {a0 : Nat} {a1 : Int32} {σ : pm_H} (h0 : pm_is S a0 14) (hf : fX11_firstShort S a0 a1 σ = some p) : pm_M l yX11_firstShort cX11_firstShort 3 (some .int) false 2 [.ref a0, .int a1] S σ (pm_ri S p) := by
  refine pm_M.of (by decide +kernel) (Nat.le_of_ble_eq_true rfl) ?_
  show pm_E l yX11_firstShort cX11_firstShort 3 (some .int) false 2 S (pm_ri S p) 0 [(0, .ref a0), (1, .int a1)] [] S σ
  rw [fX11_firstShort] at hf
  refine pm_iload_n (pc := 0) 1 dX11_firstShort_0 rfl rfl ?_
  refine pm_iconst (pc := 1) (1 : Int32) (by decide) dX11_firstShort_1 ?_
  refine pm_sipush (pc := 2) (240 : Int32) (by decide) dX11_firstShort_2 ?_
  obtain ⟨u1, hu1, hf⟩ := pm_bind_e hf
  refine pm_cSi (pc := 5) (as := [.int a1, .int (1 : Int32), .int (240 : Int32)]) (st := []) msX11_94 (KX11_within l  hu1) (by decide) rfl rfl (Nat.le_of_ble_eq_true rfl) rfl dX11_firstShort_5 ?_
  refine pm_if_ne (pc := 8) 14 dX11_firstShort_8 (by decide) (fun hc12 => ?_) (fun hc12 => ?_)
  · rw [if_pos hc12] at hf
    refine pm_ldc (pc := 11) kcX11_98 dX11_firstShort_11 ?_
    exact pm_iret rfl dX11_firstShort_13 (pm_ri_e hf)
  · rw [if_neg hc12] at hf
    refine pm_aload_n (pc := 14) 0 dX11_firstShort_14 rfl rfl h0.pos ?_
    obtain ⟨u2, hu2, hf⟩ := pm_bind_e hf
    refine pm_cVi (pc := 15) (as := []) (st := []) mvX11_164 (KX11_noRealm l h0 hu2) (by decide) h0 rfl rfl (Nat.le_of_ble_eq_true rfl) rfl dX11_firstShort_15 ?_
    refine pm_if_eq (pc := 18) 24 dX11_firstShort_18 (by decide) (fun hc11 => ?_) (fun hc11 => ?_)
    · rw [if_pos hc11] at hf
      refine pm_aload_n (pc := 24) 0 dX11_firstShort_24 rfl rfl h0.pos ?_
      obtain ⟨u3, hu3, hf⟩ := pm_bind_e hf
      refine pm_cVu (pc := 25) (as := []) (st := []) mvX11_253 (KX11_beginTrial l h0 hu3) (by decide) h0 rfl rfl (Nat.le_of_ble_eq_true rfl) rfl dX11_firstShort_25 ?_
      refine pm_iconst (pc := 28) (0 : Int32) (by decide) dX11_firstShort_28 ?_
      refine pm_istore_n (pc := 29) [(2, .int (0 : Int32)), (0, .ref a0), (1, .int a1)] dX11_firstShort_29 rfl (by decide) rfl ?_
      refine pm_lv [(0, .ref a0), (1, .int a1), (2, .int (0 : Int32))] [1, 2, 0] rfl ?_
      refine fX11_firstShort_L30_E l h0 (fun s10 hf => ?_) pm_fuel (0 : Int32) u3 hf
      refine pm_iconst (pc := 67) (-1 : Int32) (by decide) dX11_firstShort_67 ?_
      exact pm_iret rfl dX11_firstShort_68 (pm_ri_e hf)
    · rw [if_neg hc11] at hf
      refine pm_ldc (pc := 21) kcX11_168 dX11_firstShort_21 ?_
      exact pm_iret rfl dX11_firstShort_23 (pm_ri_e hf)
def fX11_planeWhen_L32 (S : pm_S) (v0 : Nat) (v1 : Int32) (v2 : Int32) (kx : Int32 → Int32 → pm_H → Option (Int32 × pm_H)) : Nat → Int32 → Int32 → Int32 → pm_H → Option (Int32 × pm_H)
  | 0, _, _, _, _ => none
  | n + 1, v4, v5, v6, σ => (if v1 < v6 then kx v4 v5 σ else Option.bind (fX6_passYear S (σ.2 v0 7) (σ.2 v0 4) σ) fun u7 => Option.bind (fX6_lengthIfPlaned S (u7.2 v0 7) u7) fun u9 => (if u9.1 ≤ v5 then fX11_planeWhen_L32 S v0 v1 v2 kx n v4 v5 (v6 + (1 : Int32)) u9.2 else Option.bind (fX6_lengthIfPlaned S (u9.2.2 v0 7) u9.2) fun u11 => fX11_planeWhen_L32 S v0 v1 v2 kx n v6 u11.1 (v6 + (1 : Int32)) u11.2))
set_option maxRecDepth 100000 in
set_option maxHeartbeats 4000000 in
theorem fX11_planeWhen_L32_E (l : Launch) {S : pm_S} {p : Int32 × pm_H} {v0 : Nat} {v1 : Int32} {v2 : Int32} {kx : Int32 → Int32 → pm_H → Option (Int32 × pm_H)} (h0 : pm_is S v0 14) (hkx : ∀ w4 w5 sw, kx w4 w5 sw = some p → pm_E l yX11_planeWhen cX11_planeWhen 7 (some .int) false 2 S (pm_ri S p) 80 [(2, .int v2), (4, .int w4), (5, .int w5)] [] S sw) : ∀ (n : Nat) (v4 : Int32) (v5 : Int32) (v6 : Int32) (σ : pm_H), fX11_planeWhen_L32 S v0 v1 v2 kx n v4 v5 v6 σ = some p → pm_E l yX11_planeWhen cX11_planeWhen 7 (some .int) false 2 S (pm_ri S p) 32 [(0, .ref v0), (1, .int v1), (2, .int v2), (4, .int v4), (5, .int v5), (6, .int v6)] [] S σ := by
  intro n
  induction n with
  | zero => intro v4 v5 v6 σ hf; cases hf
  | succ n ih =>
    intro v4 v5 v6 σ hf
    rw [fX11_planeWhen_L32] at hf
    refine pm_iload (pc := 32) 5 dX11_planeWhen_32 rfl ?_
    refine pm_iload_n (pc := 34) 1 dX11_planeWhen_34 rfl rfl ?_
    refine pm_icmp_gt (pc := 35) 80 dX11_planeWhen_35 (by decide) (fun hc13 => ?_) (fun hc13 => ?_)
    · rw [if_pos hc13] at hf
      refine pm_lv [(2, .int v2), (4, .int v4), (5, .int v5)] [2, 3, 4] rfl ?_
      exact hkx v4 v5 σ hf
    · rw [if_neg hc13] at hf
      refine pm_aload_n (pc := 38) 0 dX11_planeWhen_38 rfl rfl h0.pos ?_
      refine pm_getT (pc := 39) (k := 7) pm_cl11 flX11_44 (by decide) rfl h0 dX11_planeWhen_39 (fun hr5 => ?_)
      refine pm_aload_n (pc := 42) 0 dX11_planeWhen_42 rfl rfl h0.pos ?_
      refine pm_getT (pc := 43) (k := 4) pm_cl11 flX11_27 (by decide) rfl h0 dX11_planeWhen_43 (fun hr6 => ?_)
      obtain ⟨u7, hu7, hf⟩ := pm_bind_e hf
      refine pm_cVu (pc := 46) (as := [.ref (σ.2 v0 4)]) (st := []) mvX11_222 (KX6_passYear l hr5 hr6 hu7) (by decide) hr5 rfl rfl (Nat.le_of_ble_eq_true rfl) rfl dX11_planeWhen_46 ?_
      refine pm_aload_n (pc := 49) 0 dX11_planeWhen_49 rfl rfl h0.pos ?_
      refine pm_getT (pc := 50) (k := 7) pm_cl11 flX11_44 (by decide) rfl h0 dX11_planeWhen_50 (fun hr8 => ?_)
      obtain ⟨u9, hu9, hf⟩ := pm_bind_e hf
      refine pm_cVi (pc := 53) (as := []) (st := []) mvX11_232 (KX6_lengthIfPlaned l hr8 hu9) (by decide) hr8 rfl rfl (Nat.le_of_ble_eq_true rfl) rfl dX11_planeWhen_53 ?_
      refine pm_iload (pc := 56) 4 dX11_planeWhen_56 rfl ?_
      refine pm_icmp_le (pc := 58) 74 dX11_planeWhen_58 (by decide) (fun hc12 => ?_) (fun hc12 => ?_)
      · rw [if_pos hc12] at hf
        refine pm_iinc (pc := 74) 5 (v6 + (1 : Int32)) [(6, .int (v6 + (1 : Int32))), (0, .ref v0), (1, .int v1), (2, .int v2), (4, .int v4), (5, .int v5)] dX11_planeWhen_74 rfl rfl (by decide) rfl ?_
        refine pm_goto (pc := 77) 32 dX11_planeWhen_77 (by decide) ?_
        refine pm_lv [(0, .ref v0), (1, .int v1), (2, .int v2), (4, .int v4), (5, .int v5), (6, .int (v6 + (1 : Int32)))] [1, 2, 3, 4, 5, 0] rfl ?_
        exact ih v4 v5 (v6 + (1 : Int32)) u9.2 hf
      · rw [if_neg hc12] at hf
        refine pm_iload (pc := 61) 5 dX11_planeWhen_61 rfl ?_
        refine pm_istore (pc := 63) [(4, .int v6), (0, .ref v0), (1, .int v1), (2, .int v2), (5, .int v5), (6, .int v6)] dX11_planeWhen_63 (by decide) rfl ?_
        refine pm_aload_n (pc := 65) 1 dX11_planeWhen_65 rfl rfl h0.pos ?_
        refine pm_getT (pc := 66) (k := 7) pm_cl11 flX11_44 (by decide) rfl h0 dX11_planeWhen_66 (fun hr10 => ?_)
        obtain ⟨u11, hu11, hf⟩ := pm_bind_e hf
        refine pm_cVi (pc := 69) (as := []) (st := []) mvX11_232 (KX6_lengthIfPlaned l hr10 hu11) (by decide) hr10 rfl rfl (Nat.le_of_ble_eq_true rfl) rfl dX11_planeWhen_69 ?_
        refine pm_istore (pc := 72) [(5, .int u11.1), (4, .int v6), (0, .ref v0), (1, .int v1), (2, .int v2), (6, .int v6)] dX11_planeWhen_72 (by decide) rfl ?_
        refine pm_iinc (pc := 74) 5 (v6 + (1 : Int32)) [(6, .int (v6 + (1 : Int32))), (5, .int u11.1), (4, .int v6), (0, .ref v0), (1, .int v1), (2, .int v2)] dX11_planeWhen_74 rfl rfl (by decide) rfl ?_
        refine pm_goto (pc := 77) 32 dX11_planeWhen_77 (by decide) ?_
        refine pm_lv [(0, .ref v0), (1, .int v1), (2, .int v2), (4, .int v6), (5, .int u11.1), (6, .int (v6 + (1 : Int32)))] [3, 4, 5, 2, 1, 0] rfl ?_
        exact ih v6 u11.1 (v6 + (1 : Int32)) u11.2 hf
def fX11_planeWhen (S : pm_S) (a0 : Nat) (a1 : Int32) (a2 : Int32) (σ : pm_H) : Option (Int32 × pm_H) :=
  Option.bind (fX11_refusalOfTrial S a0 a1 a2 σ) fun u1 => (if u1.1 = 0 then Option.bind (fX11_beginTrial S a0 u1.2) fun u2 => Option.bind (fX6_lengthIfPlaned S (u2.2 a0 7) u2) fun u4 => fX11_planeWhen_L32 S a0 a1 a2 (fun w14 w15 s16 => (if a2 = 0 then some (w14, s16) else some (w15, s16))) pm_fuel (0 : Int32) u4.1 (1 : Int32) u4.2 else some (u1.1, u1.2))
set_option maxRecDepth 100000 in
set_option maxHeartbeats 4000000 in
theorem KX11_planeWhen (l : Launch) {S : pm_S} {p : Int32 × pm_H} {a0 : Nat} {a1 : Int32} {a2 : Int32} {σ : pm_H} (h0 : pm_is S a0 14) (hf : fX11_planeWhen S a0 a1 a2 σ = some p) : pm_M l yX11_planeWhen cX11_planeWhen 7 (some .int) false 2 [.ref a0, .int a1, .int a2] S σ (pm_ri S p) := by
  refine pm_M.of (by decide +kernel) (Nat.le_of_ble_eq_true rfl) ?_
  show pm_E l yX11_planeWhen cX11_planeWhen 7 (some .int) false 2 S (pm_ri S p) 0 [(0, .ref a0), (1, .int a1), (2, .int a2)] [] S σ
  rw [fX11_planeWhen] at hf
  refine pm_aload_n (pc := 0) 0 dX11_planeWhen_0 rfl rfl h0.pos ?_
  refine pm_iload_n (pc := 1) 1 dX11_planeWhen_1 rfl rfl ?_
  refine pm_iload_n (pc := 2) 2 dX11_planeWhen_2 rfl rfl ?_
  obtain ⟨u1, hu1, hf⟩ := pm_bind_e hf
  refine pm_cVi (pc := 3) (as := [.int a1, .int a2]) (st := []) mvX11_250 (KX11_refusalOfTrial l h0 hu1) (by decide) h0 rfl rfl (Nat.le_of_ble_eq_true rfl) rfl dX11_planeWhen_3 ?_
  refine pm_istore_n (pc := 6) [(3, .int u1.1), (0, .ref a0), (1, .int a1), (2, .int a2)] dX11_planeWhen_6 rfl (by decide) rfl ?_
  refine pm_iload_n (pc := 7) 0 dX11_planeWhen_7 rfl rfl ?_
  refine pm_if_eq (pc := 8) 13 dX11_planeWhen_8 (by decide) (fun hc18 => ?_) (fun hc18 => ?_)
  · rw [if_pos hc18] at hf
    refine pm_aload_n (pc := 13) 1 dX11_planeWhen_13 rfl rfl h0.pos ?_
    obtain ⟨u2, hu2, hf⟩ := pm_bind_e hf
    refine pm_cVu (pc := 14) (as := []) (st := []) mvX11_253 (KX11_beginTrial l h0 hu2) (by decide) h0 rfl rfl (Nat.le_of_ble_eq_true rfl) rfl dX11_planeWhen_14 ?_
    refine pm_iconst (pc := 17) (0 : Int32) (by decide) dX11_planeWhen_17 ?_
    refine pm_istore (pc := 18) [(4, .int (0 : Int32)), (3, .int u1.1), (0, .ref a0), (1, .int a1), (2, .int a2)] dX11_planeWhen_18 (by decide) rfl ?_
    refine pm_aload_n (pc := 20) 2 dX11_planeWhen_20 rfl rfl h0.pos ?_
    refine pm_getT (pc := 21) (k := 7) pm_cl11 flX11_44 (by decide) rfl h0 dX11_planeWhen_21 (fun hr3 => ?_)
    obtain ⟨u4, hu4, hf⟩ := pm_bind_e hf
    refine pm_cVi (pc := 24) (as := []) (st := []) mvX11_232 (KX6_lengthIfPlaned l hr3 hu4) (by decide) hr3 rfl rfl (Nat.le_of_ble_eq_true rfl) rfl dX11_planeWhen_24 ?_
    refine pm_istore (pc := 27) [(5, .int u4.1), (4, .int (0 : Int32)), (3, .int u1.1), (0, .ref a0), (1, .int a1), (2, .int a2)] dX11_planeWhen_27 (by decide) rfl ?_
    refine pm_iconst (pc := 29) (1 : Int32) (by decide) dX11_planeWhen_29 ?_
    refine pm_istore (pc := 30) [(6, .int (1 : Int32)), (5, .int u4.1), (4, .int (0 : Int32)), (3, .int u1.1), (0, .ref a0), (1, .int a1), (2, .int a2)] dX11_planeWhen_30 (by decide) rfl ?_
    refine pm_lv [(0, .ref a0), (1, .int a1), (2, .int a2), (4, .int (0 : Int32)), (5, .int u4.1), (6, .int (1 : Int32))] [4, 5, 6, 2, 1, 0] rfl ?_
    refine fX11_planeWhen_L32_E l h0 (fun w14 w15 s16 hf => ?_) pm_fuel (0 : Int32) u4.1 (1 : Int32) u4.2 hf
    refine pm_iload_n (pc := 80) 0 dX11_planeWhen_80 rfl rfl ?_
    refine pm_if_ne (pc := 81) 89 dX11_planeWhen_81 (by decide) (fun hc17 => ?_) (fun hc17 => ?_)
    · rw [if_pos hc17] at hf
      refine pm_iload (pc := 84) 1 dX11_planeWhen_84 rfl ?_
      refine pm_goto (pc := 86) 91 dX11_planeWhen_86 (by decide) ?_
      exact pm_iret rfl dX11_planeWhen_91 (pm_ri_e hf)
    · rw [if_neg hc17] at hf
      refine pm_iload (pc := 89) 2 dX11_planeWhen_89 rfl ?_
      exact pm_iret rfl dX11_planeWhen_91 (pm_ri_e hf)
  · rw [if_neg hc18] at hf
    refine pm_iload_n (pc := 11) 0 dX11_planeWhen_11 rfl rfl ?_
    exact pm_iret rfl dX11_planeWhen_12 (pm_ri_e hf)
def fX11_had (S : pm_S) (a0 : Nat) (a1 : Int32) (σ : pm_H) : Option (Int32 × pm_H) :=
  Option.bind (fX11_within S a1 (0 : Int32) (999 : Int32) σ) fun u1 => (if u1.1 = 0 then some ((-1000000002 : Int32), u1.2) else Option.bind (fX11_noRealm S a0 u1.2) fun u2 => (if u2.1 = 0 then Option.bind (fX2_takeLengths S (u2.2.2 a0 13) (u2.2.2 a0 4) (u2.2.1 (u2.2.2 (u2.2.2 a0 6) 0) 0) u2.2) fun u7 => Option.bind (fX2_layOn S (u7.2 a0 13) (20 : Int32) u7) fun u9 => (if pm_ib a1 (pm_len S (u9.2 (u9.2 a0 13) 0)) = true then some ((u9.1 (u9.2 (u9.2 a0 13) 0) (a1).toNatClampNeg), u9) else none) else some ((-1000000003 : Int32), u2.2)))
set_option maxRecDepth 100000 in
set_option maxHeartbeats 4000000 in
theorem KX11_had (l : Launch) {S : pm_S} {p : Int32 × pm_H} {a0 : Nat} {a1 : Int32} {σ : pm_H} (h0 : pm_is S a0 14) (hf : fX11_had S a0 a1 σ = some p) : pm_M l yX11_had cX11_had 2 (some .int) false 4 [.ref a0, .int a1] S σ (pm_ri S p) := by
  refine pm_M.of (by decide +kernel) (Nat.le_of_ble_eq_true rfl) ?_
  show pm_E l yX11_had cX11_had 2 (some .int) false 4 S (pm_ri S p) 0 [(0, .ref a0), (1, .int a1)] [] S σ
  rw [fX11_had] at hf
  refine pm_iload_n (pc := 0) 1 dX11_had_0 rfl rfl ?_
  refine pm_iconst (pc := 1) (0 : Int32) (by decide) dX11_had_1 ?_
  refine pm_sipush (pc := 2) (999 : Int32) (by decide) dX11_had_2 ?_
  obtain ⟨u1, hu1, hf⟩ := pm_bind_e hf
  refine pm_cSi (pc := 5) (as := [.int a1, .int (0 : Int32), .int (999 : Int32)]) (st := []) msX11_94 (KX11_within l  hu1) (by decide) rfl rfl (Nat.le_of_ble_eq_true rfl) rfl dX11_had_5 ?_
  refine pm_if_ne (pc := 8) 14 dX11_had_8 (by decide) (fun hc14 => ?_) (fun hc14 => ?_)
  · rw [if_pos hc14] at hf
    refine pm_ldc (pc := 11) kcX11_98 dX11_had_11 ?_
    exact pm_iret rfl dX11_had_13 (pm_ri_e hf)
  · rw [if_neg hc14] at hf
    refine pm_aload_n (pc := 14) 0 dX11_had_14 rfl rfl h0.pos ?_
    obtain ⟨u2, hu2, hf⟩ := pm_bind_e hf
    refine pm_cVi (pc := 15) (as := []) (st := []) mvX11_164 (KX11_noRealm l h0 hu2) (by decide) h0 rfl rfl (Nat.le_of_ble_eq_true rfl) rfl dX11_had_15 ?_
    refine pm_if_eq (pc := 18) 24 dX11_had_18 (by decide) (fun hc13 => ?_) (fun hc13 => ?_)
    · rw [if_pos hc13] at hf
      refine pm_aload_n (pc := 24) 0 dX11_had_24 rfl rfl h0.pos ?_
      refine pm_getT (pc := 25) (k := 13) pm_cl11 flX11_69 (by decide) rfl h0 dX11_had_25 (fun hr3 => ?_)
      refine pm_aload_n (pc := 28) 0 dX11_had_28 rfl rfl h0.pos ?_
      refine pm_getT (pc := 29) (k := 4) pm_cl11 flX11_27 (by decide) rfl h0 dX11_had_29 (fun hr4 => ?_)
      refine pm_aload_n (pc := 32) 0 dX11_had_32 rfl rfl h0.pos ?_
      refine pm_getT (pc := 33) (k := 6) pm_cl11 flX11_37 (by decide) rfl h0 dX11_had_33 (fun hr5 => ?_)
      refine pm_getT (pc := 36) (k := 0) pm_cl8 flX11_134 (by decide) rfl hr5 dX11_had_36 (fun hr6 => ?_)
      refine pm_getI (pc := 39) (k := 0) pm_cl6 flX11_140 (by decide) rfl hr6 dX11_had_39 ?_
      obtain ⟨u7, hu7, hf⟩ := pm_bind_e hf
      refine pm_cVu (pc := 42) (as := [.ref (u2.2.2 a0 4), .int (u2.2.1 (u2.2.2 (u2.2.2 a0 6) 0) 0)]) (st := []) mvX11_256 (KX2_takeLengths l hr3 hr4 hu7) (by decide) hr3 rfl rfl (Nat.le_of_ble_eq_true rfl) rfl dX11_had_42 ?_
      refine pm_aload_n (pc := 45) 0 dX11_had_45 rfl rfl h0.pos ?_
      refine pm_getT (pc := 46) (k := 13) pm_cl11 flX11_69 (by decide) rfl h0 dX11_had_46 (fun hr8 => ?_)
      refine pm_bipush (pc := 49) (20 : Int32) (by decide) dX11_had_49 ?_
      obtain ⟨u9, hu9, hf⟩ := pm_bind_e hf
      refine pm_cVu (pc := 51) (as := [.int (20 : Int32)]) (st := []) mvX11_260 (KX2_layOn l hr8 hu9) (by decide) hr8 rfl rfl (Nat.le_of_ble_eq_true rfl) rfl dX11_had_51 ?_
      refine pm_aload_n (pc := 54) 0 dX11_had_54 rfl rfl h0.pos ?_
      refine pm_getT (pc := 55) (k := 13) pm_cl11 flX11_69 (by decide) rfl h0 dX11_had_55 (fun hr10 => ?_)
      refine pm_getT (pc := 58) (k := 0) pm_cl2 flX11_263 (by decide) rfl hr10 dX11_had_58 (fun hr11 => ?_)
      refine pm_iload_n (pc := 61) 1 dX11_had_61 rfl rfl ?_
      obtain ⟨hb12, hf⟩ := pm_gd hf
      refine pm_iald (pc := 62) hr11 (pm_ib_in hb12) dX11_had_62 ?_
      exact pm_iret rfl dX11_had_63 (pm_ri_e hf)
    · rw [if_neg hc13] at hf
      refine pm_ldc (pc := 21) kcX11_168 dX11_had_21 ?_
      exact pm_iret rfl dX11_had_23 (pm_ri_e hf)
def fX11_parts_L43 (S : pm_S) (v0 : Nat) (v1 : Int32) (kx : Int32 → pm_H → Option (Int32 × pm_H)) : Nat → Int32 → Int32 → pm_H → Option (Int32 × pm_H)
  | 0, _, _, _ => none
  | n + 1, v2, v3, σ => (if (σ.1 (σ.2 (σ.2 v0 6) 0) 0) < v3 then kx v2 σ else (if (999 : Int32) < v3 then kx v2 σ else (if pm_ib v3 (pm_len S (σ.2 (σ.2 v0 13) 0)) = true then (if (σ.1 (σ.2 (σ.2 v0 13) 0) (v3).toNatClampNeg) = (-1 : Int32) then fX11_parts_L43 S v0 v1 kx n v2 (v3 + (1 : Int32)) σ else (if v2 = v1 then some (v3, σ) else fX11_parts_L43 S v0 v1 kx n (v2 + (1 : Int32)) (v3 + (1 : Int32)) σ)) else none)))
set_option maxRecDepth 100000 in
set_option maxHeartbeats 4000000 in
theorem fX11_parts_L43_E (l : Launch) {S : pm_S} {p : Int32 × pm_H} {v0 : Nat} {v1 : Int32} {kx : Int32 → pm_H → Option (Int32 × pm_H)} (h0 : pm_is S v0 14) (hkx : ∀ w2 sw, kx w2 sw = some p → pm_E l yX11_parts cX11_parts 4 (some .int) false 4 S (pm_ri S p) 93 [(1, .int v1), (2, .int w2)] [] S sw) : ∀ (n : Nat) (v2 : Int32) (v3 : Int32) (σ : pm_H), fX11_parts_L43 S v0 v1 kx n v2 v3 σ = some p → pm_E l yX11_parts cX11_parts 4 (some .int) false 4 S (pm_ri S p) 43 [(0, .ref v0), (1, .int v1), (2, .int v2), (3, .int v3)] [] S σ := by
  intro n
  induction n with
  | zero => intro v2 v3 σ hf; cases hf
  | succ n ih =>
    intro v2 v3 σ hf
    rw [fX11_parts_L43] at hf
    refine pm_iload_n (pc := 43) 3 dX11_parts_43 rfl rfl ?_
    refine pm_aload_n (pc := 44) 0 dX11_parts_44 rfl rfl h0.pos ?_
    refine pm_getT (pc := 45) (k := 6) pm_cl11 flX11_37 (by decide) rfl h0 dX11_parts_45 (fun hr9 => ?_)
    refine pm_getT (pc := 48) (k := 0) pm_cl8 flX11_134 (by decide) rfl hr9 dX11_parts_48 (fun hr10 => ?_)
    refine pm_getI (pc := 51) (k := 0) pm_cl6 flX11_140 (by decide) rfl hr10 dX11_parts_51 ?_
    refine pm_icmp_gt (pc := 54) 93 dX11_parts_54 (by decide) (fun hc17 => ?_) (fun hc17 => ?_)
    · rw [if_pos hc17] at hf
      refine pm_lv [(1, .int v1), (2, .int v2)] [1, 2] rfl ?_
      exact hkx v2 σ hf
    · rw [if_neg hc17] at hf
      refine pm_iload_n (pc := 57) 3 dX11_parts_57 rfl rfl ?_
      refine pm_sipush (pc := 58) (999 : Int32) (by decide) dX11_parts_58 ?_
      refine pm_icmp_gt (pc := 61) 93 dX11_parts_61 (by decide) (fun hc16 => ?_) (fun hc16 => ?_)
      · rw [if_pos hc16] at hf
        refine pm_lv [(1, .int v1), (2, .int v2)] [1, 2] rfl ?_
        exact hkx v2 σ hf
      · rw [if_neg hc16] at hf
        refine pm_aload_n (pc := 64) 0 dX11_parts_64 rfl rfl h0.pos ?_
        refine pm_getT (pc := 65) (k := 13) pm_cl11 flX11_69 (by decide) rfl h0 dX11_parts_65 (fun hr11 => ?_)
        refine pm_getT (pc := 68) (k := 0) pm_cl2 flX11_263 (by decide) rfl hr11 dX11_parts_68 (fun hr12 => ?_)
        refine pm_iload_n (pc := 71) 3 dX11_parts_71 rfl rfl ?_
        obtain ⟨hb13, hf⟩ := pm_gd hf
        refine pm_iald (pc := 72) hr12 (pm_ib_in hb13) dX11_parts_72 ?_
        refine pm_iconst (pc := 73) (-1 : Int32) (by decide) dX11_parts_73 ?_
        refine pm_icmp_eq (pc := 74) 87 dX11_parts_74 (by decide) (fun hc15 => ?_) (fun hc15 => ?_)
        · rw [if_pos hc15] at hf
          refine pm_iinc (pc := 87) 3 (v3 + (1 : Int32)) [(3, .int (v3 + (1 : Int32))), (0, .ref v0), (1, .int v1), (2, .int v2)] dX11_parts_87 rfl rfl (by decide) rfl ?_
          refine pm_goto (pc := 90) 43 dX11_parts_90 (by decide) ?_
          refine pm_lv [(0, .ref v0), (1, .int v1), (2, .int v2), (3, .int (v3 + (1 : Int32)))] [1, 2, 3, 0] rfl ?_
          exact ih v2 (v3 + (1 : Int32)) σ hf
        · rw [if_neg hc15] at hf
          refine pm_iload_n (pc := 77) 2 dX11_parts_77 rfl rfl ?_
          refine pm_iload_n (pc := 78) 1 dX11_parts_78 rfl rfl ?_
          refine pm_icmp_ne (pc := 79) 84 dX11_parts_79 (by decide) (fun hc14 => ?_) (fun hc14 => ?_)
          · rw [if_pos hc14] at hf
            refine pm_iload_n (pc := 82) 3 dX11_parts_82 rfl rfl ?_
            exact pm_iret rfl dX11_parts_83 (pm_ri_e hf)
          · rw [if_neg hc14] at hf
            refine pm_iinc (pc := 84) 2 (v2 + (1 : Int32)) [(2, .int (v2 + (1 : Int32))), (0, .ref v0), (1, .int v1), (3, .int v3)] dX11_parts_84 rfl rfl (by decide) rfl ?_
            refine pm_iinc (pc := 87) 3 (v3 + (1 : Int32)) [(3, .int (v3 + (1 : Int32))), (2, .int (v2 + (1 : Int32))), (0, .ref v0), (1, .int v1)] dX11_parts_87 rfl rfl (by decide) rfl ?_
            refine pm_goto (pc := 90) 43 dX11_parts_90 (by decide) ?_
            refine pm_lv [(0, .ref v0), (1, .int v1), (2, .int (v2 + (1 : Int32))), (3, .int (v3 + (1 : Int32)))] [2, 3, 1, 0] rfl ?_
            exact ih (v2 + (1 : Int32)) (v3 + (1 : Int32)) σ hf
def fX11_parts (S : pm_S) (a0 : Nat) (a1 : Int32) (σ : pm_H) : Option (Int32 × pm_H) :=
  Option.bind (fX11_noRealm S a0 σ) fun u1 => (if u1.1 = 0 then Option.bind (fX2_takeLengths S (u1.2.2 a0 13) (u1.2.2 a0 4) (u1.2.1 (u1.2.2 (u1.2.2 a0 6) 0) 0) u1.2) fun u6 => Option.bind (fX2_layOn S (u6.2 a0 13) (2 : Int32) u6) fun u8 => fX11_parts_L43 S a0 a1 (fun w18 s19 => (if a1 = (-1 : Int32) then some (w18, s19) else some ((-1 : Int32), s19))) pm_fuel (0 : Int32) (1 : Int32) u8 else some ((-1000000003 : Int32), u1.2))
set_option maxRecDepth 100000 in
set_option maxHeartbeats 4000000 in
theorem KX11_parts (l : Launch) {S : pm_S} {p : Int32 × pm_H} {a0 : Nat} {a1 : Int32} {σ : pm_H} (h0 : pm_is S a0 14) (hf : fX11_parts S a0 a1 σ = some p) : pm_M l yX11_parts cX11_parts 4 (some .int) false 4 [.ref a0, .int a1] S σ (pm_ri S p) := by
  refine pm_M.of (by decide +kernel) (Nat.le_of_ble_eq_true rfl) ?_
  show pm_E l yX11_parts cX11_parts 4 (some .int) false 4 S (pm_ri S p) 0 [(0, .ref a0), (1, .int a1)] [] S σ
  rw [fX11_parts] at hf
  refine pm_aload_n (pc := 0) 0 dX11_parts_0 rfl rfl h0.pos ?_
  obtain ⟨u1, hu1, hf⟩ := pm_bind_e hf
  refine pm_cVi (pc := 1) (as := []) (st := []) mvX11_164 (KX11_noRealm l h0 hu1) (by decide) h0 rfl rfl (Nat.le_of_ble_eq_true rfl) rfl dX11_parts_1 ?_
  refine pm_if_eq (pc := 4) 10 dX11_parts_4 (by decide) (fun hc21 => ?_) (fun hc21 => ?_)
  · rw [if_pos hc21] at hf
    refine pm_aload_n (pc := 10) 0 dX11_parts_10 rfl rfl h0.pos ?_
    refine pm_getT (pc := 11) (k := 13) pm_cl11 flX11_69 (by decide) rfl h0 dX11_parts_11 (fun hr2 => ?_)
    refine pm_aload_n (pc := 14) 0 dX11_parts_14 rfl rfl h0.pos ?_
    refine pm_getT (pc := 15) (k := 4) pm_cl11 flX11_27 (by decide) rfl h0 dX11_parts_15 (fun hr3 => ?_)
    refine pm_aload_n (pc := 18) 0 dX11_parts_18 rfl rfl h0.pos ?_
    refine pm_getT (pc := 19) (k := 6) pm_cl11 flX11_37 (by decide) rfl h0 dX11_parts_19 (fun hr4 => ?_)
    refine pm_getT (pc := 22) (k := 0) pm_cl8 flX11_134 (by decide) rfl hr4 dX11_parts_22 (fun hr5 => ?_)
    refine pm_getI (pc := 25) (k := 0) pm_cl6 flX11_140 (by decide) rfl hr5 dX11_parts_25 ?_
    obtain ⟨u6, hu6, hf⟩ := pm_bind_e hf
    refine pm_cVu (pc := 28) (as := [.ref (u1.2.2 a0 4), .int (u1.2.1 (u1.2.2 (u1.2.2 a0 6) 0) 0)]) (st := []) mvX11_256 (KX2_takeLengths l hr2 hr3 hu6) (by decide) hr2 rfl rfl (Nat.le_of_ble_eq_true rfl) rfl dX11_parts_28 ?_
    refine pm_aload_n (pc := 31) 0 dX11_parts_31 rfl rfl h0.pos ?_
    refine pm_getT (pc := 32) (k := 13) pm_cl11 flX11_69 (by decide) rfl h0 dX11_parts_32 (fun hr7 => ?_)
    refine pm_iconst (pc := 35) (2 : Int32) (by decide) dX11_parts_35 ?_
    obtain ⟨u8, hu8, hf⟩ := pm_bind_e hf
    refine pm_cVu (pc := 36) (as := [.int (2 : Int32)]) (st := []) mvX11_260 (KX2_layOn l hr7 hu8) (by decide) hr7 rfl rfl (Nat.le_of_ble_eq_true rfl) rfl dX11_parts_36 ?_
    refine pm_iconst (pc := 39) (0 : Int32) (by decide) dX11_parts_39 ?_
    refine pm_istore_n (pc := 40) [(2, .int (0 : Int32)), (0, .ref a0), (1, .int a1)] dX11_parts_40 rfl (by decide) rfl ?_
    refine pm_iconst (pc := 41) (1 : Int32) (by decide) dX11_parts_41 ?_
    refine pm_istore_n (pc := 42) [(3, .int (1 : Int32)), (2, .int (0 : Int32)), (0, .ref a0), (1, .int a1)] dX11_parts_42 rfl (by decide) rfl ?_
    refine pm_lv [(0, .ref a0), (1, .int a1), (2, .int (0 : Int32)), (3, .int (1 : Int32))] [2, 3, 1, 0] rfl ?_
    refine fX11_parts_L43_E l h0 (fun w18 s19 hf => ?_) pm_fuel (0 : Int32) (1 : Int32) u8 hf
    refine pm_iload_n (pc := 93) 0 dX11_parts_93 rfl rfl ?_
    refine pm_iconst (pc := 94) (-1 : Int32) (by decide) dX11_parts_94 ?_
    refine pm_icmp_ne (pc := 95) 102 dX11_parts_95 (by decide) (fun hc20 => ?_) (fun hc20 => ?_)
    · rw [if_pos hc20] at hf
      refine pm_iload_n (pc := 98) 1 dX11_parts_98 rfl rfl ?_
      refine pm_goto (pc := 99) 103 dX11_parts_99 (by decide) ?_
      exact pm_iret rfl dX11_parts_103 (pm_ri_e hf)
    · rw [if_neg hc20] at hf
      refine pm_iconst (pc := 102) (-1 : Int32) (by decide) dX11_parts_102 ?_
      exact pm_iret rfl dX11_parts_103 (pm_ri_e hf)
  · rw [if_neg hc21] at hf
    refine pm_ldc (pc := 7) kcX11_168 dX11_parts_7 ?_
    exact pm_iret rfl dX11_parts_9 (pm_ri_e hf)
def fX11_fold (S : pm_S) (a0 : Nat) (a1 : Int32) (σ : pm_H) : Option (Int32 × pm_H) :=
  Option.bind (fX11_within S a1 (0 : Int32) (999 : Int32) σ) fun u1 => (if u1.1 = 0 then some ((-1000000002 : Int32), u1.2) else (if (pm_rem a1 (2 : Int32)) = 0 then some ((a1 / (2 : Int32)), u1.2) else some ((-1 : Int32), u1.2)))
set_option maxRecDepth 100000 in
set_option maxHeartbeats 4000000 in
theorem KX11_fold (l : Launch) {S : pm_S} {p : Int32 × pm_H} {a0 : Nat} {a1 : Int32} {σ : pm_H} (h0 : pm_is S a0 14) (hf : fX11_fold S a0 a1 σ = some p) : pm_M l yX11_fold cX11_fold 2 (some .int) false 1 [.ref a0, .int a1] S σ (pm_ri S p) := by
  refine pm_M.of (by decide +kernel) (Nat.le_of_ble_eq_true rfl) ?_
  show pm_E l yX11_fold cX11_fold 2 (some .int) false 1 S (pm_ri S p) 0 [(0, .ref a0), (1, .int a1)] [] S σ
  rw [fX11_fold] at hf
  refine pm_iload_n (pc := 0) 1 dX11_fold_0 rfl rfl ?_
  refine pm_iconst (pc := 1) (0 : Int32) (by decide) dX11_fold_1 ?_
  refine pm_sipush (pc := 2) (999 : Int32) (by decide) dX11_fold_2 ?_
  obtain ⟨u1, hu1, hf⟩ := pm_bind_e hf
  refine pm_cSi (pc := 5) (as := [.int a1, .int (0 : Int32), .int (999 : Int32)]) (st := []) msX11_94 (KX11_within l  hu1) (by decide) rfl rfl (Nat.le_of_ble_eq_true rfl) rfl dX11_fold_5 ?_
  refine pm_if_ne (pc := 8) 14 dX11_fold_8 (by decide) (fun hc3 => ?_) (fun hc3 => ?_)
  · rw [if_pos hc3] at hf
    refine pm_ldc (pc := 11) kcX11_98 dX11_fold_11 ?_
    exact pm_iret rfl dX11_fold_13 (pm_ri_e hf)
  · rw [if_neg hc3] at hf
    refine pm_iload_n (pc := 14) 1 dX11_fold_14 rfl rfl ?_
    refine pm_iconst (pc := 15) (2 : Int32) (by decide) dX11_fold_15 ?_
    refine pm_irem (pc := 16) (by decide) dX11_fold_16 ?_
    refine pm_if_ne (pc := 17) 26 dX11_fold_17 (by decide) (fun hc2 => ?_) (fun hc2 => ?_)
    · rw [if_pos hc2] at hf
      refine pm_iload_n (pc := 20) 1 dX11_fold_20 rfl rfl ?_
      refine pm_iconst (pc := 21) (2 : Int32) (by decide) dX11_fold_21 ?_
      refine pm_idiv (pc := 22) (by decide) dX11_fold_22 ?_
      refine pm_goto (pc := 23) 27 dX11_fold_23 (by decide) ?_
      exact pm_iret rfl dX11_fold_27 (pm_ri_e hf)
    · rw [if_neg hc2] at hf
      refine pm_iconst (pc := 26) (-1 : Int32) (by decide) dX11_fold_26 ?_
      exact pm_iret rfl dX11_fold_27 (pm_ri_e hf)
def fX11_posts_J16 (S : pm_S) (v0 : Nat) (v1 : Int32) (σ : pm_H) : Option (Int32 × pm_H) :=
  Option.bind (fX4_weigh S (σ.2 v0 14) (σ.2 v0 4) (σ.2 v0 6) σ) fun u4 => (if v1 = (-1 : Int32) then Option.bind (fX4_mostFrom S (u4.2 v0 14) (0 : Int32) (0 : Int32) u4) fun u8 => some (u8.1, u8.2) else Option.bind (fX4_holderOf S (u4.2 v0 14) v1 u4) fun u6 => some (u6.1, u6.2))
set_option maxRecDepth 100000 in
set_option maxHeartbeats 4000000 in
theorem fX11_posts_J16_E (l : Launch) {S : pm_S} {p : Int32 × pm_H} {v0 : Nat} {v1 : Int32} {σ : pm_H} (h0 : pm_is S v0 14) (hf : fX11_posts_J16 S v0 v1 σ = some p) : pm_E l yX11_posts cX11_posts 2 (some .int) false 4 S (pm_ri S p) 16 [(0, .ref v0), (1, .int v1)] [] S σ := by
  rw [fX11_posts_J16] at hf
  refine pm_aload_n (pc := 16) 0 dX11_posts_16 rfl rfl h0.pos ?_
  refine pm_getT (pc := 17) (k := 14) pm_cl11 flX11_76 (by decide) rfl h0 dX11_posts_17 (fun hr1 => ?_)
  refine pm_aload_n (pc := 20) 0 dX11_posts_20 rfl rfl h0.pos ?_
  refine pm_getT (pc := 21) (k := 4) pm_cl11 flX11_27 (by decide) rfl h0 dX11_posts_21 (fun hr2 => ?_)
  refine pm_aload_n (pc := 24) 0 dX11_posts_24 rfl rfl h0.pos ?_
  refine pm_getT (pc := 25) (k := 6) pm_cl11 flX11_37 (by decide) rfl h0 dX11_posts_25 (fun hr3 => ?_)
  obtain ⟨u4, hu4, hf⟩ := pm_bind_e hf
  refine pm_cVu (pc := 28) (as := [.ref (σ.2 v0 4), .ref (σ.2 v0 6)]) (st := []) mvX11_266 (KX4_weigh l hr1 hr2 hr3 hu4) (by decide) hr1 rfl rfl (Nat.le_of_ble_eq_true rfl) rfl dX11_posts_28 ?_
  refine pm_iload_n (pc := 31) 1 dX11_posts_31 rfl rfl ?_
  refine pm_iconst (pc := 32) (-1 : Int32) (by decide) dX11_posts_32 ?_
  refine pm_icmp_ne (pc := 33) 48 dX11_posts_33 (by decide) (fun hc9 => ?_) (fun hc9 => ?_)
  · rw [if_pos hc9] at hf
    refine pm_aload_n (pc := 36) 0 dX11_posts_36 rfl rfl h0.pos ?_
    refine pm_getT (pc := 37) (k := 14) pm_cl11 flX11_76 (by decide) rfl h0 dX11_posts_37 (fun hr7 => ?_)
    refine pm_iconst (pc := 40) (0 : Int32) (by decide) dX11_posts_40 ?_
    refine pm_iconst (pc := 41) (0 : Int32) (by decide) dX11_posts_41 ?_
    obtain ⟨u8, hu8, hf⟩ := pm_bind_e hf
    refine pm_cVi (pc := 42) (as := [.int (0 : Int32), .int (0 : Int32)]) (st := []) mvX11_270 (KX4_mostFrom l hr7 hu8) (by decide) hr7 rfl rfl (Nat.le_of_ble_eq_true rfl) rfl dX11_posts_42 ?_
    refine pm_goto (pc := 45) 56 dX11_posts_45 (by decide) ?_
    exact pm_iret rfl dX11_posts_56 (pm_ri_e hf)
  · rw [if_neg hc9] at hf
    refine pm_aload_n (pc := 48) 0 dX11_posts_48 rfl rfl h0.pos ?_
    refine pm_getT (pc := 49) (k := 14) pm_cl11 flX11_76 (by decide) rfl h0 dX11_posts_49 (fun hr5 => ?_)
    refine pm_iload_n (pc := 52) 1 dX11_posts_52 rfl rfl ?_
    obtain ⟨u6, hu6, hf⟩ := pm_bind_e hf
    refine pm_cVi (pc := 53) (as := [.int v1]) (st := []) mvX11_273 (KX4_holderOf l hr5 hu6) (by decide) hr5 rfl rfl (Nat.le_of_ble_eq_true rfl) rfl dX11_posts_53 ?_
    exact pm_iret rfl dX11_posts_56 (pm_ri_e hf)
def fX11_posts (S : pm_S) (a0 : Nat) (a1 : Int32) (σ : pm_H) : Option (Int32 × pm_H) :=
  (if a1 = (-1 : Int32) then fX11_posts_J16 S a0 a1 σ else Option.bind (fX11_isOffice S a0 a1 σ) fun u10 => (if u10.1 = 0 then some ((-1000000001 : Int32), u10.2) else fX11_posts_J16 S a0 a1 u10.2))
set_option maxRecDepth 100000 in
set_option maxHeartbeats 4000000 in
theorem KX11_posts (l : Launch) {S : pm_S} {p : Int32 × pm_H} {a0 : Nat} {a1 : Int32} {σ : pm_H} (h0 : pm_is S a0 14) (hf : fX11_posts S a0 a1 σ = some p) : pm_M l yX11_posts cX11_posts 2 (some .int) false 4 [.ref a0, .int a1] S σ (pm_ri S p) := by
  refine pm_M.of (by decide +kernel) (Nat.le_of_ble_eq_true rfl) ?_
  show pm_E l yX11_posts cX11_posts 2 (some .int) false 4 S (pm_ri S p) 0 [(0, .ref a0), (1, .int a1)] [] S σ
  rw [fX11_posts] at hf
  refine pm_iload_n (pc := 0) 1 dX11_posts_0 rfl rfl ?_
  refine pm_iconst (pc := 1) (-1 : Int32) (by decide) dX11_posts_1 ?_
  refine pm_icmp_eq (pc := 2) 16 dX11_posts_2 (by decide) (fun hc12 => ?_) (fun hc12 => ?_)
  · rw [if_pos hc12] at hf
    refine pm_lv [(0, .ref a0), (1, .int a1)] [0, 1] rfl ?_
    exact fX11_posts_J16_E l h0 hf
  · rw [if_neg hc12] at hf
    refine pm_aload_n (pc := 5) 0 dX11_posts_5 rfl rfl h0.pos ?_
    refine pm_iload_n (pc := 6) 1 dX11_posts_6 rfl rfl ?_
    obtain ⟨u10, hu10, hf⟩ := pm_bind_e hf
    refine pm_cVi (pc := 7) (as := [.int a1]) (st := []) mvX11_175 (KX11_isOffice l h0 hu10) (by decide) h0 rfl rfl (Nat.le_of_ble_eq_true rfl) rfl dX11_posts_7 ?_
    refine pm_if_ne (pc := 10) 16 dX11_posts_10 (by decide) (fun hc11 => ?_) (fun hc11 => ?_)
    · rw [if_pos hc11] at hf
      refine pm_ldc (pc := 13) kcX11_179 dX11_posts_13 ?_
      exact pm_iret rfl dX11_posts_15 (pm_ri_e hf)
    · rw [if_neg hc11] at hf
      refine pm_lv [(0, .ref a0), (1, .int a1)] [0, 1] rfl ?_
      exact fX11_posts_J16_E l h0 hf
def fX11_toShorten_L32 (S : pm_S) (v0 : Nat) (v2 : Int32) (v3 : Int32) (kx : pm_H → Option (Int32 × pm_H)) : Nat → Int32 → pm_H → Option (Int32 × pm_H)
  | 0, _, _ => none
  | n + 1, v4, σ => (if v3 ≤ v4 then kx σ else (if (999 : Int32) ≤ v4 then kx σ else Option.bind (fX6_tenthsOf S (σ.2 (σ.2 v0 6) 0) (v3 - v4) σ) fun u10 => Option.bind (fX9_asksFor S (σ.2 v0 4) v2 u10.1 u10.2) fun u11 => (if u11.1 = 0 then fX11_toShorten_L32 S v0 v2 v3 kx n (v4 + (1 : Int32)) u11.2 else some (v4, u11.2))))
set_option maxRecDepth 100000 in
set_option maxHeartbeats 4000000 in
theorem fX11_toShorten_L32_E (l : Launch) {S : pm_S} {p : Int32 × pm_H} {v0 : Nat} {v2 : Int32} {v3 : Int32} {kx : pm_H → Option (Int32 × pm_H)} (h0 : pm_is S v0 14) (hkx : ∀  sw, kx  sw = some p → pm_E l yX11_toShorten cX11_toShorten 5 (some .int) false 2 S (pm_ri S p) 80 [] [] S sw) : ∀ (n : Nat) (v4 : Int32) (σ : pm_H), fX11_toShorten_L32 S v0 v2 v3 kx n v4 σ = some p → pm_E l yX11_toShorten cX11_toShorten 5 (some .int) false 2 S (pm_ri S p) 32 [(0, .ref v0), (2, .int v2), (3, .int v3), (4, .int v4)] [] S σ := by
  intro n
  induction n with
  | zero => intro v4 σ hf; cases hf
  | succ n ih =>
    intro v4 σ hf
    rw [fX11_toShorten_L32] at hf
    refine pm_iload (pc := 32) 3 dX11_toShorten_32 rfl ?_
    refine pm_iload_n (pc := 34) 2 dX11_toShorten_34 rfl rfl ?_
    refine pm_icmp_ge (pc := 35) 80 dX11_toShorten_35 (by decide) (fun hc14 => ?_) (fun hc14 => ?_)
    · rw [if_pos hc14] at hf
      refine pm_lv [] [] rfl ?_
      exact hkx σ hf
    · rw [if_neg hc14] at hf
      refine pm_iload (pc := 38) 3 dX11_toShorten_38 rfl ?_
      refine pm_sipush (pc := 40) (999 : Int32) (by decide) dX11_toShorten_40 ?_
      refine pm_icmp_ge (pc := 43) 80 dX11_toShorten_43 (by decide) (fun hc13 => ?_) (fun hc13 => ?_)
      · rw [if_pos hc13] at hf
        refine pm_lv [] [] rfl ?_
        exact hkx σ hf
      · rw [if_neg hc13] at hf
        refine pm_aload_n (pc := 46) 0 dX11_toShorten_46 rfl rfl h0.pos ?_
        refine pm_getT (pc := 47) (k := 4) pm_cl11 flX11_27 (by decide) rfl h0 dX11_toShorten_47 (fun hr7 => ?_)
        refine pm_iload_n (pc := 50) 1 dX11_toShorten_50 rfl rfl ?_
        refine pm_aload_n (pc := 51) 0 dX11_toShorten_51 rfl rfl h0.pos ?_
        refine pm_getT (pc := 52) (k := 6) pm_cl11 flX11_37 (by decide) rfl h0 dX11_toShorten_52 (fun hr8 => ?_)
        refine pm_getT (pc := 55) (k := 0) pm_cl8 flX11_134 (by decide) rfl hr8 dX11_toShorten_55 (fun hr9 => ?_)
        refine pm_iload_n (pc := 58) 2 dX11_toShorten_58 rfl rfl ?_
        refine pm_iload (pc := 59) 3 dX11_toShorten_59 rfl ?_
        refine pm_isub (pc := 61) dX11_toShorten_61 ?_
        obtain ⟨u10, hu10, hf⟩ := pm_bind_e hf
        refine pm_cVi (pc := 62) (as := [.int (v3 - v4)]) (st := [.int v2, .ref (σ.2 v0 4)]) mvX11_196 (KX6_tenthsOf l hr9 hu10) (by decide) hr9 rfl rfl (Nat.le_of_ble_eq_true rfl) rfl dX11_toShorten_62 ?_
        obtain ⟨u11, hu11, hf⟩ := pm_bind_e hf
        refine pm_cVi (pc := 65) (as := [.int v2, .int u10.1]) (st := []) mvX11_276 (KX9_asksFor l hr7 hu11) (by decide) hr7 rfl rfl (Nat.le_of_ble_eq_true rfl) rfl dX11_toShorten_65 ?_
        refine pm_if_eq (pc := 68) 74 dX11_toShorten_68 (by decide) (fun hc12 => ?_) (fun hc12 => ?_)
        · rw [if_pos hc12] at hf
          refine pm_iinc (pc := 74) 3 (v4 + (1 : Int32)) [(4, .int (v4 + (1 : Int32))), (0, .ref v0), (2, .int v2), (3, .int v3)] dX11_toShorten_74 rfl rfl (by decide) rfl ?_
          refine pm_goto (pc := 77) 32 dX11_toShorten_77 (by decide) ?_
          refine pm_lv [(0, .ref v0), (2, .int v2), (3, .int v3), (4, .int (v4 + (1 : Int32)))] [1, 2, 3, 0] rfl ?_
          exact ih (v4 + (1 : Int32)) u11.2 hf
        · rw [if_neg hc12] at hf
          refine pm_iload (pc := 71) 3 dX11_toShorten_71 rfl ?_
          exact pm_iret rfl dX11_toShorten_73 (pm_ri_e hf)
def fX11_toShorten (S : pm_S) (a0 : Nat) (a1 : Int32) (a2 : Int32) (σ : pm_H) : Option (Int32 × pm_H) :=
  Option.bind (fX11_isPerson S a0 a1 σ) fun u1 => (if u1.1 = 0 then some ((-1000000001 : Int32), u1.2) else Option.bind (fX11_isOffice S a0 a2 u1.2) fun u2 => (if u2.1 = 0 then some ((-1000000001 : Int32), u2.2) else (if pm_ib a1 (pm_len S (u2.2.2 (u2.2.2 a0 6) 3)) = true then pm_let (u2.2.1 (u2.2.2 (u2.2.2 a0 6) 3) (a1).toNatClampNeg) fun x6 => fX11_toShorten_L32 S a0 a2 x6 (fun s15 => some ((-1 : Int32), s15)) pm_fuel (0 : Int32) u2.2 else none)))
set_option maxRecDepth 100000 in
set_option maxHeartbeats 4000000 in
theorem KX11_toShorten (l : Launch) {S : pm_S} {p : Int32 × pm_H} {a0 : Nat} {a1 : Int32} {a2 : Int32} {σ : pm_H} (h0 : pm_is S a0 14) (hf : fX11_toShorten S a0 a1 a2 σ = some p) : pm_M l yX11_toShorten cX11_toShorten 5 (some .int) false 2 [.ref a0, .int a1, .int a2] S σ (pm_ri S p) := by
  refine pm_M.of (by decide +kernel) (Nat.le_of_ble_eq_true rfl) ?_
  show pm_E l yX11_toShorten cX11_toShorten 5 (some .int) false 2 S (pm_ri S p) 0 [(0, .ref a0), (1, .int a1), (2, .int a2)] [] S σ
  rw [fX11_toShorten] at hf
  refine pm_aload_n (pc := 0) 0 dX11_toShorten_0 rfl rfl h0.pos ?_
  refine pm_iload_n (pc := 1) 1 dX11_toShorten_1 rfl rfl ?_
  obtain ⟨u1, hu1, hf⟩ := pm_bind_e hf
  refine pm_cVi (pc := 2) (as := [.int a1]) (st := []) mvX11_190 (KX11_isPerson l h0 hu1) (by decide) h0 rfl rfl (Nat.le_of_ble_eq_true rfl) rfl dX11_toShorten_2 ?_
  refine pm_if_eq (pc := 5) 16 dX11_toShorten_5 (by decide) (fun hc17 => ?_) (fun hc17 => ?_)
  · rw [if_pos hc17] at hf
    refine pm_ldc (pc := 16) kcX11_179 dX11_toShorten_16 ?_
    exact pm_iret rfl dX11_toShorten_18 (pm_ri_e hf)
  · rw [if_neg hc17] at hf
    refine pm_aload_n (pc := 8) 0 dX11_toShorten_8 rfl rfl h0.pos ?_
    refine pm_iload_n (pc := 9) 2 dX11_toShorten_9 rfl rfl ?_
    obtain ⟨u2, hu2, hf⟩ := pm_bind_e hf
    refine pm_cVi (pc := 10) (as := [.int a2]) (st := []) mvX11_175 (KX11_isOffice l h0 hu2) (by decide) h0 rfl rfl (Nat.le_of_ble_eq_true rfl) rfl dX11_toShorten_10 ?_
    refine pm_if_ne (pc := 13) 19 dX11_toShorten_13 (by decide) (fun hc16 => ?_) (fun hc16 => ?_)
    · rw [if_pos hc16] at hf
      refine pm_ldc (pc := 16) kcX11_179 dX11_toShorten_16 ?_
      exact pm_iret rfl dX11_toShorten_18 (pm_ri_e hf)
    · rw [if_neg hc16] at hf
      refine pm_aload_n (pc := 19) 0 dX11_toShorten_19 rfl rfl h0.pos ?_
      refine pm_getT (pc := 20) (k := 6) pm_cl11 flX11_37 (by decide) rfl h0 dX11_toShorten_20 (fun hr3 => ?_)
      refine pm_getT (pc := 23) (k := 3) pm_cl8 flX11_193 (by decide) rfl hr3 dX11_toShorten_23 (fun hr4 => ?_)
      refine pm_iload_n (pc := 26) 1 dX11_toShorten_26 rfl rfl ?_
      obtain ⟨hb5, hf⟩ := pm_gd hf
      refine pm_iald (pc := 27) hr4 (pm_ib_in hb5) dX11_toShorten_27 ?_
      obtain ⟨x6, ex6, hf⟩ := pm_let_e hf
      refine pm_nmi ex6 ?_
      refine pm_istore_n (pc := 28) [(3, .int x6), (0, .ref a0), (1, .int a1), (2, .int a2)] dX11_toShorten_28 rfl (by decide) rfl ?_
      refine pm_iconst (pc := 29) (0 : Int32) (by decide) dX11_toShorten_29 ?_
      refine pm_istore (pc := 30) [(4, .int (0 : Int32)), (3, .int x6), (0, .ref a0), (1, .int a1), (2, .int a2)] dX11_toShorten_30 (by decide) rfl ?_
      refine pm_lv [(0, .ref a0), (2, .int a2), (3, .int x6), (4, .int (0 : Int32))] [2, 4, 1, 0] rfl ?_
      refine fX11_toShorten_L32_E l h0 (fun s15 hf => ?_) pm_fuel (0 : Int32) u2.2 hf
      refine pm_iconst (pc := 80) (-1 : Int32) (by decide) dX11_toShorten_80 ?_
      exact pm_iret rfl dX11_toShorten_81 (pm_ri_e hf)
def fX11_wasWarped_L45 (S : pm_S) (v0 : Nat) (v1 : Int32) (v2 : Int32) (v3 : Int32) (kx : Int32 → Int32 → pm_H → Option (Int32 × pm_H)) : Nat → Int32 → Int32 → Int32 → pm_H → Option (Int32 × pm_H)
  | 0, _, _, _, _ => none
  | n + 1, v4, v5, v6, σ => (if (σ.1 (σ.2 (σ.2 v0 6) 1) 4) ≤ v6 then kx v4 v5 σ else (if pm_ib v6 (pm_len S (σ.2 (σ.2 (σ.2 v0 6) 1) 3)) = true then (if (σ.1 (σ.2 (σ.2 (σ.2 v0 6) 1) 3) (v6).toNatClampNeg) = v1 then Option.bind (fX10_bendIfLong S (σ.2 (σ.2 v0 6) 1) v6 v2 σ) fun u12 => pm_let (pm_max v4 u12.1) fun x13 => pm_let (pm_min v5 u12.1) fun x14 => fX11_wasWarped_L45 S v0 v1 v2 v3 kx n x13 x14 (v6 + (1 : Int32)) u12.2 else fX11_wasWarped_L45 S v0 v1 v2 v3 kx n v4 v5 (v6 + (1 : Int32)) σ) else none))
set_option maxRecDepth 100000 in
set_option maxHeartbeats 4000000 in
theorem fX11_wasWarped_L45_E (l : Launch) {S : pm_S} {p : Int32 × pm_H} {v0 : Nat} {v1 : Int32} {v2 : Int32} {v3 : Int32} {kx : Int32 → Int32 → pm_H → Option (Int32 × pm_H)} (h0 : pm_is S v0 14) (hkx : ∀ w4 w5 sw, kx w4 w5 sw = some p → pm_E l yX11_wasWarped cX11_wasWarped 8 (some .int) false 2 S (pm_ri S p) 116 [(3, .int v3), (4, .int w4), (5, .int w5)] [] S sw) : ∀ (n : Nat) (v4 : Int32) (v5 : Int32) (v6 : Int32) (σ : pm_H), fX11_wasWarped_L45 S v0 v1 v2 v3 kx n v4 v5 v6 σ = some p → pm_E l yX11_wasWarped cX11_wasWarped 8 (some .int) false 2 S (pm_ri S p) 45 [(0, .ref v0), (1, .int v1), (2, .int v2), (3, .int v3), (4, .int v4), (5, .int v5), (6, .int v6)] [] S σ := by
  intro n
  induction n with
  | zero => intro v4 v5 v6 σ hf; cases hf
  | succ n ih =>
    intro v4 v5 v6 σ hf
    rw [fX11_wasWarped_L45] at hf
    refine pm_iload (pc := 45) 6 dX11_wasWarped_45 rfl ?_
    refine pm_aload_n (pc := 47) 0 dX11_wasWarped_47 rfl rfl h0.pos ?_
    refine pm_getT (pc := 48) (k := 6) pm_cl11 flX11_37 (by decide) rfl h0 dX11_wasWarped_48 (fun hr4 => ?_)
    refine pm_getT (pc := 51) (k := 1) pm_cl8 flX11_145 (by decide) rfl hr4 dX11_wasWarped_51 (fun hr5 => ?_)
    refine pm_getI (pc := 54) (k := 4) pm_cl10 flX11_149 (by decide) rfl hr5 dX11_wasWarped_54 ?_
    refine pm_icmp_ge (pc := 57) 116 dX11_wasWarped_57 (by decide) (fun hc16 => ?_) (fun hc16 => ?_)
    · rw [if_pos hc16] at hf
      refine pm_lv [(3, .int v3), (4, .int v4), (5, .int v5)] [3, 4, 5] rfl ?_
      exact hkx v4 v5 σ hf
    · rw [if_neg hc16] at hf
      refine pm_aload_n (pc := 60) 0 dX11_wasWarped_60 rfl rfl h0.pos ?_
      refine pm_getT (pc := 61) (k := 6) pm_cl11 flX11_37 (by decide) rfl h0 dX11_wasWarped_61 (fun hr6 => ?_)
      refine pm_getT (pc := 64) (k := 1) pm_cl8 flX11_145 (by decide) rfl hr6 dX11_wasWarped_64 (fun hr7 => ?_)
      refine pm_getT (pc := 67) (k := 3) pm_cl10 flX11_209 (by decide) rfl hr7 dX11_wasWarped_67 (fun hr8 => ?_)
      refine pm_iload (pc := 70) 6 dX11_wasWarped_70 rfl ?_
      obtain ⟨hb9, hf⟩ := pm_gd hf
      refine pm_iald (pc := 72) hr8 (pm_ib_in hb9) dX11_wasWarped_72 ?_
      refine pm_iload_n (pc := 73) 1 dX11_wasWarped_73 rfl rfl ?_
      refine pm_icmp_ne (pc := 74) 110 dX11_wasWarped_74 (by decide) (fun hc15 => ?_) (fun hc15 => ?_)
      · rw [if_pos hc15] at hf
        refine pm_aload_n (pc := 77) 0 dX11_wasWarped_77 rfl rfl h0.pos ?_
        refine pm_getT (pc := 78) (k := 6) pm_cl11 flX11_37 (by decide) rfl h0 dX11_wasWarped_78 (fun hr10 => ?_)
        refine pm_getT (pc := 81) (k := 1) pm_cl8 flX11_145 (by decide) rfl hr10 dX11_wasWarped_81 (fun hr11 => ?_)
        refine pm_iload (pc := 84) 6 dX11_wasWarped_84 rfl ?_
        refine pm_iload_n (pc := 86) 2 dX11_wasWarped_86 rfl rfl ?_
        obtain ⟨u12, hu12, hf⟩ := pm_bind_e hf
        refine pm_cVi (pc := 87) (as := [.int v6, .int v2]) (st := []) mvX11_280 (KX10_bendIfLong l hr11 hu12) (by decide) hr11 rfl rfl (Nat.le_of_ble_eq_true rfl) rfl dX11_wasWarped_87 ?_
        refine pm_istore (pc := 90) [(7, .int u12.1), (0, .ref v0), (1, .int v1), (2, .int v2), (3, .int v3), (4, .int v4), (5, .int v5), (6, .int v6)] dX11_wasWarped_90 (by decide) rfl ?_
        refine pm_iload (pc := 92) 5 dX11_wasWarped_92 rfl ?_
        refine pm_iload (pc := 94) 0 dX11_wasWarped_94 rfl ?_
        refine pm_mmax (pc := 96) (st := []) mmX11_235 (Nat.le_of_ble_eq_true rfl) (by decide) rfl dX11_wasWarped_96 ?_
        obtain ⟨x13, ex13, hf⟩ := pm_let_e hf
        refine pm_nmi ex13 ?_
        refine pm_istore (pc := 99) [(4, .int x13), (7, .int u12.1), (0, .ref v0), (1, .int v1), (2, .int v2), (3, .int v3), (5, .int v5), (6, .int v6)] dX11_wasWarped_99 (by decide) rfl ?_
        refine pm_iload (pc := 101) 6 dX11_wasWarped_101 rfl ?_
        refine pm_iload (pc := 103) 1 dX11_wasWarped_103 rfl ?_
        refine pm_mmin (pc := 105) (st := []) mmX11_283 (Nat.le_of_ble_eq_true rfl) (by decide) rfl dX11_wasWarped_105 ?_
        obtain ⟨x14, ex14, hf⟩ := pm_let_e hf
        refine pm_nmi ex14 ?_
        refine pm_istore (pc := 108) [(5, .int x14), (4, .int x13), (7, .int u12.1), (0, .ref v0), (1, .int v1), (2, .int v2), (3, .int v3), (6, .int v6)] dX11_wasWarped_108 (by decide) rfl ?_
        refine pm_iinc (pc := 110) 7 (v6 + (1 : Int32)) [(6, .int (v6 + (1 : Int32))), (5, .int x14), (4, .int x13), (7, .int u12.1), (0, .ref v0), (1, .int v1), (2, .int v2), (3, .int v3)] dX11_wasWarped_110 rfl rfl (by decide) rfl ?_
        refine pm_goto (pc := 113) 45 dX11_wasWarped_113 (by decide) ?_
        refine pm_lv [(0, .ref v0), (1, .int v1), (2, .int v2), (3, .int v3), (4, .int x13), (5, .int x14), (6, .int (v6 + (1 : Int32)))] [4, 5, 6, 7, 2, 1, 0] rfl ?_
        exact ih x13 x14 (v6 + (1 : Int32)) u12.2 hf
      · rw [if_neg hc15] at hf
        refine pm_iinc (pc := 110) 6 (v6 + (1 : Int32)) [(6, .int (v6 + (1 : Int32))), (0, .ref v0), (1, .int v1), (2, .int v2), (3, .int v3), (4, .int v4), (5, .int v5)] dX11_wasWarped_110 rfl rfl (by decide) rfl ?_
        refine pm_goto (pc := 113) 45 dX11_wasWarped_113 (by decide) ?_
        refine pm_lv [(0, .ref v0), (1, .int v1), (2, .int v2), (3, .int v3), (4, .int v4), (5, .int v5), (6, .int (v6 + (1 : Int32)))] [1, 2, 3, 4, 5, 6, 0] rfl ?_
        exact ih v4 v5 (v6 + (1 : Int32)) σ hf
def fX11_wasWarped (S : pm_S) (a0 : Nat) (a1 : Int32) (a2 : Int32) (a3 : Int32) (σ : pm_H) : Option (Int32 × pm_H) :=
  Option.bind (fX11_within S a1 (0 : Int32) (9999 : Int32) σ) fun u1 => (if u1.1 = 0 then some ((-1000000002 : Int32), u1.2) else Option.bind (fX11_within S a2 (1 : Int32) (240 : Int32) u1.2) fun u2 => (if u2.1 = 0 then some ((-1000000002 : Int32), u2.2) else Option.bind (fX11_within S a3 (0 : Int32) (1 : Int32) u2.2) fun u3 => (if u3.1 = 0 then some ((-1000000002 : Int32), u3.2) else fX11_wasWarped_L45 S a0 a1 a2 a3 (fun w17 w18 s19 => (if a3 = 0 then some ((pm_max (0 : Int32) ((w18 - w17) + (1 : Int32))), s19) else (if w18 < w17 then some ((-1 : Int32), s19) else some ((w17 + (1000 : Int32)), s19)))) pm_fuel (-99 : Int32) (99 : Int32) (0 : Int32) u3.2)))
set_option maxRecDepth 100000 in
set_option maxHeartbeats 4000000 in
theorem KX11_wasWarped (l : Launch) {S : pm_S} {p : Int32 × pm_H} {a0 : Nat} {a1 : Int32} {a2 : Int32} {a3 : Int32} {σ : pm_H} (h0 : pm_is S a0 14) (hf : fX11_wasWarped S a0 a1 a2 a3 σ = some p) : pm_M l yX11_wasWarped cX11_wasWarped 8 (some .int) false 2 [.ref a0, .int a1, .int a2, .int a3] S σ (pm_ri S p) := by
  refine pm_M.of (by decide +kernel) (Nat.le_of_ble_eq_true rfl) ?_
  show pm_E l yX11_wasWarped cX11_wasWarped 8 (some .int) false 2 S (pm_ri S p) 0 [(0, .ref a0), (1, .int a1), (2, .int a2), (3, .int a3)] [] S σ
  rw [fX11_wasWarped] at hf
  refine pm_iload_n (pc := 0) 1 dX11_wasWarped_0 rfl rfl ?_
  refine pm_iconst (pc := 1) (0 : Int32) (by decide) dX11_wasWarped_1 ?_
  refine pm_sipush (pc := 2) (9999 : Int32) (by decide) dX11_wasWarped_2 ?_
  obtain ⟨u1, hu1, hf⟩ := pm_bind_e hf
  refine pm_cSi (pc := 5) (as := [.int a1, .int (0 : Int32), .int (9999 : Int32)]) (st := []) msX11_94 (KX11_within l  hu1) (by decide) rfl rfl (Nat.le_of_ble_eq_true rfl) rfl dX11_wasWarped_5 ?_
  refine pm_if_eq (pc := 8) 31 dX11_wasWarped_8 (by decide) (fun hc24 => ?_) (fun hc24 => ?_)
  · rw [if_pos hc24] at hf
    refine pm_ldc (pc := 31) kcX11_98 dX11_wasWarped_31 ?_
    exact pm_iret rfl dX11_wasWarped_33 (pm_ri_e hf)
  · rw [if_neg hc24] at hf
    refine pm_iload_n (pc := 11) 2 dX11_wasWarped_11 rfl rfl ?_
    refine pm_iconst (pc := 12) (1 : Int32) (by decide) dX11_wasWarped_12 ?_
    refine pm_sipush (pc := 13) (240 : Int32) (by decide) dX11_wasWarped_13 ?_
    obtain ⟨u2, hu2, hf⟩ := pm_bind_e hf
    refine pm_cSi (pc := 16) (as := [.int a2, .int (1 : Int32), .int (240 : Int32)]) (st := []) msX11_94 (KX11_within l  hu2) (by decide) rfl rfl (Nat.le_of_ble_eq_true rfl) rfl dX11_wasWarped_16 ?_
    refine pm_if_eq (pc := 19) 31 dX11_wasWarped_19 (by decide) (fun hc23 => ?_) (fun hc23 => ?_)
    · rw [if_pos hc23] at hf
      refine pm_ldc (pc := 31) kcX11_98 dX11_wasWarped_31 ?_
      exact pm_iret rfl dX11_wasWarped_33 (pm_ri_e hf)
    · rw [if_neg hc23] at hf
      refine pm_iload_n (pc := 22) 3 dX11_wasWarped_22 rfl rfl ?_
      refine pm_iconst (pc := 23) (0 : Int32) (by decide) dX11_wasWarped_23 ?_
      refine pm_iconst (pc := 24) (1 : Int32) (by decide) dX11_wasWarped_24 ?_
      obtain ⟨u3, hu3, hf⟩ := pm_bind_e hf
      refine pm_cSi (pc := 25) (as := [.int a3, .int (0 : Int32), .int (1 : Int32)]) (st := []) msX11_94 (KX11_within l  hu3) (by decide) rfl rfl (Nat.le_of_ble_eq_true rfl) rfl dX11_wasWarped_25 ?_
      refine pm_if_ne (pc := 28) 34 dX11_wasWarped_28 (by decide) (fun hc22 => ?_) (fun hc22 => ?_)
      · rw [if_pos hc22] at hf
        refine pm_ldc (pc := 31) kcX11_98 dX11_wasWarped_31 ?_
        exact pm_iret rfl dX11_wasWarped_33 (pm_ri_e hf)
      · rw [if_neg hc22] at hf
        refine pm_bipush (pc := 34) (-99 : Int32) (by decide) dX11_wasWarped_34 ?_
        refine pm_istore (pc := 36) [(4, .int (-99 : Int32)), (0, .ref a0), (1, .int a1), (2, .int a2), (3, .int a3)] dX11_wasWarped_36 (by decide) rfl ?_
        refine pm_bipush (pc := 38) (99 : Int32) (by decide) dX11_wasWarped_38 ?_
        refine pm_istore (pc := 40) [(5, .int (99 : Int32)), (4, .int (-99 : Int32)), (0, .ref a0), (1, .int a1), (2, .int a2), (3, .int a3)] dX11_wasWarped_40 (by decide) rfl ?_
        refine pm_iconst (pc := 42) (0 : Int32) (by decide) dX11_wasWarped_42 ?_
        refine pm_istore (pc := 43) [(6, .int (0 : Int32)), (5, .int (99 : Int32)), (4, .int (-99 : Int32)), (0, .ref a0), (1, .int a1), (2, .int a2), (3, .int a3)] dX11_wasWarped_43 (by decide) rfl ?_
        refine pm_lv [(0, .ref a0), (1, .int a1), (2, .int a2), (3, .int a3), (4, .int (-99 : Int32)), (5, .int (99 : Int32)), (6, .int (0 : Int32))] [3, 4, 5, 6, 2, 1, 0] rfl ?_
        refine fX11_wasWarped_L45_E l h0 (fun w17 w18 s19 hf => ?_) pm_fuel (-99 : Int32) (99 : Int32) (0 : Int32) u3.2 hf
        refine pm_iload_n (pc := 116) 0 dX11_wasWarped_116 rfl rfl ?_
        refine pm_if_ne (pc := 117) 132 dX11_wasWarped_117 (by decide) (fun hc21 => ?_) (fun hc21 => ?_)
        · rw [if_pos hc21] at hf
          refine pm_iconst (pc := 120) (0 : Int32) (by decide) dX11_wasWarped_120 ?_
          refine pm_iload (pc := 121) 2 dX11_wasWarped_121 rfl ?_
          refine pm_iload (pc := 123) 1 dX11_wasWarped_123 rfl ?_
          refine pm_isub (pc := 125) dX11_wasWarped_125 ?_
          refine pm_iconst (pc := 126) (1 : Int32) (by decide) dX11_wasWarped_126 ?_
          refine pm_iadd (pc := 127) dX11_wasWarped_127 ?_
          refine pm_mmax (pc := 128) (st := []) mmX11_235 (Nat.le_of_ble_eq_true rfl) (by decide) rfl dX11_wasWarped_128 ?_
          exact pm_iret rfl dX11_wasWarped_131 (pm_ri_e hf)
        · rw [if_neg hc21] at hf
          refine pm_iload (pc := 132) 1 dX11_wasWarped_132 rfl ?_
          refine pm_iload (pc := 134) 2 dX11_wasWarped_134 rfl ?_
          refine pm_icmp_gt (pc := 136) 148 dX11_wasWarped_136 (by decide) (fun hc20 => ?_) (fun hc20 => ?_)
          · rw [if_pos hc20] at hf
            refine pm_iconst (pc := 148) (-1 : Int32) (by decide) dX11_wasWarped_148 ?_
            exact pm_iret rfl dX11_wasWarped_149 (pm_ri_e hf)
          · rw [if_neg hc20] at hf
            refine pm_iload (pc := 139) 1 dX11_wasWarped_139 rfl ?_
            refine pm_sipush (pc := 141) (1000 : Int32) (by decide) dX11_wasWarped_141 ?_
            refine pm_iadd (pc := 144) dX11_wasWarped_144 ?_
            refine pm_goto (pc := 145) 149 dX11_wasWarped_145 (by decide) ?_
            exact pm_iret rfl dX11_wasWarped_149 (pm_ri_e hf)
def fX11_alike (S : pm_S) (a0 : Nat) (a1 : Int32) (σ : pm_H) : Option (Int32 × pm_H) :=
  Option.bind (fX10_pairOfLike S (σ.2 (σ.2 a0 6) 1) a1 σ) fun u3 => some (u3.1, u3.2)
set_option maxRecDepth 100000 in
set_option maxHeartbeats 4000000 in
theorem KX11_alike (l : Launch) {S : pm_S} {p : Int32 × pm_H} {a0 : Nat} {a1 : Int32} {σ : pm_H} (h0 : pm_is S a0 14) (hf : fX11_alike S a0 a1 σ = some p) : pm_M l yX11_alike cX11_alike 2 (some .int) false 1 [.ref a0, .int a1] S σ (pm_ri S p) := by
  refine pm_M.of (by decide +kernel) (Nat.le_of_ble_eq_true rfl) ?_
  show pm_E l yX11_alike cX11_alike 2 (some .int) false 1 S (pm_ri S p) 0 [(0, .ref a0), (1, .int a1)] [] S σ
  rw [fX11_alike] at hf
  refine pm_aload_n (pc := 0) 0 dX11_alike_0 rfl rfl h0.pos ?_
  refine pm_getT (pc := 1) (k := 6) pm_cl11 flX11_37 (by decide) rfl h0 dX11_alike_1 (fun hr1 => ?_)
  refine pm_getT (pc := 4) (k := 1) pm_cl8 flX11_145 (by decide) rfl hr1 dX11_alike_4 (fun hr2 => ?_)
  refine pm_iload_n (pc := 7) 1 dX11_alike_7 rfl rfl ?_
  obtain ⟨u3, hu3, hf⟩ := pm_bind_e hf
  refine pm_cVi (pc := 8) (as := [.int a1]) (st := []) mvX11_286 (KX10_pairOfLike l hr2 hu3) (by decide) hr2 rfl rfl (Nat.le_of_ble_eq_true rfl) rfl dX11_alike_8 ?_
  exact pm_iret rfl dX11_alike_11 (pm_ri_e hf)
def fX11_hands (S : pm_S) (a0 : Nat) (a1 : Int32) (σ : pm_H) : Option (Int32 × pm_H) :=
  (if a1 = (0 : Int32) then Option.bind (fX1_mean S (σ.2 (σ.2 a0 6) 2) σ) fun u3 => some (u3.1, u3.2) else (if a1 = (1 : Int32) then Option.bind (fX1_middle S (σ.2 (σ.2 a0 6) 2) σ) fun u7 => some (u7.1, u7.2) else (if a1 = (2 : Int32) then Option.bind (fX1_mean S (σ.2 (σ.2 a0 6) 2) σ) fun u13 => Option.bind (fX1_farthestFrom S (σ.2 (σ.2 a0 6) 2) u13.1 u13.2) fun u14 => some (u14.1, u14.2) else (if a1 = (3 : Int32) then Option.bind (fX1_nearestTo S (σ.2 (σ.2 a0 6) 2) (σ.1 (σ.2 (σ.2 a0 6) 0) 0) σ) fun u20 => some (u20.1, u20.2) else some ((-1000000002 : Int32), σ)))))
set_option maxRecDepth 100000 in
set_option maxHeartbeats 4000000 in
theorem KX11_hands (l : Launch) {S : pm_S} {p : Int32 × pm_H} {a0 : Nat} {a1 : Int32} {σ : pm_H} (h0 : pm_is S a0 14) (hf : fX11_hands S a0 a1 σ = some p) : pm_M l yX11_hands cX11_hands 2 (some .int) false 2 [.ref a0, .int a1] S σ (pm_ri S p) := by
  refine pm_M.of (by decide +kernel) (Nat.le_of_ble_eq_true rfl) ?_
  show pm_E l yX11_hands cX11_hands 2 (some .int) false 2 S (pm_ri S p) 0 [(0, .ref a0), (1, .int a1)] [] S σ
  rw [fX11_hands] at hf
  refine pm_iload_n (pc := 0) 1 dX11_hands_0 rfl rfl ?_
  by_cases hc4 : a1 = (0 : Int32)
  · rw [if_pos hc4] at hf
    refine pm_tin (pc := 1) (off := 31) 32 hc4 dX11_hands_1 (by decide) (by decide) ?_
    refine pm_aload_n (pc := 32) 0 dX11_hands_32 rfl rfl h0.pos ?_
    refine pm_getT (pc := 33) (k := 6) pm_cl11 flX11_37 (by decide) rfl h0 dX11_hands_33 (fun hr1 => ?_)
    refine pm_getT (pc := 36) (k := 2) pm_cl8 flX11_152 (by decide) rfl hr1 dX11_hands_36 (fun hr2 => ?_)
    obtain ⟨u3, hu3, hf⟩ := pm_bind_e hf
    refine pm_cVi (pc := 39) (as := []) (st := []) mvX11_289 (KX1_mean l hr2 hu3) (by decide) hr2 rfl rfl (Nat.le_of_ble_eq_true rfl) rfl dX11_hands_39 ?_
    exact pm_iret rfl dX11_hands_42 (pm_ri_e hf)
  · rw [if_neg hc4] at hf
    by_cases hc8 : a1 = (1 : Int32)
    · rw [if_pos hc8] at hf
      refine pm_tin (pc := 1) (off := 42) 43 hc8 dX11_hands_1 (by decide) (by decide) ?_
      refine pm_aload_n (pc := 43) 0 dX11_hands_43 rfl rfl h0.pos ?_
      refine pm_getT (pc := 44) (k := 6) pm_cl11 flX11_37 (by decide) rfl h0 dX11_hands_44 (fun hr5 => ?_)
      refine pm_getT (pc := 47) (k := 2) pm_cl8 flX11_152 (by decide) rfl hr5 dX11_hands_47 (fun hr6 => ?_)
      obtain ⟨u7, hu7, hf⟩ := pm_bind_e hf
      refine pm_cVi (pc := 50) (as := []) (st := []) mvX11_292 (KX1_middle l hr6 hu7) (by decide) hr6 rfl rfl (Nat.le_of_ble_eq_true rfl) rfl dX11_hands_50 ?_
      exact pm_iret rfl dX11_hands_53 (pm_ri_e hf)
    · rw [if_neg hc8] at hf
      by_cases hc15 : a1 = (2 : Int32)
      · rw [if_pos hc15] at hf
        refine pm_tin (pc := 1) (off := 53) 54 hc15 dX11_hands_1 (by decide) (by decide) ?_
        refine pm_aload_n (pc := 54) 0 dX11_hands_54 rfl rfl h0.pos ?_
        refine pm_getT (pc := 55) (k := 6) pm_cl11 flX11_37 (by decide) rfl h0 dX11_hands_55 (fun hr9 => ?_)
        refine pm_getT (pc := 58) (k := 2) pm_cl8 flX11_152 (by decide) rfl hr9 dX11_hands_58 (fun hr10 => ?_)
        refine pm_aload_n (pc := 61) 0 dX11_hands_61 rfl rfl h0.pos ?_
        refine pm_getT (pc := 62) (k := 6) pm_cl11 flX11_37 (by decide) rfl h0 dX11_hands_62 (fun hr11 => ?_)
        refine pm_getT (pc := 65) (k := 2) pm_cl8 flX11_152 (by decide) rfl hr11 dX11_hands_65 (fun hr12 => ?_)
        obtain ⟨u13, hu13, hf⟩ := pm_bind_e hf
        refine pm_cVi (pc := 68) (as := []) (st := [.ref (σ.2 (σ.2 a0 6) 2)]) mvX11_289 (KX1_mean l hr12 hu13) (by decide) hr12 rfl rfl (Nat.le_of_ble_eq_true rfl) rfl dX11_hands_68 ?_
        obtain ⟨u14, hu14, hf⟩ := pm_bind_e hf
        refine pm_cVi (pc := 71) (as := [.int u13.1]) (st := []) mvX11_295 (KX1_farthestFrom l hr10 hu14) (by decide) hr10 rfl rfl (Nat.le_of_ble_eq_true rfl) rfl dX11_hands_71 ?_
        exact pm_iret rfl dX11_hands_74 (pm_ri_e hf)
      · rw [if_neg hc15] at hf
        by_cases hc21 : a1 = (3 : Int32)
        · rw [if_pos hc21] at hf
          refine pm_tin (pc := 1) (off := 74) 75 hc21 dX11_hands_1 (by decide) (by decide) ?_
          refine pm_aload_n (pc := 75) 0 dX11_hands_75 rfl rfl h0.pos ?_
          refine pm_getT (pc := 76) (k := 6) pm_cl11 flX11_37 (by decide) rfl h0 dX11_hands_76 (fun hr16 => ?_)
          refine pm_getT (pc := 79) (k := 2) pm_cl8 flX11_152 (by decide) rfl hr16 dX11_hands_79 (fun hr17 => ?_)
          refine pm_aload_n (pc := 82) 0 dX11_hands_82 rfl rfl h0.pos ?_
          refine pm_getT (pc := 83) (k := 6) pm_cl11 flX11_37 (by decide) rfl h0 dX11_hands_83 (fun hr18 => ?_)
          refine pm_getT (pc := 86) (k := 0) pm_cl8 flX11_134 (by decide) rfl hr18 dX11_hands_86 (fun hr19 => ?_)
          refine pm_getI (pc := 89) (k := 0) pm_cl6 flX11_140 (by decide) rfl hr19 dX11_hands_89 ?_
          obtain ⟨u20, hu20, hf⟩ := pm_bind_e hf
          refine pm_cVi (pc := 92) (as := [.int (σ.1 (σ.2 (σ.2 a0 6) 0) 0)]) (st := []) mvX11_298 (KX1_nearestTo l hr17 hu20) (by decide) hr17 rfl rfl (Nat.le_of_ble_eq_true rfl) rfl dX11_hands_92 ?_
          exact pm_iret rfl dX11_hands_95 (pm_ri_e hf)
        · rw [if_neg hc21] at hf
          have q0 : ¬ (a1).toInt = 0 := lv_neT hc4 (by decide)
          have q1 : ¬ (a1).toInt = 1 := lv_neT hc8 (by decide)
          have q2 : ¬ (a1).toInt = 2 := lv_neT hc15 (by decide)
          have q3 : ¬ (a1).toInt = 3 := lv_neT hc21 (by decide)
          refine pm_tableOut (pc := 1) 96 dX11_hands_1 (by omega) (by decide) ?_
          refine pm_ldc (pc := 96) kcX11_98 dX11_hands_96 ?_
          exact pm_iret rfl dX11_hands_98 (pm_ri_e hf)
def fX11_tens (S : pm_S) (a0 : Nat) (a1 : Int32) (a2 : Int32) (a3 : Int32) (σ : pm_H) : Option (Int32 × pm_H) :=
  Option.bind (fX11_within S a1 (0 : Int32) (999 : Int32) σ) fun u1 => (if u1.1 = 0 then some ((-1000000002 : Int32), u1.2) else Option.bind (fX11_within S a2 (0 : Int32) (11 : Int32) u1.2) fun u2 => (if u2.1 = 0 then some ((-1000000002 : Int32), u2.2) else Option.bind (fX11_within S a3 (0 : Int32) (1 : Int32) u2.2) fun u3 => (if u3.1 = 0 then some ((-1000000002 : Int32), u3.2) else pm_let ((10 : Int32) * (((12 : Int32) * a1) + a2)) fun x4 => (if a3 = 0 then some ((x4 / (12 : Int32)), u3.2) else some ((pm_rem x4 (12 : Int32)), u3.2)))))
set_option maxRecDepth 100000 in
set_option maxHeartbeats 4000000 in
theorem KX11_tens (l : Launch) {S : pm_S} {p : Int32 × pm_H} {a0 : Nat} {a1 : Int32} {a2 : Int32} {a3 : Int32} {σ : pm_H} (h0 : pm_is S a0 14) (hf : fX11_tens S a0 a1 a2 a3 σ = some p) : pm_M l yX11_tens cX11_tens 5 (some .int) false 1 [.ref a0, .int a1, .int a2, .int a3] S σ (pm_ri S p) := by
  refine pm_M.of (by decide +kernel) (Nat.le_of_ble_eq_true rfl) ?_
  show pm_E l yX11_tens cX11_tens 5 (some .int) false 1 S (pm_ri S p) 0 [(0, .ref a0), (1, .int a1), (2, .int a2), (3, .int a3)] [] S σ
  rw [fX11_tens] at hf
  refine pm_iload_n (pc := 0) 1 dX11_tens_0 rfl rfl ?_
  refine pm_iconst (pc := 1) (0 : Int32) (by decide) dX11_tens_1 ?_
  refine pm_sipush (pc := 2) (999 : Int32) (by decide) dX11_tens_2 ?_
  obtain ⟨u1, hu1, hf⟩ := pm_bind_e hf
  refine pm_cSi (pc := 5) (as := [.int a1, .int (0 : Int32), .int (999 : Int32)]) (st := []) msX11_94 (KX11_within l  hu1) (by decide) rfl rfl (Nat.le_of_ble_eq_true rfl) rfl dX11_tens_5 ?_
  refine pm_if_eq (pc := 8) 30 dX11_tens_8 (by decide) (fun hc8 => ?_) (fun hc8 => ?_)
  · rw [if_pos hc8] at hf
    refine pm_ldc (pc := 30) kcX11_98 dX11_tens_30 ?_
    exact pm_iret rfl dX11_tens_32 (pm_ri_e hf)
  · rw [if_neg hc8] at hf
    refine pm_iload_n (pc := 11) 2 dX11_tens_11 rfl rfl ?_
    refine pm_iconst (pc := 12) (0 : Int32) (by decide) dX11_tens_12 ?_
    refine pm_bipush (pc := 13) (11 : Int32) (by decide) dX11_tens_13 ?_
    obtain ⟨u2, hu2, hf⟩ := pm_bind_e hf
    refine pm_cSi (pc := 15) (as := [.int a2, .int (0 : Int32), .int (11 : Int32)]) (st := []) msX11_94 (KX11_within l  hu2) (by decide) rfl rfl (Nat.le_of_ble_eq_true rfl) rfl dX11_tens_15 ?_
    refine pm_if_eq (pc := 18) 30 dX11_tens_18 (by decide) (fun hc7 => ?_) (fun hc7 => ?_)
    · rw [if_pos hc7] at hf
      refine pm_ldc (pc := 30) kcX11_98 dX11_tens_30 ?_
      exact pm_iret rfl dX11_tens_32 (pm_ri_e hf)
    · rw [if_neg hc7] at hf
      refine pm_iload_n (pc := 21) 3 dX11_tens_21 rfl rfl ?_
      refine pm_iconst (pc := 22) (0 : Int32) (by decide) dX11_tens_22 ?_
      refine pm_iconst (pc := 23) (1 : Int32) (by decide) dX11_tens_23 ?_
      obtain ⟨u3, hu3, hf⟩ := pm_bind_e hf
      refine pm_cSi (pc := 24) (as := [.int a3, .int (0 : Int32), .int (1 : Int32)]) (st := []) msX11_94 (KX11_within l  hu3) (by decide) rfl rfl (Nat.le_of_ble_eq_true rfl) rfl dX11_tens_24 ?_
      refine pm_if_ne (pc := 27) 33 dX11_tens_27 (by decide) (fun hc6 => ?_) (fun hc6 => ?_)
      · rw [if_pos hc6] at hf
        refine pm_ldc (pc := 30) kcX11_98 dX11_tens_30 ?_
        exact pm_iret rfl dX11_tens_32 (pm_ri_e hf)
      · rw [if_neg hc6] at hf
        refine pm_bipush (pc := 33) (10 : Int32) (by decide) dX11_tens_33 ?_
        refine pm_bipush (pc := 35) (12 : Int32) (by decide) dX11_tens_35 ?_
        refine pm_iload_n (pc := 37) 1 dX11_tens_37 rfl rfl ?_
        refine pm_imul (pc := 38) dX11_tens_38 ?_
        refine pm_iload_n (pc := 39) 2 dX11_tens_39 rfl rfl ?_
        refine pm_iadd (pc := 40) dX11_tens_40 ?_
        refine pm_imul (pc := 41) dX11_tens_41 ?_
        obtain ⟨x4, ex4, hf⟩ := pm_let_e hf
        refine pm_nmi ex4 ?_
        refine pm_istore (pc := 42) [(4, .int x4), (0, .ref a0), (1, .int a1), (2, .int a2), (3, .int a3)] dX11_tens_42 (by decide) rfl ?_
        refine pm_iload_n (pc := 44) 4 dX11_tens_44 rfl rfl ?_
        refine pm_if_ne (pc := 45) 56 dX11_tens_45 (by decide) (fun hc5 => ?_) (fun hc5 => ?_)
        · rw [if_pos hc5] at hf
          refine pm_iload (pc := 48) 0 dX11_tens_48 rfl ?_
          refine pm_bipush (pc := 50) (12 : Int32) (by decide) dX11_tens_50 ?_
          refine pm_idiv (pc := 52) (by decide) dX11_tens_52 ?_
          refine pm_goto (pc := 53) 61 dX11_tens_53 (by decide) ?_
          exact pm_iret rfl dX11_tens_61 (pm_ri_e hf)
        · rw [if_neg hc5] at hf
          refine pm_iload (pc := 56) 0 dX11_tens_56 rfl ?_
          refine pm_bipush (pc := 58) (12 : Int32) (by decide) dX11_tens_58 ?_
          refine pm_irem (pc := 60) (by decide) dX11_tens_60 ?_
          exact pm_iret rfl dX11_tens_61 (pm_ri_e hf)
def fX11_lean (S : pm_S) (a0 : Nat) (a1 : Int32) (a2 : Int32) (a3 : Int32) (σ : pm_H) : Option (Int32 × pm_H) :=
  Option.bind (fX11_within S a1 (0 : Int32) (999 : Int32) σ) fun u1 => (if u1.1 = 0 then some ((-1000000002 : Int32), u1.2) else Option.bind (fX11_within S a2 (0 : Int32) (99 : Int32) u1.2) fun u2 => (if u2.1 = 0 then some ((-1000000002 : Int32), u2.2) else Option.bind (fX11_within S a3 (0 : Int32) (99 : Int32) u2.2) fun u3 => (if u3.1 = 0 then some ((-1000000002 : Int32), u3.2) else (if a1 = 0 then some ((0 : Int32), u3.2) else pm_let (a2 + a3) fun x4 => (if (1 : Int32) ≤ x4 then if x4 = 0 then none else some ((((a1 + x4) - (1 : Int32)) / x4), u3.2) else some ((-1 : Int32), u3.2))))))
set_option maxRecDepth 100000 in
set_option maxHeartbeats 4000000 in
theorem KX11_lean (l : Launch) {S : pm_S} {p : Int32 × pm_H} {a0 : Nat} {a1 : Int32} {a2 : Int32} {a3 : Int32} {σ : pm_H} (h0 : pm_is S a0 14) (hf : fX11_lean S a0 a1 a2 a3 σ = some p) : pm_M l yX11_lean cX11_lean 5 (some .int) false 1 [.ref a0, .int a1, .int a2, .int a3] S σ (pm_ri S p) := by
  refine pm_M.of (by decide +kernel) (Nat.le_of_ble_eq_true rfl) ?_
  show pm_E l yX11_lean cX11_lean 5 (some .int) false 1 S (pm_ri S p) 0 [(0, .ref a0), (1, .int a1), (2, .int a2), (3, .int a3)] [] S σ
  rw [fX11_lean] at hf
  refine pm_iload_n (pc := 0) 1 dX11_lean_0 rfl rfl ?_
  refine pm_iconst (pc := 1) (0 : Int32) (by decide) dX11_lean_1 ?_
  refine pm_sipush (pc := 2) (999 : Int32) (by decide) dX11_lean_2 ?_
  obtain ⟨u1, hu1, hf⟩ := pm_bind_e hf
  refine pm_cSi (pc := 5) (as := [.int a1, .int (0 : Int32), .int (999 : Int32)]) (st := []) msX11_94 (KX11_within l  hu1) (by decide) rfl rfl (Nat.le_of_ble_eq_true rfl) rfl dX11_lean_5 ?_
  refine pm_if_eq (pc := 8) 31 dX11_lean_8 (by decide) (fun hc10 => ?_) (fun hc10 => ?_)
  · rw [if_pos hc10] at hf
    refine pm_ldc (pc := 31) kcX11_98 dX11_lean_31 ?_
    exact pm_iret rfl dX11_lean_33 (pm_ri_e hf)
  · rw [if_neg hc10] at hf
    refine pm_iload_n (pc := 11) 2 dX11_lean_11 rfl rfl ?_
    refine pm_iconst (pc := 12) (0 : Int32) (by decide) dX11_lean_12 ?_
    refine pm_bipush (pc := 13) (99 : Int32) (by decide) dX11_lean_13 ?_
    obtain ⟨u2, hu2, hf⟩ := pm_bind_e hf
    refine pm_cSi (pc := 15) (as := [.int a2, .int (0 : Int32), .int (99 : Int32)]) (st := []) msX11_94 (KX11_within l  hu2) (by decide) rfl rfl (Nat.le_of_ble_eq_true rfl) rfl dX11_lean_15 ?_
    refine pm_if_eq (pc := 18) 31 dX11_lean_18 (by decide) (fun hc9 => ?_) (fun hc9 => ?_)
    · rw [if_pos hc9] at hf
      refine pm_ldc (pc := 31) kcX11_98 dX11_lean_31 ?_
      exact pm_iret rfl dX11_lean_33 (pm_ri_e hf)
    · rw [if_neg hc9] at hf
      refine pm_iload_n (pc := 21) 3 dX11_lean_21 rfl rfl ?_
      refine pm_iconst (pc := 22) (0 : Int32) (by decide) dX11_lean_22 ?_
      refine pm_bipush (pc := 23) (99 : Int32) (by decide) dX11_lean_23 ?_
      obtain ⟨u3, hu3, hf⟩ := pm_bind_e hf
      refine pm_cSi (pc := 25) (as := [.int a3, .int (0 : Int32), .int (99 : Int32)]) (st := []) msX11_94 (KX11_within l  hu3) (by decide) rfl rfl (Nat.le_of_ble_eq_true rfl) rfl dX11_lean_25 ?_
      refine pm_if_ne (pc := 28) 34 dX11_lean_28 (by decide) (fun hc8 => ?_) (fun hc8 => ?_)
      · rw [if_pos hc8] at hf
        refine pm_ldc (pc := 31) kcX11_98 dX11_lean_31 ?_
        exact pm_iret rfl dX11_lean_33 (pm_ri_e hf)
      · rw [if_neg hc8] at hf
        refine pm_iload_n (pc := 34) 1 dX11_lean_34 rfl rfl ?_
        refine pm_if_ne (pc := 35) 40 dX11_lean_35 (by decide) (fun hc7 => ?_) (fun hc7 => ?_)
        · rw [if_pos hc7] at hf
          refine pm_iconst (pc := 38) (0 : Int32) (by decide) dX11_lean_38 ?_
          exact pm_iret rfl dX11_lean_39 (pm_ri_e hf)
        · rw [if_neg hc7] at hf
          refine pm_iload_n (pc := 40) 2 dX11_lean_40 rfl rfl ?_
          refine pm_iload_n (pc := 41) 3 dX11_lean_41 rfl rfl ?_
          refine pm_iadd (pc := 42) dX11_lean_42 ?_
          obtain ⟨x4, ex4, hf⟩ := pm_let_e hf
          refine pm_nmi ex4 ?_
          refine pm_istore (pc := 43) [(4, .int x4), (0, .ref a0), (1, .int a1), (2, .int a2), (3, .int a3)] dX11_lean_43 (by decide) rfl ?_
          refine pm_iload (pc := 45) 0 dX11_lean_45 rfl ?_
          refine pm_iconst (pc := 47) (1 : Int32) (by decide) dX11_lean_47 ?_
          refine pm_icmp_ge (pc := 48) 55 dX11_lean_48 (by decide) (fun hc6 => ?_) (fun hc6 => ?_)
          · rw [if_pos hc6] at hf
            refine pm_iload_n (pc := 55) 2 dX11_lean_55 rfl rfl ?_
            refine pm_iload (pc := 56) 0 dX11_lean_56 rfl ?_
            refine pm_iadd (pc := 58) dX11_lean_58 ?_
            refine pm_iconst (pc := 59) (1 : Int32) (by decide) dX11_lean_59 ?_
            refine pm_isub (pc := 60) dX11_lean_60 ?_
            refine pm_iload (pc := 61) 0 dX11_lean_61 rfl ?_
            obtain ⟨hz5, hf⟩ := pm_gz hf
            refine pm_idiv (pc := 63) hz5 dX11_lean_63 ?_
            exact pm_iret rfl dX11_lean_64 (pm_ri_e hf)
          · rw [if_neg hc6] at hf
            refine pm_iconst (pc := 51) (-1 : Int32) (by decide) dX11_lean_51 ?_
            refine pm_goto (pc := 52) 64 dX11_lean_52 (by decide) ?_
            exact pm_iret rfl dX11_lean_64 (pm_ri_e hf)
def fX11_foundBy_L30 (S : pm_S) (v1 : Int32) (v2 : Int32) (kx : Int64 → pm_H → Option (Int32 × pm_H)) : Nat → Int64 → Int32 → pm_H → Option (Int32 × pm_H)
  | 0, _, _, _ => none
  | n + 1, v3, v5, σ => (if v1 ≤ v5 then kx v3 σ else pm_let ((v3 * ((100 : Int32) - v2).toInt64) / (100 : Int64)) fun x3 => fX11_foundBy_L30 S v1 v2 kx n x3 (v5 + (1 : Int32)) σ)
set_option maxRecDepth 100000 in
set_option maxHeartbeats 4000000 in
theorem fX11_foundBy_L30_E (l : Launch) {S : pm_S} {p : Int32 × pm_H} {v1 : Int32} {v2 : Int32} {kx : Int64 → pm_H → Option (Int32 × pm_H)} (hkx : ∀ w3 sw, kx w3 sw = some p → pm_E l yX11_foundBy cX11_foundBy 6 (some .int) false 1 S (pm_ri S p) 54 [(3, .long w3)] [] S sw) : ∀ (n : Nat) (v3 : Int64) (v5 : Int32) (σ : pm_H), fX11_foundBy_L30 S v1 v2 kx n v3 v5 σ = some p → pm_E l yX11_foundBy cX11_foundBy 6 (some .int) false 1 S (pm_ri S p) 30 [(1, .int v1), (2, .int v2), (3, .long v3), (5, .int v5)] [] S σ := by
  intro n
  induction n with
  | zero => intro v3 v5 σ hf; cases hf
  | succ n ih =>
    intro v3 v5 σ hf
    rw [fX11_foundBy_L30] at hf
    refine pm_iload (pc := 30) 3 dX11_foundBy_30 rfl ?_
    refine pm_iload_n (pc := 32) 0 dX11_foundBy_32 rfl rfl ?_
    refine pm_icmp_ge (pc := 33) 54 dX11_foundBy_33 (by decide) (fun hc4 => ?_) (fun hc4 => ?_)
    · rw [if_pos hc4] at hf
      refine pm_lv [(3, .long v3)] [2] rfl ?_
      exact hkx v3 σ hf
    · rw [if_neg hc4] at hf
      refine pm_lload_n (pc := 36) 2 dX11_foundBy_36 rfl rfl ?_
      refine pm_bipush (pc := 37) (100 : Int32) (by decide) dX11_foundBy_37 ?_
      refine pm_iload_n (pc := 39) 1 dX11_foundBy_39 rfl rfl ?_
      refine pm_isub (pc := 40) dX11_foundBy_40 ?_
      refine pm_i2l (pc := 41) dX11_foundBy_41 ?_
      refine pm_lmul (pc := 42) dX11_foundBy_42 ?_
      refine pm_ldc2 (pc := 43) klX11_303 dX11_foundBy_43 ?_
      refine pm_ldiv (pc := 46) (by decide) dX11_foundBy_46 ?_
      obtain ⟨x3, ex3, hf⟩ := pm_let_e hf
      refine pm_nml ex3 ?_
      refine pm_lstore_n (pc := 47) [(3, .long x3), (1, .int v1), (2, .int v2), (5, .int v5)] dX11_foundBy_47 rfl (by decide) rfl ?_
      refine pm_iinc (pc := 48) 3 (v5 + (1 : Int32)) [(5, .int (v5 + (1 : Int32))), (3, .long x3), (1, .int v1), (2, .int v2)] dX11_foundBy_48 rfl rfl (by decide) rfl ?_
      refine pm_goto (pc := 51) 30 dX11_foundBy_51 (by decide) ?_
      refine pm_lv [(1, .int v1), (2, .int v2), (3, .long x3), (5, .int (v5 + (1 : Int32)))] [2, 3, 1, 0] rfl ?_
      exact ih x3 (v5 + (1 : Int32)) σ hf
def fX11_foundBy (S : pm_S) (a0 : Nat) (a1 : Int32) (a2 : Int32) (σ : pm_H) : Option (Int32 × pm_H) :=
  Option.bind (fX11_within S a1 (0 : Int32) (60 : Int32) σ) fun u1 => (if u1.1 = 0 then some ((-1000000002 : Int32), u1.2) else Option.bind (fX11_within S a2 (0 : Int32) (100 : Int32) u1.2) fun u2 => (if u2.1 = 0 then some ((-1000000002 : Int32), u2.2) else fX11_foundBy_L30 S a1 a2 (fun w5 s6 => some (w5.toInt32, s6)) pm_fuel (1000000000 : Int64) (0 : Int32) u2.2))
set_option maxRecDepth 100000 in
set_option maxHeartbeats 4000000 in
theorem KX11_foundBy (l : Launch) {S : pm_S} {p : Int32 × pm_H} {a0 : Nat} {a1 : Int32} {a2 : Int32} {σ : pm_H} (h0 : pm_is S a0 14) (hf : fX11_foundBy S a0 a1 a2 σ = some p) : pm_M l yX11_foundBy cX11_foundBy 6 (some .int) false 1 [.ref a0, .int a1, .int a2] S σ (pm_ri S p) := by
  refine pm_M.of (by decide +kernel) (Nat.le_of_ble_eq_true rfl) ?_
  show pm_E l yX11_foundBy cX11_foundBy 6 (some .int) false 1 S (pm_ri S p) 0 [(0, .ref a0), (1, .int a1), (2, .int a2)] [] S σ
  rw [fX11_foundBy] at hf
  refine pm_iload_n (pc := 0) 1 dX11_foundBy_0 rfl rfl ?_
  refine pm_iconst (pc := 1) (0 : Int32) (by decide) dX11_foundBy_1 ?_
  refine pm_bipush (pc := 2) (60 : Int32) (by decide) dX11_foundBy_2 ?_
  obtain ⟨u1, hu1, hf⟩ := pm_bind_e hf
  refine pm_cSi (pc := 4) (as := [.int a1, .int (0 : Int32), .int (60 : Int32)]) (st := []) msX11_94 (KX11_within l  hu1) (by decide) rfl rfl (Nat.le_of_ble_eq_true rfl) rfl dX11_foundBy_4 ?_
  refine pm_if_eq (pc := 7) 20 dX11_foundBy_7 (by decide) (fun hc8 => ?_) (fun hc8 => ?_)
  · rw [if_pos hc8] at hf
    refine pm_ldc (pc := 20) kcX11_98 dX11_foundBy_20 ?_
    exact pm_iret rfl dX11_foundBy_22 (pm_ri_e hf)
  · rw [if_neg hc8] at hf
    refine pm_iload_n (pc := 10) 2 dX11_foundBy_10 rfl rfl ?_
    refine pm_iconst (pc := 11) (0 : Int32) (by decide) dX11_foundBy_11 ?_
    refine pm_bipush (pc := 12) (100 : Int32) (by decide) dX11_foundBy_12 ?_
    obtain ⟨u2, hu2, hf⟩ := pm_bind_e hf
    refine pm_cSi (pc := 14) (as := [.int a2, .int (0 : Int32), .int (100 : Int32)]) (st := []) msX11_94 (KX11_within l  hu2) (by decide) rfl rfl (Nat.le_of_ble_eq_true rfl) rfl dX11_foundBy_14 ?_
    refine pm_if_ne (pc := 17) 23 dX11_foundBy_17 (by decide) (fun hc7 => ?_) (fun hc7 => ?_)
    · rw [if_pos hc7] at hf
      refine pm_ldc (pc := 20) kcX11_98 dX11_foundBy_20 ?_
      exact pm_iret rfl dX11_foundBy_22 (pm_ri_e hf)
    · rw [if_neg hc7] at hf
      refine pm_ldc2 (pc := 23) klX11_301 dX11_foundBy_23 ?_
      refine pm_lstore_n (pc := 26) [(3, .long (1000000000 : Int64)), (0, .ref a0), (1, .int a1), (2, .int a2)] dX11_foundBy_26 rfl (by decide) rfl ?_
      refine pm_iconst (pc := 27) (0 : Int32) (by decide) dX11_foundBy_27 ?_
      refine pm_istore (pc := 28) [(5, .int (0 : Int32)), (3, .long (1000000000 : Int64)), (0, .ref a0), (1, .int a1), (2, .int a2)] dX11_foundBy_28 (by decide) rfl ?_
      refine pm_lv [(1, .int a1), (2, .int a2), (3, .long (1000000000 : Int64)), (5, .int (0 : Int32))] [3, 4, 1, 0] rfl ?_
      refine fX11_foundBy_L30_E l  (fun w5 s6 hf => ?_) pm_fuel (1000000000 : Int64) (0 : Int32) u2.2 hf
      refine pm_lload_n (pc := 54) 0 dX11_foundBy_54 rfl rfl ?_
      refine pm_l2i (pc := 55) dX11_foundBy_55 ?_
      exact pm_iret rfl dX11_foundBy_56 (pm_ri_e hf)
def fX11_see (S : pm_S) (a0 : Nat) (a1 : Int32) (a2 : Int32) (σ : pm_H) : Option (Int32 × pm_H) :=
  Option.bind (fX11_within S a1 (1 : Int32) (9 : Int32) σ) fun u1 => (if u1.1 = 0 then some ((-1000000002 : Int32), u1.2) else Option.bind (fX11_within S a2 (0 : Int32) (9999 : Int32) u1.2) fun u2 => (if u2.1 = 0 then some ((-1000000002 : Int32), u2.2) else (if (u2.2.1 (u2.2.2 a0 15) 2) < (6 : Int32) then Option.bind (fX7_add S (u2.2.2 a0 15) a1 a2 u2.2) fun u5 => some ((u5.1 (u5.2 a0 15) 2), u5) else some ((-1000000004 : Int32), u2.2))))
set_option maxRecDepth 100000 in
set_option maxHeartbeats 4000000 in
theorem KX11_see (l : Launch) {S : pm_S} {p : Int32 × pm_H} {a0 : Nat} {a1 : Int32} {a2 : Int32} {σ : pm_H} (h0 : pm_is S a0 14) (hf : fX11_see S a0 a1 a2 σ = some p) : pm_M l yX11_see cX11_see 3 (some .int) false 1 [.ref a0, .int a1, .int a2] S σ (pm_ri S p) := by
  refine pm_M.of (by decide +kernel) (Nat.le_of_ble_eq_true rfl) ?_
  show pm_E l yX11_see cX11_see 3 (some .int) false 1 S (pm_ri S p) 0 [(0, .ref a0), (1, .int a1), (2, .int a2)] [] S σ
  rw [fX11_see] at hf
  refine pm_iload_n (pc := 0) 1 dX11_see_0 rfl rfl ?_
  refine pm_iconst (pc := 1) (1 : Int32) (by decide) dX11_see_1 ?_
  refine pm_bipush (pc := 2) (9 : Int32) (by decide) dX11_see_2 ?_
  obtain ⟨u1, hu1, hf⟩ := pm_bind_e hf
  refine pm_cSi (pc := 4) (as := [.int a1, .int (1 : Int32), .int (9 : Int32)]) (st := []) msX11_94 (KX11_within l  hu1) (by decide) rfl rfl (Nat.le_of_ble_eq_true rfl) rfl dX11_see_4 ?_
  refine pm_if_eq (pc := 7) 21 dX11_see_7 (by decide) (fun hc9 => ?_) (fun hc9 => ?_)
  · rw [if_pos hc9] at hf
    refine pm_ldc (pc := 21) kcX11_98 dX11_see_21 ?_
    exact pm_iret rfl dX11_see_23 (pm_ri_e hf)
  · rw [if_neg hc9] at hf
    refine pm_iload_n (pc := 10) 2 dX11_see_10 rfl rfl ?_
    refine pm_iconst (pc := 11) (0 : Int32) (by decide) dX11_see_11 ?_
    refine pm_sipush (pc := 12) (9999 : Int32) (by decide) dX11_see_12 ?_
    obtain ⟨u2, hu2, hf⟩ := pm_bind_e hf
    refine pm_cSi (pc := 15) (as := [.int a2, .int (0 : Int32), .int (9999 : Int32)]) (st := []) msX11_94 (KX11_within l  hu2) (by decide) rfl rfl (Nat.le_of_ble_eq_true rfl) rfl dX11_see_15 ?_
    refine pm_if_ne (pc := 18) 24 dX11_see_18 (by decide) (fun hc8 => ?_) (fun hc8 => ?_)
    · rw [if_pos hc8] at hf
      refine pm_ldc (pc := 21) kcX11_98 dX11_see_21 ?_
      exact pm_iret rfl dX11_see_23 (pm_ri_e hf)
    · rw [if_neg hc8] at hf
      refine pm_aload_n (pc := 24) 0 dX11_see_24 rfl rfl h0.pos ?_
      refine pm_getT (pc := 25) (k := 15) pm_cl11 flX11_83 (by decide) rfl h0 dX11_see_25 (fun hr3 => ?_)
      refine pm_getI (pc := 28) (k := 2) pm_cl7 flX11_118 (by decide) rfl hr3 dX11_see_28 ?_
      refine pm_bipush (pc := 31) (6 : Int32) (by decide) dX11_see_31 ?_
      refine pm_icmp_lt (pc := 33) 39 dX11_see_33 (by decide) (fun hc7 => ?_) (fun hc7 => ?_)
      · rw [if_pos hc7] at hf
        refine pm_aload_n (pc := 39) 0 dX11_see_39 rfl rfl h0.pos ?_
        refine pm_getT (pc := 40) (k := 15) pm_cl11 flX11_83 (by decide) rfl h0 dX11_see_40 (fun hr4 => ?_)
        refine pm_iload_n (pc := 43) 1 dX11_see_43 rfl rfl ?_
        refine pm_iload_n (pc := 44) 2 dX11_see_44 rfl rfl ?_
        obtain ⟨u5, hu5, hf⟩ := pm_bind_e hf
        refine pm_cVu (pc := 45) (as := [.int a1, .int a2]) (st := []) mvX11_305 (KX7_add l hr4 hu5) (by decide) hr4 rfl rfl (Nat.le_of_ble_eq_true rfl) rfl dX11_see_45 ?_
        refine pm_aload_n (pc := 48) 0 dX11_see_48 rfl rfl h0.pos ?_
        refine pm_getT (pc := 49) (k := 15) pm_cl11 flX11_83 (by decide) rfl h0 dX11_see_49 (fun hr6 => ?_)
        refine pm_getI (pc := 52) (k := 2) pm_cl7 flX11_118 (by decide) rfl hr6 dX11_see_52 ?_
        exact pm_iret rfl dX11_see_55 (pm_ri_e hf)
      · rw [if_neg hc7] at hf
        refine pm_ldc (pc := 36) kcX11_102 dX11_see_36 ?_
        exact pm_iret rfl dX11_see_38 (pm_ri_e hf)
def fX11_rods (S : pm_S) (a0 : Nat) (a1 : Int32) (σ : pm_H) : Option (Int32 × pm_H) :=
  Option.bind (fX11_within S a1 (0 : Int32) (2 : Int32) σ) fun u1 => (if u1.1 = 0 then some ((-1000000002 : Int32), u1.2) else Option.bind (fX7_gather S (u1.2.2 a0 15) u1.2) fun u3 => (if a1 = 0 then some (u3.1, u3.2) else Option.bind (fX7_leastLength S (u3.2.2 a0 15) u3.2) fun u5 => (if u5.1 = (-1 : Int32) then some ((-1 : Int32), u5.2) else (if a1 = (1 : Int32) then some (u5.1, u5.2) else (if pm_ib u5.1 (pm_len S (u5.2.2 (u5.2.2 a0 15) 3)) = true then some (((u5.2.1 (u5.2.2 (u5.2.2 a0 15) 3) (u5.1).toNatClampNeg) + (1000 : Int32)), u5.2) else none)))))
set_option maxRecDepth 100000 in
set_option maxHeartbeats 4000000 in
theorem KX11_rods (l : Launch) {S : pm_S} {p : Int32 × pm_H} {a0 : Nat} {a1 : Int32} {σ : pm_H} (h0 : pm_is S a0 14) (hf : fX11_rods S a0 a1 σ = some p) : pm_M l yX11_rods cX11_rods 4 (some .int) false 2 [.ref a0, .int a1] S σ (pm_ri S p) := by
  refine pm_M.of (by decide +kernel) (Nat.le_of_ble_eq_true rfl) ?_
  show pm_E l yX11_rods cX11_rods 4 (some .int) false 2 S (pm_ri S p) 0 [(0, .ref a0), (1, .int a1)] [] S σ
  rw [fX11_rods] at hf
  refine pm_iload_n (pc := 0) 1 dX11_rods_0 rfl rfl ?_
  refine pm_iconst (pc := 1) (0 : Int32) (by decide) dX11_rods_1 ?_
  refine pm_iconst (pc := 2) (2 : Int32) (by decide) dX11_rods_2 ?_
  obtain ⟨u1, hu1, hf⟩ := pm_bind_e hf
  refine pm_cSi (pc := 3) (as := [.int a1, .int (0 : Int32), .int (2 : Int32)]) (st := []) msX11_94 (KX11_within l  hu1) (by decide) rfl rfl (Nat.le_of_ble_eq_true rfl) rfl dX11_rods_3 ?_
  refine pm_if_ne (pc := 6) 12 dX11_rods_6 (by decide) (fun hc12 => ?_) (fun hc12 => ?_)
  · rw [if_pos hc12] at hf
    refine pm_ldc (pc := 9) kcX11_98 dX11_rods_9 ?_
    exact pm_iret rfl dX11_rods_11 (pm_ri_e hf)
  · rw [if_neg hc12] at hf
    refine pm_aload_n (pc := 12) 0 dX11_rods_12 rfl rfl h0.pos ?_
    refine pm_getT (pc := 13) (k := 15) pm_cl11 flX11_83 (by decide) rfl h0 dX11_rods_13 (fun hr2 => ?_)
    obtain ⟨u3, hu3, hf⟩ := pm_bind_e hf
    refine pm_cVi (pc := 16) (as := []) (st := []) mvX11_308 (KX7_gather l hr2 hu3) (by decide) hr2 rfl rfl (Nat.le_of_ble_eq_true rfl) rfl dX11_rods_16 ?_
    refine pm_istore_n (pc := 19) [(2, .int u3.1), (0, .ref a0), (1, .int a1)] dX11_rods_19 rfl (by decide) rfl ?_
    refine pm_iload_n (pc := 20) 2 dX11_rods_20 rfl rfl ?_
    refine pm_if_ne (pc := 21) 26 dX11_rods_21 (by decide) (fun hc11 => ?_) (fun hc11 => ?_)
    · rw [if_pos hc11] at hf
      refine pm_iload_n (pc := 24) 0 dX11_rods_24 rfl rfl ?_
      exact pm_iret rfl dX11_rods_25 (pm_ri_e hf)
    · rw [if_neg hc11] at hf
      refine pm_aload_n (pc := 26) 1 dX11_rods_26 rfl rfl h0.pos ?_
      refine pm_getT (pc := 27) (k := 15) pm_cl11 flX11_83 (by decide) rfl h0 dX11_rods_27 (fun hr4 => ?_)
      obtain ⟨u5, hu5, hf⟩ := pm_bind_e hf
      refine pm_cVi (pc := 30) (as := []) (st := []) mvX11_311 (KX7_leastLength l hr4 hu5) (by decide) hr4 rfl rfl (Nat.le_of_ble_eq_true rfl) rfl dX11_rods_30 ?_
      refine pm_istore_n (pc := 33) [(3, .int u5.1), (2, .int u3.1), (0, .ref a0), (1, .int a1)] dX11_rods_33 rfl (by decide) rfl ?_
      refine pm_iload_n (pc := 34) 0 dX11_rods_34 rfl rfl ?_
      refine pm_iconst (pc := 35) (-1 : Int32) (by decide) dX11_rods_35 ?_
      refine pm_icmp_ne (pc := 36) 41 dX11_rods_36 (by decide) (fun hc10 => ?_) (fun hc10 => ?_)
      · rw [if_pos hc10] at hf
        refine pm_iconst (pc := 39) (-1 : Int32) (by decide) dX11_rods_39 ?_
        exact pm_iret rfl dX11_rods_40 (pm_ri_e hf)
      · rw [if_neg hc10] at hf
        refine pm_iload_n (pc := 41) 3 dX11_rods_41 rfl rfl ?_
        refine pm_iconst (pc := 42) (1 : Int32) (by decide) dX11_rods_42 ?_
        refine pm_icmp_ne (pc := 43) 50 dX11_rods_43 (by decide) (fun hc9 => ?_) (fun hc9 => ?_)
        · rw [if_pos hc9] at hf
          refine pm_iload_n (pc := 46) 0 dX11_rods_46 rfl rfl ?_
          refine pm_goto (pc := 47) 63 dX11_rods_47 (by decide) ?_
          exact pm_iret rfl dX11_rods_63 (pm_ri_e hf)
        · rw [if_neg hc9] at hf
          refine pm_aload_n (pc := 50) 2 dX11_rods_50 rfl rfl h0.pos ?_
          refine pm_getT (pc := 51) (k := 15) pm_cl11 flX11_83 (by decide) rfl h0 dX11_rods_51 (fun hr6 => ?_)
          refine pm_getT (pc := 54) (k := 3) pm_cl7 flX11_314 (by decide) rfl hr6 dX11_rods_54 (fun hr7 => ?_)
          refine pm_iload_n (pc := 57) 0 dX11_rods_57 rfl rfl ?_
          obtain ⟨hb8, hf⟩ := pm_gd hf
          refine pm_iald (pc := 58) hr7 (pm_ib_in hb8) dX11_rods_58 ?_
          refine pm_sipush (pc := 59) (1000 : Int32) (by decide) dX11_rods_59 ?_
          refine pm_iadd (pc := 62) dX11_rods_62 ?_
          exact pm_iret rfl dX11_rods_63 (pm_ri_e hf)
def fX11_door (S : pm_S) (a0 : Nat) (σ : pm_H) : Option (Int32 × pm_H) :=
  Option.bind (fX7_bestDoor S (σ.2 a0 15) σ) fun u2 => some (u2.1, u2.2)
set_option maxRecDepth 100000 in
set_option maxHeartbeats 4000000 in
theorem KX11_door (l : Launch) {S : pm_S} {p : Int32 × pm_H} {a0 : Nat} {σ : pm_H} (h0 : pm_is S a0 14) (hf : fX11_door S a0 σ = some p) : pm_M l yX11_door cX11_door 1 (some .int) false 3 [.ref a0] S σ (pm_ri S p) := by
  refine pm_M.of (by decide +kernel) (Nat.le_of_ble_eq_true rfl) ?_
  show pm_E l yX11_door cX11_door 1 (some .int) false 3 S (pm_ri S p) 0 [(0, .ref a0)] [] S σ
  rw [fX11_door] at hf
  refine pm_aload_n (pc := 0) 0 dX11_door_0 rfl rfl h0.pos ?_
  refine pm_getT (pc := 1) (k := 15) pm_cl11 flX11_83 (by decide) rfl h0 dX11_door_1 (fun hr1 => ?_)
  obtain ⟨u2, hu2, hf⟩ := pm_bind_e hf
  refine pm_cVi (pc := 4) (as := []) (st := []) mvX11_317 (KX7_bestDoor l hr1 hu2) (by decide) hr1 rfl rfl (Nat.le_of_ble_eq_true rfl) rfl dX11_door_4 ?_
  exact pm_iret rfl dX11_door_7 (pm_ri_e hf)
def fX11_write (S : pm_S) (a0 : Nat) (a1 : Int32) (a2 : Int32) (σ : pm_H) : Option (Int32 × pm_H) :=
  Option.bind (fX11_isPerson S a0 a1 σ) fun u1 => (if u1.1 = 0 then some ((-1000000001 : Int32), u1.2) else Option.bind (fX11_within S a2 (1 : Int32) (999 : Int32) u1.2) fun u2 => (if u2.1 = 0 then some ((-1000000002 : Int32), u2.2) else (if (u2.2.1 (u2.2.2 a0 16) 2) < (15 : Int32) then Option.bind (fX0_add S (u2.2.2 a0 16) a1 a2 u2.2) fun u5 => some ((u5.1 (u5.2 a0 16) 2), u5) else some ((-1000000004 : Int32), u2.2))))
set_option maxRecDepth 100000 in
set_option maxHeartbeats 4000000 in
theorem KX11_write (l : Launch) {S : pm_S} {p : Int32 × pm_H} {a0 : Nat} {a1 : Int32} {a2 : Int32} {σ : pm_H} (h0 : pm_is S a0 14) (hf : fX11_write S a0 a1 a2 σ = some p) : pm_M l yX11_write cX11_write 3 (some .int) false 2 [.ref a0, .int a1, .int a2] S σ (pm_ri S p) := by
  refine pm_M.of (by decide +kernel) (Nat.le_of_ble_eq_true rfl) ?_
  show pm_E l yX11_write cX11_write 3 (some .int) false 2 S (pm_ri S p) 0 [(0, .ref a0), (1, .int a1), (2, .int a2)] [] S σ
  rw [fX11_write] at hf
  refine pm_aload_n (pc := 0) 0 dX11_write_0 rfl rfl h0.pos ?_
  refine pm_iload_n (pc := 1) 1 dX11_write_1 rfl rfl ?_
  obtain ⟨u1, hu1, hf⟩ := pm_bind_e hf
  refine pm_cVi (pc := 2) (as := [.int a1]) (st := []) mvX11_190 (KX11_isPerson l h0 hu1) (by decide) h0 rfl rfl (Nat.le_of_ble_eq_true rfl) rfl dX11_write_2 ?_
  refine pm_if_ne (pc := 5) 11 dX11_write_5 (by decide) (fun hc9 => ?_) (fun hc9 => ?_)
  · rw [if_pos hc9] at hf
    refine pm_ldc (pc := 8) kcX11_179 dX11_write_8 ?_
    exact pm_iret rfl dX11_write_10 (pm_ri_e hf)
  · rw [if_neg hc9] at hf
    refine pm_iload_n (pc := 11) 2 dX11_write_11 rfl rfl ?_
    refine pm_iconst (pc := 12) (1 : Int32) (by decide) dX11_write_12 ?_
    refine pm_sipush (pc := 13) (999 : Int32) (by decide) dX11_write_13 ?_
    obtain ⟨u2, hu2, hf⟩ := pm_bind_e hf
    refine pm_cSi (pc := 16) (as := [.int a2, .int (1 : Int32), .int (999 : Int32)]) (st := []) msX11_94 (KX11_within l  hu2) (by decide) rfl rfl (Nat.le_of_ble_eq_true rfl) rfl dX11_write_16 ?_
    refine pm_if_ne (pc := 19) 25 dX11_write_19 (by decide) (fun hc8 => ?_) (fun hc8 => ?_)
    · rw [if_pos hc8] at hf
      refine pm_ldc (pc := 22) kcX11_98 dX11_write_22 ?_
      exact pm_iret rfl dX11_write_24 (pm_ri_e hf)
    · rw [if_neg hc8] at hf
      refine pm_aload_n (pc := 25) 0 dX11_write_25 rfl rfl h0.pos ?_
      refine pm_getT (pc := 26) (k := 16) pm_cl11 flX11_90 (by decide) rfl h0 dX11_write_26 (fun hr3 => ?_)
      refine pm_getI (pc := 29) (k := 2) pm_cl0 flX11_121 (by decide) rfl hr3 dX11_write_29 ?_
      refine pm_bipush (pc := 32) (15 : Int32) (by decide) dX11_write_32 ?_
      refine pm_icmp_lt (pc := 34) 40 dX11_write_34 (by decide) (fun hc7 => ?_) (fun hc7 => ?_)
      · rw [if_pos hc7] at hf
        refine pm_aload_n (pc := 40) 0 dX11_write_40 rfl rfl h0.pos ?_
        refine pm_getT (pc := 41) (k := 16) pm_cl11 flX11_90 (by decide) rfl h0 dX11_write_41 (fun hr4 => ?_)
        refine pm_iload_n (pc := 44) 1 dX11_write_44 rfl rfl ?_
        refine pm_iload_n (pc := 45) 2 dX11_write_45 rfl rfl ?_
        obtain ⟨u5, hu5, hf⟩ := pm_bind_e hf
        refine pm_cVu (pc := 46) (as := [.int a1, .int a2]) (st := []) mvX11_320 (KX0_add l hr4 hu5) (by decide) hr4 rfl rfl (Nat.le_of_ble_eq_true rfl) rfl dX11_write_46 ?_
        refine pm_aload_n (pc := 49) 0 dX11_write_49 rfl rfl h0.pos ?_
        refine pm_getT (pc := 50) (k := 16) pm_cl11 flX11_90 (by decide) rfl h0 dX11_write_50 (fun hr6 => ?_)
        refine pm_getI (pc := 53) (k := 2) pm_cl0 flX11_121 (by decide) rfl hr6 dX11_write_53 ?_
        exact pm_iret rfl dX11_write_56 (pm_ri_e hf)
      · rw [if_neg hc7] at hf
        refine pm_ldc (pc := 37) kcX11_102 dX11_write_37 ?_
        exact pm_iret rfl dX11_write_39 (pm_ri_e hf)
def fX11_tear (S : pm_S) (a0 : Nat) (σ : pm_H) : Option (Int32 × pm_H) :=
  pm_let ((σ.1 (σ.2 a0 15) 2) + (σ.1 (σ.2 a0 16) 2)) fun x3 => pm_let (pm_si σ (σ.2 a0 15) 2 (0 : Int32)) fun s5 => pm_let (pm_si s5 (s5.2 a0 16) 2 (0 : Int32)) fun s7 => some (x3, s7)
set_option maxRecDepth 100000 in
set_option maxHeartbeats 4000000 in
theorem KX11_tear (l : Launch) {S : pm_S} {p : Int32 × pm_H} {a0 : Nat} {σ : pm_H} (h0 : pm_is S a0 14) (hf : fX11_tear S a0 σ = some p) : pm_M l yX11_tear cX11_tear 2 (some .int) false 0 [.ref a0] S σ (pm_ri S p) := by
  refine pm_M.of (by decide +kernel) (Nat.le_of_ble_eq_true rfl) ?_
  show pm_E l yX11_tear cX11_tear 2 (some .int) false 0 S (pm_ri S p) 0 [(0, .ref a0)] [] S σ
  rw [fX11_tear] at hf
  refine pm_aload_n (pc := 0) 0 dX11_tear_0 rfl rfl h0.pos ?_
  refine pm_getT (pc := 1) (k := 15) pm_cl11 flX11_83 (by decide) rfl h0 dX11_tear_1 (fun hr1 => ?_)
  refine pm_getI (pc := 4) (k := 2) pm_cl7 flX11_118 (by decide) rfl hr1 dX11_tear_4 ?_
  refine pm_aload_n (pc := 7) 0 dX11_tear_7 rfl rfl h0.pos ?_
  refine pm_getT (pc := 8) (k := 16) pm_cl11 flX11_90 (by decide) rfl h0 dX11_tear_8 (fun hr2 => ?_)
  refine pm_getI (pc := 11) (k := 2) pm_cl0 flX11_121 (by decide) rfl hr2 dX11_tear_11 ?_
  refine pm_iadd (pc := 14) dX11_tear_14 ?_
  obtain ⟨x3, ex3, hf⟩ := pm_let_e hf
  refine pm_nmi ex3 ?_
  refine pm_istore_n (pc := 15) [(1, .int x3), (0, .ref a0)] dX11_tear_15 rfl (by decide) rfl ?_
  refine pm_aload_n (pc := 16) 1 dX11_tear_16 rfl rfl h0.pos ?_
  refine pm_getT (pc := 17) (k := 15) pm_cl11 flX11_83 (by decide) rfl h0 dX11_tear_17 (fun hr4 => ?_)
  refine pm_iconst (pc := 20) (0 : Int32) (by decide) dX11_tear_20 ?_
  refine pm_putI (pc := 21) (k := 2) pm_cl7 flX11_118 (by decide) rfl rfl rfl hr4 dX11_tear_21 ?_
  obtain ⟨s5, es5, hf⟩ := pm_let_e hf
  refine pm_nmh es5 ?_
  refine pm_aload_n (pc := 24) 1 dX11_tear_24 rfl rfl h0.pos ?_
  refine pm_getT (pc := 25) (k := 16) pm_cl11 flX11_90 (by decide) rfl h0 dX11_tear_25 (fun hr6 => ?_)
  refine pm_iconst (pc := 28) (0 : Int32) (by decide) dX11_tear_28 ?_
  refine pm_putI (pc := 29) (k := 2) pm_cl0 flX11_121 (by decide) rfl rfl rfl hr6 dX11_tear_29 ?_
  obtain ⟨s7, es7, hf⟩ := pm_let_e hf
  refine pm_nmh es7 ?_
  refine pm_iload_n (pc := 32) 0 dX11_tear_32 rfl rfl ?_
  exact pm_iret rfl dX11_tear_33 (pm_ri_e hf)
def fX11_judge (S : pm_S) (a0 : Nat) (σ : pm_H) : Option (Int32 × pm_H) :=
  Option.bind (fX0_firstWrong S (σ.2 a0 16) (σ.2 a0 6) σ) fun u3 => some (u3.1, u3.2)
set_option maxRecDepth 100000 in
set_option maxHeartbeats 4000000 in
theorem KX11_judge (l : Launch) {S : pm_S} {p : Int32 × pm_H} {a0 : Nat} {σ : pm_H} (h0 : pm_is S a0 14) (hf : fX11_judge S a0 σ = some p) : pm_M l yX11_judge cX11_judge 1 (some .int) false 1 [.ref a0] S σ (pm_ri S p) := by
  refine pm_M.of (by decide +kernel) (Nat.le_of_ble_eq_true rfl) ?_
  show pm_E l yX11_judge cX11_judge 1 (some .int) false 1 S (pm_ri S p) 0 [(0, .ref a0)] [] S σ
  rw [fX11_judge] at hf
  refine pm_aload_n (pc := 0) 0 dX11_judge_0 rfl rfl h0.pos ?_
  refine pm_getT (pc := 1) (k := 16) pm_cl11 flX11_90 (by decide) rfl h0 dX11_judge_1 (fun hr1 => ?_)
  refine pm_aload_n (pc := 4) 0 dX11_judge_4 rfl rfl h0.pos ?_
  refine pm_getT (pc := 5) (k := 6) pm_cl11 flX11_37 (by decide) rfl h0 dX11_judge_5 (fun hr2 => ?_)
  obtain ⟨u3, hu3, hf⟩ := pm_bind_e hf
  refine pm_cVi (pc := 8) (as := [.ref (σ.2 a0 6)]) (st := []) mvX11_321 (KX0_firstWrong l hr1 hr2 hu3) (by decide) hr1 rfl rfl (Nat.le_of_ble_eq_true rfl) rfl dX11_judge_8 ?_
  exact pm_iret rfl dX11_judge_11 (pm_ri_e hf)
def fX11_seed (S : pm_S) (a0 : Nat) (a1 : Int32) (σ : pm_H) : Option (Int32 × pm_H) :=
  (if 0 ≤ a1 then pm_let (σ.1 a0 12) fun x1 => pm_let (pm_si σ a0 12 a1) fun s2 => some (x1, s2) else some ((-1000000002 : Int32), σ))
set_option maxRecDepth 100000 in
set_option maxHeartbeats 4000000 in
theorem KX11_seed (l : Launch) {S : pm_S} {p : Int32 × pm_H} {a0 : Nat} {a1 : Int32} {σ : pm_H} (h0 : pm_is S a0 14) (hf : fX11_seed S a0 a1 σ = some p) : pm_M l yX11_seed cX11_seed 3 (some .int) false 0 [.ref a0, .int a1] S σ (pm_ri S p) := by
  refine pm_M.of (by decide +kernel) (Nat.le_of_ble_eq_true rfl) ?_
  show pm_E l yX11_seed cX11_seed 3 (some .int) false 0 S (pm_ri S p) 0 [(0, .ref a0), (1, .int a1)] [] S σ
  rw [fX11_seed] at hf
  refine pm_iload_n (pc := 0) 1 dX11_seed_0 rfl rfl ?_
  refine pm_if_ge (pc := 1) 7 dX11_seed_1 (by decide) (fun hc3 => ?_) (fun hc3 => ?_)
  · rw [if_pos hc3] at hf
    refine pm_aload_n (pc := 7) 0 dX11_seed_7 rfl rfl h0.pos ?_
    refine pm_getI (pc := 8) (k := 12) pm_cl11 flX11_325 (by decide) rfl h0 dX11_seed_8 ?_
    obtain ⟨x1, ex1, hf⟩ := pm_let_e hf
    refine pm_nmi ex1 ?_
    refine pm_istore_n (pc := 11) [(2, .int x1), (0, .ref a0), (1, .int a1)] dX11_seed_11 rfl (by decide) rfl ?_
    refine pm_aload_n (pc := 12) 1 dX11_seed_12 rfl rfl h0.pos ?_
    refine pm_iload_n (pc := 13) 2 dX11_seed_13 rfl rfl ?_
    refine pm_putI (pc := 14) (k := 12) pm_cl11 flX11_325 (by decide) rfl rfl rfl h0 dX11_seed_14 ?_
    obtain ⟨s2, es2, hf⟩ := pm_let_e hf
    refine pm_nmh es2 ?_
    refine pm_iload_n (pc := 17) 0 dX11_seed_17 rfl rfl ?_
    exact pm_iret rfl dX11_seed_18 (pm_ri_e hf)
  · rw [if_neg hc3] at hf
    refine pm_ldc (pc := 4) kcX11_98 dX11_seed_4 ?_
    exact pm_iret rfl dX11_seed_6 (pm_ri_e hf)
def fX11_keep (S : pm_S) (a0 : Nat) (a1 : Int32) (σ : pm_H) : Option (Int32 × pm_H) :=
  Option.bind (fX11_within S a1 (0 : Int32) (1 : Int32) σ) fun u1 => (if u1.1 = 0 then some ((-1000000001 : Int32), u1.2) else (if pm_ib a1 (pm_len S (u1.2.2 a0 9)) = true then Option.bind (fX8_copyFrom S (u1.2.2 (u1.2.2 a0 9) (a1).toNatClampNeg) (u1.2.2 a0 6) u1.2) fun u6 => (if pm_ib a1 (pm_len S (u6.2 a0 11)) = true then pm_let (pm_si u6 (u6.2 a0 11) (a1).toNatClampNeg (u6.1 a0 12)) fun s9 => (if pm_ib a1 (pm_len S (s9.2 a0 10)) = true then pm_let (pm_si s9 (s9.2 a0 10) (a1).toNatClampNeg (1 : Int32)) fun s12 => Option.bind (fX3_forget S (s12.2 a0 8) s12) fun u14 => some ((1 : Int32), u14) else none) else none) else none))
set_option maxRecDepth 100000 in
set_option maxHeartbeats 4000000 in
theorem KX11_keep (l : Launch) {S : pm_S} {p : Int32 × pm_H} {a0 : Nat} {a1 : Int32} {σ : pm_H} (h0 : pm_is S a0 14) (hf : fX11_keep S a0 a1 σ = some p) : pm_M l yX11_keep cX11_keep 2 (some .int) false 3 [.ref a0, .int a1] S σ (pm_ri S p) := by
  refine pm_M.of (by decide +kernel) (Nat.le_of_ble_eq_true rfl) ?_
  show pm_E l yX11_keep cX11_keep 2 (some .int) false 3 S (pm_ri S p) 0 [(0, .ref a0), (1, .int a1)] [] S σ
  rw [fX11_keep] at hf
  refine pm_iload_n (pc := 0) 1 dX11_keep_0 rfl rfl ?_
  refine pm_iconst (pc := 1) (0 : Int32) (by decide) dX11_keep_1 ?_
  refine pm_iconst (pc := 2) (1 : Int32) (by decide) dX11_keep_2 ?_
  obtain ⟨u1, hu1, hf⟩ := pm_bind_e hf
  refine pm_cSi (pc := 3) (as := [.int a1, .int (0 : Int32), .int (1 : Int32)]) (st := []) msX11_94 (KX11_within l  hu1) (by decide) rfl rfl (Nat.le_of_ble_eq_true rfl) rfl dX11_keep_3 ?_
  refine pm_if_ne (pc := 6) 12 dX11_keep_6 (by decide) (fun hc15 => ?_) (fun hc15 => ?_)
  · rw [if_pos hc15] at hf
    refine pm_ldc (pc := 9) kcX11_179 dX11_keep_9 ?_
    exact pm_iret rfl dX11_keep_11 (pm_ri_e hf)
  · rw [if_neg hc15] at hf
    refine pm_aload_n (pc := 12) 0 dX11_keep_12 rfl rfl h0.pos ?_
    refine pm_getT (pc := 13) (k := 9) pm_cl11 flX11_55 (by decide) rfl h0 dX11_keep_13 (fun hr2 => ?_)
    refine pm_iload_n (pc := 16) 1 dX11_keep_16 rfl rfl ?_
    obtain ⟨hb3, hf⟩ := pm_gd hf
    refine pm_aald (pc := 17) hr2 (pm_ib_in hb3) dX11_keep_17 (fun hr4 => ?_)
    refine pm_aload_n (pc := 18) 0 dX11_keep_18 rfl rfl h0.pos ?_
    refine pm_getT (pc := 19) (k := 6) pm_cl11 flX11_37 (by decide) rfl h0 dX11_keep_19 (fun hr5 => ?_)
    obtain ⟨u6, hu6, hf⟩ := pm_bind_e hf
    refine pm_cVu (pc := 22) (as := [.ref (u1.2.2 a0 6)]) (st := []) mvX11_328 (KX8_copyFrom l hr4 hr5 hu6) (by decide) hr4 rfl rfl (Nat.le_of_ble_eq_true rfl) rfl dX11_keep_22 ?_
    refine pm_aload_n (pc := 25) 0 dX11_keep_25 rfl rfl h0.pos ?_
    refine pm_getT (pc := 26) (k := 11) pm_cl11 flX11_63 (by decide) rfl h0 dX11_keep_26 (fun hr7 => ?_)
    refine pm_iload_n (pc := 29) 1 dX11_keep_29 rfl rfl ?_
    refine pm_aload_n (pc := 30) 0 dX11_keep_30 rfl rfl h0.pos ?_
    refine pm_getI (pc := 31) (k := 12) pm_cl11 flX11_325 (by decide) rfl h0 dX11_keep_31 ?_
    obtain ⟨hb8, hf⟩ := pm_gd hf
    refine pm_iast (pc := 34) hr7 (pm_ib_in hb8) dX11_keep_34 ?_
    obtain ⟨s9, es9, hf⟩ := pm_let_e hf
    refine pm_nmh es9 ?_
    refine pm_aload_n (pc := 35) 0 dX11_keep_35 rfl rfl h0.pos ?_
    refine pm_getT (pc := 36) (k := 10) pm_cl11 flX11_59 (by decide) rfl h0 dX11_keep_36 (fun hr10 => ?_)
    refine pm_iload_n (pc := 39) 1 dX11_keep_39 rfl rfl ?_
    refine pm_iconst (pc := 40) (1 : Int32) (by decide) dX11_keep_40 ?_
    obtain ⟨hb11, hf⟩ := pm_gd hf
    refine pm_zast (pc := 41) hr10 (pm_ib_in hb11) (by decide) dX11_keep_41 ?_
    obtain ⟨s12, es12, hf⟩ := pm_let_e hf
    refine pm_nmh es12 ?_
    refine pm_aload_n (pc := 42) 0 dX11_keep_42 rfl rfl h0.pos ?_
    refine pm_getT (pc := 43) (k := 8) pm_cl11 flX11_51 (by decide) rfl h0 dX11_keep_43 (fun hr13 => ?_)
    obtain ⟨u14, hu14, hf⟩ := pm_bind_e hf
    refine pm_cVu (pc := 46) (as := []) (st := []) mvX11_115 (KX3_forget l hr13 hu14) (by decide) hr13 rfl rfl (Nat.le_of_ble_eq_true rfl) rfl dX11_keep_46 ?_
    refine pm_iconst (pc := 49) (1 : Int32) (by decide) dX11_keep_49 ?_
    exact pm_iret rfl dX11_keep_50 (pm_ri_e hf)
def fX11_goBack (S : pm_S) (a0 : Nat) (a1 : Int32) (σ : pm_H) : Option (Int32 × pm_H) :=
  Option.bind (fX11_within S a1 (0 : Int32) (1 : Int32) σ) fun u1 => (if u1.1 = 0 then some ((-1000000001 : Int32), u1.2) else (if pm_ib a1 (pm_len S (u1.2.2 a0 10)) = true then (if (u1.2.1 (u1.2.2 a0 10) (a1).toNatClampNeg) = 0 then some ((-1000000003 : Int32), u1.2) else (if pm_ib a1 (pm_len S (u1.2.2 a0 9)) = true then Option.bind (fX8_copyFrom S (u1.2.2 a0 6) (u1.2.2 (u1.2.2 a0 9) (a1).toNatClampNeg) u1.2) fun u8 => (if pm_ib a1 (pm_len S (u8.2 a0 11)) = true then pm_let (pm_si u8 a0 12 (u8.1 (u8.2 a0 11) (a1).toNatClampNeg)) fun s11 => Option.bind (fX3_forget S (s11.2 a0 8) s11) fun u13 => some ((1 : Int32), u13) else none) else none)) else none))
set_option maxRecDepth 100000 in
set_option maxHeartbeats 4000000 in
theorem KX11_goBack (l : Launch) {S : pm_S} {p : Int32 × pm_H} {a0 : Nat} {a1 : Int32} {σ : pm_H} (h0 : pm_is S a0 14) (hf : fX11_goBack S a0 a1 σ = some p) : pm_M l yX11_goBack cX11_goBack 2 (some .int) false 3 [.ref a0, .int a1] S σ (pm_ri S p) := by
  refine pm_M.of (by decide +kernel) (Nat.le_of_ble_eq_true rfl) ?_
  show pm_E l yX11_goBack cX11_goBack 2 (some .int) false 3 S (pm_ri S p) 0 [(0, .ref a0), (1, .int a1)] [] S σ
  rw [fX11_goBack] at hf
  refine pm_iload_n (pc := 0) 1 dX11_goBack_0 rfl rfl ?_
  refine pm_iconst (pc := 1) (0 : Int32) (by decide) dX11_goBack_1 ?_
  refine pm_iconst (pc := 2) (1 : Int32) (by decide) dX11_goBack_2 ?_
  obtain ⟨u1, hu1, hf⟩ := pm_bind_e hf
  refine pm_cSi (pc := 3) (as := [.int a1, .int (0 : Int32), .int (1 : Int32)]) (st := []) msX11_94 (KX11_within l  hu1) (by decide) rfl rfl (Nat.le_of_ble_eq_true rfl) rfl dX11_goBack_3 ?_
  refine pm_if_ne (pc := 6) 12 dX11_goBack_6 (by decide) (fun hc15 => ?_) (fun hc15 => ?_)
  · rw [if_pos hc15] at hf
    refine pm_ldc (pc := 9) kcX11_179 dX11_goBack_9 ?_
    exact pm_iret rfl dX11_goBack_11 (pm_ri_e hf)
  · rw [if_neg hc15] at hf
    refine pm_aload_n (pc := 12) 0 dX11_goBack_12 rfl rfl h0.pos ?_
    refine pm_getT (pc := 13) (k := 10) pm_cl11 flX11_59 (by decide) rfl h0 dX11_goBack_13 (fun hr2 => ?_)
    refine pm_iload_n (pc := 16) 1 dX11_goBack_16 rfl rfl ?_
    obtain ⟨hb3, hf⟩ := pm_gd hf
    refine pm_zald (pc := 17) hr2 (pm_ib_in hb3) dX11_goBack_17 ?_
    refine pm_if_ne (pc := 18) 24 dX11_goBack_18 (by decide) (fun hc14 => ?_) (fun hc14 => ?_)
    · rw [if_pos hc14] at hf
      refine pm_ldc (pc := 21) kcX11_168 dX11_goBack_21 ?_
      exact pm_iret rfl dX11_goBack_23 (pm_ri_e hf)
    · rw [if_neg hc14] at hf
      refine pm_aload_n (pc := 24) 0 dX11_goBack_24 rfl rfl h0.pos ?_
      refine pm_getT (pc := 25) (k := 6) pm_cl11 flX11_37 (by decide) rfl h0 dX11_goBack_25 (fun hr4 => ?_)
      refine pm_aload_n (pc := 28) 0 dX11_goBack_28 rfl rfl h0.pos ?_
      refine pm_getT (pc := 29) (k := 9) pm_cl11 flX11_55 (by decide) rfl h0 dX11_goBack_29 (fun hr5 => ?_)
      refine pm_iload_n (pc := 32) 1 dX11_goBack_32 rfl rfl ?_
      obtain ⟨hb6, hf⟩ := pm_gd hf
      refine pm_aald (pc := 33) hr5 (pm_ib_in hb6) dX11_goBack_33 (fun hr7 => ?_)
      obtain ⟨u8, hu8, hf⟩ := pm_bind_e hf
      refine pm_cVu (pc := 34) (as := [.ref (u1.2.2 (u1.2.2 a0 9) (a1).toNatClampNeg)]) (st := []) mvX11_328 (KX8_copyFrom l hr4 hr7 hu8) (by decide) hr4 rfl rfl (Nat.le_of_ble_eq_true rfl) rfl dX11_goBack_34 ?_
      refine pm_aload_n (pc := 37) 0 dX11_goBack_37 rfl rfl h0.pos ?_
      refine pm_aload_n (pc := 38) 0 dX11_goBack_38 rfl rfl h0.pos ?_
      refine pm_getT (pc := 39) (k := 11) pm_cl11 flX11_63 (by decide) rfl h0 dX11_goBack_39 (fun hr9 => ?_)
      refine pm_iload_n (pc := 42) 1 dX11_goBack_42 rfl rfl ?_
      obtain ⟨hb10, hf⟩ := pm_gd hf
      refine pm_iald (pc := 43) hr9 (pm_ib_in hb10) dX11_goBack_43 ?_
      refine pm_putI (pc := 44) (k := 12) pm_cl11 flX11_325 (by decide) rfl rfl rfl h0 dX11_goBack_44 ?_
      obtain ⟨s11, es11, hf⟩ := pm_let_e hf
      refine pm_nmh es11 ?_
      refine pm_aload_n (pc := 47) 0 dX11_goBack_47 rfl rfl h0.pos ?_
      refine pm_getT (pc := 48) (k := 8) pm_cl11 flX11_51 (by decide) rfl h0 dX11_goBack_48 (fun hr12 => ?_)
      obtain ⟨u13, hu13, hf⟩ := pm_bind_e hf
      refine pm_cVu (pc := 51) (as := []) (st := []) mvX11_115 (KX3_forget l hr12 hu13) (by decide) hr12 rfl rfl (Nat.le_of_ble_eq_true rfl) rfl dX11_goBack_51 ?_
      refine pm_iconst (pc := 54) (1 : Int32) (by decide) dX11_goBack_54 ?_
      exact pm_iret rfl dX11_goBack_55 (pm_ri_e hf)
