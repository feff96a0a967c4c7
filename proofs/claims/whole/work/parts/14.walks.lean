def fX12_canUse (S : pm_S) (a0 : Nat) (σ : pm_H) : Option (Int32 × pm_H) :=
  Option.bind (fX12_isRealm S a0 σ) fun u1 => (if u1.1 = 0 then some ((0 : Int32), u1.2) else (if pm_ib (2 : Int32) (pm_len S (u1.2.2 a0 11)) = true then (if (u1.2.1 (u1.2.2 a0 11) ((2 : Int32)).toNatClampNeg) = 0 then some ((1 : Int32), u1.2) else some ((0 : Int32), u1.2)) else none))
set_option maxRecDepth 100000 in
set_option maxHeartbeats 4000000 in
theorem KX12_canUse (l : Launch) {S : pm_S} {p : Int32 × pm_H} {a0 : Nat} {σ : pm_H} (h0 : pm_is S a0 15) (hf : fX12_canUse S a0 σ = some p) : pm_M l yX12_canUse cX12_canUse 1 (some .boolean) false 1 [.ref a0] S σ (pm_ri S p) := by
  refine pm_M.of (by decide +kernel) (Nat.le_of_ble_eq_true rfl) ?_
  show pm_E l yX12_canUse cX12_canUse 1 (some .boolean) false 1 S (pm_ri S p) 0 [(0, .ref a0)] [] S σ
  rw [fX12_canUse] at hf
  refine pm_aload_n (pc := 0) 0 dX12_canUse_0 rfl rfl h0.pos ?_
  obtain ⟨u1, hu1, hf⟩ := pm_bind_e hf
  refine pm_cVi (pc := 1) (as := []) (st := []) mvX12_208 (KX12_isRealm l h0 hu1) (by decide) h0 rfl rfl (Nat.le_of_ble_eq_true rfl) rfl dX12_canUse_1 ?_
  refine pm_if_eq (pc := 4) 20 dX12_canUse_4 (by decide) (fun hc5 => ?_) (fun hc5 => ?_)
  · rw [if_pos hc5] at hf
    refine pm_iconst (pc := 20) (0 : Int32) (by decide) dX12_canUse_20 ?_
    exact pm_zret rfl (by decide) dX12_canUse_21 (pm_ri_e hf)
  · rw [if_neg hc5] at hf
    refine pm_aload_n (pc := 7) 0 dX12_canUse_7 rfl rfl h0.pos ?_
    refine pm_getT (pc := 8) (k := 11) pm_cl12 flX12_25 (by decide) rfl h0 dX12_canUse_8 (fun hr2 => ?_)
    refine pm_iconst (pc := 11) (2 : Int32) (by decide) dX12_canUse_11 ?_
    obtain ⟨hb3, hf⟩ := pm_gd hf
    refine pm_iald (pc := 12) hr2 (pm_ib_in hb3) dX12_canUse_12 ?_
    refine pm_if_ne (pc := 13) 20 dX12_canUse_13 (by decide) (fun hc4 => ?_) (fun hc4 => ?_)
    · rw [if_pos hc4] at hf
      refine pm_iconst (pc := 16) (1 : Int32) (by decide) dX12_canUse_16 ?_
      refine pm_goto (pc := 17) 21 dX12_canUse_17 (by decide) ?_
      exact pm_zret rfl (by decide) dX12_canUse_21 (pm_ri_e hf)
    · rw [if_neg hc4] at hf
      refine pm_iconst (pc := 20) (0 : Int32) (by decide) dX12_canUse_20 ?_
      exact pm_zret rfl (by decide) dX12_canUse_21 (pm_ri_e hf)
def fX12_madeBy (S : pm_S) (a0 : Int32) (a1 : Int32) (σ : pm_H) : Option (Int32 × pm_H) :=
  some (((a0 * a1) / (12 : Int32)), σ)
set_option maxRecDepth 100000 in
set_option maxHeartbeats 4000000 in
theorem KX12_madeBy (l : Launch) {S : pm_S} {p : Int32 × pm_H} {a0 : Int32} {a1 : Int32} {σ : pm_H}  (hf : fX12_madeBy S a0 a1 σ = some p) : pm_M l yX12_madeBy cX12_madeBy 2 (some .int) false 0 [.int a0, .int a1] S σ (pm_ri S p) := by
  refine pm_M.of (by decide +kernel) (Nat.le_of_ble_eq_true rfl) ?_
  show pm_E l yX12_madeBy cX12_madeBy 2 (some .int) false 0 S (pm_ri S p) 0 [(0, .int a0), (1, .int a1)] [] S σ
  rw [fX12_madeBy] at hf
  refine pm_iload_n (pc := 0) 0 dX12_madeBy_0 rfl rfl ?_
  refine pm_iload_n (pc := 1) 1 dX12_madeBy_1 rfl rfl ?_
  refine pm_imul (pc := 2) dX12_madeBy_2 ?_
  refine pm_bipush (pc := 3) (12 : Int32) (by decide) dX12_madeBy_3 ?_
  refine pm_idiv (pc := 5) (by decide) dX12_madeBy_5 ?_
  exact pm_iret rfl dX12_madeBy_6 (pm_ri_e hf)
def fX12_makeNow_J95 (S : pm_S) (v0 : Nat) (v1 : Int32) (σ : pm_H) : Option (Int32 × pm_H) :=
  (if pm_ib (0 : Int32) (pm_len S (σ.2 v0 11)) = true then Option.bind (fX12_madeBy S (σ.1 (σ.2 v0 11) ((0 : Int32)).toNatClampNeg) v1 σ) fun u5 => (if pm_ib (1 : Int32) (pm_len S (u5.2.2 v0 11)) = true then pm_let (u5.1 + (u5.2.1 (u5.2.2 v0 11) ((1 : Int32)).toNatClampNeg)) fun x8 => (if pm_ib (4 : Int32) (pm_len S (u5.2.2 v0 11)) = true then (if pm_ib ((6 : Int32) + (u5.2.1 (u5.2.2 v0 11) ((4 : Int32)).toNatClampNeg)) (pm_len S (u5.2.2 v0 11)) = true then pm_let (pm_si u5.2 (u5.2.2 v0 11) (((6 : Int32) + (u5.2.1 (u5.2.2 v0 11) ((4 : Int32)).toNatClampNeg))).toNatClampNeg x8) fun s13 => (if pm_ib (4 : Int32) (pm_len S (s13.2 v0 11)) = true then (if pm_ib ((26 : Int32) + (s13.1 (s13.2 v0 11) ((4 : Int32)).toNatClampNeg)) (pm_len S (s13.2 v0 11)) = true then pm_let (pm_si s13 (s13.2 v0 11) (((26 : Int32) + (s13.1 (s13.2 v0 11) ((4 : Int32)).toNatClampNeg))).toNatClampNeg v1) fun s18 => (if pm_ib (4 : Int32) (pm_len S (s18.2 v0 11)) = true then (if pm_ib (3 : Int32) (pm_len S (s18.2 v0 11)) = true then (if pm_ib ((46 : Int32) + (s18.1 (s18.2 v0 11) ((4 : Int32)).toNatClampNeg)) (pm_len S (s18.2 v0 11)) = true then pm_let (pm_si s18 (s18.2 v0 11) (((46 : Int32) + (s18.1 (s18.2 v0 11) ((4 : Int32)).toNatClampNeg))).toNatClampNeg (s18.1 (s18.2 v0 11) ((3 : Int32)).toNatClampNeg)) fun s25 => (if pm_ib (4 : Int32) (pm_len S (s25.2 v0 11)) = true then (if pm_ib (4 : Int32) (pm_len S (s25.2 v0 11)) = true then pm_let (pm_si s25 (s25.2 v0 11) ((4 : Int32)).toNatClampNeg ((s25.1 (s25.2 v0 11) ((4 : Int32)).toNatClampNeg) + (1 : Int32))) fun s29 => some (x8, s29) else none) else none) else none) else none) else none) else none) else none) else none) else none) else none) else none)
set_option maxRecDepth 100000 in
set_option maxHeartbeats 4000000 in
theorem fX12_makeNow_J95_E (l : Launch) {S : pm_S} {p : Int32 × pm_H} {v0 : Nat} {v1 : Int32} {σ : pm_H} (h0 : pm_is S v0 15) (hf : fX12_makeNow_J95 S v0 v1 σ = some p) : pm_E l yX12_makeNow cX12_makeNow 3 (some .int) false 1 S (pm_ri S p) 95 [(0, .ref v0), (1, .int v1)] [] S σ := by
  rw [fX12_makeNow_J95] at hf
  refine pm_aload_n (pc := 95) 0 dX12_makeNow_95 rfl rfl h0.pos ?_
  refine pm_getT (pc := 96) (k := 11) pm_cl12 flX12_25 (by decide) rfl h0 dX12_makeNow_96 (fun hr3 => ?_)
  refine pm_iconst (pc := 99) (0 : Int32) (by decide) dX12_makeNow_99 ?_
  obtain ⟨hb4, hf⟩ := pm_gd hf
  refine pm_iald (pc := 100) hr3 (pm_ib_in hb4) dX12_makeNow_100 ?_
  refine pm_iload_n (pc := 101) 1 dX12_makeNow_101 rfl rfl ?_
  obtain ⟨u5, hu5, hf⟩ := pm_bind_e hf
  refine pm_cSi (pc := 102) (as := [.int (σ.1 (σ.2 v0 11) ((0 : Int32)).toNatClampNeg), .int v1]) (st := []) msX12_240 (KX12_madeBy l  hu5) (by decide) rfl rfl (Nat.le_of_ble_eq_true rfl) rfl dX12_makeNow_102 ?_
  refine pm_aload_n (pc := 105) 0 dX12_makeNow_105 rfl rfl h0.pos ?_
  refine pm_getT (pc := 106) (k := 11) pm_cl12 flX12_25 (by decide) rfl h0 dX12_makeNow_106 (fun hr6 => ?_)
  refine pm_iconst (pc := 109) (1 : Int32) (by decide) dX12_makeNow_109 ?_
  obtain ⟨hb7, hf⟩ := pm_gd hf
  refine pm_iald (pc := 110) hr6 (pm_ib_in hb7) dX12_makeNow_110 ?_
  refine pm_iadd (pc := 111) dX12_makeNow_111 ?_
  obtain ⟨x8, ex8, hf⟩ := pm_let_e hf
  refine pm_nmi ex8 ?_
  refine pm_istore_n (pc := 112) [(2, .int x8), (0, .ref v0), (1, .int v1)] dX12_makeNow_112 rfl (by decide) rfl ?_
  refine pm_aload_n (pc := 113) 1 dX12_makeNow_113 rfl rfl h0.pos ?_
  refine pm_getT (pc := 114) (k := 11) pm_cl12 flX12_25 (by decide) rfl h0 dX12_makeNow_114 (fun hr9 => ?_)
  refine pm_bipush (pc := 117) (6 : Int32) (by decide) dX12_makeNow_117 ?_
  refine pm_aload_n (pc := 119) 1 dX12_makeNow_119 rfl rfl h0.pos ?_
  refine pm_getT (pc := 120) (k := 11) pm_cl12 flX12_25 (by decide) rfl h0 dX12_makeNow_120 (fun hr10 => ?_)
  refine pm_iconst (pc := 123) (4 : Int32) (by decide) dX12_makeNow_123 ?_
  obtain ⟨hb11, hf⟩ := pm_gd hf
  refine pm_iald (pc := 124) hr10 (pm_ib_in hb11) dX12_makeNow_124 ?_
  refine pm_iadd (pc := 125) dX12_makeNow_125 ?_
  refine pm_iload_n (pc := 126) 0 dX12_makeNow_126 rfl rfl ?_
  obtain ⟨hb12, hf⟩ := pm_gd hf
  refine pm_iast (pc := 127) hr9 (pm_ib_in hb12) dX12_makeNow_127 ?_
  obtain ⟨s13, es13, hf⟩ := pm_let_e hf
  refine pm_nmh es13 ?_
  refine pm_aload_n (pc := 128) 1 dX12_makeNow_128 rfl rfl h0.pos ?_
  refine pm_getT (pc := 129) (k := 11) pm_cl12 flX12_25 (by decide) rfl h0 dX12_makeNow_129 (fun hr14 => ?_)
  refine pm_bipush (pc := 132) (26 : Int32) (by decide) dX12_makeNow_132 ?_
  refine pm_aload_n (pc := 134) 1 dX12_makeNow_134 rfl rfl h0.pos ?_
  refine pm_getT (pc := 135) (k := 11) pm_cl12 flX12_25 (by decide) rfl h0 dX12_makeNow_135 (fun hr15 => ?_)
  refine pm_iconst (pc := 138) (4 : Int32) (by decide) dX12_makeNow_138 ?_
  obtain ⟨hb16, hf⟩ := pm_gd hf
  refine pm_iald (pc := 139) hr15 (pm_ib_in hb16) dX12_makeNow_139 ?_
  refine pm_iadd (pc := 140) dX12_makeNow_140 ?_
  refine pm_iload_n (pc := 141) 2 dX12_makeNow_141 rfl rfl ?_
  obtain ⟨hb17, hf⟩ := pm_gd hf
  refine pm_iast (pc := 142) hr14 (pm_ib_in hb17) dX12_makeNow_142 ?_
  obtain ⟨s18, es18, hf⟩ := pm_let_e hf
  refine pm_nmh es18 ?_
  refine pm_aload_n (pc := 143) 1 dX12_makeNow_143 rfl rfl h0.pos ?_
  refine pm_getT (pc := 144) (k := 11) pm_cl12 flX12_25 (by decide) rfl h0 dX12_makeNow_144 (fun hr19 => ?_)
  refine pm_bipush (pc := 147) (46 : Int32) (by decide) dX12_makeNow_147 ?_
  refine pm_aload_n (pc := 149) 1 dX12_makeNow_149 rfl rfl h0.pos ?_
  refine pm_getT (pc := 150) (k := 11) pm_cl12 flX12_25 (by decide) rfl h0 dX12_makeNow_150 (fun hr20 => ?_)
  refine pm_iconst (pc := 153) (4 : Int32) (by decide) dX12_makeNow_153 ?_
  obtain ⟨hb21, hf⟩ := pm_gd hf
  refine pm_iald (pc := 154) hr20 (pm_ib_in hb21) dX12_makeNow_154 ?_
  refine pm_iadd (pc := 155) dX12_makeNow_155 ?_
  refine pm_aload_n (pc := 156) 1 dX12_makeNow_156 rfl rfl h0.pos ?_
  refine pm_getT (pc := 157) (k := 11) pm_cl12 flX12_25 (by decide) rfl h0 dX12_makeNow_157 (fun hr22 => ?_)
  refine pm_iconst (pc := 160) (3 : Int32) (by decide) dX12_makeNow_160 ?_
  obtain ⟨hb23, hf⟩ := pm_gd hf
  refine pm_iald (pc := 161) hr22 (pm_ib_in hb23) dX12_makeNow_161 ?_
  obtain ⟨hb24, hf⟩ := pm_gd hf
  refine pm_iast (pc := 162) hr19 (pm_ib_in hb24) dX12_makeNow_162 ?_
  obtain ⟨s25, es25, hf⟩ := pm_let_e hf
  refine pm_nmh es25 ?_
  refine pm_aload_n (pc := 163) 1 dX12_makeNow_163 rfl rfl h0.pos ?_
  refine pm_getT (pc := 164) (k := 11) pm_cl12 flX12_25 (by decide) rfl h0 dX12_makeNow_164 (fun hr26 => ?_)
  refine pm_iconst (pc := 167) (4 : Int32) (by decide) dX12_makeNow_167 ?_
  refine pm_dup2 (pc := 168) rfl rfl dX12_makeNow_168 ?_
  obtain ⟨hb27, hf⟩ := pm_gd hf
  refine pm_iald (pc := 169) hr26 (pm_ib_in hb27) dX12_makeNow_169 ?_
  refine pm_iconst (pc := 170) (1 : Int32) (by decide) dX12_makeNow_170 ?_
  refine pm_iadd (pc := 171) dX12_makeNow_171 ?_
  obtain ⟨hb28, hf⟩ := pm_gd hf
  refine pm_iast (pc := 172) hr26 (pm_ib_in hb28) dX12_makeNow_172 ?_
  obtain ⟨s29, es29, hf⟩ := pm_let_e hf
  refine pm_nmh es29 ?_
  refine pm_iload_n (pc := 173) 0 dX12_makeNow_173 rfl rfl ?_
  exact pm_iret rfl dX12_makeNow_174 (pm_ri_e hf)
def fX12_makeNow_L13 (S : pm_S) (v0 : Nat) (v1 : Int32) (kx : pm_H → Option (Int32 × pm_H)) : Nat → Int32 → pm_H → Option (Int32 × pm_H)
  | 0, _, _ => none
  | n + 1, v2, σ => (if (20 : Int32) ≤ v2 then kx σ else (if pm_ib ((6 : Int32) + v2) (pm_len S (σ.2 v0 11)) = true then (if pm_ib (((6 : Int32) + v2) - (1 : Int32)) (pm_len S (σ.2 v0 11)) = true then pm_let (pm_si σ (σ.2 v0 11) ((((6 : Int32) + v2) - (1 : Int32))).toNatClampNeg (σ.1 (σ.2 v0 11) (((6 : Int32) + v2)).toNatClampNeg)) fun s34 => (if pm_ib ((26 : Int32) + v2) (pm_len S (s34.2 v0 11)) = true then (if pm_ib (((26 : Int32) + v2) - (1 : Int32)) (pm_len S (s34.2 v0 11)) = true then pm_let (pm_si s34 (s34.2 v0 11) ((((26 : Int32) + v2) - (1 : Int32))).toNatClampNeg (s34.1 (s34.2 v0 11) (((26 : Int32) + v2)).toNatClampNeg)) fun s39 => (if pm_ib ((46 : Int32) + v2) (pm_len S (s39.2 v0 11)) = true then (if pm_ib (((46 : Int32) + v2) - (1 : Int32)) (pm_len S (s39.2 v0 11)) = true then pm_let (pm_si s39 (s39.2 v0 11) ((((46 : Int32) + v2) - (1 : Int32))).toNatClampNeg (s39.1 (s39.2 v0 11) (((46 : Int32) + v2)).toNatClampNeg)) fun s44 => fX12_makeNow_L13 S v0 v1 kx n (v2 + (1 : Int32)) s44 else none) else none) else none) else none) else none) else none))
set_option maxRecDepth 100000 in
set_option maxHeartbeats 4000000 in
theorem fX12_makeNow_L13_E (l : Launch) {S : pm_S} {p : Int32 × pm_H} {v0 : Nat} {v1 : Int32} {kx : pm_H → Option (Int32 × pm_H)} (h0 : pm_is S v0 15) (hkx : ∀  sw, kx  sw = some p → pm_E l yX12_makeNow cX12_makeNow 3 (some .int) false 1 S (pm_ri S p) 85 [(0, .ref v0), (1, .int v1)] [] S sw) : ∀ (n : Nat) (v2 : Int32) (σ : pm_H), fX12_makeNow_L13 S v0 v1 kx n v2 σ = some p → pm_E l yX12_makeNow cX12_makeNow 3 (some .int) false 1 S (pm_ri S p) 13 [(0, .ref v0), (1, .int v1), (2, .int v2)] [] S σ := by
  intro n
  induction n with
  | zero => intro v2 σ hf; cases hf
  | succ n ih =>
    intro v2 σ hf
    rw [fX12_makeNow_L13] at hf
    refine pm_iload_n (pc := 13) 2 dX12_makeNow_13 rfl rfl ?_
    refine pm_bipush (pc := 14) (20 : Int32) (by decide) dX12_makeNow_14 ?_
    refine pm_icmp_ge (pc := 16) 85 dX12_makeNow_16 (by decide) (fun hc45 => ?_) (fun hc45 => ?_)
    · rw [if_pos hc45] at hf
      refine pm_lv [(0, .ref v0), (1, .int v1)] [0, 1] rfl ?_
      exact hkx σ hf
    · rw [if_neg hc45] at hf
      refine pm_aload_n (pc := 19) 0 dX12_makeNow_19 rfl rfl h0.pos ?_
      refine pm_getT (pc := 20) (k := 11) pm_cl12 flX12_25 (by decide) rfl h0 dX12_makeNow_20 (fun hr30 => ?_)
      refine pm_bipush (pc := 23) (6 : Int32) (by decide) dX12_makeNow_23 ?_
      refine pm_iload_n (pc := 25) 2 dX12_makeNow_25 rfl rfl ?_
      refine pm_iadd (pc := 26) dX12_makeNow_26 ?_
      refine pm_iconst (pc := 27) (1 : Int32) (by decide) dX12_makeNow_27 ?_
      refine pm_isub (pc := 28) dX12_makeNow_28 ?_
      refine pm_aload_n (pc := 29) 0 dX12_makeNow_29 rfl rfl h0.pos ?_
      refine pm_getT (pc := 30) (k := 11) pm_cl12 flX12_25 (by decide) rfl h0 dX12_makeNow_30 (fun hr31 => ?_)
      refine pm_bipush (pc := 33) (6 : Int32) (by decide) dX12_makeNow_33 ?_
      refine pm_iload_n (pc := 35) 2 dX12_makeNow_35 rfl rfl ?_
      refine pm_iadd (pc := 36) dX12_makeNow_36 ?_
      obtain ⟨hb32, hf⟩ := pm_gd hf
      refine pm_iald (pc := 37) hr31 (pm_ib_in hb32) dX12_makeNow_37 ?_
      obtain ⟨hb33, hf⟩ := pm_gd hf
      refine pm_iast (pc := 38) hr30 (pm_ib_in hb33) dX12_makeNow_38 ?_
      obtain ⟨s34, es34, hf⟩ := pm_let_e hf
      refine pm_nmh es34 ?_
      refine pm_aload_n (pc := 39) 0 dX12_makeNow_39 rfl rfl h0.pos ?_
      refine pm_getT (pc := 40) (k := 11) pm_cl12 flX12_25 (by decide) rfl h0 dX12_makeNow_40 (fun hr35 => ?_)
      refine pm_bipush (pc := 43) (26 : Int32) (by decide) dX12_makeNow_43 ?_
      refine pm_iload_n (pc := 45) 2 dX12_makeNow_45 rfl rfl ?_
      refine pm_iadd (pc := 46) dX12_makeNow_46 ?_
      refine pm_iconst (pc := 47) (1 : Int32) (by decide) dX12_makeNow_47 ?_
      refine pm_isub (pc := 48) dX12_makeNow_48 ?_
      refine pm_aload_n (pc := 49) 0 dX12_makeNow_49 rfl rfl h0.pos ?_
      refine pm_getT (pc := 50) (k := 11) pm_cl12 flX12_25 (by decide) rfl h0 dX12_makeNow_50 (fun hr36 => ?_)
      refine pm_bipush (pc := 53) (26 : Int32) (by decide) dX12_makeNow_53 ?_
      refine pm_iload_n (pc := 55) 2 dX12_makeNow_55 rfl rfl ?_
      refine pm_iadd (pc := 56) dX12_makeNow_56 ?_
      obtain ⟨hb37, hf⟩ := pm_gd hf
      refine pm_iald (pc := 57) hr36 (pm_ib_in hb37) dX12_makeNow_57 ?_
      obtain ⟨hb38, hf⟩ := pm_gd hf
      refine pm_iast (pc := 58) hr35 (pm_ib_in hb38) dX12_makeNow_58 ?_
      obtain ⟨s39, es39, hf⟩ := pm_let_e hf
      refine pm_nmh es39 ?_
      refine pm_aload_n (pc := 59) 0 dX12_makeNow_59 rfl rfl h0.pos ?_
      refine pm_getT (pc := 60) (k := 11) pm_cl12 flX12_25 (by decide) rfl h0 dX12_makeNow_60 (fun hr40 => ?_)
      refine pm_bipush (pc := 63) (46 : Int32) (by decide) dX12_makeNow_63 ?_
      refine pm_iload_n (pc := 65) 2 dX12_makeNow_65 rfl rfl ?_
      refine pm_iadd (pc := 66) dX12_makeNow_66 ?_
      refine pm_iconst (pc := 67) (1 : Int32) (by decide) dX12_makeNow_67 ?_
      refine pm_isub (pc := 68) dX12_makeNow_68 ?_
      refine pm_aload_n (pc := 69) 0 dX12_makeNow_69 rfl rfl h0.pos ?_
      refine pm_getT (pc := 70) (k := 11) pm_cl12 flX12_25 (by decide) rfl h0 dX12_makeNow_70 (fun hr41 => ?_)
      refine pm_bipush (pc := 73) (46 : Int32) (by decide) dX12_makeNow_73 ?_
      refine pm_iload_n (pc := 75) 2 dX12_makeNow_75 rfl rfl ?_
      refine pm_iadd (pc := 76) dX12_makeNow_76 ?_
      obtain ⟨hb42, hf⟩ := pm_gd hf
      refine pm_iald (pc := 77) hr41 (pm_ib_in hb42) dX12_makeNow_77 ?_
      obtain ⟨hb43, hf⟩ := pm_gd hf
      refine pm_iast (pc := 78) hr40 (pm_ib_in hb43) dX12_makeNow_78 ?_
      obtain ⟨s44, es44, hf⟩ := pm_let_e hf
      refine pm_nmh es44 ?_
      refine pm_iinc (pc := 79) 2 (v2 + (1 : Int32)) [(2, .int (v2 + (1 : Int32))), (0, .ref v0), (1, .int v1)] dX12_makeNow_79 rfl rfl (by decide) rfl ?_
      refine pm_goto (pc := 82) 13 dX12_makeNow_82 (by decide) ?_
      refine pm_lv [(0, .ref v0), (1, .int v1), (2, .int (v2 + (1 : Int32)))] [1, 2, 0] rfl ?_
      exact ih (v2 + (1 : Int32)) s44 hf
def fX12_makeNow (S : pm_S) (a0 : Nat) (a1 : Int32) (σ : pm_H) : Option (Int32 × pm_H) :=
  (if pm_ib (4 : Int32) (pm_len S (σ.2 a0 11)) = true then (if (σ.1 (σ.2 a0 11) ((4 : Int32)).toNatClampNeg) = (20 : Int32) then fX12_makeNow_L13 S a0 a1 (fun s46 => (if pm_ib (4 : Int32) (pm_len S (s46.2 a0 11)) = true then (if pm_ib (4 : Int32) (pm_len S (s46.2 a0 11)) = true then pm_let (pm_si s46 (s46.2 a0 11) ((4 : Int32)).toNatClampNeg ((s46.1 (s46.2 a0 11) ((4 : Int32)).toNatClampNeg) - (1 : Int32))) fun s50 => fX12_makeNow_J95 S a0 a1 s50 else none) else none)) pm_fuel (1 : Int32) σ else fX12_makeNow_J95 S a0 a1 σ) else none)
set_option maxRecDepth 100000 in
set_option maxHeartbeats 4000000 in
theorem KX12_makeNow (l : Launch) {S : pm_S} {p : Int32 × pm_H} {a0 : Nat} {a1 : Int32} {σ : pm_H} (h0 : pm_is S a0 15) (hf : fX12_makeNow S a0 a1 σ = some p) : pm_M l yX12_makeNow cX12_makeNow 3 (some .int) false 1 [.ref a0, .int a1] S σ (pm_ri S p) := by
  refine pm_M.of (by decide +kernel) (Nat.le_of_ble_eq_true rfl) ?_
  show pm_E l yX12_makeNow cX12_makeNow 3 (some .int) false 1 S (pm_ri S p) 0 [(0, .ref a0), (1, .int a1)] [] S σ
  rw [fX12_makeNow] at hf
  refine pm_aload_n (pc := 0) 0 dX12_makeNow_0 rfl rfl h0.pos ?_
  refine pm_getT (pc := 1) (k := 11) pm_cl12 flX12_25 (by decide) rfl h0 dX12_makeNow_1 (fun hr1 => ?_)
  refine pm_iconst (pc := 4) (4 : Int32) (by decide) dX12_makeNow_4 ?_
  obtain ⟨hb2, hf⟩ := pm_gd hf
  refine pm_iald (pc := 5) hr1 (pm_ib_in hb2) dX12_makeNow_5 ?_
  refine pm_bipush (pc := 6) (20 : Int32) (by decide) dX12_makeNow_6 ?_
  refine pm_icmp_ne (pc := 8) 95 dX12_makeNow_8 (by decide) (fun hc51 => ?_) (fun hc51 => ?_)
  · rw [if_pos hc51] at hf
    refine pm_iconst (pc := 11) (1 : Int32) (by decide) dX12_makeNow_11 ?_
    refine pm_istore_n (pc := 12) [(2, .int (1 : Int32)), (0, .ref a0), (1, .int a1)] dX12_makeNow_12 rfl (by decide) rfl ?_
    refine pm_lv [(0, .ref a0), (1, .int a1), (2, .int (1 : Int32))] [1, 2, 0] rfl ?_
    refine fX12_makeNow_L13_E l h0 (fun s46 hf => ?_) pm_fuel (1 : Int32) σ hf
    refine pm_aload_n (pc := 85) 0 dX12_makeNow_85 rfl rfl h0.pos ?_
    refine pm_getT (pc := 86) (k := 11) pm_cl12 flX12_25 (by decide) rfl h0 dX12_makeNow_86 (fun hr47 => ?_)
    refine pm_iconst (pc := 89) (4 : Int32) (by decide) dX12_makeNow_89 ?_
    refine pm_dup2 (pc := 90) rfl rfl dX12_makeNow_90 ?_
    obtain ⟨hb48, hf⟩ := pm_gd hf
    refine pm_iald (pc := 91) hr47 (pm_ib_in hb48) dX12_makeNow_91 ?_
    refine pm_iconst (pc := 92) (1 : Int32) (by decide) dX12_makeNow_92 ?_
    refine pm_isub (pc := 93) dX12_makeNow_93 ?_
    obtain ⟨hb49, hf⟩ := pm_gd hf
    refine pm_iast (pc := 94) hr47 (pm_ib_in hb49) dX12_makeNow_94 ?_
    obtain ⟨s50, es50, hf⟩ := pm_let_e hf
    refine pm_nmh es50 ?_
    refine pm_lv [(0, .ref a0), (1, .int a1)] [0, 1] rfl ?_
    exact fX12_makeNow_J95_E l h0 hf
  · rw [if_neg hc51] at hf
    refine pm_lv [(0, .ref a0), (1, .int a1)] [0, 1] rfl ?_
    exact fX12_makeNow_J95_E l h0 hf
def fX12_make (S : pm_S) (a0 : Nat) (a1 : Int32) (a2 : Int32) (σ : pm_H) : Option (Int32 × pm_H) :=
  Option.bind (fX12_in S a1.toInt64 (0 : Int64) (20 : Int64) σ) fun u1 => (if u1.1 = 0 then some ((-1000000002 : Int32), u1.2) else Option.bind (fX12_in S a2.toInt64 (0 : Int64) (11 : Int64) u1.2) fun u2 => (if u2.1 = 0 then some ((-1000000002 : Int32), u2.2) else Option.bind (fX12_canUse S a0 u2.2) fun u3 => (if u3.1 = 0 then some ((-1000000003 : Int32), u3.2) else Option.bind (fX12_remember S a0 u3.2) fun u4 => Option.bind (fX12_makeNow S a0 (((12 : Int32) * a1) + a2) u4) fun u5 => some ((u5.1 + (1000 : Int32)), u5.2))))
set_option maxRecDepth 100000 in
set_option maxHeartbeats 4000000 in
theorem KX12_make (l : Launch) {S : pm_S} {p : Int32 × pm_H} {a0 : Nat} {a1 : Int32} {a2 : Int32} {σ : pm_H} (h0 : pm_is S a0 15) (hf : fX12_make S a0 a1 a2 σ = some p) : pm_M l yX12_make cX12_make 3 (some .int) false 2 [.ref a0, .int a1, .int a2] S σ (pm_ri S p) := by
  refine pm_M.of (by decide +kernel) (Nat.le_of_ble_eq_true rfl) ?_
  show pm_E l yX12_make cX12_make 3 (some .int) false 2 S (pm_ri S p) 0 [(0, .ref a0), (1, .int a1), (2, .int a2)] [] S σ
  rw [fX12_make] at hf
  refine pm_iload_n (pc := 0) 1 dX12_make_0 rfl rfl ?_
  refine pm_i2l (pc := 1) dX12_make_1 ?_
  refine pm_lconst (pc := 2) (0 : Int64) (by decide) dX12_make_2 ?_
  refine pm_ldc2 (pc := 3) klX12_243 dX12_make_3 ?_
  obtain ⟨u1, hu1, hf⟩ := pm_bind_e hf
  refine pm_cSi (pc := 6) (as := [.long a1.toInt64, .long (0 : Int64), .long (20 : Int64)]) (st := []) msX12_87 (KX12_in l  hu1) (by decide) rfl rfl (Nat.le_of_ble_eq_true rfl) rfl dX12_make_6 ?_
  refine pm_if_eq (pc := 9) 24 dX12_make_9 (by decide) (fun hc8 => ?_) (fun hc8 => ?_)
  · rw [if_pos hc8] at hf
    refine pm_ldc (pc := 24) kcX12_96 dX12_make_24 ?_
    exact pm_iret rfl dX12_make_26 (pm_ri_e hf)
  · rw [if_neg hc8] at hf
    refine pm_iload_n (pc := 12) 2 dX12_make_12 rfl rfl ?_
    refine pm_i2l (pc := 13) dX12_make_13 ?_
    refine pm_lconst (pc := 14) (0 : Int64) (by decide) dX12_make_14 ?_
    refine pm_ldc2 (pc := 15) klX12_245 dX12_make_15 ?_
    obtain ⟨u2, hu2, hf⟩ := pm_bind_e hf
    refine pm_cSi (pc := 18) (as := [.long a2.toInt64, .long (0 : Int64), .long (11 : Int64)]) (st := []) msX12_87 (KX12_in l  hu2) (by decide) rfl rfl (Nat.le_of_ble_eq_true rfl) rfl dX12_make_18 ?_
    refine pm_if_ne (pc := 21) 27 dX12_make_21 (by decide) (fun hc7 => ?_) (fun hc7 => ?_)
    · rw [if_pos hc7] at hf
      refine pm_ldc (pc := 24) kcX12_96 dX12_make_24 ?_
      exact pm_iret rfl dX12_make_26 (pm_ri_e hf)
    · rw [if_neg hc7] at hf
      refine pm_aload_n (pc := 27) 0 dX12_make_27 rfl rfl h0.pos ?_
      obtain ⟨u3, hu3, hf⟩ := pm_bind_e hf
      refine pm_cVi (pc := 28) (as := []) (st := []) mvX12_247 (KX12_canUse l h0 hu3) (by decide) h0 rfl rfl (Nat.le_of_ble_eq_true rfl) rfl dX12_make_28 ?_
      refine pm_if_ne (pc := 31) 37 dX12_make_31 (by decide) (fun hc6 => ?_) (fun hc6 => ?_)
      · rw [if_pos hc6] at hf
        refine pm_ldc (pc := 34) kcX12_212 dX12_make_34 ?_
        exact pm_iret rfl dX12_make_36 (pm_ri_e hf)
      · rw [if_neg hc6] at hf
        refine pm_aload_n (pc := 37) 0 dX12_make_37 rfl rfl h0.pos ?_
        obtain ⟨u4, hu4, hf⟩ := pm_bind_e hf
        refine pm_cVu (pc := 38) (as := []) (st := []) mvX12_234 (KX12_remember l h0 hu4) (by decide) h0 rfl rfl (Nat.le_of_ble_eq_true rfl) rfl dX12_make_38 ?_
        refine pm_aload_n (pc := 41) 0 dX12_make_41 rfl rfl h0.pos ?_
        refine pm_bipush (pc := 42) (12 : Int32) (by decide) dX12_make_42 ?_
        refine pm_iload_n (pc := 44) 1 dX12_make_44 rfl rfl ?_
        refine pm_imul (pc := 45) dX12_make_45 ?_
        refine pm_iload_n (pc := 46) 2 dX12_make_46 rfl rfl ?_
        refine pm_iadd (pc := 47) dX12_make_47 ?_
        obtain ⟨u5, hu5, hf⟩ := pm_bind_e hf
        refine pm_cVi (pc := 48) (as := [.int (((12 : Int32) * a1) + a2)]) (st := []) mvX12_250 (KX12_makeNow l h0 hu5) (by decide) h0 rfl rfl (Nat.le_of_ble_eq_true rfl) rfl dX12_make_48 ?_
        refine pm_sipush (pc := 51) (1000 : Int32) (by decide) dX12_make_51 ?_
        refine pm_iadd (pc := 54) dX12_make_54 ?_
        exact pm_iret rfl dX12_make_55 (pm_ri_e hf)
def fX12_warp (S : pm_S) (a0 : Nat) (a1 : Int32) (σ : pm_H) : Option (Int32 × pm_H) :=
  Option.bind (fX12_in S a1.toInt64 (-99 : Int64) (99 : Int64) σ) fun u1 => (if u1.1 = 0 then some ((-1000000002 : Int32), u1.2) else Option.bind (fX12_canUse S a0 u1.2) fun u2 => (if u2.1 = 0 then some ((-1000000003 : Int32), u2.2) else Option.bind (fX12_remember S a0 u2.2) fun u3 => (if pm_ib (1 : Int32) (pm_len S (u3.2 a0 11)) = true then pm_let (u3.1 (u3.2 a0 11) ((1 : Int32)).toNatClampNeg) fun x6 => (if pm_ib (1 : Int32) (pm_len S (u3.2 a0 11)) = true then pm_let (pm_si u3 (u3.2 a0 11) ((1 : Int32)).toNatClampNeg a1) fun s9 => some ((x6 + (1000 : Int32)), s9) else none) else none)))
set_option maxRecDepth 100000 in
set_option maxHeartbeats 4000000 in
theorem KX12_warp (l : Launch) {S : pm_S} {p : Int32 × pm_H} {a0 : Nat} {a1 : Int32} {σ : pm_H} (h0 : pm_is S a0 15) (hf : fX12_warp S a0 a1 σ = some p) : pm_M l yX12_warp cX12_warp 3 (some .int) false 2 [.ref a0, .int a1] S σ (pm_ri S p) := by
  refine pm_M.of (by decide +kernel) (Nat.le_of_ble_eq_true rfl) ?_
  show pm_E l yX12_warp cX12_warp 3 (some .int) false 2 S (pm_ri S p) 0 [(0, .ref a0), (1, .int a1)] [] S σ
  rw [fX12_warp] at hf
  refine pm_iload_n (pc := 0) 1 dX12_warp_0 rfl rfl ?_
  refine pm_i2l (pc := 1) dX12_warp_1 ?_
  refine pm_ldc2 (pc := 2) klX12_253 dX12_warp_2 ?_
  refine pm_ldc2 (pc := 5) klX12_255 dX12_warp_5 ?_
  obtain ⟨u1, hu1, hf⟩ := pm_bind_e hf
  refine pm_cSi (pc := 8) (as := [.long a1.toInt64, .long (-99 : Int64), .long (99 : Int64)]) (st := []) msX12_87 (KX12_in l  hu1) (by decide) rfl rfl (Nat.le_of_ble_eq_true rfl) rfl dX12_warp_8 ?_
  refine pm_if_ne (pc := 11) 17 dX12_warp_11 (by decide) (fun hc11 => ?_) (fun hc11 => ?_)
  · rw [if_pos hc11] at hf
    refine pm_ldc (pc := 14) kcX12_96 dX12_warp_14 ?_
    exact pm_iret rfl dX12_warp_16 (pm_ri_e hf)
  · rw [if_neg hc11] at hf
    refine pm_aload_n (pc := 17) 0 dX12_warp_17 rfl rfl h0.pos ?_
    obtain ⟨u2, hu2, hf⟩ := pm_bind_e hf
    refine pm_cVi (pc := 18) (as := []) (st := []) mvX12_247 (KX12_canUse l h0 hu2) (by decide) h0 rfl rfl (Nat.le_of_ble_eq_true rfl) rfl dX12_warp_18 ?_
    refine pm_if_ne (pc := 21) 27 dX12_warp_21 (by decide) (fun hc10 => ?_) (fun hc10 => ?_)
    · rw [if_pos hc10] at hf
      refine pm_ldc (pc := 24) kcX12_212 dX12_warp_24 ?_
      exact pm_iret rfl dX12_warp_26 (pm_ri_e hf)
    · rw [if_neg hc10] at hf
      refine pm_aload_n (pc := 27) 0 dX12_warp_27 rfl rfl h0.pos ?_
      obtain ⟨u3, hu3, hf⟩ := pm_bind_e hf
      refine pm_cVu (pc := 28) (as := []) (st := []) mvX12_234 (KX12_remember l h0 hu3) (by decide) h0 rfl rfl (Nat.le_of_ble_eq_true rfl) rfl dX12_warp_28 ?_
      refine pm_aload_n (pc := 31) 0 dX12_warp_31 rfl rfl h0.pos ?_
      refine pm_getT (pc := 32) (k := 11) pm_cl12 flX12_25 (by decide) rfl h0 dX12_warp_32 (fun hr4 => ?_)
      refine pm_iconst (pc := 35) (1 : Int32) (by decide) dX12_warp_35 ?_
      obtain ⟨hb5, hf⟩ := pm_gd hf
      refine pm_iald (pc := 36) hr4 (pm_ib_in hb5) dX12_warp_36 ?_
      obtain ⟨x6, ex6, hf⟩ := pm_let_e hf
      refine pm_nmi ex6 ?_
      refine pm_istore_n (pc := 37) [(2, .int x6), (0, .ref a0), (1, .int a1)] dX12_warp_37 rfl (by decide) rfl ?_
      refine pm_aload_n (pc := 38) 1 dX12_warp_38 rfl rfl h0.pos ?_
      refine pm_getT (pc := 39) (k := 11) pm_cl12 flX12_25 (by decide) rfl h0 dX12_warp_39 (fun hr7 => ?_)
      refine pm_iconst (pc := 42) (1 : Int32) (by decide) dX12_warp_42 ?_
      refine pm_iload_n (pc := 43) 2 dX12_warp_43 rfl rfl ?_
      obtain ⟨hb8, hf⟩ := pm_gd hf
      refine pm_iast (pc := 44) hr7 (pm_ib_in hb8) dX12_warp_44 ?_
      obtain ⟨s9, es9, hf⟩ := pm_let_e hf
      refine pm_nmh es9 ?_
      refine pm_iload_n (pc := 45) 0 dX12_warp_45 rfl rfl ?_
      refine pm_sipush (pc := 46) (1000 : Int32) (by decide) dX12_warp_46 ?_
      refine pm_iadd (pc := 49) dX12_warp_49 ?_
      exact pm_iret rfl dX12_warp_50 (pm_ri_e hf)
def fX12_planed (S : pm_S) (a0 : Int32) (a1 : Int32) (σ : pm_H) : Option (Int32 × pm_H) :=
  Option.bind (fX12_size S a1 σ) fun u1 => (if a0 ≤ u1.1 then some ((1 : Int32), u1.2) else Option.bind (fX12_size S a1 u1.2) fun u2 => some ((a0 - u2.1), u2.2))
set_option maxRecDepth 100000 in
set_option maxHeartbeats 4000000 in
theorem KX12_planed (l : Launch) {S : pm_S} {p : Int32 × pm_H} {a0 : Int32} {a1 : Int32} {σ : pm_H}  (hf : fX12_planed S a0 a1 σ = some p) : pm_M l yX12_planed cX12_planed 2 (some .int) false 1 [.int a0, .int a1] S σ (pm_ri S p) := by
  refine pm_M.of (by decide +kernel) (Nat.le_of_ble_eq_true rfl) ?_
  show pm_E l yX12_planed cX12_planed 2 (some .int) false 1 S (pm_ri S p) 0 [(0, .int a0), (1, .int a1)] [] S σ
  rw [fX12_planed] at hf
  refine pm_iload_n (pc := 0) 0 dX12_planed_0 rfl rfl ?_
  refine pm_iload_n (pc := 1) 1 dX12_planed_1 rfl rfl ?_
  obtain ⟨u1, hu1, hf⟩ := pm_bind_e hf
  refine pm_cSi (pc := 2) (as := [.int a1]) (st := [.int a0]) msX12_257 (KX12_size l  hu1) (by decide) rfl rfl (Nat.le_of_ble_eq_true rfl) rfl dX12_planed_2 ?_
  refine pm_icmp_le (pc := 5) 17 dX12_planed_5 (by decide) (fun hc3 => ?_) (fun hc3 => ?_)
  · rw [if_pos hc3] at hf
    refine pm_iconst (pc := 17) (1 : Int32) (by decide) dX12_planed_17 ?_
    exact pm_iret rfl dX12_planed_18 (pm_ri_e hf)
  · rw [if_neg hc3] at hf
    refine pm_iload_n (pc := 8) 0 dX12_planed_8 rfl rfl ?_
    refine pm_iload_n (pc := 9) 1 dX12_planed_9 rfl rfl ?_
    obtain ⟨u2, hu2, hf⟩ := pm_bind_e hf
    refine pm_cSi (pc := 10) (as := [.int a1]) (st := [.int a0]) msX12_257 (KX12_size l  hu2) (by decide) rfl rfl (Nat.le_of_ble_eq_true rfl) rfl dX12_planed_10 ?_
    refine pm_isub (pc := 13) dX12_planed_13 ?_
    refine pm_goto (pc := 14) 18 dX12_planed_14 (by decide) ?_
    exact pm_iret rfl dX12_planed_18 (pm_ri_e hf)
def fX12_plane (S : pm_S) (a0 : Nat) (σ : pm_H) : Option (Int32 × pm_H) :=
  Option.bind (fX12_canUse S a0 σ) fun u1 => (if u1.1 = 0 then some ((-1000000003 : Int32), u1.2) else Option.bind (fX12_remember S a0 u1.2) fun u2 => (if pm_ib (0 : Int32) (pm_len S (u2.2 a0 11)) = true then (if pm_ib (1 : Int32) (pm_len S (u2.2 a0 11)) = true then Option.bind (fX12_planed S (u2.1 (u2.2 a0 11) ((0 : Int32)).toNatClampNeg) (u2.1 (u2.2 a0 11) ((1 : Int32)).toNatClampNeg) u2) fun u8 => (if pm_ib (0 : Int32) (pm_len S (u2.2 a0 11)) = true then pm_let (pm_si u8.2 (u2.2 a0 11) ((0 : Int32)).toNatClampNeg u8.1) fun s10 => (if pm_ib (1 : Int32) (pm_len S (s10.2 a0 11)) = true then pm_let (pm_si s10 (s10.2 a0 11) ((1 : Int32)).toNatClampNeg (0 : Int32)) fun s13 => (if pm_ib (0 : Int32) (pm_len S (s13.2 a0 11)) = true then some ((s13.1 (s13.2 a0 11) ((0 : Int32)).toNatClampNeg), s13) else none) else none) else none) else none) else none))
set_option maxRecDepth 100000 in
set_option maxHeartbeats 4000000 in
theorem KX12_plane (l : Launch) {S : pm_S} {p : Int32 × pm_H} {a0 : Nat} {σ : pm_H} (h0 : pm_is S a0 15) (hf : fX12_plane S a0 σ = some p) : pm_M l yX12_plane cX12_plane 1 (some .int) false 2 [.ref a0] S σ (pm_ri S p) := by
  refine pm_M.of (by decide +kernel) (Nat.le_of_ble_eq_true rfl) ?_
  show pm_E l yX12_plane cX12_plane 1 (some .int) false 2 S (pm_ri S p) 0 [(0, .ref a0)] [] S σ
  rw [fX12_plane] at hf
  refine pm_aload_n (pc := 0) 0 dX12_plane_0 rfl rfl h0.pos ?_
  obtain ⟨u1, hu1, hf⟩ := pm_bind_e hf
  refine pm_cVi (pc := 1) (as := []) (st := []) mvX12_247 (KX12_canUse l h0 hu1) (by decide) h0 rfl rfl (Nat.le_of_ble_eq_true rfl) rfl dX12_plane_1 ?_
  refine pm_if_ne (pc := 4) 10 dX12_plane_4 (by decide) (fun hc16 => ?_) (fun hc16 => ?_)
  · rw [if_pos hc16] at hf
    refine pm_ldc (pc := 7) kcX12_212 dX12_plane_7 ?_
    exact pm_iret rfl dX12_plane_9 (pm_ri_e hf)
  · rw [if_neg hc16] at hf
    refine pm_aload_n (pc := 10) 0 dX12_plane_10 rfl rfl h0.pos ?_
    obtain ⟨u2, hu2, hf⟩ := pm_bind_e hf
    refine pm_cVu (pc := 11) (as := []) (st := []) mvX12_234 (KX12_remember l h0 hu2) (by decide) h0 rfl rfl (Nat.le_of_ble_eq_true rfl) rfl dX12_plane_11 ?_
    refine pm_aload_n (pc := 14) 0 dX12_plane_14 rfl rfl h0.pos ?_
    refine pm_getT (pc := 15) (k := 11) pm_cl12 flX12_25 (by decide) rfl h0 dX12_plane_15 (fun hr3 => ?_)
    refine pm_iconst (pc := 18) (0 : Int32) (by decide) dX12_plane_18 ?_
    refine pm_aload_n (pc := 19) 0 dX12_plane_19 rfl rfl h0.pos ?_
    refine pm_getT (pc := 20) (k := 11) pm_cl12 flX12_25 (by decide) rfl h0 dX12_plane_20 (fun hr4 => ?_)
    refine pm_iconst (pc := 23) (0 : Int32) (by decide) dX12_plane_23 ?_
    obtain ⟨hb5, hf⟩ := pm_gd hf
    refine pm_iald (pc := 24) hr4 (pm_ib_in hb5) dX12_plane_24 ?_
    refine pm_aload_n (pc := 25) 0 dX12_plane_25 rfl rfl h0.pos ?_
    refine pm_getT (pc := 26) (k := 11) pm_cl12 flX12_25 (by decide) rfl h0 dX12_plane_26 (fun hr6 => ?_)
    refine pm_iconst (pc := 29) (1 : Int32) (by decide) dX12_plane_29 ?_
    obtain ⟨hb7, hf⟩ := pm_gd hf
    refine pm_iald (pc := 30) hr6 (pm_ib_in hb7) dX12_plane_30 ?_
    obtain ⟨u8, hu8, hf⟩ := pm_bind_e hf
    refine pm_cSi (pc := 31) (as := [.int (u2.1 (u2.2 a0 11) ((0 : Int32)).toNatClampNeg), .int (u2.1 (u2.2 a0 11) ((1 : Int32)).toNatClampNeg)]) (st := [.int (0 : Int32), .ref (u2.2 a0 11)]) msX12_260 (KX12_planed l  hu8) (by decide) rfl rfl (Nat.le_of_ble_eq_true rfl) rfl dX12_plane_31 ?_
    obtain ⟨hb9, hf⟩ := pm_gd hf
    refine pm_iast (pc := 34) hr3 (pm_ib_in hb9) dX12_plane_34 ?_
    obtain ⟨s10, es10, hf⟩ := pm_let_e hf
    refine pm_nmh es10 ?_
    refine pm_aload_n (pc := 35) 0 dX12_plane_35 rfl rfl h0.pos ?_
    refine pm_getT (pc := 36) (k := 11) pm_cl12 flX12_25 (by decide) rfl h0 dX12_plane_36 (fun hr11 => ?_)
    refine pm_iconst (pc := 39) (1 : Int32) (by decide) dX12_plane_39 ?_
    refine pm_iconst (pc := 40) (0 : Int32) (by decide) dX12_plane_40 ?_
    obtain ⟨hb12, hf⟩ := pm_gd hf
    refine pm_iast (pc := 41) hr11 (pm_ib_in hb12) dX12_plane_41 ?_
    obtain ⟨s13, es13, hf⟩ := pm_let_e hf
    refine pm_nmh es13 ?_
    refine pm_aload_n (pc := 42) 0 dX12_plane_42 rfl rfl h0.pos ?_
    refine pm_getT (pc := 43) (k := 11) pm_cl12 flX12_25 (by decide) rfl h0 dX12_plane_43 (fun hr14 => ?_)
    refine pm_iconst (pc := 46) (0 : Int32) (by decide) dX12_plane_46 ?_
    obtain ⟨hb15, hf⟩ := pm_gd hf
    refine pm_iald (pc := 47) hr14 (pm_ib_in hb15) dX12_plane_47 ?_
    exact pm_iret rfl dX12_plane_48 (pm_ri_e hf)
def fX12_lose (S : pm_S) (a0 : Nat) (a1 : Int32) (σ : pm_H) : Option (Int32 × pm_H) :=
  Option.bind (fX12_isRealm S a0 σ) fun u1 => (if u1.1 = 0 then some ((-1000000003 : Int32), u1.2) else Option.bind (fX12_remember S a0 u1.2) fun u2 => (if pm_ib (2 : Int32) (pm_len S (u2.2 a0 11)) = true then pm_let (u2.1 (u2.2 a0 11) ((2 : Int32)).toNatClampNeg) fun x5 => (if a1 = 0 then (if pm_ib (2 : Int32) (pm_len S (u2.2 a0 11)) = true then pm_let (pm_si u2 (u2.2 a0 11) ((2 : Int32)).toNatClampNeg (0 : Int32)) fun s8 => some (x5, s8) else none) else (if pm_ib (2 : Int32) (pm_len S (u2.2 a0 11)) = true then pm_let (pm_si u2 (u2.2 a0 11) ((2 : Int32)).toNatClampNeg (1 : Int32)) fun s10 => some (x5, s10) else none)) else none))
set_option maxRecDepth 100000 in
set_option maxHeartbeats 4000000 in
theorem KX12_lose (l : Launch) {S : pm_S} {p : Int32 × pm_H} {a0 : Nat} {a1 : Int32} {σ : pm_H} (h0 : pm_is S a0 15) (hf : fX12_lose S a0 a1 σ = some p) : pm_M l yX12_lose cX12_lose 3 (some .int) false 1 [.ref a0, .int a1] S σ (pm_ri S p) := by
  refine pm_M.of (by decide +kernel) (Nat.le_of_ble_eq_true rfl) ?_
  show pm_E l yX12_lose cX12_lose 3 (some .int) false 1 S (pm_ri S p) 0 [(0, .ref a0), (1, .int a1)] [] S σ
  rw [fX12_lose] at hf
  refine pm_aload_n (pc := 0) 0 dX12_lose_0 rfl rfl h0.pos ?_
  obtain ⟨u1, hu1, hf⟩ := pm_bind_e hf
  refine pm_cVi (pc := 1) (as := []) (st := []) mvX12_208 (KX12_isRealm l h0 hu1) (by decide) h0 rfl rfl (Nat.le_of_ble_eq_true rfl) rfl dX12_lose_1 ?_
  refine pm_if_ne (pc := 4) 10 dX12_lose_4 (by decide) (fun hc12 => ?_) (fun hc12 => ?_)
  · rw [if_pos hc12] at hf
    refine pm_ldc (pc := 7) kcX12_212 dX12_lose_7 ?_
    exact pm_iret rfl dX12_lose_9 (pm_ri_e hf)
  · rw [if_neg hc12] at hf
    refine pm_aload_n (pc := 10) 0 dX12_lose_10 rfl rfl h0.pos ?_
    obtain ⟨u2, hu2, hf⟩ := pm_bind_e hf
    refine pm_cVu (pc := 11) (as := []) (st := []) mvX12_234 (KX12_remember l h0 hu2) (by decide) h0 rfl rfl (Nat.le_of_ble_eq_true rfl) rfl dX12_lose_11 ?_
    refine pm_aload_n (pc := 14) 0 dX12_lose_14 rfl rfl h0.pos ?_
    refine pm_getT (pc := 15) (k := 11) pm_cl12 flX12_25 (by decide) rfl h0 dX12_lose_15 (fun hr3 => ?_)
    refine pm_iconst (pc := 18) (2 : Int32) (by decide) dX12_lose_18 ?_
    obtain ⟨hb4, hf⟩ := pm_gd hf
    refine pm_iald (pc := 19) hr3 (pm_ib_in hb4) dX12_lose_19 ?_
    obtain ⟨x5, ex5, hf⟩ := pm_let_e hf
    refine pm_nmi ex5 ?_
    refine pm_istore_n (pc := 20) [(2, .int x5), (0, .ref a0), (1, .int a1)] dX12_lose_20 rfl (by decide) rfl ?_
    refine pm_aload_n (pc := 21) 1 dX12_lose_21 rfl rfl h0.pos ?_
    refine pm_getT (pc := 22) (k := 11) pm_cl12 flX12_25 (by decide) rfl h0 dX12_lose_22 (fun hr6 => ?_)
    refine pm_iconst (pc := 25) (2 : Int32) (by decide) dX12_lose_25 ?_
    refine pm_iload_n (pc := 26) 2 dX12_lose_26 rfl rfl ?_
    refine pm_if_eq (pc := 27) 34 dX12_lose_27 (by decide) (fun hc11 => ?_) (fun hc11 => ?_)
    · rw [if_pos hc11] at hf
      refine pm_iconst (pc := 34) (0 : Int32) (by decide) dX12_lose_34 ?_
      obtain ⟨hb7, hf⟩ := pm_gd hf
      refine pm_iast (pc := 35) hr6 (pm_ib_in hb7) dX12_lose_35 ?_
      obtain ⟨s8, es8, hf⟩ := pm_let_e hf
      refine pm_nmh es8 ?_
      refine pm_iload_n (pc := 36) 0 dX12_lose_36 rfl rfl ?_
      exact pm_iret rfl dX12_lose_37 (pm_ri_e hf)
    · rw [if_neg hc11] at hf
      refine pm_iconst (pc := 30) (1 : Int32) (by decide) dX12_lose_30 ?_
      refine pm_goto (pc := 31) 35 dX12_lose_31 (by decide) ?_
      obtain ⟨hb9, hf⟩ := pm_gd hf
      refine pm_iast (pc := 35) hr6 (pm_ib_in hb9) dX12_lose_35 ?_
      obtain ⟨s10, es10, hf⟩ := pm_let_e hf
      refine pm_nmh es10 ?_
      refine pm_iload_n (pc := 36) 0 dX12_lose_36 rfl rfl ?_
      exact pm_iret rfl dX12_lose_37 (pm_ri_e hf)
def fX12_hold_J81 (S : pm_S) (v0 : Nat) (t0 : Int32) (t1 : Int32) (t2 : Nat) (σ : pm_H) : Option (Int32 × pm_H) :=
  (if pm_ib t1 (pm_len S t2) = true then pm_let (pm_si σ t2 (t1).toNatClampNeg t0) fun s12 => (if pm_ib (5 : Int32) (pm_len S (s12.2 v0 11)) = true then (if pm_ib (5 : Int32) (pm_len S (s12.2 v0 11)) = true then pm_let (pm_si s12 (s12.2 v0 11) ((5 : Int32)).toNatClampNeg ((s12.1 (s12.2 v0 11) ((5 : Int32)).toNatClampNeg) + (1 : Int32))) fun s16 => (if pm_ib (5 : Int32) (pm_len S (s16.2 v0 11)) = true then some ((s16.1 (s16.2 v0 11) ((5 : Int32)).toNatClampNeg), s16) else none) else none) else none) else none)
set_option maxRecDepth 100000 in
set_option maxHeartbeats 4000000 in
theorem fX12_hold_J81_E (l : Launch) {S : pm_S} {p : Int32 × pm_H} {v0 : Nat} {t0 : Int32} {t1 : Int32} {t2 : Nat} {σ : pm_H} (h0 : pm_is S v0 15) (g2 : pm_is S t2 0) (hf : fX12_hold_J81 S v0 t0 t1 t2 σ = some p) : pm_E l yX12_hold cX12_hold 2 (some .int) false 2 S (pm_ri S p) 81 [(0, .ref v0)] [.int t0, .int t1, .ref t2] S σ := by
  rw [fX12_hold_J81] at hf
  obtain ⟨hb11, hf⟩ := pm_gd hf
  refine pm_iast (pc := 81) g2 (pm_ib_in hb11) dX12_hold_81 ?_
  obtain ⟨s12, es12, hf⟩ := pm_let_e hf
  refine pm_nmh es12 ?_
  refine pm_aload_n (pc := 82) 0 dX12_hold_82 rfl rfl h0.pos ?_
  refine pm_getT (pc := 83) (k := 11) pm_cl12 flX12_25 (by decide) rfl h0 dX12_hold_83 (fun hr13 => ?_)
  refine pm_iconst (pc := 86) (5 : Int32) (by decide) dX12_hold_86 ?_
  refine pm_dup2 (pc := 87) rfl rfl dX12_hold_87 ?_
  obtain ⟨hb14, hf⟩ := pm_gd hf
  refine pm_iald (pc := 88) hr13 (pm_ib_in hb14) dX12_hold_88 ?_
  refine pm_iconst (pc := 89) (1 : Int32) (by decide) dX12_hold_89 ?_
  refine pm_iadd (pc := 90) dX12_hold_90 ?_
  obtain ⟨hb15, hf⟩ := pm_gd hf
  refine pm_iast (pc := 91) hr13 (pm_ib_in hb15) dX12_hold_91 ?_
  obtain ⟨s16, es16, hf⟩ := pm_let_e hf
  refine pm_nmh es16 ?_
  refine pm_aload_n (pc := 92) 0 dX12_hold_92 rfl rfl h0.pos ?_
  refine pm_getT (pc := 93) (k := 11) pm_cl12 flX12_25 (by decide) rfl h0 dX12_hold_93 (fun hr17 => ?_)
  refine pm_iconst (pc := 96) (5 : Int32) (by decide) dX12_hold_96 ?_
  obtain ⟨hb18, hf⟩ := pm_gd hf
  refine pm_iald (pc := 97) hr17 (pm_ib_in hb18) dX12_hold_97 ?_
  exact pm_iret rfl dX12_hold_98 (pm_ri_e hf)
def fX12_hold (S : pm_S) (a0 : Nat) (a1 : Int32) (σ : pm_H) : Option (Int32 × pm_H) :=
  Option.bind (fX12_in S a1.toInt64 (-20 : Int64) (20 : Int64) σ) fun u1 => (if u1.1 = 0 then some ((-1000000002 : Int32), u1.2) else Option.bind (fX12_canUse S a0 u1.2) fun u2 => (if u2.1 = 0 then some ((-1000000003 : Int32), u2.2) else (if pm_ib (5 : Int32) (pm_len S (u2.2.2 a0 11)) = true then (if (u2.2.1 (u2.2.2 a0 11) ((5 : Int32)).toNatClampNeg) = (8 : Int32) then some ((-1000000004 : Int32), u2.2) else Option.bind (fX12_remember S a0 u2.2) fun u5 => (if pm_ib (5 : Int32) (pm_len S (u5.2 a0 11)) = true then (if pm_ib (0 : Int32) (pm_len S (u5.2 a0 11)) = true then (if ((u5.1 (u5.2 a0 11) ((0 : Int32)).toNatClampNeg) + a1) ≤ 0 then fX12_hold_J81 S a0 (0 : Int32) ((66 : Int32) + (u5.1 (u5.2 a0 11) ((5 : Int32)).toNatClampNeg)) (u5.2 a0 11) u5 else (if pm_ib (0 : Int32) (pm_len S (u5.2 a0 11)) = true then fX12_hold_J81 S a0 ((u5.1 (u5.2 a0 11) ((0 : Int32)).toNatClampNeg) + a1) ((66 : Int32) + (u5.1 (u5.2 a0 11) ((5 : Int32)).toNatClampNeg)) (u5.2 a0 11) u5 else none)) else none) else none)) else none)))
set_option maxRecDepth 100000 in
set_option maxHeartbeats 4000000 in
theorem KX12_hold (l : Launch) {S : pm_S} {p : Int32 × pm_H} {a0 : Nat} {a1 : Int32} {σ : pm_H} (h0 : pm_is S a0 15) (hf : fX12_hold S a0 a1 σ = some p) : pm_M l yX12_hold cX12_hold 2 (some .int) false 2 [.ref a0, .int a1] S σ (pm_ri S p) := by
  refine pm_M.of (by decide +kernel) (Nat.le_of_ble_eq_true rfl) ?_
  show pm_E l yX12_hold cX12_hold 2 (some .int) false 2 S (pm_ri S p) 0 [(0, .ref a0), (1, .int a1)] [] S σ
  rw [fX12_hold] at hf
  refine pm_iload_n (pc := 0) 1 dX12_hold_0 rfl rfl ?_
  refine pm_i2l (pc := 1) dX12_hold_1 ?_
  refine pm_ldc2 (pc := 2) klX12_263 dX12_hold_2 ?_
  refine pm_ldc2 (pc := 5) klX12_243 dX12_hold_5 ?_
  obtain ⟨u1, hu1, hf⟩ := pm_bind_e hf
  refine pm_cSi (pc := 8) (as := [.long a1.toInt64, .long (-20 : Int64), .long (20 : Int64)]) (st := []) msX12_87 (KX12_in l  hu1) (by decide) rfl rfl (Nat.le_of_ble_eq_true rfl) rfl dX12_hold_8 ?_
  refine pm_if_ne (pc := 11) 17 dX12_hold_11 (by decide) (fun hc24 => ?_) (fun hc24 => ?_)
  · rw [if_pos hc24] at hf
    refine pm_ldc (pc := 14) kcX12_96 dX12_hold_14 ?_
    exact pm_iret rfl dX12_hold_16 (pm_ri_e hf)
  · rw [if_neg hc24] at hf
    refine pm_aload_n (pc := 17) 0 dX12_hold_17 rfl rfl h0.pos ?_
    obtain ⟨u2, hu2, hf⟩ := pm_bind_e hf
    refine pm_cVi (pc := 18) (as := []) (st := []) mvX12_247 (KX12_canUse l h0 hu2) (by decide) h0 rfl rfl (Nat.le_of_ble_eq_true rfl) rfl dX12_hold_18 ?_
    refine pm_if_ne (pc := 21) 27 dX12_hold_21 (by decide) (fun hc23 => ?_) (fun hc23 => ?_)
    · rw [if_pos hc23] at hf
      refine pm_ldc (pc := 24) kcX12_212 dX12_hold_24 ?_
      exact pm_iret rfl dX12_hold_26 (pm_ri_e hf)
    · rw [if_neg hc23] at hf
      refine pm_aload_n (pc := 27) 0 dX12_hold_27 rfl rfl h0.pos ?_
      refine pm_getT (pc := 28) (k := 11) pm_cl12 flX12_25 (by decide) rfl h0 dX12_hold_28 (fun hr3 => ?_)
      refine pm_iconst (pc := 31) (5 : Int32) (by decide) dX12_hold_31 ?_
      obtain ⟨hb4, hf⟩ := pm_gd hf
      refine pm_iald (pc := 32) hr3 (pm_ib_in hb4) dX12_hold_32 ?_
      refine pm_bipush (pc := 33) (8 : Int32) (by decide) dX12_hold_33 ?_
      refine pm_icmp_ne (pc := 35) 41 dX12_hold_35 (by decide) (fun hc22 => ?_) (fun hc22 => ?_)
      · rw [if_pos hc22] at hf
        refine pm_ldc (pc := 38) kcX12_100 dX12_hold_38 ?_
        exact pm_iret rfl dX12_hold_40 (pm_ri_e hf)
      · rw [if_neg hc22] at hf
        refine pm_aload_n (pc := 41) 0 dX12_hold_41 rfl rfl h0.pos ?_
        obtain ⟨u5, hu5, hf⟩ := pm_bind_e hf
        refine pm_cVu (pc := 42) (as := []) (st := []) mvX12_234 (KX12_remember l h0 hu5) (by decide) h0 rfl rfl (Nat.le_of_ble_eq_true rfl) rfl dX12_hold_42 ?_
        refine pm_aload_n (pc := 45) 0 dX12_hold_45 rfl rfl h0.pos ?_
        refine pm_getT (pc := 46) (k := 11) pm_cl12 flX12_25 (by decide) rfl h0 dX12_hold_46 (fun hr6 => ?_)
        refine pm_bipush (pc := 49) (66 : Int32) (by decide) dX12_hold_49 ?_
        refine pm_aload_n (pc := 51) 0 dX12_hold_51 rfl rfl h0.pos ?_
        refine pm_getT (pc := 52) (k := 11) pm_cl12 flX12_25 (by decide) rfl h0 dX12_hold_52 (fun hr7 => ?_)
        refine pm_iconst (pc := 55) (5 : Int32) (by decide) dX12_hold_55 ?_
        obtain ⟨hb8, hf⟩ := pm_gd hf
        refine pm_iald (pc := 56) hr7 (pm_ib_in hb8) dX12_hold_56 ?_
        refine pm_iadd (pc := 57) dX12_hold_57 ?_
        refine pm_aload_n (pc := 58) 0 dX12_hold_58 rfl rfl h0.pos ?_
        refine pm_getT (pc := 59) (k := 11) pm_cl12 flX12_25 (by decide) rfl h0 dX12_hold_59 (fun hr9 => ?_)
        refine pm_iconst (pc := 62) (0 : Int32) (by decide) dX12_hold_62 ?_
        obtain ⟨hb10, hf⟩ := pm_gd hf
        refine pm_iald (pc := 63) hr9 (pm_ib_in hb10) dX12_hold_63 ?_
        refine pm_iload_n (pc := 64) 1 dX12_hold_64 rfl rfl ?_
        refine pm_iadd (pc := 65) dX12_hold_65 ?_
        refine pm_if_le (pc := 66) 80 dX12_hold_66 (by decide) (fun hc21 => ?_) (fun hc21 => ?_)
        · rw [if_pos hc21] at hf
          refine pm_iconst (pc := 80) (0 : Int32) (by decide) dX12_hold_80 ?_
          refine pm_lv [(0, .ref a0)] [0] rfl ?_
          exact fX12_hold_J81_E l h0 hr6 hf
        · rw [if_neg hc21] at hf
          refine pm_aload_n (pc := 69) 0 dX12_hold_69 rfl rfl h0.pos ?_
          refine pm_getT (pc := 70) (k := 11) pm_cl12 flX12_25 (by decide) rfl h0 dX12_hold_70 (fun hr19 => ?_)
          refine pm_iconst (pc := 73) (0 : Int32) (by decide) dX12_hold_73 ?_
          obtain ⟨hb20, hf⟩ := pm_gd hf
          refine pm_iald (pc := 74) hr19 (pm_ib_in hb20) dX12_hold_74 ?_
          refine pm_iload_n (pc := 75) 1 dX12_hold_75 rfl rfl ?_
          refine pm_iadd (pc := 76) dX12_hold_76 ?_
          refine pm_goto (pc := 77) 81 dX12_hold_77 (by decide) ?_
          refine pm_lv [(0, .ref a0)] [0] rfl ?_
          exact fX12_hold_J81_E l h0 hr6 hf
def fX12_drop_L20 (S : pm_S) (v0 : Nat) (v1 : Int32) (kx : pm_H → Option (Int32 × pm_H)) : Nat → Int32 → pm_H → Option (Int32 × pm_H)
  | 0, _, _ => none
  | n + 1, v2, σ => (if (8 : Int32) ≤ v2 then kx σ else (if pm_ib ((66 : Int32) + v2) (pm_len S (σ.2 v0 11)) = true then pm_let (pm_si σ (σ.2 v0 11) (((66 : Int32) + v2)).toNatClampNeg (0 : Int32)) fun s10 => fX12_drop_L20 S v0 v1 kx n (v2 + (1 : Int32)) s10 else none))
set_option maxRecDepth 100000 in
set_option maxHeartbeats 4000000 in
theorem fX12_drop_L20_E (l : Launch) {S : pm_S} {p : Int32 × pm_H} {v0 : Nat} {v1 : Int32} {kx : pm_H → Option (Int32 × pm_H)} (h0 : pm_is S v0 15) (hkx : ∀  sw, kx  sw = some p → pm_E l yX12_drop cX12_drop 3 (some .int) false 1 S (pm_ri S p) 42 [(1, .int v1)] [] S sw) : ∀ (n : Nat) (v2 : Int32) (σ : pm_H), fX12_drop_L20 S v0 v1 kx n v2 σ = some p → pm_E l yX12_drop cX12_drop 3 (some .int) false 1 S (pm_ri S p) 20 [(0, .ref v0), (1, .int v1), (2, .int v2)] [] S σ := by
  intro n
  induction n with
  | zero => intro v2 σ hf; cases hf
  | succ n ih =>
    intro v2 σ hf
    rw [fX12_drop_L20] at hf
    refine pm_iload_n (pc := 20) 2 dX12_drop_20 rfl rfl ?_
    refine pm_bipush (pc := 21) (8 : Int32) (by decide) dX12_drop_21 ?_
    refine pm_icmp_ge (pc := 23) 42 dX12_drop_23 (by decide) (fun hc11 => ?_) (fun hc11 => ?_)
    · rw [if_pos hc11] at hf
      refine pm_lv [(1, .int v1)] [1] rfl ?_
      exact hkx σ hf
    · rw [if_neg hc11] at hf
      refine pm_aload_n (pc := 26) 0 dX12_drop_26 rfl rfl h0.pos ?_
      refine pm_getT (pc := 27) (k := 11) pm_cl12 flX12_25 (by decide) rfl h0 dX12_drop_27 (fun hr8 => ?_)
      refine pm_bipush (pc := 30) (66 : Int32) (by decide) dX12_drop_30 ?_
      refine pm_iload_n (pc := 32) 2 dX12_drop_32 rfl rfl ?_
      refine pm_iadd (pc := 33) dX12_drop_33 ?_
      refine pm_iconst (pc := 34) (0 : Int32) (by decide) dX12_drop_34 ?_
      obtain ⟨hb9, hf⟩ := pm_gd hf
      refine pm_iast (pc := 35) hr8 (pm_ib_in hb9) dX12_drop_35 ?_
      obtain ⟨s10, es10, hf⟩ := pm_let_e hf
      refine pm_nmh es10 ?_
      refine pm_iinc (pc := 36) 2 (v2 + (1 : Int32)) [(2, .int (v2 + (1 : Int32))), (0, .ref v0), (1, .int v1)] dX12_drop_36 rfl rfl (by decide) rfl ?_
      refine pm_goto (pc := 39) 20 dX12_drop_39 (by decide) ?_
      refine pm_lv [(0, .ref v0), (1, .int v1), (2, .int (v2 + (1 : Int32)))] [1, 2, 0] rfl ?_
      exact ih (v2 + (1 : Int32)) s10 hf
def fX12_drop (S : pm_S) (a0 : Nat) (σ : pm_H) : Option (Int32 × pm_H) :=
  Option.bind (fX12_remember S a0 σ) fun u1 => (if pm_ib (5 : Int32) (pm_len S (u1.2 a0 11)) = true then pm_let (u1.1 (u1.2 a0 11) ((5 : Int32)).toNatClampNeg) fun x4 => (if pm_ib (5 : Int32) (pm_len S (u1.2 a0 11)) = true then pm_let (pm_si u1 (u1.2 a0 11) ((5 : Int32)).toNatClampNeg (0 : Int32)) fun s7 => fX12_drop_L20 S a0 x4 (fun s12 => some (x4, s12)) pm_fuel (0 : Int32) s7 else none) else none)
set_option maxRecDepth 100000 in
set_option maxHeartbeats 4000000 in
theorem KX12_drop (l : Launch) {S : pm_S} {p : Int32 × pm_H} {a0 : Nat} {σ : pm_H} (h0 : pm_is S a0 15) (hf : fX12_drop S a0 σ = some p) : pm_M l yX12_drop cX12_drop 3 (some .int) false 1 [.ref a0] S σ (pm_ri S p) := by
  refine pm_M.of (by decide +kernel) (Nat.le_of_ble_eq_true rfl) ?_
  show pm_E l yX12_drop cX12_drop 3 (some .int) false 1 S (pm_ri S p) 0 [(0, .ref a0)] [] S σ
  rw [fX12_drop] at hf
  refine pm_aload_n (pc := 0) 0 dX12_drop_0 rfl rfl h0.pos ?_
  obtain ⟨u1, hu1, hf⟩ := pm_bind_e hf
  refine pm_cVu (pc := 1) (as := []) (st := []) mvX12_234 (KX12_remember l h0 hu1) (by decide) h0 rfl rfl (Nat.le_of_ble_eq_true rfl) rfl dX12_drop_1 ?_
  refine pm_aload_n (pc := 4) 0 dX12_drop_4 rfl rfl h0.pos ?_
  refine pm_getT (pc := 5) (k := 11) pm_cl12 flX12_25 (by decide) rfl h0 dX12_drop_5 (fun hr2 => ?_)
  refine pm_iconst (pc := 8) (5 : Int32) (by decide) dX12_drop_8 ?_
  obtain ⟨hb3, hf⟩ := pm_gd hf
  refine pm_iald (pc := 9) hr2 (pm_ib_in hb3) dX12_drop_9 ?_
  obtain ⟨x4, ex4, hf⟩ := pm_let_e hf
  refine pm_nmi ex4 ?_
  refine pm_istore_n (pc := 10) [(1, .int x4), (0, .ref a0)] dX12_drop_10 rfl (by decide) rfl ?_
  refine pm_aload_n (pc := 11) 1 dX12_drop_11 rfl rfl h0.pos ?_
  refine pm_getT (pc := 12) (k := 11) pm_cl12 flX12_25 (by decide) rfl h0 dX12_drop_12 (fun hr5 => ?_)
  refine pm_iconst (pc := 15) (5 : Int32) (by decide) dX12_drop_15 ?_
  refine pm_iconst (pc := 16) (0 : Int32) (by decide) dX12_drop_16 ?_
  obtain ⟨hb6, hf⟩ := pm_gd hf
  refine pm_iast (pc := 17) hr5 (pm_ib_in hb6) dX12_drop_17 ?_
  obtain ⟨s7, es7, hf⟩ := pm_let_e hf
  refine pm_nmh es7 ?_
  refine pm_iconst (pc := 18) (0 : Int32) (by decide) dX12_drop_18 ?_
  refine pm_istore_n (pc := 19) [(2, .int (0 : Int32)), (1, .int x4), (0, .ref a0)] dX12_drop_19 rfl (by decide) rfl ?_
  refine pm_lv [(0, .ref a0), (1, .int x4), (2, .int (0 : Int32))] [2, 1, 0] rfl ?_
  refine fX12_drop_L20_E l h0 (fun s12 hf => ?_) pm_fuel (0 : Int32) s7 hf
  refine pm_iload_n (pc := 42) 0 dX12_drop_42 rfl rfl ?_
  exact pm_iret rfl dX12_drop_43 (pm_ri_e hf)
def fX12_shorten (S : pm_S) (a0 : Nat) (a1 : Int32) (a2 : Int32) (σ : pm_H) : Option (Int32 × pm_H) :=
  Option.bind (fX12_isPerson S a0 a1 σ) fun u1 => (if u1.1 = 0 then some ((-1000000001 : Int32), u1.2) else Option.bind (fX12_in S a2.toInt64 (1 : Int64) (999 : Int64) u1.2) fun u2 => (if u2.1 = 0 then some ((-1000000002 : Int32), u2.2) else Option.bind (fX12_remember S a0 u2.2) fun u3 => (if pm_ib ((74 : Int32) + a1) (pm_len S (u3.2 a0 11)) = true then (if (u3.1 (u3.2 a0 11) (((74 : Int32) + a1)).toNatClampNeg) ≤ a2 then (if pm_ib ((74 : Int32) + a1) (pm_len S (u3.2 a0 11)) = true then pm_let (pm_si u3 (u3.2 a0 11) (((74 : Int32) + a1)).toNatClampNeg (1 : Int32)) fun s8 => (if pm_ib ((74 : Int32) + a1) (pm_len S (s8.2 a0 11)) = true then some ((s8.1 (s8.2 a0 11) (((74 : Int32) + a1)).toNatClampNeg), s8) else none) else none) else (if pm_ib ((74 : Int32) + a1) (pm_len S (u3.2 a0 11)) = true then (if pm_ib ((74 : Int32) + a1) (pm_len S (u3.2 a0 11)) = true then pm_let (pm_si u3 (u3.2 a0 11) (((74 : Int32) + a1)).toNatClampNeg ((u3.1 (u3.2 a0 11) (((74 : Int32) + a1)).toNatClampNeg) - a2)) fun s14 => (if pm_ib ((74 : Int32) + a1) (pm_len S (s14.2 a0 11)) = true then some ((s14.1 (s14.2 a0 11) (((74 : Int32) + a1)).toNatClampNeg), s14) else none) else none) else none)) else none)))
set_option maxRecDepth 100000 in
set_option maxHeartbeats 4000000 in
theorem KX12_shorten (l : Launch) {S : pm_S} {p : Int32 × pm_H} {a0 : Nat} {a1 : Int32} {a2 : Int32} {σ : pm_H} (h0 : pm_is S a0 15) (hf : fX12_shorten S a0 a1 a2 σ = some p) : pm_M l yX12_shorten cX12_shorten 3 (some .int) false 2 [.ref a0, .int a1, .int a2] S σ (pm_ri S p) := by
  refine pm_M.of (by decide +kernel) (Nat.le_of_ble_eq_true rfl) ?_
  show pm_E l yX12_shorten cX12_shorten 3 (some .int) false 2 S (pm_ri S p) 0 [(0, .ref a0), (1, .int a1), (2, .int a2)] [] S σ
  rw [fX12_shorten] at hf
  refine pm_aload_n (pc := 0) 0 dX12_shorten_0 rfl rfl h0.pos ?_
  refine pm_iload_n (pc := 1) 1 dX12_shorten_1 rfl rfl ?_
  obtain ⟨u1, hu1, hf⟩ := pm_bind_e hf
  refine pm_cVi (pc := 2) (as := [.int a1]) (st := []) mvX12_220 (KX12_isPerson l h0 hu1) (by decide) h0 rfl rfl (Nat.le_of_ble_eq_true rfl) rfl dX12_shorten_2 ?_
  refine pm_if_ne (pc := 5) 11 dX12_shorten_5 (by decide) (fun hc19 => ?_) (fun hc19 => ?_)
  · rw [if_pos hc19] at hf
    refine pm_ldc (pc := 8) kcX12_216 dX12_shorten_8 ?_
    exact pm_iret rfl dX12_shorten_10 (pm_ri_e hf)
  · rw [if_neg hc19] at hf
    refine pm_iload_n (pc := 11) 2 dX12_shorten_11 rfl rfl ?_
    refine pm_i2l (pc := 12) dX12_shorten_12 ?_
    refine pm_lconst (pc := 13) (1 : Int64) (by decide) dX12_shorten_13 ?_
    refine pm_ldc2 (pc := 14) klX12_265 dX12_shorten_14 ?_
    obtain ⟨u2, hu2, hf⟩ := pm_bind_e hf
    refine pm_cSi (pc := 17) (as := [.long a2.toInt64, .long (1 : Int64), .long (999 : Int64)]) (st := []) msX12_87 (KX12_in l  hu2) (by decide) rfl rfl (Nat.le_of_ble_eq_true rfl) rfl dX12_shorten_17 ?_
    refine pm_if_ne (pc := 20) 26 dX12_shorten_20 (by decide) (fun hc18 => ?_) (fun hc18 => ?_)
    · rw [if_pos hc18] at hf
      refine pm_ldc (pc := 23) kcX12_96 dX12_shorten_23 ?_
      exact pm_iret rfl dX12_shorten_25 (pm_ri_e hf)
    · rw [if_neg hc18] at hf
      refine pm_aload_n (pc := 26) 0 dX12_shorten_26 rfl rfl h0.pos ?_
      obtain ⟨u3, hu3, hf⟩ := pm_bind_e hf
      refine pm_cVu (pc := 27) (as := []) (st := []) mvX12_234 (KX12_remember l h0 hu3) (by decide) h0 rfl rfl (Nat.le_of_ble_eq_true rfl) rfl dX12_shorten_27 ?_
      refine pm_aload_n (pc := 30) 0 dX12_shorten_30 rfl rfl h0.pos ?_
      refine pm_getT (pc := 31) (k := 11) pm_cl12 flX12_25 (by decide) rfl h0 dX12_shorten_31 (fun hr4 => ?_)
      refine pm_bipush (pc := 34) (74 : Int32) (by decide) dX12_shorten_34 ?_
      refine pm_iload_n (pc := 36) 1 dX12_shorten_36 rfl rfl ?_
      refine pm_iadd (pc := 37) dX12_shorten_37 ?_
      refine pm_aload_n (pc := 38) 0 dX12_shorten_38 rfl rfl h0.pos ?_
      refine pm_getT (pc := 39) (k := 11) pm_cl12 flX12_25 (by decide) rfl h0 dX12_shorten_39 (fun hr5 => ?_)
      refine pm_bipush (pc := 42) (74 : Int32) (by decide) dX12_shorten_42 ?_
      refine pm_iload_n (pc := 44) 1 dX12_shorten_44 rfl rfl ?_
      refine pm_iadd (pc := 45) dX12_shorten_45 ?_
      obtain ⟨hb6, hf⟩ := pm_gd hf
      refine pm_iald (pc := 46) hr5 (pm_ib_in hb6) dX12_shorten_46 ?_
      refine pm_iload_n (pc := 47) 2 dX12_shorten_47 rfl rfl ?_
      refine pm_icmp_le (pc := 48) 65 dX12_shorten_48 (by decide) (fun hc17 => ?_) (fun hc17 => ?_)
      · rw [if_pos hc17] at hf
        refine pm_iconst (pc := 65) (1 : Int32) (by decide) dX12_shorten_65 ?_
        obtain ⟨hb7, hf⟩ := pm_gd hf
        refine pm_iast (pc := 66) hr4 (pm_ib_in hb7) dX12_shorten_66 ?_
        obtain ⟨s8, es8, hf⟩ := pm_let_e hf
        refine pm_nmh es8 ?_
        refine pm_aload_n (pc := 67) 0 dX12_shorten_67 rfl rfl h0.pos ?_
        refine pm_getT (pc := 68) (k := 11) pm_cl12 flX12_25 (by decide) rfl h0 dX12_shorten_68 (fun hr9 => ?_)
        refine pm_bipush (pc := 71) (74 : Int32) (by decide) dX12_shorten_71 ?_
        refine pm_iload_n (pc := 73) 1 dX12_shorten_73 rfl rfl ?_
        refine pm_iadd (pc := 74) dX12_shorten_74 ?_
        obtain ⟨hb10, hf⟩ := pm_gd hf
        refine pm_iald (pc := 75) hr9 (pm_ib_in hb10) dX12_shorten_75 ?_
        exact pm_iret rfl dX12_shorten_76 (pm_ri_e hf)
      · rw [if_neg hc17] at hf
        refine pm_aload_n (pc := 51) 0 dX12_shorten_51 rfl rfl h0.pos ?_
        refine pm_getT (pc := 52) (k := 11) pm_cl12 flX12_25 (by decide) rfl h0 dX12_shorten_52 (fun hr11 => ?_)
        refine pm_bipush (pc := 55) (74 : Int32) (by decide) dX12_shorten_55 ?_
        refine pm_iload_n (pc := 57) 1 dX12_shorten_57 rfl rfl ?_
        refine pm_iadd (pc := 58) dX12_shorten_58 ?_
        obtain ⟨hb12, hf⟩ := pm_gd hf
        refine pm_iald (pc := 59) hr11 (pm_ib_in hb12) dX12_shorten_59 ?_
        refine pm_iload_n (pc := 60) 2 dX12_shorten_60 rfl rfl ?_
        refine pm_isub (pc := 61) dX12_shorten_61 ?_
        refine pm_goto (pc := 62) 66 dX12_shorten_62 (by decide) ?_
        obtain ⟨hb13, hf⟩ := pm_gd hf
        refine pm_iast (pc := 66) hr4 (pm_ib_in hb13) dX12_shorten_66 ?_
        obtain ⟨s14, es14, hf⟩ := pm_let_e hf
        refine pm_nmh es14 ?_
        refine pm_aload_n (pc := 67) 0 dX12_shorten_67 rfl rfl h0.pos ?_
        refine pm_getT (pc := 68) (k := 11) pm_cl12 flX12_25 (by decide) rfl h0 dX12_shorten_68 (fun hr15 => ?_)
        refine pm_bipush (pc := 71) (74 : Int32) (by decide) dX12_shorten_71 ?_
        refine pm_iload_n (pc := 73) 1 dX12_shorten_73 rfl rfl ?_
        refine pm_iadd (pc := 74) dX12_shorten_74 ?_
        obtain ⟨hb16, hf⟩ := pm_gd hf
        refine pm_iald (pc := 75) hr15 (pm_ib_in hb16) dX12_shorten_75 ?_
        exact pm_iret rfl dX12_shorten_76 (pm_ri_e hf)
def fX12_draw (S : pm_S) (a0 : Nat) (a1 : Int32) (σ : pm_H) : Option (Int32 × pm_H) :=
  pm_let (pm_si σ a0 12 (pm_lrem_ (((σ.1 a0 12).toInt64 * (1103515245 : Int64)) + (12345 : Int64)) (2147483648 : Int64)).toInt32) fun s1 => if a1 = 0 then none else some ((pm_rem ((s1.1 a0 12) / (65536 : Int32)) a1), s1)
set_option maxRecDepth 100000 in
set_option maxHeartbeats 4000000 in
theorem KX12_draw (l : Launch) {S : pm_S} {p : Int32 × pm_H} {a0 : Nat} {a1 : Int32} {σ : pm_H} (h0 : pm_is S a0 15) (hf : fX12_draw S a0 a1 σ = some p) : pm_M l yX12_draw cX12_draw 2 (some .int) false 0 [.ref a0, .int a1] S σ (pm_ri S p) := by
  refine pm_M.of (by decide +kernel) (Nat.le_of_ble_eq_true rfl) ?_
  show pm_E l yX12_draw cX12_draw 2 (some .int) false 0 S (pm_ri S p) 0 [(0, .ref a0), (1, .int a1)] [] S σ
  rw [fX12_draw] at hf
  refine pm_aload_n (pc := 0) 0 dX12_draw_0 rfl rfl h0.pos ?_
  refine pm_aload_n (pc := 1) 0 dX12_draw_1 rfl rfl h0.pos ?_
  refine pm_getI (pc := 2) (k := 12) pm_cl12 flX12_267 (by decide) rfl h0 dX12_draw_2 ?_
  refine pm_i2l (pc := 5) dX12_draw_5 ?_
  refine pm_ldc2 (pc := 6) klX12_270 dX12_draw_6 ?_
  refine pm_lmul (pc := 9) dX12_draw_9 ?_
  refine pm_ldc2 (pc := 10) klX12_272 dX12_draw_10 ?_
  refine pm_ladd (pc := 13) dX12_draw_13 ?_
  refine pm_ldc2 (pc := 14) klX12_274 dX12_draw_14 ?_
  refine pm_lrem (pc := 17) (by decide) dX12_draw_17 ?_
  refine pm_l2i (pc := 18) dX12_draw_18 ?_
  refine pm_putI (pc := 19) (k := 12) pm_cl12 flX12_267 (by decide) rfl rfl rfl h0 dX12_draw_19 ?_
  obtain ⟨s1, es1, hf⟩ := pm_let_e hf
  refine pm_nmh es1 ?_
  refine pm_aload_n (pc := 22) 0 dX12_draw_22 rfl rfl h0.pos ?_
  refine pm_getI (pc := 23) (k := 12) pm_cl12 flX12_267 (by decide) rfl h0 dX12_draw_23 ?_
  refine pm_ldcw (pc := 26) kcX12_276 dX12_draw_26 ?_
  refine pm_idiv (pc := 29) (by decide) dX12_draw_29 ?_
  refine pm_iload_n (pc := 30) 1 dX12_draw_30 rfl rfl ?_
  obtain ⟨hz2, hf⟩ := pm_gz hf
  refine pm_irem (pc := 31) hz2 dX12_draw_31 ?_
  exact pm_iret rfl dX12_draw_32 (pm_ri_e hf)
def fX12_chance (S : pm_S) (a0 : Nat) (σ : pm_H) : Option (pm_H) :=
  Option.bind (fX12_draw S a0 (8 : Int32) σ) fun u1 => (if (2 : Int32) ≤ u1.1 then (if u1.1 = (2 : Int32) then Option.bind (fX12_draw S a0 (21 : Int32) u1.2) fun u8 => pm_let (u8.1 - (10 : Int32)) fun x9 => (if pm_ib (2 : Int32) (pm_len S (u8.2.2 a0 11)) = true then (if (u8.2.1 (u8.2.2 a0 11) ((2 : Int32)).toNatClampNeg) = 0 then (if pm_ib (1 : Int32) (pm_len S (u8.2.2 a0 11)) = true then pm_let (pm_si u8.2 (u8.2.2 a0 11) ((1 : Int32)).toNatClampNeg x9) fun s18 => some s18 else none) else (if pm_ib (1 : Int32) (pm_len S (u8.2.2 a0 11)) = true then (if pm_ib (1 : Int32) (pm_len S (u8.2.2 a0 11)) = true then pm_let (pm_si u8.2 (u8.2.2 a0 11) ((1 : Int32)).toNatClampNeg (u8.2.1 (u8.2.2 a0 11) ((1 : Int32)).toNatClampNeg)) fun s16 => some s16 else none) else none)) else none) else (if u1.1 = (3 : Int32) then Option.bind (fX12_draw S a0 (10 : Int32) u1.2) fun u2 => (if pm_ib (2 : Int32) (pm_len S (u2.2.2 a0 11)) = true then (if (u2.2.1 (u2.2.2 a0 11) ((2 : Int32)).toNatClampNeg) = 0 then Option.bind (fX12_makeNow S a0 ((12 : Int32) * u2.1) u2.2) fun u5 => some u5.2 else some u2.2) else none) else some u1.2)) else (if pm_ib (2 : Int32) (pm_len S (u1.2.2 a0 11)) = true then pm_let (pm_si u1.2 (u1.2.2 a0 11) ((2 : Int32)).toNatClampNeg ((1 : Int32) - u1.1)) fun s23 => some s23 else none))
set_option maxRecDepth 100000 in
set_option maxHeartbeats 4000000 in
theorem KX12_chance (l : Launch) {S : pm_S} {p : pm_H} {a0 : Nat} {σ : pm_H} (h0 : pm_is S a0 15) (hf : fX12_chance S a0 σ = some p) : pm_M l yX12_chance cX12_chance 4 none false 2 [.ref a0] S σ (pm_ru S p) := by
  refine pm_M.of (by decide +kernel) (Nat.le_of_ble_eq_true rfl) ?_
  show pm_E l yX12_chance cX12_chance 4 none false 2 S (pm_ru S p) 0 [(0, .ref a0)] [] S σ
  rw [fX12_chance] at hf
  refine pm_aload_n (pc := 0) 0 dX12_chance_0 rfl rfl h0.pos ?_
  refine pm_bipush (pc := 1) (8 : Int32) (by decide) dX12_chance_1 ?_
  obtain ⟨u1, hu1, hf⟩ := pm_bind_e hf
  refine pm_cVi (pc := 3) (as := [.int (8 : Int32)]) (st := []) mvX12_277 (KX12_draw l h0 hu1) (by decide) h0 rfl rfl (Nat.le_of_ble_eq_true rfl) rfl dX12_chance_3 ?_
  refine pm_istore_n (pc := 6) [(1, .int u1.1), (0, .ref a0)] dX12_chance_6 rfl (by decide) rfl ?_
  refine pm_iload_n (pc := 7) 0 dX12_chance_7 rfl rfl ?_
  refine pm_iconst (pc := 8) (2 : Int32) (by decide) dX12_chance_8 ?_
  refine pm_icmp_ge (pc := 9) 24 dX12_chance_9 (by decide) (fun hc24 => ?_) (fun hc24 => ?_)
  · rw [if_pos hc24] at hf
    refine pm_iload_n (pc := 24) 0 dX12_chance_24 rfl rfl ?_
    refine pm_iconst (pc := 25) (2 : Int32) (by decide) dX12_chance_25 ?_
    refine pm_icmp_ne (pc := 26) 67 dX12_chance_26 (by decide) (fun hc20 => ?_) (fun hc20 => ?_)
    · rw [if_pos hc20] at hf
      refine pm_aload_n (pc := 29) 1 dX12_chance_29 rfl rfl h0.pos ?_
      refine pm_bipush (pc := 30) (21 : Int32) (by decide) dX12_chance_30 ?_
      obtain ⟨u8, hu8, hf⟩ := pm_bind_e hf
      refine pm_cVi (pc := 32) (as := [.int (21 : Int32)]) (st := []) mvX12_277 (KX12_draw l h0 hu8) (by decide) h0 rfl rfl (Nat.le_of_ble_eq_true rfl) rfl dX12_chance_32 ?_
      refine pm_bipush (pc := 35) (10 : Int32) (by decide) dX12_chance_35 ?_
      refine pm_isub (pc := 37) dX12_chance_37 ?_
      obtain ⟨x9, ex9, hf⟩ := pm_let_e hf
      refine pm_nmi ex9 ?_
      refine pm_istore_n (pc := 38) [(2, .int x9), (1, .int u1.1), (0, .ref a0)] dX12_chance_38 rfl (by decide) rfl ?_
      refine pm_aload_n (pc := 39) 2 dX12_chance_39 rfl rfl h0.pos ?_
      refine pm_getT (pc := 40) (k := 11) pm_cl12 flX12_25 (by decide) rfl h0 dX12_chance_40 (fun hr10 => ?_)
      refine pm_iconst (pc := 43) (1 : Int32) (by decide) dX12_chance_43 ?_
      refine pm_aload_n (pc := 44) 2 dX12_chance_44 rfl rfl h0.pos ?_
      refine pm_getT (pc := 45) (k := 11) pm_cl12 flX12_25 (by decide) rfl h0 dX12_chance_45 (fun hr11 => ?_)
      refine pm_iconst (pc := 48) (2 : Int32) (by decide) dX12_chance_48 ?_
      obtain ⟨hb12, hf⟩ := pm_gd hf
      refine pm_iald (pc := 49) hr11 (pm_ib_in hb12) dX12_chance_49 ?_
      refine pm_if_ne (pc := 50) 57 dX12_chance_50 (by decide) (fun hc19 => ?_) (fun hc19 => ?_)
      · rw [if_pos hc19] at hf
        refine pm_iload_n (pc := 53) 0 dX12_chance_53 rfl rfl ?_
        refine pm_goto (pc := 54) 63 dX12_chance_54 (by decide) ?_
        obtain ⟨hb17, hf⟩ := pm_gd hf
        refine pm_iast (pc := 63) hr10 (pm_ib_in hb17) dX12_chance_63 ?_
        obtain ⟨s18, es18, hf⟩ := pm_let_e hf
        refine pm_nmh es18 ?_
        refine pm_goto (pc := 64) 101 dX12_chance_64 (by decide) ?_
        exact pm_vret rfl dX12_chance_101 (pm_ru_e hf)
      · rw [if_neg hc19] at hf
        refine pm_aload_n (pc := 57) 2 dX12_chance_57 rfl rfl h0.pos ?_
        refine pm_getT (pc := 58) (k := 11) pm_cl12 flX12_25 (by decide) rfl h0 dX12_chance_58 (fun hr13 => ?_)
        refine pm_iconst (pc := 61) (1 : Int32) (by decide) dX12_chance_61 ?_
        obtain ⟨hb14, hf⟩ := pm_gd hf
        refine pm_iald (pc := 62) hr13 (pm_ib_in hb14) dX12_chance_62 ?_
        obtain ⟨hb15, hf⟩ := pm_gd hf
        refine pm_iast (pc := 63) hr10 (pm_ib_in hb15) dX12_chance_63 ?_
        obtain ⟨s16, es16, hf⟩ := pm_let_e hf
        refine pm_nmh es16 ?_
        refine pm_goto (pc := 64) 101 dX12_chance_64 (by decide) ?_
        exact pm_vret rfl dX12_chance_101 (pm_ru_e hf)
    · rw [if_neg hc20] at hf
      refine pm_iload_n (pc := 67) 0 dX12_chance_67 rfl rfl ?_
      refine pm_iconst (pc := 68) (3 : Int32) (by decide) dX12_chance_68 ?_
      refine pm_icmp_ne (pc := 69) 101 dX12_chance_69 (by decide) (fun hc7 => ?_) (fun hc7 => ?_)
      · rw [if_pos hc7] at hf
        refine pm_aload_n (pc := 72) 1 dX12_chance_72 rfl rfl h0.pos ?_
        refine pm_bipush (pc := 73) (10 : Int32) (by decide) dX12_chance_73 ?_
        obtain ⟨u2, hu2, hf⟩ := pm_bind_e hf
        refine pm_cVi (pc := 75) (as := [.int (10 : Int32)]) (st := []) mvX12_277 (KX12_draw l h0 hu2) (by decide) h0 rfl rfl (Nat.le_of_ble_eq_true rfl) rfl dX12_chance_75 ?_
        refine pm_istore_n (pc := 78) [(2, .int u2.1), (1, .int u1.1), (0, .ref a0)] dX12_chance_78 rfl (by decide) rfl ?_
        refine pm_aload_n (pc := 79) 2 dX12_chance_79 rfl rfl h0.pos ?_
        refine pm_getT (pc := 80) (k := 11) pm_cl12 flX12_25 (by decide) rfl h0 dX12_chance_80 (fun hr3 => ?_)
        refine pm_iconst (pc := 83) (2 : Int32) (by decide) dX12_chance_83 ?_
        obtain ⟨hb4, hf⟩ := pm_gd hf
        refine pm_iald (pc := 84) hr3 (pm_ib_in hb4) dX12_chance_84 ?_
        refine pm_if_ne (pc := 85) 99 dX12_chance_85 (by decide) (fun hc6 => ?_) (fun hc6 => ?_)
        · rw [if_pos hc6] at hf
          refine pm_aload_n (pc := 88) 2 dX12_chance_88 rfl rfl h0.pos ?_
          refine pm_bipush (pc := 89) (12 : Int32) (by decide) dX12_chance_89 ?_
          refine pm_iload_n (pc := 91) 0 dX12_chance_91 rfl rfl ?_
          refine pm_imul (pc := 92) dX12_chance_92 ?_
          obtain ⟨u5, hu5, hf⟩ := pm_bind_e hf
          refine pm_cVi (pc := 93) (as := [.int ((12 : Int32) * u2.1)]) (st := []) mvX12_250 (KX12_makeNow l h0 hu5) (by decide) h0 rfl rfl (Nat.le_of_ble_eq_true rfl) rfl dX12_chance_93 ?_
          refine pm_goto (pc := 96) 100 dX12_chance_96 (by decide) ?_
          refine pm_istore_n (pc := 100) [(3, .int u5.1), (2, .int u2.1), (1, .int u1.1), (0, .ref a0)] dX12_chance_100 rfl (by decide) rfl ?_
          exact pm_vret rfl dX12_chance_101 (pm_ru_e hf)
        · rw [if_neg hc6] at hf
          refine pm_iconst (pc := 99) (0 : Int32) (by decide) dX12_chance_99 ?_
          refine pm_istore_n (pc := 100) [(3, .int (0 : Int32)), (2, .int u2.1), (1, .int u1.1), (0, .ref a0)] dX12_chance_100 rfl (by decide) rfl ?_
          exact pm_vret rfl dX12_chance_101 (pm_ru_e hf)
      · rw [if_neg hc7] at hf
        exact pm_vret rfl dX12_chance_101 (pm_ru_e hf)
  · rw [if_neg hc24] at hf
    refine pm_aload_n (pc := 12) 1 dX12_chance_12 rfl rfl h0.pos ?_
    refine pm_getT (pc := 13) (k := 11) pm_cl12 flX12_25 (by decide) rfl h0 dX12_chance_13 (fun hr21 => ?_)
    refine pm_iconst (pc := 16) (2 : Int32) (by decide) dX12_chance_16 ?_
    refine pm_iconst (pc := 17) (1 : Int32) (by decide) dX12_chance_17 ?_
    refine pm_iload_n (pc := 18) 0 dX12_chance_18 rfl rfl ?_
    refine pm_isub (pc := 19) dX12_chance_19 ?_
    obtain ⟨hb22, hf⟩ := pm_gd hf
    refine pm_iast (pc := 20) hr21 (pm_ib_in hb22) dX12_chance_20 ?_
    obtain ⟨s23, es23, hf⟩ := pm_let_e hf
    refine pm_nmh es23 ?_
    refine pm_goto (pc := 21) 101 dX12_chance_21 (by decide) ?_
    exact pm_vret rfl dX12_chance_101 (pm_ru_e hf)
def fX12_drift_L18 (S : pm_S) (v0 : Nat) (v1 : Int32) (kx : pm_H → Option (Int32 × pm_H)) : Nat → Int32 → pm_H → Option (Int32 × pm_H)
  | 0, _, _ => none
  | n + 1, v3, σ => (if v1 ≤ v3 then kx σ else Option.bind (fX12_chance S v0 σ) fun u3 => Option.bind (fX12_pass S v0 u3) fun u4 => fX12_drift_L18 S v0 v1 kx n (v3 + (1 : Int32)) u4)
set_option maxRecDepth 100000 in
set_option maxHeartbeats 4000000 in
theorem fX12_drift_L18_E (l : Launch) {S : pm_S} {p : Int32 × pm_H} {v0 : Nat} {v1 : Int32} {kx : pm_H → Option (Int32 × pm_H)} (h0 : pm_is S v0 15) (hkx : ∀  sw, kx  sw = some p → pm_E l yX12_drift cX12_drift 4 (some .int) false 3 S (pm_ri S p) 37 [(0, .ref v0)] [] S sw) : ∀ (n : Nat) (v3 : Int32) (σ : pm_H), fX12_drift_L18 S v0 v1 kx n v3 σ = some p → pm_E l yX12_drift cX12_drift 4 (some .int) false 3 S (pm_ri S p) 18 [(0, .ref v0), (1, .int v1), (3, .int v3)] [] S σ := by
  intro n
  induction n with
  | zero => intro v3 σ hf; cases hf
  | succ n ih =>
    intro v3 σ hf
    rw [fX12_drift_L18] at hf
    refine pm_iload_n (pc := 18) 2 dX12_drift_18 rfl rfl ?_
    refine pm_iload_n (pc := 19) 1 dX12_drift_19 rfl rfl ?_
    refine pm_icmp_ge (pc := 20) 37 dX12_drift_20 (by decide) (fun hc5 => ?_) (fun hc5 => ?_)
    · rw [if_pos hc5] at hf
      refine pm_lv [(0, .ref v0)] [0] rfl ?_
      exact hkx σ hf
    · rw [if_neg hc5] at hf
      refine pm_aload_n (pc := 23) 0 dX12_drift_23 rfl rfl h0.pos ?_
      obtain ⟨u3, hu3, hf⟩ := pm_bind_e hf
      refine pm_cVu (pc := 24) (as := []) (st := []) mvX12_280 (KX12_chance l h0 hu3) (by decide) h0 rfl rfl (Nat.le_of_ble_eq_true rfl) rfl dX12_drift_24 ?_
      refine pm_aload_n (pc := 27) 0 dX12_drift_27 rfl rfl h0.pos ?_
      obtain ⟨u4, hu4, hf⟩ := pm_bind_e hf
      refine pm_cVu (pc := 28) (as := []) (st := []) mvX12_237 (KX12_pass l h0 hu4) (by decide) h0 rfl rfl (Nat.le_of_ble_eq_true rfl) rfl dX12_drift_28 ?_
      refine pm_iinc (pc := 31) 2 (v3 + (1 : Int32)) [(3, .int (v3 + (1 : Int32))), (0, .ref v0), (1, .int v1)] dX12_drift_31 rfl rfl (by decide) rfl ?_
      refine pm_goto (pc := 34) 18 dX12_drift_34 (by decide) ?_
      refine pm_lv [(0, .ref v0), (1, .int v1), (3, .int (v3 + (1 : Int32)))] [1, 2, 0] rfl ?_
      exact ih (v3 + (1 : Int32)) u4 hf
def fX12_drift (S : pm_S) (a0 : Nat) (a1 : Int32) (σ : pm_H) : Option (Int32 × pm_H) :=
  Option.bind (fX12_yearsRefused S a0 a1 σ) fun u1 => (if u1.1 = 0 then Option.bind (fX12_remember S a0 u1.2) fun u2 => fX12_drift_L18 S a0 a1 (fun s6 => (if pm_ib (4 : Int32) (pm_len S (s6.2 a0 11)) = true then some ((s6.1 (s6.2 a0 11) ((4 : Int32)).toNatClampNeg), s6) else none)) pm_fuel (0 : Int32) u2 else some (u1.1, u1.2))
set_option maxRecDepth 100000 in
set_option maxHeartbeats 4000000 in
theorem KX12_drift (l : Launch) {S : pm_S} {p : Int32 × pm_H} {a0 : Nat} {a1 : Int32} {σ : pm_H} (h0 : pm_is S a0 15) (hf : fX12_drift S a0 a1 σ = some p) : pm_M l yX12_drift cX12_drift 4 (some .int) false 3 [.ref a0, .int a1] S σ (pm_ri S p) := by
  refine pm_M.of (by decide +kernel) (Nat.le_of_ble_eq_true rfl) ?_
  show pm_E l yX12_drift cX12_drift 4 (some .int) false 3 S (pm_ri S p) 0 [(0, .ref a0), (1, .int a1)] [] S σ
  rw [fX12_drift] at hf
  refine pm_aload_n (pc := 0) 0 dX12_drift_0 rfl rfl h0.pos ?_
  refine pm_iload_n (pc := 1) 1 dX12_drift_1 rfl rfl ?_
  obtain ⟨u1, hu1, hf⟩ := pm_bind_e hf
  refine pm_cVi (pc := 2) (as := [.int a1]) (st := []) mvX12_231 (KX12_yearsRefused l h0 hu1) (by decide) h0 rfl rfl (Nat.le_of_ble_eq_true rfl) rfl dX12_drift_2 ?_
  refine pm_istore_n (pc := 5) [(2, .int u1.1), (0, .ref a0), (1, .int a1)] dX12_drift_5 rfl (by decide) rfl ?_
  refine pm_iload_n (pc := 6) 0 dX12_drift_6 rfl rfl ?_
  refine pm_if_eq (pc := 7) 12 dX12_drift_7 (by decide) (fun hc9 => ?_) (fun hc9 => ?_)
  · rw [if_pos hc9] at hf
    refine pm_aload_n (pc := 12) 1 dX12_drift_12 rfl rfl h0.pos ?_
    obtain ⟨u2, hu2, hf⟩ := pm_bind_e hf
    refine pm_cVu (pc := 13) (as := []) (st := []) mvX12_234 (KX12_remember l h0 hu2) (by decide) h0 rfl rfl (Nat.le_of_ble_eq_true rfl) rfl dX12_drift_13 ?_
    refine pm_iconst (pc := 16) (0 : Int32) (by decide) dX12_drift_16 ?_
    refine pm_istore_n (pc := 17) [(3, .int (0 : Int32)), (2, .int u1.1), (0, .ref a0), (1, .int a1)] dX12_drift_17 rfl (by decide) rfl ?_
    refine pm_lv [(0, .ref a0), (1, .int a1), (3, .int (0 : Int32))] [2, 3, 0] rfl ?_
    refine fX12_drift_L18_E l h0 (fun s6 hf => ?_) pm_fuel (0 : Int32) u2 hf
    refine pm_aload_n (pc := 37) 0 dX12_drift_37 rfl rfl h0.pos ?_
    refine pm_getT (pc := 38) (k := 11) pm_cl12 flX12_25 (by decide) rfl h0 dX12_drift_38 (fun hr7 => ?_)
    refine pm_iconst (pc := 41) (4 : Int32) (by decide) dX12_drift_41 ?_
    obtain ⟨hb8, hf⟩ := pm_gd hf
    refine pm_iald (pc := 42) hr7 (pm_ib_in hb8) dX12_drift_42 ?_
    exact pm_iret rfl dX12_drift_43 (pm_ri_e hf)
  · rw [if_neg hc9] at hf
    refine pm_iload_n (pc := 10) 0 dX12_drift_10 rfl rfl ?_
    exact pm_iret rfl dX12_drift_11 (pm_ri_e hf)
def fX12_undo_L22 (S : pm_S) (v0 : Nat) (kx : pm_H → Option (Int32 × pm_H)) : Nat → Int32 → pm_H → Option (Int32 × pm_H)
  | 0, _, _ => none
  | n + 1, v1, σ => (if (80 : Int32) ≤ v1 then kx σ else (if pm_ib (((80 : Int32) * (σ.1 v0 30)) + v1) (pm_len S (σ.2 v0 31)) = true then (if pm_ib v1 (pm_len S (σ.2 v0 11)) = true then pm_let (pm_si σ (σ.2 v0 11) (v1).toNatClampNeg (σ.1 (σ.2 v0 31) ((((80 : Int32) * (σ.1 v0 30)) + v1)).toNatClampNeg)) fun s6 => fX12_undo_L22 S v0 kx n (v1 + (1 : Int32)) s6 else none) else none))
set_option maxRecDepth 100000 in
set_option maxHeartbeats 4000000 in
theorem fX12_undo_L22_E (l : Launch) {S : pm_S} {p : Int32 × pm_H} {v0 : Nat} {kx : pm_H → Option (Int32 × pm_H)} (h0 : pm_is S v0 15) (hkx : ∀  sw, kx  sw = some p → pm_E l yX12_undo cX12_undo 2 (some .int) false 0 S (pm_ri S p) 54 [(0, .ref v0)] [] S sw) : ∀ (n : Nat) (v1 : Int32) (σ : pm_H), fX12_undo_L22 S v0 kx n v1 σ = some p → pm_E l yX12_undo cX12_undo 2 (some .int) false 0 S (pm_ri S p) 22 [(0, .ref v0), (1, .int v1)] [] S σ := by
  intro n
  induction n with
  | zero => intro v1 σ hf; cases hf
  | succ n ih =>
    intro v1 σ hf
    rw [fX12_undo_L22] at hf
    refine pm_iload_n (pc := 22) 1 dX12_undo_22 rfl rfl ?_
    refine pm_bipush (pc := 23) (80 : Int32) (by decide) dX12_undo_23 ?_
    refine pm_icmp_ge (pc := 25) 54 dX12_undo_25 (by decide) (fun hc7 => ?_) (fun hc7 => ?_)
    · rw [if_pos hc7] at hf
      refine pm_lv [(0, .ref v0)] [0] rfl ?_
      exact hkx σ hf
    · rw [if_neg hc7] at hf
      refine pm_aload_n (pc := 28) 0 dX12_undo_28 rfl rfl h0.pos ?_
      refine pm_getT (pc := 29) (k := 11) pm_cl12 flX12_25 (by decide) rfl h0 dX12_undo_29 (fun hr2 => ?_)
      refine pm_iload_n (pc := 32) 1 dX12_undo_32 rfl rfl ?_
      refine pm_aload_n (pc := 33) 0 dX12_undo_33 rfl rfl h0.pos ?_
      refine pm_getT (pc := 34) (k := 31) pm_cl12 flX12_50 (by decide) rfl h0 dX12_undo_34 (fun hr3 => ?_)
      refine pm_bipush (pc := 37) (80 : Int32) (by decide) dX12_undo_37 ?_
      refine pm_aload_n (pc := 39) 0 dX12_undo_39 rfl rfl h0.pos ?_
      refine pm_getI (pc := 40) (k := 30) pm_cl12 flX12_195 (by decide) rfl h0 dX12_undo_40 ?_
      refine pm_imul (pc := 43) dX12_undo_43 ?_
      refine pm_iload_n (pc := 44) 1 dX12_undo_44 rfl rfl ?_
      refine pm_iadd (pc := 45) dX12_undo_45 ?_
      obtain ⟨hb4, hf⟩ := pm_gd hf
      refine pm_iald (pc := 46) hr3 (pm_ib_in hb4) dX12_undo_46 ?_
      obtain ⟨hb5, hf⟩ := pm_gd hf
      refine pm_iast (pc := 47) hr2 (pm_ib_in hb5) dX12_undo_47 ?_
      obtain ⟨s6, es6, hf⟩ := pm_let_e hf
      refine pm_nmh es6 ?_
      refine pm_iinc (pc := 48) 1 (v1 + (1 : Int32)) [(1, .int (v1 + (1 : Int32))), (0, .ref v0)] dX12_undo_48 rfl rfl (by decide) rfl ?_
      refine pm_goto (pc := 51) 22 dX12_undo_51 (by decide) ?_
      refine pm_lv [(0, .ref v0), (1, .int (v1 + (1 : Int32)))] [1, 0] rfl ?_
      exact ih (v1 + (1 : Int32)) s6 hf
def fX12_undo (S : pm_S) (a0 : Nat) (σ : pm_H) : Option (Int32 × pm_H) :=
  (if (σ.1 a0 30) = 0 then some ((-1000000003 : Int32), σ) else pm_let (pm_si σ a0 30 ((σ.1 a0 30) - (1 : Int32))) fun s1 => fX12_undo_L22 S a0 (fun s8 => some ((s8.1 a0 30), s8)) pm_fuel (0 : Int32) s1)
set_option maxRecDepth 100000 in
set_option maxHeartbeats 4000000 in
theorem KX12_undo (l : Launch) {S : pm_S} {p : Int32 × pm_H} {a0 : Nat} {σ : pm_H} (h0 : pm_is S a0 15) (hf : fX12_undo S a0 σ = some p) : pm_M l yX12_undo cX12_undo 2 (some .int) false 0 [.ref a0] S σ (pm_ri S p) := by
  refine pm_M.of (by decide +kernel) (Nat.le_of_ble_eq_true rfl) ?_
  show pm_E l yX12_undo cX12_undo 2 (some .int) false 0 S (pm_ri S p) 0 [(0, .ref a0)] [] S σ
  rw [fX12_undo] at hf
  refine pm_aload_n (pc := 0) 0 dX12_undo_0 rfl rfl h0.pos ?_
  refine pm_getI (pc := 1) (k := 30) pm_cl12 flX12_195 (by decide) rfl h0 dX12_undo_1 ?_
  refine pm_if_ne (pc := 4) 10 dX12_undo_4 (by decide) (fun hc9 => ?_) (fun hc9 => ?_)
  · rw [if_pos hc9] at hf
    refine pm_ldc (pc := 7) kcX12_212 dX12_undo_7 ?_
    exact pm_iret rfl dX12_undo_9 (pm_ri_e hf)
  · rw [if_neg hc9] at hf
    refine pm_aload_n (pc := 10) 0 dX12_undo_10 rfl rfl h0.pos ?_
    refine pm_dup (pc := 11) rfl dX12_undo_11 ?_
    refine pm_getI (pc := 12) (k := 30) pm_cl12 flX12_195 (by decide) rfl h0 dX12_undo_12 ?_
    refine pm_iconst (pc := 15) (1 : Int32) (by decide) dX12_undo_15 ?_
    refine pm_isub (pc := 16) dX12_undo_16 ?_
    refine pm_putI (pc := 17) (k := 30) pm_cl12 flX12_195 (by decide) rfl rfl rfl h0 dX12_undo_17 ?_
    obtain ⟨s1, es1, hf⟩ := pm_let_e hf
    refine pm_nmh es1 ?_
    refine pm_iconst (pc := 20) (0 : Int32) (by decide) dX12_undo_20 ?_
    refine pm_istore_n (pc := 21) [(1, .int (0 : Int32)), (0, .ref a0)] dX12_undo_21 rfl (by decide) rfl ?_
    refine pm_lv [(0, .ref a0), (1, .int (0 : Int32))] [1, 0] rfl ?_
    refine fX12_undo_L22_E l h0 (fun s8 hf => ?_) pm_fuel (0 : Int32) s1 hf
    refine pm_aload_n (pc := 54) 0 dX12_undo_54 rfl rfl h0.pos ?_
    refine pm_getI (pc := 55) (k := 30) pm_cl12 flX12_195 (by decide) rfl h0 dX12_undo_55 ?_
    exact pm_iret rfl dX12_undo_58 (pm_ri_e hf)
def fX12_longBehind_L9 (S : pm_S) (v0 : Nat) (v1 : Int32) (kx : Int32 → pm_H → Option (Int32 × pm_H)) : Nat → Int32 → Int32 → pm_H → Option (Int32 × pm_H)
  | 0, _, _, _ => none
  | n + 1, v2, v3, σ => (if v1 ≤ v3 then kx v2 σ else (if v2 ≤ (σ.1 v0 1) then fX12_longBehind_L9 S v0 v1 kx n (1 : Int32) (v3 + (1 : Int32)) σ else pm_let (v2 - (σ.1 v0 1)) fun x4 => fX12_longBehind_L9 S v0 v1 kx n x4 (v3 + (1 : Int32)) σ))
set_option maxRecDepth 100000 in
set_option maxHeartbeats 4000000 in
theorem fX12_longBehind_L9_E (l : Launch) {S : pm_S} {p : Int32 × pm_H} {v0 : Nat} {v1 : Int32} {kx : Int32 → pm_H → Option (Int32 × pm_H)} (h0 : pm_is S v0 15) (hkx : ∀ w2 sw, kx w2 sw = some p → pm_E l yX12_longBehind cX12_longBehind 4 (some .int) false 0 S (pm_ri S p) 39 [(2, .int w2)] [] S sw) : ∀ (n : Nat) (v2 : Int32) (v3 : Int32) (σ : pm_H), fX12_longBehind_L9 S v0 v1 kx n v2 v3 σ = some p → pm_E l yX12_longBehind cX12_longBehind 4 (some .int) false 0 S (pm_ri S p) 9 [(0, .ref v0), (1, .int v1), (2, .int v2), (3, .int v3)] [] S σ := by
  intro n
  induction n with
  | zero => intro v2 v3 σ hf; cases hf
  | succ n ih =>
    intro v2 v3 σ hf
    rw [fX12_longBehind_L9] at hf
    refine pm_iload_n (pc := 9) 3 dX12_longBehind_9 rfl rfl ?_
    refine pm_iload_n (pc := 10) 1 dX12_longBehind_10 rfl rfl ?_
    refine pm_icmp_ge (pc := 11) 39 dX12_longBehind_11 (by decide) (fun hc6 => ?_) (fun hc6 => ?_)
    · rw [if_pos hc6] at hf
      refine pm_lv [(2, .int v2)] [2] rfl ?_
      exact hkx v2 σ hf
    · rw [if_neg hc6] at hf
      refine pm_iload_n (pc := 14) 2 dX12_longBehind_14 rfl rfl ?_
      refine pm_aload_n (pc := 15) 0 dX12_longBehind_15 rfl rfl h0.pos ?_
      refine pm_getI (pc := 16) (k := 1) pm_cl12 flX12_170 (by decide) rfl h0 dX12_longBehind_16 ?_
      refine pm_icmp_le (pc := 19) 31 dX12_longBehind_19 (by decide) (fun hc5 => ?_) (fun hc5 => ?_)
      · rw [if_pos hc5] at hf
        refine pm_iconst (pc := 31) (1 : Int32) (by decide) dX12_longBehind_31 ?_
        refine pm_istore_n (pc := 32) [(2, .int (1 : Int32)), (0, .ref v0), (1, .int v1), (3, .int v3)] dX12_longBehind_32 rfl (by decide) rfl ?_
        refine pm_iinc (pc := 33) 3 (v3 + (1 : Int32)) [(3, .int (v3 + (1 : Int32))), (2, .int (1 : Int32)), (0, .ref v0), (1, .int v1)] dX12_longBehind_33 rfl rfl (by decide) rfl ?_
        refine pm_goto (pc := 36) 9 dX12_longBehind_36 (by decide) ?_
        refine pm_lv [(0, .ref v0), (1, .int v1), (2, .int (1 : Int32)), (3, .int (v3 + (1 : Int32)))] [2, 3, 1, 0] rfl ?_
        exact ih (1 : Int32) (v3 + (1 : Int32)) σ hf
      · rw [if_neg hc5] at hf
        refine pm_iload_n (pc := 22) 2 dX12_longBehind_22 rfl rfl ?_
        refine pm_aload_n (pc := 23) 0 dX12_longBehind_23 rfl rfl h0.pos ?_
        refine pm_getI (pc := 24) (k := 1) pm_cl12 flX12_170 (by decide) rfl h0 dX12_longBehind_24 ?_
        refine pm_isub (pc := 27) dX12_longBehind_27 ?_
        refine pm_goto (pc := 28) 32 dX12_longBehind_28 (by decide) ?_
        obtain ⟨x4, ex4, hf⟩ := pm_let_e hf
        refine pm_nmi ex4 ?_
        refine pm_istore_n (pc := 32) [(2, .int x4), (0, .ref v0), (1, .int v1), (3, .int v3)] dX12_longBehind_32 rfl (by decide) rfl ?_
        refine pm_iinc (pc := 33) 3 (v3 + (1 : Int32)) [(3, .int (v3 + (1 : Int32))), (2, .int x4), (0, .ref v0), (1, .int v1)] dX12_longBehind_33 rfl rfl (by decide) rfl ?_
        refine pm_goto (pc := 36) 9 dX12_longBehind_36 (by decide) ?_
        refine pm_lv [(0, .ref v0), (1, .int v1), (2, .int x4), (3, .int (v3 + (1 : Int32)))] [2, 3, 1, 0] rfl ?_
        exact ih x4 (v3 + (1 : Int32)) σ hf
def fX12_longBehind (S : pm_S) (a0 : Nat) (a1 : Int32) (σ : pm_H) : Option (Int32 × pm_H) :=
  (if pm_ib (0 : Int32) (pm_len S (σ.2 a0 11)) = true then pm_let (σ.1 (σ.2 a0 11) ((0 : Int32)).toNatClampNeg) fun x3 => fX12_longBehind_L9 S a0 a1 (fun w7 s8 => some (w7, s8)) pm_fuel x3 (0 : Int32) σ else none)
set_option maxRecDepth 100000 in
set_option maxHeartbeats 4000000 in
theorem KX12_longBehind (l : Launch) {S : pm_S} {p : Int32 × pm_H} {a0 : Nat} {a1 : Int32} {σ : pm_H} (h0 : pm_is S a0 15) (hf : fX12_longBehind S a0 a1 σ = some p) : pm_M l yX12_longBehind cX12_longBehind 4 (some .int) false 0 [.ref a0, .int a1] S σ (pm_ri S p) := by
  refine pm_M.of (by decide +kernel) (Nat.le_of_ble_eq_true rfl) ?_
  show pm_E l yX12_longBehind cX12_longBehind 4 (some .int) false 0 S (pm_ri S p) 0 [(0, .ref a0), (1, .int a1)] [] S σ
  rw [fX12_longBehind] at hf
  refine pm_aload_n (pc := 0) 0 dX12_longBehind_0 rfl rfl h0.pos ?_
  refine pm_getT (pc := 1) (k := 11) pm_cl12 flX12_25 (by decide) rfl h0 dX12_longBehind_1 (fun hr1 => ?_)
  refine pm_iconst (pc := 4) (0 : Int32) (by decide) dX12_longBehind_4 ?_
  obtain ⟨hb2, hf⟩ := pm_gd hf
  refine pm_iald (pc := 5) hr1 (pm_ib_in hb2) dX12_longBehind_5 ?_
  obtain ⟨x3, ex3, hf⟩ := pm_let_e hf
  refine pm_nmi ex3 ?_
  refine pm_istore_n (pc := 6) [(2, .int x3), (0, .ref a0), (1, .int a1)] dX12_longBehind_6 rfl (by decide) rfl ?_
  refine pm_iconst (pc := 7) (0 : Int32) (by decide) dX12_longBehind_7 ?_
  refine pm_istore_n (pc := 8) [(3, .int (0 : Int32)), (2, .int x3), (0, .ref a0), (1, .int a1)] dX12_longBehind_8 rfl (by decide) rfl ?_
  refine pm_lv [(0, .ref a0), (1, .int a1), (2, .int x3), (3, .int (0 : Int32))] [2, 3, 1, 0] rfl ?_
  refine fX12_longBehind_L9_E l h0 (fun w7 s8 hf => ?_) pm_fuel x3 (0 : Int32) σ hf
  refine pm_iload_n (pc := 39) 0 dX12_longBehind_39 rfl rfl ?_
  exact pm_iret rfl dX12_longBehind_40 (pm_ri_e hf)
def fX12_warpBehind_L9 (S : pm_S) (v0 : Nat) (v1 : Int32) (kx : Int32 → pm_H → Option (Int32 × pm_H)) : Nat → Int32 → Int32 → pm_H → Option (Int32 × pm_H)
  | 0, _, _, _ => none
  | n + 1, v2, v3, σ => (if v1 ≤ v3 then kx v2 σ else (if pm_ib (3 : Int32) (pm_len S (σ.2 v0 11)) = true then Option.bind (fX12_swayOf S v0 ((σ.1 (σ.2 v0 11) ((3 : Int32)).toNatClampNeg) + v3) σ) fun u6 => Option.bind (fX12_bound S (v2 + u6.1) u6.2) fun u7 => fX12_warpBehind_L9 S v0 v1 kx n u7.1 (v3 + (1 : Int32)) u7.2 else none))
set_option maxRecDepth 100000 in
set_option maxHeartbeats 4000000 in
theorem fX12_warpBehind_L9_E (l : Launch) {S : pm_S} {p : Int32 × pm_H} {v0 : Nat} {v1 : Int32} {kx : Int32 → pm_H → Option (Int32 × pm_H)} (h0 : pm_is S v0 15) (hkx : ∀ w2 sw, kx w2 sw = some p → pm_E l yX12_warpBehind cX12_warpBehind 4 (some .int) false 1 S (pm_ri S p) 38 [(2, .int w2)] [] S sw) : ∀ (n : Nat) (v2 : Int32) (v3 : Int32) (σ : pm_H), fX12_warpBehind_L9 S v0 v1 kx n v2 v3 σ = some p → pm_E l yX12_warpBehind cX12_warpBehind 4 (some .int) false 1 S (pm_ri S p) 9 [(0, .ref v0), (1, .int v1), (2, .int v2), (3, .int v3)] [] S σ := by
  intro n
  induction n with
  | zero => intro v2 v3 σ hf; cases hf
  | succ n ih =>
    intro v2 v3 σ hf
    rw [fX12_warpBehind_L9] at hf
    refine pm_iload_n (pc := 9) 3 dX12_warpBehind_9 rfl rfl ?_
    refine pm_iload_n (pc := 10) 1 dX12_warpBehind_10 rfl rfl ?_
    refine pm_icmp_ge (pc := 11) 38 dX12_warpBehind_11 (by decide) (fun hc8 => ?_) (fun hc8 => ?_)
    · rw [if_pos hc8] at hf
      refine pm_lv [(2, .int v2)] [2] rfl ?_
      exact hkx v2 σ hf
    · rw [if_neg hc8] at hf
      refine pm_iload_n (pc := 14) 2 dX12_warpBehind_14 rfl rfl ?_
      refine pm_aload_n (pc := 15) 0 dX12_warpBehind_15 rfl rfl h0.pos ?_
      refine pm_aload_n (pc := 16) 0 dX12_warpBehind_16 rfl rfl h0.pos ?_
      refine pm_getT (pc := 17) (k := 11) pm_cl12 flX12_25 (by decide) rfl h0 dX12_warpBehind_17 (fun hr4 => ?_)
      refine pm_iconst (pc := 20) (3 : Int32) (by decide) dX12_warpBehind_20 ?_
      obtain ⟨hb5, hf⟩ := pm_gd hf
      refine pm_iald (pc := 21) hr4 (pm_ib_in hb5) dX12_warpBehind_21 ?_
      refine pm_iload_n (pc := 22) 3 dX12_warpBehind_22 rfl rfl ?_
      refine pm_iadd (pc := 23) dX12_warpBehind_23 ?_
      obtain ⟨u6, hu6, hf⟩ := pm_bind_e hf
      refine pm_cVi (pc := 24) (as := [.int ((σ.1 (σ.2 v0 11) ((3 : Int32)).toNatClampNeg) + v3)]) (st := [.int v2]) mvX12_223 (KX12_swayOf l h0 hu6) (by decide) h0 rfl rfl (Nat.le_of_ble_eq_true rfl) rfl dX12_warpBehind_24 ?_
      refine pm_iadd (pc := 27) dX12_warpBehind_27 ?_
      obtain ⟨u7, hu7, hf⟩ := pm_bind_e hf
      refine pm_cSi (pc := 28) (as := [.int (v2 + u6.1)]) (st := []) msX12_226 (KX12_bound l  hu7) (by decide) rfl rfl (Nat.le_of_ble_eq_true rfl) rfl dX12_warpBehind_28 ?_
      refine pm_istore_n (pc := 31) [(2, .int u7.1), (0, .ref v0), (1, .int v1), (3, .int v3)] dX12_warpBehind_31 rfl (by decide) rfl ?_
      refine pm_iinc (pc := 32) 3 (v3 + (1 : Int32)) [(3, .int (v3 + (1 : Int32))), (2, .int u7.1), (0, .ref v0), (1, .int v1)] dX12_warpBehind_32 rfl rfl (by decide) rfl ?_
      refine pm_goto (pc := 35) 9 dX12_warpBehind_35 (by decide) ?_
      refine pm_lv [(0, .ref v0), (1, .int v1), (2, .int u7.1), (3, .int (v3 + (1 : Int32)))] [2, 3, 1, 0] rfl ?_
      exact ih u7.1 (v3 + (1 : Int32)) u7.2 hf
def fX12_warpBehind (S : pm_S) (a0 : Nat) (a1 : Int32) (σ : pm_H) : Option (Int32 × pm_H) :=
  (if pm_ib (1 : Int32) (pm_len S (σ.2 a0 11)) = true then pm_let (σ.1 (σ.2 a0 11) ((1 : Int32)).toNatClampNeg) fun x3 => fX12_warpBehind_L9 S a0 a1 (fun w9 s10 => some (w9, s10)) pm_fuel x3 (0 : Int32) σ else none)
set_option maxRecDepth 100000 in
set_option maxHeartbeats 4000000 in
theorem KX12_warpBehind (l : Launch) {S : pm_S} {p : Int32 × pm_H} {a0 : Nat} {a1 : Int32} {σ : pm_H} (h0 : pm_is S a0 15) (hf : fX12_warpBehind S a0 a1 σ = some p) : pm_M l yX12_warpBehind cX12_warpBehind 4 (some .int) false 1 [.ref a0, .int a1] S σ (pm_ri S p) := by
  refine pm_M.of (by decide +kernel) (Nat.le_of_ble_eq_true rfl) ?_
  show pm_E l yX12_warpBehind cX12_warpBehind 4 (some .int) false 1 S (pm_ri S p) 0 [(0, .ref a0), (1, .int a1)] [] S σ
  rw [fX12_warpBehind] at hf
  refine pm_aload_n (pc := 0) 0 dX12_warpBehind_0 rfl rfl h0.pos ?_
  refine pm_getT (pc := 1) (k := 11) pm_cl12 flX12_25 (by decide) rfl h0 dX12_warpBehind_1 (fun hr1 => ?_)
  refine pm_iconst (pc := 4) (1 : Int32) (by decide) dX12_warpBehind_4 ?_
  obtain ⟨hb2, hf⟩ := pm_gd hf
  refine pm_iald (pc := 5) hr1 (pm_ib_in hb2) dX12_warpBehind_5 ?_
  obtain ⟨x3, ex3, hf⟩ := pm_let_e hf
  refine pm_nmi ex3 ?_
  refine pm_istore_n (pc := 6) [(2, .int x3), (0, .ref a0), (1, .int a1)] dX12_warpBehind_6 rfl (by decide) rfl ?_
  refine pm_iconst (pc := 7) (0 : Int32) (by decide) dX12_warpBehind_7 ?_
  refine pm_istore_n (pc := 8) [(3, .int (0 : Int32)), (2, .int x3), (0, .ref a0), (1, .int a1)] dX12_warpBehind_8 rfl (by decide) rfl ?_
  refine pm_lv [(0, .ref a0), (1, .int a1), (2, .int x3), (3, .int (0 : Int32))] [2, 3, 1, 0] rfl ?_
  refine fX12_warpBehind_L9_E l h0 (fun w9 s10 hf => ?_) pm_fuel x3 (0 : Int32) σ hf
  refine pm_iload_n (pc := 38) 0 dX12_warpBehind_38 rfl rfl ?_
  exact pm_iret rfl dX12_warpBehind_39 (pm_ri_e hf)
def fX12_longAt (S : pm_S) (a0 : Nat) (a1 : Int32) (a2 : Int32) (σ : pm_H) : Option (Int32 × pm_H) :=
  Option.bind (fX12_in S a1.toInt64 (0 : Int64) (60 : Int64) σ) fun u1 => (if u1.1 = 0 then some ((-1000000002 : Int32), u1.2) else Option.bind (fX12_in S a2.toInt64 (0 : Int64) (1 : Int64) u1.2) fun u2 => (if u2.1 = 0 then some ((-1000000002 : Int32), u2.2) else Option.bind (fX12_isRealm S a0 u2.2) fun u3 => (if u3.1 = 0 then some ((-1000000003 : Int32), u3.2) else (if a2 = 0 then Option.bind (fX12_longBehind S a0 a1 u3.2) fun u5 => some (u5.1, u5.2) else Option.bind (fX12_warpBehind S a0 a1 u3.2) fun u4 => some ((u4.1 + (1000 : Int32)), u4.2)))))
set_option maxRecDepth 100000 in
set_option maxHeartbeats 4000000 in
theorem KX12_longAt (l : Launch) {S : pm_S} {p : Int32 × pm_H} {a0 : Nat} {a1 : Int32} {a2 : Int32} {σ : pm_H} (h0 : pm_is S a0 15) (hf : fX12_longAt S a0 a1 a2 σ = some p) : pm_M l yX12_longAt cX12_longAt 3 (some .int) false 2 [.ref a0, .int a1, .int a2] S σ (pm_ri S p) := by
  refine pm_M.of (by decide +kernel) (Nat.le_of_ble_eq_true rfl) ?_
  show pm_E l yX12_longAt cX12_longAt 3 (some .int) false 2 S (pm_ri S p) 0 [(0, .ref a0), (1, .int a1), (2, .int a2)] [] S σ
  rw [fX12_longAt] at hf
  refine pm_iload_n (pc := 0) 1 dX12_longAt_0 rfl rfl ?_
  refine pm_i2l (pc := 1) dX12_longAt_1 ?_
  refine pm_lconst (pc := 2) (0 : Int64) (by decide) dX12_longAt_2 ?_
  refine pm_ldc2 (pc := 3) klX12_229 dX12_longAt_3 ?_
  obtain ⟨u1, hu1, hf⟩ := pm_bind_e hf
  refine pm_cSi (pc := 6) (as := [.long a1.toInt64, .long (0 : Int64), .long (60 : Int64)]) (st := []) msX12_87 (KX12_in l  hu1) (by decide) rfl rfl (Nat.le_of_ble_eq_true rfl) rfl dX12_longAt_6 ?_
  refine pm_if_eq (pc := 9) 22 dX12_longAt_9 (by decide) (fun hc9 => ?_) (fun hc9 => ?_)
  · rw [if_pos hc9] at hf
    refine pm_ldc (pc := 22) kcX12_96 dX12_longAt_22 ?_
    exact pm_iret rfl dX12_longAt_24 (pm_ri_e hf)
  · rw [if_neg hc9] at hf
    refine pm_iload_n (pc := 12) 2 dX12_longAt_12 rfl rfl ?_
    refine pm_i2l (pc := 13) dX12_longAt_13 ?_
    refine pm_lconst (pc := 14) (0 : Int64) (by decide) dX12_longAt_14 ?_
    refine pm_lconst (pc := 15) (1 : Int64) (by decide) dX12_longAt_15 ?_
    obtain ⟨u2, hu2, hf⟩ := pm_bind_e hf
    refine pm_cSi (pc := 16) (as := [.long a2.toInt64, .long (0 : Int64), .long (1 : Int64)]) (st := []) msX12_87 (KX12_in l  hu2) (by decide) rfl rfl (Nat.le_of_ble_eq_true rfl) rfl dX12_longAt_16 ?_
    refine pm_if_ne (pc := 19) 25 dX12_longAt_19 (by decide) (fun hc8 => ?_) (fun hc8 => ?_)
    · rw [if_pos hc8] at hf
      refine pm_ldc (pc := 22) kcX12_96 dX12_longAt_22 ?_
      exact pm_iret rfl dX12_longAt_24 (pm_ri_e hf)
    · rw [if_neg hc8] at hf
      refine pm_aload_n (pc := 25) 0 dX12_longAt_25 rfl rfl h0.pos ?_
      obtain ⟨u3, hu3, hf⟩ := pm_bind_e hf
      refine pm_cVi (pc := 26) (as := []) (st := []) mvX12_208 (KX12_isRealm l h0 hu3) (by decide) h0 rfl rfl (Nat.le_of_ble_eq_true rfl) rfl dX12_longAt_26 ?_
      refine pm_if_ne (pc := 29) 35 dX12_longAt_29 (by decide) (fun hc7 => ?_) (fun hc7 => ?_)
      · rw [if_pos hc7] at hf
        refine pm_ldc (pc := 32) kcX12_212 dX12_longAt_32 ?_
        exact pm_iret rfl dX12_longAt_34 (pm_ri_e hf)
      · rw [if_neg hc7] at hf
        refine pm_iload_n (pc := 35) 2 dX12_longAt_35 rfl rfl ?_
        refine pm_if_ne (pc := 36) 47 dX12_longAt_36 (by decide) (fun hc6 => ?_) (fun hc6 => ?_)
        · rw [if_pos hc6] at hf
          refine pm_aload_n (pc := 39) 0 dX12_longAt_39 rfl rfl h0.pos ?_
          refine pm_iload_n (pc := 40) 1 dX12_longAt_40 rfl rfl ?_
          obtain ⟨u5, hu5, hf⟩ := pm_bind_e hf
          refine pm_cVi (pc := 41) (as := [.int a1]) (st := []) mvX12_283 (KX12_longBehind l h0 hu5) (by decide) h0 rfl rfl (Nat.le_of_ble_eq_true rfl) rfl dX12_longAt_41 ?_
          refine pm_goto (pc := 44) 56 dX12_longAt_44 (by decide) ?_
          exact pm_iret rfl dX12_longAt_56 (pm_ri_e hf)
        · rw [if_neg hc6] at hf
          refine pm_aload_n (pc := 47) 0 dX12_longAt_47 rfl rfl h0.pos ?_
          refine pm_iload_n (pc := 48) 1 dX12_longAt_48 rfl rfl ?_
          obtain ⟨u4, hu4, hf⟩ := pm_bind_e hf
          refine pm_cVi (pc := 49) (as := [.int a1]) (st := []) mvX12_286 (KX12_warpBehind l h0 hu4) (by decide) h0 rfl rfl (Nat.le_of_ble_eq_true rfl) rfl dX12_longAt_49 ?_
          refine pm_sipush (pc := 52) (1000 : Int32) (by decide) dX12_longAt_52 ?_
          refine pm_iadd (pc := 55) dX12_longAt_55 ?_
          exact pm_iret rfl dX12_longAt_56 (pm_ri_e hf)
def fX12_firstShort_L27 (S : pm_S) (v0 : Nat) (v1 : Int32) (kx : pm_H → Option (Int32 × pm_H)) : Nat → Int32 → pm_H → Option (Int32 × pm_H)
  | 0, _, _ => none
  | n + 1, v2, σ => (if (200 : Int32) < v2 then kx σ else Option.bind (fX12_longBehind S v0 v2 σ) fun u3 => (if v1 ≤ u3.1 then fX12_firstShort_L27 S v0 v1 kx n (v2 + (1 : Int32)) u3.2 else some (v2, u3.2)))
set_option maxRecDepth 100000 in
set_option maxHeartbeats 4000000 in
theorem fX12_firstShort_L27_E (l : Launch) {S : pm_S} {p : Int32 × pm_H} {v0 : Nat} {v1 : Int32} {kx : pm_H → Option (Int32 × pm_H)} (h0 : pm_is S v0 15) (hkx : ∀  sw, kx  sw = some p → pm_E l yX12_firstShort cX12_firstShort 3 (some .int) false 1 S (pm_ri S p) 51 [] [] S sw) : ∀ (n : Nat) (v2 : Int32) (σ : pm_H), fX12_firstShort_L27 S v0 v1 kx n v2 σ = some p → pm_E l yX12_firstShort cX12_firstShort 3 (some .int) false 1 S (pm_ri S p) 27 [(0, .ref v0), (1, .int v1), (2, .int v2)] [] S σ := by
  intro n
  induction n with
  | zero => intro v2 σ hf; cases hf
  | succ n ih =>
    intro v2 σ hf
    rw [fX12_firstShort_L27] at hf
    refine pm_iload_n (pc := 27) 2 dX12_firstShort_27 rfl rfl ?_
    refine pm_sipush (pc := 28) (200 : Int32) (by decide) dX12_firstShort_28 ?_
    refine pm_icmp_gt (pc := 31) 51 dX12_firstShort_31 (by decide) (fun hc5 => ?_) (fun hc5 => ?_)
    · rw [if_pos hc5] at hf
      refine pm_lv [] [] rfl ?_
      exact hkx σ hf
    · rw [if_neg hc5] at hf
      refine pm_aload_n (pc := 34) 0 dX12_firstShort_34 rfl rfl h0.pos ?_
      refine pm_iload_n (pc := 35) 2 dX12_firstShort_35 rfl rfl ?_
      obtain ⟨u3, hu3, hf⟩ := pm_bind_e hf
      refine pm_cVi (pc := 36) (as := [.int v2]) (st := []) mvX12_283 (KX12_longBehind l h0 hu3) (by decide) h0 rfl rfl (Nat.le_of_ble_eq_true rfl) rfl dX12_firstShort_36 ?_
      refine pm_iload_n (pc := 39) 1 dX12_firstShort_39 rfl rfl ?_
      refine pm_icmp_ge (pc := 40) 45 dX12_firstShort_40 (by decide) (fun hc4 => ?_) (fun hc4 => ?_)
      · rw [if_pos hc4] at hf
        refine pm_iinc (pc := 45) 2 (v2 + (1 : Int32)) [(2, .int (v2 + (1 : Int32))), (0, .ref v0), (1, .int v1)] dX12_firstShort_45 rfl rfl (by decide) rfl ?_
        refine pm_goto (pc := 48) 27 dX12_firstShort_48 (by decide) ?_
        refine pm_lv [(0, .ref v0), (1, .int v1), (2, .int (v2 + (1 : Int32)))] [1, 2, 0] rfl ?_
        exact ih (v2 + (1 : Int32)) u3.2 hf
      · rw [if_neg hc4] at hf
        refine pm_iload_n (pc := 43) 2 dX12_firstShort_43 rfl rfl ?_
        exact pm_iret rfl dX12_firstShort_44 (pm_ri_e hf)
def fX12_firstShort (S : pm_S) (a0 : Nat) (a1 : Int32) (σ : pm_H) : Option (Int32 × pm_H) :=
  Option.bind (fX12_in S a1.toInt64 (1 : Int64) (240 : Int64) σ) fun u1 => (if u1.1 = 0 then some ((-1000000002 : Int32), u1.2) else Option.bind (fX12_isRealm S a0 u1.2) fun u2 => (if u2.1 = 0 then some ((-1000000003 : Int32), u2.2) else fX12_firstShort_L27 S a0 a1 (fun s6 => some ((-1 : Int32), s6)) pm_fuel (0 : Int32) u2.2))
set_option maxRecDepth 100000 in
set_option maxHeartbeats 4000000 in
theorem KX12_firstShort (l : Launch) {S : pm_S} {p : Int32 × pm_H} {a0 : Nat} {a1 : Int32} {σ : pm_H} (h0 : pm_is S a0 15) (hf : fX12_firstShort S a0 a1 σ = some p) : pm_M l yX12_firstShort cX12_firstShort 3 (some .int) false 1 [.ref a0, .int a1] S σ (pm_ri S p) := by
  refine pm_M.of (by decide +kernel) (Nat.le_of_ble_eq_true rfl) ?_
  show pm_E l yX12_firstShort cX12_firstShort 3 (some .int) false 1 S (pm_ri S p) 0 [(0, .ref a0), (1, .int a1)] [] S σ
  rw [fX12_firstShort] at hf
  refine pm_iload_n (pc := 0) 1 dX12_firstShort_0 rfl rfl ?_
  refine pm_i2l (pc := 1) dX12_firstShort_1 ?_
  refine pm_lconst (pc := 2) (1 : Int64) (by decide) dX12_firstShort_2 ?_
  refine pm_ldc2 (pc := 3) klX12_289 dX12_firstShort_3 ?_
  obtain ⟨u1, hu1, hf⟩ := pm_bind_e hf
  refine pm_cSi (pc := 6) (as := [.long a1.toInt64, .long (1 : Int64), .long (240 : Int64)]) (st := []) msX12_87 (KX12_in l  hu1) (by decide) rfl rfl (Nat.le_of_ble_eq_true rfl) rfl dX12_firstShort_6 ?_
  refine pm_if_ne (pc := 9) 15 dX12_firstShort_9 (by decide) (fun hc8 => ?_) (fun hc8 => ?_)
  · rw [if_pos hc8] at hf
    refine pm_ldc (pc := 12) kcX12_96 dX12_firstShort_12 ?_
    exact pm_iret rfl dX12_firstShort_14 (pm_ri_e hf)
  · rw [if_neg hc8] at hf
    refine pm_aload_n (pc := 15) 0 dX12_firstShort_15 rfl rfl h0.pos ?_
    obtain ⟨u2, hu2, hf⟩ := pm_bind_e hf
    refine pm_cVi (pc := 16) (as := []) (st := []) mvX12_208 (KX12_isRealm l h0 hu2) (by decide) h0 rfl rfl (Nat.le_of_ble_eq_true rfl) rfl dX12_firstShort_16 ?_
    refine pm_if_ne (pc := 19) 25 dX12_firstShort_19 (by decide) (fun hc7 => ?_) (fun hc7 => ?_)
    · rw [if_pos hc7] at hf
      refine pm_ldc (pc := 22) kcX12_212 dX12_firstShort_22 ?_
      exact pm_iret rfl dX12_firstShort_24 (pm_ri_e hf)
    · rw [if_neg hc7] at hf
      refine pm_iconst (pc := 25) (0 : Int32) (by decide) dX12_firstShort_25 ?_
      refine pm_istore_n (pc := 26) [(2, .int (0 : Int32)), (0, .ref a0), (1, .int a1)] dX12_firstShort_26 rfl (by decide) rfl ?_
      refine pm_lv [(0, .ref a0), (1, .int a1), (2, .int (0 : Int32))] [1, 2, 0] rfl ?_
      refine fX12_firstShort_L27_E l h0 (fun s6 hf => ?_) pm_fuel (0 : Int32) u2.2 hf
      refine pm_iconst (pc := 51) (-1 : Int32) (by decide) dX12_firstShort_51 ?_
      exact pm_iret rfl dX12_firstShort_52 (pm_ri_e hf)
def fX12_planeWhen_J79 (S : pm_S) (v0 : Nat) (v1 : Int32) (v2 : Int32) (v4 : Int32) (v5 : Int32) (v6 : Int32) (t0 : Int32) (ag : Int32 → Int32 → Int32 → pm_H → Option (Int32 × pm_H)) (σ : pm_H) : Option (Int32 × pm_H) :=
  (if v6 ≤ v4 then ag t0 v4 (v5 + (1 : Int32)) σ else ag t0 v6 (v5 + (1 : Int32)) σ)
set_option maxRecDepth 100000 in
set_option maxHeartbeats 4000000 in
theorem fX12_planeWhen_J79_E (l : Launch) {S : pm_S} {p : Int32 × pm_H} {v0 : Nat} {v1 : Int32} {v2 : Int32} {v4 : Int32} {v5 : Int32} {v6 : Int32} {t0 : Int32} {ag : Int32 → Int32 → Int32 → pm_H → Option (Int32 × pm_H)} {σ : pm_H} (h0 : pm_is S v0 15) (hag : ∀ w3 w4 w5 sw, ag w3 w4 w5 sw = some p → pm_E l yX12_planeWhen cX12_planeWhen 7 (some .int) false 2 S (pm_ri S p) 43 [(0, .ref v0), (1, .int v1), (2, .int v2), (3, .int w3), (4, .int w4), (5, .int w5)] [] S sw) (hf : fX12_planeWhen_J79 S v0 v1 v2 v4 v5 v6 t0 ag σ = some p) : pm_E l yX12_planeWhen cX12_planeWhen 7 (some .int) false 2 S (pm_ri S p) 79 [(0, .ref v0), (1, .int v1), (2, .int v2), (4, .int v4), (5, .int v5), (6, .int v6)] [.int t0] S σ := by
  rw [fX12_planeWhen_J79] at hf
  refine pm_istore_n (pc := 79) [(3, .int t0), (0, .ref v0), (1, .int v1), (2, .int v2), (4, .int v4), (5, .int v5), (6, .int v6)] dX12_planeWhen_79 rfl (by decide) rfl ?_
  refine pm_iload (pc := 80) 6 dX12_planeWhen_80 rfl ?_
  refine pm_iload (pc := 82) 4 dX12_planeWhen_82 rfl ?_
  refine pm_icmp_le (pc := 84) 92 dX12_planeWhen_84 (by decide) (fun hc7 => ?_) (fun hc7 => ?_)
  · rw [if_pos hc7] at hf
    refine pm_iload (pc := 92) 4 dX12_planeWhen_92 rfl ?_
    refine pm_istore (pc := 94) [(4, .int v4), (3, .int t0), (0, .ref v0), (1, .int v1), (2, .int v2), (5, .int v5), (6, .int v6)] dX12_planeWhen_94 (by decide) rfl ?_
    refine pm_iinc (pc := 96) 5 (v5 + (1 : Int32)) [(5, .int (v5 + (1 : Int32))), (4, .int v4), (3, .int t0), (0, .ref v0), (1, .int v1), (2, .int v2), (6, .int v6)] dX12_planeWhen_96 rfl rfl (by decide) rfl ?_
    refine pm_goto (pc := 99) 43 dX12_planeWhen_99 (by decide) ?_
    refine pm_lv [(0, .ref v0), (1, .int v1), (2, .int v2), (3, .int t0), (4, .int v4), (5, .int (v5 + (1 : Int32)))] [3, 4, 5, 2, 1, 0] rfl ?_
    exact hag t0 v4 (v5 + (1 : Int32)) σ hf
  · rw [if_neg hc7] at hf
    refine pm_iload (pc := 87) 6 dX12_planeWhen_87 rfl ?_
    refine pm_goto (pc := 89) 94 dX12_planeWhen_89 (by decide) ?_
    refine pm_istore (pc := 94) [(4, .int v6), (3, .int t0), (0, .ref v0), (1, .int v1), (2, .int v2), (5, .int v5), (6, .int v6)] dX12_planeWhen_94 (by decide) rfl ?_
    refine pm_iinc (pc := 96) 5 (v5 + (1 : Int32)) [(5, .int (v5 + (1 : Int32))), (4, .int v6), (3, .int t0), (0, .ref v0), (1, .int v1), (2, .int v2), (6, .int v6)] dX12_planeWhen_96 rfl rfl (by decide) rfl ?_
    refine pm_goto (pc := 99) 43 dX12_planeWhen_99 (by decide) ?_
    refine pm_lv [(0, .ref v0), (1, .int v1), (2, .int v2), (3, .int t0), (4, .int v6), (5, .int (v5 + (1 : Int32)))] [3, 4, 5, 2, 1, 0] rfl ?_
    exact hag t0 v6 (v5 + (1 : Int32)) σ hf
def fX12_planeWhen_L43 (S : pm_S) (v0 : Nat) (v1 : Int32) (v2 : Int32) (kx : Int32 → Int32 → pm_H → Option (Int32 × pm_H)) : Nat → Int32 → Int32 → Int32 → pm_H → Option (Int32 × pm_H)
  | 0, _, _, _, _ => none
  | n + 1, v3, v4, v5, σ => (if v1 < v5 then kx v3 v4 σ else Option.bind (fX12_longBehind S v0 v5 σ) fun u4 => Option.bind (fX12_warpBehind S v0 v5 u4.2) fun u5 => Option.bind (fX12_planed S u4.1 u5.1 u5.2) fun u6 => (if u6.1 ≤ v4 then fX12_planeWhen_J79 S v0 v1 v2 v4 v5 u6.1 v3 (fun w3 w4 w5 sw => fX12_planeWhen_L43 S v0 v1 v2 kx n w3 w4 w5 sw) u6.2 else fX12_planeWhen_J79 S v0 v1 v2 v4 v5 u6.1 v5 (fun w3 w4 w5 sw => fX12_planeWhen_L43 S v0 v1 v2 kx n w3 w4 w5 sw) u6.2))
set_option maxRecDepth 100000 in
set_option maxHeartbeats 4000000 in
theorem fX12_planeWhen_L43_E (l : Launch) {S : pm_S} {p : Int32 × pm_H} {v0 : Nat} {v1 : Int32} {v2 : Int32} {kx : Int32 → Int32 → pm_H → Option (Int32 × pm_H)} (h0 : pm_is S v0 15) (hkx : ∀ w3 w4 sw, kx w3 w4 sw = some p → pm_E l yX12_planeWhen cX12_planeWhen 7 (some .int) false 2 S (pm_ri S p) 102 [(2, .int v2), (3, .int w3), (4, .int w4)] [] S sw) : ∀ (n : Nat) (v3 : Int32) (v4 : Int32) (v5 : Int32) (σ : pm_H), fX12_planeWhen_L43 S v0 v1 v2 kx n v3 v4 v5 σ = some p → pm_E l yX12_planeWhen cX12_planeWhen 7 (some .int) false 2 S (pm_ri S p) 43 [(0, .ref v0), (1, .int v1), (2, .int v2), (3, .int v3), (4, .int v4), (5, .int v5)] [] S σ := by
  intro n
  induction n with
  | zero => intro v3 v4 v5 σ hf; cases hf
  | succ n ih =>
    intro v3 v4 v5 σ hf
    rw [fX12_planeWhen_L43] at hf
    refine pm_iload (pc := 43) 5 dX12_planeWhen_43 rfl ?_
    refine pm_iload_n (pc := 45) 1 dX12_planeWhen_45 rfl rfl ?_
    refine pm_icmp_gt (pc := 46) 102 dX12_planeWhen_46 (by decide) (fun hc9 => ?_) (fun hc9 => ?_)
    · rw [if_pos hc9] at hf
      refine pm_lv [(2, .int v2), (3, .int v3), (4, .int v4)] [2, 3, 4] rfl ?_
      exact hkx v3 v4 σ hf
    · rw [if_neg hc9] at hf
      refine pm_aload_n (pc := 49) 0 dX12_planeWhen_49 rfl rfl h0.pos ?_
      refine pm_iload (pc := 50) 5 dX12_planeWhen_50 rfl ?_
      obtain ⟨u4, hu4, hf⟩ := pm_bind_e hf
      refine pm_cVi (pc := 52) (as := [.int v5]) (st := []) mvX12_283 (KX12_longBehind l h0 hu4) (by decide) h0 rfl rfl (Nat.le_of_ble_eq_true rfl) rfl dX12_planeWhen_52 ?_
      refine pm_aload_n (pc := 55) 0 dX12_planeWhen_55 rfl rfl h0.pos ?_
      refine pm_iload (pc := 56) 5 dX12_planeWhen_56 rfl ?_
      obtain ⟨u5, hu5, hf⟩ := pm_bind_e hf
      refine pm_cVi (pc := 58) (as := [.int v5]) (st := [.int u4.1]) mvX12_286 (KX12_warpBehind l h0 hu5) (by decide) h0 rfl rfl (Nat.le_of_ble_eq_true rfl) rfl dX12_planeWhen_58 ?_
      obtain ⟨u6, hu6, hf⟩ := pm_bind_e hf
      refine pm_cSi (pc := 61) (as := [.int u4.1, .int u5.1]) (st := []) msX12_260 (KX12_planed l  hu6) (by decide) rfl rfl (Nat.le_of_ble_eq_true rfl) rfl dX12_planeWhen_61 ?_
      refine pm_istore (pc := 64) [(6, .int u6.1), (0, .ref v0), (1, .int v1), (2, .int v2), (3, .int v3), (4, .int v4), (5, .int v5)] dX12_planeWhen_64 (by decide) rfl ?_
      refine pm_iload (pc := 66) 0 dX12_planeWhen_66 rfl ?_
      refine pm_iload (pc := 68) 5 dX12_planeWhen_68 rfl ?_
      refine pm_icmp_le (pc := 70) 78 dX12_planeWhen_70 (by decide) (fun hc8 => ?_) (fun hc8 => ?_)
      · rw [if_pos hc8] at hf
        refine pm_iload_n (pc := 78) 4 dX12_planeWhen_78 rfl rfl ?_
        refine pm_lv [(0, .ref v0), (1, .int v1), (2, .int v2), (4, .int v4), (5, .int v5), (6, .int u6.1)] [1, 2, 3, 5, 6, 0] rfl ?_
        exact fX12_planeWhen_J79_E l h0 ih hf
      · rw [if_neg hc8] at hf
        refine pm_iload (pc := 73) 6 dX12_planeWhen_73 rfl ?_
        refine pm_goto (pc := 75) 79 dX12_planeWhen_75 (by decide) ?_
        refine pm_lv [(0, .ref v0), (1, .int v1), (2, .int v2), (4, .int v4), (5, .int v5), (6, .int u6.1)] [1, 2, 3, 5, 6, 0] rfl ?_
        exact fX12_planeWhen_J79_E l h0 ih hf
def fX12_planeWhen (S : pm_S) (a0 : Nat) (a1 : Int32) (a2 : Int32) (σ : pm_H) : Option (Int32 × pm_H) :=
  Option.bind (fX12_in S a1.toInt64 (0 : Int64) (60 : Int64) σ) fun u1 => (if u1.1 = 0 then some ((-1000000002 : Int32), u1.2) else Option.bind (fX12_in S a2.toInt64 (0 : Int64) (1 : Int64) u1.2) fun u2 => (if u2.1 = 0 then some ((-1000000002 : Int32), u2.2) else Option.bind (fX12_isRealm S a0 u2.2) fun u3 => (if u3.1 = 0 then some ((-1000000003 : Int32), u3.2) else fX12_planeWhen_L43 S a0 a1 a2 (fun w10 w11 s12 => (if a2 = 0 then some (w10, s12) else some (w11, s12))) pm_fuel (0 : Int32) (0 : Int32) (0 : Int32) u3.2)))
set_option maxRecDepth 100000 in
set_option maxHeartbeats 4000000 in
theorem KX12_planeWhen (l : Launch) {S : pm_S} {p : Int32 × pm_H} {a0 : Nat} {a1 : Int32} {a2 : Int32} {σ : pm_H} (h0 : pm_is S a0 15) (hf : fX12_planeWhen S a0 a1 a2 σ = some p) : pm_M l yX12_planeWhen cX12_planeWhen 7 (some .int) false 2 [.ref a0, .int a1, .int a2] S σ (pm_ri S p) := by
  refine pm_M.of (by decide +kernel) (Nat.le_of_ble_eq_true rfl) ?_
  show pm_E l yX12_planeWhen cX12_planeWhen 7 (some .int) false 2 S (pm_ri S p) 0 [(0, .ref a0), (1, .int a1), (2, .int a2)] [] S σ
  rw [fX12_planeWhen] at hf
  refine pm_iload_n (pc := 0) 1 dX12_planeWhen_0 rfl rfl ?_
  refine pm_i2l (pc := 1) dX12_planeWhen_1 ?_
  refine pm_lconst (pc := 2) (0 : Int64) (by decide) dX12_planeWhen_2 ?_
  refine pm_ldc2 (pc := 3) klX12_229 dX12_planeWhen_3 ?_
  obtain ⟨u1, hu1, hf⟩ := pm_bind_e hf
  refine pm_cSi (pc := 6) (as := [.long a1.toInt64, .long (0 : Int64), .long (60 : Int64)]) (st := []) msX12_87 (KX12_in l  hu1) (by decide) rfl rfl (Nat.le_of_ble_eq_true rfl) rfl dX12_planeWhen_6 ?_
  refine pm_if_eq (pc := 9) 22 dX12_planeWhen_9 (by decide) (fun hc16 => ?_) (fun hc16 => ?_)
  · rw [if_pos hc16] at hf
    refine pm_ldc (pc := 22) kcX12_96 dX12_planeWhen_22 ?_
    exact pm_iret rfl dX12_planeWhen_24 (pm_ri_e hf)
  · rw [if_neg hc16] at hf
    refine pm_iload_n (pc := 12) 2 dX12_planeWhen_12 rfl rfl ?_
    refine pm_i2l (pc := 13) dX12_planeWhen_13 ?_
    refine pm_lconst (pc := 14) (0 : Int64) (by decide) dX12_planeWhen_14 ?_
    refine pm_lconst (pc := 15) (1 : Int64) (by decide) dX12_planeWhen_15 ?_
    obtain ⟨u2, hu2, hf⟩ := pm_bind_e hf
    refine pm_cSi (pc := 16) (as := [.long a2.toInt64, .long (0 : Int64), .long (1 : Int64)]) (st := []) msX12_87 (KX12_in l  hu2) (by decide) rfl rfl (Nat.le_of_ble_eq_true rfl) rfl dX12_planeWhen_16 ?_
    refine pm_if_ne (pc := 19) 25 dX12_planeWhen_19 (by decide) (fun hc15 => ?_) (fun hc15 => ?_)
    · rw [if_pos hc15] at hf
      refine pm_ldc (pc := 22) kcX12_96 dX12_planeWhen_22 ?_
      exact pm_iret rfl dX12_planeWhen_24 (pm_ri_e hf)
    · rw [if_neg hc15] at hf
      refine pm_aload_n (pc := 25) 0 dX12_planeWhen_25 rfl rfl h0.pos ?_
      obtain ⟨u3, hu3, hf⟩ := pm_bind_e hf
      refine pm_cVi (pc := 26) (as := []) (st := []) mvX12_208 (KX12_isRealm l h0 hu3) (by decide) h0 rfl rfl (Nat.le_of_ble_eq_true rfl) rfl dX12_planeWhen_26 ?_
      refine pm_if_ne (pc := 29) 35 dX12_planeWhen_29 (by decide) (fun hc14 => ?_) (fun hc14 => ?_)
      · rw [if_pos hc14] at hf
        refine pm_ldc (pc := 32) kcX12_212 dX12_planeWhen_32 ?_
        exact pm_iret rfl dX12_planeWhen_34 (pm_ri_e hf)
      · rw [if_neg hc14] at hf
        refine pm_iconst (pc := 35) (0 : Int32) (by decide) dX12_planeWhen_35 ?_
        refine pm_istore_n (pc := 36) [(3, .int (0 : Int32)), (0, .ref a0), (1, .int a1), (2, .int a2)] dX12_planeWhen_36 rfl (by decide) rfl ?_
        refine pm_iconst (pc := 37) (0 : Int32) (by decide) dX12_planeWhen_37 ?_
        refine pm_istore (pc := 38) [(4, .int (0 : Int32)), (3, .int (0 : Int32)), (0, .ref a0), (1, .int a1), (2, .int a2)] dX12_planeWhen_38 (by decide) rfl ?_
        refine pm_iconst (pc := 40) (0 : Int32) (by decide) dX12_planeWhen_40 ?_
        refine pm_istore (pc := 41) [(5, .int (0 : Int32)), (4, .int (0 : Int32)), (3, .int (0 : Int32)), (0, .ref a0), (1, .int a1), (2, .int a2)] dX12_planeWhen_41 (by decide) rfl ?_
        refine pm_lv [(0, .ref a0), (1, .int a1), (2, .int a2), (3, .int (0 : Int32)), (4, .int (0 : Int32)), (5, .int (0 : Int32))] [3, 4, 5, 2, 1, 0] rfl ?_
        refine fX12_planeWhen_L43_E l h0 (fun w10 w11 s12 hf => ?_) pm_fuel (0 : Int32) (0 : Int32) (0 : Int32) u3.2 hf
        refine pm_iload_n (pc := 102) 0 dX12_planeWhen_102 rfl rfl ?_
        refine pm_if_ne (pc := 103) 110 dX12_planeWhen_103 (by decide) (fun hc13 => ?_) (fun hc13 => ?_)
        · rw [if_pos hc13] at hf
          refine pm_iload_n (pc := 106) 1 dX12_planeWhen_106 rfl rfl ?_
          refine pm_goto (pc := 107) 112 dX12_planeWhen_107 (by decide) ?_
          exact pm_iret rfl dX12_planeWhen_112 (pm_ri_e hf)
        · rw [if_neg hc13] at hf
          refine pm_iload (pc := 110) 2 dX12_planeWhen_110 rfl ?_
          exact pm_iret rfl dX12_planeWhen_112 (pm_ri_e hf)
def fX12_layOn_J63 (S : pm_S) (v0 : Nat) (v1 : Int32) (v2 : Int32) (v3 : Int32) (v4 : Int32) (ag : Int32 → pm_H → Option (pm_H)) (σ : pm_H) : Option (pm_H) :=
  (if v4 = 0 then ag (v3 + (1 : Int32)) σ else (if (v3 - v1) < 0 then ag (v3 + (1 : Int32)) σ else (if pm_ib (v3 - v1) (pm_len S (σ.2 v0 32)) = true then (if (σ.1 (σ.2 v0 32) ((v3 - v1)).toNatClampNeg) ≤ v2 then ag (v3 + (1 : Int32)) σ else (if pm_ib (v3 - v1) (pm_len S (σ.2 v0 32)) = true then pm_let (pm_si σ (σ.2 v0 32) ((v3 - v1)).toNatClampNeg (v2 + (1 : Int32))) fun s7 => ag (v3 + (1 : Int32)) s7 else none)) else none)))
set_option maxRecDepth 100000 in
set_option maxHeartbeats 4000000 in
theorem fX12_layOn_J63_E (l : Launch) {S : pm_S} {p : pm_H} {v0 : Nat} {v1 : Int32} {v2 : Int32} {v3 : Int32} {v4 : Int32} {ag : Int32 → pm_H → Option (pm_H)} {σ : pm_H} (h0 : pm_is S v0 15) (hag : ∀ w3 sw, ag w3 sw = some p → pm_E l yX12_layOn cX12_layOn 5 none false 0 S (pm_ru S p) 2 [(0, .ref v0), (1, .int v1), (2, .int v2), (3, .int w3)] [] S sw) (hf : fX12_layOn_J63 S v0 v1 v2 v3 v4 ag σ = some p) : pm_E l yX12_layOn cX12_layOn 5 none false 0 S (pm_ru S p) 63 [(0, .ref v0), (1, .int v1), (2, .int v2), (3, .int v3), (4, .int v4)] [] S σ := by
  rw [fX12_layOn_J63] at hf
  refine pm_iload (pc := 63) 4 dX12_layOn_63 rfl ?_
  refine pm_if_eq (pc := 65) 97 dX12_layOn_65 (by decide) (fun hc10 => ?_) (fun hc10 => ?_)
  · rw [if_pos hc10] at hf
    refine pm_iinc (pc := 97) 3 (v3 + (1 : Int32)) [(3, .int (v3 + (1 : Int32))), (0, .ref v0), (1, .int v1), (2, .int v2), (4, .int v4)] dX12_layOn_97 rfl rfl (by decide) rfl ?_
    refine pm_goto (pc := 100) 2 dX12_layOn_100 (by decide) ?_
    refine pm_lv [(0, .ref v0), (1, .int v1), (2, .int v2), (3, .int (v3 + (1 : Int32)))] [1, 2, 3, 0] rfl ?_
    exact hag (v3 + (1 : Int32)) σ hf
  · rw [if_neg hc10] at hf
    refine pm_iload_n (pc := 68) 3 dX12_layOn_68 rfl rfl ?_
    refine pm_iload_n (pc := 69) 1 dX12_layOn_69 rfl rfl ?_
    refine pm_isub (pc := 70) dX12_layOn_70 ?_
    refine pm_if_lt (pc := 71) 97 dX12_layOn_71 (by decide) (fun hc9 => ?_) (fun hc9 => ?_)
    · rw [if_pos hc9] at hf
      refine pm_iinc (pc := 97) 3 (v3 + (1 : Int32)) [(3, .int (v3 + (1 : Int32))), (0, .ref v0), (1, .int v1), (2, .int v2), (4, .int v4)] dX12_layOn_97 rfl rfl (by decide) rfl ?_
      refine pm_goto (pc := 100) 2 dX12_layOn_100 (by decide) ?_
      refine pm_lv [(0, .ref v0), (1, .int v1), (2, .int v2), (3, .int (v3 + (1 : Int32)))] [1, 2, 3, 0] rfl ?_
      exact hag (v3 + (1 : Int32)) σ hf
    · rw [if_neg hc9] at hf
      refine pm_aload_n (pc := 74) 0 dX12_layOn_74 rfl rfl h0.pos ?_
      refine pm_getT (pc := 75) (k := 32) pm_cl12 flX12_53 (by decide) rfl h0 dX12_layOn_75 (fun hr3 => ?_)
      refine pm_iload_n (pc := 78) 3 dX12_layOn_78 rfl rfl ?_
      refine pm_iload_n (pc := 79) 1 dX12_layOn_79 rfl rfl ?_
      refine pm_isub (pc := 80) dX12_layOn_80 ?_
      obtain ⟨hb4, hf⟩ := pm_gd hf
      refine pm_iald (pc := 81) hr3 (pm_ib_in hb4) dX12_layOn_81 ?_
      refine pm_iload_n (pc := 82) 2 dX12_layOn_82 rfl rfl ?_
      refine pm_icmp_le (pc := 83) 97 dX12_layOn_83 (by decide) (fun hc8 => ?_) (fun hc8 => ?_)
      · rw [if_pos hc8] at hf
        refine pm_iinc (pc := 97) 3 (v3 + (1 : Int32)) [(3, .int (v3 + (1 : Int32))), (0, .ref v0), (1, .int v1), (2, .int v2), (4, .int v4)] dX12_layOn_97 rfl rfl (by decide) rfl ?_
        refine pm_goto (pc := 100) 2 dX12_layOn_100 (by decide) ?_
        refine pm_lv [(0, .ref v0), (1, .int v1), (2, .int v2), (3, .int (v3 + (1 : Int32)))] [1, 2, 3, 0] rfl ?_
        exact hag (v3 + (1 : Int32)) σ hf
      · rw [if_neg hc8] at hf
        refine pm_aload_n (pc := 86) 0 dX12_layOn_86 rfl rfl h0.pos ?_
        refine pm_getT (pc := 87) (k := 32) pm_cl12 flX12_53 (by decide) rfl h0 dX12_layOn_87 (fun hr5 => ?_)
        refine pm_iload_n (pc := 90) 3 dX12_layOn_90 rfl rfl ?_
        refine pm_iload_n (pc := 91) 1 dX12_layOn_91 rfl rfl ?_
        refine pm_isub (pc := 92) dX12_layOn_92 ?_
        refine pm_iload_n (pc := 93) 2 dX12_layOn_93 rfl rfl ?_
        refine pm_iconst (pc := 94) (1 : Int32) (by decide) dX12_layOn_94 ?_
        refine pm_iadd (pc := 95) dX12_layOn_95 ?_
        obtain ⟨hb6, hf⟩ := pm_gd hf
        refine pm_iast (pc := 96) hr5 (pm_ib_in hb6) dX12_layOn_96 ?_
        obtain ⟨s7, es7, hf⟩ := pm_let_e hf
        refine pm_nmh es7 ?_
        refine pm_iinc (pc := 97) 3 (v3 + (1 : Int32)) [(3, .int (v3 + (1 : Int32))), (0, .ref v0), (1, .int v1), (2, .int v2), (4, .int v4)] dX12_layOn_97 rfl rfl (by decide) rfl ?_
        refine pm_goto (pc := 100) 2 dX12_layOn_100 (by decide) ?_
        refine pm_lv [(0, .ref v0), (1, .int v1), (2, .int v2), (3, .int (v3 + (1 : Int32)))] [1, 2, 3, 0] rfl ?_
        exact hag (v3 + (1 : Int32)) s7 hf
def fX12_layOn_J24 (S : pm_S) (v0 : Nat) (v1 : Int32) (v2 : Int32) (v3 : Int32) (t0 : Int32) (ag : Int32 → pm_H → Option (pm_H)) (σ : pm_H) : Option (pm_H) :=
  (if t0 = 0 then fX12_layOn_J63 S v0 v1 v2 v3 t0 ag σ else (if (1000 : Int32) ≤ (v3 + v1) then fX12_layOn_J63 S v0 v1 v2 v3 t0 ag σ else (if pm_ib (v3 + v1) (pm_len S (σ.2 v0 32)) = true then (if (σ.1 (σ.2 v0 32) ((v3 + v1)).toNatClampNeg) ≤ v2 then fX12_layOn_J63 S v0 v1 v2 v3 t0 ag σ else (if pm_ib (v3 + v1) (pm_len S (σ.2 v0 32)) = true then pm_let (pm_si σ (σ.2 v0 32) ((v3 + v1)).toNatClampNeg (v2 + (1 : Int32))) fun s15 => fX12_layOn_J63 S v0 v1 v2 v3 t0 ag s15 else none)) else none)))
set_option maxRecDepth 100000 in
set_option maxHeartbeats 4000000 in
theorem fX12_layOn_J24_E (l : Launch) {S : pm_S} {p : pm_H} {v0 : Nat} {v1 : Int32} {v2 : Int32} {v3 : Int32} {t0 : Int32} {ag : Int32 → pm_H → Option (pm_H)} {σ : pm_H} (h0 : pm_is S v0 15) (hag : ∀ w3 sw, ag w3 sw = some p → pm_E l yX12_layOn cX12_layOn 5 none false 0 S (pm_ru S p) 2 [(0, .ref v0), (1, .int v1), (2, .int v2), (3, .int w3)] [] S sw) (hf : fX12_layOn_J24 S v0 v1 v2 v3 t0 ag σ = some p) : pm_E l yX12_layOn cX12_layOn 5 none false 0 S (pm_ru S p) 24 [(0, .ref v0), (1, .int v1), (2, .int v2), (3, .int v3)] [.int t0] S σ := by
  rw [fX12_layOn_J24] at hf
  refine pm_istore (pc := 24) [(4, .int t0), (0, .ref v0), (1, .int v1), (2, .int v2), (3, .int v3)] dX12_layOn_24 (by decide) rfl ?_
  refine pm_iload (pc := 26) 0 dX12_layOn_26 rfl ?_
  refine pm_if_eq (pc := 28) 63 dX12_layOn_28 (by decide) (fun hc18 => ?_) (fun hc18 => ?_)
  · rw [if_pos hc18] at hf
    refine pm_lv [(0, .ref v0), (1, .int v1), (2, .int v2), (3, .int v3), (4, .int t0)] [1, 2, 3, 4, 0] rfl ?_
    exact fX12_layOn_J63_E l h0 hag hf
  · rw [if_neg hc18] at hf
    refine pm_iload_n (pc := 31) 4 dX12_layOn_31 rfl rfl ?_
    refine pm_iload_n (pc := 32) 2 dX12_layOn_32 rfl rfl ?_
    refine pm_iadd (pc := 33) dX12_layOn_33 ?_
    refine pm_sipush (pc := 34) (1000 : Int32) (by decide) dX12_layOn_34 ?_
    refine pm_icmp_ge (pc := 37) 63 dX12_layOn_37 (by decide) (fun hc17 => ?_) (fun hc17 => ?_)
    · rw [if_pos hc17] at hf
      refine pm_lv [(0, .ref v0), (1, .int v1), (2, .int v2), (3, .int v3), (4, .int t0)] [1, 2, 3, 4, 0] rfl ?_
      exact fX12_layOn_J63_E l h0 hag hf
    · rw [if_neg hc17] at hf
      refine pm_aload_n (pc := 40) 1 dX12_layOn_40 rfl rfl h0.pos ?_
      refine pm_getT (pc := 41) (k := 32) pm_cl12 flX12_53 (by decide) rfl h0 dX12_layOn_41 (fun hr11 => ?_)
      refine pm_iload_n (pc := 44) 4 dX12_layOn_44 rfl rfl ?_
      refine pm_iload_n (pc := 45) 2 dX12_layOn_45 rfl rfl ?_
      refine pm_iadd (pc := 46) dX12_layOn_46 ?_
      obtain ⟨hb12, hf⟩ := pm_gd hf
      refine pm_iald (pc := 47) hr11 (pm_ib_in hb12) dX12_layOn_47 ?_
      refine pm_iload_n (pc := 48) 3 dX12_layOn_48 rfl rfl ?_
      refine pm_icmp_le (pc := 49) 63 dX12_layOn_49 (by decide) (fun hc16 => ?_) (fun hc16 => ?_)
      · rw [if_pos hc16] at hf
        refine pm_lv [(0, .ref v0), (1, .int v1), (2, .int v2), (3, .int v3), (4, .int t0)] [1, 2, 3, 4, 0] rfl ?_
        exact fX12_layOn_J63_E l h0 hag hf
      · rw [if_neg hc16] at hf
        refine pm_aload_n (pc := 52) 1 dX12_layOn_52 rfl rfl h0.pos ?_
        refine pm_getT (pc := 53) (k := 32) pm_cl12 flX12_53 (by decide) rfl h0 dX12_layOn_53 (fun hr13 => ?_)
        refine pm_iload_n (pc := 56) 4 dX12_layOn_56 rfl rfl ?_
        refine pm_iload_n (pc := 57) 2 dX12_layOn_57 rfl rfl ?_
        refine pm_iadd (pc := 58) dX12_layOn_58 ?_
        refine pm_iload_n (pc := 59) 3 dX12_layOn_59 rfl rfl ?_
        refine pm_iconst (pc := 60) (1 : Int32) (by decide) dX12_layOn_60 ?_
        refine pm_iadd (pc := 61) dX12_layOn_61 ?_
        obtain ⟨hb14, hf⟩ := pm_gd hf
        refine pm_iast (pc := 62) hr13 (pm_ib_in hb14) dX12_layOn_62 ?_
        obtain ⟨s15, es15, hf⟩ := pm_let_e hf
        refine pm_nmh es15 ?_
        refine pm_lv [(0, .ref v0), (1, .int v1), (2, .int v2), (3, .int v3), (4, .int t0)] [1, 2, 3, 4, 0] rfl ?_
        exact fX12_layOn_J63_E l h0 hag hf
def fX12_layOn_L2 (S : pm_S) (v0 : Nat) (v1 : Int32) (v2 : Int32) (kx : pm_H → Option (pm_H)) : Nat → Int32 → pm_H → Option (pm_H)
  | 0, _, _ => none
  | n + 1, v3, σ => (if (1000 : Int32) ≤ v3 then kx σ else (if pm_ib v3 (pm_len S (σ.2 v0 32)) = true then (if (σ.1 (σ.2 v0 32) (v3).toNatClampNeg) = v2 then fX12_layOn_J24 S v0 v1 v2 v3 (1 : Int32) (fun w3 sw => fX12_layOn_L2 S v0 v1 v2 kx n w3 sw) σ else fX12_layOn_J24 S v0 v1 v2 v3 (0 : Int32) (fun w3 sw => fX12_layOn_L2 S v0 v1 v2 kx n w3 sw) σ) else none))
set_option maxRecDepth 100000 in
set_option maxHeartbeats 4000000 in
theorem fX12_layOn_L2_E (l : Launch) {S : pm_S} {p : pm_H} {v0 : Nat} {v1 : Int32} {v2 : Int32} {kx : pm_H → Option (pm_H)} (h0 : pm_is S v0 15) (hkx : ∀  sw, kx  sw = some p → pm_E l yX12_layOn cX12_layOn 5 none false 0 S (pm_ru S p) 103 [] [] S sw) : ∀ (n : Nat) (v3 : Int32) (σ : pm_H), fX12_layOn_L2 S v0 v1 v2 kx n v3 σ = some p → pm_E l yX12_layOn cX12_layOn 5 none false 0 S (pm_ru S p) 2 [(0, .ref v0), (1, .int v1), (2, .int v2), (3, .int v3)] [] S σ := by
  intro n
  induction n with
  | zero => intro v3 σ hf; cases hf
  | succ n ih =>
    intro v3 σ hf
    rw [fX12_layOn_L2] at hf
    refine pm_iload_n (pc := 2) 3 dX12_layOn_2 rfl rfl ?_
    refine pm_sipush (pc := 3) (1000 : Int32) (by decide) dX12_layOn_3 ?_
    refine pm_icmp_ge (pc := 6) 103 dX12_layOn_6 (by decide) (fun hc20 => ?_) (fun hc20 => ?_)
    · rw [if_pos hc20] at hf
      refine pm_lv [] [] rfl ?_
      exact hkx σ hf
    · rw [if_neg hc20] at hf
      refine pm_aload_n (pc := 9) 0 dX12_layOn_9 rfl rfl h0.pos ?_
      refine pm_getT (pc := 10) (k := 32) pm_cl12 flX12_53 (by decide) rfl h0 dX12_layOn_10 (fun hr1 => ?_)
      refine pm_iload_n (pc := 13) 3 dX12_layOn_13 rfl rfl ?_
      obtain ⟨hb2, hf⟩ := pm_gd hf
      refine pm_iald (pc := 14) hr1 (pm_ib_in hb2) dX12_layOn_14 ?_
      refine pm_iload_n (pc := 15) 2 dX12_layOn_15 rfl rfl ?_
      refine pm_icmp_ne (pc := 16) 23 dX12_layOn_16 (by decide) (fun hc19 => ?_) (fun hc19 => ?_)
      · rw [if_pos hc19] at hf
        refine pm_iconst (pc := 19) (1 : Int32) (by decide) dX12_layOn_19 ?_
        refine pm_goto (pc := 20) 24 dX12_layOn_20 (by decide) ?_
        refine pm_lv [(0, .ref v0), (1, .int v1), (2, .int v2), (3, .int v3)] [0, 1, 2, 3] rfl ?_
        exact fX12_layOn_J24_E l h0 ih hf
      · rw [if_neg hc19] at hf
        refine pm_iconst (pc := 23) (0 : Int32) (by decide) dX12_layOn_23 ?_
        refine pm_lv [(0, .ref v0), (1, .int v1), (2, .int v2), (3, .int v3)] [0, 1, 2, 3] rfl ?_
        exact fX12_layOn_J24_E l h0 ih hf
def fX12_layOn (S : pm_S) (a0 : Nat) (a1 : Int32) (a2 : Int32) (σ : pm_H) : Option (pm_H) :=
  fX12_layOn_L2 S a0 a1 a2 (fun s21 => some s21) pm_fuel (0 : Int32) σ
set_option maxRecDepth 100000 in
set_option maxHeartbeats 4000000 in
theorem KX12_layOn (l : Launch) {S : pm_S} {p : pm_H} {a0 : Nat} {a1 : Int32} {a2 : Int32} {σ : pm_H} (h0 : pm_is S a0 15) (hf : fX12_layOn S a0 a1 a2 σ = some p) : pm_M l yX12_layOn cX12_layOn 5 none false 0 [.ref a0, .int a1, .int a2] S σ (pm_ru S p) := by
  refine pm_M.of (by decide +kernel) (Nat.le_of_ble_eq_true rfl) ?_
  show pm_E l yX12_layOn cX12_layOn 5 none false 0 S (pm_ru S p) 0 [(0, .ref a0), (1, .int a1), (2, .int a2)] [] S σ
  rw [fX12_layOn] at hf
  refine pm_iconst (pc := 0) (0 : Int32) (by decide) dX12_layOn_0 ?_
  refine pm_istore_n (pc := 1) [(3, .int (0 : Int32)), (0, .ref a0), (1, .int a1), (2, .int a2)] dX12_layOn_1 rfl (by decide) rfl ?_
  refine pm_lv [(0, .ref a0), (1, .int a1), (2, .int a2), (3, .int (0 : Int32))] [1, 2, 3, 0] rfl ?_
  refine fX12_layOn_L2_E l h0 (fun s21 hf => ?_) pm_fuel (0 : Int32) σ hf
  exact pm_vret rfl dX12_layOn_103 (pm_ru_e hf)
def fX12_findTimes_L2 (S : pm_S) (v0 : Nat) (v1 : Int32) (kx : pm_H → Option (pm_H)) : Nat → Int32 → pm_H → Option (pm_H)
  | 0, _, _ => none
  | n + 1, v2, σ => (if (1000 : Int32) ≤ v2 then kx σ else (if v2 = 0 then (if pm_ib v2 (pm_len S (σ.2 v0 32)) = true then pm_let (pm_si σ (σ.2 v0 32) (v2).toNatClampNeg (0 : Int32)) fun s5 => fX12_findTimes_L2 S v0 v1 kx n (v2 + (1 : Int32)) s5 else none) else (if pm_ib v2 (pm_len S (σ.2 v0 32)) = true then pm_let (pm_si σ (σ.2 v0 32) (v2).toNatClampNeg (1000000 : Int32)) fun s3 => fX12_findTimes_L2 S v0 v1 kx n (v2 + (1 : Int32)) s3 else none)))
set_option maxRecDepth 100000 in
set_option maxHeartbeats 4000000 in
theorem fX12_findTimes_L2_E (l : Launch) {S : pm_S} {p : pm_H} {v0 : Nat} {v1 : Int32} {kx : pm_H → Option (pm_H)} (h0 : pm_is S v0 15) (hkx : ∀  sw, kx  sw = some p → pm_E l yX12_findTimes cX12_findTimes 4 none false 1 S (pm_ru S p) 32 [(0, .ref v0), (1, .int v1)] [] S sw) : ∀ (n : Nat) (v2 : Int32) (σ : pm_H), fX12_findTimes_L2 S v0 v1 kx n v2 σ = some p → pm_E l yX12_findTimes cX12_findTimes 4 none false 1 S (pm_ru S p) 2 [(0, .ref v0), (1, .int v1), (2, .int v2)] [] S σ := by
  intro n
  induction n with
  | zero => intro v2 σ hf; cases hf
  | succ n ih =>
    intro v2 σ hf
    rw [fX12_findTimes_L2] at hf
    refine pm_iload_n (pc := 2) 2 dX12_findTimes_2 rfl rfl ?_
    refine pm_sipush (pc := 3) (1000 : Int32) (by decide) dX12_findTimes_3 ?_
    refine pm_icmp_ge (pc := 6) 32 dX12_findTimes_6 (by decide) (fun hc7 => ?_) (fun hc7 => ?_)
    · rw [if_pos hc7] at hf
      refine pm_lv [(0, .ref v0), (1, .int v1)] [0, 1] rfl ?_
      exact hkx σ hf
    · rw [if_neg hc7] at hf
      refine pm_aload_n (pc := 9) 0 dX12_findTimes_9 rfl rfl h0.pos ?_
      refine pm_getT (pc := 10) (k := 32) pm_cl12 flX12_53 (by decide) rfl h0 dX12_findTimes_10 (fun hr1 => ?_)
      refine pm_iload_n (pc := 13) 2 dX12_findTimes_13 rfl rfl ?_
      refine pm_iload_n (pc := 14) 2 dX12_findTimes_14 rfl rfl ?_
      refine pm_if_ne (pc := 15) 22 dX12_findTimes_15 (by decide) (fun hc6 => ?_) (fun hc6 => ?_)
      · rw [if_pos hc6] at hf
        refine pm_iconst (pc := 18) (0 : Int32) (by decide) dX12_findTimes_18 ?_
        refine pm_goto (pc := 19) 25 dX12_findTimes_19 (by decide) ?_
        obtain ⟨hb4, hf⟩ := pm_gd hf
        refine pm_iast (pc := 25) hr1 (pm_ib_in hb4) dX12_findTimes_25 ?_
        obtain ⟨s5, es5, hf⟩ := pm_let_e hf
        refine pm_nmh es5 ?_
        refine pm_iinc (pc := 26) 2 (v2 + (1 : Int32)) [(2, .int (v2 + (1 : Int32))), (0, .ref v0), (1, .int v1)] dX12_findTimes_26 rfl rfl (by decide) rfl ?_
        refine pm_goto (pc := 29) 2 dX12_findTimes_29 (by decide) ?_
        refine pm_lv [(0, .ref v0), (1, .int v1), (2, .int (v2 + (1 : Int32)))] [1, 2, 0] rfl ?_
        exact ih (v2 + (1 : Int32)) s5 hf
      · rw [if_neg hc6] at hf
        refine pm_ldcw (pc := 22) kcX12_291 dX12_findTimes_22 ?_
        obtain ⟨hb2, hf⟩ := pm_gd hf
        refine pm_iast (pc := 25) hr1 (pm_ib_in hb2) dX12_findTimes_25 ?_
        obtain ⟨s3, es3, hf⟩ := pm_let_e hf
        refine pm_nmh es3 ?_
        refine pm_iinc (pc := 26) 2 (v2 + (1 : Int32)) [(2, .int (v2 + (1 : Int32))), (0, .ref v0), (1, .int v1)] dX12_findTimes_26 rfl rfl (by decide) rfl ?_
        refine pm_goto (pc := 29) 2 dX12_findTimes_29 (by decide) ?_
        refine pm_lv [(0, .ref v0), (1, .int v1), (2, .int (v2 + (1 : Int32)))] [1, 2, 0] rfl ?_
        exact ih (v2 + (1 : Int32)) s3 hf
def fX12_findTimes_L52 (S : pm_S) (v0 : Nat) (v1 : Int32) (v2 : Int32) (kx : pm_H → Option (pm_H)) : Nat → Int32 → pm_H → Option (pm_H)
  | 0, _, _ => none
  | n + 1, v3, σ => (if (σ.1 v0 2) ≤ v3 then kx σ else (if pm_ib v3 (pm_len S (σ.2 v0 3)) = true then (if pm_ib (0 : Int32) (pm_len S (σ.2 v0 11)) = true then (if (σ.1 (σ.2 v0 11) ((0 : Int32)).toNatClampNeg) ≤ (σ.1 (σ.2 v0 3) (v3).toNatClampNeg) then fX12_findTimes_L52 S v0 v1 v2 kx n (v3 + (1 : Int32)) σ else (if pm_ib v3 (pm_len S (σ.2 v0 3)) = true then Option.bind (fX12_layOn S v0 (σ.1 (σ.2 v0 3) (v3).toNatClampNeg) v2 σ) fun u18 => fX12_findTimes_L52 S v0 v1 v2 kx n (v3 + (1 : Int32)) u18 else none)) else none) else none))
set_option maxRecDepth 100000 in
set_option maxHeartbeats 4000000 in
theorem fX12_findTimes_L52_E (l : Launch) {S : pm_S} {p : pm_H} {v0 : Nat} {v1 : Int32} {v2 : Int32} {kx : pm_H → Option (pm_H)} (h0 : pm_is S v0 15) (hkx : ∀  sw, kx  sw = some p → pm_E l yX12_findTimes cX12_findTimes 4 none false 1 S (pm_ru S p) 92 [(0, .ref v0), (1, .int v1), (2, .int v2)] [] S sw) : ∀ (n : Nat) (v3 : Int32) (σ : pm_H), fX12_findTimes_L52 S v0 v1 v2 kx n v3 σ = some p → pm_E l yX12_findTimes cX12_findTimes 4 none false 1 S (pm_ru S p) 52 [(0, .ref v0), (1, .int v1), (2, .int v2), (3, .int v3)] [] S σ := by
  intro n
  induction n with
  | zero => intro v3 σ hf; cases hf
  | succ n ih =>
    intro v3 σ hf
    rw [fX12_findTimes_L52] at hf
    refine pm_iload_n (pc := 52) 3 dX12_findTimes_52 rfl rfl ?_
    refine pm_aload_n (pc := 53) 0 dX12_findTimes_53 rfl rfl h0.pos ?_
    refine pm_getI (pc := 54) (k := 2) pm_cl12 flX12_173 (by decide) rfl h0 dX12_findTimes_54 ?_
    refine pm_icmp_ge (pc := 57) 92 dX12_findTimes_57 (by decide) (fun hc20 => ?_) (fun hc20 => ?_)
    · rw [if_pos hc20] at hf
      refine pm_lv [(0, .ref v0), (1, .int v1), (2, .int v2)] [0, 1, 2] rfl ?_
      exact hkx σ hf
    · rw [if_neg hc20] at hf
      refine pm_aload_n (pc := 60) 0 dX12_findTimes_60 rfl rfl h0.pos ?_
      refine pm_getT (pc := 61) (k := 3) pm_cl12 flX12_7 (by decide) rfl h0 dX12_findTimes_61 (fun hr12 => ?_)
      refine pm_iload_n (pc := 64) 3 dX12_findTimes_64 rfl rfl ?_
      obtain ⟨hb13, hf⟩ := pm_gd hf
      refine pm_iald (pc := 65) hr12 (pm_ib_in hb13) dX12_findTimes_65 ?_
      refine pm_aload_n (pc := 66) 0 dX12_findTimes_66 rfl rfl h0.pos ?_
      refine pm_getT (pc := 67) (k := 11) pm_cl12 flX12_25 (by decide) rfl h0 dX12_findTimes_67 (fun hr14 => ?_)
      refine pm_iconst (pc := 70) (0 : Int32) (by decide) dX12_findTimes_70 ?_
      obtain ⟨hb15, hf⟩ := pm_gd hf
      refine pm_iald (pc := 71) hr14 (pm_ib_in hb15) dX12_findTimes_71 ?_
      refine pm_icmp_ge (pc := 72) 86 dX12_findTimes_72 (by decide) (fun hc19 => ?_) (fun hc19 => ?_)
      · rw [if_pos hc19] at hf
        refine pm_iinc (pc := 86) 3 (v3 + (1 : Int32)) [(3, .int (v3 + (1 : Int32))), (0, .ref v0), (1, .int v1), (2, .int v2)] dX12_findTimes_86 rfl rfl (by decide) rfl ?_
        refine pm_goto (pc := 89) 52 dX12_findTimes_89 (by decide) ?_
        refine pm_lv [(0, .ref v0), (1, .int v1), (2, .int v2), (3, .int (v3 + (1 : Int32)))] [1, 2, 3, 0] rfl ?_
        exact ih (v3 + (1 : Int32)) σ hf
      · rw [if_neg hc19] at hf
        refine pm_aload_n (pc := 75) 0 dX12_findTimes_75 rfl rfl h0.pos ?_
        refine pm_aload_n (pc := 76) 0 dX12_findTimes_76 rfl rfl h0.pos ?_
        refine pm_getT (pc := 77) (k := 3) pm_cl12 flX12_7 (by decide) rfl h0 dX12_findTimes_77 (fun hr16 => ?_)
        refine pm_iload_n (pc := 80) 3 dX12_findTimes_80 rfl rfl ?_
        obtain ⟨hb17, hf⟩ := pm_gd hf
        refine pm_iald (pc := 81) hr16 (pm_ib_in hb17) dX12_findTimes_81 ?_
        refine pm_iload_n (pc := 82) 2 dX12_findTimes_82 rfl rfl ?_
        obtain ⟨u18, hu18, hf⟩ := pm_bind_e hf
        refine pm_cVu (pc := 83) (as := [.int (σ.1 (σ.2 v0 3) (v3).toNatClampNeg), .int v2]) (st := []) mvX12_292 (KX12_layOn l h0 hu18) (by decide) h0 rfl rfl (Nat.le_of_ble_eq_true rfl) rfl dX12_findTimes_83 ?_
        refine pm_iinc (pc := 86) 3 (v3 + (1 : Int32)) [(3, .int (v3 + (1 : Int32))), (0, .ref v0), (1, .int v1), (2, .int v2)] dX12_findTimes_86 rfl rfl (by decide) rfl ?_
        refine pm_goto (pc := 89) 52 dX12_findTimes_89 (by decide) ?_
        refine pm_lv [(0, .ref v0), (1, .int v1), (2, .int v2), (3, .int (v3 + (1 : Int32)))] [1, 2, 3, 0] rfl ?_
        exact ih (v3 + (1 : Int32)) u18 hf
def fX12_findTimes_L34 (S : pm_S) (v0 : Nat) (v1 : Int32) (kx : pm_H → Option (pm_H)) : Nat → Int32 → pm_H → Option (pm_H)
  | 0, _, _ => none
  | n + 1, v2, σ => (if v1 ≤ v2 then kx σ else (if pm_ib (0 : Int32) (pm_len S (σ.2 v0 11)) = true then Option.bind (fX12_layOn S v0 (σ.1 (σ.2 v0 11) ((0 : Int32)).toNatClampNeg) v2 σ) fun u11 => fX12_findTimes_L52 S v0 v1 v2 (fun s21 => fX12_findTimes_L34 S v0 v1 kx n (v2 + (1 : Int32)) s21) pm_fuel (0 : Int32) u11 else none))
set_option maxRecDepth 100000 in
set_option maxHeartbeats 4000000 in
theorem fX12_findTimes_L34_E (l : Launch) {S : pm_S} {p : pm_H} {v0 : Nat} {v1 : Int32} {kx : pm_H → Option (pm_H)} (h0 : pm_is S v0 15) (hkx : ∀  sw, kx  sw = some p → pm_E l yX12_findTimes cX12_findTimes 4 none false 1 S (pm_ru S p) 98 [] [] S sw) : ∀ (n : Nat) (v2 : Int32) (σ : pm_H), fX12_findTimes_L34 S v0 v1 kx n v2 σ = some p → pm_E l yX12_findTimes cX12_findTimes 4 none false 1 S (pm_ru S p) 34 [(0, .ref v0), (1, .int v1), (2, .int v2)] [] S σ := by
  intro n
  induction n with
  | zero => intro v2 σ hf; cases hf
  | succ n ih =>
    intro v2 σ hf
    rw [fX12_findTimes_L34] at hf
    refine pm_iload_n (pc := 34) 2 dX12_findTimes_34 rfl rfl ?_
    refine pm_iload_n (pc := 35) 1 dX12_findTimes_35 rfl rfl ?_
    refine pm_icmp_ge (pc := 36) 98 dX12_findTimes_36 (by decide) (fun hc22 => ?_) (fun hc22 => ?_)
    · rw [if_pos hc22] at hf
      refine pm_lv [] [] rfl ?_
      exact hkx σ hf
    · rw [if_neg hc22] at hf
      refine pm_aload_n (pc := 39) 0 dX12_findTimes_39 rfl rfl h0.pos ?_
      refine pm_aload_n (pc := 40) 0 dX12_findTimes_40 rfl rfl h0.pos ?_
      refine pm_getT (pc := 41) (k := 11) pm_cl12 flX12_25 (by decide) rfl h0 dX12_findTimes_41 (fun hr9 => ?_)
      refine pm_iconst (pc := 44) (0 : Int32) (by decide) dX12_findTimes_44 ?_
      obtain ⟨hb10, hf⟩ := pm_gd hf
      refine pm_iald (pc := 45) hr9 (pm_ib_in hb10) dX12_findTimes_45 ?_
      refine pm_iload_n (pc := 46) 2 dX12_findTimes_46 rfl rfl ?_
      obtain ⟨u11, hu11, hf⟩ := pm_bind_e hf
      refine pm_cVu (pc := 47) (as := [.int (σ.1 (σ.2 v0 11) ((0 : Int32)).toNatClampNeg), .int v2]) (st := []) mvX12_292 (KX12_layOn l h0 hu11) (by decide) h0 rfl rfl (Nat.le_of_ble_eq_true rfl) rfl dX12_findTimes_47 ?_
      refine pm_iconst (pc := 50) (0 : Int32) (by decide) dX12_findTimes_50 ?_
      refine pm_istore_n (pc := 51) [(3, .int (0 : Int32)), (0, .ref v0), (1, .int v1), (2, .int v2)] dX12_findTimes_51 rfl (by decide) rfl ?_
      refine pm_lv [(0, .ref v0), (1, .int v1), (2, .int v2), (3, .int (0 : Int32))] [1, 2, 3, 0] rfl ?_
      refine fX12_findTimes_L52_E l h0 (fun s21 hf => ?_) pm_fuel (0 : Int32) u11 hf
      refine pm_iinc (pc := 92) 2 (v2 + (1 : Int32)) [(2, .int (v2 + (1 : Int32))), (0, .ref v0), (1, .int v1)] dX12_findTimes_92 rfl rfl (by decide) rfl ?_
      refine pm_goto (pc := 95) 34 dX12_findTimes_95 (by decide) ?_
      refine pm_lv [(0, .ref v0), (1, .int v1), (2, .int (v2 + (1 : Int32)))] [1, 2, 0] rfl ?_
      exact ih (v2 + (1 : Int32)) s21 hf
def fX12_findTimes (S : pm_S) (a0 : Nat) (a1 : Int32) (σ : pm_H) : Option (pm_H) :=
  fX12_findTimes_L2 S a0 a1 (fun s8 => fX12_findTimes_L34 S a0 a1 (fun s23 => some s23) pm_fuel (0 : Int32) s8) pm_fuel (0 : Int32) σ
set_option maxRecDepth 100000 in
set_option maxHeartbeats 4000000 in
theorem KX12_findTimes (l : Launch) {S : pm_S} {p : pm_H} {a0 : Nat} {a1 : Int32} {σ : pm_H} (h0 : pm_is S a0 15) (hf : fX12_findTimes S a0 a1 σ = some p) : pm_M l yX12_findTimes cX12_findTimes 4 none false 1 [.ref a0, .int a1] S σ (pm_ru S p) := by
  refine pm_M.of (by decide +kernel) (Nat.le_of_ble_eq_true rfl) ?_
  show pm_E l yX12_findTimes cX12_findTimes 4 none false 1 S (pm_ru S p) 0 [(0, .ref a0), (1, .int a1)] [] S σ
  rw [fX12_findTimes] at hf
  refine pm_iconst (pc := 0) (0 : Int32) (by decide) dX12_findTimes_0 ?_
  refine pm_istore_n (pc := 1) [(2, .int (0 : Int32)), (0, .ref a0), (1, .int a1)] dX12_findTimes_1 rfl (by decide) rfl ?_
  refine pm_lv [(0, .ref a0), (1, .int a1), (2, .int (0 : Int32))] [1, 2, 0] rfl ?_
  refine fX12_findTimes_L2_E l h0 (fun s8 hf => ?_) pm_fuel (0 : Int32) σ hf
  refine pm_iconst (pc := 32) (0 : Int32) (by decide) dX12_findTimes_32 ?_
  refine pm_istore_n (pc := 33) [(2, .int (0 : Int32)), (0, .ref a0), (1, .int a1)] dX12_findTimes_33 rfl (by decide) rfl ?_
  refine pm_lv [(0, .ref a0), (1, .int a1), (2, .int (0 : Int32))] [1, 2, 0] rfl ?_
  refine fX12_findTimes_L34_E l h0 (fun s23 hf => ?_) pm_fuel (0 : Int32) s8 hf
  exact pm_vret rfl dX12_findTimes_98 (pm_ru_e hf)
def fX12_had (S : pm_S) (a0 : Nat) (a1 : Int32) (σ : pm_H) : Option (Int32 × pm_H) :=
  Option.bind (fX12_in S a1.toInt64 (0 : Int64) (999 : Int64) σ) fun u1 => (if u1.1 = 0 then some ((-1000000002 : Int32), u1.2) else Option.bind (fX12_isRealm S a0 u1.2) fun u2 => (if u2.1 = 0 then some ((-1000000003 : Int32), u2.2) else Option.bind (fX12_findTimes S a0 (20 : Int32) u2.2) fun u3 => (if pm_ib a1 (pm_len S (u3.2 a0 32)) = true then (if (20 : Int32) < (u3.1 (u3.2 a0 32) (a1).toNatClampNeg) then some ((-1 : Int32), u3) else (if pm_ib a1 (pm_len S (u3.2 a0 32)) = true then some ((u3.1 (u3.2 a0 32) (a1).toNatClampNeg), u3) else none)) else none)))
set_option maxRecDepth 100000 in
set_option maxHeartbeats 4000000 in
theorem KX12_had (l : Launch) {S : pm_S} {p : Int32 × pm_H} {a0 : Nat} {a1 : Int32} {σ : pm_H} (h0 : pm_is S a0 15) (hf : fX12_had S a0 a1 σ = some p) : pm_M l yX12_had cX12_had 2 (some .int) false 2 [.ref a0, .int a1] S σ (pm_ri S p) := by
  refine pm_M.of (by decide +kernel) (Nat.le_of_ble_eq_true rfl) ?_
  show pm_E l yX12_had cX12_had 2 (some .int) false 2 S (pm_ri S p) 0 [(0, .ref a0), (1, .int a1)] [] S σ
  rw [fX12_had] at hf
  refine pm_iload_n (pc := 0) 1 dX12_had_0 rfl rfl ?_
  refine pm_i2l (pc := 1) dX12_had_1 ?_
  refine pm_lconst (pc := 2) (0 : Int64) (by decide) dX12_had_2 ?_
  refine pm_ldc2 (pc := 3) klX12_265 dX12_had_3 ?_
  obtain ⟨u1, hu1, hf⟩ := pm_bind_e hf
  refine pm_cSi (pc := 6) (as := [.long a1.toInt64, .long (0 : Int64), .long (999 : Int64)]) (st := []) msX12_87 (KX12_in l  hu1) (by decide) rfl rfl (Nat.le_of_ble_eq_true rfl) rfl dX12_had_6 ?_
  refine pm_if_ne (pc := 9) 15 dX12_had_9 (by decide) (fun hc10 => ?_) (fun hc10 => ?_)
  · rw [if_pos hc10] at hf
    refine pm_ldc (pc := 12) kcX12_96 dX12_had_12 ?_
    exact pm_iret rfl dX12_had_14 (pm_ri_e hf)
  · rw [if_neg hc10] at hf
    refine pm_aload_n (pc := 15) 0 dX12_had_15 rfl rfl h0.pos ?_
    obtain ⟨u2, hu2, hf⟩ := pm_bind_e hf
    refine pm_cVi (pc := 16) (as := []) (st := []) mvX12_208 (KX12_isRealm l h0 hu2) (by decide) h0 rfl rfl (Nat.le_of_ble_eq_true rfl) rfl dX12_had_16 ?_
    refine pm_if_ne (pc := 19) 25 dX12_had_19 (by decide) (fun hc9 => ?_) (fun hc9 => ?_)
    · rw [if_pos hc9] at hf
      refine pm_ldc (pc := 22) kcX12_212 dX12_had_22 ?_
      exact pm_iret rfl dX12_had_24 (pm_ri_e hf)
    · rw [if_neg hc9] at hf
      refine pm_aload_n (pc := 25) 0 dX12_had_25 rfl rfl h0.pos ?_
      refine pm_bipush (pc := 26) (20 : Int32) (by decide) dX12_had_26 ?_
      obtain ⟨u3, hu3, hf⟩ := pm_bind_e hf
      refine pm_cVu (pc := 28) (as := [.int (20 : Int32)]) (st := []) mvX12_296 (KX12_findTimes l h0 hu3) (by decide) h0 rfl rfl (Nat.le_of_ble_eq_true rfl) rfl dX12_had_28 ?_
      refine pm_aload_n (pc := 31) 0 dX12_had_31 rfl rfl h0.pos ?_
      refine pm_getT (pc := 32) (k := 32) pm_cl12 flX12_53 (by decide) rfl h0 dX12_had_32 (fun hr4 => ?_)
      refine pm_iload_n (pc := 35) 1 dX12_had_35 rfl rfl ?_
      obtain ⟨hb5, hf⟩ := pm_gd hf
      refine pm_iald (pc := 36) hr4 (pm_ib_in hb5) dX12_had_36 ?_
      refine pm_bipush (pc := 37) (20 : Int32) (by decide) dX12_had_37 ?_
      refine pm_icmp_gt (pc := 39) 51 dX12_had_39 (by decide) (fun hc8 => ?_) (fun hc8 => ?_)
      · rw [if_pos hc8] at hf
        refine pm_iconst (pc := 51) (-1 : Int32) (by decide) dX12_had_51 ?_
        exact pm_iret rfl dX12_had_52 (pm_ri_e hf)
      · rw [if_neg hc8] at hf
        refine pm_aload_n (pc := 42) 0 dX12_had_42 rfl rfl h0.pos ?_
        refine pm_getT (pc := 43) (k := 32) pm_cl12 flX12_53 (by decide) rfl h0 dX12_had_43 (fun hr6 => ?_)
        refine pm_iload_n (pc := 46) 1 dX12_had_46 rfl rfl ?_
        obtain ⟨hb7, hf⟩ := pm_gd hf
        refine pm_iald (pc := 47) hr6 (pm_ib_in hb7) dX12_had_47 ?_
        refine pm_goto (pc := 48) 52 dX12_had_48 (by decide) ?_
        exact pm_iret rfl dX12_had_52 (pm_ri_e hf)
def fX12_parts_L19 (S : pm_S) (v0 : Nat) (v1 : Int32) (kx : Int32 → pm_H → Option (Int32 × pm_H)) : Nat → Int32 → Int32 → pm_H → Option (Int32 × pm_H)
  | 0, _, _, _ => none
  | n + 1, v2, v3, σ => (if pm_ib (0 : Int32) (pm_len S (σ.2 v0 11)) = true then (if (σ.1 (σ.2 v0 11) ((0 : Int32)).toNatClampNeg) < v3 then kx v2 σ else (if pm_ib v3 (pm_len S (σ.2 v0 32)) = true then (if (2 : Int32) < (σ.1 (σ.2 v0 32) (v3).toNatClampNeg) then fX12_parts_L19 S v0 v1 kx n v2 (v3 + (1 : Int32)) σ else (if v2 = v1 then some (v3, σ) else fX12_parts_L19 S v0 v1 kx n (v2 + (1 : Int32)) (v3 + (1 : Int32)) σ)) else none)) else none)
set_option maxRecDepth 100000 in
set_option maxHeartbeats 4000000 in
theorem fX12_parts_L19_E (l : Launch) {S : pm_S} {p : Int32 × pm_H} {v0 : Nat} {v1 : Int32} {kx : Int32 → pm_H → Option (Int32 × pm_H)} (h0 : pm_is S v0 15) (hkx : ∀ w2 sw, kx w2 sw = some p → pm_E l yX12_parts cX12_parts 4 (some .int) false 2 S (pm_ri S p) 55 [(1, .int v1), (2, .int w2)] [] S sw) : ∀ (n : Nat) (v2 : Int32) (v3 : Int32) (σ : pm_H), fX12_parts_L19 S v0 v1 kx n v2 v3 σ = some p → pm_E l yX12_parts cX12_parts 4 (some .int) false 2 S (pm_ri S p) 19 [(0, .ref v0), (1, .int v1), (2, .int v2), (3, .int v3)] [] S σ := by
  intro n
  induction n with
  | zero => intro v2 v3 σ hf; cases hf
  | succ n ih =>
    intro v2 v3 σ hf
    rw [fX12_parts_L19] at hf
    refine pm_iload_n (pc := 19) 3 dX12_parts_19 rfl rfl ?_
    refine pm_aload_n (pc := 20) 0 dX12_parts_20 rfl rfl h0.pos ?_
    refine pm_getT (pc := 21) (k := 11) pm_cl12 flX12_25 (by decide) rfl h0 dX12_parts_21 (fun hr3 => ?_)
    refine pm_iconst (pc := 24) (0 : Int32) (by decide) dX12_parts_24 ?_
    obtain ⟨hb4, hf⟩ := pm_gd hf
    refine pm_iald (pc := 25) hr3 (pm_ib_in hb4) dX12_parts_25 ?_
    refine pm_icmp_gt (pc := 26) 55 dX12_parts_26 (by decide) (fun hc9 => ?_) (fun hc9 => ?_)
    · rw [if_pos hc9] at hf
      refine pm_lv [(1, .int v1), (2, .int v2)] [1, 2] rfl ?_
      exact hkx v2 σ hf
    · rw [if_neg hc9] at hf
      refine pm_aload_n (pc := 29) 0 dX12_parts_29 rfl rfl h0.pos ?_
      refine pm_getT (pc := 30) (k := 32) pm_cl12 flX12_53 (by decide) rfl h0 dX12_parts_30 (fun hr5 => ?_)
      refine pm_iload_n (pc := 33) 3 dX12_parts_33 rfl rfl ?_
      obtain ⟨hb6, hf⟩ := pm_gd hf
      refine pm_iald (pc := 34) hr5 (pm_ib_in hb6) dX12_parts_34 ?_
      refine pm_iconst (pc := 35) (2 : Int32) (by decide) dX12_parts_35 ?_
      refine pm_icmp_gt (pc := 36) 49 dX12_parts_36 (by decide) (fun hc8 => ?_) (fun hc8 => ?_)
      · rw [if_pos hc8] at hf
        refine pm_iinc (pc := 49) 3 (v3 + (1 : Int32)) [(3, .int (v3 + (1 : Int32))), (0, .ref v0), (1, .int v1), (2, .int v2)] dX12_parts_49 rfl rfl (by decide) rfl ?_
        refine pm_goto (pc := 52) 19 dX12_parts_52 (by decide) ?_
        refine pm_lv [(0, .ref v0), (1, .int v1), (2, .int v2), (3, .int (v3 + (1 : Int32)))] [1, 2, 3, 0] rfl ?_
        exact ih v2 (v3 + (1 : Int32)) σ hf
      · rw [if_neg hc8] at hf
        refine pm_iload_n (pc := 39) 2 dX12_parts_39 rfl rfl ?_
        refine pm_iload_n (pc := 40) 1 dX12_parts_40 rfl rfl ?_
        refine pm_icmp_ne (pc := 41) 46 dX12_parts_41 (by decide) (fun hc7 => ?_) (fun hc7 => ?_)
        · rw [if_pos hc7] at hf
          refine pm_iload_n (pc := 44) 3 dX12_parts_44 rfl rfl ?_
          exact pm_iret rfl dX12_parts_45 (pm_ri_e hf)
        · rw [if_neg hc7] at hf
          refine pm_iinc (pc := 46) 2 (v2 + (1 : Int32)) [(2, .int (v2 + (1 : Int32))), (0, .ref v0), (1, .int v1), (3, .int v3)] dX12_parts_46 rfl rfl (by decide) rfl ?_
          refine pm_iinc (pc := 49) 3 (v3 + (1 : Int32)) [(3, .int (v3 + (1 : Int32))), (2, .int (v2 + (1 : Int32))), (0, .ref v0), (1, .int v1)] dX12_parts_49 rfl rfl (by decide) rfl ?_
          refine pm_goto (pc := 52) 19 dX12_parts_52 (by decide) ?_
          refine pm_lv [(0, .ref v0), (1, .int v1), (2, .int (v2 + (1 : Int32))), (3, .int (v3 + (1 : Int32)))] [2, 3, 1, 0] rfl ?_
          exact ih (v2 + (1 : Int32)) (v3 + (1 : Int32)) σ hf
def fX12_parts (S : pm_S) (a0 : Nat) (a1 : Int32) (σ : pm_H) : Option (Int32 × pm_H) :=
  Option.bind (fX12_isRealm S a0 σ) fun u1 => (if u1.1 = 0 then some ((-1000000003 : Int32), u1.2) else Option.bind (fX12_findTimes S a0 (2 : Int32) u1.2) fun u2 => fX12_parts_L19 S a0 a1 (fun w10 s11 => (if a1 = (-1 : Int32) then some (w10, s11) else some ((-1 : Int32), s11))) pm_fuel (0 : Int32) (1 : Int32) u2)
set_option maxRecDepth 100000 in
set_option maxHeartbeats 4000000 in
theorem KX12_parts (l : Launch) {S : pm_S} {p : Int32 × pm_H} {a0 : Nat} {a1 : Int32} {σ : pm_H} (h0 : pm_is S a0 15) (hf : fX12_parts S a0 a1 σ = some p) : pm_M l yX12_parts cX12_parts 4 (some .int) false 2 [.ref a0, .int a1] S σ (pm_ri S p) := by
  refine pm_M.of (by decide +kernel) (Nat.le_of_ble_eq_true rfl) ?_
  show pm_E l yX12_parts cX12_parts 4 (some .int) false 2 S (pm_ri S p) 0 [(0, .ref a0), (1, .int a1)] [] S σ
  rw [fX12_parts] at hf
  refine pm_aload_n (pc := 0) 0 dX12_parts_0 rfl rfl h0.pos ?_
  obtain ⟨u1, hu1, hf⟩ := pm_bind_e hf
  refine pm_cVi (pc := 1) (as := []) (st := []) mvX12_208 (KX12_isRealm l h0 hu1) (by decide) h0 rfl rfl (Nat.le_of_ble_eq_true rfl) rfl dX12_parts_1 ?_
  refine pm_if_ne (pc := 4) 10 dX12_parts_4 (by decide) (fun hc13 => ?_) (fun hc13 => ?_)
  · rw [if_pos hc13] at hf
    refine pm_ldc (pc := 7) kcX12_212 dX12_parts_7 ?_
    exact pm_iret rfl dX12_parts_9 (pm_ri_e hf)
  · rw [if_neg hc13] at hf
    refine pm_aload_n (pc := 10) 0 dX12_parts_10 rfl rfl h0.pos ?_
    refine pm_iconst (pc := 11) (2 : Int32) (by decide) dX12_parts_11 ?_
    obtain ⟨u2, hu2, hf⟩ := pm_bind_e hf
    refine pm_cVu (pc := 12) (as := [.int (2 : Int32)]) (st := []) mvX12_296 (KX12_findTimes l h0 hu2) (by decide) h0 rfl rfl (Nat.le_of_ble_eq_true rfl) rfl dX12_parts_12 ?_
    refine pm_iconst (pc := 15) (0 : Int32) (by decide) dX12_parts_15 ?_
    refine pm_istore_n (pc := 16) [(2, .int (0 : Int32)), (0, .ref a0), (1, .int a1)] dX12_parts_16 rfl (by decide) rfl ?_
    refine pm_iconst (pc := 17) (1 : Int32) (by decide) dX12_parts_17 ?_
    refine pm_istore_n (pc := 18) [(3, .int (1 : Int32)), (2, .int (0 : Int32)), (0, .ref a0), (1, .int a1)] dX12_parts_18 rfl (by decide) rfl ?_
    refine pm_lv [(0, .ref a0), (1, .int a1), (2, .int (0 : Int32)), (3, .int (1 : Int32))] [2, 3, 1, 0] rfl ?_
    refine fX12_parts_L19_E l h0 (fun w10 s11 hf => ?_) pm_fuel (0 : Int32) (1 : Int32) u2 hf
    refine pm_iload_n (pc := 55) 0 dX12_parts_55 rfl rfl ?_
    refine pm_iconst (pc := 56) (-1 : Int32) (by decide) dX12_parts_56 ?_
    refine pm_icmp_ne (pc := 57) 64 dX12_parts_57 (by decide) (fun hc12 => ?_) (fun hc12 => ?_)
    · rw [if_pos hc12] at hf
      refine pm_iload_n (pc := 60) 1 dX12_parts_60 rfl rfl ?_
      refine pm_goto (pc := 61) 65 dX12_parts_61 (by decide) ?_
      exact pm_iret rfl dX12_parts_65 (pm_ri_e hf)
    · rw [if_neg hc12] at hf
      refine pm_iconst (pc := 64) (-1 : Int32) (by decide) dX12_parts_64 ?_
      exact pm_iret rfl dX12_parts_65 (pm_ri_e hf)
def fX12_fold (S : pm_S) (a0 : Nat) (a1 : Int32) (σ : pm_H) : Option (Int32 × pm_H) :=
  Option.bind (fX12_in S a1.toInt64 (0 : Int64) (999 : Int64) σ) fun u1 => (if u1.1 = 0 then some ((-1000000002 : Int32), u1.2) else (if (pm_rem a1 (2 : Int32)) = 0 then some ((a1 / (2 : Int32)), u1.2) else some ((-1 : Int32), u1.2)))
set_option maxRecDepth 100000 in
set_option maxHeartbeats 4000000 in
theorem KX12_fold (l : Launch) {S : pm_S} {p : Int32 × pm_H} {a0 : Nat} {a1 : Int32} {σ : pm_H} (h0 : pm_is S a0 15) (hf : fX12_fold S a0 a1 σ = some p) : pm_M l yX12_fold cX12_fold 2 (some .int) false 1 [.ref a0, .int a1] S σ (pm_ri S p) := by
  refine pm_M.of (by decide +kernel) (Nat.le_of_ble_eq_true rfl) ?_
  show pm_E l yX12_fold cX12_fold 2 (some .int) false 1 S (pm_ri S p) 0 [(0, .ref a0), (1, .int a1)] [] S σ
  rw [fX12_fold] at hf
  refine pm_iload_n (pc := 0) 1 dX12_fold_0 rfl rfl ?_
  refine pm_i2l (pc := 1) dX12_fold_1 ?_
  refine pm_lconst (pc := 2) (0 : Int64) (by decide) dX12_fold_2 ?_
  refine pm_ldc2 (pc := 3) klX12_265 dX12_fold_3 ?_
  obtain ⟨u1, hu1, hf⟩ := pm_bind_e hf
  refine pm_cSi (pc := 6) (as := [.long a1.toInt64, .long (0 : Int64), .long (999 : Int64)]) (st := []) msX12_87 (KX12_in l  hu1) (by decide) rfl rfl (Nat.le_of_ble_eq_true rfl) rfl dX12_fold_6 ?_
  refine pm_if_ne (pc := 9) 15 dX12_fold_9 (by decide) (fun hc3 => ?_) (fun hc3 => ?_)
  · rw [if_pos hc3] at hf
    refine pm_ldc (pc := 12) kcX12_96 dX12_fold_12 ?_
    exact pm_iret rfl dX12_fold_14 (pm_ri_e hf)
  · rw [if_neg hc3] at hf
    refine pm_iload_n (pc := 15) 1 dX12_fold_15 rfl rfl ?_
    refine pm_iconst (pc := 16) (2 : Int32) (by decide) dX12_fold_16 ?_
    refine pm_irem (pc := 17) (by decide) dX12_fold_17 ?_
    refine pm_if_ne (pc := 18) 27 dX12_fold_18 (by decide) (fun hc2 => ?_) (fun hc2 => ?_)
    · rw [if_pos hc2] at hf
      refine pm_iload_n (pc := 21) 1 dX12_fold_21 rfl rfl ?_
      refine pm_iconst (pc := 22) (2 : Int32) (by decide) dX12_fold_22 ?_
      refine pm_idiv (pc := 23) (by decide) dX12_fold_23 ?_
      refine pm_goto (pc := 24) 28 dX12_fold_24 (by decide) ?_
      exact pm_iret rfl dX12_fold_28 (pm_ri_e hf)
    · rw [if_neg hc2] at hf
      refine pm_iconst (pc := 27) (-1 : Int32) (by decide) dX12_fold_27 ?_
      exact pm_iret rfl dX12_fold_28 (pm_ri_e hf)
def fX12_findFilled_L2 (S : pm_S) (v0 : Nat) (kx : pm_H → Option (pm_H)) : Nat → Int32 → pm_H → Option (pm_H)
  | 0, _, _ => none
  | n + 1, v1, σ => (if (64 : Int32) ≤ v1 then kx σ else (if pm_ib (((64 : Int32) * (σ.1 v0 4)) + v1) (pm_len S (σ.2 v0 33)) = true then pm_let (pm_si σ (σ.2 v0 33) ((((64 : Int32) * (σ.1 v0 4)) + v1)).toNatClampNeg (0 : Int32)) fun s3 => fX12_findFilled_L2 S v0 kx n (v1 + (1 : Int32)) s3 else none))
set_option maxRecDepth 100000 in
set_option maxHeartbeats 4000000 in
theorem fX12_findFilled_L2_E (l : Launch) {S : pm_S} {p : pm_H} {v0 : Nat} {kx : pm_H → Option (pm_H)} (h0 : pm_is S v0 15) (hkx : ∀  sw, kx  sw = some p → pm_E l yX12_findFilled cX12_findFilled 7 none false 3 S (pm_ru S p) 29 [(0, .ref v0)] [] S sw) : ∀ (n : Nat) (v1 : Int32) (σ : pm_H), fX12_findFilled_L2 S v0 kx n v1 σ = some p → pm_E l yX12_findFilled cX12_findFilled 7 none false 3 S (pm_ru S p) 2 [(0, .ref v0), (1, .int v1)] [] S σ := by
  intro n
  induction n with
  | zero => intro v1 σ hf; cases hf
  | succ n ih =>
    intro v1 σ hf
    rw [fX12_findFilled_L2] at hf
    refine pm_iload_n (pc := 2) 1 dX12_findFilled_2 rfl rfl ?_
    refine pm_bipush (pc := 3) (64 : Int32) (by decide) dX12_findFilled_3 ?_
    refine pm_icmp_ge (pc := 5) 29 dX12_findFilled_5 (by decide) (fun hc4 => ?_) (fun hc4 => ?_)
    · rw [if_pos hc4] at hf
      refine pm_lv [(0, .ref v0)] [0] rfl ?_
      exact hkx σ hf
    · rw [if_neg hc4] at hf
      refine pm_aload_n (pc := 8) 0 dX12_findFilled_8 rfl rfl h0.pos ?_
      refine pm_getT (pc := 9) (k := 33) pm_cl12 flX12_56 (by decide) rfl h0 dX12_findFilled_9 (fun hr1 => ?_)
      refine pm_bipush (pc := 12) (64 : Int32) (by decide) dX12_findFilled_12 ?_
      refine pm_aload_n (pc := 14) 0 dX12_findFilled_14 rfl rfl h0.pos ?_
      refine pm_getI (pc := 15) (k := 4) pm_cl12 flX12_84 (by decide) rfl h0 dX12_findFilled_15 ?_
      refine pm_imul (pc := 18) dX12_findFilled_18 ?_
      refine pm_iload_n (pc := 19) 1 dX12_findFilled_19 rfl rfl ?_
      refine pm_iadd (pc := 20) dX12_findFilled_20 ?_
      refine pm_iconst (pc := 21) (0 : Int32) (by decide) dX12_findFilled_21 ?_
      obtain ⟨hb2, hf⟩ := pm_gd hf
      refine pm_iast (pc := 22) hr1 (pm_ib_in hb2) dX12_findFilled_22 ?_
      obtain ⟨s3, es3, hf⟩ := pm_let_e hf
      refine pm_nmh es3 ?_
      refine pm_iinc (pc := 23) 1 (v1 + (1 : Int32)) [(1, .int (v1 + (1 : Int32))), (0, .ref v0)] dX12_findFilled_23 rfl rfl (by decide) rfl ?_
      refine pm_goto (pc := 26) 2 dX12_findFilled_26 (by decide) ?_
      refine pm_lv [(0, .ref v0), (1, .int (v1 + (1 : Int32)))] [1, 0] rfl ?_
      exact ih (v1 + (1 : Int32)) s3 hf
def fX12_findFilled_J120 (S : pm_S) (v0 : Nat) (v1 : Int32) (v2 : Int32) (v3 : Int32) (v4 : Int32) (v5 : Int32) (t0 : Int32) (ag : Int32 → Int32 → pm_H → Option (pm_H)) (σ : pm_H) : Option (pm_H) :=
  (if t0 ≤ v4 then ag v4 (v5 + (1 : Int32)) σ else ag t0 (v5 + (1 : Int32)) σ)
set_option maxRecDepth 100000 in
set_option maxHeartbeats 4000000 in
theorem fX12_findFilled_J120_E (l : Launch) {S : pm_S} {p : pm_H} {v0 : Nat} {v1 : Int32} {v2 : Int32} {v3 : Int32} {v4 : Int32} {v5 : Int32} {t0 : Int32} {ag : Int32 → Int32 → pm_H → Option (pm_H)} {σ : pm_H} (h0 : pm_is S v0 15) (hag : ∀ w4 w5 sw, ag w4 w5 sw = some p → pm_E l yX12_findFilled cX12_findFilled 7 none false 3 S (pm_ru S p) 73 [(0, .ref v0), (1, .int v1), (2, .int v2), (3, .int v3), (4, .int w4), (5, .int w5)] [] S sw) (hf : fX12_findFilled_J120 S v0 v1 v2 v3 v4 v5 t0 ag σ = some p) : pm_E l yX12_findFilled cX12_findFilled 7 none false 3 S (pm_ru S p) 120 [(0, .ref v0), (1, .int v1), (2, .int v2), (3, .int v3), (4, .int v4), (5, .int v5)] [.int t0] S σ := by
  rw [fX12_findFilled_J120] at hf
  refine pm_istore (pc := 120) [(6, .int t0), (0, .ref v0), (1, .int v1), (2, .int v2), (3, .int v3), (4, .int v4), (5, .int v5)] dX12_findFilled_120 (by decide) rfl ?_
  refine pm_iload (pc := 122) 0 dX12_findFilled_122 rfl ?_
  refine pm_iload (pc := 124) 5 dX12_findFilled_124 rfl ?_
  refine pm_icmp_le (pc := 126) 134 dX12_findFilled_126 (by decide) (fun hc12 => ?_) (fun hc12 => ?_)
  · rw [if_pos hc12] at hf
    refine pm_iload (pc := 134) 5 dX12_findFilled_134 rfl ?_
    refine pm_istore (pc := 136) [(4, .int v4), (6, .int t0), (0, .ref v0), (1, .int v1), (2, .int v2), (3, .int v3), (5, .int v5)] dX12_findFilled_136 (by decide) rfl ?_
    refine pm_iinc (pc := 138) 6 (v5 + (1 : Int32)) [(5, .int (v5 + (1 : Int32))), (4, .int v4), (6, .int t0), (0, .ref v0), (1, .int v1), (2, .int v2), (3, .int v3)] dX12_findFilled_138 rfl rfl (by decide) rfl ?_
    refine pm_goto (pc := 141) 73 dX12_findFilled_141 (by decide) ?_
    refine pm_lv [(0, .ref v0), (1, .int v1), (2, .int v2), (3, .int v3), (4, .int v4), (5, .int (v5 + (1 : Int32)))] [3, 4, 5, 6, 1, 0] rfl ?_
    exact hag v4 (v5 + (1 : Int32)) σ hf
  · rw [if_neg hc12] at hf
    refine pm_iload (pc := 129) 0 dX12_findFilled_129 rfl ?_
    refine pm_goto (pc := 131) 136 dX12_findFilled_131 (by decide) ?_
    refine pm_istore (pc := 136) [(4, .int t0), (6, .int t0), (0, .ref v0), (1, .int v1), (2, .int v2), (3, .int v3), (5, .int v5)] dX12_findFilled_136 (by decide) rfl ?_
    refine pm_iinc (pc := 138) 6 (v5 + (1 : Int32)) [(5, .int (v5 + (1 : Int32))), (4, .int t0), (6, .int t0), (0, .ref v0), (1, .int v1), (2, .int v2), (3, .int v3)] dX12_findFilled_138 rfl rfl (by decide) rfl ?_
    refine pm_goto (pc := 141) 73 dX12_findFilled_141 (by decide) ?_
    refine pm_lv [(0, .ref v0), (1, .int v1), (2, .int v2), (3, .int v3), (4, .int t0), (5, .int (v5 + (1 : Int32)))] [3, 4, 5, 6, 1, 0] rfl ?_
    exact hag t0 (v5 + (1 : Int32)) σ hf
def fX12_findFilled_L73 (S : pm_S) (v0 : Nat) (v1 : Int32) (v2 : Int32) (v3 : Int32) (kx : Int32 → pm_H → Option (pm_H)) : Nat → Int32 → Int32 → pm_H → Option (pm_H)
  | 0, _, _, _ => none
  | n + 1, v4, v5, σ => (if (σ.1 v0 7) ≤ v5 then kx v4 σ else Option.bind (fX12_has S (v2 &&& (v3 ^^^ (-1 : Int32))) v5 σ) fun u11 => (if u11.1 = 0 then fX12_findFilled_J120 S v0 v1 v2 v3 v4 v5 (0 : Int32) (fun w4 w5 sw => fX12_findFilled_L73 S v0 v1 v2 v3 kx n w4 w5 sw) u11.2 else (if pm_ib ((((64 : Int32) * v1) + (64 : Int32)) + (v3 ||| ((1 : Int32) <<< (v5 &&& 31)))) (pm_len S (u11.2.2 v0 33)) = true then fX12_findFilled_J120 S v0 v1 v2 v3 v4 v5 ((1 : Int32) + (u11.2.1 (u11.2.2 v0 33) (((((64 : Int32) * v1) + (64 : Int32)) + (v3 ||| ((1 : Int32) <<< (v5 &&& 31))))).toNatClampNeg)) (fun w4 w5 sw => fX12_findFilled_L73 S v0 v1 v2 v3 kx n w4 w5 sw) u11.2 else none)))
set_option maxRecDepth 100000 in
set_option maxHeartbeats 4000000 in
theorem fX12_findFilled_L73_E (l : Launch) {S : pm_S} {p : pm_H} {v0 : Nat} {v1 : Int32} {v2 : Int32} {v3 : Int32} {kx : Int32 → pm_H → Option (pm_H)} (h0 : pm_is S v0 15) (hkx : ∀ w4 sw, kx w4 sw = some p → pm_E l yX12_findFilled cX12_findFilled 7 none false 3 S (pm_ru S p) 144 [(0, .ref v0), (1, .int v1), (2, .int v2), (3, .int v3), (4, .int w4)] [] S sw) : ∀ (n : Nat) (v4 : Int32) (v5 : Int32) (σ : pm_H), fX12_findFilled_L73 S v0 v1 v2 v3 kx n v4 v5 σ = some p → pm_E l yX12_findFilled cX12_findFilled 7 none false 3 S (pm_ru S p) 73 [(0, .ref v0), (1, .int v1), (2, .int v2), (3, .int v3), (4, .int v4), (5, .int v5)] [] S σ := by
  intro n
  induction n with
  | zero => intro v4 v5 σ hf; cases hf
  | succ n ih =>
    intro v4 v5 σ hf
    rw [fX12_findFilled_L73] at hf
    refine pm_iload (pc := 73) 5 dX12_findFilled_73 rfl ?_
    refine pm_aload_n (pc := 75) 0 dX12_findFilled_75 rfl rfl h0.pos ?_
    refine pm_getI (pc := 76) (k := 7) pm_cl12 flX12_91 (by decide) rfl h0 dX12_findFilled_76 ?_
    refine pm_icmp_ge (pc := 79) 144 dX12_findFilled_79 (by decide) (fun hc16 => ?_) (fun hc16 => ?_)
    · rw [if_pos hc16] at hf
      refine pm_lv [(0, .ref v0), (1, .int v1), (2, .int v2), (3, .int v3), (4, .int v4)] [0, 1, 2, 3, 4] rfl ?_
      exact hkx v4 σ hf
    · rw [if_neg hc16] at hf
      refine pm_iload_n (pc := 82) 2 dX12_findFilled_82 rfl rfl ?_
      refine pm_iload_n (pc := 83) 3 dX12_findFilled_83 rfl rfl ?_
      refine pm_iconst (pc := 84) (-1 : Int32) (by decide) dX12_findFilled_84 ?_
      refine pm_ixor (pc := 85) dX12_findFilled_85 ?_
      refine pm_iand (pc := 86) dX12_findFilled_86 ?_
      refine pm_iload (pc := 87) 5 dX12_findFilled_87 rfl ?_
      obtain ⟨u11, hu11, hf⟩ := pm_bind_e hf
      refine pm_cSi (pc := 89) (as := [.int (v2 &&& (v3 ^^^ (-1 : Int32))), .int v5]) (st := []) msX12_300 (KX12_has l  hu11) (by decide) rfl rfl (Nat.le_of_ble_eq_true rfl) rfl dX12_findFilled_89 ?_
      refine pm_if_eq (pc := 92) 119 dX12_findFilled_92 (by decide) (fun hc15 => ?_) (fun hc15 => ?_)
      · rw [if_pos hc15] at hf
        refine pm_iconst (pc := 119) (0 : Int32) (by decide) dX12_findFilled_119 ?_
        refine pm_lv [(0, .ref v0), (1, .int v1), (2, .int v2), (3, .int v3), (4, .int v4), (5, .int v5)] [0, 1, 2, 3, 4, 5] rfl ?_
        exact fX12_findFilled_J120_E l h0 ih hf
      · rw [if_neg hc15] at hf
        refine pm_iconst (pc := 95) (1 : Int32) (by decide) dX12_findFilled_95 ?_
        refine pm_aload_n (pc := 96) 0 dX12_findFilled_96 rfl rfl h0.pos ?_
        refine pm_getT (pc := 97) (k := 33) pm_cl12 flX12_56 (by decide) rfl h0 dX12_findFilled_97 (fun hr13 => ?_)
        refine pm_bipush (pc := 100) (64 : Int32) (by decide) dX12_findFilled_100 ?_
        refine pm_iload_n (pc := 102) 1 dX12_findFilled_102 rfl rfl ?_
        refine pm_imul (pc := 103) dX12_findFilled_103 ?_
        refine pm_bipush (pc := 104) (64 : Int32) (by decide) dX12_findFilled_104 ?_
        refine pm_iadd (pc := 106) dX12_findFilled_106 ?_
        refine pm_iload_n (pc := 107) 3 dX12_findFilled_107 rfl rfl ?_
        refine pm_iconst (pc := 108) (1 : Int32) (by decide) dX12_findFilled_108 ?_
        refine pm_iload (pc := 109) 5 dX12_findFilled_109 rfl ?_
        refine pm_ishl (pc := 111) dX12_findFilled_111 ?_
        refine pm_ior (pc := 112) dX12_findFilled_112 ?_
        refine pm_iadd (pc := 113) dX12_findFilled_113 ?_
        obtain ⟨hb14, hf⟩ := pm_gd hf
        refine pm_iald (pc := 114) hr13 (pm_ib_in hb14) dX12_findFilled_114 ?_
        refine pm_iadd (pc := 115) dX12_findFilled_115 ?_
        refine pm_goto (pc := 116) 120 dX12_findFilled_116 (by decide) ?_
        refine pm_lv [(0, .ref v0), (1, .int v1), (2, .int v2), (3, .int v3), (4, .int v4), (5, .int v5)] [0, 1, 2, 3, 4, 5] rfl ?_
        exact fX12_findFilled_J120_E l h0 ih hf
def fX12_findFilled_L48 (S : pm_S) (v0 : Nat) (v1 : Int32) (v2 : Int32) (kx : pm_H → Option (pm_H)) : Nat → Int32 → pm_H → Option (pm_H)
  | 0, _, _ => none
  | n + 1, v3, σ => (if (64 : Int32) ≤ v3 then kx σ else (if pm_ib ((((64 : Int32) * v1) + (64 : Int32)) + v3) (pm_len S (σ.2 v0 33)) = true then pm_let (σ.1 (σ.2 v0 33) (((((64 : Int32) * v1) + (64 : Int32)) + v3)).toNatClampNeg) fun x10 => fX12_findFilled_L73 S v0 v1 v2 v3 (fun w17 s18 => (if pm_ib (((64 : Int32) * v1) + v3) (pm_len S (s18.2 v0 33)) = true then pm_let (pm_si s18 (s18.2 v0 33) ((((64 : Int32) * v1) + v3)).toNatClampNeg w17) fun s21 => fX12_findFilled_L48 S v0 v1 v2 kx n (v3 + (1 : Int32)) s21 else none)) pm_fuel x10 (0 : Int32) σ else none))
set_option maxRecDepth 100000 in
set_option maxHeartbeats 4000000 in
theorem fX12_findFilled_L48_E (l : Launch) {S : pm_S} {p : pm_H} {v0 : Nat} {v1 : Int32} {v2 : Int32} {kx : pm_H → Option (pm_H)} (h0 : pm_is S v0 15) (hkx : ∀  sw, kx  sw = some p → pm_E l yX12_findFilled cX12_findFilled 7 none false 3 S (pm_ru S p) 163 [(0, .ref v0), (1, .int v1)] [] S sw) : ∀ (n : Nat) (v3 : Int32) (σ : pm_H), fX12_findFilled_L48 S v0 v1 v2 kx n v3 σ = some p → pm_E l yX12_findFilled cX12_findFilled 7 none false 3 S (pm_ru S p) 48 [(0, .ref v0), (1, .int v1), (2, .int v2), (3, .int v3)] [] S σ := by
  intro n
  induction n with
  | zero => intro v3 σ hf; cases hf
  | succ n ih =>
    intro v3 σ hf
    rw [fX12_findFilled_L48] at hf
    refine pm_iload_n (pc := 48) 3 dX12_findFilled_48 rfl rfl ?_
    refine pm_bipush (pc := 49) (64 : Int32) (by decide) dX12_findFilled_49 ?_
    refine pm_icmp_ge (pc := 51) 163 dX12_findFilled_51 (by decide) (fun hc22 => ?_) (fun hc22 => ?_)
    · rw [if_pos hc22] at hf
      refine pm_lv [(0, .ref v0), (1, .int v1)] [0, 1] rfl ?_
      exact hkx σ hf
    · rw [if_neg hc22] at hf
      refine pm_aload_n (pc := 54) 0 dX12_findFilled_54 rfl rfl h0.pos ?_
      refine pm_getT (pc := 55) (k := 33) pm_cl12 flX12_56 (by decide) rfl h0 dX12_findFilled_55 (fun hr8 => ?_)
      refine pm_bipush (pc := 58) (64 : Int32) (by decide) dX12_findFilled_58 ?_
      refine pm_iload_n (pc := 60) 1 dX12_findFilled_60 rfl rfl ?_
      refine pm_imul (pc := 61) dX12_findFilled_61 ?_
      refine pm_bipush (pc := 62) (64 : Int32) (by decide) dX12_findFilled_62 ?_
      refine pm_iadd (pc := 64) dX12_findFilled_64 ?_
      refine pm_iload_n (pc := 65) 3 dX12_findFilled_65 rfl rfl ?_
      refine pm_iadd (pc := 66) dX12_findFilled_66 ?_
      obtain ⟨hb9, hf⟩ := pm_gd hf
      refine pm_iald (pc := 67) hr8 (pm_ib_in hb9) dX12_findFilled_67 ?_
      obtain ⟨x10, ex10, hf⟩ := pm_let_e hf
      refine pm_nmi ex10 ?_
      refine pm_istore (pc := 68) [(4, .int x10), (0, .ref v0), (1, .int v1), (2, .int v2), (3, .int v3)] dX12_findFilled_68 (by decide) rfl ?_
      refine pm_iconst (pc := 70) (0 : Int32) (by decide) dX12_findFilled_70 ?_
      refine pm_istore (pc := 71) [(5, .int (0 : Int32)), (4, .int x10), (0, .ref v0), (1, .int v1), (2, .int v2), (3, .int v3)] dX12_findFilled_71 (by decide) rfl ?_
      refine pm_lv [(0, .ref v0), (1, .int v1), (2, .int v2), (3, .int v3), (4, .int x10), (5, .int (0 : Int32))] [2, 3, 4, 5, 1, 0] rfl ?_
      refine fX12_findFilled_L73_E l h0 (fun w17 s18 hf => ?_) pm_fuel x10 (0 : Int32) σ hf
      refine pm_aload_n (pc := 144) 0 dX12_findFilled_144 rfl rfl h0.pos ?_
      refine pm_getT (pc := 145) (k := 33) pm_cl12 flX12_56 (by decide) rfl h0 dX12_findFilled_145 (fun hr19 => ?_)
      refine pm_bipush (pc := 148) (64 : Int32) (by decide) dX12_findFilled_148 ?_
      refine pm_iload_n (pc := 150) 1 dX12_findFilled_150 rfl rfl ?_
      refine pm_imul (pc := 151) dX12_findFilled_151 ?_
      refine pm_iload_n (pc := 152) 3 dX12_findFilled_152 rfl rfl ?_
      refine pm_iadd (pc := 153) dX12_findFilled_153 ?_
      refine pm_iload (pc := 154) 4 dX12_findFilled_154 rfl ?_
      obtain ⟨hb20, hf⟩ := pm_gd hf
      refine pm_iast (pc := 156) hr19 (pm_ib_in hb20) dX12_findFilled_156 ?_
      obtain ⟨s21, es21, hf⟩ := pm_let_e hf
      refine pm_nmh es21 ?_
      refine pm_iinc (pc := 157) 3 (v3 + (1 : Int32)) [(3, .int (v3 + (1 : Int32))), (0, .ref v0), (1, .int v1), (2, .int v2), (4, .int w17)] dX12_findFilled_157 rfl rfl (by decide) rfl ?_
      refine pm_goto (pc := 160) 48 dX12_findFilled_160 (by decide) ?_
      refine pm_lv [(0, .ref v0), (1, .int v1), (2, .int v2), (3, .int (v3 + (1 : Int32)))] [1, 2, 3, 0] rfl ?_
      exact ih (v3 + (1 : Int32)) s21 hf
def fX12_findFilled_L36 (S : pm_S) (v0 : Nat) (kx : pm_H → Option (pm_H)) : Nat → Int32 → pm_H → Option (pm_H)
  | 0, _, _ => none
  | n + 1, v1, σ => (if v1 < 0 then kx σ else Option.bind (fX12_fitsOf S v0 v1 σ) fun u7 => fX12_findFilled_L48 S v0 v1 u7.1 (fun s23 => fX12_findFilled_L36 S v0 kx n (v1 + (-1 : Int32)) s23) pm_fuel (0 : Int32) u7.2)
set_option maxRecDepth 100000 in
set_option maxHeartbeats 4000000 in
theorem fX12_findFilled_L36_E (l : Launch) {S : pm_S} {p : pm_H} {v0 : Nat} {kx : pm_H → Option (pm_H)} (h0 : pm_is S v0 15) (hkx : ∀  sw, kx  sw = some p → pm_E l yX12_findFilled cX12_findFilled 7 none false 3 S (pm_ru S p) 169 [] [] S sw) : ∀ (n : Nat) (v1 : Int32) (σ : pm_H), fX12_findFilled_L36 S v0 kx n v1 σ = some p → pm_E l yX12_findFilled cX12_findFilled 7 none false 3 S (pm_ru S p) 36 [(0, .ref v0), (1, .int v1)] [] S σ := by
  intro n
  induction n with
  | zero => intro v1 σ hf; cases hf
  | succ n ih =>
    intro v1 σ hf
    rw [fX12_findFilled_L36] at hf
    refine pm_iload_n (pc := 36) 1 dX12_findFilled_36 rfl rfl ?_
    refine pm_if_lt (pc := 37) 169 dX12_findFilled_37 (by decide) (fun hc24 => ?_) (fun hc24 => ?_)
    · rw [if_pos hc24] at hf
      refine pm_lv [] [] rfl ?_
      exact hkx σ hf
    · rw [if_neg hc24] at hf
      refine pm_aload_n (pc := 40) 0 dX12_findFilled_40 rfl rfl h0.pos ?_
      refine pm_iload_n (pc := 41) 1 dX12_findFilled_41 rfl rfl ?_
      obtain ⟨u7, hu7, hf⟩ := pm_bind_e hf
      refine pm_cVi (pc := 42) (as := [.int v1]) (st := []) mvX12_217 (KX12_fitsOf l h0 hu7) (by decide) h0 rfl rfl (Nat.le_of_ble_eq_true rfl) rfl dX12_findFilled_42 ?_
      refine pm_istore_n (pc := 45) [(2, .int u7.1), (0, .ref v0), (1, .int v1)] dX12_findFilled_45 rfl (by decide) rfl ?_
      refine pm_iconst (pc := 46) (0 : Int32) (by decide) dX12_findFilled_46 ?_
      refine pm_istore_n (pc := 47) [(3, .int (0 : Int32)), (2, .int u7.1), (0, .ref v0), (1, .int v1)] dX12_findFilled_47 rfl (by decide) rfl ?_
      refine pm_lv [(0, .ref v0), (1, .int v1), (2, .int u7.1), (3, .int (0 : Int32))] [2, 3, 1, 0] rfl ?_
      refine fX12_findFilled_L48_E l h0 (fun s23 hf => ?_) pm_fuel (0 : Int32) u7.2 hf
      refine pm_iinc (pc := 163) 1 (v1 + (-1 : Int32)) [(1, .int (v1 + (-1 : Int32))), (0, .ref v0)] dX12_findFilled_163 rfl rfl (by decide) rfl ?_
      refine pm_goto (pc := 166) 36 dX12_findFilled_166 (by decide) ?_
      refine pm_lv [(0, .ref v0), (1, .int (v1 + (-1 : Int32)))] [1, 0] rfl ?_
      exact ih (v1 + (-1 : Int32)) s23 hf
def fX12_findFilled (S : pm_S) (a0 : Nat) (σ : pm_H) : Option (pm_H) :=
  fX12_findFilled_L2 S a0 (fun s5 => pm_let ((s5.1 a0 4) - (1 : Int32)) fun x6 => fX12_findFilled_L36 S a0 (fun s25 => some s25) pm_fuel x6 s5) pm_fuel (0 : Int32) σ
set_option maxRecDepth 100000 in
set_option maxHeartbeats 4000000 in
theorem KX12_findFilled (l : Launch) {S : pm_S} {p : pm_H} {a0 : Nat} {σ : pm_H} (h0 : pm_is S a0 15) (hf : fX12_findFilled S a0 σ = some p) : pm_M l yX12_findFilled cX12_findFilled 7 none false 3 [.ref a0] S σ (pm_ru S p) := by
  refine pm_M.of (by decide +kernel) (Nat.le_of_ble_eq_true rfl) ?_
  show pm_E l yX12_findFilled cX12_findFilled 7 none false 3 S (pm_ru S p) 0 [(0, .ref a0)] [] S σ
  rw [fX12_findFilled] at hf
  refine pm_iconst (pc := 0) (0 : Int32) (by decide) dX12_findFilled_0 ?_
  refine pm_istore_n (pc := 1) [(1, .int (0 : Int32)), (0, .ref a0)] dX12_findFilled_1 rfl (by decide) rfl ?_
  refine pm_lv [(0, .ref a0), (1, .int (0 : Int32))] [1, 0] rfl ?_
  refine fX12_findFilled_L2_E l h0 (fun s5 hf => ?_) pm_fuel (0 : Int32) σ hf
  refine pm_aload_n (pc := 29) 0 dX12_findFilled_29 rfl rfl h0.pos ?_
  refine pm_getI (pc := 30) (k := 4) pm_cl12 flX12_84 (by decide) rfl h0 dX12_findFilled_30 ?_
  refine pm_iconst (pc := 33) (1 : Int32) (by decide) dX12_findFilled_33 ?_
  refine pm_isub (pc := 34) dX12_findFilled_34 ?_
  obtain ⟨x6, ex6, hf⟩ := pm_let_e hf
  refine pm_nmi ex6 ?_
  refine pm_istore_n (pc := 35) [(1, .int x6), (0, .ref a0)] dX12_findFilled_35 rfl (by decide) rfl ?_
  refine pm_lv [(0, .ref a0), (1, .int x6)] [1, 0] rfl ?_
  refine fX12_findFilled_L36_E l h0 (fun s25 hf => ?_) pm_fuel x6 s5 hf
  exact pm_vret rfl dX12_findFilled_169 (pm_ru_e hf)
def fX12_whoGets_L9 (S : pm_S) (v0 : Nat) (v1 : Int32) (v2 : Int32) (v3 : Int32) (kx : pm_H → Option (Int32 × pm_H)) : Nat → Int32 → pm_H → Option (Int32 × pm_H)
  | 0, _, _ => none
  | n + 1, v4, σ => (if (σ.1 v0 7) ≤ v4 then kx σ else Option.bind (fX12_has S (v3 &&& (v2 ^^^ (-1 : Int32))) v4 σ) fun u2 => (if u2.1 = 0 then fX12_whoGets_L9 S v0 v1 v2 v3 kx n (v4 + (1 : Int32)) u2.2 else (if pm_ib ((((64 : Int32) * v1) + (64 : Int32)) + (v2 ||| ((1 : Int32) <<< (v4 &&& 31)))) (pm_len S (u2.2.2 v0 33)) = true then (if pm_ib (((64 : Int32) * v1) + v2) (pm_len S (u2.2.2 v0 33)) = true then (if ((1 : Int32) + (u2.2.1 (u2.2.2 v0 33) (((((64 : Int32) * v1) + (64 : Int32)) + (v2 ||| ((1 : Int32) <<< (v4 &&& 31))))).toNatClampNeg)) = (u2.2.1 (u2.2.2 v0 33) ((((64 : Int32) * v1) + v2)).toNatClampNeg) then some (v4, u2.2) else fX12_whoGets_L9 S v0 v1 v2 v3 kx n (v4 + (1 : Int32)) u2.2) else none) else none)))
set_option maxRecDepth 100000 in
set_option maxHeartbeats 4000000 in
theorem fX12_whoGets_L9_E (l : Launch) {S : pm_S} {p : Int32 × pm_H} {v0 : Nat} {v1 : Int32} {v2 : Int32} {v3 : Int32} {kx : pm_H → Option (Int32 × pm_H)} (h0 : pm_is S v0 15) (hkx : ∀  sw, kx  sw = some p → pm_E l yX12_whoGets cX12_whoGets 5 (some .int) false 3 S (pm_ri S p) 75 [] [] S sw) : ∀ (n : Nat) (v4 : Int32) (σ : pm_H), fX12_whoGets_L9 S v0 v1 v2 v3 kx n v4 σ = some p → pm_E l yX12_whoGets cX12_whoGets 5 (some .int) false 3 S (pm_ri S p) 9 [(0, .ref v0), (1, .int v1), (2, .int v2), (3, .int v3), (4, .int v4)] [] S σ := by
  intro n
  induction n with
  | zero => intro v4 σ hf; cases hf
  | succ n ih =>
    intro v4 σ hf
    rw [fX12_whoGets_L9] at hf
    refine pm_iload (pc := 9) 4 dX12_whoGets_9 rfl ?_
    refine pm_aload_n (pc := 11) 0 dX12_whoGets_11 rfl rfl h0.pos ?_
    refine pm_getI (pc := 12) (k := 7) pm_cl12 flX12_91 (by decide) rfl h0 dX12_whoGets_12 ?_
    refine pm_icmp_ge (pc := 15) 75 dX12_whoGets_15 (by decide) (fun hc9 => ?_) (fun hc9 => ?_)
    · rw [if_pos hc9] at hf
      refine pm_lv [] [] rfl ?_
      exact hkx σ hf
    · rw [if_neg hc9] at hf
      refine pm_iload_n (pc := 18) 3 dX12_whoGets_18 rfl rfl ?_
      refine pm_iload_n (pc := 19) 2 dX12_whoGets_19 rfl rfl ?_
      refine pm_iconst (pc := 20) (-1 : Int32) (by decide) dX12_whoGets_20 ?_
      refine pm_ixor (pc := 21) dX12_whoGets_21 ?_
      refine pm_iand (pc := 22) dX12_whoGets_22 ?_
      refine pm_iload (pc := 23) 4 dX12_whoGets_23 rfl ?_
      obtain ⟨u2, hu2, hf⟩ := pm_bind_e hf
      refine pm_cSi (pc := 25) (as := [.int (v3 &&& (v2 ^^^ (-1 : Int32))), .int v4]) (st := []) msX12_300 (KX12_has l  hu2) (by decide) rfl rfl (Nat.le_of_ble_eq_true rfl) rfl dX12_whoGets_25 ?_
      refine pm_if_eq (pc := 28) 69 dX12_whoGets_28 (by decide) (fun hc8 => ?_) (fun hc8 => ?_)
      · rw [if_pos hc8] at hf
        refine pm_iinc (pc := 69) 4 (v4 + (1 : Int32)) [(4, .int (v4 + (1 : Int32))), (0, .ref v0), (1, .int v1), (2, .int v2), (3, .int v3)] dX12_whoGets_69 rfl rfl (by decide) rfl ?_
        refine pm_goto (pc := 72) 9 dX12_whoGets_72 (by decide) ?_
        refine pm_lv [(0, .ref v0), (1, .int v1), (2, .int v2), (3, .int v3), (4, .int (v4 + (1 : Int32)))] [1, 2, 3, 4, 0] rfl ?_
        exact ih (v4 + (1 : Int32)) u2.2 hf
      · rw [if_neg hc8] at hf
        refine pm_iconst (pc := 31) (1 : Int32) (by decide) dX12_whoGets_31 ?_
        refine pm_aload_n (pc := 32) 0 dX12_whoGets_32 rfl rfl h0.pos ?_
        refine pm_getT (pc := 33) (k := 33) pm_cl12 flX12_56 (by decide) rfl h0 dX12_whoGets_33 (fun hr3 => ?_)
        refine pm_bipush (pc := 36) (64 : Int32) (by decide) dX12_whoGets_36 ?_
        refine pm_iload_n (pc := 38) 1 dX12_whoGets_38 rfl rfl ?_
        refine pm_imul (pc := 39) dX12_whoGets_39 ?_
        refine pm_bipush (pc := 40) (64 : Int32) (by decide) dX12_whoGets_40 ?_
        refine pm_iadd (pc := 42) dX12_whoGets_42 ?_
        refine pm_iload_n (pc := 43) 2 dX12_whoGets_43 rfl rfl ?_
        refine pm_iconst (pc := 44) (1 : Int32) (by decide) dX12_whoGets_44 ?_
        refine pm_iload (pc := 45) 4 dX12_whoGets_45 rfl ?_
        refine pm_ishl (pc := 47) dX12_whoGets_47 ?_
        refine pm_ior (pc := 48) dX12_whoGets_48 ?_
        refine pm_iadd (pc := 49) dX12_whoGets_49 ?_
        obtain ⟨hb4, hf⟩ := pm_gd hf
        refine pm_iald (pc := 50) hr3 (pm_ib_in hb4) dX12_whoGets_50 ?_
        refine pm_iadd (pc := 51) dX12_whoGets_51 ?_
        refine pm_aload_n (pc := 52) 0 dX12_whoGets_52 rfl rfl h0.pos ?_
        refine pm_getT (pc := 53) (k := 33) pm_cl12 flX12_56 (by decide) rfl h0 dX12_whoGets_53 (fun hr5 => ?_)
        refine pm_bipush (pc := 56) (64 : Int32) (by decide) dX12_whoGets_56 ?_
        refine pm_iload_n (pc := 58) 1 dX12_whoGets_58 rfl rfl ?_
        refine pm_imul (pc := 59) dX12_whoGets_59 ?_
        refine pm_iload_n (pc := 60) 2 dX12_whoGets_60 rfl rfl ?_
        refine pm_iadd (pc := 61) dX12_whoGets_61 ?_
        obtain ⟨hb6, hf⟩ := pm_gd hf
        refine pm_iald (pc := 62) hr5 (pm_ib_in hb6) dX12_whoGets_62 ?_
        refine pm_icmp_ne (pc := 63) 69 dX12_whoGets_63 (by decide) (fun hc7 => ?_) (fun hc7 => ?_)
        · rw [if_pos hc7] at hf
          refine pm_iload (pc := 66) 4 dX12_whoGets_66 rfl ?_
          exact pm_iret rfl dX12_whoGets_68 (pm_ri_e hf)
        · rw [if_neg hc7] at hf
          refine pm_iinc (pc := 69) 4 (v4 + (1 : Int32)) [(4, .int (v4 + (1 : Int32))), (0, .ref v0), (1, .int v1), (2, .int v2), (3, .int v3)] dX12_whoGets_69 rfl rfl (by decide) rfl ?_
          refine pm_goto (pc := 72) 9 dX12_whoGets_72 (by decide) ?_
          refine pm_lv [(0, .ref v0), (1, .int v1), (2, .int v2), (3, .int v3), (4, .int (v4 + (1 : Int32)))] [1, 2, 3, 4, 0] rfl ?_
          exact ih (v4 + (1 : Int32)) u2.2 hf
def fX12_whoGets (S : pm_S) (a0 : Nat) (a1 : Int32) (a2 : Int32) (σ : pm_H) : Option (Int32 × pm_H) :=
  Option.bind (fX12_fitsOf S a0 a1 σ) fun u1 => fX12_whoGets_L9 S a0 a1 a2 u1.1 (fun s10 => some ((-1 : Int32), s10)) pm_fuel (0 : Int32) u1.2
set_option maxRecDepth 100000 in
set_option maxHeartbeats 4000000 in
theorem KX12_whoGets (l : Launch) {S : pm_S} {p : Int32 × pm_H} {a0 : Nat} {a1 : Int32} {a2 : Int32} {σ : pm_H} (h0 : pm_is S a0 15) (hf : fX12_whoGets S a0 a1 a2 σ = some p) : pm_M l yX12_whoGets cX12_whoGets 5 (some .int) false 3 [.ref a0, .int a1, .int a2] S σ (pm_ri S p) := by
  refine pm_M.of (by decide +kernel) (Nat.le_of_ble_eq_true rfl) ?_
  show pm_E l yX12_whoGets cX12_whoGets 5 (some .int) false 3 S (pm_ri S p) 0 [(0, .ref a0), (1, .int a1), (2, .int a2)] [] S σ
  rw [fX12_whoGets] at hf
  refine pm_aload_n (pc := 0) 0 dX12_whoGets_0 rfl rfl h0.pos ?_
  refine pm_iload_n (pc := 1) 1 dX12_whoGets_1 rfl rfl ?_
  obtain ⟨u1, hu1, hf⟩ := pm_bind_e hf
  refine pm_cVi (pc := 2) (as := [.int a1]) (st := []) mvX12_217 (KX12_fitsOf l h0 hu1) (by decide) h0 rfl rfl (Nat.le_of_ble_eq_true rfl) rfl dX12_whoGets_2 ?_
  refine pm_istore_n (pc := 5) [(3, .int u1.1), (0, .ref a0), (1, .int a1), (2, .int a2)] dX12_whoGets_5 rfl (by decide) rfl ?_
  refine pm_iconst (pc := 6) (0 : Int32) (by decide) dX12_whoGets_6 ?_
  refine pm_istore (pc := 7) [(4, .int (0 : Int32)), (3, .int u1.1), (0, .ref a0), (1, .int a1), (2, .int a2)] dX12_whoGets_7 (by decide) rfl ?_
  refine pm_lv [(0, .ref a0), (1, .int a1), (2, .int a2), (3, .int u1.1), (4, .int (0 : Int32))] [2, 3, 4, 1, 0] rfl ?_
  refine fX12_whoGets_L9_E l h0 (fun s10 hf => ?_) pm_fuel (0 : Int32) u1.2 hf
  refine pm_iconst (pc := 75) (-1 : Int32) (by decide) dX12_whoGets_75 ?_
  exact pm_iret rfl dX12_whoGets_76 (pm_ri_e hf)
def fX12_posts_L39 (S : pm_S) (v0 : Nat) (v1 : Int32) (kx : Int32 → pm_H → Option (Int32 × pm_H)) : Nat → Int32 → Int32 → Int32 → pm_H → Option (Int32 × pm_H)
  | 0, _, _, _, _ => none
  | n + 1, v2, v3, v4, σ => (if v1 < v4 then kx v3 σ else Option.bind (fX12_whoGets S v0 v4 v2 σ) fun u2 => (if 0 ≤ u2.1 then pm_let (v2 ||| ((1 : Int32) <<< (u2.1 &&& 31))) fun x3 => fX12_posts_L39 S v0 v1 kx n x3 u2.1 (v4 + (1 : Int32)) u2.2 else pm_let (v2 ||| (0 : Int32)) fun x4 => fX12_posts_L39 S v0 v1 kx n x4 u2.1 (v4 + (1 : Int32)) u2.2))
set_option maxRecDepth 100000 in
set_option maxHeartbeats 4000000 in
theorem fX12_posts_L39_E (l : Launch) {S : pm_S} {p : Int32 × pm_H} {v0 : Nat} {v1 : Int32} {kx : Int32 → pm_H → Option (Int32 × pm_H)} (h0 : pm_is S v0 15) (hkx : ∀ w3 sw, kx w3 sw = some p → pm_E l yX12_posts cX12_posts 5 (some .int) false 4 S (pm_ri S p) 73 [(3, .int w3)] [] S sw) : ∀ (n : Nat) (v2 : Int32) (v3 : Int32) (v4 : Int32) (σ : pm_H), fX12_posts_L39 S v0 v1 kx n v2 v3 v4 σ = some p → pm_E l yX12_posts cX12_posts 5 (some .int) false 4 S (pm_ri S p) 39 [(0, .ref v0), (1, .int v1), (2, .int v2), (3, .int v3), (4, .int v4)] [] S σ := by
  intro n
  induction n with
  | zero => intro v2 v3 v4 σ hf; cases hf
  | succ n ih =>
    intro v2 v3 v4 σ hf
    rw [fX12_posts_L39] at hf
    refine pm_iload (pc := 39) 4 dX12_posts_39 rfl ?_
    refine pm_iload_n (pc := 41) 1 dX12_posts_41 rfl rfl ?_
    refine pm_icmp_gt (pc := 42) 73 dX12_posts_42 (by decide) (fun hc6 => ?_) (fun hc6 => ?_)
    · rw [if_pos hc6] at hf
      refine pm_lv [(3, .int v3)] [3] rfl ?_
      exact hkx v3 σ hf
    · rw [if_neg hc6] at hf
      refine pm_aload_n (pc := 45) 0 dX12_posts_45 rfl rfl h0.pos ?_
      refine pm_iload (pc := 46) 4 dX12_posts_46 rfl ?_
      refine pm_iload_n (pc := 48) 2 dX12_posts_48 rfl rfl ?_
      obtain ⟨u2, hu2, hf⟩ := pm_bind_e hf
      refine pm_cVi (pc := 49) (as := [.int v4, .int v2]) (st := []) mvX12_306 (KX12_whoGets l h0 hu2) (by decide) h0 rfl rfl (Nat.le_of_ble_eq_true rfl) rfl dX12_posts_49 ?_
      refine pm_istore_n (pc := 52) [(3, .int u2.1), (0, .ref v0), (1, .int v1), (2, .int v2), (4, .int v4)] dX12_posts_52 rfl (by decide) rfl ?_
      refine pm_iload_n (pc := 53) 3 dX12_posts_53 rfl rfl ?_
      refine pm_iload_n (pc := 54) 0 dX12_posts_54 rfl rfl ?_
      refine pm_if_ge (pc := 55) 62 dX12_posts_55 (by decide) (fun hc5 => ?_) (fun hc5 => ?_)
      · rw [if_pos hc5] at hf
        refine pm_iconst (pc := 62) (1 : Int32) (by decide) dX12_posts_62 ?_
        refine pm_iload_n (pc := 63) 0 dX12_posts_63 rfl rfl ?_
        refine pm_ishl (pc := 64) dX12_posts_64 ?_
        refine pm_ior (pc := 65) dX12_posts_65 ?_
        obtain ⟨x3, ex3, hf⟩ := pm_let_e hf
        refine pm_nmi ex3 ?_
        refine pm_istore_n (pc := 66) [(2, .int x3), (3, .int u2.1), (0, .ref v0), (1, .int v1), (4, .int v4)] dX12_posts_66 rfl (by decide) rfl ?_
        refine pm_iinc (pc := 67) 4 (v4 + (1 : Int32)) [(4, .int (v4 + (1 : Int32))), (2, .int x3), (3, .int u2.1), (0, .ref v0), (1, .int v1)] dX12_posts_67 rfl rfl (by decide) rfl ?_
        refine pm_goto (pc := 70) 39 dX12_posts_70 (by decide) ?_
        refine pm_lv [(0, .ref v0), (1, .int v1), (2, .int x3), (3, .int u2.1), (4, .int (v4 + (1 : Int32)))] [3, 4, 1, 2, 0] rfl ?_
        exact ih x3 u2.1 (v4 + (1 : Int32)) u2.2 hf
      · rw [if_neg hc5] at hf
        refine pm_iconst (pc := 58) (0 : Int32) (by decide) dX12_posts_58 ?_
        refine pm_goto (pc := 59) 65 dX12_posts_59 (by decide) ?_
        refine pm_ior (pc := 65) dX12_posts_65 ?_
        obtain ⟨x4, ex4, hf⟩ := pm_let_e hf
        refine pm_nmi ex4 ?_
        refine pm_istore_n (pc := 66) [(2, .int x4), (3, .int u2.1), (0, .ref v0), (1, .int v1), (4, .int v4)] dX12_posts_66 rfl (by decide) rfl ?_
        refine pm_iinc (pc := 67) 4 (v4 + (1 : Int32)) [(4, .int (v4 + (1 : Int32))), (2, .int x4), (3, .int u2.1), (0, .ref v0), (1, .int v1)] dX12_posts_67 rfl rfl (by decide) rfl ?_
        refine pm_goto (pc := 70) 39 dX12_posts_70 (by decide) ?_
        refine pm_lv [(0, .ref v0), (1, .int v1), (2, .int x4), (3, .int u2.1), (4, .int (v4 + (1 : Int32)))] [3, 4, 1, 2, 0] rfl ?_
        exact ih x4 u2.1 (v4 + (1 : Int32)) u2.2 hf
def fX12_posts_J16 (S : pm_S) (v0 : Nat) (v1 : Int32) (σ : pm_H) : Option (Int32 × pm_H) :=
  Option.bind (fX12_findFilled S v0 σ) fun u1 => (if v1 = (-1 : Int32) then (if pm_ib (0 : Int32) (pm_len S (u1.2 v0 33)) = true then some ((u1.1 (u1.2 v0 33) ((0 : Int32)).toNatClampNeg), u1) else none) else fX12_posts_L39 S v0 v1 (fun w7 s8 => some (w7, s8)) pm_fuel (0 : Int32) (-1 : Int32) (0 : Int32) u1)
set_option maxRecDepth 100000 in
set_option maxHeartbeats 4000000 in
theorem fX12_posts_J16_E (l : Launch) {S : pm_S} {p : Int32 × pm_H} {v0 : Nat} {v1 : Int32} {σ : pm_H} (h0 : pm_is S v0 15) (hf : fX12_posts_J16 S v0 v1 σ = some p) : pm_E l yX12_posts cX12_posts 5 (some .int) false 4 S (pm_ri S p) 16 [(0, .ref v0), (1, .int v1)] [] S σ := by
  rw [fX12_posts_J16] at hf
  refine pm_aload_n (pc := 16) 0 dX12_posts_16 rfl rfl h0.pos ?_
  obtain ⟨u1, hu1, hf⟩ := pm_bind_e hf
  refine pm_cVu (pc := 17) (as := []) (st := []) mvX12_303 (KX12_findFilled l h0 hu1) (by decide) h0 rfl rfl (Nat.le_of_ble_eq_true rfl) rfl dX12_posts_17 ?_
  refine pm_iload_n (pc := 20) 1 dX12_posts_20 rfl rfl ?_
  refine pm_iconst (pc := 21) (-1 : Int32) (by decide) dX12_posts_21 ?_
  refine pm_icmp_ne (pc := 22) 32 dX12_posts_22 (by decide) (fun hc11 => ?_) (fun hc11 => ?_)
  · rw [if_pos hc11] at hf
    refine pm_aload_n (pc := 25) 0 dX12_posts_25 rfl rfl h0.pos ?_
    refine pm_getT (pc := 26) (k := 33) pm_cl12 flX12_56 (by decide) rfl h0 dX12_posts_26 (fun hr9 => ?_)
    refine pm_iconst (pc := 29) (0 : Int32) (by decide) dX12_posts_29 ?_
    obtain ⟨hb10, hf⟩ := pm_gd hf
    refine pm_iald (pc := 30) hr9 (pm_ib_in hb10) dX12_posts_30 ?_
    exact pm_iret rfl dX12_posts_31 (pm_ri_e hf)
  · rw [if_neg hc11] at hf
    refine pm_iconst (pc := 32) (0 : Int32) (by decide) dX12_posts_32 ?_
    refine pm_istore_n (pc := 33) [(2, .int (0 : Int32)), (0, .ref v0), (1, .int v1)] dX12_posts_33 rfl (by decide) rfl ?_
    refine pm_iconst (pc := 34) (-1 : Int32) (by decide) dX12_posts_34 ?_
    refine pm_istore_n (pc := 35) [(3, .int (-1 : Int32)), (2, .int (0 : Int32)), (0, .ref v0), (1, .int v1)] dX12_posts_35 rfl (by decide) rfl ?_
    refine pm_iconst (pc := 36) (0 : Int32) (by decide) dX12_posts_36 ?_
    refine pm_istore (pc := 37) [(4, .int (0 : Int32)), (3, .int (-1 : Int32)), (2, .int (0 : Int32)), (0, .ref v0), (1, .int v1)] dX12_posts_37 (by decide) rfl ?_
    refine pm_lv [(0, .ref v0), (1, .int v1), (2, .int (0 : Int32)), (3, .int (-1 : Int32)), (4, .int (0 : Int32))] [3, 4, 2, 1, 0] rfl ?_
    refine fX12_posts_L39_E l h0 (fun w7 s8 hf => ?_) pm_fuel (0 : Int32) (-1 : Int32) (0 : Int32) u1 hf
    refine pm_iload_n (pc := 73) 0 dX12_posts_73 rfl rfl ?_
    exact pm_iret rfl dX12_posts_74 (pm_ri_e hf)
def fX12_posts (S : pm_S) (a0 : Nat) (a1 : Int32) (σ : pm_H) : Option (Int32 × pm_H) :=
  (if a1 = (-1 : Int32) then fX12_posts_J16 S a0 a1 σ else Option.bind (fX12_isOffice S a0 a1 σ) fun u12 => (if u12.1 = 0 then some ((-1000000001 : Int32), u12.2) else fX12_posts_J16 S a0 a1 u12.2))
set_option maxRecDepth 100000 in
set_option maxHeartbeats 4000000 in
theorem KX12_posts (l : Launch) {S : pm_S} {p : Int32 × pm_H} {a0 : Nat} {a1 : Int32} {σ : pm_H} (h0 : pm_is S a0 15) (hf : fX12_posts S a0 a1 σ = some p) : pm_M l yX12_posts cX12_posts 5 (some .int) false 4 [.ref a0, .int a1] S σ (pm_ri S p) := by
  refine pm_M.of (by decide +kernel) (Nat.le_of_ble_eq_true rfl) ?_
  show pm_E l yX12_posts cX12_posts 5 (some .int) false 4 S (pm_ri S p) 0 [(0, .ref a0), (1, .int a1)] [] S σ
  rw [fX12_posts] at hf
  refine pm_iload_n (pc := 0) 1 dX12_posts_0 rfl rfl ?_
  refine pm_iconst (pc := 1) (-1 : Int32) (by decide) dX12_posts_1 ?_
  refine pm_icmp_eq (pc := 2) 16 dX12_posts_2 (by decide) (fun hc14 => ?_) (fun hc14 => ?_)
  · rw [if_pos hc14] at hf
    refine pm_lv [(0, .ref a0), (1, .int a1)] [0, 1] rfl ?_
    exact fX12_posts_J16_E l h0 hf
  · rw [if_neg hc14] at hf
    refine pm_aload_n (pc := 5) 0 dX12_posts_5 rfl rfl h0.pos ?_
    refine pm_iload_n (pc := 6) 1 dX12_posts_6 rfl rfl ?_
    obtain ⟨u12, hu12, hf⟩ := pm_bind_e hf
    refine pm_cVi (pc := 7) (as := [.int a1]) (st := []) mvX12_213 (KX12_isOffice l h0 hu12) (by decide) h0 rfl rfl (Nat.le_of_ble_eq_true rfl) rfl dX12_posts_7 ?_
    refine pm_if_ne (pc := 10) 16 dX12_posts_10 (by decide) (fun hc13 => ?_) (fun hc13 => ?_)
    · rw [if_pos hc13] at hf
      refine pm_ldc (pc := 13) kcX12_216 dX12_posts_13 ?_
      exact pm_iret rfl dX12_posts_15 (pm_ri_e hf)
    · rw [if_neg hc13] at hf
      refine pm_lv [(0, .ref a0), (1, .int a1)] [0, 1] rfl ?_
      exact fX12_posts_J16_E l h0 hf
def fX12_toShorten_L21 (S : pm_S) (v0 : Nat) (v1 : Int32) (v2 : Int32) (kx : pm_H → Option (Int32 × pm_H)) : Nat → Int32 → pm_H → Option (Int32 × pm_H)
  | 0, _, _ => none
  | n + 1, v3, σ => (if pm_ib ((74 : Int32) + v1) (pm_len S (σ.2 v0 11)) = true then (if (σ.1 (σ.2 v0 11) (((74 : Int32) + v1)).toNatClampNeg) ≤ v3 then kx σ else (if pm_ib ((74 : Int32) + v1) (pm_len S (σ.2 v0 11)) = true then Option.bind (fX12_fits S v0 v2 ((σ.1 (σ.2 v0 11) (((74 : Int32) + v1)).toNatClampNeg) - v3) σ) fun u7 => (if u7.1 = 0 then fX12_toShorten_L21 S v0 v1 v2 kx n (v3 + (1 : Int32)) u7.2 else some (v3, u7.2)) else none)) else none)
set_option maxRecDepth 100000 in
set_option maxHeartbeats 4000000 in
theorem fX12_toShorten_L21_E (l : Launch) {S : pm_S} {p : Int32 × pm_H} {v0 : Nat} {v1 : Int32} {v2 : Int32} {kx : pm_H → Option (Int32 × pm_H)} (h0 : pm_is S v0 15) (hkx : ∀  sw, kx  sw = some p → pm_E l yX12_toShorten cX12_toShorten 4 (some .int) false 2 S (pm_ri S p) 61 [] [] S sw) : ∀ (n : Nat) (v3 : Int32) (σ : pm_H), fX12_toShorten_L21 S v0 v1 v2 kx n v3 σ = some p → pm_E l yX12_toShorten cX12_toShorten 4 (some .int) false 2 S (pm_ri S p) 21 [(0, .ref v0), (1, .int v1), (2, .int v2), (3, .int v3)] [] S σ := by
  intro n
  induction n with
  | zero => intro v3 σ hf; cases hf
  | succ n ih =>
    intro v3 σ hf
    rw [fX12_toShorten_L21] at hf
    refine pm_iload_n (pc := 21) 3 dX12_toShorten_21 rfl rfl ?_
    refine pm_aload_n (pc := 22) 0 dX12_toShorten_22 rfl rfl h0.pos ?_
    refine pm_getT (pc := 23) (k := 11) pm_cl12 flX12_25 (by decide) rfl h0 dX12_toShorten_23 (fun hr3 => ?_)
    refine pm_bipush (pc := 26) (74 : Int32) (by decide) dX12_toShorten_26 ?_
    refine pm_iload_n (pc := 28) 1 dX12_toShorten_28 rfl rfl ?_
    refine pm_iadd (pc := 29) dX12_toShorten_29 ?_
    obtain ⟨hb4, hf⟩ := pm_gd hf
    refine pm_iald (pc := 30) hr3 (pm_ib_in hb4) dX12_toShorten_30 ?_
    refine pm_icmp_ge (pc := 31) 61 dX12_toShorten_31 (by decide) (fun hc9 => ?_) (fun hc9 => ?_)
    · rw [if_pos hc9] at hf
      refine pm_lv [] [] rfl ?_
      exact hkx σ hf
    · rw [if_neg hc9] at hf
      refine pm_aload_n (pc := 34) 0 dX12_toShorten_34 rfl rfl h0.pos ?_
      refine pm_iload_n (pc := 35) 2 dX12_toShorten_35 rfl rfl ?_
      refine pm_aload_n (pc := 36) 0 dX12_toShorten_36 rfl rfl h0.pos ?_
      refine pm_getT (pc := 37) (k := 11) pm_cl12 flX12_25 (by decide) rfl h0 dX12_toShorten_37 (fun hr5 => ?_)
      refine pm_bipush (pc := 40) (74 : Int32) (by decide) dX12_toShorten_40 ?_
      refine pm_iload_n (pc := 42) 1 dX12_toShorten_42 rfl rfl ?_
      refine pm_iadd (pc := 43) dX12_toShorten_43 ?_
      obtain ⟨hb6, hf⟩ := pm_gd hf
      refine pm_iald (pc := 44) hr5 (pm_ib_in hb6) dX12_toShorten_44 ?_
      refine pm_iload_n (pc := 45) 3 dX12_toShorten_45 rfl rfl ?_
      refine pm_isub (pc := 46) dX12_toShorten_46 ?_
      obtain ⟨u7, hu7, hf⟩ := pm_bind_e hf
      refine pm_cVi (pc := 47) (as := [.int v2, .int ((σ.1 (σ.2 v0 11) (((74 : Int32) + v1)).toNatClampNeg) - v3)]) (st := []) mvX12_201 (KX12_fits l h0 hu7) (by decide) h0 rfl rfl (Nat.le_of_ble_eq_true rfl) rfl dX12_toShorten_47 ?_
      refine pm_if_eq (pc := 50) 55 dX12_toShorten_50 (by decide) (fun hc8 => ?_) (fun hc8 => ?_)
      · rw [if_pos hc8] at hf
        refine pm_iinc (pc := 55) 3 (v3 + (1 : Int32)) [(3, .int (v3 + (1 : Int32))), (0, .ref v0), (1, .int v1), (2, .int v2)] dX12_toShorten_55 rfl rfl (by decide) rfl ?_
        refine pm_goto (pc := 58) 21 dX12_toShorten_58 (by decide) ?_
        refine pm_lv [(0, .ref v0), (1, .int v1), (2, .int v2), (3, .int (v3 + (1 : Int32)))] [1, 2, 3, 0] rfl ?_
        exact ih (v3 + (1 : Int32)) u7.2 hf
      · rw [if_neg hc8] at hf
        refine pm_iload_n (pc := 53) 3 dX12_toShorten_53 rfl rfl ?_
        exact pm_iret rfl dX12_toShorten_54 (pm_ri_e hf)
def fX12_toShorten (S : pm_S) (a0 : Nat) (a1 : Int32) (a2 : Int32) (σ : pm_H) : Option (Int32 × pm_H) :=
  Option.bind (fX12_isPerson S a0 a1 σ) fun u1 => (if u1.1 = 0 then some ((-1000000001 : Int32), u1.2) else Option.bind (fX12_isOffice S a0 a2 u1.2) fun u2 => (if u2.1 = 0 then some ((-1000000001 : Int32), u2.2) else fX12_toShorten_L21 S a0 a1 a2 (fun s10 => some ((-1 : Int32), s10)) pm_fuel (0 : Int32) u2.2))
set_option maxRecDepth 100000 in
set_option maxHeartbeats 4000000 in
theorem KX12_toShorten (l : Launch) {S : pm_S} {p : Int32 × pm_H} {a0 : Nat} {a1 : Int32} {a2 : Int32} {σ : pm_H} (h0 : pm_is S a0 15) (hf : fX12_toShorten S a0 a1 a2 σ = some p) : pm_M l yX12_toShorten cX12_toShorten 4 (some .int) false 2 [.ref a0, .int a1, .int a2] S σ (pm_ri S p) := by
  refine pm_M.of (by decide +kernel) (Nat.le_of_ble_eq_true rfl) ?_
  show pm_E l yX12_toShorten cX12_toShorten 4 (some .int) false 2 S (pm_ri S p) 0 [(0, .ref a0), (1, .int a1), (2, .int a2)] [] S σ
  rw [fX12_toShorten] at hf
  refine pm_aload_n (pc := 0) 0 dX12_toShorten_0 rfl rfl h0.pos ?_
  refine pm_iload_n (pc := 1) 1 dX12_toShorten_1 rfl rfl ?_
  obtain ⟨u1, hu1, hf⟩ := pm_bind_e hf
  refine pm_cVi (pc := 2) (as := [.int a1]) (st := []) mvX12_220 (KX12_isPerson l h0 hu1) (by decide) h0 rfl rfl (Nat.le_of_ble_eq_true rfl) rfl dX12_toShorten_2 ?_
  refine pm_if_eq (pc := 5) 16 dX12_toShorten_5 (by decide) (fun hc12 => ?_) (fun hc12 => ?_)
  · rw [if_pos hc12] at hf
    refine pm_ldc (pc := 16) kcX12_216 dX12_toShorten_16 ?_
    exact pm_iret rfl dX12_toShorten_18 (pm_ri_e hf)
  · rw [if_neg hc12] at hf
    refine pm_aload_n (pc := 8) 0 dX12_toShorten_8 rfl rfl h0.pos ?_
    refine pm_iload_n (pc := 9) 2 dX12_toShorten_9 rfl rfl ?_
    obtain ⟨u2, hu2, hf⟩ := pm_bind_e hf
    refine pm_cVi (pc := 10) (as := [.int a2]) (st := []) mvX12_213 (KX12_isOffice l h0 hu2) (by decide) h0 rfl rfl (Nat.le_of_ble_eq_true rfl) rfl dX12_toShorten_10 ?_
    refine pm_if_ne (pc := 13) 19 dX12_toShorten_13 (by decide) (fun hc11 => ?_) (fun hc11 => ?_)
    · rw [if_pos hc11] at hf
      refine pm_ldc (pc := 16) kcX12_216 dX12_toShorten_16 ?_
      exact pm_iret rfl dX12_toShorten_18 (pm_ri_e hf)
    · rw [if_neg hc11] at hf
      refine pm_iconst (pc := 19) (0 : Int32) (by decide) dX12_toShorten_19 ?_
      refine pm_istore_n (pc := 20) [(3, .int (0 : Int32)), (0, .ref a0), (1, .int a1), (2, .int a2)] dX12_toShorten_20 rfl (by decide) rfl ?_
      refine pm_lv [(0, .ref a0), (1, .int a1), (2, .int a2), (3, .int (0 : Int32))] [1, 2, 3, 0] rfl ?_
      refine fX12_toShorten_L21_E l h0 (fun s10 hf => ?_) pm_fuel (0 : Int32) u2.2 hf
      refine pm_iconst (pc := 61) (-1 : Int32) (by decide) dX12_toShorten_61 ?_
      exact pm_iret rfl dX12_toShorten_62 (pm_ri_e hf)
def fX12_wasWarped_J106 (S : pm_S) (v0 : Nat) (v1 : Int32) (v2 : Int32) (v3 : Int32) (v4 : Int32) (v5 : Int32) (v6 : Int32) (v7 : Int32) (v8 : Int32) (t0 : Int32) (ag : Int32 → Int32 → pm_H → Option (Int32 × pm_H)) (σ : pm_H) : Option (Int32 × pm_H) :=
  (if v7 = 0 then ag (0 : Int32) (v8 + (1 : Int32)) σ else (if pm_ib ((46 : Int32) + v8) (pm_len S (σ.2 v0 11)) = true then (if (σ.1 (σ.2 v0 11) (((46 : Int32) + v8)).toNatClampNeg) = v1 then (if t0 = 0 then ag (0 : Int32) (v8 + (1 : Int32)) σ else ag (1 : Int32) (v8 + (1 : Int32)) σ) else ag (1 : Int32) (v8 + (1 : Int32)) σ) else none))
set_option maxRecDepth 100000 in
set_option maxHeartbeats 4000000 in
theorem fX12_wasWarped_J106_E (l : Launch) {S : pm_S} {p : Int32 × pm_H} {v0 : Nat} {v1 : Int32} {v2 : Int32} {v3 : Int32} {v4 : Int32} {v5 : Int32} {v6 : Int32} {v7 : Int32} {v8 : Int32} {t0 : Int32} {ag : Int32 → Int32 → pm_H → Option (Int32 × pm_H)} {σ : pm_H} (h0 : pm_is S v0 15) (hag : ∀ w7 w8 sw, ag w7 w8 sw = some p → pm_E l yX12_wasWarped cX12_wasWarped 10 (some .int) false 1 S (pm_ri S p) 60 [(0, .ref v0), (1, .int v1), (2, .int v2), (3, .int v3), (4, .int v4), (5, .int v5), (6, .int v6), (7, .int w7), (8, .int w8)] [] S sw) (hf : fX12_wasWarped_J106 S v0 v1 v2 v3 v4 v5 v6 v7 v8 t0 ag σ = some p) : pm_E l yX12_wasWarped cX12_wasWarped 10 (some .int) false 1 S (pm_ri S p) 106 [(0, .ref v0), (1, .int v1), (2, .int v2), (3, .int v3), (4, .int v4), (5, .int v5), (6, .int v6), (7, .int v7), (8, .int v8)] [.int t0] S σ := by
  rw [fX12_wasWarped_J106] at hf
  refine pm_istore (pc := 106) [(9, .int t0), (0, .ref v0), (1, .int v1), (2, .int v2), (3, .int v3), (4, .int v4), (5, .int v5), (6, .int v6), (7, .int v7), (8, .int v8)] dX12_wasWarped_106 (by decide) rfl ?_
  refine pm_iload (pc := 108) 8 dX12_wasWarped_108 rfl ?_
  refine pm_if_eq (pc := 110) 136 dX12_wasWarped_110 (by decide) (fun hc15 => ?_) (fun hc15 => ?_)
  · rw [if_pos hc15] at hf
    refine pm_iconst (pc := 136) (0 : Int32) (by decide) dX12_wasWarped_136 ?_
    refine pm_istore (pc := 137) [(7, .int (0 : Int32)), (9, .int t0), (0, .ref v0), (1, .int v1), (2, .int v2), (3, .int v3), (4, .int v4), (5, .int v5), (6, .int v6), (8, .int v8)] dX12_wasWarped_137 (by decide) rfl ?_
    refine pm_iinc (pc := 139) 9 (v8 + (1 : Int32)) [(8, .int (v8 + (1 : Int32))), (7, .int (0 : Int32)), (9, .int t0), (0, .ref v0), (1, .int v1), (2, .int v2), (3, .int v3), (4, .int v4), (5, .int v5), (6, .int v6)] dX12_wasWarped_139 rfl rfl (by decide) rfl ?_
    refine pm_goto (pc := 142) 60 dX12_wasWarped_142 (by decide) ?_
    refine pm_lv [(0, .ref v0), (1, .int v1), (2, .int v2), (3, .int v3), (4, .int v4), (5, .int v5), (6, .int v6), (7, .int (0 : Int32)), (8, .int (v8 + (1 : Int32)))] [3, 4, 5, 6, 7, 8, 9, 1, 0] rfl ?_
    exact hag (0 : Int32) (v8 + (1 : Int32)) σ hf
  · rw [if_neg hc15] at hf
    refine pm_aload_n (pc := 113) 1 dX12_wasWarped_113 rfl rfl h0.pos ?_
    refine pm_getT (pc := 114) (k := 11) pm_cl12 flX12_25 (by decide) rfl h0 dX12_wasWarped_114 (fun hr11 => ?_)
    refine pm_bipush (pc := 117) (46 : Int32) (by decide) dX12_wasWarped_117 ?_
    refine pm_iload (pc := 119) 9 dX12_wasWarped_119 rfl ?_
    refine pm_iadd (pc := 121) dX12_wasWarped_121 ?_
    obtain ⟨hb12, hf⟩ := pm_gd hf
    refine pm_iald (pc := 122) hr11 (pm_ib_in hb12) dX12_wasWarped_122 ?_
    refine pm_iload_n (pc := 123) 2 dX12_wasWarped_123 rfl rfl ?_
    refine pm_icmp_ne (pc := 124) 132 dX12_wasWarped_124 (by decide) (fun hc14 => ?_) (fun hc14 => ?_)
    · rw [if_pos hc14] at hf
      refine pm_iload (pc := 127) 0 dX12_wasWarped_127 rfl ?_
      refine pm_if_eq (pc := 129) 136 dX12_wasWarped_129 (by decide) (fun hc13 => ?_) (fun hc13 => ?_)
      · rw [if_pos hc13] at hf
        refine pm_iconst (pc := 136) (0 : Int32) (by decide) dX12_wasWarped_136 ?_
        refine pm_istore (pc := 137) [(7, .int (0 : Int32)), (9, .int t0), (0, .ref v0), (1, .int v1), (2, .int v2), (3, .int v3), (4, .int v4), (5, .int v5), (6, .int v6), (8, .int v8)] dX12_wasWarped_137 (by decide) rfl ?_
        refine pm_iinc (pc := 139) 9 (v8 + (1 : Int32)) [(8, .int (v8 + (1 : Int32))), (7, .int (0 : Int32)), (9, .int t0), (0, .ref v0), (1, .int v1), (2, .int v2), (3, .int v3), (4, .int v4), (5, .int v5), (6, .int v6)] dX12_wasWarped_139 rfl rfl (by decide) rfl ?_
        refine pm_goto (pc := 142) 60 dX12_wasWarped_142 (by decide) ?_
        refine pm_lv [(0, .ref v0), (1, .int v1), (2, .int v2), (3, .int v3), (4, .int v4), (5, .int v5), (6, .int v6), (7, .int (0 : Int32)), (8, .int (v8 + (1 : Int32)))] [3, 4, 5, 6, 7, 8, 9, 1, 0] rfl ?_
        exact hag (0 : Int32) (v8 + (1 : Int32)) σ hf
      · rw [if_neg hc13] at hf
        refine pm_iconst (pc := 132) (1 : Int32) (by decide) dX12_wasWarped_132 ?_
        refine pm_goto (pc := 133) 137 dX12_wasWarped_133 (by decide) ?_
        refine pm_istore (pc := 137) [(7, .int (1 : Int32)), (9, .int t0), (0, .ref v0), (1, .int v1), (2, .int v2), (3, .int v3), (4, .int v4), (5, .int v5), (6, .int v6), (8, .int v8)] dX12_wasWarped_137 (by decide) rfl ?_
        refine pm_iinc (pc := 139) 9 (v8 + (1 : Int32)) [(8, .int (v8 + (1 : Int32))), (7, .int (1 : Int32)), (9, .int t0), (0, .ref v0), (1, .int v1), (2, .int v2), (3, .int v3), (4, .int v4), (5, .int v5), (6, .int v6)] dX12_wasWarped_139 rfl rfl (by decide) rfl ?_
        refine pm_goto (pc := 142) 60 dX12_wasWarped_142 (by decide) ?_
        refine pm_lv [(0, .ref v0), (1, .int v1), (2, .int v2), (3, .int v3), (4, .int v4), (5, .int v5), (6, .int v6), (7, .int (1 : Int32)), (8, .int (v8 + (1 : Int32)))] [3, 4, 5, 6, 7, 8, 9, 1, 0] rfl ?_
        exact hag (1 : Int32) (v8 + (1 : Int32)) σ hf
    · rw [if_neg hc14] at hf
      refine pm_iconst (pc := 132) (1 : Int32) (by decide) dX12_wasWarped_132 ?_
      refine pm_goto (pc := 133) 137 dX12_wasWarped_133 (by decide) ?_
      refine pm_istore (pc := 137) [(7, .int (1 : Int32)), (9, .int t0), (0, .ref v0), (1, .int v1), (2, .int v2), (3, .int v3), (4, .int v4), (5, .int v5), (6, .int v6), (8, .int v8)] dX12_wasWarped_137 (by decide) rfl ?_
      refine pm_iinc (pc := 139) 9 (v8 + (1 : Int32)) [(8, .int (v8 + (1 : Int32))), (7, .int (1 : Int32)), (9, .int t0), (0, .ref v0), (1, .int v1), (2, .int v2), (3, .int v3), (4, .int v4), (5, .int v5), (6, .int v6)] dX12_wasWarped_139 rfl rfl (by decide) rfl ?_
      refine pm_goto (pc := 142) 60 dX12_wasWarped_142 (by decide) ?_
      refine pm_lv [(0, .ref v0), (1, .int v1), (2, .int v2), (3, .int v3), (4, .int v4), (5, .int v5), (6, .int v6), (7, .int (1 : Int32)), (8, .int (v8 + (1 : Int32)))] [3, 4, 5, 6, 7, 8, 9, 1, 0] rfl ?_
      exact hag (1 : Int32) (v8 + (1 : Int32)) σ hf
def fX12_wasWarped_L60 (S : pm_S) (v0 : Nat) (v1 : Int32) (v2 : Int32) (v3 : Int32) (v4 : Int32) (v5 : Int32) (v6 : Int32) (kx : Int32 → pm_H → Option (Int32 × pm_H)) : Nat → Int32 → Int32 → pm_H → Option (Int32 × pm_H)
  | 0, _, _, _ => none
  | n + 1, v7, v8, σ => (if pm_ib (4 : Int32) (pm_len S (σ.2 v0 11)) = true then (if (σ.1 (σ.2 v0 11) ((4 : Int32)).toNatClampNeg) ≤ v8 then kx v7 σ else (if pm_ib ((26 : Int32) + v8) (pm_len S (σ.2 v0 11)) = true then Option.bind (fX12_madeBy S v2 (σ.1 (σ.2 v0 11) (((26 : Int32) + v8)).toNatClampNeg) σ) fun u8 => (if pm_ib ((6 : Int32) + v8) (pm_len S (u8.2.2 v0 11)) = true then (if (u8.1 + v6) = (u8.2.1 (u8.2.2 v0 11) (((6 : Int32) + v8)).toNatClampNeg) then fX12_wasWarped_J106 S v0 v1 v2 v3 v4 v5 v6 v7 v8 (1 : Int32) (fun w7 w8 sw => fX12_wasWarped_L60 S v0 v1 v2 v3 v4 v5 v6 kx n w7 w8 sw) u8.2 else fX12_wasWarped_J106 S v0 v1 v2 v3 v4 v5 v6 v7 v8 (0 : Int32) (fun w7 w8 sw => fX12_wasWarped_L60 S v0 v1 v2 v3 v4 v5 v6 kx n w7 w8 sw) u8.2) else none) else none)) else none)
set_option maxRecDepth 100000 in
set_option maxHeartbeats 4000000 in
theorem fX12_wasWarped_L60_E (l : Launch) {S : pm_S} {p : Int32 × pm_H} {v0 : Nat} {v1 : Int32} {v2 : Int32} {v3 : Int32} {v4 : Int32} {v5 : Int32} {v6 : Int32} {kx : Int32 → pm_H → Option (Int32 × pm_H)} (h0 : pm_is S v0 15) (hkx : ∀ w7 sw, kx w7 sw = some p → pm_E l yX12_wasWarped cX12_wasWarped 10 (some .int) false 1 S (pm_ri S p) 145 [(0, .ref v0), (1, .int v1), (2, .int v2), (3, .int v3), (4, .int v4), (5, .int v5), (6, .int v6), (7, .int w7)] [] S sw) : ∀ (n : Nat) (v7 : Int32) (v8 : Int32) (σ : pm_H), fX12_wasWarped_L60 S v0 v1 v2 v3 v4 v5 v6 kx n v7 v8 σ = some p → pm_E l yX12_wasWarped cX12_wasWarped 10 (some .int) false 1 S (pm_ri S p) 60 [(0, .ref v0), (1, .int v1), (2, .int v2), (3, .int v3), (4, .int v4), (5, .int v5), (6, .int v6), (7, .int v7), (8, .int v8)] [] S σ := by
  intro n
  induction n with
  | zero => intro v7 v8 σ hf; cases hf
  | succ n ih =>
    intro v7 v8 σ hf
    rw [fX12_wasWarped_L60] at hf
    refine pm_iload (pc := 60) 8 dX12_wasWarped_60 rfl ?_
    refine pm_aload_n (pc := 62) 0 dX12_wasWarped_62 rfl rfl h0.pos ?_
    refine pm_getT (pc := 63) (k := 11) pm_cl12 flX12_25 (by decide) rfl h0 dX12_wasWarped_63 (fun hr4 => ?_)
    refine pm_iconst (pc := 66) (4 : Int32) (by decide) dX12_wasWarped_66 ?_
    obtain ⟨hb5, hf⟩ := pm_gd hf
    refine pm_iald (pc := 67) hr4 (pm_ib_in hb5) dX12_wasWarped_67 ?_
    refine pm_icmp_ge (pc := 68) 145 dX12_wasWarped_68 (by decide) (fun hc17 => ?_) (fun hc17 => ?_)
    · rw [if_pos hc17] at hf
      refine pm_lv [(0, .ref v0), (1, .int v1), (2, .int v2), (3, .int v3), (4, .int v4), (5, .int v5), (6, .int v6), (7, .int v7)] [0, 1, 2, 3, 4, 5, 6, 7] rfl ?_
      exact hkx v7 σ hf
    · rw [if_neg hc17] at hf
      refine pm_iload_n (pc := 71) 2 dX12_wasWarped_71 rfl rfl ?_
      refine pm_aload_n (pc := 72) 0 dX12_wasWarped_72 rfl rfl h0.pos ?_
      refine pm_getT (pc := 73) (k := 11) pm_cl12 flX12_25 (by decide) rfl h0 dX12_wasWarped_73 (fun hr6 => ?_)
      refine pm_bipush (pc := 76) (26 : Int32) (by decide) dX12_wasWarped_76 ?_
      refine pm_iload (pc := 78) 8 dX12_wasWarped_78 rfl ?_
      refine pm_iadd (pc := 80) dX12_wasWarped_80 ?_
      obtain ⟨hb7, hf⟩ := pm_gd hf
      refine pm_iald (pc := 81) hr6 (pm_ib_in hb7) dX12_wasWarped_81 ?_
      obtain ⟨u8, hu8, hf⟩ := pm_bind_e hf
      refine pm_cSi (pc := 82) (as := [.int v2, .int (σ.1 (σ.2 v0 11) (((26 : Int32) + v8)).toNatClampNeg)]) (st := []) msX12_240 (KX12_madeBy l  hu8) (by decide) rfl rfl (Nat.le_of_ble_eq_true rfl) rfl dX12_wasWarped_82 ?_
      refine pm_iload (pc := 85) 6 dX12_wasWarped_85 rfl ?_
      refine pm_iadd (pc := 87) dX12_wasWarped_87 ?_
      refine pm_aload_n (pc := 88) 0 dX12_wasWarped_88 rfl rfl h0.pos ?_
      refine pm_getT (pc := 89) (k := 11) pm_cl12 flX12_25 (by decide) rfl h0 dX12_wasWarped_89 (fun hr9 => ?_)
      refine pm_bipush (pc := 92) (6 : Int32) (by decide) dX12_wasWarped_92 ?_
      refine pm_iload (pc := 94) 8 dX12_wasWarped_94 rfl ?_
      refine pm_iadd (pc := 96) dX12_wasWarped_96 ?_
      obtain ⟨hb10, hf⟩ := pm_gd hf
      refine pm_iald (pc := 97) hr9 (pm_ib_in hb10) dX12_wasWarped_97 ?_
      refine pm_icmp_ne (pc := 98) 105 dX12_wasWarped_98 (by decide) (fun hc16 => ?_) (fun hc16 => ?_)
      · rw [if_pos hc16] at hf
        refine pm_iconst (pc := 101) (1 : Int32) (by decide) dX12_wasWarped_101 ?_
        refine pm_goto (pc := 102) 106 dX12_wasWarped_102 (by decide) ?_
        refine pm_lv [(0, .ref v0), (1, .int v1), (2, .int v2), (3, .int v3), (4, .int v4), (5, .int v5), (6, .int v6), (7, .int v7), (8, .int v8)] [0, 1, 2, 3, 4, 5, 6, 7, 8] rfl ?_
        exact fX12_wasWarped_J106_E l h0 ih hf
      · rw [if_neg hc16] at hf
        refine pm_iconst (pc := 105) (0 : Int32) (by decide) dX12_wasWarped_105 ?_
        refine pm_lv [(0, .ref v0), (1, .int v1), (2, .int v2), (3, .int v3), (4, .int v4), (5, .int v5), (6, .int v6), (7, .int v7), (8, .int v8)] [0, 1, 2, 3, 4, 5, 6, 7, 8] rfl ?_
        exact fX12_wasWarped_J106_E l h0 ih hf
def fX12_wasWarped_J166 (S : pm_S) (v0 : Nat) (v1 : Int32) (v2 : Int32) (v3 : Int32) (v4 : Int32) (v6 : Int32) (v7 : Int32) (t0 : Int32) (ag : Int32 → Int32 → Int32 → pm_H → Option (Int32 × pm_H)) (σ : pm_H) : Option (Int32 × pm_H) :=
  (if v7 = 0 then pm_let (v4 + (0 : Int32)) fun x20 => ag x20 t0 (v6 + (1 : Int32)) σ else pm_let (v4 + (1 : Int32)) fun x21 => ag x21 t0 (v6 + (1 : Int32)) σ)
set_option maxRecDepth 100000 in
set_option maxHeartbeats 4000000 in
theorem fX12_wasWarped_J166_E (l : Launch) {S : pm_S} {p : Int32 × pm_H} {v0 : Nat} {v1 : Int32} {v2 : Int32} {v3 : Int32} {v4 : Int32} {v6 : Int32} {v7 : Int32} {t0 : Int32} {ag : Int32 → Int32 → Int32 → pm_H → Option (Int32 × pm_H)} {σ : pm_H} (h0 : pm_is S v0 15) (hag : ∀ w4 w5 w6 sw, ag w4 w5 w6 sw = some p → pm_E l yX12_wasWarped cX12_wasWarped 10 (some .int) false 1 S (pm_ri S p) 47 [(0, .ref v0), (1, .int v1), (2, .int v2), (3, .int v3), (4, .int w4), (5, .int w5), (6, .int w6)] [] S sw) (hf : fX12_wasWarped_J166 S v0 v1 v2 v3 v4 v6 v7 t0 ag σ = some p) : pm_E l yX12_wasWarped cX12_wasWarped 10 (some .int) false 1 S (pm_ri S p) 166 [(0, .ref v0), (1, .int v1), (2, .int v2), (3, .int v3), (4, .int v4), (6, .int v6), (7, .int v7)] [.int t0] S σ := by
  rw [fX12_wasWarped_J166] at hf
  refine pm_istore (pc := 166) [(5, .int t0), (0, .ref v0), (1, .int v1), (2, .int v2), (3, .int v3), (4, .int v4), (6, .int v6), (7, .int v7)] dX12_wasWarped_166 (by decide) rfl ?_
  refine pm_iload (pc := 168) 5 dX12_wasWarped_168 rfl ?_
  refine pm_iload (pc := 170) 7 dX12_wasWarped_170 rfl ?_
  refine pm_if_eq (pc := 172) 179 dX12_wasWarped_172 (by decide) (fun hc22 => ?_) (fun hc22 => ?_)
  · rw [if_pos hc22] at hf
    refine pm_iconst (pc := 179) (0 : Int32) (by decide) dX12_wasWarped_179 ?_
    refine pm_iadd (pc := 180) dX12_wasWarped_180 ?_
    obtain ⟨x20, ex20, hf⟩ := pm_let_e hf
    refine pm_nmi ex20 ?_
    refine pm_istore (pc := 181) [(4, .int x20), (5, .int t0), (0, .ref v0), (1, .int v1), (2, .int v2), (3, .int v3), (6, .int v6), (7, .int v7)] dX12_wasWarped_181 (by decide) rfl ?_
    refine pm_iinc (pc := 183) 6 (v6 + (1 : Int32)) [(6, .int (v6 + (1 : Int32))), (4, .int x20), (5, .int t0), (0, .ref v0), (1, .int v1), (2, .int v2), (3, .int v3), (7, .int v7)] dX12_wasWarped_183 rfl rfl (by decide) rfl ?_
    refine pm_goto (pc := 186) 47 dX12_wasWarped_186 (by decide) ?_
    refine pm_lv [(0, .ref v0), (1, .int v1), (2, .int v2), (3, .int v3), (4, .int x20), (5, .int t0), (6, .int (v6 + (1 : Int32)))] [3, 4, 5, 6, 1, 2, 0] rfl ?_
    exact hag x20 t0 (v6 + (1 : Int32)) σ hf
  · rw [if_neg hc22] at hf
    refine pm_iconst (pc := 175) (1 : Int32) (by decide) dX12_wasWarped_175 ?_
    refine pm_goto (pc := 176) 180 dX12_wasWarped_176 (by decide) ?_
    refine pm_iadd (pc := 180) dX12_wasWarped_180 ?_
    obtain ⟨x21, ex21, hf⟩ := pm_let_e hf
    refine pm_nmi ex21 ?_
    refine pm_istore (pc := 181) [(4, .int x21), (5, .int t0), (0, .ref v0), (1, .int v1), (2, .int v2), (3, .int v3), (6, .int v6), (7, .int v7)] dX12_wasWarped_181 (by decide) rfl ?_
    refine pm_iinc (pc := 183) 6 (v6 + (1 : Int32)) [(6, .int (v6 + (1 : Int32))), (4, .int x21), (5, .int t0), (0, .ref v0), (1, .int v1), (2, .int v2), (3, .int v3), (7, .int v7)] dX12_wasWarped_183 rfl rfl (by decide) rfl ?_
    refine pm_goto (pc := 186) 47 dX12_wasWarped_186 (by decide) ?_
    refine pm_lv [(0, .ref v0), (1, .int v1), (2, .int v2), (3, .int v3), (4, .int x21), (5, .int t0), (6, .int (v6 + (1 : Int32)))] [3, 4, 5, 6, 1, 2, 0] rfl ?_
    exact hag x21 t0 (v6 + (1 : Int32)) σ hf
def fX12_wasWarped_J164 (S : pm_S) (v0 : Nat) (v1 : Int32) (v2 : Int32) (v3 : Int32) (v4 : Int32) (v5 : Int32) (v6 : Int32) (v7 : Int32) (ag : Int32 → Int32 → Int32 → pm_H → Option (Int32 × pm_H)) (σ : pm_H) : Option (Int32 × pm_H) :=
  fX12_wasWarped_J166 S v0 v1 v2 v3 v4 v6 v7 v5 ag σ
set_option maxRecDepth 100000 in
set_option maxHeartbeats 4000000 in
theorem fX12_wasWarped_J164_E (l : Launch) {S : pm_S} {p : Int32 × pm_H} {v0 : Nat} {v1 : Int32} {v2 : Int32} {v3 : Int32} {v4 : Int32} {v5 : Int32} {v6 : Int32} {v7 : Int32} {ag : Int32 → Int32 → Int32 → pm_H → Option (Int32 × pm_H)} {σ : pm_H} (h0 : pm_is S v0 15) (hag : ∀ w4 w5 w6 sw, ag w4 w5 w6 sw = some p → pm_E l yX12_wasWarped cX12_wasWarped 10 (some .int) false 1 S (pm_ri S p) 47 [(0, .ref v0), (1, .int v1), (2, .int v2), (3, .int v3), (4, .int w4), (5, .int w5), (6, .int w6)] [] S sw) (hf : fX12_wasWarped_J164 S v0 v1 v2 v3 v4 v5 v6 v7 ag σ = some p) : pm_E l yX12_wasWarped cX12_wasWarped 10 (some .int) false 1 S (pm_ri S p) 164 [(0, .ref v0), (1, .int v1), (2, .int v2), (3, .int v3), (4, .int v4), (5, .int v5), (6, .int v6), (7, .int v7)] [] S σ := by
  rw [fX12_wasWarped_J164] at hf
  refine pm_iload (pc := 164) 5 dX12_wasWarped_164 rfl ?_
  refine pm_lv [(0, .ref v0), (1, .int v1), (2, .int v2), (3, .int v3), (4, .int v4), (6, .int v6), (7, .int v7)] [0, 1, 2, 3, 4, 6, 7] rfl ?_
  exact fX12_wasWarped_J166_E l h0 hag hf
def fX12_wasWarped_L47 (S : pm_S) (v0 : Nat) (v1 : Int32) (v2 : Int32) (v3 : Int32) (kx : Int32 → Int32 → pm_H → Option (Int32 × pm_H)) : Nat → Int32 → Int32 → Int32 → pm_H → Option (Int32 × pm_H)
  | 0, _, _, _, _ => none
  | n + 1, v4, v5, v6, σ => (if (99 : Int32) < v6 then kx v4 v5 σ else fX12_wasWarped_L60 S v0 v1 v2 v3 v4 v5 v6 (fun w18 s19 => (if w18 = 0 then fX12_wasWarped_J164 S v0 v1 v2 v3 v4 v5 v6 w18 (fun w4 w5 w6 sw => fX12_wasWarped_L47 S v0 v1 v2 v3 kx n w4 w5 w6 sw) s19 else (if v4 = 0 then fX12_wasWarped_J166 S v0 v1 v2 v3 v4 v6 w18 (v6 + (1000 : Int32)) (fun w4 w5 w6 sw => fX12_wasWarped_L47 S v0 v1 v2 v3 kx n w4 w5 w6 sw) s19 else fX12_wasWarped_J164 S v0 v1 v2 v3 v4 v5 v6 w18 (fun w4 w5 w6 sw => fX12_wasWarped_L47 S v0 v1 v2 v3 kx n w4 w5 w6 sw) s19))) pm_fuel (1 : Int32) (0 : Int32) σ)
set_option maxRecDepth 100000 in
set_option maxHeartbeats 4000000 in
theorem fX12_wasWarped_L47_E (l : Launch) {S : pm_S} {p : Int32 × pm_H} {v0 : Nat} {v1 : Int32} {v2 : Int32} {v3 : Int32} {kx : Int32 → Int32 → pm_H → Option (Int32 × pm_H)} (h0 : pm_is S v0 15) (hkx : ∀ w4 w5 sw, kx w4 w5 sw = some p → pm_E l yX12_wasWarped cX12_wasWarped 10 (some .int) false 1 S (pm_ri S p) 189 [(3, .int v3), (4, .int w4), (5, .int w5)] [] S sw) : ∀ (n : Nat) (v4 : Int32) (v5 : Int32) (v6 : Int32) (σ : pm_H), fX12_wasWarped_L47 S v0 v1 v2 v3 kx n v4 v5 v6 σ = some p → pm_E l yX12_wasWarped cX12_wasWarped 10 (some .int) false 1 S (pm_ri S p) 47 [(0, .ref v0), (1, .int v1), (2, .int v2), (3, .int v3), (4, .int v4), (5, .int v5), (6, .int v6)] [] S σ := by
  intro n
  induction n with
  | zero => intro v4 v5 v6 σ hf; cases hf
  | succ n ih =>
    intro v4 v5 v6 σ hf
    rw [fX12_wasWarped_L47] at hf
    refine pm_iload (pc := 47) 6 dX12_wasWarped_47 rfl ?_
    refine pm_bipush (pc := 49) (99 : Int32) (by decide) dX12_wasWarped_49 ?_
    refine pm_icmp_gt (pc := 51) 189 dX12_wasWarped_51 (by decide) (fun hc25 => ?_) (fun hc25 => ?_)
    · rw [if_pos hc25] at hf
      refine pm_lv [(3, .int v3), (4, .int v4), (5, .int v5)] [3, 4, 5] rfl ?_
      exact hkx v4 v5 σ hf
    · rw [if_neg hc25] at hf
      refine pm_iconst (pc := 54) (1 : Int32) (by decide) dX12_wasWarped_54 ?_
      refine pm_istore (pc := 55) [(7, .int (1 : Int32)), (0, .ref v0), (1, .int v1), (2, .int v2), (3, .int v3), (4, .int v4), (5, .int v5), (6, .int v6)] dX12_wasWarped_55 (by decide) rfl ?_
      refine pm_iconst (pc := 57) (0 : Int32) (by decide) dX12_wasWarped_57 ?_
      refine pm_istore (pc := 58) [(8, .int (0 : Int32)), (7, .int (1 : Int32)), (0, .ref v0), (1, .int v1), (2, .int v2), (3, .int v3), (4, .int v4), (5, .int v5), (6, .int v6)] dX12_wasWarped_58 (by decide) rfl ?_
      refine pm_lv [(0, .ref v0), (1, .int v1), (2, .int v2), (3, .int v3), (4, .int v4), (5, .int v5), (6, .int v6), (7, .int (1 : Int32)), (8, .int (0 : Int32))] [2, 3, 4, 5, 6, 7, 8, 1, 0] rfl ?_
      refine fX12_wasWarped_L60_E l h0 (fun w18 s19 hf => ?_) pm_fuel (1 : Int32) (0 : Int32) σ hf
      refine pm_iload (pc := 145) 7 dX12_wasWarped_145 rfl ?_
      refine pm_if_eq (pc := 147) 164 dX12_wasWarped_147 (by decide) (fun hc24 => ?_) (fun hc24 => ?_)
      · rw [if_pos hc24] at hf
        refine pm_lv [(0, .ref v0), (1, .int v1), (2, .int v2), (3, .int v3), (4, .int v4), (5, .int v5), (6, .int v6), (7, .int w18)] [0, 1, 2, 3, 4, 5, 6, 7] rfl ?_
        exact fX12_wasWarped_J164_E l h0 ih hf
      · rw [if_neg hc24] at hf
        refine pm_iload (pc := 150) 4 dX12_wasWarped_150 rfl ?_
        refine pm_if_ne (pc := 152) 164 dX12_wasWarped_152 (by decide) (fun hc23 => ?_) (fun hc23 => ?_)
        · rw [if_pos hc23] at hf
          refine pm_iload (pc := 155) 6 dX12_wasWarped_155 rfl ?_
          refine pm_sipush (pc := 157) (1000 : Int32) (by decide) dX12_wasWarped_157 ?_
          refine pm_iadd (pc := 160) dX12_wasWarped_160 ?_
          refine pm_goto (pc := 161) 166 dX12_wasWarped_161 (by decide) ?_
          refine pm_lv [(0, .ref v0), (1, .int v1), (2, .int v2), (3, .int v3), (4, .int v4), (6, .int v6), (7, .int w18)] [0, 1, 2, 3, 4, 6, 7] rfl ?_
          exact fX12_wasWarped_J166_E l h0 ih hf
        · rw [if_neg hc23] at hf
          refine pm_lv [(0, .ref v0), (1, .int v1), (2, .int v2), (3, .int v3), (4, .int v4), (5, .int v5), (6, .int v6), (7, .int w18)] [0, 1, 2, 3, 4, 5, 6, 7] rfl ?_
          exact fX12_wasWarped_J164_E l h0 ih hf
def fX12_wasWarped (S : pm_S) (a0 : Nat) (a1 : Int32) (a2 : Int32) (a3 : Int32) (σ : pm_H) : Option (Int32 × pm_H) :=
  Option.bind (fX12_in S a1.toInt64 (0 : Int64) (9999 : Int64) σ) fun u1 => (if u1.1 = 0 then some ((-1000000002 : Int32), u1.2) else Option.bind (fX12_in S a2.toInt64 (1 : Int64) (240 : Int64) u1.2) fun u2 => (if u2.1 = 0 then some ((-1000000002 : Int32), u2.2) else Option.bind (fX12_in S a3.toInt64 (0 : Int64) (1 : Int64) u2.2) fun u3 => (if u3.1 = 0 then some ((-1000000002 : Int32), u3.2) else fX12_wasWarped_L47 S a0 a1 a2 a3 (fun w26 w27 s28 => (if a3 = 0 then some (w26, s28) else some (w27, s28))) pm_fuel (0 : Int32) (-1 : Int32) (-99 : Int32) u3.2)))
set_option maxRecDepth 100000 in
set_option maxHeartbeats 4000000 in
theorem KX12_wasWarped (l : Launch) {S : pm_S} {p : Int32 × pm_H} {a0 : Nat} {a1 : Int32} {a2 : Int32} {a3 : Int32} {σ : pm_H} (h0 : pm_is S a0 15) (hf : fX12_wasWarped S a0 a1 a2 a3 σ = some p) : pm_M l yX12_wasWarped cX12_wasWarped 10 (some .int) false 1 [.ref a0, .int a1, .int a2, .int a3] S σ (pm_ri S p) := by
  refine pm_M.of (by decide +kernel) (Nat.le_of_ble_eq_true rfl) ?_
  show pm_E l yX12_wasWarped cX12_wasWarped 10 (some .int) false 1 S (pm_ri S p) 0 [(0, .ref a0), (1, .int a1), (2, .int a2), (3, .int a3)] [] S σ
  rw [fX12_wasWarped] at hf
  refine pm_iload_n (pc := 0) 1 dX12_wasWarped_0 rfl rfl ?_
  refine pm_i2l (pc := 1) dX12_wasWarped_1 ?_
  refine pm_lconst (pc := 2) (0 : Int64) (by decide) dX12_wasWarped_2 ?_
  refine pm_ldc2 (pc := 3) klX12_309 dX12_wasWarped_3 ?_
  obtain ⟨u1, hu1, hf⟩ := pm_bind_e hf
  refine pm_cSi (pc := 6) (as := [.long a1.toInt64, .long (0 : Int64), .long (9999 : Int64)]) (st := []) msX12_87 (KX12_in l  hu1) (by decide) rfl rfl (Nat.le_of_ble_eq_true rfl) rfl dX12_wasWarped_6 ?_
  refine pm_if_eq (pc := 9) 34 dX12_wasWarped_9 (by decide) (fun hc32 => ?_) (fun hc32 => ?_)
  · rw [if_pos hc32] at hf
    refine pm_ldc (pc := 34) kcX12_96 dX12_wasWarped_34 ?_
    exact pm_iret rfl dX12_wasWarped_36 (pm_ri_e hf)
  · rw [if_neg hc32] at hf
    refine pm_iload_n (pc := 12) 2 dX12_wasWarped_12 rfl rfl ?_
    refine pm_i2l (pc := 13) dX12_wasWarped_13 ?_
    refine pm_lconst (pc := 14) (1 : Int64) (by decide) dX12_wasWarped_14 ?_
    refine pm_ldc2 (pc := 15) klX12_289 dX12_wasWarped_15 ?_
    obtain ⟨u2, hu2, hf⟩ := pm_bind_e hf
    refine pm_cSi (pc := 18) (as := [.long a2.toInt64, .long (1 : Int64), .long (240 : Int64)]) (st := []) msX12_87 (KX12_in l  hu2) (by decide) rfl rfl (Nat.le_of_ble_eq_true rfl) rfl dX12_wasWarped_18 ?_
    refine pm_if_eq (pc := 21) 34 dX12_wasWarped_21 (by decide) (fun hc31 => ?_) (fun hc31 => ?_)
    · rw [if_pos hc31] at hf
      refine pm_ldc (pc := 34) kcX12_96 dX12_wasWarped_34 ?_
      exact pm_iret rfl dX12_wasWarped_36 (pm_ri_e hf)
    · rw [if_neg hc31] at hf
      refine pm_iload_n (pc := 24) 3 dX12_wasWarped_24 rfl rfl ?_
      refine pm_i2l (pc := 25) dX12_wasWarped_25 ?_
      refine pm_lconst (pc := 26) (0 : Int64) (by decide) dX12_wasWarped_26 ?_
      refine pm_lconst (pc := 27) (1 : Int64) (by decide) dX12_wasWarped_27 ?_
      obtain ⟨u3, hu3, hf⟩ := pm_bind_e hf
      refine pm_cSi (pc := 28) (as := [.long a3.toInt64, .long (0 : Int64), .long (1 : Int64)]) (st := []) msX12_87 (KX12_in l  hu3) (by decide) rfl rfl (Nat.le_of_ble_eq_true rfl) rfl dX12_wasWarped_28 ?_
      refine pm_if_ne (pc := 31) 37 dX12_wasWarped_31 (by decide) (fun hc30 => ?_) (fun hc30 => ?_)
      · rw [if_pos hc30] at hf
        refine pm_ldc (pc := 34) kcX12_96 dX12_wasWarped_34 ?_
        exact pm_iret rfl dX12_wasWarped_36 (pm_ri_e hf)
      · rw [if_neg hc30] at hf
        refine pm_iconst (pc := 37) (0 : Int32) (by decide) dX12_wasWarped_37 ?_
        refine pm_istore (pc := 38) [(4, .int (0 : Int32)), (0, .ref a0), (1, .int a1), (2, .int a2), (3, .int a3)] dX12_wasWarped_38 (by decide) rfl ?_
        refine pm_iconst (pc := 40) (-1 : Int32) (by decide) dX12_wasWarped_40 ?_
        refine pm_istore (pc := 41) [(5, .int (-1 : Int32)), (4, .int (0 : Int32)), (0, .ref a0), (1, .int a1), (2, .int a2), (3, .int a3)] dX12_wasWarped_41 (by decide) rfl ?_
        refine pm_bipush (pc := 43) (-99 : Int32) (by decide) dX12_wasWarped_43 ?_
        refine pm_istore (pc := 45) [(6, .int (-99 : Int32)), (5, .int (-1 : Int32)), (4, .int (0 : Int32)), (0, .ref a0), (1, .int a1), (2, .int a2), (3, .int a3)] dX12_wasWarped_45 (by decide) rfl ?_
        refine pm_lv [(0, .ref a0), (1, .int a1), (2, .int a2), (3, .int a3), (4, .int (0 : Int32)), (5, .int (-1 : Int32)), (6, .int (-99 : Int32))] [3, 4, 5, 6, 2, 1, 0] rfl ?_
        refine fX12_wasWarped_L47_E l h0 (fun w26 w27 s28 hf => ?_) pm_fuel (0 : Int32) (-1 : Int32) (-99 : Int32) u3.2 hf
        refine pm_iload_n (pc := 189) 0 dX12_wasWarped_189 rfl rfl ?_
        refine pm_if_ne (pc := 190) 198 dX12_wasWarped_190 (by decide) (fun hc29 => ?_) (fun hc29 => ?_)
        · rw [if_pos hc29] at hf
          refine pm_iload (pc := 193) 1 dX12_wasWarped_193 rfl ?_
          refine pm_goto (pc := 195) 200 dX12_wasWarped_195 (by decide) ?_
          exact pm_iret rfl dX12_wasWarped_200 (pm_ri_e hf)
        · rw [if_neg hc29] at hf
          refine pm_iload (pc := 198) 2 dX12_wasWarped_198 rfl ?_
          exact pm_iret rfl dX12_wasWarped_200 (pm_ri_e hf)
def fX12_alike_L19 (S : pm_S) (v0 : Nat) (v1 : Int32) (v3 : Int32) (kx : Int32 → pm_H → Option (Int32 × pm_H)) : Nat → Int32 → Int32 → pm_H → Option (Int32 × pm_H)
  | 0, _, _, _ => none
  | n + 1, v2, v4, σ => (if pm_ib (4 : Int32) (pm_len S (σ.2 v0 11)) = true then (if (σ.1 (σ.2 v0 11) ((4 : Int32)).toNatClampNeg) ≤ v4 then kx v2 σ else (if pm_ib ((6 : Int32) + v3) (pm_len S (σ.2 v0 11)) = true then (if pm_ib ((6 : Int32) + v4) (pm_len S (σ.2 v0 11)) = true then (if (σ.1 (σ.2 v0 11) (((6 : Int32) + v3)).toNatClampNeg) = (σ.1 (σ.2 v0 11) (((6 : Int32) + v4)).toNatClampNeg) then (if v2 = v1 then some ((((100 : Int32) * v3) + v4), σ) else fX12_alike_L19 S v0 v1 v3 kx n (v2 + (1 : Int32)) (v4 + (1 : Int32)) σ) else fX12_alike_L19 S v0 v1 v3 kx n v2 (v4 + (1 : Int32)) σ) else none) else none)) else none)
set_option maxRecDepth 100000 in
set_option maxHeartbeats 4000000 in
theorem fX12_alike_L19_E (l : Launch) {S : pm_S} {p : Int32 × pm_H} {v0 : Nat} {v1 : Int32} {v3 : Int32} {kx : Int32 → pm_H → Option (Int32 × pm_H)} (h0 : pm_is S v0 15) (hkx : ∀ w2 sw, kx w2 sw = some p → pm_E l yX12_alike cX12_alike 5 (some .int) false 0 S (pm_ri S p) 74 [(0, .ref v0), (1, .int v1), (2, .int w2), (3, .int v3)] [] S sw) : ∀ (n : Nat) (v2 : Int32) (v4 : Int32) (σ : pm_H), fX12_alike_L19 S v0 v1 v3 kx n v2 v4 σ = some p → pm_E l yX12_alike cX12_alike 5 (some .int) false 0 S (pm_ri S p) 19 [(0, .ref v0), (1, .int v1), (2, .int v2), (3, .int v3), (4, .int v4)] [] S σ := by
  intro n
  induction n with
  | zero => intro v2 v4 σ hf; cases hf
  | succ n ih =>
    intro v2 v4 σ hf
    rw [fX12_alike_L19] at hf
    refine pm_iload (pc := 19) 4 dX12_alike_19 rfl ?_
    refine pm_aload_n (pc := 21) 0 dX12_alike_21 rfl rfl h0.pos ?_
    refine pm_getT (pc := 22) (k := 11) pm_cl12 flX12_25 (by decide) rfl h0 dX12_alike_22 (fun hr4 => ?_)
    refine pm_iconst (pc := 25) (4 : Int32) (by decide) dX12_alike_25 ?_
    obtain ⟨hb5, hf⟩ := pm_gd hf
    refine pm_iald (pc := 26) hr4 (pm_ib_in hb5) dX12_alike_26 ?_
    refine pm_icmp_ge (pc := 27) 74 dX12_alike_27 (by decide) (fun hc12 => ?_) (fun hc12 => ?_)
    · rw [if_pos hc12] at hf
      refine pm_lv [(0, .ref v0), (1, .int v1), (2, .int v2), (3, .int v3)] [0, 1, 2, 3] rfl ?_
      exact hkx v2 σ hf
    · rw [if_neg hc12] at hf
      refine pm_aload_n (pc := 30) 0 dX12_alike_30 rfl rfl h0.pos ?_
      refine pm_getT (pc := 31) (k := 11) pm_cl12 flX12_25 (by decide) rfl h0 dX12_alike_31 (fun hr6 => ?_)
      refine pm_bipush (pc := 34) (6 : Int32) (by decide) dX12_alike_34 ?_
      refine pm_iload_n (pc := 36) 3 dX12_alike_36 rfl rfl ?_
      refine pm_iadd (pc := 37) dX12_alike_37 ?_
      obtain ⟨hb7, hf⟩ := pm_gd hf
      refine pm_iald (pc := 38) hr6 (pm_ib_in hb7) dX12_alike_38 ?_
      refine pm_aload_n (pc := 39) 0 dX12_alike_39 rfl rfl h0.pos ?_
      refine pm_getT (pc := 40) (k := 11) pm_cl12 flX12_25 (by decide) rfl h0 dX12_alike_40 (fun hr8 => ?_)
      refine pm_bipush (pc := 43) (6 : Int32) (by decide) dX12_alike_43 ?_
      refine pm_iload (pc := 45) 4 dX12_alike_45 rfl ?_
      refine pm_iadd (pc := 47) dX12_alike_47 ?_
      obtain ⟨hb9, hf⟩ := pm_gd hf
      refine pm_iald (pc := 48) hr8 (pm_ib_in hb9) dX12_alike_48 ?_
      refine pm_icmp_ne (pc := 49) 68 dX12_alike_49 (by decide) (fun hc11 => ?_) (fun hc11 => ?_)
      · rw [if_pos hc11] at hf
        refine pm_iload_n (pc := 52) 2 dX12_alike_52 rfl rfl ?_
        refine pm_iload_n (pc := 53) 1 dX12_alike_53 rfl rfl ?_
        refine pm_icmp_ne (pc := 54) 65 dX12_alike_54 (by decide) (fun hc10 => ?_) (fun hc10 => ?_)
        · rw [if_pos hc10] at hf
          refine pm_bipush (pc := 57) (100 : Int32) (by decide) dX12_alike_57 ?_
          refine pm_iload_n (pc := 59) 3 dX12_alike_59 rfl rfl ?_
          refine pm_imul (pc := 60) dX12_alike_60 ?_
          refine pm_iload (pc := 61) 4 dX12_alike_61 rfl ?_
          refine pm_iadd (pc := 63) dX12_alike_63 ?_
          exact pm_iret rfl dX12_alike_64 (pm_ri_e hf)
        · rw [if_neg hc10] at hf
          refine pm_iinc (pc := 65) 2 (v2 + (1 : Int32)) [(2, .int (v2 + (1 : Int32))), (0, .ref v0), (1, .int v1), (3, .int v3), (4, .int v4)] dX12_alike_65 rfl rfl (by decide) rfl ?_
          refine pm_iinc (pc := 68) 4 (v4 + (1 : Int32)) [(4, .int (v4 + (1 : Int32))), (2, .int (v2 + (1 : Int32))), (0, .ref v0), (1, .int v1), (3, .int v3)] dX12_alike_68 rfl rfl (by decide) rfl ?_
          refine pm_goto (pc := 71) 19 dX12_alike_71 (by decide) ?_
          refine pm_lv [(0, .ref v0), (1, .int v1), (2, .int (v2 + (1 : Int32))), (3, .int v3), (4, .int (v4 + (1 : Int32)))] [2, 3, 1, 4, 0] rfl ?_
          exact ih (v2 + (1 : Int32)) (v4 + (1 : Int32)) σ hf
      · rw [if_neg hc11] at hf
        refine pm_iinc (pc := 68) 4 (v4 + (1 : Int32)) [(4, .int (v4 + (1 : Int32))), (0, .ref v0), (1, .int v1), (2, .int v2), (3, .int v3)] dX12_alike_68 rfl rfl (by decide) rfl ?_
        refine pm_goto (pc := 71) 19 dX12_alike_71 (by decide) ?_
        refine pm_lv [(0, .ref v0), (1, .int v1), (2, .int v2), (3, .int v3), (4, .int (v4 + (1 : Int32)))] [1, 2, 3, 4, 0] rfl ?_
        exact ih v2 (v4 + (1 : Int32)) σ hf
def fX12_alike_L4 (S : pm_S) (v0 : Nat) (v1 : Int32) (kx : Int32 → pm_H → Option (Int32 × pm_H)) : Nat → Int32 → Int32 → pm_H → Option (Int32 × pm_H)
  | 0, _, _, _ => none
  | n + 1, v2, v3, σ => (if pm_ib (4 : Int32) (pm_len S (σ.2 v0 11)) = true then (if (σ.1 (σ.2 v0 11) ((4 : Int32)).toNatClampNeg) ≤ v3 then kx v2 σ else pm_let (v3 + (1 : Int32)) fun x3 => fX12_alike_L19 S v0 v1 v3 (fun w13 s14 => fX12_alike_L4 S v0 v1 kx n w13 (v3 + (1 : Int32)) s14) pm_fuel v2 x3 σ) else none)
set_option maxRecDepth 100000 in
set_option maxHeartbeats 4000000 in
theorem fX12_alike_L4_E (l : Launch) {S : pm_S} {p : Int32 × pm_H} {v0 : Nat} {v1 : Int32} {kx : Int32 → pm_H → Option (Int32 × pm_H)} (h0 : pm_is S v0 15) (hkx : ∀ w2 sw, kx w2 sw = some p → pm_E l yX12_alike cX12_alike 5 (some .int) false 0 S (pm_ri S p) 80 [(1, .int v1), (2, .int w2)] [] S sw) : ∀ (n : Nat) (v2 : Int32) (v3 : Int32) (σ : pm_H), fX12_alike_L4 S v0 v1 kx n v2 v3 σ = some p → pm_E l yX12_alike cX12_alike 5 (some .int) false 0 S (pm_ri S p) 4 [(0, .ref v0), (1, .int v1), (2, .int v2), (3, .int v3)] [] S σ := by
  intro n
  induction n with
  | zero => intro v2 v3 σ hf; cases hf
  | succ n ih =>
    intro v2 v3 σ hf
    rw [fX12_alike_L4] at hf
    refine pm_iload_n (pc := 4) 3 dX12_alike_4 rfl rfl ?_
    refine pm_aload_n (pc := 5) 0 dX12_alike_5 rfl rfl h0.pos ?_
    refine pm_getT (pc := 6) (k := 11) pm_cl12 flX12_25 (by decide) rfl h0 dX12_alike_6 (fun hr1 => ?_)
    refine pm_iconst (pc := 9) (4 : Int32) (by decide) dX12_alike_9 ?_
    obtain ⟨hb2, hf⟩ := pm_gd hf
    refine pm_iald (pc := 10) hr1 (pm_ib_in hb2) dX12_alike_10 ?_
    refine pm_icmp_ge (pc := 11) 80 dX12_alike_11 (by decide) (fun hc15 => ?_) (fun hc15 => ?_)
    · rw [if_pos hc15] at hf
      refine pm_lv [(1, .int v1), (2, .int v2)] [1, 2] rfl ?_
      exact hkx v2 σ hf
    · rw [if_neg hc15] at hf
      refine pm_iload_n (pc := 14) 3 dX12_alike_14 rfl rfl ?_
      refine pm_iconst (pc := 15) (1 : Int32) (by decide) dX12_alike_15 ?_
      refine pm_iadd (pc := 16) dX12_alike_16 ?_
      obtain ⟨x3, ex3, hf⟩ := pm_let_e hf
      refine pm_nmi ex3 ?_
      refine pm_istore (pc := 17) [(4, .int x3), (0, .ref v0), (1, .int v1), (2, .int v2), (3, .int v3)] dX12_alike_17 (by decide) rfl ?_
      refine pm_lv [(0, .ref v0), (1, .int v1), (2, .int v2), (3, .int v3), (4, .int x3)] [1, 2, 3, 4, 0] rfl ?_
      refine fX12_alike_L19_E l h0 (fun w13 s14 hf => ?_) pm_fuel v2 x3 σ hf
      refine pm_iinc (pc := 74) 3 (v3 + (1 : Int32)) [(3, .int (v3 + (1 : Int32))), (0, .ref v0), (1, .int v1), (2, .int w13)] dX12_alike_74 rfl rfl (by decide) rfl ?_
      refine pm_goto (pc := 77) 4 dX12_alike_77 (by decide) ?_
      refine pm_lv [(0, .ref v0), (1, .int v1), (2, .int w13), (3, .int (v3 + (1 : Int32)))] [1, 2, 3, 0] rfl ?_
      exact ih w13 (v3 + (1 : Int32)) s14 hf
def fX12_alike (S : pm_S) (a0 : Nat) (a1 : Int32) (σ : pm_H) : Option (Int32 × pm_H) :=
  fX12_alike_L4 S a0 a1 (fun w16 s17 => (if a1 = (-1 : Int32) then some (w16, s17) else some ((-1 : Int32), s17))) pm_fuel (0 : Int32) (0 : Int32) σ
set_option maxRecDepth 100000 in
set_option maxHeartbeats 4000000 in
theorem KX12_alike (l : Launch) {S : pm_S} {p : Int32 × pm_H} {a0 : Nat} {a1 : Int32} {σ : pm_H} (h0 : pm_is S a0 15) (hf : fX12_alike S a0 a1 σ = some p) : pm_M l yX12_alike cX12_alike 5 (some .int) false 0 [.ref a0, .int a1] S σ (pm_ri S p) := by
  refine pm_M.of (by decide +kernel) (Nat.le_of_ble_eq_true rfl) ?_
  show pm_E l yX12_alike cX12_alike 5 (some .int) false 0 S (pm_ri S p) 0 [(0, .ref a0), (1, .int a1)] [] S σ
  rw [fX12_alike] at hf
  refine pm_iconst (pc := 0) (0 : Int32) (by decide) dX12_alike_0 ?_
  refine pm_istore_n (pc := 1) [(2, .int (0 : Int32)), (0, .ref a0), (1, .int a1)] dX12_alike_1 rfl (by decide) rfl ?_
  refine pm_iconst (pc := 2) (0 : Int32) (by decide) dX12_alike_2 ?_
  refine pm_istore_n (pc := 3) [(3, .int (0 : Int32)), (2, .int (0 : Int32)), (0, .ref a0), (1, .int a1)] dX12_alike_3 rfl (by decide) rfl ?_
  refine pm_lv [(0, .ref a0), (1, .int a1), (2, .int (0 : Int32)), (3, .int (0 : Int32))] [2, 3, 1, 0] rfl ?_
  refine fX12_alike_L4_E l h0 (fun w16 s17 hf => ?_) pm_fuel (0 : Int32) (0 : Int32) σ hf
  refine pm_iload_n (pc := 80) 0 dX12_alike_80 rfl rfl ?_
  refine pm_iconst (pc := 81) (-1 : Int32) (by decide) dX12_alike_81 ?_
  refine pm_icmp_ne (pc := 82) 89 dX12_alike_82 (by decide) (fun hc18 => ?_) (fun hc18 => ?_)
  · rw [if_pos hc18] at hf
    refine pm_iload_n (pc := 85) 1 dX12_alike_85 rfl rfl ?_
    refine pm_goto (pc := 86) 90 dX12_alike_86 (by decide) ?_
    exact pm_iret rfl dX12_alike_90 (pm_ri_e hf)
  · rw [if_neg hc18] at hf
    refine pm_iconst (pc := 89) (-1 : Int32) (by decide) dX12_alike_89 ?_
    exact pm_iret rfl dX12_alike_90 (pm_ri_e hf)
def fX12_mean_L4 (S : pm_S) (v0 : Nat) (kx : Int32 → pm_H → Option (Int32 × pm_H)) : Nat → Int32 → Int32 → pm_H → Option (Int32 × pm_H)
  | 0, _, _, _ => none
  | n + 1, v1, v2, σ => (if pm_ib (5 : Int32) (pm_len S (σ.2 v0 11)) = true then (if (σ.1 (σ.2 v0 11) ((5 : Int32)).toNatClampNeg) ≤ v2 then kx v1 σ else (if pm_ib ((66 : Int32) + v2) (pm_len S (σ.2 v0 11)) = true then pm_let (v1 + (σ.1 (σ.2 v0 11) (((66 : Int32) + v2)).toNatClampNeg)) fun x5 => fX12_mean_L4 S v0 kx n x5 (v2 + (1 : Int32)) σ else none)) else none)
set_option maxRecDepth 100000 in
set_option maxHeartbeats 4000000 in
theorem fX12_mean_L4_E (l : Launch) {S : pm_S} {p : Int32 × pm_H} {v0 : Nat} {kx : Int32 → pm_H → Option (Int32 × pm_H)} (h0 : pm_is S v0 15) (hkx : ∀ w1 sw, kx w1 sw = some p → pm_E l yX12_mean cX12_mean 3 (some .int) false 0 S (pm_ri S p) 32 [(0, .ref v0), (1, .int w1)] [] S sw) : ∀ (n : Nat) (v1 : Int32) (v2 : Int32) (σ : pm_H), fX12_mean_L4 S v0 kx n v1 v2 σ = some p → pm_E l yX12_mean cX12_mean 3 (some .int) false 0 S (pm_ri S p) 4 [(0, .ref v0), (1, .int v1), (2, .int v2)] [] S σ := by
  intro n
  induction n with
  | zero => intro v1 v2 σ hf; cases hf
  | succ n ih =>
    intro v1 v2 σ hf
    rw [fX12_mean_L4] at hf
    refine pm_iload_n (pc := 4) 2 dX12_mean_4 rfl rfl ?_
    refine pm_aload_n (pc := 5) 0 dX12_mean_5 rfl rfl h0.pos ?_
    refine pm_getT (pc := 6) (k := 11) pm_cl12 flX12_25 (by decide) rfl h0 dX12_mean_6 (fun hr1 => ?_)
    refine pm_iconst (pc := 9) (5 : Int32) (by decide) dX12_mean_9 ?_
    obtain ⟨hb2, hf⟩ := pm_gd hf
    refine pm_iald (pc := 10) hr1 (pm_ib_in hb2) dX12_mean_10 ?_
    refine pm_icmp_ge (pc := 11) 32 dX12_mean_11 (by decide) (fun hc6 => ?_) (fun hc6 => ?_)
    · rw [if_pos hc6] at hf
      refine pm_lv [(0, .ref v0), (1, .int v1)] [0, 1] rfl ?_
      exact hkx v1 σ hf
    · rw [if_neg hc6] at hf
      refine pm_iload_n (pc := 14) 1 dX12_mean_14 rfl rfl ?_
      refine pm_aload_n (pc := 15) 0 dX12_mean_15 rfl rfl h0.pos ?_
      refine pm_getT (pc := 16) (k := 11) pm_cl12 flX12_25 (by decide) rfl h0 dX12_mean_16 (fun hr3 => ?_)
      refine pm_bipush (pc := 19) (66 : Int32) (by decide) dX12_mean_19 ?_
      refine pm_iload_n (pc := 21) 2 dX12_mean_21 rfl rfl ?_
      refine pm_iadd (pc := 22) dX12_mean_22 ?_
      obtain ⟨hb4, hf⟩ := pm_gd hf
      refine pm_iald (pc := 23) hr3 (pm_ib_in hb4) dX12_mean_23 ?_
      refine pm_iadd (pc := 24) dX12_mean_24 ?_
      obtain ⟨x5, ex5, hf⟩ := pm_let_e hf
      refine pm_nmi ex5 ?_
      refine pm_istore_n (pc := 25) [(1, .int x5), (0, .ref v0), (2, .int v2)] dX12_mean_25 rfl (by decide) rfl ?_
      refine pm_iinc (pc := 26) 2 (v2 + (1 : Int32)) [(2, .int (v2 + (1 : Int32))), (1, .int x5), (0, .ref v0)] dX12_mean_26 rfl rfl (by decide) rfl ?_
      refine pm_goto (pc := 29) 4 dX12_mean_29 (by decide) ?_
      refine pm_lv [(0, .ref v0), (1, .int x5), (2, .int (v2 + (1 : Int32)))] [2, 1, 0] rfl ?_
      exact ih x5 (v2 + (1 : Int32)) σ hf
def fX12_mean (S : pm_S) (a0 : Nat) (σ : pm_H) : Option (Int32 × pm_H) :=
  fX12_mean_L4 S a0 (fun w7 s8 => (if pm_ib (5 : Int32) (pm_len S (s8.2 a0 11)) = true then if (s8.1 (s8.2 a0 11) ((5 : Int32)).toNatClampNeg) = 0 then none else some ((w7 / (s8.1 (s8.2 a0 11) ((5 : Int32)).toNatClampNeg)), s8) else none)) pm_fuel (0 : Int32) (0 : Int32) σ
set_option maxRecDepth 100000 in
set_option maxHeartbeats 4000000 in
theorem KX12_mean (l : Launch) {S : pm_S} {p : Int32 × pm_H} {a0 : Nat} {σ : pm_H} (h0 : pm_is S a0 15) (hf : fX12_mean S a0 σ = some p) : pm_M l yX12_mean cX12_mean 3 (some .int) false 0 [.ref a0] S σ (pm_ri S p) := by
  refine pm_M.of (by decide +kernel) (Nat.le_of_ble_eq_true rfl) ?_
  show pm_E l yX12_mean cX12_mean 3 (some .int) false 0 S (pm_ri S p) 0 [(0, .ref a0)] [] S σ
  rw [fX12_mean] at hf
  refine pm_iconst (pc := 0) (0 : Int32) (by decide) dX12_mean_0 ?_
  refine pm_istore_n (pc := 1) [(1, .int (0 : Int32)), (0, .ref a0)] dX12_mean_1 rfl (by decide) rfl ?_
  refine pm_iconst (pc := 2) (0 : Int32) (by decide) dX12_mean_2 ?_
  refine pm_istore_n (pc := 3) [(2, .int (0 : Int32)), (1, .int (0 : Int32)), (0, .ref a0)] dX12_mean_3 rfl (by decide) rfl ?_
  refine pm_lv [(0, .ref a0), (1, .int (0 : Int32)), (2, .int (0 : Int32))] [2, 1, 0] rfl ?_
  refine fX12_mean_L4_E l h0 (fun w7 s8 hf => ?_) pm_fuel (0 : Int32) (0 : Int32) σ hf
  refine pm_iload_n (pc := 32) 1 dX12_mean_32 rfl rfl ?_
  refine pm_aload_n (pc := 33) 0 dX12_mean_33 rfl rfl h0.pos ?_
  refine pm_getT (pc := 34) (k := 11) pm_cl12 flX12_25 (by decide) rfl h0 dX12_mean_34 (fun hr9 => ?_)
  refine pm_iconst (pc := 37) (5 : Int32) (by decide) dX12_mean_37 ?_
  obtain ⟨hb10, hf⟩ := pm_gd hf
  refine pm_iald (pc := 38) hr9 (pm_ib_in hb10) dX12_mean_38 ?_
  obtain ⟨hz11, hf⟩ := pm_gz hf
  refine pm_idiv (pc := 39) hz11 dX12_mean_39 ?_
  exact pm_iret rfl dX12_mean_40 (pm_ri_e hf)
def fX12_middle_J70 (S : pm_S) (v0 : Nat) (v1 : Int32) (v2 : Int32) (v4 : Int32) (v5 : Int32) (t0 : Int32) (t1 : Int32) (ag : Int32 → Int32 → Int32 → pm_H → Option (Int32 × pm_H)) (σ : pm_H) : Option (Int32 × pm_H) :=
  pm_let (t1 + t0) fun x12 => (if pm_ib ((66 : Int32) + v5) (pm_len S (σ.2 v0 11)) = true then (if pm_ib ((66 : Int32) + v2) (pm_len S (σ.2 v0 11)) = true then (if (σ.1 (σ.2 v0 11) (((66 : Int32) + v5)).toNatClampNeg) = (σ.1 (σ.2 v0 11) (((66 : Int32) + v2)).toNatClampNeg) then pm_let (v4 + (1 : Int32)) fun x18 => ag x12 x18 (v5 + (1 : Int32)) σ else pm_let (v4 + (0 : Int32)) fun x17 => ag x12 x17 (v5 + (1 : Int32)) σ) else none) else none)
set_option maxRecDepth 100000 in
set_option maxHeartbeats 4000000 in
theorem fX12_middle_J70_E (l : Launch) {S : pm_S} {p : Int32 × pm_H} {v0 : Nat} {v1 : Int32} {v2 : Int32} {v4 : Int32} {v5 : Int32} {t0 : Int32} {t1 : Int32} {ag : Int32 → Int32 → Int32 → pm_H → Option (Int32 × pm_H)} {σ : pm_H} (h0 : pm_is S v0 15) (hag : ∀ w3 w4 w5 sw, ag w3 w4 w5 sw = some p → pm_E l yX12_middle cX12_middle 6 (some .int) false 1 S (pm_ri S p) 31 [(0, .ref v0), (1, .int v1), (2, .int v2), (3, .int w3), (4, .int w4), (5, .int w5)] [] S sw) (hf : fX12_middle_J70 S v0 v1 v2 v4 v5 t0 t1 ag σ = some p) : pm_E l yX12_middle cX12_middle 6 (some .int) false 1 S (pm_ri S p) 70 [(0, .ref v0), (1, .int v1), (2, .int v2), (4, .int v4), (5, .int v5)] [.int t0, .int t1] S σ := by
  rw [fX12_middle_J70] at hf
  refine pm_iadd (pc := 70) dX12_middle_70 ?_
  obtain ⟨x12, ex12, hf⟩ := pm_let_e hf
  refine pm_nmi ex12 ?_
  refine pm_istore_n (pc := 71) [(3, .int x12), (0, .ref v0), (1, .int v1), (2, .int v2), (4, .int v4), (5, .int v5)] dX12_middle_71 rfl (by decide) rfl ?_
  refine pm_iload (pc := 72) 4 dX12_middle_72 rfl ?_
  refine pm_aload_n (pc := 74) 1 dX12_middle_74 rfl rfl h0.pos ?_
  refine pm_getT (pc := 75) (k := 11) pm_cl12 flX12_25 (by decide) rfl h0 dX12_middle_75 (fun hr13 => ?_)
  refine pm_bipush (pc := 78) (66 : Int32) (by decide) dX12_middle_78 ?_
  refine pm_iload (pc := 80) 5 dX12_middle_80 rfl ?_
  refine pm_iadd (pc := 82) dX12_middle_82 ?_
  obtain ⟨hb14, hf⟩ := pm_gd hf
  refine pm_iald (pc := 83) hr13 (pm_ib_in hb14) dX12_middle_83 ?_
  refine pm_aload_n (pc := 84) 1 dX12_middle_84 rfl rfl h0.pos ?_
  refine pm_getT (pc := 85) (k := 11) pm_cl12 flX12_25 (by decide) rfl h0 dX12_middle_85 (fun hr15 => ?_)
  refine pm_bipush (pc := 88) (66 : Int32) (by decide) dX12_middle_88 ?_
  refine pm_iload_n (pc := 90) 3 dX12_middle_90 rfl rfl ?_
  refine pm_iadd (pc := 91) dX12_middle_91 ?_
  obtain ⟨hb16, hf⟩ := pm_gd hf
  refine pm_iald (pc := 92) hr15 (pm_ib_in hb16) dX12_middle_92 ?_
  refine pm_icmp_ne (pc := 93) 100 dX12_middle_93 (by decide) (fun hc19 => ?_) (fun hc19 => ?_)
  · rw [if_pos hc19] at hf
    refine pm_iconst (pc := 96) (1 : Int32) (by decide) dX12_middle_96 ?_
    refine pm_goto (pc := 97) 101 dX12_middle_97 (by decide) ?_
    refine pm_iadd (pc := 101) dX12_middle_101 ?_
    obtain ⟨x18, ex18, hf⟩ := pm_let_e hf
    refine pm_nmi ex18 ?_
    refine pm_istore (pc := 102) [(4, .int x18), (3, .int x12), (0, .ref v0), (1, .int v1), (2, .int v2), (5, .int v5)] dX12_middle_102 (by decide) rfl ?_
    refine pm_iinc (pc := 104) 5 (v5 + (1 : Int32)) [(5, .int (v5 + (1 : Int32))), (4, .int x18), (3, .int x12), (0, .ref v0), (1, .int v1), (2, .int v2)] dX12_middle_104 rfl rfl (by decide) rfl ?_
    refine pm_goto (pc := 107) 31 dX12_middle_107 (by decide) ?_
    refine pm_lv [(0, .ref v0), (1, .int v1), (2, .int v2), (3, .int x12), (4, .int x18), (5, .int (v5 + (1 : Int32)))] [3, 4, 5, 2, 1, 0] rfl ?_
    exact hag x12 x18 (v5 + (1 : Int32)) σ hf
  · rw [if_neg hc19] at hf
    refine pm_iconst (pc := 100) (0 : Int32) (by decide) dX12_middle_100 ?_
    refine pm_iadd (pc := 101) dX12_middle_101 ?_
    obtain ⟨x17, ex17, hf⟩ := pm_let_e hf
    refine pm_nmi ex17 ?_
    refine pm_istore (pc := 102) [(4, .int x17), (3, .int x12), (0, .ref v0), (1, .int v1), (2, .int v2), (5, .int v5)] dX12_middle_102 (by decide) rfl ?_
    refine pm_iinc (pc := 104) 5 (v5 + (1 : Int32)) [(5, .int (v5 + (1 : Int32))), (4, .int x17), (3, .int x12), (0, .ref v0), (1, .int v1), (2, .int v2)] dX12_middle_104 rfl rfl (by decide) rfl ?_
    refine pm_goto (pc := 107) 31 dX12_middle_107 (by decide) ?_
    refine pm_lv [(0, .ref v0), (1, .int v1), (2, .int v2), (3, .int x12), (4, .int x17), (5, .int (v5 + (1 : Int32)))] [3, 4, 5, 2, 1, 0] rfl ?_
    exact hag x12 x17 (v5 + (1 : Int32)) σ hf
def fX12_middle_L31 (S : pm_S) (v0 : Nat) (v1 : Int32) (v2 : Int32) (kx : Int32 → Int32 → pm_H → Option (Int32 × pm_H)) : Nat → Int32 → Int32 → Int32 → pm_H → Option (Int32 × pm_H)
  | 0, _, _, _, _ => none
  | n + 1, v3, v4, v5, σ => (if pm_ib (5 : Int32) (pm_len S (σ.2 v0 11)) = true then (if (σ.1 (σ.2 v0 11) ((5 : Int32)).toNatClampNeg) ≤ v5 then kx v3 v4 σ else (if pm_ib ((66 : Int32) + v5) (pm_len S (σ.2 v0 11)) = true then (if pm_ib ((66 : Int32) + v2) (pm_len S (σ.2 v0 11)) = true then (if (σ.1 (σ.2 v0 11) (((66 : Int32) + v2)).toNatClampNeg) ≤ (σ.1 (σ.2 v0 11) (((66 : Int32) + v5)).toNatClampNeg) then fX12_middle_J70 S v0 v1 v2 v4 v5 (0 : Int32) v3 (fun w3 w4 w5 sw => fX12_middle_L31 S v0 v1 v2 kx n w3 w4 w5 sw) σ else fX12_middle_J70 S v0 v1 v2 v4 v5 (1 : Int32) v3 (fun w3 w4 w5 sw => fX12_middle_L31 S v0 v1 v2 kx n w3 w4 w5 sw) σ) else none) else none)) else none)
set_option maxRecDepth 100000 in
set_option maxHeartbeats 4000000 in
theorem fX12_middle_L31_E (l : Launch) {S : pm_S} {p : Int32 × pm_H} {v0 : Nat} {v1 : Int32} {v2 : Int32} {kx : Int32 → Int32 → pm_H → Option (Int32 × pm_H)} (h0 : pm_is S v0 15) (hkx : ∀ w3 w4 sw, kx w3 w4 sw = some p → pm_E l yX12_middle cX12_middle 6 (some .int) false 1 S (pm_ri S p) 110 [(0, .ref v0), (1, .int v1), (2, .int v2), (3, .int w3), (4, .int w4)] [] S sw) : ∀ (n : Nat) (v3 : Int32) (v4 : Int32) (v5 : Int32) (σ : pm_H), fX12_middle_L31 S v0 v1 v2 kx n v3 v4 v5 σ = some p → pm_E l yX12_middle cX12_middle 6 (some .int) false 1 S (pm_ri S p) 31 [(0, .ref v0), (1, .int v1), (2, .int v2), (3, .int v3), (4, .int v4), (5, .int v5)] [] S σ := by
  intro n
  induction n with
  | zero => intro v3 v4 v5 σ hf; cases hf
  | succ n ih =>
    intro v3 v4 v5 σ hf
    rw [fX12_middle_L31] at hf
    refine pm_iload (pc := 31) 5 dX12_middle_31 rfl ?_
    refine pm_aload_n (pc := 33) 0 dX12_middle_33 rfl rfl h0.pos ?_
    refine pm_getT (pc := 34) (k := 11) pm_cl12 flX12_25 (by decide) rfl h0 dX12_middle_34 (fun hr6 => ?_)
    refine pm_iconst (pc := 37) (5 : Int32) (by decide) dX12_middle_37 ?_
    obtain ⟨hb7, hf⟩ := pm_gd hf
    refine pm_iald (pc := 38) hr6 (pm_ib_in hb7) dX12_middle_38 ?_
    refine pm_icmp_ge (pc := 39) 110 dX12_middle_39 (by decide) (fun hc21 => ?_) (fun hc21 => ?_)
    · rw [if_pos hc21] at hf
      refine pm_lv [(0, .ref v0), (1, .int v1), (2, .int v2), (3, .int v3), (4, .int v4)] [0, 1, 2, 3, 4] rfl ?_
      exact hkx v3 v4 σ hf
    · rw [if_neg hc21] at hf
      refine pm_iload_n (pc := 42) 3 dX12_middle_42 rfl rfl ?_
      refine pm_aload_n (pc := 43) 0 dX12_middle_43 rfl rfl h0.pos ?_
      refine pm_getT (pc := 44) (k := 11) pm_cl12 flX12_25 (by decide) rfl h0 dX12_middle_44 (fun hr8 => ?_)
      refine pm_bipush (pc := 47) (66 : Int32) (by decide) dX12_middle_47 ?_
      refine pm_iload (pc := 49) 5 dX12_middle_49 rfl ?_
      refine pm_iadd (pc := 51) dX12_middle_51 ?_
      obtain ⟨hb9, hf⟩ := pm_gd hf
      refine pm_iald (pc := 52) hr8 (pm_ib_in hb9) dX12_middle_52 ?_
      refine pm_aload_n (pc := 53) 0 dX12_middle_53 rfl rfl h0.pos ?_
      refine pm_getT (pc := 54) (k := 11) pm_cl12 flX12_25 (by decide) rfl h0 dX12_middle_54 (fun hr10 => ?_)
      refine pm_bipush (pc := 57) (66 : Int32) (by decide) dX12_middle_57 ?_
      refine pm_iload_n (pc := 59) 2 dX12_middle_59 rfl rfl ?_
      refine pm_iadd (pc := 60) dX12_middle_60 ?_
      obtain ⟨hb11, hf⟩ := pm_gd hf
      refine pm_iald (pc := 61) hr10 (pm_ib_in hb11) dX12_middle_61 ?_
      refine pm_icmp_ge (pc := 62) 69 dX12_middle_62 (by decide) (fun hc20 => ?_) (fun hc20 => ?_)
      · rw [if_pos hc20] at hf
        refine pm_iconst (pc := 69) (0 : Int32) (by decide) dX12_middle_69 ?_
        refine pm_lv [(0, .ref v0), (1, .int v1), (2, .int v2), (4, .int v4), (5, .int v5)] [0, 1, 2, 4, 5] rfl ?_
        exact fX12_middle_J70_E l h0 ih hf
      · rw [if_neg hc20] at hf
        refine pm_iconst (pc := 65) (1 : Int32) (by decide) dX12_middle_65 ?_
        refine pm_goto (pc := 66) 70 dX12_middle_66 (by decide) ?_
        refine pm_lv [(0, .ref v0), (1, .int v1), (2, .int v2), (4, .int v4), (5, .int v5)] [0, 1, 2, 4, 5] rfl ?_
        exact fX12_middle_J70_E l h0 ih hf
def fX12_middle_L13 (S : pm_S) (v0 : Nat) (v1 : Int32) (kx : pm_H → Option (Int32 × pm_H)) : Nat → Int32 → pm_H → Option (Int32 × pm_H)
  | 0, _, _ => none
  | n + 1, v2, σ => (if pm_ib (5 : Int32) (pm_len S (σ.2 v0 11)) = true then (if (σ.1 (σ.2 v0 11) ((5 : Int32)).toNatClampNeg) ≤ v2 then kx σ else fX12_middle_L31 S v0 v1 v2 (fun w22 w23 s24 => Option.bind (fX12_in S v1.toInt64 w22.toInt64 ((w22 + w23) - (1 : Int32)).toInt64 s24) fun u25 => (if u25.1 = 0 then fX12_middle_L13 S v0 v1 kx n (v2 + (1 : Int32)) u25.2 else (if pm_ib ((66 : Int32) + v2) (pm_len S (u25.2.2 v0 11)) = true then some ((u25.2.1 (u25.2.2 v0 11) (((66 : Int32) + v2)).toNatClampNeg), u25.2) else none))) pm_fuel (0 : Int32) (0 : Int32) (0 : Int32) σ) else none)
set_option maxRecDepth 100000 in
set_option maxHeartbeats 4000000 in
theorem fX12_middle_L13_E (l : Launch) {S : pm_S} {p : Int32 × pm_H} {v0 : Nat} {v1 : Int32} {kx : pm_H → Option (Int32 × pm_H)} (h0 : pm_is S v0 15) (hkx : ∀  sw, kx  sw = some p → pm_E l yX12_middle cX12_middle 6 (some .int) false 1 S (pm_ri S p) 143 [] [] S sw) : ∀ (n : Nat) (v2 : Int32) (σ : pm_H), fX12_middle_L13 S v0 v1 kx n v2 σ = some p → pm_E l yX12_middle cX12_middle 6 (some .int) false 1 S (pm_ri S p) 13 [(0, .ref v0), (1, .int v1), (2, .int v2)] [] S σ := by
  intro n
  induction n with
  | zero => intro v2 σ hf; cases hf
  | succ n ih =>
    intro v2 σ hf
    rw [fX12_middle_L13] at hf
    refine pm_iload_n (pc := 13) 2 dX12_middle_13 rfl rfl ?_
    refine pm_aload_n (pc := 14) 0 dX12_middle_14 rfl rfl h0.pos ?_
    refine pm_getT (pc := 15) (k := 11) pm_cl12 flX12_25 (by decide) rfl h0 dX12_middle_15 (fun hr4 => ?_)
    refine pm_iconst (pc := 18) (5 : Int32) (by decide) dX12_middle_18 ?_
    obtain ⟨hb5, hf⟩ := pm_gd hf
    refine pm_iald (pc := 19) hr4 (pm_ib_in hb5) dX12_middle_19 ?_
    refine pm_icmp_ge (pc := 20) 143 dX12_middle_20 (by decide) (fun hc29 => ?_) (fun hc29 => ?_)
    · rw [if_pos hc29] at hf
      refine pm_lv [] [] rfl ?_
      exact hkx σ hf
    · rw [if_neg hc29] at hf
      refine pm_iconst (pc := 23) (0 : Int32) (by decide) dX12_middle_23 ?_
      refine pm_istore_n (pc := 24) [(3, .int (0 : Int32)), (0, .ref v0), (1, .int v1), (2, .int v2)] dX12_middle_24 rfl (by decide) rfl ?_
      refine pm_iconst (pc := 25) (0 : Int32) (by decide) dX12_middle_25 ?_
      refine pm_istore (pc := 26) [(4, .int (0 : Int32)), (3, .int (0 : Int32)), (0, .ref v0), (1, .int v1), (2, .int v2)] dX12_middle_26 (by decide) rfl ?_
      refine pm_iconst (pc := 28) (0 : Int32) (by decide) dX12_middle_28 ?_
      refine pm_istore (pc := 29) [(5, .int (0 : Int32)), (4, .int (0 : Int32)), (3, .int (0 : Int32)), (0, .ref v0), (1, .int v1), (2, .int v2)] dX12_middle_29 (by decide) rfl ?_
      refine pm_lv [(0, .ref v0), (1, .int v1), (2, .int v2), (3, .int (0 : Int32)), (4, .int (0 : Int32)), (5, .int (0 : Int32))] [3, 4, 5, 2, 1, 0] rfl ?_
      refine fX12_middle_L31_E l h0 (fun w22 w23 s24 hf => ?_) pm_fuel (0 : Int32) (0 : Int32) (0 : Int32) σ hf
      refine pm_iload_n (pc := 110) 1 dX12_middle_110 rfl rfl ?_
      refine pm_i2l (pc := 111) dX12_middle_111 ?_
      refine pm_iload_n (pc := 112) 3 dX12_middle_112 rfl rfl ?_
      refine pm_i2l (pc := 113) dX12_middle_113 ?_
      refine pm_iload_n (pc := 114) 3 dX12_middle_114 rfl rfl ?_
      refine pm_iload (pc := 115) 4 dX12_middle_115 rfl ?_
      refine pm_iadd (pc := 117) dX12_middle_117 ?_
      refine pm_iconst (pc := 118) (1 : Int32) (by decide) dX12_middle_118 ?_
      refine pm_isub (pc := 119) dX12_middle_119 ?_
      refine pm_i2l (pc := 120) dX12_middle_120 ?_
      obtain ⟨u25, hu25, hf⟩ := pm_bind_e hf
      refine pm_cSi (pc := 121) (as := [.long v1.toInt64, .long w22.toInt64, .long ((w22 + w23) - (1 : Int32)).toInt64]) (st := []) msX12_87 (KX12_in l  hu25) (by decide) rfl rfl (Nat.le_of_ble_eq_true rfl) rfl dX12_middle_121 ?_
      refine pm_if_eq (pc := 124) 137 dX12_middle_124 (by decide) (fun hc28 => ?_) (fun hc28 => ?_)
      · rw [if_pos hc28] at hf
        refine pm_iinc (pc := 137) 2 (v2 + (1 : Int32)) [(2, .int (v2 + (1 : Int32))), (0, .ref v0), (1, .int v1), (3, .int w22), (4, .int w23)] dX12_middle_137 rfl rfl (by decide) rfl ?_
        refine pm_goto (pc := 140) 13 dX12_middle_140 (by decide) ?_
        refine pm_lv [(0, .ref v0), (1, .int v1), (2, .int (v2 + (1 : Int32)))] [1, 2, 0] rfl ?_
        exact ih (v2 + (1 : Int32)) u25.2 hf
      · rw [if_neg hc28] at hf
        refine pm_aload_n (pc := 127) 0 dX12_middle_127 rfl rfl h0.pos ?_
        refine pm_getT (pc := 128) (k := 11) pm_cl12 flX12_25 (by decide) rfl h0 dX12_middle_128 (fun hr26 => ?_)
        refine pm_bipush (pc := 131) (66 : Int32) (by decide) dX12_middle_131 ?_
        refine pm_iload_n (pc := 133) 2 dX12_middle_133 rfl rfl ?_
        refine pm_iadd (pc := 134) dX12_middle_134 ?_
        obtain ⟨hb27, hf⟩ := pm_gd hf
        refine pm_iald (pc := 135) hr26 (pm_ib_in hb27) dX12_middle_135 ?_
        exact pm_iret rfl dX12_middle_136 (pm_ri_e hf)
def fX12_middle (S : pm_S) (a0 : Nat) (σ : pm_H) : Option (Int32 × pm_H) :=
  (if pm_ib (5 : Int32) (pm_len S (σ.2 a0 11)) = true then pm_let (((σ.1 (σ.2 a0 11) ((5 : Int32)).toNatClampNeg) - (1 : Int32)) / (2 : Int32)) fun x3 => fX12_middle_L13 S a0 x3 (fun s30 => some ((-1 : Int32), s30)) pm_fuel (0 : Int32) σ else none)
set_option maxRecDepth 100000 in
set_option maxHeartbeats 4000000 in
theorem KX12_middle (l : Launch) {S : pm_S} {p : Int32 × pm_H} {a0 : Nat} {σ : pm_H} (h0 : pm_is S a0 15) (hf : fX12_middle S a0 σ = some p) : pm_M l yX12_middle cX12_middle 6 (some .int) false 1 [.ref a0] S σ (pm_ri S p) := by
  refine pm_M.of (by decide +kernel) (Nat.le_of_ble_eq_true rfl) ?_
  show pm_E l yX12_middle cX12_middle 6 (some .int) false 1 S (pm_ri S p) 0 [(0, .ref a0)] [] S σ
  rw [fX12_middle] at hf
  refine pm_aload_n (pc := 0) 0 dX12_middle_0 rfl rfl h0.pos ?_
  refine pm_getT (pc := 1) (k := 11) pm_cl12 flX12_25 (by decide) rfl h0 dX12_middle_1 (fun hr1 => ?_)
  refine pm_iconst (pc := 4) (5 : Int32) (by decide) dX12_middle_4 ?_
  obtain ⟨hb2, hf⟩ := pm_gd hf
  refine pm_iald (pc := 5) hr1 (pm_ib_in hb2) dX12_middle_5 ?_
  refine pm_iconst (pc := 6) (1 : Int32) (by decide) dX12_middle_6 ?_
  refine pm_isub (pc := 7) dX12_middle_7 ?_
  refine pm_iconst (pc := 8) (2 : Int32) (by decide) dX12_middle_8 ?_
  refine pm_idiv (pc := 9) (by decide) dX12_middle_9 ?_
  obtain ⟨x3, ex3, hf⟩ := pm_let_e hf
  refine pm_nmi ex3 ?_
  refine pm_istore_n (pc := 10) [(1, .int x3), (0, .ref a0)] dX12_middle_10 rfl (by decide) rfl ?_
  refine pm_iconst (pc := 11) (0 : Int32) (by decide) dX12_middle_11 ?_
  refine pm_istore_n (pc := 12) [(2, .int (0 : Int32)), (1, .int x3), (0, .ref a0)] dX12_middle_12 rfl (by decide) rfl ?_
  refine pm_lv [(0, .ref a0), (1, .int x3), (2, .int (0 : Int32))] [2, 1, 0] rfl ?_
  refine fX12_middle_L13_E l h0 (fun s30 hf => ?_) pm_fuel (0 : Int32) σ hf
  refine pm_iconst (pc := 143) (-1 : Int32) (by decide) dX12_middle_143 ?_
  exact pm_iret rfl dX12_middle_144 (pm_ri_e hf)
def fX12_handBy_L5 (S : pm_S) (v0 : Nat) (v1 : Int32) (v2 : Int32) (kx : Int32 → pm_H → Option (Int32 × pm_H)) : Nat → Int32 → Int32 → pm_H → Option (Int32 × pm_H)
  | 0, _, _, _ => none
  | n + 1, v3, v4, σ => (if pm_ib (5 : Int32) (pm_len S (σ.2 v0 11)) = true then (if (σ.1 (σ.2 v0 11) ((5 : Int32)).toNatClampNeg) ≤ v4 then kx v3 σ else (if pm_ib ((66 : Int32) + v4) (pm_len S (σ.2 v0 11)) = true then Option.bind (fX12_size S ((σ.1 (σ.2 v0 11) (((66 : Int32) + v4)).toNatClampNeg) - v1) σ) fun u5 => (if pm_ib ((66 : Int32) + v3) (pm_len S (u5.2.2 v0 11)) = true then Option.bind (fX12_size S ((u5.2.1 (u5.2.2 v0 11) (((66 : Int32) + v3)).toNatClampNeg) - v1) u5.2) fun u8 => (if v2 = 0 then (if u8.1 ≤ u5.1 then fX12_handBy_L5 S v0 v1 v2 kx n v3 (v4 + (1 : Int32)) u8.2 else fX12_handBy_L5 S v0 v1 v2 kx n v4 (v4 + (1 : Int32)) u8.2) else (if u5.1 ≤ u8.1 then fX12_handBy_L5 S v0 v1 v2 kx n v3 (v4 + (1 : Int32)) u8.2 else fX12_handBy_L5 S v0 v1 v2 kx n v4 (v4 + (1 : Int32)) u8.2)) else none) else none)) else none)
set_option maxRecDepth 100000 in
set_option maxHeartbeats 4000000 in
theorem fX12_handBy_L5_E (l : Launch) {S : pm_S} {p : Int32 × pm_H} {v0 : Nat} {v1 : Int32} {v2 : Int32} {kx : Int32 → pm_H → Option (Int32 × pm_H)} (h0 : pm_is S v0 15) (hkx : ∀ w3 sw, kx w3 sw = some p → pm_E l yX12_handBy cX12_handBy 7 (some .int) false 1 S (pm_ri S p) 89 [(3, .int w3)] [] S sw) : ∀ (n : Nat) (v3 : Int32) (v4 : Int32) (σ : pm_H), fX12_handBy_L5 S v0 v1 v2 kx n v3 v4 σ = some p → pm_E l yX12_handBy cX12_handBy 7 (some .int) false 1 S (pm_ri S p) 5 [(0, .ref v0), (1, .int v1), (2, .int v2), (3, .int v3), (4, .int v4)] [] S σ := by
  intro n
  induction n with
  | zero => intro v3 v4 σ hf; cases hf
  | succ n ih =>
    intro v3 v4 σ hf
    rw [fX12_handBy_L5] at hf
    refine pm_iload (pc := 5) 4 dX12_handBy_5 rfl ?_
    refine pm_aload_n (pc := 7) 0 dX12_handBy_7 rfl rfl h0.pos ?_
    refine pm_getT (pc := 8) (k := 11) pm_cl12 flX12_25 (by decide) rfl h0 dX12_handBy_8 (fun hr1 => ?_)
    refine pm_iconst (pc := 11) (5 : Int32) (by decide) dX12_handBy_11 ?_
    obtain ⟨hb2, hf⟩ := pm_gd hf
    refine pm_iald (pc := 12) hr1 (pm_ib_in hb2) dX12_handBy_12 ?_
    refine pm_icmp_ge (pc := 13) 89 dX12_handBy_13 (by decide) (fun hc12 => ?_) (fun hc12 => ?_)
    · rw [if_pos hc12] at hf
      refine pm_lv [(3, .int v3)] [3] rfl ?_
      exact hkx v3 σ hf
    · rw [if_neg hc12] at hf
      refine pm_aload_n (pc := 16) 0 dX12_handBy_16 rfl rfl h0.pos ?_
      refine pm_getT (pc := 17) (k := 11) pm_cl12 flX12_25 (by decide) rfl h0 dX12_handBy_17 (fun hr3 => ?_)
      refine pm_bipush (pc := 20) (66 : Int32) (by decide) dX12_handBy_20 ?_
      refine pm_iload (pc := 22) 4 dX12_handBy_22 rfl ?_
      refine pm_iadd (pc := 24) dX12_handBy_24 ?_
      obtain ⟨hb4, hf⟩ := pm_gd hf
      refine pm_iald (pc := 25) hr3 (pm_ib_in hb4) dX12_handBy_25 ?_
      refine pm_iload_n (pc := 26) 1 dX12_handBy_26 rfl rfl ?_
      refine pm_isub (pc := 27) dX12_handBy_27 ?_
      obtain ⟨u5, hu5, hf⟩ := pm_bind_e hf
      refine pm_cSi (pc := 28) (as := [.int ((σ.1 (σ.2 v0 11) (((66 : Int32) + v4)).toNatClampNeg) - v1)]) (st := []) msX12_257 (KX12_size l  hu5) (by decide) rfl rfl (Nat.le_of_ble_eq_true rfl) rfl dX12_handBy_28 ?_
      refine pm_istore (pc := 31) [(5, .int u5.1), (0, .ref v0), (1, .int v1), (2, .int v2), (3, .int v3), (4, .int v4)] dX12_handBy_31 (by decide) rfl ?_
      refine pm_aload_n (pc := 33) 1 dX12_handBy_33 rfl rfl h0.pos ?_
      refine pm_getT (pc := 34) (k := 11) pm_cl12 flX12_25 (by decide) rfl h0 dX12_handBy_34 (fun hr6 => ?_)
      refine pm_bipush (pc := 37) (66 : Int32) (by decide) dX12_handBy_37 ?_
      refine pm_iload_n (pc := 39) 4 dX12_handBy_39 rfl rfl ?_
      refine pm_iadd (pc := 40) dX12_handBy_40 ?_
      obtain ⟨hb7, hf⟩ := pm_gd hf
      refine pm_iald (pc := 41) hr6 (pm_ib_in hb7) dX12_handBy_41 ?_
      refine pm_iload_n (pc := 42) 2 dX12_handBy_42 rfl rfl ?_
      refine pm_isub (pc := 43) dX12_handBy_43 ?_
      obtain ⟨u8, hu8, hf⟩ := pm_bind_e hf
      refine pm_cSi (pc := 44) (as := [.int ((u5.2.1 (u5.2.2 v0 11) (((66 : Int32) + v3)).toNatClampNeg) - v1)]) (st := []) msX12_257 (KX12_size l  hu8) (by decide) rfl rfl (Nat.le_of_ble_eq_true rfl) rfl dX12_handBy_44 ?_
      refine pm_istore (pc := 47) [(6, .int u8.1), (5, .int u5.1), (0, .ref v0), (1, .int v1), (2, .int v2), (3, .int v3), (4, .int v4)] dX12_handBy_47 (by decide) rfl ?_
      refine pm_iload_n (pc := 49) 4 dX12_handBy_49 rfl rfl ?_
      refine pm_if_eq (pc := 50) 69 dX12_handBy_50 (by decide) (fun hc11 => ?_) (fun hc11 => ?_)
      · rw [if_pos hc11] at hf
        refine pm_iload (pc := 69) 1 dX12_handBy_69 rfl ?_
        refine pm_iload (pc := 71) 0 dX12_handBy_71 rfl ?_
        refine pm_icmp_ge (pc := 73) 81 dX12_handBy_73 (by decide) (fun hc9 => ?_) (fun hc9 => ?_)
        · rw [if_pos hc9] at hf
          refine pm_iload_n (pc := 81) 5 dX12_handBy_81 rfl rfl ?_
          refine pm_istore_n (pc := 82) [(3, .int v3), (6, .int u8.1), (5, .int u5.1), (0, .ref v0), (1, .int v1), (2, .int v2), (4, .int v4)] dX12_handBy_82 rfl (by decide) rfl ?_
          refine pm_iinc (pc := 83) 6 (v4 + (1 : Int32)) [(4, .int (v4 + (1 : Int32))), (3, .int v3), (6, .int u8.1), (5, .int u5.1), (0, .ref v0), (1, .int v1), (2, .int v2)] dX12_handBy_83 rfl rfl (by decide) rfl ?_
          refine pm_goto (pc := 86) 5 dX12_handBy_86 (by decide) ?_
          refine pm_lv [(0, .ref v0), (1, .int v1), (2, .int v2), (3, .int v3), (4, .int (v4 + (1 : Int32)))] [4, 5, 6, 1, 0] rfl ?_
          exact ih v3 (v4 + (1 : Int32)) u8.2 hf
        · rw [if_neg hc9] at hf
          refine pm_iload (pc := 76) 6 dX12_handBy_76 rfl ?_
          refine pm_goto (pc := 78) 82 dX12_handBy_78 (by decide) ?_
          refine pm_istore_n (pc := 82) [(3, .int v4), (6, .int u8.1), (5, .int u5.1), (0, .ref v0), (1, .int v1), (2, .int v2), (4, .int v4)] dX12_handBy_82 rfl (by decide) rfl ?_
          refine pm_iinc (pc := 83) 6 (v4 + (1 : Int32)) [(4, .int (v4 + (1 : Int32))), (3, .int v4), (6, .int u8.1), (5, .int u5.1), (0, .ref v0), (1, .int v1), (2, .int v2)] dX12_handBy_83 rfl rfl (by decide) rfl ?_
          refine pm_goto (pc := 86) 5 dX12_handBy_86 (by decide) ?_
          refine pm_lv [(0, .ref v0), (1, .int v1), (2, .int v2), (3, .int v4), (4, .int (v4 + (1 : Int32)))] [4, 5, 6, 1, 0] rfl ?_
          exact ih v4 (v4 + (1 : Int32)) u8.2 hf
      · rw [if_neg hc11] at hf
        refine pm_iload (pc := 53) 1 dX12_handBy_53 rfl ?_
        refine pm_iload (pc := 55) 0 dX12_handBy_55 rfl ?_
        refine pm_icmp_le (pc := 57) 65 dX12_handBy_57 (by decide) (fun hc10 => ?_) (fun hc10 => ?_)
        · rw [if_pos hc10] at hf
          refine pm_iload_n (pc := 65) 5 dX12_handBy_65 rfl rfl ?_
          refine pm_goto (pc := 66) 82 dX12_handBy_66 (by decide) ?_
          refine pm_istore_n (pc := 82) [(3, .int v3), (6, .int u8.1), (5, .int u5.1), (0, .ref v0), (1, .int v1), (2, .int v2), (4, .int v4)] dX12_handBy_82 rfl (by decide) rfl ?_
          refine pm_iinc (pc := 83) 6 (v4 + (1 : Int32)) [(4, .int (v4 + (1 : Int32))), (3, .int v3), (6, .int u8.1), (5, .int u5.1), (0, .ref v0), (1, .int v1), (2, .int v2)] dX12_handBy_83 rfl rfl (by decide) rfl ?_
          refine pm_goto (pc := 86) 5 dX12_handBy_86 (by decide) ?_
          refine pm_lv [(0, .ref v0), (1, .int v1), (2, .int v2), (3, .int v3), (4, .int (v4 + (1 : Int32)))] [4, 5, 6, 1, 0] rfl ?_
          exact ih v3 (v4 + (1 : Int32)) u8.2 hf
        · rw [if_neg hc10] at hf
          refine pm_iload (pc := 60) 6 dX12_handBy_60 rfl ?_
          refine pm_goto (pc := 62) 82 dX12_handBy_62 (by decide) ?_
          refine pm_istore_n (pc := 82) [(3, .int v4), (6, .int u8.1), (5, .int u5.1), (0, .ref v0), (1, .int v1), (2, .int v2), (4, .int v4)] dX12_handBy_82 rfl (by decide) rfl ?_
          refine pm_iinc (pc := 83) 6 (v4 + (1 : Int32)) [(4, .int (v4 + (1 : Int32))), (3, .int v4), (6, .int u8.1), (5, .int u5.1), (0, .ref v0), (1, .int v1), (2, .int v2)] dX12_handBy_83 rfl rfl (by decide) rfl ?_
          refine pm_goto (pc := 86) 5 dX12_handBy_86 (by decide) ?_
          refine pm_lv [(0, .ref v0), (1, .int v1), (2, .int v2), (3, .int v4), (4, .int (v4 + (1 : Int32)))] [4, 5, 6, 1, 0] rfl ?_
          exact ih v4 (v4 + (1 : Int32)) u8.2 hf
def fX12_handBy (S : pm_S) (a0 : Nat) (a1 : Int32) (a2 : Int32) (σ : pm_H) : Option (Int32 × pm_H) :=
  fX12_handBy_L5 S a0 a1 a2 (fun w13 s14 => some (w13, s14)) pm_fuel (0 : Int32) (1 : Int32) σ
set_option maxRecDepth 100000 in
set_option maxHeartbeats 4000000 in
theorem KX12_handBy (l : Launch) {S : pm_S} {p : Int32 × pm_H} {a0 : Nat} {a1 : Int32} {a2 : Int32} {σ : pm_H} (h0 : pm_is S a0 15) (hf : fX12_handBy S a0 a1 a2 σ = some p) : pm_M l yX12_handBy cX12_handBy 7 (some .int) false 1 [.ref a0, .int a1, .int a2] S σ (pm_ri S p) := by
  refine pm_M.of (by decide +kernel) (Nat.le_of_ble_eq_true rfl) ?_
  show pm_E l yX12_handBy cX12_handBy 7 (some .int) false 1 S (pm_ri S p) 0 [(0, .ref a0), (1, .int a1), (2, .int a2)] [] S σ
  rw [fX12_handBy] at hf
  refine pm_iconst (pc := 0) (0 : Int32) (by decide) dX12_handBy_0 ?_
  refine pm_istore_n (pc := 1) [(3, .int (0 : Int32)), (0, .ref a0), (1, .int a1), (2, .int a2)] dX12_handBy_1 rfl (by decide) rfl ?_
  refine pm_iconst (pc := 2) (1 : Int32) (by decide) dX12_handBy_2 ?_
  refine pm_istore (pc := 3) [(4, .int (1 : Int32)), (3, .int (0 : Int32)), (0, .ref a0), (1, .int a1), (2, .int a2)] dX12_handBy_3 (by decide) rfl ?_
  refine pm_lv [(0, .ref a0), (1, .int a1), (2, .int a2), (3, .int (0 : Int32)), (4, .int (1 : Int32))] [2, 3, 4, 1, 0] rfl ?_
  refine fX12_handBy_L5_E l h0 (fun w13 s14 hf => ?_) pm_fuel (0 : Int32) (1 : Int32) σ hf
  refine pm_iload_n (pc := 89) 0 dX12_handBy_89 rfl rfl ?_
  exact pm_iret rfl dX12_handBy_90 (pm_ri_e hf)
def fX12_hands (S : pm_S) (a0 : Nat) (a1 : Int32) (σ : pm_H) : Option (Int32 × pm_H) :=
  Option.bind (fX12_in S a1.toInt64 (0 : Int64) (3 : Int64) σ) fun u1 => (if u1.1 = 0 then some ((-1000000002 : Int32), u1.2) else (if pm_ib (5 : Int32) (pm_len S (u1.2.2 a0 11)) = true then (if (u1.2.1 (u1.2.2 a0 11) ((5 : Int32)).toNatClampNeg) = 0 then some ((-1 : Int32), u1.2) else (if a1 = (0 : Int32) then Option.bind (fX12_mean S a0 u1.2) fun u4 => some (u4.1, u4.2) else (if a1 = (1 : Int32) then Option.bind (fX12_middle S a0 u1.2) fun u6 => some (u6.1, u6.2) else (if a1 = (2 : Int32) then Option.bind (fX12_mean S a0 u1.2) fun u8 => Option.bind (fX12_handBy S a0 u8.1 (1 : Int32) u8.2) fun u9 => some (u9.1, u9.2) else (if pm_ib (0 : Int32) (pm_len S (u1.2.2 a0 11)) = true then Option.bind (fX12_handBy S a0 (u1.2.1 (u1.2.2 a0 11) ((0 : Int32)).toNatClampNeg) (0 : Int32) u1.2) fun u13 => some (u13.1, u13.2) else none))))) else none))
set_option maxRecDepth 100000 in
set_option maxHeartbeats 4000000 in
theorem KX12_hands (l : Launch) {S : pm_S} {p : Int32 × pm_H} {a0 : Nat} {a1 : Int32} {σ : pm_H} (h0 : pm_is S a0 15) (hf : fX12_hands S a0 a1 σ = some p) : pm_M l yX12_hands cX12_hands 2 (some .int) false 2 [.ref a0, .int a1] S σ (pm_ri S p) := by
  refine pm_M.of (by decide +kernel) (Nat.le_of_ble_eq_true rfl) ?_
  show pm_E l yX12_hands cX12_hands 2 (some .int) false 2 S (pm_ri S p) 0 [(0, .ref a0), (1, .int a1)] [] S σ
  rw [fX12_hands] at hf
  refine pm_iload_n (pc := 0) 1 dX12_hands_0 rfl rfl ?_
  refine pm_i2l (pc := 1) dX12_hands_1 ?_
  refine pm_lconst (pc := 2) (0 : Int64) (by decide) dX12_hands_2 ?_
  refine pm_ldc2 (pc := 3) klX12_311 dX12_hands_3 ?_
  obtain ⟨u1, hu1, hf⟩ := pm_bind_e hf
  refine pm_cSi (pc := 6) (as := [.long a1.toInt64, .long (0 : Int64), .long (3 : Int64)]) (st := []) msX12_87 (KX12_in l  hu1) (by decide) rfl rfl (Nat.le_of_ble_eq_true rfl) rfl dX12_hands_6 ?_
  refine pm_if_ne (pc := 9) 15 dX12_hands_9 (by decide) (fun hc15 => ?_) (fun hc15 => ?_)
  · rw [if_pos hc15] at hf
    refine pm_ldc (pc := 12) kcX12_96 dX12_hands_12 ?_
    exact pm_iret rfl dX12_hands_14 (pm_ri_e hf)
  · rw [if_neg hc15] at hf
    refine pm_aload_n (pc := 15) 0 dX12_hands_15 rfl rfl h0.pos ?_
    refine pm_getT (pc := 16) (k := 11) pm_cl12 flX12_25 (by decide) rfl h0 dX12_hands_16 (fun hr2 => ?_)
    refine pm_iconst (pc := 19) (5 : Int32) (by decide) dX12_hands_19 ?_
    obtain ⟨hb3, hf⟩ := pm_gd hf
    refine pm_iald (pc := 20) hr2 (pm_ib_in hb3) dX12_hands_20 ?_
    refine pm_if_ne (pc := 21) 26 dX12_hands_21 (by decide) (fun hc14 => ?_) (fun hc14 => ?_)
    · rw [if_pos hc14] at hf
      refine pm_iconst (pc := 24) (-1 : Int32) (by decide) dX12_hands_24 ?_
      exact pm_iret rfl dX12_hands_25 (pm_ri_e hf)
    · rw [if_neg hc14] at hf
      refine pm_iload_n (pc := 26) 1 dX12_hands_26 rfl rfl ?_
      by_cases hc5 : a1 = (0 : Int32)
      · rw [if_pos hc5] at hf
        refine pm_tin (pc := 27) (off := 25) 52 hc5 dX12_hands_27 (by decide) (by decide) ?_
        refine pm_aload_n (pc := 52) 0 dX12_hands_52 rfl rfl h0.pos ?_
        obtain ⟨u4, hu4, hf⟩ := pm_bind_e hf
        refine pm_cVi (pc := 53) (as := []) (st := []) mvX12_313 (KX12_mean l h0 hu4) (by decide) h0 rfl rfl (Nat.le_of_ble_eq_true rfl) rfl dX12_hands_53 ?_
        exact pm_iret rfl dX12_hands_56 (pm_ri_e hf)
      · rw [if_neg hc5] at hf
        by_cases hc7 : a1 = (1 : Int32)
        · rw [if_pos hc7] at hf
          refine pm_tin (pc := 27) (off := 30) 57 hc7 dX12_hands_27 (by decide) (by decide) ?_
          refine pm_aload_n (pc := 57) 0 dX12_hands_57 rfl rfl h0.pos ?_
          obtain ⟨u6, hu6, hf⟩ := pm_bind_e hf
          refine pm_cVi (pc := 58) (as := []) (st := []) mvX12_316 (KX12_middle l h0 hu6) (by decide) h0 rfl rfl (Nat.le_of_ble_eq_true rfl) rfl dX12_hands_58 ?_
          exact pm_iret rfl dX12_hands_61 (pm_ri_e hf)
        · rw [if_neg hc7] at hf
          by_cases hc10 : a1 = (2 : Int32)
          · rw [if_pos hc10] at hf
            refine pm_tin (pc := 27) (off := 35) 62 hc10 dX12_hands_27 (by decide) (by decide) ?_
            refine pm_aload_n (pc := 62) 0 dX12_hands_62 rfl rfl h0.pos ?_
            refine pm_aload_n (pc := 63) 0 dX12_hands_63 rfl rfl h0.pos ?_
            obtain ⟨u8, hu8, hf⟩ := pm_bind_e hf
            refine pm_cVi (pc := 64) (as := []) (st := [.ref a0]) mvX12_313 (KX12_mean l h0 hu8) (by decide) h0 rfl rfl (Nat.le_of_ble_eq_true rfl) rfl dX12_hands_64 ?_
            refine pm_iconst (pc := 67) (1 : Int32) (by decide) dX12_hands_67 ?_
            obtain ⟨u9, hu9, hf⟩ := pm_bind_e hf
            refine pm_cVi (pc := 68) (as := [.int u8.1, .int (1 : Int32)]) (st := []) mvX12_319 (KX12_handBy l h0 hu9) (by decide) h0 rfl rfl (Nat.le_of_ble_eq_true rfl) rfl dX12_hands_68 ?_
            exact pm_iret rfl dX12_hands_71 (pm_ri_e hf)
          · rw [if_neg hc10] at hf
            have q0 : ¬ (a1).toInt = 0 := lv_neT hc5 (by decide)
            have q1 : ¬ (a1).toInt = 1 := lv_neT hc7 (by decide)
            have q2 : ¬ (a1).toInt = 2 := lv_neT hc10 (by decide)
            refine pm_tableOut (pc := 27) 72 dX12_hands_27 (by omega) (by decide) ?_
            refine pm_aload_n (pc := 72) 0 dX12_hands_72 rfl rfl h0.pos ?_
            refine pm_aload_n (pc := 73) 0 dX12_hands_73 rfl rfl h0.pos ?_
            refine pm_getT (pc := 74) (k := 11) pm_cl12 flX12_25 (by decide) rfl h0 dX12_hands_74 (fun hr11 => ?_)
            refine pm_iconst (pc := 77) (0 : Int32) (by decide) dX12_hands_77 ?_
            obtain ⟨hb12, hf⟩ := pm_gd hf
            refine pm_iald (pc := 78) hr11 (pm_ib_in hb12) dX12_hands_78 ?_
            refine pm_iconst (pc := 79) (0 : Int32) (by decide) dX12_hands_79 ?_
            obtain ⟨u13, hu13, hf⟩ := pm_bind_e hf
            refine pm_cVi (pc := 80) (as := [.int (u1.2.1 (u1.2.2 a0 11) ((0 : Int32)).toNatClampNeg), .int (0 : Int32)]) (st := []) mvX12_319 (KX12_handBy l h0 hu13) (by decide) h0 rfl rfl (Nat.le_of_ble_eq_true rfl) rfl dX12_hands_80 ?_
            exact pm_iret rfl dX12_hands_83 (pm_ri_e hf)
def fX12_tens (S : pm_S) (a0 : Nat) (a1 : Int32) (a2 : Int32) (a3 : Int32) (σ : pm_H) : Option (Int32 × pm_H) :=
  Option.bind (fX12_in S a1.toInt64 (0 : Int64) (999 : Int64) σ) fun u1 => (if u1.1 = 0 then some ((-1000000002 : Int32), u1.2) else Option.bind (fX12_in S a2.toInt64 (0 : Int64) (11 : Int64) u1.2) fun u2 => (if u2.1 = 0 then some ((-1000000002 : Int32), u2.2) else Option.bind (fX12_in S a3.toInt64 (0 : Int64) (1 : Int64) u2.2) fun u3 => (if u3.1 = 0 then some ((-1000000002 : Int32), u3.2) else pm_let ((10 : Int32) * (((12 : Int32) * a1) + a2)) fun x4 => (if a3 = 0 then some ((x4 / (12 : Int32)), u3.2) else some ((pm_rem x4 (12 : Int32)), u3.2)))))
set_option maxRecDepth 100000 in
set_option maxHeartbeats 4000000 in
theorem KX12_tens (l : Launch) {S : pm_S} {p : Int32 × pm_H} {a0 : Nat} {a1 : Int32} {a2 : Int32} {a3 : Int32} {σ : pm_H} (h0 : pm_is S a0 15) (hf : fX12_tens S a0 a1 a2 a3 σ = some p) : pm_M l yX12_tens cX12_tens 5 (some .int) false 1 [.ref a0, .int a1, .int a2, .int a3] S σ (pm_ri S p) := by
  refine pm_M.of (by decide +kernel) (Nat.le_of_ble_eq_true rfl) ?_
  show pm_E l yX12_tens cX12_tens 5 (some .int) false 1 S (pm_ri S p) 0 [(0, .ref a0), (1, .int a1), (2, .int a2), (3, .int a3)] [] S σ
  rw [fX12_tens] at hf
  refine pm_iload_n (pc := 0) 1 dX12_tens_0 rfl rfl ?_
  refine pm_i2l (pc := 1) dX12_tens_1 ?_
  refine pm_lconst (pc := 2) (0 : Int64) (by decide) dX12_tens_2 ?_
  refine pm_ldc2 (pc := 3) klX12_265 dX12_tens_3 ?_
  obtain ⟨u1, hu1, hf⟩ := pm_bind_e hf
  refine pm_cSi (pc := 6) (as := [.long a1.toInt64, .long (0 : Int64), .long (999 : Int64)]) (st := []) msX12_87 (KX12_in l  hu1) (by decide) rfl rfl (Nat.le_of_ble_eq_true rfl) rfl dX12_tens_6 ?_
  refine pm_if_eq (pc := 9) 34 dX12_tens_9 (by decide) (fun hc8 => ?_) (fun hc8 => ?_)
  · rw [if_pos hc8] at hf
    refine pm_ldc (pc := 34) kcX12_96 dX12_tens_34 ?_
    exact pm_iret rfl dX12_tens_36 (pm_ri_e hf)
  · rw [if_neg hc8] at hf
    refine pm_iload_n (pc := 12) 2 dX12_tens_12 rfl rfl ?_
    refine pm_i2l (pc := 13) dX12_tens_13 ?_
    refine pm_lconst (pc := 14) (0 : Int64) (by decide) dX12_tens_14 ?_
    refine pm_ldc2 (pc := 15) klX12_245 dX12_tens_15 ?_
    obtain ⟨u2, hu2, hf⟩ := pm_bind_e hf
    refine pm_cSi (pc := 18) (as := [.long a2.toInt64, .long (0 : Int64), .long (11 : Int64)]) (st := []) msX12_87 (KX12_in l  hu2) (by decide) rfl rfl (Nat.le_of_ble_eq_true rfl) rfl dX12_tens_18 ?_
    refine pm_if_eq (pc := 21) 34 dX12_tens_21 (by decide) (fun hc7 => ?_) (fun hc7 => ?_)
    · rw [if_pos hc7] at hf
      refine pm_ldc (pc := 34) kcX12_96 dX12_tens_34 ?_
      exact pm_iret rfl dX12_tens_36 (pm_ri_e hf)
    · rw [if_neg hc7] at hf
      refine pm_iload_n (pc := 24) 3 dX12_tens_24 rfl rfl ?_
      refine pm_i2l (pc := 25) dX12_tens_25 ?_
      refine pm_lconst (pc := 26) (0 : Int64) (by decide) dX12_tens_26 ?_
      refine pm_lconst (pc := 27) (1 : Int64) (by decide) dX12_tens_27 ?_
      obtain ⟨u3, hu3, hf⟩ := pm_bind_e hf
      refine pm_cSi (pc := 28) (as := [.long a3.toInt64, .long (0 : Int64), .long (1 : Int64)]) (st := []) msX12_87 (KX12_in l  hu3) (by decide) rfl rfl (Nat.le_of_ble_eq_true rfl) rfl dX12_tens_28 ?_
      refine pm_if_ne (pc := 31) 37 dX12_tens_31 (by decide) (fun hc6 => ?_) (fun hc6 => ?_)
      · rw [if_pos hc6] at hf
        refine pm_ldc (pc := 34) kcX12_96 dX12_tens_34 ?_
        exact pm_iret rfl dX12_tens_36 (pm_ri_e hf)
      · rw [if_neg hc6] at hf
        refine pm_bipush (pc := 37) (10 : Int32) (by decide) dX12_tens_37 ?_
        refine pm_bipush (pc := 39) (12 : Int32) (by decide) dX12_tens_39 ?_
        refine pm_iload_n (pc := 41) 1 dX12_tens_41 rfl rfl ?_
        refine pm_imul (pc := 42) dX12_tens_42 ?_
        refine pm_iload_n (pc := 43) 2 dX12_tens_43 rfl rfl ?_
        refine pm_iadd (pc := 44) dX12_tens_44 ?_
        refine pm_imul (pc := 45) dX12_tens_45 ?_
        obtain ⟨x4, ex4, hf⟩ := pm_let_e hf
        refine pm_nmi ex4 ?_
        refine pm_istore (pc := 46) [(4, .int x4), (0, .ref a0), (1, .int a1), (2, .int a2), (3, .int a3)] dX12_tens_46 (by decide) rfl ?_
        refine pm_iload_n (pc := 48) 4 dX12_tens_48 rfl rfl ?_
        refine pm_if_ne (pc := 49) 60 dX12_tens_49 (by decide) (fun hc5 => ?_) (fun hc5 => ?_)
        · rw [if_pos hc5] at hf
          refine pm_iload (pc := 52) 0 dX12_tens_52 rfl ?_
          refine pm_bipush (pc := 54) (12 : Int32) (by decide) dX12_tens_54 ?_
          refine pm_idiv (pc := 56) (by decide) dX12_tens_56 ?_
          refine pm_goto (pc := 57) 65 dX12_tens_57 (by decide) ?_
          exact pm_iret rfl dX12_tens_65 (pm_ri_e hf)
        · rw [if_neg hc5] at hf
          refine pm_iload (pc := 60) 0 dX12_tens_60 rfl ?_
          refine pm_bipush (pc := 62) (12 : Int32) (by decide) dX12_tens_62 ?_
          refine pm_irem (pc := 64) (by decide) dX12_tens_64 ?_
          exact pm_iret rfl dX12_tens_65 (pm_ri_e hf)
def fX12_lean (S : pm_S) (a0 : Nat) (a1 : Int32) (a2 : Int32) (a3 : Int32) (σ : pm_H) : Option (Int32 × pm_H) :=
  Option.bind (fX12_in S a1.toInt64 (0 : Int64) (999 : Int64) σ) fun u1 => (if u1.1 = 0 then some ((-1000000002 : Int32), u1.2) else Option.bind (fX12_in S a2.toInt64 (0 : Int64) (99 : Int64) u1.2) fun u2 => (if u2.1 = 0 then some ((-1000000002 : Int32), u2.2) else Option.bind (fX12_in S a3.toInt64 (0 : Int64) (99 : Int64) u2.2) fun u3 => (if u3.1 = 0 then some ((-1000000002 : Int32), u3.2) else (if a1 = 0 then some ((0 : Int32), u3.2) else (if (a2 + a3) = 0 then some ((-1 : Int32), u3.2) else if (a2 + a3) = 0 then none else some (((((a1 + a2) + a3) - (1 : Int32)) / (a2 + a3)), u3.2))))))
set_option maxRecDepth 100000 in
set_option maxHeartbeats 4000000 in
theorem KX12_lean (l : Launch) {S : pm_S} {p : Int32 × pm_H} {a0 : Nat} {a1 : Int32} {a2 : Int32} {a3 : Int32} {σ : pm_H} (h0 : pm_is S a0 15) (hf : fX12_lean S a0 a1 a2 a3 σ = some p) : pm_M l yX12_lean cX12_lean 4 (some .int) false 1 [.ref a0, .int a1, .int a2, .int a3] S σ (pm_ri S p) := by
  refine pm_M.of (by decide +kernel) (Nat.le_of_ble_eq_true rfl) ?_
  show pm_E l yX12_lean cX12_lean 4 (some .int) false 1 S (pm_ri S p) 0 [(0, .ref a0), (1, .int a1), (2, .int a2), (3, .int a3)] [] S σ
  rw [fX12_lean] at hf
  refine pm_iload_n (pc := 0) 1 dX12_lean_0 rfl rfl ?_
  refine pm_i2l (pc := 1) dX12_lean_1 ?_
  refine pm_lconst (pc := 2) (0 : Int64) (by decide) dX12_lean_2 ?_
  refine pm_ldc2 (pc := 3) klX12_265 dX12_lean_3 ?_
  obtain ⟨u1, hu1, hf⟩ := pm_bind_e hf
  refine pm_cSi (pc := 6) (as := [.long a1.toInt64, .long (0 : Int64), .long (999 : Int64)]) (st := []) msX12_87 (KX12_in l  hu1) (by decide) rfl rfl (Nat.le_of_ble_eq_true rfl) rfl dX12_lean_6 ?_
  refine pm_if_eq (pc := 9) 36 dX12_lean_9 (by decide) (fun hc9 => ?_) (fun hc9 => ?_)
  · rw [if_pos hc9] at hf
    refine pm_ldc (pc := 36) kcX12_96 dX12_lean_36 ?_
    exact pm_iret rfl dX12_lean_38 (pm_ri_e hf)
  · rw [if_neg hc9] at hf
    refine pm_iload_n (pc := 12) 2 dX12_lean_12 rfl rfl ?_
    refine pm_i2l (pc := 13) dX12_lean_13 ?_
    refine pm_lconst (pc := 14) (0 : Int64) (by decide) dX12_lean_14 ?_
    refine pm_ldc2 (pc := 15) klX12_255 dX12_lean_15 ?_
    obtain ⟨u2, hu2, hf⟩ := pm_bind_e hf
    refine pm_cSi (pc := 18) (as := [.long a2.toInt64, .long (0 : Int64), .long (99 : Int64)]) (st := []) msX12_87 (KX12_in l  hu2) (by decide) rfl rfl (Nat.le_of_ble_eq_true rfl) rfl dX12_lean_18 ?_
    refine pm_if_eq (pc := 21) 36 dX12_lean_21 (by decide) (fun hc8 => ?_) (fun hc8 => ?_)
    · rw [if_pos hc8] at hf
      refine pm_ldc (pc := 36) kcX12_96 dX12_lean_36 ?_
      exact pm_iret rfl dX12_lean_38 (pm_ri_e hf)
    · rw [if_neg hc8] at hf
      refine pm_iload_n (pc := 24) 3 dX12_lean_24 rfl rfl ?_
      refine pm_i2l (pc := 25) dX12_lean_25 ?_
      refine pm_lconst (pc := 26) (0 : Int64) (by decide) dX12_lean_26 ?_
      refine pm_ldc2 (pc := 27) klX12_255 dX12_lean_27 ?_
      obtain ⟨u3, hu3, hf⟩ := pm_bind_e hf
      refine pm_cSi (pc := 30) (as := [.long a3.toInt64, .long (0 : Int64), .long (99 : Int64)]) (st := []) msX12_87 (KX12_in l  hu3) (by decide) rfl rfl (Nat.le_of_ble_eq_true rfl) rfl dX12_lean_30 ?_
      refine pm_if_ne (pc := 33) 39 dX12_lean_33 (by decide) (fun hc7 => ?_) (fun hc7 => ?_)
      · rw [if_pos hc7] at hf
        refine pm_ldc (pc := 36) kcX12_96 dX12_lean_36 ?_
        exact pm_iret rfl dX12_lean_38 (pm_ri_e hf)
      · rw [if_neg hc7] at hf
        refine pm_iload_n (pc := 39) 1 dX12_lean_39 rfl rfl ?_
        refine pm_if_ne (pc := 40) 45 dX12_lean_40 (by decide) (fun hc6 => ?_) (fun hc6 => ?_)
        · rw [if_pos hc6] at hf
          refine pm_iconst (pc := 43) (0 : Int32) (by decide) dX12_lean_43 ?_
          exact pm_iret rfl dX12_lean_44 (pm_ri_e hf)
        · rw [if_neg hc6] at hf
          refine pm_iload_n (pc := 45) 2 dX12_lean_45 rfl rfl ?_
          refine pm_iload_n (pc := 46) 3 dX12_lean_46 rfl rfl ?_
          refine pm_iadd (pc := 47) dX12_lean_47 ?_
          refine pm_if_ne (pc := 48) 55 dX12_lean_48 (by decide) (fun hc5 => ?_) (fun hc5 => ?_)
          · rw [if_pos hc5] at hf
            refine pm_iconst (pc := 51) (-1 : Int32) (by decide) dX12_lean_51 ?_
            refine pm_goto (pc := 52) 66 dX12_lean_52 (by decide) ?_
            exact pm_iret rfl dX12_lean_66 (pm_ri_e hf)
          · rw [if_neg hc5] at hf
            refine pm_iload_n (pc := 55) 1 dX12_lean_55 rfl rfl ?_
            refine pm_iload_n (pc := 56) 2 dX12_lean_56 rfl rfl ?_
            refine pm_iadd (pc := 57) dX12_lean_57 ?_
            refine pm_iload_n (pc := 58) 3 dX12_lean_58 rfl rfl ?_
            refine pm_iadd (pc := 59) dX12_lean_59 ?_
            refine pm_iconst (pc := 60) (1 : Int32) (by decide) dX12_lean_60 ?_
            refine pm_isub (pc := 61) dX12_lean_61 ?_
            refine pm_iload_n (pc := 62) 2 dX12_lean_62 rfl rfl ?_
            refine pm_iload_n (pc := 63) 3 dX12_lean_63 rfl rfl ?_
            refine pm_iadd (pc := 64) dX12_lean_64 ?_
            obtain ⟨hz4, hf⟩ := pm_gz hf
            refine pm_idiv (pc := 65) hz4 dX12_lean_65 ?_
            exact pm_iret rfl dX12_lean_66 (pm_ri_e hf)
def fX12_foundBy_L34 (S : pm_S) (v1 : Int32) (v2 : Int32) (kx : Int64 → pm_H → Option (Int32 × pm_H)) : Nat → Int64 → Int32 → pm_H → Option (Int32 × pm_H)
  | 0, _, _, _ => none
  | n + 1, v3, v5, σ => (if v1 ≤ v5 then kx v3 σ else pm_let ((v3 * ((100 : Int32) - v2).toInt64) / (100 : Int64)) fun x3 => fX12_foundBy_L34 S v1 v2 kx n x3 (v5 + (1 : Int32)) σ)
set_option maxRecDepth 100000 in
set_option maxHeartbeats 4000000 in
theorem fX12_foundBy_L34_E (l : Launch) {S : pm_S} {p : Int32 × pm_H} {v1 : Int32} {v2 : Int32} {kx : Int64 → pm_H → Option (Int32 × pm_H)} (hkx : ∀ w3 sw, kx w3 sw = some p → pm_E l yX12_foundBy cX12_foundBy 6 (some .int) false 1 S (pm_ri S p) 58 [(3, .long w3)] [] S sw) : ∀ (n : Nat) (v3 : Int64) (v5 : Int32) (σ : pm_H), fX12_foundBy_L34 S v1 v2 kx n v3 v5 σ = some p → pm_E l yX12_foundBy cX12_foundBy 6 (some .int) false 1 S (pm_ri S p) 34 [(1, .int v1), (2, .int v2), (3, .long v3), (5, .int v5)] [] S σ := by
  intro n
  induction n with
  | zero => intro v3 v5 σ hf; cases hf
  | succ n ih =>
    intro v3 v5 σ hf
    rw [fX12_foundBy_L34] at hf
    refine pm_iload (pc := 34) 3 dX12_foundBy_34 rfl ?_
    refine pm_iload_n (pc := 36) 0 dX12_foundBy_36 rfl rfl ?_
    refine pm_icmp_ge (pc := 37) 58 dX12_foundBy_37 (by decide) (fun hc4 => ?_) (fun hc4 => ?_)
    · rw [if_pos hc4] at hf
      refine pm_lv [(3, .long v3)] [2] rfl ?_
      exact hkx v3 σ hf
    · rw [if_neg hc4] at hf
      refine pm_lload_n (pc := 40) 2 dX12_foundBy_40 rfl rfl ?_
      refine pm_bipush (pc := 41) (100 : Int32) (by decide) dX12_foundBy_41 ?_
      refine pm_iload_n (pc := 43) 1 dX12_foundBy_43 rfl rfl ?_
      refine pm_isub (pc := 44) dX12_foundBy_44 ?_
      refine pm_i2l (pc := 45) dX12_foundBy_45 ?_
      refine pm_lmul (pc := 46) dX12_foundBy_46 ?_
      refine pm_ldc2 (pc := 47) klX12_323 dX12_foundBy_47 ?_
      refine pm_ldiv (pc := 50) (by decide) dX12_foundBy_50 ?_
      obtain ⟨x3, ex3, hf⟩ := pm_let_e hf
      refine pm_nml ex3 ?_
      refine pm_lstore_n (pc := 51) [(3, .long x3), (1, .int v1), (2, .int v2), (5, .int v5)] dX12_foundBy_51 rfl (by decide) rfl ?_
      refine pm_iinc (pc := 52) 3 (v5 + (1 : Int32)) [(5, .int (v5 + (1 : Int32))), (3, .long x3), (1, .int v1), (2, .int v2)] dX12_foundBy_52 rfl rfl (by decide) rfl ?_
      refine pm_goto (pc := 55) 34 dX12_foundBy_55 (by decide) ?_
      refine pm_lv [(1, .int v1), (2, .int v2), (3, .long x3), (5, .int (v5 + (1 : Int32)))] [2, 3, 1, 0] rfl ?_
      exact ih x3 (v5 + (1 : Int32)) σ hf
def fX12_foundBy (S : pm_S) (a0 : Nat) (a1 : Int32) (a2 : Int32) (σ : pm_H) : Option (Int32 × pm_H) :=
  Option.bind (fX12_in S a1.toInt64 (0 : Int64) (60 : Int64) σ) fun u1 => (if u1.1 = 0 then some ((-1000000002 : Int32), u1.2) else Option.bind (fX12_in S a2.toInt64 (0 : Int64) (100 : Int64) u1.2) fun u2 => (if u2.1 = 0 then some ((-1000000002 : Int32), u2.2) else fX12_foundBy_L34 S a1 a2 (fun w5 s6 => some (w5.toInt32, s6)) pm_fuel (1000000000 : Int64) (0 : Int32) u2.2))
set_option maxRecDepth 100000 in
set_option maxHeartbeats 4000000 in
theorem KX12_foundBy (l : Launch) {S : pm_S} {p : Int32 × pm_H} {a0 : Nat} {a1 : Int32} {a2 : Int32} {σ : pm_H} (h0 : pm_is S a0 15) (hf : fX12_foundBy S a0 a1 a2 σ = some p) : pm_M l yX12_foundBy cX12_foundBy 6 (some .int) false 1 [.ref a0, .int a1, .int a2] S σ (pm_ri S p) := by
  refine pm_M.of (by decide +kernel) (Nat.le_of_ble_eq_true rfl) ?_
  show pm_E l yX12_foundBy cX12_foundBy 6 (some .int) false 1 S (pm_ri S p) 0 [(0, .ref a0), (1, .int a1), (2, .int a2)] [] S σ
  rw [fX12_foundBy] at hf
  refine pm_iload_n (pc := 0) 1 dX12_foundBy_0 rfl rfl ?_
  refine pm_i2l (pc := 1) dX12_foundBy_1 ?_
  refine pm_lconst (pc := 2) (0 : Int64) (by decide) dX12_foundBy_2 ?_
  refine pm_ldc2 (pc := 3) klX12_229 dX12_foundBy_3 ?_
  obtain ⟨u1, hu1, hf⟩ := pm_bind_e hf
  refine pm_cSi (pc := 6) (as := [.long a1.toInt64, .long (0 : Int64), .long (60 : Int64)]) (st := []) msX12_87 (KX12_in l  hu1) (by decide) rfl rfl (Nat.le_of_ble_eq_true rfl) rfl dX12_foundBy_6 ?_
  refine pm_if_eq (pc := 9) 24 dX12_foundBy_9 (by decide) (fun hc8 => ?_) (fun hc8 => ?_)
  · rw [if_pos hc8] at hf
    refine pm_ldc (pc := 24) kcX12_96 dX12_foundBy_24 ?_
    exact pm_iret rfl dX12_foundBy_26 (pm_ri_e hf)
  · rw [if_neg hc8] at hf
    refine pm_iload_n (pc := 12) 2 dX12_foundBy_12 rfl rfl ?_
    refine pm_i2l (pc := 13) dX12_foundBy_13 ?_
    refine pm_lconst (pc := 14) (0 : Int64) (by decide) dX12_foundBy_14 ?_
    refine pm_ldc2 (pc := 15) klX12_323 dX12_foundBy_15 ?_
    obtain ⟨u2, hu2, hf⟩ := pm_bind_e hf
    refine pm_cSi (pc := 18) (as := [.long a2.toInt64, .long (0 : Int64), .long (100 : Int64)]) (st := []) msX12_87 (KX12_in l  hu2) (by decide) rfl rfl (Nat.le_of_ble_eq_true rfl) rfl dX12_foundBy_18 ?_
    refine pm_if_ne (pc := 21) 27 dX12_foundBy_21 (by decide) (fun hc7 => ?_) (fun hc7 => ?_)
    · rw [if_pos hc7] at hf
      refine pm_ldc (pc := 24) kcX12_96 dX12_foundBy_24 ?_
      exact pm_iret rfl dX12_foundBy_26 (pm_ri_e hf)
    · rw [if_neg hc7] at hf
      refine pm_ldc2 (pc := 27) klX12_325 dX12_foundBy_27 ?_
      refine pm_lstore_n (pc := 30) [(3, .long (1000000000 : Int64)), (0, .ref a0), (1, .int a1), (2, .int a2)] dX12_foundBy_30 rfl (by decide) rfl ?_
      refine pm_iconst (pc := 31) (0 : Int32) (by decide) dX12_foundBy_31 ?_
      refine pm_istore (pc := 32) [(5, .int (0 : Int32)), (3, .long (1000000000 : Int64)), (0, .ref a0), (1, .int a1), (2, .int a2)] dX12_foundBy_32 (by decide) rfl ?_
      refine pm_lv [(1, .int a1), (2, .int a2), (3, .long (1000000000 : Int64)), (5, .int (0 : Int32))] [3, 4, 1, 0] rfl ?_
      refine fX12_foundBy_L34_E l  (fun w5 s6 hf => ?_) pm_fuel (1000000000 : Int64) (0 : Int32) u2.2 hf
      refine pm_lload_n (pc := 58) 0 dX12_foundBy_58 rfl rfl ?_
      refine pm_l2i (pc := 59) dX12_foundBy_59 ?_
      exact pm_iret rfl dX12_foundBy_60 (pm_ri_e hf)
def fX12_see (S : pm_S) (a0 : Nat) (a1 : Int32) (a2 : Int32) (σ : pm_H) : Option (Int32 × pm_H) :=
  Option.bind (fX12_in S a1.toInt64 (1 : Int64) (9 : Int64) σ) fun u1 => (if u1.1 = 0 then some ((-1000000002 : Int32), u1.2) else Option.bind (fX12_in S a2.toInt64 (0 : Int64) (9999 : Int64) u1.2) fun u2 => (if u2.1 = 0 then some ((-1000000002 : Int32), u2.2) else (if (u2.2.1 a0 34) = (6 : Int32) then some ((-1000000004 : Int32), u2.2) else (if pm_ib (u2.2.1 a0 34) (pm_len S (u2.2.2 a0 35)) = true then pm_let (pm_si u2.2 (u2.2.2 a0 35) ((u2.2.1 a0 34)).toNatClampNeg a1) fun s5 => (if pm_ib (s5.1 a0 34) (pm_len S (s5.2 a0 36)) = true then pm_let (pm_si s5 (s5.2 a0 36) ((s5.1 a0 34)).toNatClampNeg a2) fun s8 => pm_let (pm_si s8 a0 34 ((s8.1 a0 34) + (1 : Int32))) fun s9 => some ((s9.1 a0 34), s9) else none) else none))))
set_option maxRecDepth 100000 in
set_option maxHeartbeats 4000000 in
theorem KX12_see (l : Launch) {S : pm_S} {p : Int32 × pm_H} {a0 : Nat} {a1 : Int32} {a2 : Int32} {σ : pm_H} (h0 : pm_is S a0 15) (hf : fX12_see S a0 a1 a2 σ = some p) : pm_M l yX12_see cX12_see 3 (some .int) false 1 [.ref a0, .int a1, .int a2] S σ (pm_ri S p) := by
  refine pm_M.of (by decide +kernel) (Nat.le_of_ble_eq_true rfl) ?_
  show pm_E l yX12_see cX12_see 3 (some .int) false 1 S (pm_ri S p) 0 [(0, .ref a0), (1, .int a1), (2, .int a2)] [] S σ
  rw [fX12_see] at hf
  refine pm_iload_n (pc := 0) 1 dX12_see_0 rfl rfl ?_
  refine pm_i2l (pc := 1) dX12_see_1 ?_
  refine pm_lconst (pc := 2) (1 : Int64) (by decide) dX12_see_2 ?_
  refine pm_ldc2 (pc := 3) klX12_327 dX12_see_3 ?_
  obtain ⟨u1, hu1, hf⟩ := pm_bind_e hf
  refine pm_cSi (pc := 6) (as := [.long a1.toInt64, .long (1 : Int64), .long (9 : Int64)]) (st := []) msX12_87 (KX12_in l  hu1) (by decide) rfl rfl (Nat.le_of_ble_eq_true rfl) rfl dX12_see_6 ?_
  refine pm_if_eq (pc := 9) 24 dX12_see_9 (by decide) (fun hc12 => ?_) (fun hc12 => ?_)
  · rw [if_pos hc12] at hf
    refine pm_ldc (pc := 24) kcX12_96 dX12_see_24 ?_
    exact pm_iret rfl dX12_see_26 (pm_ri_e hf)
  · rw [if_neg hc12] at hf
    refine pm_iload_n (pc := 12) 2 dX12_see_12 rfl rfl ?_
    refine pm_i2l (pc := 13) dX12_see_13 ?_
    refine pm_lconst (pc := 14) (0 : Int64) (by decide) dX12_see_14 ?_
    refine pm_ldc2 (pc := 15) klX12_309 dX12_see_15 ?_
    obtain ⟨u2, hu2, hf⟩ := pm_bind_e hf
    refine pm_cSi (pc := 18) (as := [.long a2.toInt64, .long (0 : Int64), .long (9999 : Int64)]) (st := []) msX12_87 (KX12_in l  hu2) (by decide) rfl rfl (Nat.le_of_ble_eq_true rfl) rfl dX12_see_18 ?_
    refine pm_if_ne (pc := 21) 27 dX12_see_21 (by decide) (fun hc11 => ?_) (fun hc11 => ?_)
    · rw [if_pos hc11] at hf
      refine pm_ldc (pc := 24) kcX12_96 dX12_see_24 ?_
      exact pm_iret rfl dX12_see_26 (pm_ri_e hf)
    · rw [if_neg hc11] at hf
      refine pm_aload_n (pc := 27) 0 dX12_see_27 rfl rfl h0.pos ?_
      refine pm_getI (pc := 28) (k := 34) pm_cl12 flX12_189 (by decide) rfl h0 dX12_see_28 ?_
      refine pm_bipush (pc := 31) (6 : Int32) (by decide) dX12_see_31 ?_
      refine pm_icmp_ne (pc := 33) 39 dX12_see_33 (by decide) (fun hc10 => ?_) (fun hc10 => ?_)
      · rw [if_pos hc10] at hf
        refine pm_ldc (pc := 36) kcX12_100 dX12_see_36 ?_
        exact pm_iret rfl dX12_see_38 (pm_ri_e hf)
      · rw [if_neg hc10] at hf
        refine pm_aload_n (pc := 39) 0 dX12_see_39 rfl rfl h0.pos ?_
        refine pm_getT (pc := 40) (k := 35) pm_cl12 flX12_59 (by decide) rfl h0 dX12_see_40 (fun hr3 => ?_)
        refine pm_aload_n (pc := 43) 0 dX12_see_43 rfl rfl h0.pos ?_
        refine pm_getI (pc := 44) (k := 34) pm_cl12 flX12_189 (by decide) rfl h0 dX12_see_44 ?_
        refine pm_iload_n (pc := 47) 1 dX12_see_47 rfl rfl ?_
        obtain ⟨hb4, hf⟩ := pm_gd hf
        refine pm_iast (pc := 48) hr3 (pm_ib_in hb4) dX12_see_48 ?_
        obtain ⟨s5, es5, hf⟩ := pm_let_e hf
        refine pm_nmh es5 ?_
        refine pm_aload_n (pc := 49) 0 dX12_see_49 rfl rfl h0.pos ?_
        refine pm_getT (pc := 50) (k := 36) pm_cl12 flX12_62 (by decide) rfl h0 dX12_see_50 (fun hr6 => ?_)
        refine pm_aload_n (pc := 53) 0 dX12_see_53 rfl rfl h0.pos ?_
        refine pm_getI (pc := 54) (k := 34) pm_cl12 flX12_189 (by decide) rfl h0 dX12_see_54 ?_
        refine pm_iload_n (pc := 57) 2 dX12_see_57 rfl rfl ?_
        obtain ⟨hb7, hf⟩ := pm_gd hf
        refine pm_iast (pc := 58) hr6 (pm_ib_in hb7) dX12_see_58 ?_
        obtain ⟨s8, es8, hf⟩ := pm_let_e hf
        refine pm_nmh es8 ?_
        refine pm_aload_n (pc := 59) 0 dX12_see_59 rfl rfl h0.pos ?_
        refine pm_dup (pc := 60) rfl dX12_see_60 ?_
        refine pm_getI (pc := 61) (k := 34) pm_cl12 flX12_189 (by decide) rfl h0 dX12_see_61 ?_
        refine pm_iconst (pc := 64) (1 : Int32) (by decide) dX12_see_64 ?_
        refine pm_iadd (pc := 65) dX12_see_65 ?_
        refine pm_putI (pc := 66) (k := 34) pm_cl12 flX12_189 (by decide) rfl rfl rfl h0 dX12_see_66 ?_
        obtain ⟨s9, es9, hf⟩ := pm_let_e hf
        refine pm_nmh es9 ?_
        refine pm_aload_n (pc := 69) 0 dX12_see_69 rfl rfl h0.pos ?_
        refine pm_getI (pc := 70) (k := 34) pm_cl12 flX12_189 (by decide) rfl h0 dX12_see_70 ?_
        exact pm_iret rfl dX12_see_73 (pm_ri_e hf)
def fX12_couldBe_L5 (S : pm_S) (v0 : Nat) (v1 : Int32) (v2 : Int32) (kx : Int32 → pm_H → Option (Int32 × pm_H)) : Nat → Int32 → Int32 → pm_H → Option (Int32 × pm_H)
  | 0, _, _, _ => none
  | n + 1, v3, v4, σ => (if (σ.1 v0 34) ≤ v4 then kx v3 σ else (if v3 = 0 then kx v3 σ else (if pm_ib v4 (pm_len S (σ.2 v0 35)) = true then (if pm_ib v4 (pm_len S (σ.2 v0 36)) = true then (if ((v1 * (σ.1 (σ.2 v0 35) (v4).toNatClampNeg)) + v2) = (σ.1 (σ.2 v0 36) (v4).toNatClampNeg) then fX12_couldBe_L5 S v0 v1 v2 kx n (1 : Int32) (v4 + (1 : Int32)) σ else fX12_couldBe_L5 S v0 v1 v2 kx n (0 : Int32) (v4 + (1 : Int32)) σ) else none) else none)))
set_option maxRecDepth 100000 in
set_option maxHeartbeats 4000000 in
theorem fX12_couldBe_L5_E (l : Launch) {S : pm_S} {p : Int32 × pm_H} {v0 : Nat} {v1 : Int32} {v2 : Int32} {kx : Int32 → pm_H → Option (Int32 × pm_H)} (h0 : pm_is S v0 15) (hkx : ∀ w3 sw, kx w3 sw = some p → pm_E l yX12_couldBe cX12_couldBe 5 (some .boolean) false 0 S (pm_ri S p) 51 [(3, .int w3)] [] S sw) : ∀ (n : Nat) (v3 : Int32) (v4 : Int32) (σ : pm_H), fX12_couldBe_L5 S v0 v1 v2 kx n v3 v4 σ = some p → pm_E l yX12_couldBe cX12_couldBe 5 (some .boolean) false 0 S (pm_ri S p) 5 [(0, .ref v0), (1, .int v1), (2, .int v2), (3, .int v3), (4, .int v4)] [] S σ := by
  intro n
  induction n with
  | zero => intro v3 v4 σ hf; cases hf
  | succ n ih =>
    intro v3 v4 σ hf
    rw [fX12_couldBe_L5] at hf
    refine pm_iload (pc := 5) 4 dX12_couldBe_5 rfl ?_
    refine pm_aload_n (pc := 7) 0 dX12_couldBe_7 rfl rfl h0.pos ?_
    refine pm_getI (pc := 8) (k := 34) pm_cl12 flX12_189 (by decide) rfl h0 dX12_couldBe_8 ?_
    refine pm_icmp_ge (pc := 11) 51 dX12_couldBe_11 (by decide) (fun hc7 => ?_) (fun hc7 => ?_)
    · rw [if_pos hc7] at hf
      refine pm_lv [(3, .int v3)] [3] rfl ?_
      exact hkx v3 σ hf
    · rw [if_neg hc7] at hf
      refine pm_iload_n (pc := 14) 3 dX12_couldBe_14 rfl rfl ?_
      refine pm_if_eq (pc := 15) 51 dX12_couldBe_15 (by decide) (fun hc6 => ?_) (fun hc6 => ?_)
      · rw [if_pos hc6] at hf
        refine pm_lv [(3, .int v3)] [3] rfl ?_
        exact hkx v3 σ hf
      · rw [if_neg hc6] at hf
        refine pm_iload_n (pc := 18) 1 dX12_couldBe_18 rfl rfl ?_
        refine pm_aload_n (pc := 19) 0 dX12_couldBe_19 rfl rfl h0.pos ?_
        refine pm_getT (pc := 20) (k := 35) pm_cl12 flX12_59 (by decide) rfl h0 dX12_couldBe_20 (fun hr1 => ?_)
        refine pm_iload (pc := 23) 4 dX12_couldBe_23 rfl ?_
        obtain ⟨hb2, hf⟩ := pm_gd hf
        refine pm_iald (pc := 25) hr1 (pm_ib_in hb2) dX12_couldBe_25 ?_
        refine pm_imul (pc := 26) dX12_couldBe_26 ?_
        refine pm_iload_n (pc := 27) 2 dX12_couldBe_27 rfl rfl ?_
        refine pm_iadd (pc := 28) dX12_couldBe_28 ?_
        refine pm_aload_n (pc := 29) 0 dX12_couldBe_29 rfl rfl h0.pos ?_
        refine pm_getT (pc := 30) (k := 36) pm_cl12 flX12_62 (by decide) rfl h0 dX12_couldBe_30 (fun hr3 => ?_)
        refine pm_iload (pc := 33) 4 dX12_couldBe_33 rfl ?_
        obtain ⟨hb4, hf⟩ := pm_gd hf
        refine pm_iald (pc := 35) hr3 (pm_ib_in hb4) dX12_couldBe_35 ?_
        refine pm_icmp_ne (pc := 36) 43 dX12_couldBe_36 (by decide) (fun hc5 => ?_) (fun hc5 => ?_)
        · rw [if_pos hc5] at hf
          refine pm_iconst (pc := 39) (1 : Int32) (by decide) dX12_couldBe_39 ?_
          refine pm_goto (pc := 40) 44 dX12_couldBe_40 (by decide) ?_
          refine pm_istore_n (pc := 44) [(3, .int (1 : Int32)), (0, .ref v0), (1, .int v1), (2, .int v2), (4, .int v4)] dX12_couldBe_44 rfl (by decide) rfl ?_
          refine pm_iinc (pc := 45) 4 (v4 + (1 : Int32)) [(4, .int (v4 + (1 : Int32))), (3, .int (1 : Int32)), (0, .ref v0), (1, .int v1), (2, .int v2)] dX12_couldBe_45 rfl rfl (by decide) rfl ?_
          refine pm_goto (pc := 48) 5 dX12_couldBe_48 (by decide) ?_
          refine pm_lv [(0, .ref v0), (1, .int v1), (2, .int v2), (3, .int (1 : Int32)), (4, .int (v4 + (1 : Int32)))] [2, 3, 4, 1, 0] rfl ?_
          exact ih (1 : Int32) (v4 + (1 : Int32)) σ hf
        · rw [if_neg hc5] at hf
          refine pm_iconst (pc := 43) (0 : Int32) (by decide) dX12_couldBe_43 ?_
          refine pm_istore_n (pc := 44) [(3, .int (0 : Int32)), (0, .ref v0), (1, .int v1), (2, .int v2), (4, .int v4)] dX12_couldBe_44 rfl (by decide) rfl ?_
          refine pm_iinc (pc := 45) 4 (v4 + (1 : Int32)) [(4, .int (v4 + (1 : Int32))), (3, .int (0 : Int32)), (0, .ref v0), (1, .int v1), (2, .int v2)] dX12_couldBe_45 rfl rfl (by decide) rfl ?_
          refine pm_goto (pc := 48) 5 dX12_couldBe_48 (by decide) ?_
          refine pm_lv [(0, .ref v0), (1, .int v1), (2, .int v2), (3, .int (0 : Int32)), (4, .int (v4 + (1 : Int32)))] [2, 3, 4, 1, 0] rfl ?_
          exact ih (0 : Int32) (v4 + (1 : Int32)) σ hf
def fX12_couldBe (S : pm_S) (a0 : Nat) (a1 : Int32) (a2 : Int32) (σ : pm_H) : Option (Int32 × pm_H) :=
  fX12_couldBe_L5 S a0 a1 a2 (fun w8 s9 => (if pm_zb w8 = true then some (w8, s9) else none)) pm_fuel (1 : Int32) (0 : Int32) σ
set_option maxRecDepth 100000 in
set_option maxHeartbeats 4000000 in
theorem KX12_couldBe (l : Launch) {S : pm_S} {p : Int32 × pm_H} {a0 : Nat} {a1 : Int32} {a2 : Int32} {σ : pm_H} (h0 : pm_is S a0 15) (hf : fX12_couldBe S a0 a1 a2 σ = some p) : pm_M l yX12_couldBe cX12_couldBe 5 (some .boolean) false 0 [.ref a0, .int a1, .int a2] S σ (pm_ri S p) := by
  refine pm_M.of (by decide +kernel) (Nat.le_of_ble_eq_true rfl) ?_
  show pm_E l yX12_couldBe cX12_couldBe 5 (some .boolean) false 0 S (pm_ri S p) 0 [(0, .ref a0), (1, .int a1), (2, .int a2)] [] S σ
  rw [fX12_couldBe] at hf
  refine pm_iconst (pc := 0) (1 : Int32) (by decide) dX12_couldBe_0 ?_
  refine pm_istore_n (pc := 1) [(3, .int (1 : Int32)), (0, .ref a0), (1, .int a1), (2, .int a2)] dX12_couldBe_1 rfl (by decide) rfl ?_
  refine pm_iconst (pc := 2) (0 : Int32) (by decide) dX12_couldBe_2 ?_
  refine pm_istore (pc := 3) [(4, .int (0 : Int32)), (3, .int (1 : Int32)), (0, .ref a0), (1, .int a1), (2, .int a2)] dX12_couldBe_3 (by decide) rfl ?_
  refine pm_lv [(0, .ref a0), (1, .int a1), (2, .int a2), (3, .int (1 : Int32)), (4, .int (0 : Int32))] [2, 3, 4, 1, 0] rfl ?_
  refine fX12_couldBe_L5_E l h0 (fun w8 s9 hf => ?_) pm_fuel (1 : Int32) (0 : Int32) σ hf
  refine pm_iload_n (pc := 51) 0 dX12_couldBe_51 rfl rfl ?_
  obtain ⟨hz10, hf⟩ := pm_gd hf
  exact pm_zret rfl (pm_zb_or hz10) dX12_couldBe_52 (pm_ri_e hf)
def fX12_rods_J65 (S : pm_S) (v0 : Nat) (v1 : Int32) (v2 : Int32) (v4 : Int32) (v5 : Int32) (v6 : Int32) (t0 : Int32) (ag : Int32 → Int32 → Int32 → Int32 → pm_H → Option (Int32 × pm_H)) (σ : pm_H) : Option (Int32 × pm_H) :=
  (if v2 = 0 then pm_let (v6 + (1000 : Int32)) fun x3 => ag (v2 + (1 : Int32)) t0 x3 (v6 + (1 : Int32)) σ else ag (v2 + (1 : Int32)) t0 v4 (v6 + (1 : Int32)) σ)
set_option maxRecDepth 100000 in
set_option maxHeartbeats 4000000 in
theorem fX12_rods_J65_E (l : Launch) {S : pm_S} {p : Int32 × pm_H} {v0 : Nat} {v1 : Int32} {v2 : Int32} {v4 : Int32} {v5 : Int32} {v6 : Int32} {t0 : Int32} {ag : Int32 → Int32 → Int32 → Int32 → pm_H → Option (Int32 × pm_H)} {σ : pm_H} (h0 : pm_is S v0 15) (hag : ∀ w2 w3 w4 w6 sw, ag w2 w3 w4 w6 sw = some p → pm_E l yX12_rods cX12_rods 7 (some .int) false 1 S (pm_ri S p) 37 [(0, .ref v0), (1, .int v1), (2, .int w2), (3, .int w3), (4, .int w4), (5, .int v5), (6, .int w6)] [] S sw) (hf : fX12_rods_J65 S v0 v1 v2 v4 v5 v6 t0 ag σ = some p) : pm_E l yX12_rods cX12_rods 7 (some .int) false 1 S (pm_ri S p) 65 [(0, .ref v0), (1, .int v1), (2, .int v2), (4, .int v4), (5, .int v5), (6, .int v6)] [.int t0] S σ := by
  rw [fX12_rods_J65] at hf
  refine pm_istore_n (pc := 65) [(3, .int t0), (0, .ref v0), (1, .int v1), (2, .int v2), (4, .int v4), (5, .int v5), (6, .int v6)] dX12_rods_65 rfl (by decide) rfl ?_
  refine pm_iload_n (pc := 66) 3 dX12_rods_66 rfl rfl ?_
  refine pm_if_ne (pc := 67) 79 dX12_rods_67 (by decide) (fun hc4 => ?_) (fun hc4 => ?_)
  · rw [if_pos hc4] at hf
    refine pm_iload (pc := 70) 6 dX12_rods_70 rfl ?_
    refine pm_sipush (pc := 72) (1000 : Int32) (by decide) dX12_rods_72 ?_
    refine pm_iadd (pc := 75) dX12_rods_75 ?_
    refine pm_goto (pc := 76) 81 dX12_rods_76 (by decide) ?_
    obtain ⟨x3, ex3, hf⟩ := pm_let_e hf
    refine pm_nmi ex3 ?_
    refine pm_istore (pc := 81) [(4, .int x3), (3, .int t0), (0, .ref v0), (1, .int v1), (2, .int v2), (5, .int v5), (6, .int v6)] dX12_rods_81 (by decide) rfl ?_
    refine pm_iinc (pc := 83) 4 (v2 + (1 : Int32)) [(2, .int (v2 + (1 : Int32))), (4, .int x3), (3, .int t0), (0, .ref v0), (1, .int v1), (5, .int v5), (6, .int v6)] dX12_rods_83 rfl rfl (by decide) rfl ?_
    refine pm_iinc (pc := 86) 6 (v6 + (1 : Int32)) [(6, .int (v6 + (1 : Int32))), (2, .int (v2 + (1 : Int32))), (4, .int x3), (3, .int t0), (0, .ref v0), (1, .int v1), (5, .int v5)] dX12_rods_86 rfl rfl (by decide) rfl ?_
    refine pm_goto (pc := 89) 37 dX12_rods_89 (by decide) ?_
    refine pm_lv [(0, .ref v0), (1, .int v1), (2, .int (v2 + (1 : Int32))), (3, .int t0), (4, .int x3), (5, .int v5), (6, .int (v6 + (1 : Int32)))] [4, 5, 1, 3, 2, 6, 0] rfl ?_
    exact hag (v2 + (1 : Int32)) t0 x3 (v6 + (1 : Int32)) σ hf
  · rw [if_neg hc4] at hf
    refine pm_iload (pc := 79) 4 dX12_rods_79 rfl ?_
    refine pm_istore (pc := 81) [(4, .int v4), (3, .int t0), (0, .ref v0), (1, .int v1), (2, .int v2), (5, .int v5), (6, .int v6)] dX12_rods_81 (by decide) rfl ?_
    refine pm_iinc (pc := 83) 4 (v2 + (1 : Int32)) [(2, .int (v2 + (1 : Int32))), (4, .int v4), (3, .int t0), (0, .ref v0), (1, .int v1), (5, .int v5), (6, .int v6)] dX12_rods_83 rfl rfl (by decide) rfl ?_
    refine pm_iinc (pc := 86) 6 (v6 + (1 : Int32)) [(6, .int (v6 + (1 : Int32))), (2, .int (v2 + (1 : Int32))), (4, .int v4), (3, .int t0), (0, .ref v0), (1, .int v1), (5, .int v5)] dX12_rods_86 rfl rfl (by decide) rfl ?_
    refine pm_goto (pc := 89) 37 dX12_rods_89 (by decide) ?_
    refine pm_lv [(0, .ref v0), (1, .int v1), (2, .int (v2 + (1 : Int32))), (3, .int t0), (4, .int v4), (5, .int v5), (6, .int (v6 + (1 : Int32)))] [4, 5, 1, 3, 2, 6, 0] rfl ?_
    exact hag (v2 + (1 : Int32)) t0 v4 (v6 + (1 : Int32)) σ hf
def fX12_rods_L37 (S : pm_S) (v0 : Nat) (v1 : Int32) (v5 : Int32) (kx : Int32 → Int32 → Int32 → pm_H → Option (Int32 × pm_H)) : Nat → Int32 → Int32 → Int32 → Int32 → pm_H → Option (Int32 × pm_H)
  | 0, _, _, _, _, _ => none
  | n + 1, v2, v3, v4, v6, σ => (if (9 : Int32) < v6 then kx v2 v3 v4 σ else Option.bind (fX12_couldBe S v0 v5 v6 σ) fun u2 => (if u2.1 = 0 then fX12_rods_L37 S v0 v1 v5 kx n v2 v3 v4 (v6 + (1 : Int32)) u2.2 else (if v2 = 0 then fX12_rods_J65 S v0 v1 v2 v4 v5 v6 v5 (fun w2 w3 w4 w6 sw => fX12_rods_L37 S v0 v1 v5 kx n w2 w3 w4 w6 sw) u2.2 else fX12_rods_J65 S v0 v1 v2 v4 v5 v6 v3 (fun w2 w3 w4 w6 sw => fX12_rods_L37 S v0 v1 v5 kx n w2 w3 w4 w6 sw) u2.2)))
set_option maxRecDepth 100000 in
set_option maxHeartbeats 4000000 in
theorem fX12_rods_L37_E (l : Launch) {S : pm_S} {p : Int32 × pm_H} {v0 : Nat} {v1 : Int32} {v5 : Int32} {kx : Int32 → Int32 → Int32 → pm_H → Option (Int32 × pm_H)} (h0 : pm_is S v0 15) (hkx : ∀ w2 w3 w4 sw, kx w2 w3 w4 sw = some p → pm_E l yX12_rods cX12_rods 7 (some .int) false 1 S (pm_ri S p) 92 [(0, .ref v0), (1, .int v1), (2, .int w2), (3, .int w3), (4, .int w4), (5, .int v5)] [] S sw) : ∀ (n : Nat) (v2 : Int32) (v3 : Int32) (v4 : Int32) (v6 : Int32) (σ : pm_H), fX12_rods_L37 S v0 v1 v5 kx n v2 v3 v4 v6 σ = some p → pm_E l yX12_rods cX12_rods 7 (some .int) false 1 S (pm_ri S p) 37 [(0, .ref v0), (1, .int v1), (2, .int v2), (3, .int v3), (4, .int v4), (5, .int v5), (6, .int v6)] [] S σ := by
  intro n
  induction n with
  | zero => intro v2 v3 v4 v6 σ hf; cases hf
  | succ n ih =>
    intro v2 v3 v4 v6 σ hf
    rw [fX12_rods_L37] at hf
    refine pm_iload (pc := 37) 6 dX12_rods_37 rfl ?_
    refine pm_bipush (pc := 39) (9 : Int32) (by decide) dX12_rods_39 ?_
    refine pm_icmp_gt (pc := 41) 92 dX12_rods_41 (by decide) (fun hc7 => ?_) (fun hc7 => ?_)
    · rw [if_pos hc7] at hf
      refine pm_lv [(0, .ref v0), (1, .int v1), (2, .int v2), (3, .int v3), (4, .int v4), (5, .int v5)] [0, 1, 2, 3, 4, 5] rfl ?_
      exact hkx v2 v3 v4 σ hf
    · rw [if_neg hc7] at hf
      refine pm_aload_n (pc := 44) 0 dX12_rods_44 rfl rfl h0.pos ?_
      refine pm_iload (pc := 45) 5 dX12_rods_45 rfl ?_
      refine pm_iload (pc := 47) 6 dX12_rods_47 rfl ?_
      obtain ⟨u2, hu2, hf⟩ := pm_bind_e hf
      refine pm_cVi (pc := 49) (as := [.int v5, .int v6]) (st := []) mvX12_331 (KX12_couldBe l h0 hu2) (by decide) h0 rfl rfl (Nat.le_of_ble_eq_true rfl) rfl dX12_rods_49 ?_
      refine pm_if_eq (pc := 52) 86 dX12_rods_52 (by decide) (fun hc6 => ?_) (fun hc6 => ?_)
      · rw [if_pos hc6] at hf
        refine pm_iinc (pc := 86) 6 (v6 + (1 : Int32)) [(6, .int (v6 + (1 : Int32))), (0, .ref v0), (1, .int v1), (2, .int v2), (3, .int v3), (4, .int v4), (5, .int v5)] dX12_rods_86 rfl rfl (by decide) rfl ?_
        refine pm_goto (pc := 89) 37 dX12_rods_89 (by decide) ?_
        refine pm_lv [(0, .ref v0), (1, .int v1), (2, .int v2), (3, .int v3), (4, .int v4), (5, .int v5), (6, .int (v6 + (1 : Int32)))] [1, 2, 3, 4, 5, 6, 0] rfl ?_
        exact ih v2 v3 v4 (v6 + (1 : Int32)) u2.2 hf
      · rw [if_neg hc6] at hf
        refine pm_iload_n (pc := 55) 2 dX12_rods_55 rfl rfl ?_
        refine pm_if_ne (pc := 56) 64 dX12_rods_56 (by decide) (fun hc5 => ?_) (fun hc5 => ?_)
        · rw [if_pos hc5] at hf
          refine pm_iload (pc := 59) 5 dX12_rods_59 rfl ?_
          refine pm_goto (pc := 61) 65 dX12_rods_61 (by decide) ?_
          refine pm_lv [(0, .ref v0), (1, .int v1), (2, .int v2), (4, .int v4), (5, .int v5), (6, .int v6)] [0, 1, 2, 4, 5, 6] rfl ?_
          exact fX12_rods_J65_E l h0 ih hf
        · rw [if_neg hc5] at hf
          refine pm_iload_n (pc := 64) 3 dX12_rods_64 rfl rfl ?_
          refine pm_lv [(0, .ref v0), (1, .int v1), (2, .int v2), (4, .int v4), (5, .int v5), (6, .int v6)] [0, 1, 2, 4, 5, 6] rfl ?_
          exact fX12_rods_J65_E l h0 ih hf
def fX12_rods_L25 (S : pm_S) (v0 : Nat) (v1 : Int32) (kx : Int32 → Int32 → Int32 → pm_H → Option (Int32 × pm_H)) : Nat → Int32 → Int32 → Int32 → Int32 → pm_H → Option (Int32 × pm_H)
  | 0, _, _, _, _, _ => none
  | n + 1, v2, v3, v4, v5, σ => (if (240 : Int32) < v5 then kx v2 v3 v4 σ else fX12_rods_L37 S v0 v1 v5 (fun w8 w9 w10 s11 => fX12_rods_L25 S v0 v1 kx n w8 w9 w10 (v5 + (1 : Int32)) s11) pm_fuel v2 v3 v4 (-9 : Int32) σ)
set_option maxRecDepth 100000 in
set_option maxHeartbeats 4000000 in
theorem fX12_rods_L25_E (l : Launch) {S : pm_S} {p : Int32 × pm_H} {v0 : Nat} {v1 : Int32} {kx : Int32 → Int32 → Int32 → pm_H → Option (Int32 × pm_H)} (h0 : pm_is S v0 15) (hkx : ∀ w2 w3 w4 sw, kx w2 w3 w4 sw = some p → pm_E l yX12_rods cX12_rods 7 (some .int) false 1 S (pm_ri S p) 98 [(1, .int v1), (2, .int w2), (3, .int w3), (4, .int w4)] [] S sw) : ∀ (n : Nat) (v2 : Int32) (v3 : Int32) (v4 : Int32) (v5 : Int32) (σ : pm_H), fX12_rods_L25 S v0 v1 kx n v2 v3 v4 v5 σ = some p → pm_E l yX12_rods cX12_rods 7 (some .int) false 1 S (pm_ri S p) 25 [(0, .ref v0), (1, .int v1), (2, .int v2), (3, .int v3), (4, .int v4), (5, .int v5)] [] S σ := by
  intro n
  induction n with
  | zero => intro v2 v3 v4 v5 σ hf; cases hf
  | succ n ih =>
    intro v2 v3 v4 v5 σ hf
    rw [fX12_rods_L25] at hf
    refine pm_iload (pc := 25) 5 dX12_rods_25 rfl ?_
    refine pm_sipush (pc := 27) (240 : Int32) (by decide) dX12_rods_27 ?_
    refine pm_icmp_gt (pc := 30) 98 dX12_rods_30 (by decide) (fun hc12 => ?_) (fun hc12 => ?_)
    · rw [if_pos hc12] at hf
      refine pm_lv [(1, .int v1), (2, .int v2), (3, .int v3), (4, .int v4)] [1, 2, 3, 4] rfl ?_
      exact hkx v2 v3 v4 σ hf
    · rw [if_neg hc12] at hf
      refine pm_bipush (pc := 33) (-9 : Int32) (by decide) dX12_rods_33 ?_
      refine pm_istore (pc := 35) [(6, .int (-9 : Int32)), (0, .ref v0), (1, .int v1), (2, .int v2), (3, .int v3), (4, .int v4), (5, .int v5)] dX12_rods_35 (by decide) rfl ?_
      refine pm_lv [(0, .ref v0), (1, .int v1), (2, .int v2), (3, .int v3), (4, .int v4), (5, .int v5), (6, .int (-9 : Int32))] [1, 2, 3, 4, 5, 6, 0] rfl ?_
      refine fX12_rods_L37_E l h0 (fun w8 w9 w10 s11 hf => ?_) pm_fuel v2 v3 v4 (-9 : Int32) σ hf
      refine pm_iinc (pc := 92) 5 (v5 + (1 : Int32)) [(5, .int (v5 + (1 : Int32))), (0, .ref v0), (1, .int v1), (2, .int w8), (3, .int w9), (4, .int w10)] dX12_rods_92 rfl rfl (by decide) rfl ?_
      refine pm_goto (pc := 95) 25 dX12_rods_95 (by decide) ?_
      refine pm_lv [(0, .ref v0), (1, .int v1), (2, .int w8), (3, .int w9), (4, .int w10), (5, .int (v5 + (1 : Int32)))] [1, 2, 3, 4, 5, 0] rfl ?_
      exact ih w8 w9 w10 (v5 + (1 : Int32)) s11 hf
def fX12_rods (S : pm_S) (a0 : Nat) (a1 : Int32) (σ : pm_H) : Option (Int32 × pm_H) :=
  Option.bind (fX12_in S a1.toInt64 (0 : Int64) (2 : Int64) σ) fun u1 => (if u1.1 = 0 then some ((-1000000002 : Int32), u1.2) else fX12_rods_L25 S a0 a1 (fun w13 w14 w15 s16 => (if a1 = 0 then some (w13, s16) else (if a1 = (1 : Int32) then some (w14, s16) else some (w15, s16)))) pm_fuel (0 : Int32) (-1 : Int32) (-1 : Int32) (1 : Int32) u1.2)
set_option maxRecDepth 100000 in
set_option maxHeartbeats 4000000 in
theorem KX12_rods (l : Launch) {S : pm_S} {p : Int32 × pm_H} {a0 : Nat} {a1 : Int32} {σ : pm_H} (h0 : pm_is S a0 15) (hf : fX12_rods S a0 a1 σ = some p) : pm_M l yX12_rods cX12_rods 7 (some .int) false 1 [.ref a0, .int a1] S σ (pm_ri S p) := by
  refine pm_M.of (by decide +kernel) (Nat.le_of_ble_eq_true rfl) ?_
  show pm_E l yX12_rods cX12_rods 7 (some .int) false 1 S (pm_ri S p) 0 [(0, .ref a0), (1, .int a1)] [] S σ
  rw [fX12_rods] at hf
  refine pm_iload_n (pc := 0) 1 dX12_rods_0 rfl rfl ?_
  refine pm_i2l (pc := 1) dX12_rods_1 ?_
  refine pm_lconst (pc := 2) (0 : Int64) (by decide) dX12_rods_2 ?_
  refine pm_ldc2 (pc := 3) klX12_329 dX12_rods_3 ?_
  obtain ⟨u1, hu1, hf⟩ := pm_bind_e hf
  refine pm_cSi (pc := 6) (as := [.long a1.toInt64, .long (0 : Int64), .long (2 : Int64)]) (st := []) msX12_87 (KX12_in l  hu1) (by decide) rfl rfl (Nat.le_of_ble_eq_true rfl) rfl dX12_rods_6 ?_
  refine pm_if_ne (pc := 9) 15 dX12_rods_9 (by decide) (fun hc19 => ?_) (fun hc19 => ?_)
  · rw [if_pos hc19] at hf
    refine pm_ldc (pc := 12) kcX12_96 dX12_rods_12 ?_
    exact pm_iret rfl dX12_rods_14 (pm_ri_e hf)
  · rw [if_neg hc19] at hf
    refine pm_iconst (pc := 15) (0 : Int32) (by decide) dX12_rods_15 ?_
    refine pm_istore_n (pc := 16) [(2, .int (0 : Int32)), (0, .ref a0), (1, .int a1)] dX12_rods_16 rfl (by decide) rfl ?_
    refine pm_iconst (pc := 17) (-1 : Int32) (by decide) dX12_rods_17 ?_
    refine pm_istore_n (pc := 18) [(3, .int (-1 : Int32)), (2, .int (0 : Int32)), (0, .ref a0), (1, .int a1)] dX12_rods_18 rfl (by decide) rfl ?_
    refine pm_iconst (pc := 19) (-1 : Int32) (by decide) dX12_rods_19 ?_
    refine pm_istore (pc := 20) [(4, .int (-1 : Int32)), (3, .int (-1 : Int32)), (2, .int (0 : Int32)), (0, .ref a0), (1, .int a1)] dX12_rods_20 (by decide) rfl ?_
    refine pm_iconst (pc := 22) (1 : Int32) (by decide) dX12_rods_22 ?_
    refine pm_istore (pc := 23) [(5, .int (1 : Int32)), (4, .int (-1 : Int32)), (3, .int (-1 : Int32)), (2, .int (0 : Int32)), (0, .ref a0), (1, .int a1)] dX12_rods_23 (by decide) rfl ?_
    refine pm_lv [(0, .ref a0), (1, .int a1), (2, .int (0 : Int32)), (3, .int (-1 : Int32)), (4, .int (-1 : Int32)), (5, .int (1 : Int32))] [4, 5, 3, 2, 1, 0] rfl ?_
    refine fX12_rods_L25_E l h0 (fun w13 w14 w15 s16 hf => ?_) pm_fuel (0 : Int32) (-1 : Int32) (-1 : Int32) (1 : Int32) u1.2 hf
    refine pm_iload_n (pc := 98) 0 dX12_rods_98 rfl rfl ?_
    refine pm_if_ne (pc := 99) 106 dX12_rods_99 (by decide) (fun hc18 => ?_) (fun hc18 => ?_)
    · rw [if_pos hc18] at hf
      refine pm_iload_n (pc := 102) 1 dX12_rods_102 rfl rfl ?_
      refine pm_goto (pc := 103) 117 dX12_rods_103 (by decide) ?_
      exact pm_iret rfl dX12_rods_117 (pm_ri_e hf)
    · rw [if_neg hc18] at hf
      refine pm_iload_n (pc := 106) 0 dX12_rods_106 rfl rfl ?_
      refine pm_iconst (pc := 107) (1 : Int32) (by decide) dX12_rods_107 ?_
      refine pm_icmp_ne (pc := 108) 115 dX12_rods_108 (by decide) (fun hc17 => ?_) (fun hc17 => ?_)
      · rw [if_pos hc17] at hf
        refine pm_iload_n (pc := 111) 2 dX12_rods_111 rfl rfl ?_
        refine pm_goto (pc := 112) 117 dX12_rods_112 (by decide) ?_
        exact pm_iret rfl dX12_rods_117 (pm_ri_e hf)
      · rw [if_neg hc17] at hf
        refine pm_iload (pc := 115) 3 dX12_rods_115 rfl ?_
        exact pm_iret rfl dX12_rods_117 (pm_ri_e hf)
def fX12_greatestPart_L4 (S : pm_S) (v0 : Nat) (v1 : Int32) (v2 : Int32) (kx : pm_H → Option (Int32 × pm_H)) : Nat → Int32 → pm_H → Option (Int32 × pm_H)
  | 0, _, _ => none
  | n + 1, v3, σ => (if (2200 : Int32) ≤ v3 then kx σ else (if pm_ib v3 (pm_len S (σ.2 v0 37)) = true then pm_let (pm_si σ (σ.2 v0 37) (v3).toNatClampNeg (0 : Int32)) fun s3 => fX12_greatestPart_L4 S v0 v1 v2 kx n (v3 + (1 : Int32)) s3 else none))
set_option maxRecDepth 100000 in
set_option maxHeartbeats 4000000 in
theorem fX12_greatestPart_L4_E (l : Launch) {S : pm_S} {p : Int32 × pm_H} {v0 : Nat} {v1 : Int32} {v2 : Int32} {kx : pm_H → Option (Int32 × pm_H)} (h0 : pm_is S v0 15) (hkx : ∀  sw, kx  sw = some p → pm_E l yX12_greatestPart cX12_greatestPart 6 (some .int) false 1 S (pm_ri S p) 24 [(0, .ref v0), (1, .int v1), (2, .int v2)] [] S sw) : ∀ (n : Nat) (v3 : Int32) (σ : pm_H), fX12_greatestPart_L4 S v0 v1 v2 kx n v3 σ = some p → pm_E l yX12_greatestPart cX12_greatestPart 6 (some .int) false 1 S (pm_ri S p) 4 [(0, .ref v0), (1, .int v1), (2, .int v2), (3, .int v3)] [] S σ := by
  intro n
  induction n with
  | zero => intro v3 σ hf; cases hf
  | succ n ih =>
    intro v3 σ hf
    rw [fX12_greatestPart_L4] at hf
    refine pm_iload_n (pc := 4) 3 dX12_greatestPart_4 rfl rfl ?_
    refine pm_sipush (pc := 5) (2200 : Int32) (by decide) dX12_greatestPart_5 ?_
    refine pm_icmp_ge (pc := 8) 24 dX12_greatestPart_8 (by decide) (fun hc4 => ?_) (fun hc4 => ?_)
    · rw [if_pos hc4] at hf
      refine pm_lv [(0, .ref v0), (1, .int v1), (2, .int v2)] [0, 1, 2] rfl ?_
      exact hkx σ hf
    · rw [if_neg hc4] at hf
      refine pm_aload_n (pc := 11) 0 dX12_greatestPart_11 rfl rfl h0.pos ?_
      refine pm_getT (pc := 12) (k := 37) pm_cl12 flX12_65 (by decide) rfl h0 dX12_greatestPart_12 (fun hr1 => ?_)
      refine pm_iload_n (pc := 15) 3 dX12_greatestPart_15 rfl rfl ?_
      refine pm_iconst (pc := 16) (0 : Int32) (by decide) dX12_greatestPart_16 ?_
      obtain ⟨hb2, hf⟩ := pm_gd hf
      refine pm_iast (pc := 17) hr1 (pm_ib_in hb2) dX12_greatestPart_17 ?_
      obtain ⟨s3, es3, hf⟩ := pm_let_e hf
      refine pm_nmh es3 ?_
      refine pm_iinc (pc := 18) 3 (v3 + (1 : Int32)) [(3, .int (v3 + (1 : Int32))), (0, .ref v0), (1, .int v1), (2, .int v2)] dX12_greatestPart_18 rfl rfl (by decide) rfl ?_
      refine pm_goto (pc := 21) 4 dX12_greatestPart_21 (by decide) ?_
      refine pm_lv [(0, .ref v0), (1, .int v1), (2, .int v2), (3, .int (v3 + (1 : Int32)))] [1, 2, 3, 0] rfl ?_
      exact ih (v3 + (1 : Int32)) s3 hf
def fX12_greatestPart_L37 (S : pm_S) (v0 : Nat) (v1 : Int32) (v3 : Int32) (kx : Int32 → pm_H → Option (Int32 × pm_H)) : Nat → Int32 → Int32 → pm_H → Option (Int32 × pm_H)
  | 0, _, _, _ => none
  | n + 1, v2, v4, σ => (if (9 : Int32) < v4 then kx v2 σ else Option.bind (fX12_couldBe S v0 v3 v4 σ) fun u6 => (if u6.1 = 0 then fX12_greatestPart_L37 S v0 v1 v3 kx n v2 (v4 + (1 : Int32)) u6.2 else pm_let (((v3 * v1) + v4) + (9 : Int32)) fun x7 => (if pm_ib x7 (pm_len S (u6.2.2 v0 37)) = true then (if pm_ib x7 (pm_len S (u6.2.2 v0 37)) = true then pm_let (pm_si u6.2 (u6.2.2 v0 37) (x7).toNatClampNeg ((u6.2.1 (u6.2.2 v0 37) (x7).toNatClampNeg) + (1 : Int32))) fun s11 => (if pm_ib x7 (pm_len S (s11.2 v0 37)) = true then (if (s11.1 (s11.2 v0 37) (x7).toNatClampNeg) ≤ v2 then fX12_greatestPart_L37 S v0 v1 v3 kx n v2 (v4 + (1 : Int32)) s11 else (if pm_ib x7 (pm_len S (s11.2 v0 37)) = true then pm_let (s11.1 (s11.2 v0 37) (x7).toNatClampNeg) fun x16 => fX12_greatestPart_L37 S v0 v1 v3 kx n x16 (v4 + (1 : Int32)) s11 else none)) else none) else none) else none)))
set_option maxRecDepth 100000 in
set_option maxHeartbeats 4000000 in
theorem fX12_greatestPart_L37_E (l : Launch) {S : pm_S} {p : Int32 × pm_H} {v0 : Nat} {v1 : Int32} {v3 : Int32} {kx : Int32 → pm_H → Option (Int32 × pm_H)} (h0 : pm_is S v0 15) (hkx : ∀ w2 sw, kx w2 sw = some p → pm_E l yX12_greatestPart cX12_greatestPart 6 (some .int) false 1 S (pm_ri S p) 105 [(0, .ref v0), (1, .int v1), (2, .int w2), (3, .int v3)] [] S sw) : ∀ (n : Nat) (v2 : Int32) (v4 : Int32) (σ : pm_H), fX12_greatestPart_L37 S v0 v1 v3 kx n v2 v4 σ = some p → pm_E l yX12_greatestPart cX12_greatestPart 6 (some .int) false 1 S (pm_ri S p) 37 [(0, .ref v0), (1, .int v1), (2, .int v2), (3, .int v3), (4, .int v4)] [] S σ := by
  intro n
  induction n with
  | zero => intro v2 v4 σ hf; cases hf
  | succ n ih =>
    intro v2 v4 σ hf
    rw [fX12_greatestPart_L37] at hf
    refine pm_iload (pc := 37) 4 dX12_greatestPart_37 rfl ?_
    refine pm_bipush (pc := 39) (9 : Int32) (by decide) dX12_greatestPart_39 ?_
    refine pm_icmp_gt (pc := 41) 105 dX12_greatestPart_41 (by decide) (fun hc19 => ?_) (fun hc19 => ?_)
    · rw [if_pos hc19] at hf
      refine pm_lv [(0, .ref v0), (1, .int v1), (2, .int v2), (3, .int v3)] [0, 1, 2, 3] rfl ?_
      exact hkx v2 σ hf
    · rw [if_neg hc19] at hf
      refine pm_aload_n (pc := 44) 0 dX12_greatestPart_44 rfl rfl h0.pos ?_
      refine pm_iload_n (pc := 45) 3 dX12_greatestPart_45 rfl rfl ?_
      refine pm_iload (pc := 46) 4 dX12_greatestPart_46 rfl ?_
      obtain ⟨u6, hu6, hf⟩ := pm_bind_e hf
      refine pm_cVi (pc := 48) (as := [.int v3, .int v4]) (st := []) mvX12_331 (KX12_couldBe l h0 hu6) (by decide) h0 rfl rfl (Nat.le_of_ble_eq_true rfl) rfl dX12_greatestPart_48 ?_
      refine pm_if_eq (pc := 51) 99 dX12_greatestPart_51 (by decide) (fun hc18 => ?_) (fun hc18 => ?_)
      · rw [if_pos hc18] at hf
        refine pm_iinc (pc := 99) 4 (v4 + (1 : Int32)) [(4, .int (v4 + (1 : Int32))), (0, .ref v0), (1, .int v1), (2, .int v2), (3, .int v3)] dX12_greatestPart_99 rfl rfl (by decide) rfl ?_
        refine pm_goto (pc := 102) 37 dX12_greatestPart_102 (by decide) ?_
        refine pm_lv [(0, .ref v0), (1, .int v1), (2, .int v2), (3, .int v3), (4, .int (v4 + (1 : Int32)))] [1, 2, 3, 4, 0] rfl ?_
        exact ih v2 (v4 + (1 : Int32)) u6.2 hf
      · rw [if_neg hc18] at hf
        refine pm_iload_n (pc := 54) 3 dX12_greatestPart_54 rfl rfl ?_
        refine pm_iload_n (pc := 55) 1 dX12_greatestPart_55 rfl rfl ?_
        refine pm_imul (pc := 56) dX12_greatestPart_56 ?_
        refine pm_iload (pc := 57) 4 dX12_greatestPart_57 rfl ?_
        refine pm_iadd (pc := 59) dX12_greatestPart_59 ?_
        refine pm_bipush (pc := 60) (9 : Int32) (by decide) dX12_greatestPart_60 ?_
        refine pm_iadd (pc := 62) dX12_greatestPart_62 ?_
        obtain ⟨x7, ex7, hf⟩ := pm_let_e hf
        refine pm_nmi ex7 ?_
        refine pm_istore (pc := 63) [(5, .int x7), (0, .ref v0), (1, .int v1), (2, .int v2), (3, .int v3), (4, .int v4)] dX12_greatestPart_63 (by decide) rfl ?_
        refine pm_aload_n (pc := 65) 1 dX12_greatestPart_65 rfl rfl h0.pos ?_
        refine pm_getT (pc := 66) (k := 37) pm_cl12 flX12_65 (by decide) rfl h0 dX12_greatestPart_66 (fun hr8 => ?_)
        refine pm_iload (pc := 69) 0 dX12_greatestPart_69 rfl ?_
        refine pm_dup2 (pc := 71) rfl rfl dX12_greatestPart_71 ?_
        obtain ⟨hb9, hf⟩ := pm_gd hf
        refine pm_iald (pc := 72) hr8 (pm_ib_in hb9) dX12_greatestPart_72 ?_
        refine pm_iconst (pc := 73) (1 : Int32) (by decide) dX12_greatestPart_73 ?_
        refine pm_iadd (pc := 74) dX12_greatestPart_74 ?_
        obtain ⟨hb10, hf⟩ := pm_gd hf
        refine pm_iast (pc := 75) hr8 (pm_ib_in hb10) dX12_greatestPart_75 ?_
        obtain ⟨s11, es11, hf⟩ := pm_let_e hf
        refine pm_nmh es11 ?_
        refine pm_aload_n (pc := 76) 1 dX12_greatestPart_76 rfl rfl h0.pos ?_
        refine pm_getT (pc := 77) (k := 37) pm_cl12 flX12_65 (by decide) rfl h0 dX12_greatestPart_77 (fun hr12 => ?_)
        refine pm_iload (pc := 80) 0 dX12_greatestPart_80 rfl ?_
        obtain ⟨hb13, hf⟩ := pm_gd hf
        refine pm_iald (pc := 82) hr12 (pm_ib_in hb13) dX12_greatestPart_82 ?_
        refine pm_iload_n (pc := 83) 3 dX12_greatestPart_83 rfl rfl ?_
        refine pm_icmp_le (pc := 84) 97 dX12_greatestPart_84 (by decide) (fun hc17 => ?_) (fun hc17 => ?_)
        · rw [if_pos hc17] at hf
          refine pm_iload_n (pc := 97) 3 dX12_greatestPart_97 rfl rfl ?_
          refine pm_istore_n (pc := 98) [(2, .int v2), (5, .int x7), (0, .ref v0), (1, .int v1), (3, .int v3), (4, .int v4)] dX12_greatestPart_98 rfl (by decide) rfl ?_
          refine pm_iinc (pc := 99) 5 (v4 + (1 : Int32)) [(4, .int (v4 + (1 : Int32))), (2, .int v2), (5, .int x7), (0, .ref v0), (1, .int v1), (3, .int v3)] dX12_greatestPart_99 rfl rfl (by decide) rfl ?_
          refine pm_goto (pc := 102) 37 dX12_greatestPart_102 (by decide) ?_
          refine pm_lv [(0, .ref v0), (1, .int v1), (2, .int v2), (3, .int v3), (4, .int (v4 + (1 : Int32)))] [3, 4, 1, 5, 0] rfl ?_
          exact ih v2 (v4 + (1 : Int32)) s11 hf
        · rw [if_neg hc17] at hf
          refine pm_aload_n (pc := 87) 1 dX12_greatestPart_87 rfl rfl h0.pos ?_
          refine pm_getT (pc := 88) (k := 37) pm_cl12 flX12_65 (by decide) rfl h0 dX12_greatestPart_88 (fun hr14 => ?_)
          refine pm_iload (pc := 91) 0 dX12_greatestPart_91 rfl ?_
          obtain ⟨hb15, hf⟩ := pm_gd hf
          refine pm_iald (pc := 93) hr14 (pm_ib_in hb15) dX12_greatestPart_93 ?_
          refine pm_goto (pc := 94) 98 dX12_greatestPart_94 (by decide) ?_
          obtain ⟨x16, ex16, hf⟩ := pm_let_e hf
          refine pm_nmi ex16 ?_
          refine pm_istore_n (pc := 98) [(2, .int x16), (5, .int x7), (0, .ref v0), (1, .int v1), (3, .int v3), (4, .int v4)] dX12_greatestPart_98 rfl (by decide) rfl ?_
          refine pm_iinc (pc := 99) 5 (v4 + (1 : Int32)) [(4, .int (v4 + (1 : Int32))), (2, .int x16), (5, .int x7), (0, .ref v0), (1, .int v1), (3, .int v3)] dX12_greatestPart_99 rfl rfl (by decide) rfl ?_
          refine pm_goto (pc := 102) 37 dX12_greatestPart_102 (by decide) ?_
          refine pm_lv [(0, .ref v0), (1, .int v1), (2, .int x16), (3, .int v3), (4, .int (v4 + (1 : Int32)))] [3, 4, 1, 5, 0] rfl ?_
          exact ih x16 (v4 + (1 : Int32)) s11 hf
def fX12_greatestPart_L26 (S : pm_S) (v0 : Nat) (v1 : Int32) (kx : Int32 → pm_H → Option (Int32 × pm_H)) : Nat → Int32 → Int32 → pm_H → Option (Int32 × pm_H)
  | 0, _, _, _ => none
  | n + 1, v2, v3, σ => (if (240 : Int32) < v3 then kx v2 σ else fX12_greatestPart_L37 S v0 v1 v3 (fun w20 s21 => fX12_greatestPart_L26 S v0 v1 kx n w20 (v3 + (1 : Int32)) s21) pm_fuel v2 (-9 : Int32) σ)
set_option maxRecDepth 100000 in
set_option maxHeartbeats 4000000 in
theorem fX12_greatestPart_L26_E (l : Launch) {S : pm_S} {p : Int32 × pm_H} {v0 : Nat} {v1 : Int32} {kx : Int32 → pm_H → Option (Int32 × pm_H)} (h0 : pm_is S v0 15) (hkx : ∀ w2 sw, kx w2 sw = some p → pm_E l yX12_greatestPart cX12_greatestPart 6 (some .int) false 1 S (pm_ri S p) 111 [(2, .int w2)] [] S sw) : ∀ (n : Nat) (v2 : Int32) (v3 : Int32) (σ : pm_H), fX12_greatestPart_L26 S v0 v1 kx n v2 v3 σ = some p → pm_E l yX12_greatestPart cX12_greatestPart 6 (some .int) false 1 S (pm_ri S p) 26 [(0, .ref v0), (1, .int v1), (2, .int v2), (3, .int v3)] [] S σ := by
  intro n
  induction n with
  | zero => intro v2 v3 σ hf; cases hf
  | succ n ih =>
    intro v2 v3 σ hf
    rw [fX12_greatestPart_L26] at hf
    refine pm_iload_n (pc := 26) 3 dX12_greatestPart_26 rfl rfl ?_
    refine pm_sipush (pc := 27) (240 : Int32) (by decide) dX12_greatestPart_27 ?_
    refine pm_icmp_gt (pc := 30) 111 dX12_greatestPart_30 (by decide) (fun hc22 => ?_) (fun hc22 => ?_)
    · rw [if_pos hc22] at hf
      refine pm_lv [(2, .int v2)] [2] rfl ?_
      exact hkx v2 σ hf
    · rw [if_neg hc22] at hf
      refine pm_bipush (pc := 33) (-9 : Int32) (by decide) dX12_greatestPart_33 ?_
      refine pm_istore (pc := 35) [(4, .int (-9 : Int32)), (0, .ref v0), (1, .int v1), (2, .int v2), (3, .int v3)] dX12_greatestPart_35 (by decide) rfl ?_
      refine pm_lv [(0, .ref v0), (1, .int v1), (2, .int v2), (3, .int v3), (4, .int (-9 : Int32))] [1, 2, 3, 4, 0] rfl ?_
      refine fX12_greatestPart_L37_E l h0 (fun w20 s21 hf => ?_) pm_fuel v2 (-9 : Int32) σ hf
      refine pm_iinc (pc := 105) 3 (v3 + (1 : Int32)) [(3, .int (v3 + (1 : Int32))), (0, .ref v0), (1, .int v1), (2, .int w20)] dX12_greatestPart_105 rfl rfl (by decide) rfl ?_
      refine pm_goto (pc := 108) 26 dX12_greatestPart_108 (by decide) ?_
      refine pm_lv [(0, .ref v0), (1, .int v1), (2, .int w20), (3, .int (v3 + (1 : Int32)))] [1, 2, 3, 0] rfl ?_
      exact ih w20 (v3 + (1 : Int32)) s21 hf
def fX12_greatestPart (S : pm_S) (a0 : Nat) (a1 : Int32) (σ : pm_H) : Option (Int32 × pm_H) :=
  fX12_greatestPart_L4 S a0 a1 (0 : Int32) (fun s5 => fX12_greatestPart_L26 S a0 a1 (fun w23 s24 => some (w23, s24)) pm_fuel (0 : Int32) (1 : Int32) s5) pm_fuel (0 : Int32) σ
set_option maxRecDepth 100000 in
set_option maxHeartbeats 4000000 in
theorem KX12_greatestPart (l : Launch) {S : pm_S} {p : Int32 × pm_H} {a0 : Nat} {a1 : Int32} {σ : pm_H} (h0 : pm_is S a0 15) (hf : fX12_greatestPart S a0 a1 σ = some p) : pm_M l yX12_greatestPart cX12_greatestPart 6 (some .int) false 1 [.ref a0, .int a1] S σ (pm_ri S p) := by
  refine pm_M.of (by decide +kernel) (Nat.le_of_ble_eq_true rfl) ?_
  show pm_E l yX12_greatestPart cX12_greatestPart 6 (some .int) false 1 S (pm_ri S p) 0 [(0, .ref a0), (1, .int a1)] [] S σ
  rw [fX12_greatestPart] at hf
  refine pm_iconst (pc := 0) (0 : Int32) (by decide) dX12_greatestPart_0 ?_
  refine pm_istore_n (pc := 1) [(2, .int (0 : Int32)), (0, .ref a0), (1, .int a1)] dX12_greatestPart_1 rfl (by decide) rfl ?_
  refine pm_iconst (pc := 2) (0 : Int32) (by decide) dX12_greatestPart_2 ?_
  refine pm_istore_n (pc := 3) [(3, .int (0 : Int32)), (2, .int (0 : Int32)), (0, .ref a0), (1, .int a1)] dX12_greatestPart_3 rfl (by decide) rfl ?_
  refine pm_lv [(0, .ref a0), (1, .int a1), (2, .int (0 : Int32)), (3, .int (0 : Int32))] [2, 3, 1, 0] rfl ?_
  refine fX12_greatestPart_L4_E l h0 (fun s5 hf => ?_) pm_fuel (0 : Int32) σ hf
  refine pm_iconst (pc := 24) (1 : Int32) (by decide) dX12_greatestPart_24 ?_
  refine pm_istore_n (pc := 25) [(3, .int (1 : Int32)), (0, .ref a0), (1, .int a1), (2, .int (0 : Int32))] dX12_greatestPart_25 rfl (by decide) rfl ?_
  refine pm_lv [(0, .ref a0), (1, .int a1), (2, .int (0 : Int32)), (3, .int (1 : Int32))] [1, 2, 3, 0] rfl ?_
  refine fX12_greatestPart_L26_E l h0 (fun w23 s24 hf => ?_) pm_fuel (0 : Int32) (1 : Int32) s5 hf
  refine pm_iload_n (pc := 111) 0 dX12_greatestPart_111 rfl rfl ?_
  exact pm_iret rfl dX12_greatestPart_112 (pm_ri_e hf)
def fX12_door_J34 (S : pm_S) (v0 : Nat) (v2 : Int32) (v3 : Int32) (v4 : Int32) (t0 : Int32) (ag : Int32 → Int32 → Int32 → pm_H → Option (Int32 × pm_H)) (σ : pm_H) : Option (Int32 × pm_H) :=
  (if v2 ≤ v4 then ag t0 v2 (v3 + (1 : Int32)) σ else ag t0 v4 (v3 + (1 : Int32)) σ)
set_option maxRecDepth 100000 in
set_option maxHeartbeats 4000000 in
theorem fX12_door_J34_E (l : Launch) {S : pm_S} {p : Int32 × pm_H} {v0 : Nat} {v2 : Int32} {v3 : Int32} {v4 : Int32} {t0 : Int32} {ag : Int32 → Int32 → Int32 → pm_H → Option (Int32 × pm_H)} {σ : pm_H} (h0 : pm_is S v0 15) (hag : ∀ w1 w2 w3 sw, ag w1 w2 w3 sw = some p → pm_E l yX12_door cX12_door 5 (some .int) false 2 S (pm_ri S p) 10 [(0, .ref v0), (1, .int w1), (2, .int w2), (3, .int w3)] [] S sw) (hf : fX12_door_J34 S v0 v2 v3 v4 t0 ag σ = some p) : pm_E l yX12_door cX12_door 5 (some .int) false 2 S (pm_ri S p) 34 [(0, .ref v0), (2, .int v2), (3, .int v3), (4, .int v4)] [.int t0] S σ := by
  rw [fX12_door_J34] at hf
  refine pm_istore_n (pc := 34) [(1, .int t0), (0, .ref v0), (2, .int v2), (3, .int v3), (4, .int v4)] dX12_door_34 rfl (by decide) rfl ?_
  refine pm_iload (pc := 35) 4 dX12_door_35 rfl ?_
  refine pm_iload_n (pc := 37) 2 dX12_door_37 rfl rfl ?_
  refine pm_icmp_ge (pc := 38) 46 dX12_door_38 (by decide) (fun hc3 => ?_) (fun hc3 => ?_)
  · rw [if_pos hc3] at hf
    refine pm_iload_n (pc := 46) 2 dX12_door_46 rfl rfl ?_
    refine pm_istore_n (pc := 47) [(2, .int v2), (1, .int t0), (0, .ref v0), (3, .int v3), (4, .int v4)] dX12_door_47 rfl (by decide) rfl ?_
    refine pm_iinc (pc := 48) 3 (v3 + (1 : Int32)) [(3, .int (v3 + (1 : Int32))), (2, .int v2), (1, .int t0), (0, .ref v0), (4, .int v4)] dX12_door_48 rfl rfl (by decide) rfl ?_
    refine pm_goto (pc := 51) 10 dX12_door_51 (by decide) ?_
    refine pm_lv [(0, .ref v0), (1, .int t0), (2, .int v2), (3, .int (v3 + (1 : Int32)))] [3, 2, 1, 0] rfl ?_
    exact hag t0 v2 (v3 + (1 : Int32)) σ hf
  · rw [if_neg hc3] at hf
    refine pm_iload (pc := 41) 4 dX12_door_41 rfl ?_
    refine pm_goto (pc := 43) 47 dX12_door_43 (by decide) ?_
    refine pm_istore_n (pc := 47) [(2, .int v4), (1, .int t0), (0, .ref v0), (3, .int v3), (4, .int v4)] dX12_door_47 rfl (by decide) rfl ?_
    refine pm_iinc (pc := 48) 3 (v3 + (1 : Int32)) [(3, .int (v3 + (1 : Int32))), (2, .int v4), (1, .int t0), (0, .ref v0), (4, .int v4)] dX12_door_48 rfl rfl (by decide) rfl ?_
    refine pm_goto (pc := 51) 10 dX12_door_51 (by decide) ?_
    refine pm_lv [(0, .ref v0), (1, .int t0), (2, .int v4), (3, .int (v3 + (1 : Int32)))] [3, 2, 1, 0] rfl ?_
    exact hag t0 v4 (v3 + (1 : Int32)) σ hf
def fX12_door_L10 (S : pm_S) (v0 : Nat) (kx : Int32 → pm_H → Option (Int32 × pm_H)) : Nat → Int32 → Int32 → Int32 → pm_H → Option (Int32 × pm_H)
  | 0, _, _, _, _ => none
  | n + 1, v1, v2, v3, σ => (if (10 : Int32) ≤ v3 then kx v1 σ else Option.bind (fX12_greatestPart S v0 v3 σ) fun u2 => (if v2 ≤ u2.1 then fX12_door_J34 S v0 v2 v3 u2.1 v1 (fun w1 w2 w3 sw => fX12_door_L10 S v0 kx n w1 w2 w3 sw) u2.2 else fX12_door_J34 S v0 v2 v3 u2.1 v3 (fun w1 w2 w3 sw => fX12_door_L10 S v0 kx n w1 w2 w3 sw) u2.2))
set_option maxRecDepth 100000 in
set_option maxHeartbeats 4000000 in
theorem fX12_door_L10_E (l : Launch) {S : pm_S} {p : Int32 × pm_H} {v0 : Nat} {kx : Int32 → pm_H → Option (Int32 × pm_H)} (h0 : pm_is S v0 15) (hkx : ∀ w1 sw, kx w1 sw = some p → pm_E l yX12_door cX12_door 5 (some .int) false 2 S (pm_ri S p) 54 [(1, .int w1)] [] S sw) : ∀ (n : Nat) (v1 : Int32) (v2 : Int32) (v3 : Int32) (σ : pm_H), fX12_door_L10 S v0 kx n v1 v2 v3 σ = some p → pm_E l yX12_door cX12_door 5 (some .int) false 2 S (pm_ri S p) 10 [(0, .ref v0), (1, .int v1), (2, .int v2), (3, .int v3)] [] S σ := by
  intro n
  induction n with
  | zero => intro v1 v2 v3 σ hf; cases hf
  | succ n ih =>
    intro v1 v2 v3 σ hf
    rw [fX12_door_L10] at hf
    refine pm_iload_n (pc := 10) 3 dX12_door_10 rfl rfl ?_
    refine pm_bipush (pc := 11) (10 : Int32) (by decide) dX12_door_11 ?_
    refine pm_icmp_ge (pc := 13) 54 dX12_door_13 (by decide) (fun hc5 => ?_) (fun hc5 => ?_)
    · rw [if_pos hc5] at hf
      refine pm_lv [(1, .int v1)] [1] rfl ?_
      exact hkx v1 σ hf
    · rw [if_neg hc5] at hf
      refine pm_aload_n (pc := 16) 0 dX12_door_16 rfl rfl h0.pos ?_
      refine pm_iload_n (pc := 17) 3 dX12_door_17 rfl rfl ?_
      obtain ⟨u2, hu2, hf⟩ := pm_bind_e hf
      refine pm_cVi (pc := 18) (as := [.int v3]) (st := []) mvX12_337 (KX12_greatestPart l h0 hu2) (by decide) h0 rfl rfl (Nat.le_of_ble_eq_true rfl) rfl dX12_door_18 ?_
      refine pm_istore (pc := 21) [(4, .int u2.1), (0, .ref v0), (1, .int v1), (2, .int v2), (3, .int v3)] dX12_door_21 (by decide) rfl ?_
      refine pm_iload (pc := 23) 0 dX12_door_23 rfl ?_
      refine pm_iload_n (pc := 25) 3 dX12_door_25 rfl rfl ?_
      refine pm_icmp_ge (pc := 26) 33 dX12_door_26 (by decide) (fun hc4 => ?_) (fun hc4 => ?_)
      · rw [if_pos hc4] at hf
        refine pm_iload_n (pc := 33) 2 dX12_door_33 rfl rfl ?_
        refine pm_lv [(0, .ref v0), (2, .int v2), (3, .int v3), (4, .int u2.1)] [1, 3, 4, 0] rfl ?_
        exact fX12_door_J34_E l h0 ih hf
      · rw [if_neg hc4] at hf
        refine pm_iload_n (pc := 29) 4 dX12_door_29 rfl rfl ?_
        refine pm_goto (pc := 30) 34 dX12_door_30 (by decide) ?_
        refine pm_lv [(0, .ref v0), (2, .int v2), (3, .int v3), (4, .int u2.1)] [1, 3, 4, 0] rfl ?_
        exact fX12_door_J34_E l h0 ih hf
def fX12_door (S : pm_S) (a0 : Nat) (σ : pm_H) : Option (Int32 × pm_H) :=
  Option.bind (fX12_rods S a0 (0 : Int32) σ) fun u1 => fX12_door_L10 S a0 (fun w6 s7 => some (w6, s7)) pm_fuel (-1 : Int32) u1.1 (1 : Int32) u1.2
set_option maxRecDepth 100000 in
set_option maxHeartbeats 4000000 in
theorem KX12_door (l : Launch) {S : pm_S} {p : Int32 × pm_H} {a0 : Nat} {σ : pm_H} (h0 : pm_is S a0 15) (hf : fX12_door S a0 σ = some p) : pm_M l yX12_door cX12_door 5 (some .int) false 2 [.ref a0] S σ (pm_ri S p) := by
  refine pm_M.of (by decide +kernel) (Nat.le_of_ble_eq_true rfl) ?_
  show pm_E l yX12_door cX12_door 5 (some .int) false 2 S (pm_ri S p) 0 [(0, .ref a0)] [] S σ
  rw [fX12_door] at hf
  refine pm_iconst (pc := 0) (-1 : Int32) (by decide) dX12_door_0 ?_
  refine pm_istore_n (pc := 1) [(1, .int (-1 : Int32)), (0, .ref a0)] dX12_door_1 rfl (by decide) rfl ?_
  refine pm_aload_n (pc := 2) 1 dX12_door_2 rfl rfl h0.pos ?_
  refine pm_iconst (pc := 3) (0 : Int32) (by decide) dX12_door_3 ?_
  obtain ⟨u1, hu1, hf⟩ := pm_bind_e hf
  refine pm_cVi (pc := 4) (as := [.int (0 : Int32)]) (st := []) mvX12_334 (KX12_rods l h0 hu1) (by decide) h0 rfl rfl (Nat.le_of_ble_eq_true rfl) rfl dX12_door_4 ?_
  refine pm_istore_n (pc := 7) [(2, .int u1.1), (1, .int (-1 : Int32)), (0, .ref a0)] dX12_door_7 rfl (by decide) rfl ?_
  refine pm_iconst (pc := 8) (1 : Int32) (by decide) dX12_door_8 ?_
  refine pm_istore_n (pc := 9) [(3, .int (1 : Int32)), (2, .int u1.1), (1, .int (-1 : Int32)), (0, .ref a0)] dX12_door_9 rfl (by decide) rfl ?_
  refine pm_lv [(0, .ref a0), (1, .int (-1 : Int32)), (2, .int u1.1), (3, .int (1 : Int32))] [3, 2, 1, 0] rfl ?_
  refine fX12_door_L10_E l h0 (fun w6 s7 hf => ?_) pm_fuel (-1 : Int32) u1.1 (1 : Int32) u1.2 hf
  refine pm_iload_n (pc := 54) 0 dX12_door_54 rfl rfl ?_
  exact pm_iret rfl dX12_door_55 (pm_ri_e hf)
def fX12_write (S : pm_S) (a0 : Nat) (a1 : Int32) (a2 : Int32) (σ : pm_H) : Option (Int32 × pm_H) :=
  Option.bind (fX12_isPerson S a0 a1 σ) fun u1 => (if u1.1 = 0 then some ((-1000000001 : Int32), u1.2) else Option.bind (fX12_in S a2.toInt64 (1 : Int64) (999 : Int64) u1.2) fun u2 => (if u2.1 = 0 then some ((-1000000002 : Int32), u2.2) else (if (u2.2.1 a0 38) = (15 : Int32) then some ((-1000000004 : Int32), u2.2) else (if pm_ib (u2.2.1 a0 38) (pm_len S (u2.2.2 a0 39)) = true then pm_let (pm_si u2.2 (u2.2.2 a0 39) ((u2.2.1 a0 38)).toNatClampNeg a1) fun s5 => (if pm_ib (s5.1 a0 38) (pm_len S (s5.2 a0 40)) = true then pm_let (pm_si s5 (s5.2 a0 40) ((s5.1 a0 38)).toNatClampNeg a2) fun s8 => pm_let (pm_si s8 a0 38 ((s8.1 a0 38) + (1 : Int32))) fun s9 => some ((s9.1 a0 38), s9) else none) else none))))
set_option maxRecDepth 100000 in
set_option maxHeartbeats 4000000 in
theorem KX12_write (l : Launch) {S : pm_S} {p : Int32 × pm_H} {a0 : Nat} {a1 : Int32} {a2 : Int32} {σ : pm_H} (h0 : pm_is S a0 15) (hf : fX12_write S a0 a1 a2 σ = some p) : pm_M l yX12_write cX12_write 3 (some .int) false 2 [.ref a0, .int a1, .int a2] S σ (pm_ri S p) := by
  refine pm_M.of (by decide +kernel) (Nat.le_of_ble_eq_true rfl) ?_
  show pm_E l yX12_write cX12_write 3 (some .int) false 2 S (pm_ri S p) 0 [(0, .ref a0), (1, .int a1), (2, .int a2)] [] S σ
  rw [fX12_write] at hf
  refine pm_aload_n (pc := 0) 0 dX12_write_0 rfl rfl h0.pos ?_
  refine pm_iload_n (pc := 1) 1 dX12_write_1 rfl rfl ?_
  obtain ⟨u1, hu1, hf⟩ := pm_bind_e hf
  refine pm_cVi (pc := 2) (as := [.int a1]) (st := []) mvX12_220 (KX12_isPerson l h0 hu1) (by decide) h0 rfl rfl (Nat.le_of_ble_eq_true rfl) rfl dX12_write_2 ?_
  refine pm_if_ne (pc := 5) 11 dX12_write_5 (by decide) (fun hc12 => ?_) (fun hc12 => ?_)
  · rw [if_pos hc12] at hf
    refine pm_ldc (pc := 8) kcX12_216 dX12_write_8 ?_
    exact pm_iret rfl dX12_write_10 (pm_ri_e hf)
  · rw [if_neg hc12] at hf
    refine pm_iload_n (pc := 11) 2 dX12_write_11 rfl rfl ?_
    refine pm_i2l (pc := 12) dX12_write_12 ?_
    refine pm_lconst (pc := 13) (1 : Int64) (by decide) dX12_write_13 ?_
    refine pm_ldc2 (pc := 14) klX12_265 dX12_write_14 ?_
    obtain ⟨u2, hu2, hf⟩ := pm_bind_e hf
    refine pm_cSi (pc := 17) (as := [.long a2.toInt64, .long (1 : Int64), .long (999 : Int64)]) (st := []) msX12_87 (KX12_in l  hu2) (by decide) rfl rfl (Nat.le_of_ble_eq_true rfl) rfl dX12_write_17 ?_
    refine pm_if_ne (pc := 20) 26 dX12_write_20 (by decide) (fun hc11 => ?_) (fun hc11 => ?_)
    · rw [if_pos hc11] at hf
      refine pm_ldc (pc := 23) kcX12_96 dX12_write_23 ?_
      exact pm_iret rfl dX12_write_25 (pm_ri_e hf)
    · rw [if_neg hc11] at hf
      refine pm_aload_n (pc := 26) 0 dX12_write_26 rfl rfl h0.pos ?_
      refine pm_getI (pc := 27) (k := 38) pm_cl12 flX12_192 (by decide) rfl h0 dX12_write_27 ?_
      refine pm_bipush (pc := 30) (15 : Int32) (by decide) dX12_write_30 ?_
      refine pm_icmp_ne (pc := 32) 38 dX12_write_32 (by decide) (fun hc10 => ?_) (fun hc10 => ?_)
      · rw [if_pos hc10] at hf
        refine pm_ldc (pc := 35) kcX12_100 dX12_write_35 ?_
        exact pm_iret rfl dX12_write_37 (pm_ri_e hf)
      · rw [if_neg hc10] at hf
        refine pm_aload_n (pc := 38) 0 dX12_write_38 rfl rfl h0.pos ?_
        refine pm_getT (pc := 39) (k := 39) pm_cl12 flX12_68 (by decide) rfl h0 dX12_write_39 (fun hr3 => ?_)
        refine pm_aload_n (pc := 42) 0 dX12_write_42 rfl rfl h0.pos ?_
        refine pm_getI (pc := 43) (k := 38) pm_cl12 flX12_192 (by decide) rfl h0 dX12_write_43 ?_
        refine pm_iload_n (pc := 46) 1 dX12_write_46 rfl rfl ?_
        obtain ⟨hb4, hf⟩ := pm_gd hf
        refine pm_iast (pc := 47) hr3 (pm_ib_in hb4) dX12_write_47 ?_
        obtain ⟨s5, es5, hf⟩ := pm_let_e hf
        refine pm_nmh es5 ?_
        refine pm_aload_n (pc := 48) 0 dX12_write_48 rfl rfl h0.pos ?_
        refine pm_getT (pc := 49) (k := 40) pm_cl12 flX12_71 (by decide) rfl h0 dX12_write_49 (fun hr6 => ?_)
        refine pm_aload_n (pc := 52) 0 dX12_write_52 rfl rfl h0.pos ?_
        refine pm_getI (pc := 53) (k := 38) pm_cl12 flX12_192 (by decide) rfl h0 dX12_write_53 ?_
        refine pm_iload_n (pc := 56) 2 dX12_write_56 rfl rfl ?_
        obtain ⟨hb7, hf⟩ := pm_gd hf
        refine pm_iast (pc := 57) hr6 (pm_ib_in hb7) dX12_write_57 ?_
        obtain ⟨s8, es8, hf⟩ := pm_let_e hf
        refine pm_nmh es8 ?_
        refine pm_aload_n (pc := 58) 0 dX12_write_58 rfl rfl h0.pos ?_
        refine pm_dup (pc := 59) rfl dX12_write_59 ?_
        refine pm_getI (pc := 60) (k := 38) pm_cl12 flX12_192 (by decide) rfl h0 dX12_write_60 ?_
        refine pm_iconst (pc := 63) (1 : Int32) (by decide) dX12_write_63 ?_
        refine pm_iadd (pc := 64) dX12_write_64 ?_
        refine pm_putI (pc := 65) (k := 38) pm_cl12 flX12_192 (by decide) rfl rfl rfl h0 dX12_write_65 ?_
        obtain ⟨s9, es9, hf⟩ := pm_let_e hf
        refine pm_nmh es9 ?_
        refine pm_aload_n (pc := 68) 0 dX12_write_68 rfl rfl h0.pos ?_
        refine pm_getI (pc := 69) (k := 38) pm_cl12 flX12_192 (by decide) rfl h0 dX12_write_69 ?_
        exact pm_iret rfl dX12_write_72 (pm_ri_e hf)
def fX12_tear (S : pm_S) (a0 : Nat) (σ : pm_H) : Option (Int32 × pm_H) :=
  pm_let ((σ.1 a0 34) + (σ.1 a0 38)) fun x1 => pm_let (pm_si σ a0 34 (0 : Int32)) fun s2 => pm_let (pm_si s2 a0 38 (0 : Int32)) fun s3 => some (x1, s3)
set_option maxRecDepth 100000 in
set_option maxHeartbeats 4000000 in
theorem KX12_tear (l : Launch) {S : pm_S} {p : Int32 × pm_H} {a0 : Nat} {σ : pm_H} (h0 : pm_is S a0 15) (hf : fX12_tear S a0 σ = some p) : pm_M l yX12_tear cX12_tear 2 (some .int) false 0 [.ref a0] S σ (pm_ri S p) := by
  refine pm_M.of (by decide +kernel) (Nat.le_of_ble_eq_true rfl) ?_
  show pm_E l yX12_tear cX12_tear 2 (some .int) false 0 S (pm_ri S p) 0 [(0, .ref a0)] [] S σ
  rw [fX12_tear] at hf
  refine pm_aload_n (pc := 0) 0 dX12_tear_0 rfl rfl h0.pos ?_
  refine pm_getI (pc := 1) (k := 34) pm_cl12 flX12_189 (by decide) rfl h0 dX12_tear_1 ?_
  refine pm_aload_n (pc := 4) 0 dX12_tear_4 rfl rfl h0.pos ?_
  refine pm_getI (pc := 5) (k := 38) pm_cl12 flX12_192 (by decide) rfl h0 dX12_tear_5 ?_
  refine pm_iadd (pc := 8) dX12_tear_8 ?_
  obtain ⟨x1, ex1, hf⟩ := pm_let_e hf
  refine pm_nmi ex1 ?_
  refine pm_istore_n (pc := 9) [(1, .int x1), (0, .ref a0)] dX12_tear_9 rfl (by decide) rfl ?_
  refine pm_aload_n (pc := 10) 1 dX12_tear_10 rfl rfl h0.pos ?_
  refine pm_iconst (pc := 11) (0 : Int32) (by decide) dX12_tear_11 ?_
  refine pm_putI (pc := 12) (k := 34) pm_cl12 flX12_189 (by decide) rfl rfl rfl h0 dX12_tear_12 ?_
  obtain ⟨s2, es2, hf⟩ := pm_let_e hf
  refine pm_nmh es2 ?_
  refine pm_aload_n (pc := 15) 1 dX12_tear_15 rfl rfl h0.pos ?_
  refine pm_iconst (pc := 16) (0 : Int32) (by decide) dX12_tear_16 ?_
  refine pm_putI (pc := 17) (k := 38) pm_cl12 flX12_192 (by decide) rfl rfl rfl h0 dX12_tear_17 ?_
  obtain ⟨s3, es3, hf⟩ := pm_let_e hf
  refine pm_nmh es3 ?_
  refine pm_iload_n (pc := 20) 0 dX12_tear_20 rfl rfl ?_
  exact pm_iret rfl dX12_tear_21 (pm_ri_e hf)
def fX12_judge_L2 (S : pm_S) (v0 : Nat) (kx : pm_H → Option (Int32 × pm_H)) : Nat → Int32 → pm_H → Option (Int32 × pm_H)
  | 0, _, _ => none
  | n + 1, v1, σ => (if (σ.1 v0 38) ≤ v1 then kx σ else (if pm_ib v1 (pm_len S (σ.2 v0 39)) = true then (if pm_ib ((74 : Int32) + (σ.1 (σ.2 v0 39) (v1).toNatClampNeg)) (pm_len S (σ.2 v0 11)) = true then (if pm_ib v1 (pm_len S (σ.2 v0 40)) = true then (if (σ.1 (σ.2 v0 11) (((74 : Int32) + (σ.1 (σ.2 v0 39) (v1).toNatClampNeg))).toNatClampNeg) = (σ.1 (σ.2 v0 40) (v1).toNatClampNeg) then fX12_judge_L2 S v0 kx n (v1 + (1 : Int32)) σ else some (v1, σ)) else none) else none) else none))
set_option maxRecDepth 100000 in
set_option maxHeartbeats 4000000 in
theorem fX12_judge_L2_E (l : Launch) {S : pm_S} {p : Int32 × pm_H} {v0 : Nat} {kx : pm_H → Option (Int32 × pm_H)} (h0 : pm_is S v0 15) (hkx : ∀  sw, kx  sw = some p → pm_E l yX12_judge cX12_judge 2 (some .int) false 0 S (pm_ri S p) 41 [] [] S sw) : ∀ (n : Nat) (v1 : Int32) (σ : pm_H), fX12_judge_L2 S v0 kx n v1 σ = some p → pm_E l yX12_judge cX12_judge 2 (some .int) false 0 S (pm_ri S p) 2 [(0, .ref v0), (1, .int v1)] [] S σ := by
  intro n
  induction n with
  | zero => intro v1 σ hf; cases hf
  | succ n ih =>
    intro v1 σ hf
    rw [fX12_judge_L2] at hf
    refine pm_iload_n (pc := 2) 1 dX12_judge_2 rfl rfl ?_
    refine pm_aload_n (pc := 3) 0 dX12_judge_3 rfl rfl h0.pos ?_
    refine pm_getI (pc := 4) (k := 38) pm_cl12 flX12_192 (by decide) rfl h0 dX12_judge_4 ?_
    refine pm_icmp_ge (pc := 7) 41 dX12_judge_7 (by decide) (fun hc8 => ?_) (fun hc8 => ?_)
    · rw [if_pos hc8] at hf
      refine pm_lv [] [] rfl ?_
      exact hkx σ hf
    · rw [if_neg hc8] at hf
      refine pm_aload_n (pc := 10) 0 dX12_judge_10 rfl rfl h0.pos ?_
      refine pm_getT (pc := 11) (k := 11) pm_cl12 flX12_25 (by decide) rfl h0 dX12_judge_11 (fun hr1 => ?_)
      refine pm_bipush (pc := 14) (74 : Int32) (by decide) dX12_judge_14 ?_
      refine pm_aload_n (pc := 16) 0 dX12_judge_16 rfl rfl h0.pos ?_
      refine pm_getT (pc := 17) (k := 39) pm_cl12 flX12_68 (by decide) rfl h0 dX12_judge_17 (fun hr2 => ?_)
      refine pm_iload_n (pc := 20) 1 dX12_judge_20 rfl rfl ?_
      obtain ⟨hb3, hf⟩ := pm_gd hf
      refine pm_iald (pc := 21) hr2 (pm_ib_in hb3) dX12_judge_21 ?_
      refine pm_iadd (pc := 22) dX12_judge_22 ?_
      obtain ⟨hb4, hf⟩ := pm_gd hf
      refine pm_iald (pc := 23) hr1 (pm_ib_in hb4) dX12_judge_23 ?_
      refine pm_aload_n (pc := 24) 0 dX12_judge_24 rfl rfl h0.pos ?_
      refine pm_getT (pc := 25) (k := 40) pm_cl12 flX12_71 (by decide) rfl h0 dX12_judge_25 (fun hr5 => ?_)
      refine pm_iload_n (pc := 28) 1 dX12_judge_28 rfl rfl ?_
      obtain ⟨hb6, hf⟩ := pm_gd hf
      refine pm_iald (pc := 29) hr5 (pm_ib_in hb6) dX12_judge_29 ?_
      refine pm_icmp_eq (pc := 30) 35 dX12_judge_30 (by decide) (fun hc7 => ?_) (fun hc7 => ?_)
      · rw [if_pos hc7] at hf
        refine pm_iinc (pc := 35) 1 (v1 + (1 : Int32)) [(1, .int (v1 + (1 : Int32))), (0, .ref v0)] dX12_judge_35 rfl rfl (by decide) rfl ?_
        refine pm_goto (pc := 38) 2 dX12_judge_38 (by decide) ?_
        refine pm_lv [(0, .ref v0), (1, .int (v1 + (1 : Int32)))] [1, 0] rfl ?_
        exact ih (v1 + (1 : Int32)) σ hf
      · rw [if_neg hc7] at hf
        refine pm_iload_n (pc := 33) 1 dX12_judge_33 rfl rfl ?_
        exact pm_iret rfl dX12_judge_34 (pm_ri_e hf)
def fX12_judge (S : pm_S) (a0 : Nat) (σ : pm_H) : Option (Int32 × pm_H) :=
  fX12_judge_L2 S a0 (fun s9 => some ((-1 : Int32), s9)) pm_fuel (0 : Int32) σ
set_option maxRecDepth 100000 in
set_option maxHeartbeats 4000000 in
theorem KX12_judge (l : Launch) {S : pm_S} {p : Int32 × pm_H} {a0 : Nat} {σ : pm_H} (h0 : pm_is S a0 15) (hf : fX12_judge S a0 σ = some p) : pm_M l yX12_judge cX12_judge 2 (some .int) false 0 [.ref a0] S σ (pm_ri S p) := by
  refine pm_M.of (by decide +kernel) (Nat.le_of_ble_eq_true rfl) ?_
  show pm_E l yX12_judge cX12_judge 2 (some .int) false 0 S (pm_ri S p) 0 [(0, .ref a0)] [] S σ
  rw [fX12_judge] at hf
  refine pm_iconst (pc := 0) (0 : Int32) (by decide) dX12_judge_0 ?_
  refine pm_istore_n (pc := 1) [(1, .int (0 : Int32)), (0, .ref a0)] dX12_judge_1 rfl (by decide) rfl ?_
  refine pm_lv [(0, .ref a0), (1, .int (0 : Int32))] [1, 0] rfl ?_
  refine fX12_judge_L2_E l h0 (fun s9 hf => ?_) pm_fuel (0 : Int32) σ hf
  refine pm_iconst (pc := 41) (-1 : Int32) (by decide) dX12_judge_41 ?_
  exact pm_iret rfl dX12_judge_42 (pm_ri_e hf)
def fX12_seed (S : pm_S) (a0 : Nat) (a1 : Int32) (σ : pm_H) : Option (Int32 × pm_H) :=
  (if 0 ≤ a1 then pm_let (σ.1 a0 12) fun x1 => pm_let (pm_si σ a0 12 a1) fun s2 => some (x1, s2) else some ((-1000000002 : Int32), σ))
set_option maxRecDepth 100000 in
set_option maxHeartbeats 4000000 in
theorem KX12_seed (l : Launch) {S : pm_S} {p : Int32 × pm_H} {a0 : Nat} {a1 : Int32} {σ : pm_H} (h0 : pm_is S a0 15) (hf : fX12_seed S a0 a1 σ = some p) : pm_M l yX12_seed cX12_seed 3 (some .int) false 0 [.ref a0, .int a1] S σ (pm_ri S p) := by
  refine pm_M.of (by decide +kernel) (Nat.le_of_ble_eq_true rfl) ?_
  show pm_E l yX12_seed cX12_seed 3 (some .int) false 0 S (pm_ri S p) 0 [(0, .ref a0), (1, .int a1)] [] S σ
  rw [fX12_seed] at hf
  refine pm_iload_n (pc := 0) 1 dX12_seed_0 rfl rfl ?_
  refine pm_if_ge (pc := 1) 7 dX12_seed_1 (by decide) (fun hc3 => ?_) (fun hc3 => ?_)
  · rw [if_pos hc3] at hf
    refine pm_aload_n (pc := 7) 0 dX12_seed_7 rfl rfl h0.pos ?_
    refine pm_getI (pc := 8) (k := 12) pm_cl12 flX12_267 (by decide) rfl h0 dX12_seed_8 ?_
    obtain ⟨x1, ex1, hf⟩ := pm_let_e hf
    refine pm_nmi ex1 ?_
    refine pm_istore_n (pc := 11) [(2, .int x1), (0, .ref a0), (1, .int a1)] dX12_seed_11 rfl (by decide) rfl ?_
    refine pm_aload_n (pc := 12) 1 dX12_seed_12 rfl rfl h0.pos ?_
    refine pm_iload_n (pc := 13) 2 dX12_seed_13 rfl rfl ?_
    refine pm_putI (pc := 14) (k := 12) pm_cl12 flX12_267 (by decide) rfl rfl rfl h0 dX12_seed_14 ?_
    obtain ⟨s2, es2, hf⟩ := pm_let_e hf
    refine pm_nmh es2 ?_
    refine pm_iload_n (pc := 17) 0 dX12_seed_17 rfl rfl ?_
    exact pm_iret rfl dX12_seed_18 (pm_ri_e hf)
  · rw [if_neg hc3] at hf
    refine pm_ldc (pc := 4) kcX12_96 dX12_seed_4 ?_
    exact pm_iret rfl dX12_seed_6 (pm_ri_e hf)
def fX12_keep_L15 (S : pm_S) (v0 : Nat) (v1 : Int32) (kx : pm_H → Option (Int32 × pm_H)) : Nat → Int32 → pm_H → Option (Int32 × pm_H)
  | 0, _, _ => none
  | n + 1, v2, σ => (if (80 : Int32) ≤ v2 then kx σ else (if pm_ib v2 (pm_len S (σ.2 v0 11)) = true then (if pm_ib (((81 : Int32) * v1) + v2) (pm_len S (σ.2 v0 41)) = true then pm_let (pm_si σ (σ.2 v0 41) ((((81 : Int32) * v1) + v2)).toNatClampNeg (σ.1 (σ.2 v0 11) (v2).toNatClampNeg)) fun s6 => fX12_keep_L15 S v0 v1 kx n (v2 + (1 : Int32)) s6 else none) else none))
set_option maxRecDepth 100000 in
set_option maxHeartbeats 4000000 in
theorem fX12_keep_L15_E (l : Launch) {S : pm_S} {p : Int32 × pm_H} {v0 : Nat} {v1 : Int32} {kx : pm_H → Option (Int32 × pm_H)} (h0 : pm_is S v0 15) (hkx : ∀  sw, kx  sw = some p → pm_E l yX12_keep cX12_keep 3 (some .int) false 1 S (pm_ri S p) 44 [(0, .ref v0), (1, .int v1)] [] S sw) : ∀ (n : Nat) (v2 : Int32) (σ : pm_H), fX12_keep_L15 S v0 v1 kx n v2 σ = some p → pm_E l yX12_keep cX12_keep 3 (some .int) false 1 S (pm_ri S p) 15 [(0, .ref v0), (1, .int v1), (2, .int v2)] [] S σ := by
  intro n
  induction n with
  | zero => intro v2 σ hf; cases hf
  | succ n ih =>
    intro v2 σ hf
    rw [fX12_keep_L15] at hf
    refine pm_iload_n (pc := 15) 2 dX12_keep_15 rfl rfl ?_
    refine pm_bipush (pc := 16) (80 : Int32) (by decide) dX12_keep_16 ?_
    refine pm_icmp_ge (pc := 18) 44 dX12_keep_18 (by decide) (fun hc7 => ?_) (fun hc7 => ?_)
    · rw [if_pos hc7] at hf
      refine pm_lv [(0, .ref v0), (1, .int v1)] [0, 1] rfl ?_
      exact hkx σ hf
    · rw [if_neg hc7] at hf
      refine pm_aload_n (pc := 21) 0 dX12_keep_21 rfl rfl h0.pos ?_
      refine pm_getT (pc := 22) (k := 41) pm_cl12 flX12_74 (by decide) rfl h0 dX12_keep_22 (fun hr2 => ?_)
      refine pm_bipush (pc := 25) (81 : Int32) (by decide) dX12_keep_25 ?_
      refine pm_iload_n (pc := 27) 1 dX12_keep_27 rfl rfl ?_
      refine pm_imul (pc := 28) dX12_keep_28 ?_
      refine pm_iload_n (pc := 29) 2 dX12_keep_29 rfl rfl ?_
      refine pm_iadd (pc := 30) dX12_keep_30 ?_
      refine pm_aload_n (pc := 31) 0 dX12_keep_31 rfl rfl h0.pos ?_
      refine pm_getT (pc := 32) (k := 11) pm_cl12 flX12_25 (by decide) rfl h0 dX12_keep_32 (fun hr3 => ?_)
      refine pm_iload_n (pc := 35) 2 dX12_keep_35 rfl rfl ?_
      obtain ⟨hb4, hf⟩ := pm_gd hf
      refine pm_iald (pc := 36) hr3 (pm_ib_in hb4) dX12_keep_36 ?_
      obtain ⟨hb5, hf⟩ := pm_gd hf
      refine pm_iast (pc := 37) hr2 (pm_ib_in hb5) dX12_keep_37 ?_
      obtain ⟨s6, es6, hf⟩ := pm_let_e hf
      refine pm_nmh es6 ?_
      refine pm_iinc (pc := 38) 2 (v2 + (1 : Int32)) [(2, .int (v2 + (1 : Int32))), (0, .ref v0), (1, .int v1)] dX12_keep_38 rfl rfl (by decide) rfl ?_
      refine pm_goto (pc := 41) 15 dX12_keep_41 (by decide) ?_
      refine pm_lv [(0, .ref v0), (1, .int v1), (2, .int (v2 + (1 : Int32)))] [1, 2, 0] rfl ?_
      exact ih (v2 + (1 : Int32)) s6 hf
def fX12_keep (S : pm_S) (a0 : Nat) (a1 : Int32) (σ : pm_H) : Option (Int32 × pm_H) :=
  Option.bind (fX12_in S a1.toInt64 (0 : Int64) (1 : Int64) σ) fun u1 => (if u1.1 = 0 then some ((-1000000001 : Int32), u1.2) else fX12_keep_L15 S a0 a1 (fun s8 => (if pm_ib (((81 : Int32) * a1) + (80 : Int32)) (pm_len S (s8.2 a0 41)) = true then pm_let (pm_si s8 (s8.2 a0 41) ((((81 : Int32) * a1) + (80 : Int32))).toNatClampNeg (s8.1 a0 12)) fun s11 => (if pm_ib a1 (pm_len S (s11.2 a0 42)) = true then pm_let (pm_si s11 (s11.2 a0 42) (a1).toNatClampNeg (1 : Int32)) fun s14 => pm_let (pm_si s14 a0 30 (0 : Int32)) fun s15 => some ((1 : Int32), s15) else none) else none)) pm_fuel (0 : Int32) u1.2)
set_option maxRecDepth 100000 in
set_option maxHeartbeats 4000000 in
theorem KX12_keep (l : Launch) {S : pm_S} {p : Int32 × pm_H} {a0 : Nat} {a1 : Int32} {σ : pm_H} (h0 : pm_is S a0 15) (hf : fX12_keep S a0 a1 σ = some p) : pm_M l yX12_keep cX12_keep 3 (some .int) false 1 [.ref a0, .int a1] S σ (pm_ri S p) := by
  refine pm_M.of (by decide +kernel) (Nat.le_of_ble_eq_true rfl) ?_
  show pm_E l yX12_keep cX12_keep 3 (some .int) false 1 S (pm_ri S p) 0 [(0, .ref a0), (1, .int a1)] [] S σ
  rw [fX12_keep] at hf
  refine pm_iload_n (pc := 0) 1 dX12_keep_0 rfl rfl ?_
  refine pm_i2l (pc := 1) dX12_keep_1 ?_
  refine pm_lconst (pc := 2) (0 : Int64) (by decide) dX12_keep_2 ?_
  refine pm_lconst (pc := 3) (1 : Int64) (by decide) dX12_keep_3 ?_
  obtain ⟨u1, hu1, hf⟩ := pm_bind_e hf
  refine pm_cSi (pc := 4) (as := [.long a1.toInt64, .long (0 : Int64), .long (1 : Int64)]) (st := []) msX12_87 (KX12_in l  hu1) (by decide) rfl rfl (Nat.le_of_ble_eq_true rfl) rfl dX12_keep_4 ?_
  refine pm_if_ne (pc := 7) 13 dX12_keep_7 (by decide) (fun hc16 => ?_) (fun hc16 => ?_)
  · rw [if_pos hc16] at hf
    refine pm_ldc (pc := 10) kcX12_216 dX12_keep_10 ?_
    exact pm_iret rfl dX12_keep_12 (pm_ri_e hf)
  · rw [if_neg hc16] at hf
    refine pm_iconst (pc := 13) (0 : Int32) (by decide) dX12_keep_13 ?_
    refine pm_istore_n (pc := 14) [(2, .int (0 : Int32)), (0, .ref a0), (1, .int a1)] dX12_keep_14 rfl (by decide) rfl ?_
    refine pm_lv [(0, .ref a0), (1, .int a1), (2, .int (0 : Int32))] [1, 2, 0] rfl ?_
    refine fX12_keep_L15_E l h0 (fun s8 hf => ?_) pm_fuel (0 : Int32) u1.2 hf
    refine pm_aload_n (pc := 44) 0 dX12_keep_44 rfl rfl h0.pos ?_
    refine pm_getT (pc := 45) (k := 41) pm_cl12 flX12_74 (by decide) rfl h0 dX12_keep_45 (fun hr9 => ?_)
    refine pm_bipush (pc := 48) (81 : Int32) (by decide) dX12_keep_48 ?_
    refine pm_iload_n (pc := 50) 1 dX12_keep_50 rfl rfl ?_
    refine pm_imul (pc := 51) dX12_keep_51 ?_
    refine pm_bipush (pc := 52) (80 : Int32) (by decide) dX12_keep_52 ?_
    refine pm_iadd (pc := 54) dX12_keep_54 ?_
    refine pm_aload_n (pc := 55) 0 dX12_keep_55 rfl rfl h0.pos ?_
    refine pm_getI (pc := 56) (k := 12) pm_cl12 flX12_267 (by decide) rfl h0 dX12_keep_56 ?_
    obtain ⟨hb10, hf⟩ := pm_gd hf
    refine pm_iast (pc := 59) hr9 (pm_ib_in hb10) dX12_keep_59 ?_
    obtain ⟨s11, es11, hf⟩ := pm_let_e hf
    refine pm_nmh es11 ?_
    refine pm_aload_n (pc := 60) 0 dX12_keep_60 rfl rfl h0.pos ?_
    refine pm_getT (pc := 61) (k := 42) pm_cl12 flX12_77 (by decide) rfl h0 dX12_keep_61 (fun hr12 => ?_)
    refine pm_iload_n (pc := 64) 1 dX12_keep_64 rfl rfl ?_
    refine pm_iconst (pc := 65) (1 : Int32) (by decide) dX12_keep_65 ?_
    obtain ⟨hb13, hf⟩ := pm_gd hf
    refine pm_zast (pc := 66) hr12 (pm_ib_in hb13) (by decide) dX12_keep_66 ?_
    obtain ⟨s14, es14, hf⟩ := pm_let_e hf
    refine pm_nmh es14 ?_
    refine pm_aload_n (pc := 67) 0 dX12_keep_67 rfl rfl h0.pos ?_
    refine pm_iconst (pc := 68) (0 : Int32) (by decide) dX12_keep_68 ?_
    refine pm_putI (pc := 69) (k := 30) pm_cl12 flX12_195 (by decide) rfl rfl rfl h0 dX12_keep_69 ?_
    obtain ⟨s15, es15, hf⟩ := pm_let_e hf
    refine pm_nmh es15 ?_
    refine pm_iconst (pc := 72) (1 : Int32) (by decide) dX12_keep_72 ?_
    exact pm_iret rfl dX12_keep_73 (pm_ri_e hf)
def fX12_goBack_L27 (S : pm_S) (v0 : Nat) (v1 : Int32) (kx : pm_H → Option (Int32 × pm_H)) : Nat → Int32 → pm_H → Option (Int32 × pm_H)
  | 0, _, _ => none
  | n + 1, v2, σ => (if (80 : Int32) ≤ v2 then kx σ else (if pm_ib (((81 : Int32) * v1) + v2) (pm_len S (σ.2 v0 41)) = true then (if pm_ib v2 (pm_len S (σ.2 v0 11)) = true then pm_let (pm_si σ (σ.2 v0 11) (v2).toNatClampNeg (σ.1 (σ.2 v0 41) ((((81 : Int32) * v1) + v2)).toNatClampNeg)) fun s8 => fX12_goBack_L27 S v0 v1 kx n (v2 + (1 : Int32)) s8 else none) else none))
set_option maxRecDepth 100000 in
set_option maxHeartbeats 4000000 in
theorem fX12_goBack_L27_E (l : Launch) {S : pm_S} {p : Int32 × pm_H} {v0 : Nat} {v1 : Int32} {kx : pm_H → Option (Int32 × pm_H)} (h0 : pm_is S v0 15) (hkx : ∀  sw, kx  sw = some p → pm_E l yX12_goBack cX12_goBack 3 (some .int) false 1 S (pm_ri S p) 56 [(0, .ref v0), (1, .int v1)] [] S sw) : ∀ (n : Nat) (v2 : Int32) (σ : pm_H), fX12_goBack_L27 S v0 v1 kx n v2 σ = some p → pm_E l yX12_goBack cX12_goBack 3 (some .int) false 1 S (pm_ri S p) 27 [(0, .ref v0), (1, .int v1), (2, .int v2)] [] S σ := by
  intro n
  induction n with
  | zero => intro v2 σ hf; cases hf
  | succ n ih =>
    intro v2 σ hf
    rw [fX12_goBack_L27] at hf
    refine pm_iload_n (pc := 27) 2 dX12_goBack_27 rfl rfl ?_
    refine pm_bipush (pc := 28) (80 : Int32) (by decide) dX12_goBack_28 ?_
    refine pm_icmp_ge (pc := 30) 56 dX12_goBack_30 (by decide) (fun hc9 => ?_) (fun hc9 => ?_)
    · rw [if_pos hc9] at hf
      refine pm_lv [(0, .ref v0), (1, .int v1)] [0, 1] rfl ?_
      exact hkx σ hf
    · rw [if_neg hc9] at hf
      refine pm_aload_n (pc := 33) 0 dX12_goBack_33 rfl rfl h0.pos ?_
      refine pm_getT (pc := 34) (k := 11) pm_cl12 flX12_25 (by decide) rfl h0 dX12_goBack_34 (fun hr4 => ?_)
      refine pm_iload_n (pc := 37) 2 dX12_goBack_37 rfl rfl ?_
      refine pm_aload_n (pc := 38) 0 dX12_goBack_38 rfl rfl h0.pos ?_
      refine pm_getT (pc := 39) (k := 41) pm_cl12 flX12_74 (by decide) rfl h0 dX12_goBack_39 (fun hr5 => ?_)
      refine pm_bipush (pc := 42) (81 : Int32) (by decide) dX12_goBack_42 ?_
      refine pm_iload_n (pc := 44) 1 dX12_goBack_44 rfl rfl ?_
      refine pm_imul (pc := 45) dX12_goBack_45 ?_
      refine pm_iload_n (pc := 46) 2 dX12_goBack_46 rfl rfl ?_
      refine pm_iadd (pc := 47) dX12_goBack_47 ?_
      obtain ⟨hb6, hf⟩ := pm_gd hf
      refine pm_iald (pc := 48) hr5 (pm_ib_in hb6) dX12_goBack_48 ?_
      obtain ⟨hb7, hf⟩ := pm_gd hf
      refine pm_iast (pc := 49) hr4 (pm_ib_in hb7) dX12_goBack_49 ?_
      obtain ⟨s8, es8, hf⟩ := pm_let_e hf
      refine pm_nmh es8 ?_
      refine pm_iinc (pc := 50) 2 (v2 + (1 : Int32)) [(2, .int (v2 + (1 : Int32))), (0, .ref v0), (1, .int v1)] dX12_goBack_50 rfl rfl (by decide) rfl ?_
      refine pm_goto (pc := 53) 27 dX12_goBack_53 (by decide) ?_
      refine pm_lv [(0, .ref v0), (1, .int v1), (2, .int (v2 + (1 : Int32)))] [1, 2, 0] rfl ?_
      exact ih (v2 + (1 : Int32)) s8 hf
def fX12_goBack (S : pm_S) (a0 : Nat) (a1 : Int32) (σ : pm_H) : Option (Int32 × pm_H) :=
  Option.bind (fX12_in S a1.toInt64 (0 : Int64) (1 : Int64) σ) fun u1 => (if u1.1 = 0 then some ((-1000000001 : Int32), u1.2) else (if pm_ib a1 (pm_len S (u1.2.2 a0 42)) = true then (if (u1.2.1 (u1.2.2 a0 42) (a1).toNatClampNeg) = 0 then some ((-1000000003 : Int32), u1.2) else fX12_goBack_L27 S a0 a1 (fun s10 => (if pm_ib (((81 : Int32) * a1) + (80 : Int32)) (pm_len S (s10.2 a0 41)) = true then pm_let (pm_si s10 a0 12 (s10.1 (s10.2 a0 41) ((((81 : Int32) * a1) + (80 : Int32))).toNatClampNeg)) fun s13 => pm_let (pm_si s13 a0 30 (0 : Int32)) fun s14 => some ((1 : Int32), s14) else none)) pm_fuel (0 : Int32) u1.2) else none))
set_option maxRecDepth 100000 in
set_option maxHeartbeats 4000000 in
theorem KX12_goBack (l : Launch) {S : pm_S} {p : Int32 × pm_H} {a0 : Nat} {a1 : Int32} {σ : pm_H} (h0 : pm_is S a0 15) (hf : fX12_goBack S a0 a1 σ = some p) : pm_M l yX12_goBack cX12_goBack 3 (some .int) false 1 [.ref a0, .int a1] S σ (pm_ri S p) := by
  refine pm_M.of (by decide +kernel) (Nat.le_of_ble_eq_true rfl) ?_
  show pm_E l yX12_goBack cX12_goBack 3 (some .int) false 1 S (pm_ri S p) 0 [(0, .ref a0), (1, .int a1)] [] S σ
  rw [fX12_goBack] at hf
  refine pm_iload_n (pc := 0) 1 dX12_goBack_0 rfl rfl ?_
  refine pm_i2l (pc := 1) dX12_goBack_1 ?_
  refine pm_lconst (pc := 2) (0 : Int64) (by decide) dX12_goBack_2 ?_
  refine pm_lconst (pc := 3) (1 : Int64) (by decide) dX12_goBack_3 ?_
  obtain ⟨u1, hu1, hf⟩ := pm_bind_e hf
  refine pm_cSi (pc := 4) (as := [.long a1.toInt64, .long (0 : Int64), .long (1 : Int64)]) (st := []) msX12_87 (KX12_in l  hu1) (by decide) rfl rfl (Nat.le_of_ble_eq_true rfl) rfl dX12_goBack_4 ?_
  refine pm_if_ne (pc := 7) 13 dX12_goBack_7 (by decide) (fun hc16 => ?_) (fun hc16 => ?_)
  · rw [if_pos hc16] at hf
    refine pm_ldc (pc := 10) kcX12_216 dX12_goBack_10 ?_
    exact pm_iret rfl dX12_goBack_12 (pm_ri_e hf)
  · rw [if_neg hc16] at hf
    refine pm_aload_n (pc := 13) 0 dX12_goBack_13 rfl rfl h0.pos ?_
    refine pm_getT (pc := 14) (k := 42) pm_cl12 flX12_77 (by decide) rfl h0 dX12_goBack_14 (fun hr2 => ?_)
    refine pm_iload_n (pc := 17) 1 dX12_goBack_17 rfl rfl ?_
    obtain ⟨hb3, hf⟩ := pm_gd hf
    refine pm_zald (pc := 18) hr2 (pm_ib_in hb3) dX12_goBack_18 ?_
    refine pm_if_ne (pc := 19) 25 dX12_goBack_19 (by decide) (fun hc15 => ?_) (fun hc15 => ?_)
    · rw [if_pos hc15] at hf
      refine pm_ldc (pc := 22) kcX12_212 dX12_goBack_22 ?_
      exact pm_iret rfl dX12_goBack_24 (pm_ri_e hf)
    · rw [if_neg hc15] at hf
      refine pm_iconst (pc := 25) (0 : Int32) (by decide) dX12_goBack_25 ?_
      refine pm_istore_n (pc := 26) [(2, .int (0 : Int32)), (0, .ref a0), (1, .int a1)] dX12_goBack_26 rfl (by decide) rfl ?_
      refine pm_lv [(0, .ref a0), (1, .int a1), (2, .int (0 : Int32))] [1, 2, 0] rfl ?_
      refine fX12_goBack_L27_E l h0 (fun s10 hf => ?_) pm_fuel (0 : Int32) u1.2 hf
      refine pm_aload_n (pc := 56) 0 dX12_goBack_56 rfl rfl h0.pos ?_
      refine pm_aload_n (pc := 57) 0 dX12_goBack_57 rfl rfl h0.pos ?_
      refine pm_getT (pc := 58) (k := 41) pm_cl12 flX12_74 (by decide) rfl h0 dX12_goBack_58 (fun hr11 => ?_)
      refine pm_bipush (pc := 61) (81 : Int32) (by decide) dX12_goBack_61 ?_
      refine pm_iload_n (pc := 63) 1 dX12_goBack_63 rfl rfl ?_
      refine pm_imul (pc := 64) dX12_goBack_64 ?_
      refine pm_bipush (pc := 65) (80 : Int32) (by decide) dX12_goBack_65 ?_
      refine pm_iadd (pc := 67) dX12_goBack_67 ?_
      obtain ⟨hb12, hf⟩ := pm_gd hf
      refine pm_iald (pc := 68) hr11 (pm_ib_in hb12) dX12_goBack_68 ?_
      refine pm_putI (pc := 69) (k := 12) pm_cl12 flX12_267 (by decide) rfl rfl rfl h0 dX12_goBack_69 ?_
      obtain ⟨s13, es13, hf⟩ := pm_let_e hf
      refine pm_nmh es13 ?_
      refine pm_aload_n (pc := 72) 0 dX12_goBack_72 rfl rfl h0.pos ?_
      refine pm_iconst (pc := 73) (0 : Int32) (by decide) dX12_goBack_73 ?_
      refine pm_putI (pc := 74) (k := 30) pm_cl12 flX12_195 (by decide) rfl rfl rfl h0 dX12_goBack_74 ?_
      obtain ⟨s14, es14, hf⟩ := pm_let_e hf
      refine pm_nmh es14 ?_
      refine pm_iconst (pc := 77) (1 : Int32) (by decide) dX12_goBack_77 ?_
      exact pm_iret rfl dX12_goBack_78 (pm_ri_e hf)
