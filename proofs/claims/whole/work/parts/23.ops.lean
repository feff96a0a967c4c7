/-! numbers -/
theorem qn_add (a b : Nat) : nI a + nI b = nI (a + b) := (Int32.ofNat_add a b).symm
theorem nL (j : Nat) : (1 : Int32) + nI j = nI (1 + j) ∧ (6 : Int32) + nI j = nI (6 + j) ∧ (26 : Int32) + nI j = nI (26 + j) ∧ (46 : Int32) + nI j = nI (46 + j) ∧ (66 : Int32) + nI j = nI (66 + j) ∧ (74 : Int32) + nI j = nI (74 + j) ∧ nI j + (1 : Int32) = nI (j + 1) :=
  ⟨qn_add 1 j, qn_add 6 j, qn_add 26 j, qn_add 46 j, qn_add 66 j, qn_add 74 j, qn_add j 1⟩
theorem pm_ib_nI {j n : Nat} (h : j < n) (hn : n < 2 ^ 31) : pm_ib (nI j) n = true := by
  simp only [pm_ib, Bool.and_eq_true, Bool.not_eq_true', decide_eq_false_iff_not, decide_eq_true_eq]
  exact ⟨nI_pos (by omega), by rw [nI_clamp (by omega)]; exact h⟩
theorem qn_inj {a b : Nat} (ha : a < 2 ^ 31) (hb : b < 2 ^ 31) : nI a = nI b ↔ a = b := by
  constructor
  · intro h
    have := congrArg Int32.toInt h
    rw [nI_toInt ha, nI_toInt hb] at this
    omega
  · intro h; rw [h]
theorem qn_lt_iff {a b : Nat} (ha : a < 2 ^ 31) (hb : b < 2 ^ 31) : nI a < nI b ↔ a < b := by
  rw [Int32.lt_iff_toInt_lt, nI_toInt ha, nI_toInt hb]; omega
theorem qn_le_iff {a b : Nat} (ha : a < 2 ^ 31) (hb : b < 2 ^ 31) : nI a ≤ nI b ↔ a ≤ b := by
  rw [Int32.le_iff_toInt_le, nI_toInt ha, nI_toInt hb]; omega
theorem qn_m1 {n : Nat} (hn : n < 2 ^ 30) : (nI n - 1).toInt = (n : Int) - 1 := pk_sub_toInt (b := 1) hn (by omega)
theorem pu_w_idx (a : Int32) {n : Nat} (hn : n < 2 ^ 30) : pu_w a 0 (nI n - 1) = 0 ∨ (pu_w a 0 (nI n - 1) = 1 ∧ ∃ j, j < n ∧ a = nI j) := by
  unfold pu_w
  by_cases h1 : a < 0
  · exact Or.inl (if_pos h1)
  · rw [if_neg h1]
    by_cases h2 : nI n - 1 < a
    · exact Or.inl (if_pos h2)
    · rw [if_neg h2]
      refine Or.inr ⟨rfl, a.toInt.toNat, ?_, ?_⟩
      · have h3 : ¬ (nI n - 1).toInt < a.toInt := fun z => h2 (Int32.lt_iff_toInt_lt.mpr z)
        have h4 : ¬ a.toInt < 0 := fun z => h1 (Int32.lt_iff_toInt_lt.mpr z)
        rw [qn_m1 hn] at h3
        omega
      · have h4 : ¬ a.toInt < 0 := fun z => h1 (Int32.lt_iff_toInt_lt.mpr z)
        obtain ⟨k, hk0, hk⟩ := nI_of h1
        rw [hk, nI_toInt hk0]
        rfl
theorem pu_w_lit {a b c : Int32} (h : pu_w a b c = 1) : b.toInt ≤ a.toInt ∧ a.toInt ≤ c.toInt := by
  unfold pu_w at h
  by_cases h1 : a < b
  · rw [if_pos h1] at h; cases h
  · rw [if_neg h1] at h
    by_cases h2 : c < a
    · rw [if_pos h2] at h; cases h
    · have h3 : ¬ a.toInt < b.toInt := fun z => h1 (Int32.lt_iff_toInt_lt.mpr z)
      have h4 : ¬ c.toInt < a.toInt := fun z => h2 (Int32.lt_iff_toInt_lt.mpr z)
      omega

theorem pu_lean : pu_3 pu_Rel fX11_lean fX12_lean := by
  intro c r h a a2 a3
  rcases pu_w01 a 0 999 with hw | hw
  · exact pu_ro h (-1000000002) (by simp [fX11_lean, ev_within, hw]) (by simp [fX12_lean, evI, hw])
  rcases pu_w01 a2 0 99 with hw2 | hw2
  · exact pu_ro h (-1000000002) (by simp [fX11_lean, ev_within, hw, hw2]) (by simp [fX12_lean, evI, hw, hw2])
  rcases pu_w01 a3 0 99 with hw3 | hw3
  · exact pu_ro h (-1000000002) (by simp [fX11_lean, ev_within, hw, hw2, hw3]) (by simp [fX12_lean, evI, hw, hw2, hw3])
  by_cases h3 : a = 0
  · exact pu_ro h 0 (by simp [fX11_lean, ev_within, hw, hw2, hw3, eq_true h3]) (by simp [fX12_lean, evI, hw, hw2, hw3, eq_true h3])
  have b2 := pu_w_lit hw2
  have b3 := pu_w_lit hw3
  obtain ⟨k2, hk2, rfl⟩ := nI_of (x := a2) (fun z => by have := Int32.lt_iff_toInt_lt.mp z; simp at this b2; omega)
  obtain ⟨k3, hk3, rfl⟩ := nI_of (x := a3) (fun z => by have := Int32.lt_iff_toInt_lt.mp z; simp at this b3; omega)
  rw [nI_toInt hk2] at b2
  rw [nI_toInt hk3] at b3
  have c2 : k2 ≤ 99 := by have := b2.2; simp at this; omega
  have c3 : k3 ≤ 99 := by have := b3.2; simp at this; omega
  by_cases h4 : k2 + k3 = 0
  · have e : nI k2 + nI k3 = 0 := by rw [qn_add, h4]; rfl
    exact pu_ro h (-1) (by simp [fX11_lean, ev_within, hw, hw2, hw3, h3, pm_let, e]) (by simp [fX12_lean, evI, hw, hw2, hw3, h3, e])
  · have e : ¬ nI k2 + nI k3 = 0 := by rw [qn_add]; exact nI_ne0 (by omega) (by omega)
    have e1 : (1 : Int32) ≤ nI k2 + nI k3 := by rw [qn_add]; exact (qn_le_iff (a := 1) (by omega) (by omega)).mpr (by omega)
    exact pu_ro h ((a + (nI k2 + nI k3) - 1) / (nI k2 + nI k3)) (by simp [fX11_lean, ev_within, hw, hw2, hw3, h3, pm_let, e, e1]) (by simp [fX12_lean, evI, hw, hw2, hw3, h3, e, Int32.add_assoc])
theorem pu_nick : pu_1 pu_Rel fX11_nick fX12_nick := by
  intro c r h a
  obtain ⟨T, l, lo, np, hT, a1, a2, a3, ht, hf, hL, -⟩ := id h
  obtain ⟨L, kn, ko, ks, d1, d2, d3, d4, ⟨e1, e2⟩, d5, d6, d7, m1, m2, m3⟩ := hL
  rcases pu_w_idx a (n := kn) (by omega) with hw | ⟨hw, j, hj, rfl⟩
  · exact pu_ro h (-1) (by simp [fX11_nick, ev_within, a1, lgS, e1, hw]) (by simp [fX12_nick, evJ, e2, hw])
  · have hib : pm_ib (nI j) 5 = true := pm_ib_nI (by omega) (by omega)
    have hcl : (nI j).toNatClampNeg = j := nI_clamp (by omega)
    exact pu_ro h (c.1 (T + 1) j) (by simp [fX11_nick, ev_within, a1, lgS, lgT l hT, lenT hT, e1, hw, hib, hcl]) (by simp [fX12_nick, evJ, e2, hw, a3, lgR, lenR, hib, hcl, (m1 j hj).1])
theorem pu_hand : pu_1 pu_Rel fX11_hand fX12_hand := by
  intro c r h a
  obtain ⟨T, l, lo, np, hT, a1, a2, a3, ht, hf, hL, hst, -⟩ := id h
  obtain ⟨L, y, nt, nh, k0, k1, k2, k3, k4, k5, ⟨k6, k7⟩, m1, m2, m3⟩ := hst
  simp only [Nat.reduceAdd] at k6 m2
  rcases pu_w_idx a (n := nh) (by omega) with hw | ⟨hw, j, hj, rfl⟩
  · exact pu_ro h (-1000000001) (by simp [fX11_hand, ev_within, a1, lgS, k6, hw]) (by simp [fX12_hand, evJ, a3, lgR, lenR, ib80, cl6, k7, hw])
  · have hib : pm_ib (nI j) 8 = true := pm_ib_nI (by omega) (by omega)
    have hcl : (nI j).toNatClampNeg = j := nI_clamp (by omega)
    have hib2 : pm_ib (nI (66 + j)) 80 = true := pm_ib_nI (by omega) (by omega)
    have hcl2 : (nI (66 + j)).toNatClampNeg = 66 + j := nI_clamp (by omega)
    exact pu_ro h (c.1 25 j) (by simp [fX11_hand, ev_within, a1, lgS, lenS, k6, hw, hib, hcl]) (by simp [fX12_hand, evJ, a3, lgR, lenR, ib80, cl6, k7, hw, nL, hib2, hcl2, (m2 j hj).1])
theorem ev_noRealm {c r : pm_H} {T l lo np : Nat} (h : pu_R c r T l lo np) : fX11_noRealm lw_SC 1 c = some (if lo = 0 then 1 else 0, c) ∧ fX12_isRealm lw_SR 1 r = some (if lo = 0 then 0 else 1, r) := by
  obtain ⟨hT, a1, a2, a3, ht, hf, hL, -⟩ := h
  obtain ⟨L, kn, ko, ks, d1, d2, ⟨d3, d3'⟩, -⟩ := hL
  rcases d1 with ⟨rfl, rfl, -⟩ | ⟨rfl, hL12⟩
  · have e : ¬ (1 : Int32) ≤ nI 0 := by decide
    have e' : nI 0 ≤ 0 := by decide
    exact ⟨by simp [fX11_noRealm, a1, lgS, d3, e], by simp [fX12_isRealm, d3', e']⟩
  · have e : (1 : Int32) ≤ nI L := (qn_le_iff (a := 1) (by omega) (by omega)).mpr (by omega)
    have e' : ¬ nI L ≤ 0 := fun z => by have := (qn_le_iff (b := 0) (by omega) (by omega)).mp z; omega
    exact ⟨by simp [fX11_noRealm, a1, lgS, d3, e], by simp [fX12_isRealm, d3', e']⟩
theorem pu_warped : pu_0 pu_Rel fX11_warped fX12_warped := by
  intro c r h
  obtain ⟨T, l, lo, np, H⟩ := id h
  obtain ⟨n1, n2⟩ := ev_noRealm H
  obtain ⟨hT, a1, a2, a3, ht, hf, hL, hst, -⟩ := H
  obtain ⟨L, y, nt, nh, k0, k1, ⟨k2, k3, k4⟩, -⟩ := hst
  by_cases hlo : lo = 0
  · exact pu_ro h (-1000000003) (by simp [fX11_warped, n1, hlo]) (by simp [fX12_warped, n2, hlo])
  · exact pu_ro h (c.1 18 1 + 1000) (by simp [fX11_warped, n1, hlo, a1, lgS]) (by simp [fX12_warped, n2, hlo, a3, lgR, lenR, ib80, cl6, k4])
