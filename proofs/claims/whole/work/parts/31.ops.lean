/-! told, alike, toShorten -/
theorem qn_m1lt : (-1 : Int32) < 0 := by decide
theorem qn_notneg {j : Nat} (h : j < 2 ^ 31) : ¬ nI j < 0 := fun z => by have := (qn_lt_iff (b := 0) h (by omega)).mp z; omega
theorem qn_nem1 {j : Nat} (h : j < 2 ^ 31) : ¬ nI j = -1 := fun z => qn_notneg h (by rw [z]; decide)
theorem ev_longest {c r : pm_H} {T l nt : Nat} (g1 : c.2 = lgC T l) (g3 : r.2 = lw_R0.2) (hnt : nt ≤ 20) (e1 : c.1 19 4 = nI nt) (e2 : r.1 7 4 = nI nt) (hh : ∀ i, i < nt → r.1 7 (6 + i) = c.1 20 i) : ∃ v, fX10_longest lw_SC 19 c = some (v, c) ∧ fX12_longest lw_SR 1 r = some (v, r) := by
  have loop : ∀ k i m m' b, i + k = nt → k < m → k < m' → (b = -1 ∨ ∃ j, j < i ∧ b = nI j) → ∃ v, fX10_longest_L4 lw_SC 19 (fun w8 s9 => some (w8, s9)) m b (nI i) c = some (v, c) ∧ fX12_longest_L4 lw_SR 1 (fun w10 s11 => some (w10, s11)) m' b (nI i) r = some (v, r) := by
    intro k
    induction k with
    | zero =>
      intro i m m' b hi hm hm' hb
      obtain ⟨m, rfl⟩ : ∃ z, m = z + 1 := ⟨m - 1, by omega⟩
      obtain ⟨m', rfl⟩ : ∃ z, m' = z + 1 := ⟨m' - 1, by omega⟩
      have e : nI nt ≤ nI i := (qn_le_iff (by omega) (by omega)).mpr (by omega)
      exact ⟨b, by rw [fX10_longest_L4, e1, if_pos e], by simp only [fX12_longest_L4, g3, lgR, lenR, ib80, cl6, e2, if_true, if_pos e]⟩
    | succ k ih =>
      intro i m m' b hi hm hm' hb
      obtain ⟨m, rfl⟩ : ∃ z, m = z + 1 := ⟨m - 1, by omega⟩
      obtain ⟨m', rfl⟩ : ∃ z, m' = z + 1 := ⟨m' - 1, by omega⟩
      have e : ¬ nI nt ≤ nI i := fun z => by have := (qn_le_iff (by omega) (by omega)).mp z; omega
      rcases hb with rfl | ⟨j, hj, rfl⟩
      · obtain ⟨v, v1, v2⟩ := ih (i + 1) m m' (nI i) (by omega) (by omega) (by omega) (Or.inr ⟨i, by omega, rfl⟩)
        refine ⟨v, ?_, ?_⟩
        · rw [fX10_longest_L4, e1, if_neg e, if_pos rfl, (nL i).2.2.2.2.2.2, v1]
        · simp only [fX12_longest_L4, g3, lgR, lenR, ib80, cl6, e2, if_true, if_neg e, if_pos qn_m1lt, (nL i).2.2.2.2.2.2, v2]
      · have i1 : pm_ib (nI i) 20 = true := pm_ib_nI (by omega) (by omega)
        have i2 : pm_ib (nI j) 20 = true := pm_ib_nI (by omega) (by omega)
        have i3 : pm_ib (nI (6 + i)) 80 = true := pm_ib_nI (by omega) (by omega)
        have i4 : pm_ib (nI (6 + j)) 80 = true := pm_ib_nI (by omega) (by omega)
        have c1 : (nI i).toNatClampNeg = i := nI_clamp (by omega)
        have c2 : (nI j).toNatClampNeg = j := nI_clamp (by omega)
        have c3 : (nI (6 + i)).toNatClampNeg = 6 + i := nI_clamp (by omega)
        have c4 : (nI (6 + j)).toNatClampNeg = 6 + j := nI_clamp (by omega)
        have n1 := qn_notneg (j := j) (by omega)
        have n2 := qn_nem1 (j := j) (by omega)
        by_cases hc : c.1 20 i ≤ c.1 20 j
        · obtain ⟨v, v1, v2⟩ := ih (i + 1) m m' (nI j) (by omega) (by omega) (by omega) (Or.inr ⟨j, by omega, rfl⟩)
          refine ⟨v, ?_, ?_⟩
          · simp only [fX10_longest_L4, e1, if_neg e, if_neg n2, g1, lgS, lenS, i1, i2, c1, c2, if_true, if_pos hc, (nL i).2.2.2.2.2.2, v1]
          · simp only [fX12_longest_L4, g3, lgR, lenR, ib80, cl6, e2, if_true, if_neg e, if_neg n1, nL, i3, i4, c3, c4, hh i (by omega), hh j (by omega), if_pos hc, v2]
        · obtain ⟨v, v1, v2⟩ := ih (i + 1) m m' (nI i) (by omega) (by omega) (by omega) (Or.inr ⟨i, by omega, rfl⟩)
          refine ⟨v, ?_, ?_⟩
          · simp only [fX10_longest_L4, e1, if_neg e, if_neg n2, g1, lgS, lenS, i1, i2, c1, c2, if_true, if_neg hc, (nL i).2.2.2.2.2.2, v1]
          · simp only [fX12_longest_L4, g3, lgR, lenR, ib80, cl6, e2, if_true, if_neg e, if_neg n1, nL, i3, i4, c3, c4, hh i (by omega), hh j (by omega), if_neg hc, v2]
  obtain ⟨v, v1, v2⟩ := loop nt 0 pm_fuel pm_fuel (-1) (by omega) (by unfold pm_fuel; omega) (by unfold pm_fuel; omega) (Or.inl rfl)
  exact ⟨v, by rw [fX10_longest, show (0 : Int32) = nI 0 from rfl, v1], by rw [fX12_longest, show (0 : Int32) = nI 0 from rfl, v2]⟩
theorem pu_told : pu_1 pu_Rel fX11_told fX12_told := by
  intro c r h a
  obtain ⟨T, l, lo, np, H⟩ := id h
  obtain ⟨hT, g1, g2, g3, ⟨n, n1, n2, n3, -⟩, hf, b1, b2, ⟨x, m, -, -, -, x4, x5, -⟩, b4, -, ⟨ns, -, s1, s2, -⟩, ⟨nb, -, t1, t2, -⟩⟩ := id H
  obtain ⟨L, kn, ko, ks, -, -, ⟨k1, k2⟩, -, ⟨k3, k4⟩, ⟨k5, k6⟩, ⟨k7, k8⟩, -⟩ := b1
  obtain ⟨L', y, nt, nh, d1, ⟨d2, d3⟩, -, ⟨d4, d5⟩, ⟨d6, d7⟩, ⟨d8, d9⟩, ⟨d10, d11⟩, d12, -⟩ := b2
  simp only [Nat.reduceAdd] at d2 d4 d5 d6 d8 d10
  have hth : ∀ i, i < nt → r.1 7 (6 + i) = c.1 20 i := fun i hi => by
    obtain ⟨_, _, _, _, _, z, _⟩ := d12 i hi
    exact z.1
  obtain ⟨v, v1, v2⟩ := ev_longest g1 g3 d1.2.2.2.1 d8 d9 hth
  by_cases z0 : a = 0
  · subst z0; exact pu_ro h (nI L) (by simp [fX11_told, g1, lgS, k1]) (by simp [fX12_told, k2])
  by_cases z1 : a = 1
  · subst z1; exact pu_ro h (nI kn) (by simp [fX11_told, g1, lgS, k3]) (by simp [fX12_told, k4])
  by_cases z2 : a = 2
  · subst z2; exact pu_ro h (nI ko) (by simp [fX11_told, g1, lgS, k5]) (by simp [fX12_told, k6])
  by_cases z3 : a = 3
  · subst z3; exact pu_ro h (nI np) (by simp [fX11_told, g1, lgS, k7]) (by simp [fX12_told, k8])
  by_cases z4 : a = 4
  · subst z4; exact pu_ro h (nI n) (by simp [fX11_told, g1, lgS, n2]) (by simp [fX12_told, n3])
  by_cases z5 : a = 5
  · subst z5; exact pu_ro h (nI y) (by simp [fX11_told, g1, lgS, d6]) (by simp [fX12_told, g3, lgR, lenR, ib80, cl6, d7])
  by_cases z6 : a = 6
  · subst z6; exact pu_ro h (nI L') (by simp [fX11_told, g1, lgS, d2]) (by simp [fX12_told, g3, lgR, lenR, ib80, cl6, d3])
  by_cases z7 : a = 7
  · subst z7
    refine pu_ro h (c.1 18 2) ?_ (by simp [fX12_told, g3, lgR, lenR, ib80, cl6, d5])
    rcases d4 with d | d <;> simp [fX11_told, g1, lgS, d]
  by_cases z8 : a = 8
  · subst z8; exact pu_ro h (nI nt) (by simp [fX11_told, g1, lgS, d8]) (by simp [fX12_told, g3, lgR, lenR, ib80, cl6, d9])
  by_cases z9 : a = 9
  · subst z9; exact pu_ro h (nI nh) (by simp [fX11_told, g1, lgS, d10]) (by simp [fX12_told, g3, lgR, lenR, ib80, cl6, d11])
  by_cases z10 : a = 10
  · subst z10; exact pu_ro h v (by simp [fX11_told, g1, lgS, v1]) (by simp [fX12_told, v2])
  by_cases z11 : a = 11
  · subst z11; exact pu_ro h (nI ns) (by simp [fX11_told, g1, lgS, s1]) (by simp [fX12_told, s2])
  by_cases z12 : a = 12
  · subst z12; exact pu_ro h (nI nb) (by simp [fX11_told, g1, lgS, t1]) (by simp [fX12_told, t2])
  by_cases z13 : a = 13
  · subst z13; exact pu_ro h (nI m) (by simp [fX11_told, g1, lgS, x4]) (by simp [fX12_told, x5])
  exact pu_ro h (-1000000002) (by simp [fX11_told, z0, z1, z2, z3, z4, z5, z6, z7, z8, z9, z10, z11, z12, z13]) (by simp [fX12_told, z0, z1, z2, z3, z4, z5, z6, z7, z8, z9, z10, z11, z12, z13])
theorem pu_alike : pu_1 pu_Rel fX11_alike fX12_alike := by
  intro c r h a
  obtain ⟨T, l, lo, np, H⟩ := id h
  obtain ⟨hT, g1, g2, g3, -, hf, b1, b2, -⟩ := id H
  obtain ⟨L', y, nt, nh, d1, ⟨d2, d3⟩, -, ⟨d4, d5⟩, ⟨d6, d7⟩, ⟨d8, d9⟩, ⟨d10, d11⟩, d12, -⟩ := b2
  simp only [Nat.reduceAdd] at d2 d4 d5 d6 d8 d10
  have hh : ∀ i, i < nt → r.1 7 (6 + i) = c.1 20 i := fun i hi => by
    obtain ⟨_, _, _, _, _, z, _⟩ := d12 i hi
    exact z.1
  have inner : ∀ p, p < nt → ∀ k i m m' (f : Int32), i + k = nt → k < m → k < m' → (∃ v, (∀ kx, fX10_pairOfLike_L17 lw_SC 19 a (nI p) kx m f (nI i) c = some (v, c)) ∧ ∀ kx, fX12_alike_L19 lw_SR 1 a (nI p) kx m' f (nI i) r = some (v, r)) ∨ ∃ w, (∀ kx, fX10_pairOfLike_L17 lw_SC 19 a (nI p) kx m f (nI i) c = kx w c) ∧ ∀ kx, fX12_alike_L19 lw_SR 1 a (nI p) kx m' f (nI i) r = kx w r := by
    intro p hp k
    induction k with
    | zero =>
      intro i m m' f hi hm hm'
      obtain ⟨m, rfl⟩ : ∃ z, m = z + 1 := ⟨m - 1, by omega⟩
      obtain ⟨m', rfl⟩ : ∃ z, m' = z + 1 := ⟨m' - 1, by omega⟩
      have e : nI nt ≤ nI i := (qn_le_iff (by omega) (by omega)).mpr (by omega)
      exact Or.inr ⟨f, fun kx => by rw [fX10_pairOfLike_L17, d8, if_pos e], fun kx => by simp only [fX12_alike_L19, g3, lgR, lenR, ib80, cl6, d9, if_true, if_pos e]⟩
    | succ k ih =>
      intro i m m' f hi hm hm'
      obtain ⟨m, rfl⟩ : ∃ z, m = z + 1 := ⟨m - 1, by omega⟩
      obtain ⟨m', rfl⟩ : ∃ z, m' = z + 1 := ⟨m' - 1, by omega⟩
      have e : ¬ nI nt ≤ nI i := fun z => by have := (qn_le_iff (by omega) (by omega)).mp z; omega
      have i1 : pm_ib (nI i) 20 = true := pm_ib_nI (by omega) (by omega)
      have i2 : pm_ib (nI p) 20 = true := pm_ib_nI (by omega) (by omega)
      have i3 : pm_ib (nI (6 + i)) 80 = true := pm_ib_nI (by omega) (by omega)
      have i4 : pm_ib (nI (6 + p)) 80 = true := pm_ib_nI (by omega) (by omega)
      have c1 : (nI i).toNatClampNeg = i := nI_clamp (by omega)
      have c2 : (nI p).toNatClampNeg = p := nI_clamp (by omega)
      have c3 : (nI (6 + i)).toNatClampNeg = 6 + i := nI_clamp (by omega)
      have c4 : (nI (6 + p)).toNatClampNeg = 6 + p := nI_clamp (by omega)
      have A : ∀ kx, fX10_pairOfLike_L17 lw_SC 19 a (nI p) kx (m + 1) f (nI i) c = (if c.1 20 p = c.1 20 i then (if f = a then some ((100 : Int32) * nI p + nI i, c) else fX10_pairOfLike_L17 lw_SC 19 a (nI p) kx m (f + 1) (nI (i + 1)) c) else fX10_pairOfLike_L17 lw_SC 19 a (nI p) kx m f (nI (i + 1)) c) := fun kx => by
        simp only [fX10_pairOfLike_L17, d8, if_neg e, g1, lgS, lenS, i1, i2, c1, c2, if_true, (nL i).2.2.2.2.2.2]
      have B : ∀ kx, fX12_alike_L19 lw_SR 1 a (nI p) kx (m' + 1) f (nI i) r = (if c.1 20 p = c.1 20 i then (if f = a then some ((100 : Int32) * nI p + nI i, r) else fX12_alike_L19 lw_SR 1 a (nI p) kx m' (f + 1) (nI (i + 1)) r) else fX12_alike_L19 lw_SR 1 a (nI p) kx m' f (nI (i + 1)) r) := fun kx => by
        simp only [fX12_alike_L19, g3, lgR, lenR, ib80, cl6, d9, if_true, if_neg e, nL, i3, i4, c3, c4, hh i (by omega), hh p hp]
      by_cases hc : c.1 20 p = c.1 20 i
      · by_cases hfa : f = a
        · exact Or.inl ⟨(100 : Int32) * nI p + nI i, fun kx => by rw [A, if_pos hc, if_pos hfa], fun kx => by rw [B, if_pos hc, if_pos hfa]⟩
        · rcases ih (i + 1) m m' (f + 1) (by omega) (by omega) (by omega) with ⟨v, v1, v2⟩ | ⟨w, v1, v2⟩
          · exact Or.inl ⟨v, fun kx => by rw [A, if_pos hc, if_neg hfa, v1], fun kx => by rw [B, if_pos hc, if_neg hfa, v2]⟩
          · exact Or.inr ⟨w, fun kx => by rw [A, if_pos hc, if_neg hfa, v1], fun kx => by rw [B, if_pos hc, if_neg hfa, v2]⟩
      · rcases ih (i + 1) m m' f (by omega) (by omega) (by omega) with ⟨v, v1, v2⟩ | ⟨w, v1, v2⟩
        · exact Or.inl ⟨v, fun kx => by rw [A, if_neg hc, v1], fun kx => by rw [B, if_neg hc, v2]⟩
        · exact Or.inr ⟨w, fun kx => by rw [A, if_neg hc, v1], fun kx => by rw [B, if_neg hc, v2]⟩
  have hfu : nt < pm_fuel := by unfold pm_fuel; omega
  have outer : ∀ k i m m' (f : Int32), i + k = nt → k < m → k < m' → ∃ v, fX10_pairOfLike_L4 lw_SC 19 a (fun w12 s13 => (if a = (-1 : Int32) then some (w12, s13) else some ((-1 : Int32), s13))) m f (nI i) c = some (v, c) ∧ fX12_alike_L4 lw_SR 1 a (fun w16 s17 => (if a = (-1 : Int32) then some (w16, s17) else some ((-1 : Int32), s17))) m' f (nI i) r = some (v, r) := by
    intro k
    induction k with
    | zero =>
      intro i m m' f hi hm hm'
      obtain ⟨m, rfl⟩ : ∃ z, m = z + 1 := ⟨m - 1, by omega⟩
      obtain ⟨m', rfl⟩ : ∃ z, m' = z + 1 := ⟨m' - 1, by omega⟩
      have e : nI nt ≤ nI i := (qn_le_iff (by omega) (by omega)).mpr (by omega)
      refine ⟨if a = -1 then f else -1, ?_, ?_⟩
      · rw [fX10_pairOfLike_L4, d8, if_pos e]
        split <;> rfl
      · simp only [fX12_alike_L4, g3, lgR, lenR, ib80, cl6, d9, if_true, if_pos e]
        split <;> rfl
    | succ k ih =>
      intro i m m' f hi hm hm'
      obtain ⟨m, rfl⟩ : ∃ z, m = z + 1 := ⟨m - 1, by omega⟩
      obtain ⟨m', rfl⟩ : ∃ z, m' = z + 1 := ⟨m' - 1, by omega⟩
      have e : ¬ nI nt ≤ nI i := fun z => by have := (qn_le_iff (by omega) (by omega)).mp z; omega
      rcases inner i (by omega) (nt - (i + 1)) (i + 1) pm_fuel pm_fuel f (by omega) (by omega) (by omega) with ⟨v, v1, v2⟩ | ⟨w, v1, v2⟩
      · refine ⟨v, ?_, ?_⟩
        · simp only [fX10_pairOfLike_L4, d8, if_neg e, pm_let, (nL i).2.2.2.2.2.2, v1]
        · simp only [fX12_alike_L4, g3, lgR, lenR, ib80, cl6, d9, if_true, if_neg e, pm_let, (nL i).2.2.2.2.2.2, v2]
      · obtain ⟨v, u1, u2⟩ := ih (i + 1) m m' w (by omega) (by omega) (by omega)
        refine ⟨v, ?_, ?_⟩
        · simp only [fX10_pairOfLike_L4, d8, if_neg e, pm_let, (nL i).2.2.2.2.2.2, v1, u1]
        · simp only [fX12_alike_L4, g3, lgR, lenR, ib80, cl6, d9, if_true, if_neg e, pm_let, (nL i).2.2.2.2.2.2, v2, u2]
  obtain ⟨v, v1, v2⟩ := outer nt 0 pm_fuel pm_fuel 0 (by omega) hfu hfu
  refine pu_ro h v ?_ ?_
  · simp only [fX11_alike, g1, lgS, fX10_pairOfLike]
    rw [show fX10_pairOfLike_L4 lw_SC 19 a (fun w12 s13 => (if a = (-1 : Int32) then some (w12, s13) else some ((-1 : Int32), s13))) pm_fuel 0 0 c = some (v, c) from v1]
    rfl
  · rw [fX12_alike]
    exact v2
theorem pu_toShorten : pu_2 pu_Rel fX11_toShorten fX12_toShorten := by
  intro c r h a a2
  obtain ⟨T, l, lo, np, H⟩ := id h
  obtain ⟨hT, g1, g2, g3, -, hf, b1, b2, -⟩ := id H
  obtain ⟨i1, i2⟩ := ev_isPerson H a
  have hnp := b1.np
  obtain ⟨L, kn, ko, ks, k0, k00, ⟨k1, k2⟩, -, ⟨k3, k4⟩, ⟨k5, k6⟩, ⟨k7, k8⟩, -, -, ko1, -⟩ := b1
  obtain ⟨L', y, nt, nh, d1, ⟨d2, d3⟩, -, -, -, -, -, -, -, d12⟩ := b2
  simp only [Nat.reduceAdd] at d2 d12
  obtain ⟨o1, o2⟩ := ev_isOffice (lo := lo) (np := np) hT g1 k5 k6 a2
  rcases pu_w_idx a (n := np) (by omega) with hw | ⟨hw, p, hp, rfl⟩
  · exact pu_ro h (-1000000001) (by simp [fX11_toShorten, i1, hw]) (by simp [fX12_toShorten, i2, hw])
  rcases pu_w_idx a2 (n := ko) (by omega) with hw2 | ⟨hw2, o, ho, rfl⟩
  · exact pu_ro h (-1000000001) (by simp [fX11_toShorten, i1, hw, o1, hw2]) (by simp [fX12_toShorten, i2, hw, o2, hw2])
  have hlo : 1 ≤ lo := by omega
  obtain ⟨t1, t2, t3⟩ := d12 p hp
  obtain ⟨t, ht, htb, htl⟩ := qn_of (by omega) t2 t3
  obtain ⟨f1, f2, -⟩ := ko1 o ho
  have hib : pm_ib (nI p) 6 = true := pm_ib_nI (by omega) (by omega)
  have hcl : (nI p).toNatClampNeg = p := nI_clamp (by omega)
  have hib2 : pm_ib (nI (74 + p)) 80 = true := pm_ib_nI (by omega) (by omega)
  have hcl2 : (nI (74 + p)).toNatClampNeg = 74 + p := nI_clamp (by omega)
  have loop : ∀ k i m m', i + k = t → k < m → k < m' → ∃ v, fX11_toShorten_L32 lw_SC 1 (nI o) (nI t) (fun s15 => some ((-1 : Int32), s15)) m (nI i) c = some (v, c) ∧ fX12_toShorten_L21 lw_SR 1 (nI p) (nI o) (fun s10 => some ((-1 : Int32), s10)) m' (nI i) r = some (v, r) := by
    intro k
    induction k with
    | zero =>
      intro i m m' hi hm hm'
      obtain ⟨m, rfl⟩ : ∃ z, m = z + 1 := ⟨m - 1, by omega⟩
      obtain ⟨m', rfl⟩ : ∃ z, m' = z + 1 := ⟨m' - 1, by omega⟩
      have e : nI t ≤ nI i := (qn_le_iff (by omega) (by omega)).mpr (by omega)
      exact ⟨-1, by rw [fX11_toShorten_L32, if_pos e], by simp only [fX12_toShorten_L21, g3, lgR, lenR, nL, hib2, hcl2, t1, ht, if_true, if_pos e]⟩
    | succ k ih =>
      intro i m m' hi hm hm'
      obtain ⟨m, rfl⟩ : ∃ z, m = z + 1 := ⟨m - 1, by omega⟩
      obtain ⟨m', rfl⟩ : ∃ z, m' = z + 1 := ⟨m' - 1, by omega⟩
      have e : ¬ nI t ≤ nI i := fun z => by have := (qn_le_iff (by omega) (by omega)).mp z; omega
      have e9 : ¬ (999 : Int32) ≤ nI i := fun z => by have := (qn_le_iff (a := 999) (by omega) (by omega)).mp z; omega
      have A := ev_tenths (c := c) d2 (by omega) (by omega) (nI t - nI i)
      have B := ev_asks (c := c) hT g1 (show o < 6 by omega) (10 * (nI t - nI i) / nI L')
      have D := ev_fits (r := r) g3 d3 (by omega) (by omega) (show o < 6 by omega) (nI t - nI i)
      rw [f1, f2] at D
      obtain ⟨v, v1, v2⟩ := ih (i + 1) m m' (by omega) (by omega) (by omega)
      rcases pu_w01 (10 * (nI t - nI i) / nI L') (c.1 (T + 2) o) (c.1 (T + 3) o) with hz | hz
      · refine ⟨v, ?_, ?_⟩
        · simp only [fX11_toShorten_L32, if_neg e, if_neg e9, g1, lgS, A, Option.bind_some, B, hz, if_true, (nL i).2.2.2.2.2.2, v1]
        · simp only [fX12_toShorten_L21, g3, lgR, lenR, nL, hib2, hcl2, t1, ht, if_true, if_neg e, D, Option.bind_some, hz, v2]
      · have n1 : ¬ (1 : Int32) = 0 := by decide
        refine ⟨nI i, ?_, ?_⟩
        · simp only [fX11_toShorten_L32, if_neg e, if_neg e9, g1, lgS, A, Option.bind_some, B, hz, if_neg n1]
        · simp only [fX12_toShorten_L21, g3, lgR, lenR, nL, hib2, hcl2, t1, ht, if_true, if_neg e, D, Option.bind_some, hz, if_neg n1]
  obtain ⟨v, v1, v2⟩ := loop t 0 pm_fuel pm_fuel (by omega) (by unfold pm_fuel; omega) (by unfold pm_fuel; omega)
  have n1 : ¬ (1 : Int32) = 0 := by decide
  refine pu_ro h v ?_ ?_
  · simp only [fX11_toShorten, i1, hw, Option.bind_some, if_neg n1, o1, hw2, g1, lgS, lenS, hib, hcl, if_true, pm_let, ht]
    rw [show (0 : Int32) = nI 0 from rfl, v1]
  · simp only [fX12_toShorten, i2, hw, Option.bind_some, if_neg n1, o2, hw2]
    rw [show (0 : Int32) = nI 0 from rfl, v2]
