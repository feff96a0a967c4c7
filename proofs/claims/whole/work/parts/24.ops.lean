theorem pu_tear : pu_0 pu_Rel fX11_tear fX12_tear := by
  intro c r h
  obtain ⟨T, l, lo, np, H⟩ := id h
  obtain ⟨hT, a1, a2, a3, ht, hf, b1, b2, b3, b4, ⟨hs1, hs2⟩, ⟨n, s1, s2, s3, s4⟩, ⟨m, t1, t2, t3, t4⟩⟩ := id H
  refine ⟨nI n + nI m, pm_si (pm_si c 220 2 0) 226 2 0, pm_si (pm_si r 1 34 0) 1 38 0, by simp [fX11_tear, pm_let, a1, lgS, pm_si_2, s2, t2], by simp [fX12_tear, pm_let, s3, t3], T, l, lo, np, H.mv rfl rfl (fun q hq => by rw [pm_si_row (by omega), pm_si_row (by omega)]) (fun q hq => by rw [pm_si_row (by omega), pm_si_row (by omega)]) (fun k hk => by rw [pm_si_ne (by omega), pm_si_ne (by omega)]) (ht.cg (by rw [pm_si_row (by omega), pm_si_row (by omega)]) (by rw [pm_si_ne (by omega), pm_si_ne (by omega)]) (by rw [pm_si_row (by omega), pm_si_row (by omega)]) (by rw [pm_si_ne (by omega), pm_si_ne (by omega)])) ?_ ?_ ⟨0, by omega, ?_, ?_, fun j hj => absurd hj (Nat.not_lt_zero _)⟩ ⟨0, by omega, ?_, ?_, fun j hj => absurd hj (Nat.not_lt_zero _)⟩⟩
  · rw [pm_si_ne (by omega), pm_si_ne (by omega), pm_si_ne (by omega), pm_si_ne (by omega)]; exact hf
  · rw [pm_si_ne (by omega), pm_si_ne (by omega), pm_si_ne (by omega), pm_si_ne (by omega)]; exact ⟨hs1, hs2⟩
  · rw [pm_si_ne (by omega), pm_si_same]; rfl
  · rw [pm_si_ne (by omega), pm_si_same]; rfl
  · rw [pm_si_same]; rfl
  · rw [pm_si_same]; rfl
theorem pu_see : pu_2 pu_Rel fX11_see fX12_see := by
  intro c r h a a2
  obtain ⟨T, l, lo, np, H⟩ := id h
  obtain ⟨hT, g1, g2, g3, ht, hf, b1, b2, b3, b4, ⟨hs1, hs2⟩, ⟨n, s1, s2, s3, s4⟩, hb⟩ := id H
  rcases pu_w01 a 1 9 with hw | hw
  · exact pu_ro h (-1000000002) (by simp [fX11_see, ev_within, hw]) (by simp [fX12_see, evI, hw])
  rcases pu_w01 a2 0 9999 with hw2 | hw2
  · exact pu_ro h (-1000000002) (by simp [fX11_see, ev_within, hw, hw2]) (by simp [fX12_see, evI, hw, hw2])
  by_cases h6 : n = 6
  · subst h6
    have e : ¬ nI 6 < 6 := by decide
    have e' : nI 6 = 6 := by decide
    exact pu_ro h (-1000000004) (by simp [fX11_see, ev_within, hw, hw2, g1, lgS, s2, e]) (by simp [fX12_see, evI, hw, hw2, s3, e'])
  · have e : nI n < 6 := (qn_lt_iff (b := 6) (by omega) (by omega)).mpr (by omega)
    have e2 : ¬ (6 : Int32) ≤ nI n := fun z => by have := (qn_le_iff (a := 6) (by omega) (by omega)).mp z; omega
    have e' : ¬ nI n = 6 := fun z => by have := (qn_inj (b := 6) (by omega) (by omega)).mp z; omega
    have hib : pm_ib (nI n) 6 = true := pm_ib_nI (by omega) (by omega)
    have hcl : (nI n).toNatClampNeg = n := nI_clamp (by omega)
    refine ⟨nI (n + 1), pm_si (pm_si (pm_si c 221 n a) 222 n a2) 220 2 (nI (n + 1)), pm_si (pm_si (pm_si r 17 n a) 18 n a2) 1 34 (nI (n + 1)), ?_, ?_, T, l, lo, np, H.mv rfl rfl (fun q hq => by rw [pm_si_row (by omega), pm_si_row (by omega), pm_si_row (by omega)]) (fun q hq => by rw [pm_si_row (by omega), pm_si_row (by omega), pm_si_row (by omega)]) (fun k hk => by rw [pm_si_ne (by omega), pm_si_ne (by omega), pm_si_ne (by omega)]) (ht.cg (by rw [pm_si_row (by omega), pm_si_row (by omega), pm_si_row (by omega)]) (by rw [pm_si_ne (by omega), pm_si_ne (by omega), pm_si_ne (by omega)]) (by rw [pm_si_row (by omega), pm_si_row (by omega), pm_si_row (by omega)]) (by rw [pm_si_ne (by omega), pm_si_ne (by omega), pm_si_ne (by omega)])) ?_ ?_ ⟨n + 1, by omega, pm_si_same, pm_si_same, fun j hj => ?_⟩ (hb.cg (fun q _ _ => by rw [pm_si_row (by omega), pm_si_row (by omega), pm_si_row (by omega)]) (fun q _ _ => by rw [pm_si_row (by omega), pm_si_row (by omega), pm_si_row (by omega)]) (by rw [pm_si_ne (by omega), pm_si_ne (by omega), pm_si_ne (by omega)]))⟩
    · simp [fX11_see, fX7_add, ev_within, hw, hw2, g1, lgS, lenS, s2, e, e2, pm_let, hib, hcl, pm_si_2, pm_si_1, nL]
    · simp [fX12_see, evI, hw, hw2, s3, e', g3, lgR, lenR, pm_let, hib, hcl, pm_si_2, pm_si_1, nL]
    · rw [pm_si_ne (by omega), pm_si_ne (by omega), pm_si_ne (by omega), pm_si_ne (by omega), pm_si_ne (by omega), pm_si_ne (by omega)]; exact hf
    · rw [pm_si_ne (by omega), pm_si_ne (by omega), pm_si_ne (by omega), pm_si_ne (by omega), pm_si_ne (by omega), pm_si_ne (by omega)]; exact ⟨hs1, hs2⟩
    · have w1 := pu_w_lit hw
      have w2 := pu_w_lit hw2
      by_cases hjn : j = n
      · subst hjn
        simp only [pm_si_1]
        simp
        exact ⟨w1.1, w1.2, w2.1, w2.2⟩
      · have q := s4 j (by omega)
        simp only [pm_si_1]
        simp [hjn]
        exact q
theorem pu_feed : pu_1 pu_Rel fX11_feed fX12_feed := by
  intro c r h a
  obtain ⟨T, l, lo, np, H⟩ := id h
  obtain ⟨hT, g1, g2, g3, ⟨n, s1, s2, s3, s4⟩, hf, b1, b2, b3, b4, ⟨hs1, hs2⟩, hsi, hb⟩ := id H
  rcases pu_w01 a 0 255 with hw | hw
  · exact pu_ro h (-1000000002) (by simp [fX11_feed, ev_within, hw]) (by simp [fX12_feed, evI, hw])
  have e0 : ¬ nI n < 0 := nI_pos (by omega)
  by_cases h6 : n = 240
  · subst h6
    have e : ¬ nI 240 < 240 := by decide
    have e' : nI 240 = 240 := by decide
    exact pu_ro h (-1000000004) (by simp [fX11_feed, ev_within, hw, s2, e]) (by simp [fX12_feed, evI, hw, s3, e'])
  · have e : nI n < 240 := (qn_lt_iff (b := 240) (by omega) (by omega)).mpr (by omega)
    have e' : ¬ nI n = 240 := fun z => by have := (qn_inj (b := 240) (by omega) (by omega)).mp z; omega
    have hib : pm_ib (nI n) 240 = true := pm_ib_nI (by omega) (by omega)
    have hcl : (nI n).toNatClampNeg = n := nI_clamp (by omega)
    refine ⟨nI (n + 1), pm_si (pm_si c 2 n a) 1 1 (nI (n + 1)), pm_si (pm_si r 8 n a) 1 14 (nI (n + 1)), ?_, ?_, T, l, lo, np, H.mv rfl rfl (fun q hq => by rw [pm_si_row (by omega), pm_si_row (by omega)]) (fun q hq => by rw [pm_si_row (by omega), pm_si_row (by omega)]) (fun k hk => by rw [pm_si_ne (by omega), pm_si_ne (by omega)]) ⟨n + 1, by omega, pm_si_same, pm_si_same, fun j hj => ?_⟩ ?_ ?_ (hsi.cg (fun q _ _ => by rw [pm_si_row (by omega), pm_si_row (by omega)]) (fun q _ _ => by rw [pm_si_row (by omega), pm_si_row (by omega)]) (by rw [pm_si_ne (by omega), pm_si_ne (by omega)])) (hb.cg (fun q _ _ => by rw [pm_si_row (by omega), pm_si_row (by omega)]) (fun q _ _ => by rw [pm_si_row (by omega), pm_si_row (by omega)]) (by rw [pm_si_ne (by omega), pm_si_ne (by omega)]))⟩
    · simp [fX11_feed, ev_within, hw, g1, lgS, lenS, s2, e0, e, pm_let, hib, hcl, pm_si_2, pm_si_1, nL]
    · simp [fX12_feed, evI, hw, s3, e', g3, lgR, lenR, pm_let, hib, hcl, pm_si_2, pm_si_1, nL]
    · have w1 := pu_w_lit hw
      by_cases hjn : j = n
      · subst hjn
        simp only [pm_si_1]
        simp
        exact ⟨w1.1, w1.2⟩
      · have q := s4 j (by omega)
        simp only [pm_si_1]
        simp [hjn]
        exact q
    · rw [pm_si_ne (by omega), pm_si_ne (by omega), pm_si_ne (by omega), pm_si_ne (by omega)]; exact hf
    · rw [pm_si_ne (by omega), pm_si_ne (by omega), pm_si_ne (by omega), pm_si_ne (by omega)]; exact ⟨hs1, hs2⟩
theorem pu_zbw (a b c : Int32) : pm_zb (pu_w a b c) = true := by
  rcases pu_w01 a b c with h | h <;> rw [h] <;> rfl
theorem ev_isPerson {c r : pm_H} {T l lo np : Nat} (h : pu_R c r T l lo np) (a : Int32) : fX11_isPerson lw_SC 1 a c = some (pu_w a 0 (nI np - 1), c) ∧ fX12_isPerson lw_SR 1 a r = some (pu_w a 0 (nI np - 1), r) := by
  obtain ⟨hT, a1, a2, a3, ht, hf, hL, -⟩ := h
  obtain ⟨L, kn, ko, ks, d1, d2, d3, d4, d5, d6, ⟨e1, e2⟩, -⟩ := hL
  exact ⟨by simp [fX11_isPerson, ev_within, a1, lgS, e1, pu_zbw], by simp [fX12_isPerson, evJ, e2, pu_zbw]⟩
theorem pu_write : pu_2 pu_Rel fX11_write fX12_write := by
  intro c r h a a2
  obtain ⟨T, l, lo, np, H⟩ := id h
  obtain ⟨i1, i2⟩ := ev_isPerson H a
  obtain ⟨hT, g1, g2, g3, ht, hf, b1, b2, b3, b4, ⟨hs1, hs2⟩, hsi, ⟨n, s1, s2, s3, s4⟩⟩ := id H
  have hnp := b1.np
  rcases pu_w_idx a (n := np) (by omega) with hw | ⟨hw, p, hp, rfl⟩
  · exact pu_ro h (-1000000001) (by simp [fX11_write, i1, hw]) (by simp [fX12_write, i2, hw])
  rcases pu_w01 a2 1 999 with hw2 | hw2
  · exact pu_ro h (-1000000002) (by simp [fX11_write, i1, ev_within, hw, hw2]) (by simp [fX12_write, i2, evI, hw, hw2])
  by_cases h6 : n = 15
  · subst h6
    have e : ¬ nI 15 < 15 := by decide
    have e' : nI 15 = 15 := by decide
    exact pu_ro h (-1000000004) (by simp [fX11_write, i1, ev_within, hw, hw2, g1, lgS, s2, e]) (by simp [fX12_write, i2, evI, hw, hw2, s3, e'])
  · have e : nI n < 15 := (qn_lt_iff (b := 15) (by omega) (by omega)).mpr (by omega)
    have e2 : ¬ (15 : Int32) ≤ nI n := fun z => by have := (qn_le_iff (a := 15) (by omega) (by omega)).mp z; omega
    have e' : ¬ nI n = 15 := fun z => by have := (qn_inj (b := 15) (by omega) (by omega)).mp z; omega
    have hib : pm_ib (nI n) 15 = true := pm_ib_nI (by omega) (by omega)
    have hcl : (nI n).toNatClampNeg = n := nI_clamp (by omega)
    refine ⟨nI (n + 1), pm_si (pm_si (pm_si c 227 n (nI p)) 228 n a2) 226 2 (nI (n + 1)), pm_si (pm_si (pm_si r 20 n (nI p)) 21 n a2) 1 38 (nI (n + 1)), ?_, ?_, T, l, lo, np, H.mv rfl rfl (fun q hq => by rw [pm_si_row (by omega), pm_si_row (by omega), pm_si_row (by omega)]) (fun q hq => by rw [pm_si_row (by omega), pm_si_row (by omega), pm_si_row (by omega)]) (fun k hk => by rw [pm_si_ne (by omega), pm_si_ne (by omega), pm_si_ne (by omega)]) (ht.cg (by rw [pm_si_row (by omega), pm_si_row (by omega), pm_si_row (by omega)]) (by rw [pm_si_ne (by omega), pm_si_ne (by omega), pm_si_ne (by omega)]) (by rw [pm_si_row (by omega), pm_si_row (by omega), pm_si_row (by omega)]) (by rw [pm_si_ne (by omega), pm_si_ne (by omega), pm_si_ne (by omega)])) ?_ ?_ (hsi.cg (fun q _ _ => by rw [pm_si_row (by omega), pm_si_row (by omega), pm_si_row (by omega)]) (fun q _ _ => by rw [pm_si_row (by omega), pm_si_row (by omega), pm_si_row (by omega)]) (by rw [pm_si_ne (by omega), pm_si_ne (by omega), pm_si_ne (by omega)])) ⟨n + 1, by omega, pm_si_same, pm_si_same, fun j hj => ?_⟩⟩
    · simp [fX11_write, fX0_add, i1, ev_within, hw, hw2, g1, lgS, lenS, s2, e, e2, pm_let, hib, hcl, pm_si_2, pm_si_1, nL]
    · simp [fX12_write, i2, evI, hw, hw2, s3, e', g3, lgR, lenR, pm_let, hib, hcl, pm_si_2, pm_si_1, nL]
    · rw [pm_si_ne (by omega), pm_si_ne (by omega), pm_si_ne (by omega), pm_si_ne (by omega), pm_si_ne (by omega), pm_si_ne (by omega)]; exact hf
    · rw [pm_si_ne (by omega), pm_si_ne (by omega), pm_si_ne (by omega), pm_si_ne (by omega), pm_si_ne (by omega), pm_si_ne (by omega)]; exact ⟨hs1, hs2⟩
    · by_cases hjn : j = n
      · subst hjn
        refine ⟨p, hp, ?_, ?_, ?_⟩ <;> simp only [pm_si_1] <;> simp
      · obtain ⟨p', q1, q2, q3, q4⟩ := s4 j (by omega)
        refine ⟨p', q1, ?_, ?_, ?_⟩ <;> simp only [pm_si_1] <;> simp [hjn, q2, q3, q4]
theorem pu_judge : pu_0 pu_Rel fX11_judge fX12_judge := by
  intro c r h
  obtain ⟨T, l, lo, np, H⟩ := id h
  obtain ⟨hT, g1, g2, g3, ht, hf, b1, b2, b3, b4, -, -, ⟨n, s1, s2, s3, s4⟩⟩ := id H
  have hnp := b1.np
  obtain ⟨L, y, nt, nh, k0, -, -, -, -, -, -, -, -, m3⟩ := b2
  simp only [Nat.reduceAdd] at m3
  have loop : ∀ k i m m', i + k = n → k < m → k < m' → ∃ v, fX0_firstWrong_L2 lw_SC 226 17 (fun s9 => some ((-1 : Int32), s9)) m (nI i) c = some (v, c) ∧ fX12_judge_L2 lw_SR 1 (fun s9 => some ((-1 : Int32), s9)) m' (nI i) r = some (v, r) := by
    intro k
    induction k with
    | zero =>
      intro i m m' hi hm hm'
      obtain ⟨m, rfl⟩ : ∃ z, m = z + 1 := ⟨m - 1, by omega⟩
      obtain ⟨m', rfl⟩ : ∃ z, m' = z + 1 := ⟨m' - 1, by omega⟩
      have e : nI n ≤ nI i := (qn_le_iff (by omega) (by omega)).mpr (by omega)
      exact ⟨-1, by simp [fX0_firstWrong_L2, s2, e], by simp [fX12_judge_L2, s3, e]⟩
    | succ k ih =>
      intro i m m' hi hm hm'
      obtain ⟨m, rfl⟩ : ∃ z, m = z + 1 := ⟨m - 1, by omega⟩
      obtain ⟨m', rfl⟩ : ∃ z, m' = z + 1 := ⟨m' - 1, by omega⟩
      have e : ¬ nI n ≤ nI i := fun z => by have := (qn_le_iff (by omega) (by omega)).mp z; omega
      obtain ⟨p, q1, q2, q3, q4⟩ := s4 i (by omega)
      have hib : pm_ib (nI i) 15 = true := pm_ib_nI (by omega) (by omega)
      have hcl : (nI i).toNatClampNeg = i := nI_clamp (by omega)
      have hib2 : pm_ib (nI p) 6 = true := pm_ib_nI (by omega) (by omega)
      have hcl2 : (nI p).toNatClampNeg = p := nI_clamp (by omega)
      have hib3 : pm_ib (nI (74 + p)) 80 = true := pm_ib_nI (by omega) (by omega)
      have hcl3 : (nI (74 + p)).toNatClampNeg = 74 + p := nI_clamp (by omega)
      have q5 := (m3 p q1).1
      by_cases hd : c.1 26 p = c.1 228 i
      · obtain ⟨v, v1, v2⟩ := ih (i + 1) m m' (by omega) (by omega) (by omega)
        refine ⟨v, ?_, ?_⟩
        · rw [fX0_firstWrong_L2]
          simp [s2, e, g1, lgS, lenS, hib, hcl, q2, hib2, hcl2, eq_true hd, nL]
          exact v1
        · rw [fX12_judge_L2]
          simp [s3, e, g3, lgR, lenR, hib, hcl, q3, nL, hib3, hcl3, q5, q4, eq_true hd]
          exact v2
      · refine ⟨nI i, ?_, ?_⟩
        · rw [fX0_firstWrong_L2]
          simp [s2, e, g1, lgS, lenS, hib, hcl, q2, hib2, hcl2, hd]
        · rw [fX12_judge_L2]
          simp [s3, e, g3, lgR, lenR, hib, hcl, q3, nL, hib3, hcl3, q5, q4, hd]
  obtain ⟨v, v1, v2⟩ := loop n 0 pm_fuel pm_fuel (by omega) (by unfold pm_fuel; omega) (by unfold pm_fuel; omega)
  refine pu_ro h v ?_ ?_
  · simp only [fX11_judge, fX0_firstWrong, g1, lgS]
    rw [show (0 : Int32) = nI 0 from rfl, v1]
    rfl
  · simp only [fX12_judge]
    exact v2
