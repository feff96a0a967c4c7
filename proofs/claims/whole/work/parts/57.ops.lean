theorem pu_Law.cg2 {c r c' r' : pm_H} {T lo np : Nat} (e : ∀ o, o ≤ 5 → c'.1 (T + o) = c.1 (T + o)) (hr : ∀ q, 2 ≤ q → q ≤ 6 → r'.1 q = r.1 q) (h1 : ∀ k, k < 10 → r'.1 1 k = r.1 1 k) (h : pu_Law c r T lo np) : pu_Law c' r' T lo np := by
  obtain ⟨L, kn, ko, ks, a1, a2, ⟨b1, b2⟩, b3, ⟨b4, b5⟩, ⟨b6, b7⟩, ⟨b8, b9⟩, ⟨b10, b11⟩, d1, d2, d3⟩ := h
  have e0 := e 0 (by omega)
  rw [Nat.add_zero] at e0
  refine ⟨L, kn, ko, ks, a1, a2, ⟨by rw [e0]; exact b1, by rw [h1 _ (by omega)]; exact b2⟩, fun hlo => ?_, ⟨by rw [e0]; exact b4, by rw [h1 _ (by omega)]; exact b5⟩, ⟨by rw [e0]; exact b6, by rw [h1 _ (by omega)]; exact b7⟩, ⟨by rw [e0]; exact b8, by rw [h1 _ (by omega)]; exact b9⟩, ⟨by rw [e0]; exact b10, by rw [h1 _ (by omega)]; exact b11⟩, fun i hi => ?_, fun i hi => ?_, fun i hi => ?_⟩
  · obtain ⟨w, g1, g2, g3⟩ := b3 hlo
    exact ⟨w, g1, by rw [e0]; exact g2, by rw [h1 _ (by omega)]; exact g3⟩
  · rw [e 1 (by omega), hr 2 (by omega) (by omega)]; exact d1 i hi
  · rw [e 2 (by omega), e 3 (by omega), hr 3 (by omega) (by omega), hr 4 (by omega) (by omega)]; exact d2 i hi
  · rw [e 5 (by omega), hr 6 (by omega) (by omega)]; exact d3 i hi
theorem lgC_l {σ : pm_H} {T l : Nat} (h : σ.2 = lgC T l) : (pm_sr σ 3 2 2).2 = lgC T 2 := by
  funext a j
  rw [pm_sr_2, h]
  by_cases h3 : a = 3 ∧ j = 2
  · obtain ⟨rfl, rfl⟩ := h3
    simp [lgC]
  · simp [lgC, h3]
theorem lgC_sw {σ : pm_H} {D : Nat} (hD : D = 5 ∨ D = 11) (h : σ.2 = lgC (16 - D) 2) : (pm_sr (pm_sr σ 1 4 D) 1 5 (16 - D)).2 = lgC D 2 := by
  funext a j
  rw [pm_sr_2, pm_sr_2, h]
  by_cases h5 : a = 1 ∧ j = 5
  · obtain ⟨rfl, rfl⟩ := h5
    simp [lgC]
  · by_cases h4 : a = 1 ∧ j = 4
    · obtain ⟨rfl, rfl⟩ := h4
      simp [lgC]
    · simp [lgC, h4, h5]
/-- both read the text -/
theorem ev_read {c r : pm_H} {D l n : Nat} {tx : Nat → Int32} (hD : D = 5 ∨ D = 11) (g1 : c.2 = lgC (16 - D) l) (g3 : r.2 = lw_R0.2) (hn : n ≤ 240) (htx : ∀ j, j < n → c.1 2 j = tx j ∧ r.1 8 j = tx j ∧ 0 ≤ (tx j).toInt) (h14 : r.1 1 14 = nI n) : ∃ f c' r', fX5_readText lw_SC 3 2 (nI n) D c = some c' ∧ fX12_realm lw_SR 1 r = fX12_realm_J56 lw_SR 1 f r' ∧ c'.2 = lgC (16 - D) 2 ∧ (∀ q, q ≠ 3 → q < D ∨ D + 5 < q → c'.1 q = c.1 q) ∧ r'.2 = r.2 ∧ (∀ q, q ≠ 1 → q < 9 ∨ 13 < q → r'.1 q = r.1 q) ∧ (∀ k, k < 15 ∨ 29 < k → r'.1 1 k = r.1 1 k) ∧ c'.1 3 1 = r'.1 1 15 ∧ ((f = 0 ∧ c'.1 3 0 = 0 ∧ r'.1 1 15 = -1 ∧ ∃ L kn ko np ks, pu_Dp c' r' D L kn ko np ks) ∨ ∃ F, 1 ≤ F ∧ F ≤ 4 ∧ f = nI F ∧ c'.1 3 0 = nI F) := by
  obtain ⟨s5, hs5⟩ : ∃ s5, s5 = pm_si (pm_si (pm_si (pm_si (pm_sr c 3 2 2) 3 3 (nI n)) 3 4 0) 3 0 0) 3 1 (-1) := ⟨_, rfl⟩
  obtain ⟨u6, hu6⟩ : ∃ u6, u6 = pm_si (pm_si (pm_si (pm_si (pm_si (pm_si s5 D 0 0) D 1 0) D 3 0) D 6 0) D 8 0) D 10 0 := ⟨_, rfl⟩
  have hcl : fX9_clear lw_SC D s5 = some u6 := by rw [fX9_clear, hu6]; rfl
  have g6 : u6.2 = lgC (16 - D) 2 := by
    rw [hu6, hs5]
    exact lgC_l g1
  have r5 : ∀ q, q ≠ 3 → s5.1 q = c.1 q := fun q hq => by rw [hs5, pm_si_row hq, pm_si_row hq, pm_si_row hq, pm_si_row hq]; rfl
  have r6 : ∀ q, q ≠ 3 → q ≠ D → u6.1 q = c.1 q := fun q hq hq2 => by rw [hu6, pm_si_row hq2, pm_si_row hq2, pm_si_row hq2, pm_si_row hq2, pm_si_row hq2, pm_si_row hq2]; exact r5 q hq
  have t3 : u6.1 3 = s5.1 3 := by rw [hu6, pm_si_row (by omega), pm_si_row (by omega), pm_si_row (by omega), pm_si_row (by omega), pm_si_row (by omega), pm_si_row (by omega)]
  have t33 : u6.1 3 3 = nI n := by rw [t3, hs5, pm_si_ne (by omega), pm_si_ne (by omega), pm_si_ne (by omega), pm_si_same]
  have t34 : u6.1 3 4 = nI 0 := by rw [t3, hs5, pm_si_ne (by omega), pm_si_ne (by omega), pm_si_same]; rfl
  have t30 : u6.1 3 0 = 0 := by rw [t3, hs5, pm_si_ne (by omega), pm_si_same]
  have t31 : u6.1 3 1 = -1 := by rw [t3, hs5, pm_si_same]
  have a : pu_TC (16 - D) n tx u6 := ⟨g6, hn, t33, fun j hj => by rw [r6 2 (by omega) (by omega)]; exact (htx j hj).1⟩
  obtain ⟨u7, w1, w2, w3, w4⟩ := ev_skip a (Nat.zero_le n) t34
  obtain ⟨r7, hr7⟩ : ∃ r7, r7 = pm_si (pm_si (pm_si (pm_si (pm_si (pm_si (pm_si r 1 15 (-1)) 1 16 0) 1 19 0) 1 21 0) 1 23 0) 1 26 0) 1 28 0 := ⟨_, rfl⟩
  have x1 : ∀ q, q ≠ 1 → r7.1 q = r.1 q := fun q hq => by rw [hr7, pm_si_row hq, pm_si_row hq, pm_si_row hq, pm_si_row hq, pm_si_row hq, pm_si_row hq, pm_si_row hq]
  have x2 : ∀ k, k < 15 ∨ 29 < k → r7.1 1 k = r.1 1 k := fun k hk => by rw [hr7, pm_si_ne (by omega), pm_si_ne (by omega), pm_si_ne (by omega), pm_si_ne (by omega), pm_si_ne (by omega), pm_si_ne (by omega), pm_si_ne (by omega)]
  have x15 : r7.1 1 15 = -1 := by rw [hr7, pm_si_ne (by omega), pm_si_ne (by omega), pm_si_ne (by omega), pm_si_ne (by omega), pm_si_ne (by omega), pm_si_ne (by omega), pm_si_same]
  have x16 : r7.1 1 16 = nI 0 := by rw [hr7, pm_si_ne (by omega), pm_si_ne (by omega), pm_si_ne (by omega), pm_si_ne (by omega), pm_si_ne (by omega), pm_si_same]; rfl
  have x19 : r7.1 1 19 = nI 0 := by rw [hr7, pm_si_ne (by omega), pm_si_ne (by omega), pm_si_ne (by omega), pm_si_ne (by omega), pm_si_same]; rfl
  have x21 : r7.1 1 21 = nI 0 := by rw [hr7, pm_si_ne (by omega), pm_si_ne (by omega), pm_si_ne (by omega), pm_si_same]; rfl
  have x23 : r7.1 1 23 = nI 0 := by rw [hr7, pm_si_ne (by omega), pm_si_ne (by omega), pm_si_same]; rfl
  have x26 : r7.1 1 26 = nI 0 := by rw [hr7, pm_si_ne (by omega), pm_si_same]; rfl
  have x28 : r7.1 1 28 = nI 0 := by rw [hr7, pm_si_same]; rfl
  have xg : r7.2 = r.2 := by rw [hr7]; rfl
  have b : pu_TR n tx r7 := ⟨xg.trans g3, hn, by rw [x2 14 (by omega)]; exact h14, fun j hj => by rw [x1 8 (by omega)]; exact (htx j hj).2.1⟩
  have y0 : u6.1 D 0 = nI 0 := by rw [hu6, pm_si_ne (by omega), pm_si_ne (by omega), pm_si_ne (by omega), pm_si_ne (by omega), pm_si_ne (by omega), pm_si_same]; rfl
  have y3 : u6.1 D 3 = nI 0 := by rw [hu6, pm_si_ne (by omega), pm_si_ne (by omega), pm_si_ne (by omega), pm_si_same]; rfl
  have y6 : u6.1 D 6 = nI 0 := by rw [hu6, pm_si_ne (by omega), pm_si_ne (by omega), pm_si_same]; rfl
  have y8 : u6.1 D 8 = nI 0 := by rw [hu6, pm_si_ne (by omega), pm_si_same]; rfl
  have y10 : u6.1 D 10 = nI 0 := by rw [hu6, pm_si_same]; rfl
  have H : pu_Dp u6 r7 D 0 0 0 0 0 := ⟨Or.inr ⟨rfl, rfl, rfl, rfl, rfl⟩, ⟨Or.inl rfl, by omega, y0, x19, fun h => by omega⟩, ⟨by omega, y3, x21, fun i hi => absurd hi (Nat.not_lt_zero _)⟩, ⟨by omega, y6, x23, fun i hi => absurd hi (Nat.not_lt_zero _)⟩, ⟨by omega, y8, x26, fun i hi => absurd hi (Nat.not_lt_zero _)⟩, ⟨by omega, y10, x28, fun i hi => absurd hi (Nat.not_lt_zero _)⟩⟩
  obtain ⟨N, hN⟩ : ∃ N, pm_fuel = N + 1 := ⟨pm_fuel - 1, by unfold pm_fuel; omega⟩
  have hN2 : n + 1 < N := by unfold pm_fuel at hN; omega
  obtain ⟨f, c', r', p1, p2, p3, p4, p5⟩ := ev_text hD (fun j hj => (htx j hj).2.2) n 0 0 N N u7 r7 0 0 0 0 0 (by omega) (by omega) (by omega) hN2 (by omega) (a.cX w2) b w3 x16 (by rw [w4 0 (by omega)]; exact t30) (by rw [w4 1 (by omega)]; exact t31) x15 (H.cg hD w2 (pu_rX.rf r7))
  have F7 : pu_F D u6 r7 u7 r7 := pu_F.of w2 (pu_rX.rf r7)
  have F8 := F7.tr p3
  refine ⟨f, c', r', ?_, ?_, F8.1.trans g6, fun q h1 h2 => by rw [F8.2.1 q h1 h2, r6 q h1 (by omega)], F8.2.2.1.trans xg, fun q h1 h2 => by rw [F8.2.2.2.1 q h1 h2, x1 q h1], fun k hk => by rw [F8.2.2.2.2 k hk, x2 k hk], p4, p5⟩
  · have em : pm_min (nI n) (Int32.ofNat (pm_len lw_SC 2)) = nI n := by
      simp only [lenS]
      unfold pm_min
      rw [if_neg]
      intro z
      have := (qn_lt_iff (a := 240) (by omega) (by omega)).mp z
      omega
    rw [fX5_readText, em]
    simp only [pm_let]
    rw [← hs5, hcl, Option.bind_some, w1, Option.bind_some, hN]
    exact p1
  · rw [fX12_realm]
    simp only [pm_let]
    rw [← hr7, hN]
    exact p2 _
