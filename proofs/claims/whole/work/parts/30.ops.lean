/-! keep, goBack -/
theorem e81 (i k : Nat) : (81 : Int32) * nI i + nI k = nI (81 * i + k) := by rw [show (81 : Int32) = nI 81 from rfl, qn_mul, qn_add]
theorem ev_store {r : pm_H} {i : Nat} (g3 : r.2 = lw_R0.2) (hi : i < 2) (kx : pm_H → Option (Int32 × pm_H)) : ∃ r', fX12_keep_L15 lw_SR 1 (nI i) kx pm_fuel 0 r = kx r' ∧ r'.2 = r.2 ∧ (∀ q, q ≠ 22 → r'.1 q = r.1 q) ∧ (∀ k, k < 80 → r'.1 22 (81 * i + k) = r.1 7 k) ∧ ∀ k, k < 81 * i ∨ 81 * i + 80 ≤ k → r'.1 22 k = r.1 22 k := by
  have loop : ∀ k j n (s : pm_H), j + k = 80 → k < n → s.2 = r.2 → (∀ q, q ≠ 22 → s.1 q = r.1 q) → (∀ k, k < j → s.1 22 (81 * i + k) = r.1 7 k) → (∀ k, k < 81 * i ∨ 81 * i + 80 ≤ k → s.1 22 k = r.1 22 k) → ∃ r', fX12_keep_L15 lw_SR 1 (nI i) kx n (nI j) s = kx r' ∧ r'.2 = r.2 ∧ (∀ q, q ≠ 22 → r'.1 q = r.1 q) ∧ (∀ k, k < 80 → r'.1 22 (81 * i + k) = r.1 7 k) ∧ ∀ k, k < 81 * i ∨ 81 * i + 80 ≤ k → r'.1 22 k = r.1 22 k := by
    intro k
    induction k with
    | zero =>
      intro j n s hj hn h2 hq h5 h6
      obtain ⟨n, rfl⟩ : ∃ z, n = z + 1 := ⟨n - 1, by omega⟩
      have hj : j = 80 := by omega
      subst hj
      have e : (80 : Int32) ≤ nI 80 := by decide
      exact ⟨s, by rw [fX12_keep_L15, if_pos e], h2, hq, h5, h6⟩
    | succ k ih =>
      intro j n s hj hn h2 hq h5 h6
      obtain ⟨n, rfl⟩ : ∃ z, n = z + 1 := ⟨n - 1, by omega⟩
      have e : ¬ (80 : Int32) ≤ nI j := fun z => by have := (qn_le_iff (a := 80) (by omega) (by omega)).mp z; omega
      have i1 : pm_ib (nI j) 80 = true := pm_ib_nI (by omega) (by omega)
      have i2 : pm_ib (nI (81 * i + j)) 162 = true := pm_ib_nI (by omega) (by omega)
      have c1 : (nI j).toNatClampNeg = j := nI_clamp (by omega)
      have c2 : (nI (81 * i + j)).toNatClampNeg = 81 * i + j := nI_clamp (by omega)
      have h3 : s.2 = lw_R0.2 := h2.trans g3
      rw [fX12_keep_L15, if_neg e]
      simp only [h3, lgR, lenR, i1, e81, i2, c1, c2, if_true, pm_let, (nL j).2.2.2.2.2.2]
      refine ih (j + 1) n (pm_si s 22 (81 * i + j) (s.1 7 j)) (by omega) (by omega) h2 (fun q hq2 => by rw [pm_si_row hq2]; exact hq q hq2) (fun k hk => ?_) (fun k hk => by rw [pm_si_ne (by omega)]; exact h6 k hk)
      by_cases hji : k = j
      · subst hji
        rw [pm_si_same, hq 7 (by omega)]
      · rw [pm_si_ne (by omega)]; exact h5 k (by omega)
  exact loop 80 0 pm_fuel r (by omega) (by unfold pm_fuel; omega) rfl (fun _ _ => rfl) (fun j hj => absurd hj (Nat.not_lt_zero _)) (fun _ _ => rfl)
theorem ev_fetch {r : pm_H} {i : Nat} (g3 : r.2 = lw_R0.2) (hi : i < 2) (kx : pm_H → Option (Int32 × pm_H)) : ∃ r', fX12_goBack_L27 lw_SR 1 (nI i) kx pm_fuel 0 r = kx r' ∧ r'.2 = r.2 ∧ (∀ q, q ≠ 7 → r'.1 q = r.1 q) ∧ (∀ k, k < 80 → r'.1 7 k = r.1 22 (81 * i + k)) := by
  have loop : ∀ k j n (s : pm_H), j + k = 80 → k < n → s.2 = r.2 → (∀ q, q ≠ 7 → s.1 q = r.1 q) → (∀ k, k < j → s.1 7 k = r.1 22 (81 * i + k)) → ∃ r', fX12_goBack_L27 lw_SR 1 (nI i) kx n (nI j) s = kx r' ∧ r'.2 = r.2 ∧ (∀ q, q ≠ 7 → r'.1 q = r.1 q) ∧ (∀ k, k < 80 → r'.1 7 k = r.1 22 (81 * i + k)) := by
    intro k
    induction k with
    | zero =>
      intro j n s hj hn h2 hq h5
      obtain ⟨n, rfl⟩ : ∃ z, n = z + 1 := ⟨n - 1, by omega⟩
      have hj : j = 80 := by omega
      subst hj
      have e : (80 : Int32) ≤ nI 80 := by decide
      exact ⟨s, by rw [fX12_goBack_L27, if_pos e], h2, hq, h5⟩
    | succ k ih =>
      intro j n s hj hn h2 hq h5
      obtain ⟨n, rfl⟩ : ∃ z, n = z + 1 := ⟨n - 1, by omega⟩
      have e : ¬ (80 : Int32) ≤ nI j := fun z => by have := (qn_le_iff (a := 80) (by omega) (by omega)).mp z; omega
      have i1 : pm_ib (nI j) 80 = true := pm_ib_nI (by omega) (by omega)
      have i2 : pm_ib (nI (81 * i + j)) 162 = true := pm_ib_nI (by omega) (by omega)
      have c1 : (nI j).toNatClampNeg = j := nI_clamp (by omega)
      have c2 : (nI (81 * i + j)).toNatClampNeg = 81 * i + j := nI_clamp (by omega)
      have h3 : s.2 = lw_R0.2 := h2.trans g3
      rw [fX12_goBack_L27, if_neg e]
      simp only [h3, lgR, lenR, i1, e81, i2, c1, c2, if_true, pm_let, (nL j).2.2.2.2.2.2]
      refine ih (j + 1) n (pm_si s 7 j (s.1 22 (81 * i + j))) (by omega) (by omega) h2 (fun q hq2 => by rw [pm_si_row hq2]; exact hq q hq2) (fun k hk => ?_)
      by_cases hji : k = j
      · subst hji
        rw [pm_si_same, hq 22 (by omega)]
      · rw [pm_si_ne (by omega)]; exact h5 k (by omega)
  exact loop 80 0 pm_fuel r (by omega) (by unfold pm_fuel; omega) rfl (fun _ _ => rfl) (fun j hj => absurd hj (Nat.not_lt_zero _))
theorem pu_w_two (a : Int32) : pu_w a 0 1 = 0 ∨ (pu_w a 0 1 = 1 ∧ ∃ i, i < 2 ∧ a = nI i) := pu_w_idx a (n := 2) (by omega)
theorem pu_keep : pu_1 pu_Rel fX11_keep fX12_keep := by
  intro c r h a
  obtain ⟨T, l, lo, np, H⟩ := id h
  obtain ⟨hT, g1, g2, g3, ht, hf, b1, b2, b3, b4, ⟨hs1, hs2⟩, hsi, hb⟩ := id H
  have hnp := b1.np
  rcases pu_w_two a with hw | ⟨hw, i, hi, rfl⟩
  · exact pu_ro h (-1000000001) (by simp [fX11_keep, ev_within, hw]) (by simp [fX12_keep, evI, hw])
  obtain ⟨r1, r2⟩ := st_img hi T l
  obtain ⟨x, m, x1, x2, x3, x4, x5, x6⟩ := id b3
  have h17 : 17 ∈ pu_sts := by decide
  have hib : pm_ib (nI i) 2 = true := pm_ib_nI (by omega) (by omega)
  have hcl : (nI i).toNatClampNeg = i := nI_clamp (by omega)
  have i2 : pm_ib (nI (81 * i + 80)) 162 = true := pm_ib_nI (by omega) (by omega)
  have c2 : (nI (81 * i + 80)).toNatClampNeg = 81 * i + 80 := nI_clamp (by omega)
  have e80 : (81 : Int32) * nI i + 80 = nI (81 * i + 80) := e81 i 80
  obtain ⟨c1, q1, q2, q3, q4⟩ := ev_copy (c := c) r2 h17 (by omega) g1 b2.z
  have q2' : c1.2 = lgC T l := q2.trans g1
  obtain ⟨r', w1, w2, w3, w4, w5⟩ := ev_store (r := r) g3 hi (fun s8 => (if pm_ib (((81 : Int32) * nI i) + (80 : Int32)) (pm_len lw_SR (s8.2 1 41)) = true then pm_let (pm_si s8 (s8.2 1 41) ((((81 : Int32) * nI i) + (80 : Int32))).toNatClampNeg (s8.1 1 12)) fun s11 => (if pm_ib (nI i) (pm_len lw_SR (s11.2 1 42)) = true then pm_let (pm_si s11 (s11.2 1 42) (nI i).toNatClampNeg (1 : Int32)) fun s14 => pm_let (pm_si s14 1 30 (0 : Int32)) fun s15 => some ((1 : Int32), s15) else none) else none))
  have w2' : r'.2 = lw_R0.2 := w2.trans g3
  have hcc : ∀ q, q ≠ 28 → q ≠ 211 → q ≠ 212 → ¬ (191 + 10 * i < q ∧ q ≤ 191 + 10 * i + 9) → (pm_si (pm_si (pm_si c1 212 i (c1.1 1 12)) 211 i 1) 28 2 0).1 q = c.1 q := fun q z1 z2 z3 z4 => by rw [pm_si_row z1, pm_si_row z2, pm_si_row z3, q3 q z4]
  have hrr : ∀ q, q ≠ 1 → q ≠ 22 → q ≠ 23 → (pm_si (pm_si (pm_si r' 22 (81 * i + 80) (r'.1 1 12)) 23 i 1) 1 30 0).1 q = r.1 q := fun q z1 z2 z3 => by rw [pm_si_row z1, pm_si_row z3, pm_si_row z2, w3 q z2]
  have hr1 : ∀ k, k ≠ 30 → (pm_si (pm_si (pm_si r' 22 (81 * i + 80) (r'.1 1 12)) 23 i 1) 1 30 0).1 1 k = r.1 1 k := fun k z => by rw [pm_si_ne (by omega), pm_si_row (by omega), pm_si_row (by omega), w3 1 (by omega)]
  refine ⟨1, pm_si (pm_si (pm_si c1 212 i (c1.1 1 12)) 211 i 1) 28 2 0, pm_si (pm_si (pm_si r' 22 (81 * i + 80) (r'.1 1 12)) 23 i 1) 1 30 0, ?_, ?_, T, l, lo, np, hT, q2', g2, w2', ht.cg (hcc 2 (by omega) (by omega) (by omega) (by omega)) (by rw [hcc 1 (by omega) (by omega) (by omega) (by omega)]) (hrr 8 (by omega) (by omega) (by omega)) (hr1 14 (by omega)), by rw [hr1 15 (by omega), hcc 1 (by omega) (by omega) (by omega) (by omega)]; exact hf, b1.cg hT (fun q _ _ => hcc q (by omega) (by omega) (by omega) (by omega)) (fun q _ _ => hrr q (by omega) (by omega) (by omega)) (fun k _ => hr1 k (by omega)), b2.cg hnp (fun o _ _ => hcc _ (by omega) (by omega) (by omega) (by omega)) (fun k _ => by rw [hrr 7 (by omega) (by omega) (by omega)]), ⟨x, 0, x1, by omega, ?_, pm_si_same, pm_si_same, fun j hj => absurd hj (Nat.not_lt_zero _)⟩, ?_, by rw [hr1 12 (by omega), hcc 1 (by omega) (by omega) (by omega) (by omega)]; exact ⟨hs1, hs2⟩, hsi.cg (fun q _ _ => hcc q (by omega) (by omega) (by omega) (by omega)) (fun q _ _ => hrr q (by omega) (by omega) (by omega)) (hr1 34 (by omega)), hb.cg (fun q _ _ => hcc q (by omega) (by omega) (by omega) (by omega)) (fun q _ _ => hrr q (by omega) (by omega) (by omega)) (hr1 38 (by omega))⟩
  · simp [fX11_keep, ev_within, hw, g1, lgS, lenS, hib, hcl, r1, q1, q2', pm_let, fX3_forget, pm_si_2]
  · simp only [fX12_keep, evI, hw, Option.bind_some, if_neg (show ¬ (1 : Int32) = 0 by decide)]
    rw [w1]
    simp [w2', lgR, lenR, e80, i2, c2, hib, hcl, pm_let, pm_si_2]
  · rw [pm_si_ne (by omega), pm_si_row (by omega), pm_si_row (by omega), q3 28 (by omega)]; exact x3
  · intro j hj
    by_cases hji : j = i
    · subst hji
      refine Or.inr ⟨?_, ?_, ?_, ?_, ?_⟩
      · rw [pm_si_row (by omega), pm_si_same]
      · rw [pm_si_row (by omega), pm_si_same]
      · refine (b2.cp (h' := c1.1) (b := 191 + 10 * j) hnp q4 (fun _ _ => rfl)).cg hnp (fun o _ _ => ?_) (fun k hk => ?_)
        · rw [pm_si_row (by omega), pm_si_row (by omega), pm_si_row (by omega)]
        · show (pm_si (pm_si (pm_si r' 22 (81 * j + 80) (r'.1 1 12)) 23 j 1) 1 30 0).1 22 (81 * j + k) = r.1 7 k
          rw [pm_si_row (by omega), pm_si_row (by omega), pm_si_ne (by omega), w4 k hk]
      · rw [pm_si_row (by omega), pm_si_row (by omega), pm_si_same, pm_si_row (by omega), pm_si_row (by omega), pm_si_same, w3 1 (by omega), q3 1 (by omega)]; exact hs1
      · rw [pm_si_row (by omega), pm_si_row (by omega), pm_si_same, q3 1 (by omega)]; exact hs2
    · have k211 : (pm_si (pm_si (pm_si c1 212 i (c1.1 1 12)) 211 i 1) 28 2 0).1 211 j = c.1 211 j := by rw [pm_si_row (by omega), pm_si_ne (by omega), pm_si_row (by omega), q3 211 (by omega)]
      have k23 : (pm_si (pm_si (pm_si r' 22 (81 * i + 80) (r'.1 1 12)) 23 i 1) 1 30 0).1 23 j = r.1 23 j := by rw [pm_si_row (by omega), pm_si_ne (by omega), pm_si_row (by omega), w3 23 (by omega)]
      have k212 : (pm_si (pm_si (pm_si c1 212 i (c1.1 1 12)) 211 i 1) 28 2 0).1 212 j = c.1 212 j := by rw [pm_si_row (by omega), pm_si_row (by omega), pm_si_ne (by omega), q3 212 (by omega)]
      have k22 : ∀ k, k ≤ 80 → (pm_si (pm_si (pm_si r' 22 (81 * i + 80) (r'.1 1 12)) 23 i 1) 1 30 0).1 22 (81 * j + k) = r.1 22 (81 * j + k) := fun k hk => by rw [pm_si_row (by omega), pm_si_row (by omega), pm_si_ne (by omega), w5 _ (by omega)]
      rw [k211, k23, k212, k22 80 (by omega)]
      rcases b4 j hj with z | ⟨z1, z2, z3, z4⟩
      · exact Or.inl z
      · exact Or.inr ⟨z1, z2, z3.cg hnp (fun o _ _ => hcc _ (by omega) (by omega) (by omega) (by omega)) (fun k hk => k22 k (by omega)), z4⟩
theorem pu_goBack : pu_1 pu_Rel fX11_goBack fX12_goBack := by
  intro c r h a
  obtain ⟨T, l, lo, np, H⟩ := id h
  obtain ⟨hT, g1, g2, g3, ht, hf, b1, b2, b3, b4, ⟨hs1, hs2⟩, hsi, hb⟩ := id H
  have hnp := b1.np
  rcases pu_w_two a with hw | ⟨hw, i, hi, rfl⟩
  · exact pu_ro h (-1000000001) (by simp [fX11_goBack, ev_within, hw]) (by simp [fX12_goBack, evI, hw])
  obtain ⟨r1, r2⟩ := st_img hi T l
  obtain ⟨x, m, x1, x2, x3, x4, x5, x6⟩ := id b3
  have h17 : 17 ∈ pu_sts := by decide
  have hib : pm_ib (nI i) 2 = true := pm_ib_nI (by omega) (by omega)
  have hcl : (nI i).toNatClampNeg = i := nI_clamp (by omega)
  have i2 : pm_ib (nI (81 * i + 80)) 162 = true := pm_ib_nI (by omega) (by omega)
  have c2 : (nI (81 * i + 80)).toNatClampNeg = 81 * i + 80 := nI_clamp (by omega)
  have e80 : (81 : Int32) * nI i + 80 = nI (81 * i + 80) := e81 i 80
  rcases b4 i hi with ⟨z1, z2⟩ | ⟨z1, z2, z3, z4, z5⟩
  · exact pu_ro h (-1000000003) (by simp [fX11_goBack, ev_within, hw, g1, lgS, lenS, hib, hcl, z1]) (by simp [fX12_goBack, evI, hw, g3, lgR, lenR, hib, hcl, z2])
  obtain ⟨c1, q1, q2, q3, q4⟩ := ev_copy (c := c) h17 r2 (by omega) g1 z3.z
  have q2' : c1.2 = lgC T l := q2.trans g1
  obtain ⟨r', w1, w2, w3, w4⟩ := ev_fetch (r := r) g3 hi (fun s10 => (if pm_ib (((81 : Int32) * nI i) + (80 : Int32)) (pm_len lw_SR (s10.2 1 41)) = true then pm_let (pm_si s10 1 12 (s10.1 (s10.2 1 41) ((((81 : Int32) * nI i) + (80 : Int32))).toNatClampNeg)) fun s13 => pm_let (pm_si s13 1 30 (0 : Int32)) fun s14 => some ((1 : Int32), s14) else none))
  have w2' : r'.2 = lw_R0.2 := w2.trans g3
  have hcc : ∀ q, q ≠ 1 → q ≠ 28 → ¬ (17 < q ∧ q ≤ 26) → (pm_si (pm_si c1 1 12 (c1.1 212 i)) 28 2 0).1 q = c.1 q := fun q z1 z2 z3 => by rw [pm_si_row z2, pm_si_row z1, q3 q (by omega)]
  have hc1 : ∀ k, k ≠ 12 → (pm_si (pm_si c1 1 12 (c1.1 212 i)) 28 2 0).1 1 k = c.1 1 k := fun k z => by rw [pm_si_row (by omega), pm_si_ne (by omega), q3 1 (by omega)]
  have hrr : ∀ q, q ≠ 1 → q ≠ 7 → (pm_si (pm_si r' 1 12 (r'.1 22 (81 * i + 80))) 1 30 0).1 q = r.1 q := fun q z1 z2 => by rw [pm_si_row z1, pm_si_row z1, w3 q z2]
  have hr1 : ∀ k, k ≠ 30 → k ≠ 12 → (pm_si (pm_si r' 1 12 (r'.1 22 (81 * i + 80))) 1 30 0).1 1 k = r.1 1 k := fun k z z' => by rw [pm_si_ne (by omega), pm_si_ne (by omega), w3 1 (by omega)]
  refine ⟨1, pm_si (pm_si c1 1 12 (c1.1 212 i)) 28 2 0, pm_si (pm_si r' 1 12 (r'.1 22 (81 * i + 80))) 1 30 0, ?_, ?_, T, l, lo, np, hT, q2', g2, w2', ht.cg (hcc 2 (by omega) (by omega) (by omega)) (hc1 1 (by omega)) (hrr 8 (by omega) (by omega)) (hr1 14 (by omega) (by omega)), by rw [hr1 15 (by omega) (by omega), hc1 2 (by omega)]; exact hf, b1.cg hT (fun q _ _ => hcc q (by omega) (by omega) (by omega)) (fun q _ _ => hrr q (by omega) (by omega)) (fun k _ => hr1 k (by omega) (by omega)), ?_, ⟨x, 0, x1, by omega, ?_, pm_si_same, pm_si_same, fun j hj => absurd hj (Nat.not_lt_zero _)⟩, b4.cg hnp (fun q _ _ => hcc q (by omega) (by omega) (by omega)) (hrr 22 (by omega) (by omega)) (hrr 23 (by omega) (by omega)), ?_, hsi.cg (fun q _ _ => hcc q (by omega) (by omega) (by omega)) (fun q _ _ => hrr q (by omega) (by omega)) (hr1 34 (by omega) (by omega)), hb.cg (fun q _ _ => hcc q (by omega) (by omega) (by omega)) (fun q _ _ => hrr q (by omega) (by omega)) (hr1 38 (by omega) (by omega))⟩
  · simp [fX11_goBack, ev_within, hw, g1, lgS, lenS, hib, hcl, r1, q1, q2', pm_let, fX3_forget, pm_si_2, z1]
  · simp only [fX12_goBack, evI, hw, Option.bind_some, if_neg (show ¬ (1 : Int32) = 0 by decide), g3, lgR, lenR, hib, hcl, z2, if_true]
    rw [w1]
    simp [w2', lgR, lenR, e80, i2, c2, hib, hcl, pm_let, pm_si_2]
  · refine (z3.cp (h' := c1.1) (b := 17) hnp q4 (fun _ _ => rfl)).cg hnp (fun o _ _ => ?_) (fun k hk => ?_)
    · rw [pm_si_row (by omega), pm_si_row (by omega)]
    · rw [pm_si_row (by omega), pm_si_row (by omega), w4 k hk]
  · rw [pm_si_ne (by omega), pm_si_row (by omega), q3 28 (by omega)]; exact x3
  · rw [pm_si_ne (by omega), pm_si_same, pm_si_row (by omega), pm_si_same, w3 22 (by omega), q3 212 (by omega)]; exact ⟨z4, z5⟩
