theorem qn_mul (a b : Nat) : nI a * nI b = nI (a * b) := pk_mul a b
theorem qn_sub {a b : Nat} (h : b ≤ a) : nI a - nI b = nI (a - b) := pk_sub h
/-- remember: the reference's side, the shift -/
theorem ev_shift {r : pm_H} (g3 : r.2 = lw_R0.2) (kx : pm_H → Option pm_H) : ∃ r', fX12_remember_L12 lw_SR 1 kx pm_fuel 80 r = kx r' ∧ r'.2 = r.2 ∧ (∀ q, q ≠ 14 → r'.1 q = r.1 q) ∧ ∀ k, k < 1200 → r'.1 14 k = r.1 14 (k + 80) := by
  have loop : ∀ k i m (s : pm_H), i + k = 1280 → 80 ≤ i → k < m → s.2 = r.2 → (∀ q, q ≠ 14 → s.1 q = r.1 q) → (∀ j, s.1 14 j = if j + 80 < i then r.1 14 (j + 80) else r.1 14 j) → ∃ r', fX12_remember_L12 lw_SR 1 kx m (nI i) s = kx r' ∧ r'.2 = r.2 ∧ (∀ q, q ≠ 14 → r'.1 q = r.1 q) ∧ ∀ k, k < 1200 → r'.1 14 k = r.1 14 (k + 80) := by
    intro k
    induction k with
    | zero =>
      intro i m s hi h80 hm h2 hq hj
      obtain ⟨m, rfl⟩ : ∃ z, m = z + 1 := ⟨m - 1, by omega⟩
      have hi : i = 1280 := by omega
      subst hi
      have e : (1280 : Int32) ≤ nI 1280 := by decide
      exact ⟨s, by rw [fX12_remember_L12, if_pos e], h2, hq, fun k hk => by rw [hj, if_pos (by omega)]⟩
    | succ k ih =>
      intro i m s hi h80 hm h2 hq hj
      obtain ⟨m, rfl⟩ : ∃ z, m = z + 1 := ⟨m - 1, by omega⟩
      have e : ¬ (1280 : Int32) ≤ nI i := fun z => by have := (qn_le_iff (a := 1280) (by omega) (by omega)).mp z; omega
      have e80 : nI i - (80 : Int32) = nI (i - 80) := qn_sub (b := 80) h80
      have i1 : pm_ib (nI i) 1280 = true := pm_ib_nI (by omega) (by omega)
      have i2 : pm_ib (nI (i - 80)) 1280 = true := pm_ib_nI (by omega) (by omega)
      have c1 : (nI i).toNatClampNeg = i := nI_clamp (by omega)
      have c2 : (nI (i - 80)).toNatClampNeg = i - 80 := nI_clamp (by omega)
      rw [fX12_remember_L12, if_neg e]
      have h3 : s.2 = lw_R0.2 := h2.trans g3
      simp only [h3, lgR, lenR, i1, e80, i2, c1, c2, if_true, pm_let, (nL i).2.2.2.2.2.2]
      refine ih (i + 1) m (pm_si s 14 (i - 80) (s.1 14 i)) (by omega) (by omega) (by omega) h2 (fun q hq2 => by rw [pm_si_row hq2]; exact hq q hq2) (fun j => ?_)
      rw [pm_si_1]
      by_cases hji : j = i - 80
      · rw [if_pos ⟨rfl, hji⟩, if_pos (by omega), hj, if_neg (by omega), show j + 80 = i by omega]
      · rw [if_neg (fun z => hji z.2), hj]
        by_cases h9 : j + 80 < i
        · rw [if_pos h9, if_pos (by omega)]
        · rw [if_neg h9, if_neg (by omega)]
  exact loop 1200 80 pm_fuel r (by omega) (by omega) (by unfold pm_fuel; omega) rfl (fun _ _ => rfl) (fun j => by
    by_cases h : j + 80 < 80
    · omega
    · rw [if_neg h])
/-- and the copy -/
theorem ev_save {r : pm_H} {m : Nat} (g3 : r.2 = lw_R0.2) (hm : m ≤ 15) (e1 : r.1 1 30 = nI m) : ∃ r', fX12_remember_J50 lw_SR 1 r = some r' ∧ r'.2 = r.2 ∧ (∀ q, q ≠ 14 → q ≠ 1 → r'.1 q = r.1 q) ∧ (∀ k, k ≠ 30 → r'.1 1 k = r.1 1 k) ∧ r'.1 1 30 = nI (m + 1) ∧ (∀ k, k < 80 → r'.1 14 (80 * m + k) = r.1 7 k) ∧ ∀ k, k < 80 * m → r'.1 14 k = r.1 14 k := by
  have loop : ∀ k i n (s : pm_H) (kx : pm_H → Option pm_H), i + k = 80 → k < n → s.2 = r.2 → (∀ q, q ≠ 14 → s.1 q = r.1 q) → (∀ j, s.1 14 j = if 80 * m ≤ j ∧ j < 80 * m + i then r.1 7 (j - 80 * m) else r.1 14 j) → ∃ r', fX12_remember_L52 lw_SR 1 kx n (nI i) s = kx r' ∧ r'.2 = r.2 ∧ (∀ q, q ≠ 14 → r'.1 q = r.1 q) ∧ (∀ j, r'.1 14 j = if 80 * m ≤ j ∧ j < 80 * m + 80 then r.1 7 (j - 80 * m) else r.1 14 j) := by
    intro k
    induction k with
    | zero =>
      intro i n s kx hi hn h2 hq hj
      obtain ⟨n, rfl⟩ : ∃ z, n = z + 1 := ⟨n - 1, by omega⟩
      have hi : i = 80 := by omega
      subst hi
      have e : (80 : Int32) ≤ nI 80 := by decide
      exact ⟨s, by rw [fX12_remember_L52, if_pos e], h2, hq, hj⟩
    | succ k ih =>
      intro i n s kx hi hn h2 hq hj
      obtain ⟨n, rfl⟩ : ∃ z, n = z + 1 := ⟨n - 1, by omega⟩
      have e : ¬ (80 : Int32) ≤ nI i := fun z => by have := (qn_le_iff (a := 80) (by omega) (by omega)).mp z; omega
      have e30 : s.1 1 30 = nI m := by rw [hq 1 (by omega)]; exact e1
      have e80 : (80 : Int32) * nI m + nI i = nI (80 * m + i) := by rw [show (80 : Int32) = nI 80 from rfl, qn_mul, qn_add]
      have i1 : pm_ib (nI i) 80 = true := pm_ib_nI (by omega) (by omega)
      have i2 : pm_ib (nI (80 * m + i)) 1280 = true := pm_ib_nI (by omega) (by omega)
      have c1 : (nI i).toNatClampNeg = i := nI_clamp (by omega)
      have c2 : (nI (80 * m + i)).toNatClampNeg = 80 * m + i := nI_clamp (by omega)
      rw [fX12_remember_L52, if_neg e]
      have h3 : s.2 = lw_R0.2 := h2.trans g3
      simp only [h3, lgR, lenR, i1, e30, e80, i2, c1, c2, if_true, pm_let, (nL i).2.2.2.2.2.2]
      refine ih (i + 1) n (pm_si s 14 (80 * m + i) (s.1 7 i)) kx (by omega) (by omega) h2 (fun q hq2 => by rw [pm_si_row hq2]; exact hq q hq2) (fun j => ?_)
      rw [pm_si_1]
      by_cases hji : j = 80 * m + i
      · rw [if_pos ⟨rfl, hji⟩, if_pos (by omega), hq 7 (by omega), show j - 80 * m = i by omega]
      · rw [if_neg (fun z => hji z.2), hj]
        by_cases h9 : 80 * m ≤ j ∧ j < 80 * m + i
        · rw [if_pos h9, if_pos (by omega)]
        · rw [if_neg h9, if_neg (by omega)]
  obtain ⟨r', q1, q2, q3, q4⟩ := loop 80 0 pm_fuel r (fun s7 => pm_let (pm_si s7 1 30 ((s7.1 1 30) + (1 : Int32))) fun s8 => some s8) (by omega) (by unfold pm_fuel; omega) rfl (fun _ _ => rfl) (fun j => by rw [if_neg (by omega)])
  refine ⟨pm_si r' 1 30 (nI (m + 1)), ?_, q2, fun q hq hq1 => by rw [pm_si_row hq1]; exact q3 q hq, fun k hk => by rw [pm_si_ne (by omega), q3 1 (by omega)], pm_si_same, fun k hk => ?_, fun k hk => ?_⟩
  · rw [fX12_remember_J50, show (0 : Int32) = nI 0 from rfl, q1, pm_let, q3 1 (by omega), e1, (nL m).2.2.2.2.2.2]
  · rw [pm_si_row (by omega), q4, if_pos (by omega), show 80 * m + k - 80 * m = k by omega]
  · rw [pm_si_row (by omega), q4, if_neg (by omega)]
theorem ev_remR {r : pm_H} {m : Nat} (g3 : r.2 = lw_R0.2) (hm : m ≤ 16) (e1 : r.1 1 30 = nI m) : ∃ r', fX12_remember lw_SR 1 r = some r' ∧ r'.2 = r.2 ∧ (∀ q, q ≠ 14 → q ≠ 1 → r'.1 q = r.1 q) ∧ (∀ k, k ≠ 30 → r'.1 1 k = r.1 1 k) ∧ r'.1 1 30 = nI (if m = 16 then 16 else m + 1) ∧ (∀ k, k < 80 → r'.1 14 (80 * (if m = 16 then 15 else m) + k) = r.1 7 k) ∧ ∀ k, k < 80 * (if m = 16 then 15 else m) → r'.1 14 k = r.1 14 (if m = 16 then k + 80 else k) := by
  by_cases h16 : m = 16
  · subst h16
    have e : nI 16 = (16 : Int32) := by decide
    obtain ⟨r1, q1, q2, q3, q4⟩ := ev_shift g3 (fun s15 => pm_let (pm_si s15 1 30 ((s15.1 1 30) - (1 : Int32))) fun s16 => fX12_remember_J50 lw_SR 1 s16)
    obtain ⟨r2, w1, w2, w3, w4, w5, w6, w7⟩ := ev_save (r := pm_si r1 1 30 (nI 15)) (m := 15) (q2.trans g3) (by omega) pm_si_same
    refine ⟨r2, ?_, w2.trans q2, fun q z1 z2 => ?_, fun k hk => ?_, w5, fun k hk => ?_, fun k hk => ?_⟩
    · simp only [fX12_remember, e1, e, if_true]
      rw [q1, pm_let, q3 1 (by omega), e1]
      exact w1
    · rw [w3 q z1 z2, pm_si_row z2, q3 q z1]
    · rw [w4 k hk, pm_si_ne (by omega), q3 1 (by omega)]
    · have := w6 k hk
      rw [pm_si_row (by omega), q3 7 (by omega)] at this
      exact this
    · simp only [if_true] at hk ⊢
      rw [w7 k hk, pm_si_row (by omega), q4 k (by omega)]
  · have e : ¬ nI m = (16 : Int32) := fun z => by have := (qn_inj (b := 16) (by omega) (by omega)).mp z; omega
    obtain ⟨r2, w1, w2, w3, w4, w5, w6, w7⟩ := ev_save g3 (by omega) e1
    refine ⟨r2, ?_, w2, w3, w4, ?_, ?_, ?_⟩
    · simp only [fX12_remember, e1, e, if_false]; exact w1
    · rw [if_neg h16]; exact w5
    · rw [if_neg h16]; exact w6
    · simp only [if_neg h16]; exact w7
/-- remember: both; the relation stands again, and all but what can be undone is as it was -/
theorem ev_rem {c r : pm_H} {T l lo np : Nat} (H : pu_R c r T l lo np) : ∃ c' r', fX3_remember lw_SC 28 17 c = some c' ∧ fX12_remember lw_SR 1 r = some r' ∧ pu_R c' r' T l lo np ∧ (∀ q, q < 28 → c'.1 q = c.1 q) ∧ (∀ q, q ≠ 14 → q ≠ 1 → r'.1 q = r.1 q) ∧ (∀ k, k ≠ 30 → r'.1 1 k = r.1 1 k) := by
  obtain ⟨hT, g1, g2, g3, ht, hf, b1, b2, b3, b4, ⟨hs1, hs2⟩, hsi, hb⟩ := id H
  have hnp := b1.np
  have hz := b2.z
  simp only [Nat.reduceAdd] at hz
  obtain ⟨x, m, x1, x2, x3, x4, x5, x6⟩ := b3
  obtain ⟨c', q1, q2, q3, q4, q5, q6⟩ := ev_remC g1 x1 x2 x3 x4 hz
  obtain ⟨r', w1, w2, w3, w4, w5, w6, w7⟩ := ev_remR g3 x2 x5
  have hc : ∀ q, q < 28 ∨ 190 ≤ q → c'.1 q = c.1 q := fun q hq => q3 q (by omega) (by omega)
  refine ⟨c', r', q1, w1, ⟨hT, q2.trans g1, g2, w2.trans g3, ht.cg (hc 2 (by omega)) (by rw [hc 1 (by omega)]) (w3 8 (by omega) (by omega)) (w4 14 (by omega)), by rw [w4 15 (by omega), hc 1 (by omega)]; exact hf, b1.cg hT (fun q _ _ => hc q (by omega)) (fun q _ _ => w3 q (by omega) (by omega)) (fun k _ => w4 k (by omega)), b2.cg hnp (fun o _ _ => hc _ (by omega)) (fun k _ => by rw [w3 7 (by omega) (by omega)]), ?_, b4.cg hnp (fun q _ _ => hc q (by omega)) (w3 22 (by omega) (by omega)) (w3 23 (by omega) (by omega)), by rw [w4 12 (by omega), hc 1 (by omega)]; exact ⟨hs1, hs2⟩, hsi.cg (fun q _ _ => hc q (by omega)) (fun q _ _ => w3 q (by omega) (by omega)) (w4 34 (by omega)), hb.cg (fun q _ _ => hc q (by omega)) (fun q _ _ => w3 q (by omega) (by omega)) (w4 38 (by omega))⟩, fun q hq => hc q (by omega), w3, w4⟩
  refine ⟨(x + 1) % 16, if m = 16 then 16 else m + 1, by omega, by split <;> omega, q5, q6, w5, fun j hj => ?_⟩
  by_cases h16 : m = 16
  · subst h16
    simp only [if_true] at hj w6 w7 ⊢
    by_cases h15 : j = 15
    · have e : pu_rp ((x + 1) % 16) 16 j = 30 + 10 * x := by unfold pu_rp; omega
      rw [e]
      refine b2.cp hnp q4 (fun k hk => ?_)
      rw [h15]; exact w6 k hk
    · have e : pu_rp ((x + 1) % 16) 16 j = pu_rp x 16 (j + 1) := by unfold pu_rp; omega
      rw [e]
      refine (x6 (j + 1) (by omega)).cg hnp (fun o _ _ => q3 _ ?_ ?_) (fun k hk => ?_)
      · unfold pu_rp; omega
      · unfold pu_rp; omega
      · show r'.1 14 (80 * j + k) = r.1 14 (80 * (j + 1) + k)
        rw [w7 _ (by omega), show 80 * j + k + 80 = 80 * (j + 1) + k by omega]
  · simp only [if_neg h16] at hj w6 w7 ⊢
    by_cases hjm : j = m
    · have e : pu_rp ((x + 1) % 16) (m + 1) j = 30 + 10 * x := by unfold pu_rp; omega
      rw [e]
      refine b2.cp hnp q4 (fun k hk => ?_)
      rw [hjm]; exact w6 k hk
    · have e : pu_rp ((x + 1) % 16) (m + 1) j = pu_rp x m j := by unfold pu_rp; omega
      rw [e]
      refine (x6 j (by omega)).cg hnp (fun o _ _ => q3 _ ?_ ?_) (fun k hk => ?_)
      · unfold pu_rp; omega
      · unfold pu_rp; omega
      · rw [w7 _ (by omega)]
