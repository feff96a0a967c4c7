/-! make -/
theorem qn_addInt {a : Nat} {b : Int32} (ha : a < 2 ^ 30) (h1 : -2 ^ 30 ≤ b.toInt) (h2 : b.toInt ≤ 2 ^ 30) : (nI a + b).toInt = a + b.toInt := by
  rw [Int32.toInt_add, nI_toInt (by omega)]
  exact Int.bmod_eq_of_le (by omega) (by omega)
theorem pu_St.things {h h' : Nat → Nat → Int32} {b lo np : Nat} {f f' : Nat → Int32} (H : pu_St h b f lo np) (hnp : np ≤ 6) (hh : ∀ o, 1 ≤ o → o ≤ 9 → o < 2 ∨ 6 < o → h' (b + o) = h (b + o)) (hf : ∀ k, k < 80 → k < 4 ∨ k = 5 ∨ 66 ≤ k → f' k = f k) (nt : Nat) (hn : nt ≤ 20) (r2 : h' (b + 2) 4 = nI nt ∧ f' 4 = nI nt) (rt : ∀ i, i < nt → pu_Th h' b f' i) : pu_St h' b f' lo np := by
  obtain ⟨L, y, nt0, nh, h1, ⟨a1, a2⟩, ⟨b1, b2, b3⟩, ⟨d1, d2⟩, ⟨e1, e2⟩, ⟨g1, g2⟩, ⟨k1, k2⟩, t1, t2, t3⟩ := H
  have e1' := hh 1 (by omega) (by omega) (by omega)
  have e7' := hh 7 (by omega) (by omega) (by omega)
  have e8' := hh 8 (by omega) (by omega) (by omega)
  have e9' := hh 9 (by omega) (by omega) (by omega)
  refine ⟨L, y, nt, nh, by omega, ⟨by rw [e1']; exact a1, by rw [hf 0 (by omega) (by omega)]; exact a2⟩, ⟨by rw [e1']; exact b1, by rw [e1']; exact b2, by rw [e1', hf 1 (by omega) (by omega)]; exact b3⟩, ⟨by rw [e1']; exact d1, by rw [e1', hf 2 (by omega) (by omega)]; exact d2⟩, ⟨by rw [e1']; exact e1, by rw [hf 3 (by omega) (by omega)]; exact e2⟩, r2, ⟨by rw [e7']; exact k1, by rw [hf 5 (by omega) (by omega)]; exact k2⟩, rt, fun i hi => ?_, fun p hp => ?_⟩
  · rw [e8', hf _ (by omega) (by omega)]; exact t2 i hi
  · rw [e9', hf _ (by omega) (by omega)]; exact t3 p hp
theorem ev_shiftT {r : pm_H} (v1 : Int32) (g3 : r.2 = lw_R0.2) (kx : pm_H → Option (Int32 × pm_H)) : ∃ r', fX12_makeNow_L13 lw_SR 1 v1 kx pm_fuel 1 r = kx r' ∧ r'.2 = r.2 ∧ (∀ q, q ≠ 7 → r'.1 q = r.1 q) ∧ (∀ k, k < 6 ∨ 66 ≤ k → r'.1 7 k = r.1 7 k) ∧ ∀ k, k < 19 → r'.1 7 (6 + k) = r.1 7 (6 + (k + 1)) ∧ r'.1 7 (26 + k) = r.1 7 (26 + (k + 1)) ∧ r'.1 7 (46 + k) = r.1 7 (46 + (k + 1)) := by
  have loop : ∀ k i n (s : pm_H), i + k = 20 → 1 ≤ i → k < n → s.2 = r.2 → (∀ q, q ≠ 7 → s.1 q = r.1 q) → (∀ k, k < 6 ∨ 66 ≤ k → s.1 7 k = r.1 7 k) → (∀ k, k + 1 < i → s.1 7 (6 + k) = r.1 7 (6 + (k + 1)) ∧ s.1 7 (26 + k) = r.1 7 (26 + (k + 1)) ∧ s.1 7 (46 + k) = r.1 7 (46 + (k + 1))) → (∀ k, i ≤ k → k < 20 → s.1 7 (6 + k) = r.1 7 (6 + k) ∧ s.1 7 (26 + k) = r.1 7 (26 + k) ∧ s.1 7 (46 + k) = r.1 7 (46 + k)) → ∃ r', fX12_makeNow_L13 lw_SR 1 v1 kx n (nI i) s = kx r' ∧ r'.2 = r.2 ∧ (∀ q, q ≠ 7 → r'.1 q = r.1 q) ∧ (∀ k, k < 6 ∨ 66 ≤ k → r'.1 7 k = r.1 7 k) ∧ ∀ k, k < 19 → r'.1 7 (6 + k) = r.1 7 (6 + (k + 1)) ∧ r'.1 7 (26 + k) = r.1 7 (26 + (k + 1)) ∧ r'.1 7 (46 + k) = r.1 7 (46 + (k + 1)) := by
    intro k
    induction k with
    | zero =>
      intro i n s hi h1 hn h2 hq h5 h6 h7
      obtain ⟨n, rfl⟩ : ∃ z, n = z + 1 := ⟨n - 1, by omega⟩
      have hi : i = 20 := by omega
      subst hi
      have e : (20 : Int32) ≤ nI 20 := by decide
      exact ⟨s, by rw [fX12_makeNow_L13, if_pos e], h2, hq, h5, fun k hk => h6 k (by omega)⟩
    | succ k ih =>
      intro i n s hi h1 hn h2 hq h5 h6 h7
      obtain ⟨n, rfl⟩ : ∃ z, n = z + 1 := ⟨n - 1, by omega⟩
      have e : ¬ (20 : Int32) ≤ nI i := fun z => by have := (qn_le_iff (a := 20) (by omega) (by omega)).mp z; omega
      have i1 : ∀ o, o ≤ 46 → pm_ib (nI (o + i)) 80 = true := fun o ho => pm_ib_nI (by omega) (by omega)
      have c1 : ∀ o, o ≤ 46 → (nI (o + i)).toNatClampNeg = o + i := fun o ho => nI_clamp (by omega)
      have e1 : ∀ o, nI (o + i) - 1 = nI (o + (i - 1)) := fun o => (qn_sub (b := 1) (by omega)).trans (by congr 1; omega)
      have i2 : ∀ o, o ≤ 46 → pm_ib (nI (o + (i - 1))) 80 = true := fun o ho => pm_ib_nI (by omega) (by omega)
      have c2 : ∀ o, o ≤ 46 → (nI (o + (i - 1))).toNatClampNeg = o + (i - 1) := fun o ho => nI_clamp (by omega)
      have h3 : s.2 = lw_R0.2 := h2.trans g3
      rw [fX12_makeNow_L13, if_neg e]
      simp only [h3, lgR, lenR, nL, e1, i1 6 (by omega), i1 26 (by omega), i1 46 (by omega), i2 6 (by omega), i2 26 (by omega), i2 46 (by omega), c1 6 (by omega), c1 26 (by omega), c1 46 (by omega), c2 6 (by omega), c2 26 (by omega), c2 46 (by omega), if_true, pm_let, pm_si_2]
      obtain ⟨w1, w2, w3⟩ := h7 i (by omega) (by omega)
      refine ih (i + 1) n _ (by omega) (by omega) (by omega) h2 (fun q hq2 => by rw [pm_si_row hq2, pm_si_row hq2, pm_si_row hq2]; exact hq q hq2) (fun k hk => by rw [pm_si_ne (by omega), pm_si_ne (by omega), pm_si_ne (by omega)]; exact h5 k hk) (fun k hk => ?_) (fun k hk1 hk2 => ?_)
      · by_cases hji : k = i - 1
        · subst hji
          rw [show i - 1 + 1 = i by omega]
          refine ⟨?_, ?_, ?_⟩
          · rw [pm_si_ne (by omega), pm_si_ne (by omega), pm_si_same]; exact w1
          · rw [pm_si_ne (by omega), pm_si_same, pm_si_ne (by omega)]; exact w2
          · rw [pm_si_same, pm_si_ne (by omega), pm_si_ne (by omega)]; exact w3
        · rw [pm_si_ne (by omega), pm_si_ne (by omega), pm_si_ne (by omega), pm_si_ne (by omega), pm_si_ne (by omega), pm_si_ne (by omega), pm_si_ne (by omega), pm_si_ne (by omega), pm_si_ne (by omega)]
          exact h6 k (by omega)
      · rw [pm_si_ne (by omega), pm_si_ne (by omega), pm_si_ne (by omega), pm_si_ne (by omega), pm_si_ne (by omega), pm_si_ne (by omega), pm_si_ne (by omega), pm_si_ne (by omega), pm_si_ne (by omega)]
        exact h7 k (by omega) (by omega)
  exact loop 19 1 pm_fuel r (by omega) (by omega) (by unfold pm_fuel; omega) rfl (fun _ _ => rfl) (fun _ _ => rfl) (fun j hj => by omega) (fun _ _ _ => ⟨rfl, rfl, rfl⟩)
theorem cp1 {f g : Nat → Int32} {j : Nat} (h : j < 19) : va_cpy f g 1 0 19 j = f (j + 1) := by
  rw [pk_cpy_in (by omega) (by omega)]
  congr 1
  omega
theorem cbS1 : pm_cb 1 0 19 20 20 = true := by decide
theorem cl19 : Int32.toNatClampNeg (19 : Int32) = 19 := by decide
theorem ev_loseC {c : pm_H} {T l : Nat} (g1 : c.2 = lgC T l) : ∃ c', fX10_loseEarliest lw_SC 19 c = some c' ∧ c'.2 = c.2 ∧ (∀ q, q < 19 ∨ 23 < q → c'.1 q = c.1 q) ∧ c'.1 19 4 = nI 19 ∧ ∀ i, i < 19 → c'.1 20 i = c.1 20 (i + 1) ∧ c'.1 21 i = c.1 21 (i + 1) ∧ c'.1 22 i = c.1 22 (i + 1) ∧ c'.1 23 i = c.1 23 (i + 1) := by
  simp only [fX10_loseEarliest, g1, lgS, lenS, cbS1, if_true, pm_let, cl6, cl19, pm_sa_2]
  refine ⟨_, rfl, g1, fun q hq => ?_, pm_si_same, fun i hi => ⟨?_, ?_, ?_, ?_⟩⟩
  · rw [pm_si_row (by omega), pm_sa_row (by omega), pm_sa_row (by omega), pm_sa_row (by omega), pm_sa_row (by omega)]
  · rw [pm_si_row (by omega), pm_sa_row (by omega), pm_sa_row (by omega), pm_sa_row (by omega), pm_sa_same, cp1 hi]
  · rw [pm_si_row (by omega), pm_sa_row (by omega), pm_sa_row (by omega), pm_sa_same, cp1 hi, pm_sa_row (by omega)]
  · rw [pm_si_row (by omega), pm_sa_row (by omega), pm_sa_same, cp1 hi, pm_sa_row (by omega), pm_sa_row (by omega)]
  · rw [pm_si_row (by omega), pm_sa_same, cp1 hi, pm_sa_row (by omega), pm_sa_row (by omega), pm_sa_row (by omega)]
/-- the earliest lost on both sides -/
theorem ev_lose20 {c r : pm_H} {T l lo np : Nat} (v1 : Int32) (H : pu_R c r T l lo np) (e : c.1 19 4 = nI 20) : ∃ c' r', fX10_loseEarliest lw_SC 19 c = some c' ∧ fX12_makeNow lw_SR 1 v1 r = fX12_makeNow_J95 lw_SR 1 v1 r' ∧ pu_R c' r' T l lo np ∧ c'.1 19 4 = nI 19 ∧ c'.1 18 = c.1 18 ∧ c'.1 1 = c.1 1 ∧ r'.1 1 = r.1 1 := by
  obtain ⟨hT, g1, g2, g3, ht, hf, b1, b2, b3, b4, hs, hsi, hb⟩ := id H
  have hnp := b1.np
  obtain ⟨c', q1, q2, q3, q4, q5⟩ := ev_loseC g1
  obtain ⟨r', w1, w2, w3, w4, w5⟩ := ev_shiftT (r := r) v1 g3 (fun s46 => (if pm_ib (4 : Int32) (pm_len lw_SR (s46.2 1 11)) = true then (if pm_ib (4 : Int32) (pm_len lw_SR (s46.2 1 11)) = true then pm_let (pm_si s46 (s46.2 1 11) ((4 : Int32)).toNatClampNeg ((s46.1 (s46.2 1 11) ((4 : Int32)).toNatClampNeg) - (1 : Int32))) fun s50 => fX12_makeNow_J95 lw_SR 1 v1 s50 else none) else none))
  have w2' := w2.trans g3
  obtain ⟨L, y, nt, nh, k0, -, -, -, -, ⟨k1, k2⟩, -, k3, -⟩ := id b2
  simp only [Nat.reduceAdd] at k1
  have hnt : nt = 20 := (qn_inj (by omega) (by omega)).mp (k1.symm.trans e)
  subst hnt
  have e20 : nI 20 - 1 = nI 19 := by decide
  have k2' : r'.1 7 4 = nI 20 := by rw [w4 4 (by omega)]; exact k2
  refine ⟨c', pm_si r' 7 4 (nI 19), q1, ?_, H.now q2 w2 (fun q _ hq => q3 q (by omega)) (fun k _ => by rw [q3 1 (by omega)]) (fun q _ hq => by rw [pm_si_row hq, w3 q hq]) (fun k _ => by rw [pm_si_row (by omega), w3 1 (by omega)]) (by rw [pm_si_row (by omega), w3 1 (by omega), q3 1 (by omega)]; exact hs) (b2.things hnp (fun o _ _ ho => q3 _ (by omega)) (fun k _ hk => by rw [pm_si_ne (by omega), w4 k (by omega)]) 19 (by omega) ⟨q4, pm_si_same⟩ (fun i hi => ?_)), q4, q3 18 (by omega), q3 1 (by omega), by rw [pm_si_row (by omega), w3 1 (by omega)]⟩
  · simp only [cl6, pm_let, w2', lgR, lenR, ib80, if_true, k2', e20] at w1
    simp only [fX12_makeNow, g3, lgR, lenR, ib80, cl6, if_true, k2, if_pos (show nI 20 = 20 from rfl), pm_let]
    rw [w1]
  · obtain ⟨fe, tw, yy, h1, ⟨a1, a2, a3⟩, ⟨b1, b2, b3⟩, d1, d2⟩ := k3 (i + 1) (by omega)
    simp only [Nat.reduceAdd] at a1 a2 b1 b2 b3 d1
    obtain ⟨p1, p2, p3, p4⟩ := q5 i hi
    obtain ⟨p5, p6, p7⟩ := w5 i hi
    refine ⟨fe, tw, yy, h1, ⟨p2.trans a1, p3.trans a2, ?_⟩, ⟨?_, ?_, ?_⟩, p4.trans d1, ?_⟩
    · rw [pm_si_ne (by omega), p6]; exact a3
    · show (pm_si r' 7 4 (nI 19)).1 7 (6 + i) = c'.1 20 i
      rw [pm_si_ne (by omega), p5, p1]; exact b1
    · show -9999 ≤ (c'.1 20 i).toInt
      rw [p1]; exact b2
    · show (c'.1 20 i).toInt ≤ 9999
      rw [p1]; exact b3
    · rw [pm_si_ne (by omega), p7]; exact d2

theorem ev_put {c r : pm_H} {T l lo np nt n m y : Nat} {v : Int32} (H : pu_R c r T l lo np) (hnt : nt ≤ 19) (e : c.1 19 4 = nI nt) (hn : n ≤ 20) (hm : m ≤ 11) (hy : y ≤ 9060) (ey : c.1 18 3 = nI y) (hv : v = r.1 7 0 * nI (12 * n + m) / 12 + r.1 7 1) (hv1 : -9999 ≤ v.toInt) (hv2 : v.toInt ≤ 9999) : ∃ c' r', fX10_add_J13 lw_SC 19 v (nI n) (nI m) (nI y) c = some c' ∧ fX12_makeNow_J95 lw_SR 1 (nI (12 * n + m)) r = some (v, r') ∧ pu_R c' r' T l lo np ∧ c'.1 18 = c.1 18 ∧ c'.1 1 = c.1 1 ∧ r'.1 1 = r.1 1 := by
  obtain ⟨hT, g1, g2, g3, ht, hf, b1, b2, b3, b4, hs, hsi, hb⟩ := id H
  have hnp := b1.np
  obtain ⟨L, y', nt', nh, k0, -, -, -, ⟨k5, k6⟩, ⟨k1, k2⟩, -, k3, -⟩ := id b2
  simp only [Nat.reduceAdd] at k1 k5
  have h1 : nt' = nt := (qn_inj (by omega) (by omega)).mp (k1.symm.trans e)
  subst h1
  have h2 : y' = y := (qn_inj (by omega) (by omega)).mp (k5.symm.trans ey)
  subst h2
  have i0 : pm_ib (nI nt') 20 = true := pm_ib_nI (by omega) (by omega)
  have c0 : (nI nt').toNatClampNeg = nt' := nI_clamp (by omega)
  have i1 : ∀ o, o ≤ 46 → pm_ib (nI (o + nt')) 80 = true := fun o ho => pm_ib_nI (by omega) (by omega)
  have c1 : ∀ o, o ≤ 46 → (nI (o + nt')).toNatClampNeg = o + nt' := fun o ho => nI_clamp (by omega)
  have a1 : ∀ q k x, q = 20 ∨ q = 21 ∨ q = 22 ∨ q = 23 → ∀ s : pm_H, (pm_si s q k x).1 19 4 = s.1 19 4 := fun q k x hq s => by rw [pm_si_row (by omega)]
  have a2 : ∀ k x, 6 ≤ k → ∀ s : pm_H, (pm_si s 7 k x).1 7 4 = s.1 7 4 := fun k x hk s => pm_si_ne (by omega)
  have a3 : ∀ k x, 6 ≤ k → ∀ s : pm_H, (pm_si s 7 k x).1 7 3 = s.1 7 3 := fun k x hk s => pm_si_ne (by omega)
  refine ⟨pm_si (pm_si (pm_si (pm_si (pm_si c 20 nt' v) 21 nt' (nI n)) 22 nt' (nI m)) 23 nt' (nI y')) 19 4 (nI (nt' + 1)), pm_si (pm_si (pm_si (pm_si r 7 (6 + nt') v) 7 (26 + nt') (nI (12 * n + m))) 7 (46 + nt') (nI y')) 7 4 (nI (nt' + 1)), ?_, ?_, H.now rfl rfl (fun q _ hq => by rw [pm_si_row (by omega), pm_si_row (by omega), pm_si_row (by omega), pm_si_row (by omega), pm_si_row (by omega)]) (fun k _ => by rw [pm_si_row (by omega), pm_si_row (by omega), pm_si_row (by omega), pm_si_row (by omega), pm_si_row (by omega)]) (fun q _ hq => by rw [pm_si_row hq, pm_si_row hq, pm_si_row hq, pm_si_row hq]) (fun k _ => by rw [pm_si_row (by omega), pm_si_row (by omega), pm_si_row (by omega), pm_si_row (by omega)]) (by rw [pm_si_row (by omega), pm_si_row (by omega), pm_si_row (by omega), pm_si_row (by omega), pm_si_row (by omega), pm_si_row (by omega), pm_si_row (by omega), pm_si_row (by omega), pm_si_row (by omega)]; exact hs) (b2.things hnp (fun o _ _ ho => by rw [pm_si_row (by omega), pm_si_row (by omega), pm_si_row (by omega), pm_si_row (by omega), pm_si_row (by omega)]) (fun k _ hk => by rw [pm_si_ne (by omega), pm_si_ne (by omega), pm_si_ne (by omega), pm_si_ne (by omega)]) (nt' + 1) (by omega) ⟨pm_si_same, pm_si_same⟩ (fun i hi => ?_)), by rw [pm_si_row (by omega), pm_si_row (by omega), pm_si_row (by omega), pm_si_row (by omega), pm_si_row (by omega)], by rw [pm_si_row (by omega), pm_si_row (by omega), pm_si_row (by omega), pm_si_row (by omega), pm_si_row (by omega)], by rw [pm_si_row (by omega), pm_si_row (by omega), pm_si_row (by omega), pm_si_row (by omega)]⟩
  · simp only [fX10_add_J13, g1, lgS, lenS, pm_let, pm_si_2, e, i0, c0, if_true, a1 20 _ _ (by omega), a1 21 _ _ (by omega), a1 22 _ _ (by omega), a1 23 _ _ (by omega), (nL nt').2.2.2.2.2.2]
  · simp only [fX12_makeNow_J95, fX12_madeBy, g3, lgR, lenR, ib80, cl6, if_true, Option.bind_some, pm_let, pm_si_2, ← hv, k2, nL, i1 6 (by omega), i1 26 (by omega), i1 46 (by omega), c1 6 (by omega), c1 26 (by omega), c1 46 (by omega), a2 (6 + nt') _ (by omega), a2 (26 + nt') _ (by omega), a2 (46 + nt') _ (by omega), a3 (6 + nt') _ (by omega), a3 (26 + nt') _ (by omega), k6]
  · by_cases hin : i = nt'
    · subst hin
      refine ⟨n, m, y', by omega, ⟨?_, ?_, ?_⟩, ⟨?_, ?_, ?_⟩, ?_, ?_⟩ <;> try simp only [Nat.reduceAdd]
      · rw [pm_si_row (by omega), pm_si_row (by omega), pm_si_row (by omega), pm_si_same]
      · rw [pm_si_row (by omega), pm_si_row (by omega), pm_si_same]
      · rw [pm_si_ne (by omega), pm_si_ne (by omega), pm_si_same]
      · rw [pm_si_ne (by omega), pm_si_ne (by omega), pm_si_ne (by omega), pm_si_same, pm_si_row (by omega), pm_si_row (by omega), pm_si_row (by omega), pm_si_row (by omega), pm_si_same]
      · rw [pm_si_row (by omega), pm_si_row (by omega), pm_si_row (by omega), pm_si_row (by omega), pm_si_same]; exact hv1
      · rw [pm_si_row (by omega), pm_si_row (by omega), pm_si_row (by omega), pm_si_row (by omega), pm_si_same]; exact hv2
      · rw [pm_si_row (by omega), pm_si_same]
      · rw [pm_si_ne (by omega), pm_si_same]
    · obtain ⟨fe, tw, yy, h1, ⟨a1, a2, a3⟩, ⟨b1, b2, b3⟩, d1, d2⟩ := k3 i (by omega)
      simp only [Nat.reduceAdd] at a1 a2 b1 b2 b3 d1
      have z : ∀ q, 20 ≤ q → q ≤ 23 → (pm_si (pm_si (pm_si (pm_si (pm_si c 20 nt' v) 21 nt' (nI n)) 22 nt' (nI m)) 23 nt' (nI y')) 19 4 (nI (nt' + 1))).1 q i = c.1 q i := fun q _ _ => by rw [pm_si_ne (by omega), pm_si_ne (by omega), pm_si_ne (by omega), pm_si_ne (by omega), pm_si_ne (by omega)]
      have z2 : ∀ o, o = 6 ∨ o = 26 ∨ o = 46 → (pm_si (pm_si (pm_si (pm_si r 7 (6 + nt') v) 7 (26 + nt') (nI (12 * n + m))) 7 (46 + nt') (nI y')) 7 4 (nI (nt' + 1))).1 7 (o + i) = r.1 7 (o + i) := fun o _ => by rw [pm_si_ne (by omega), pm_si_ne (by omega), pm_si_ne (by omega), pm_si_ne (by omega)]
      refine ⟨fe, tw, yy, h1, ⟨?_, ?_, ?_⟩, ⟨?_, ?_, ?_⟩, ?_, ?_⟩ <;> try simp only [Nat.reduceAdd]
      · rw [z 21 (by omega) (by omega)]; exact a1
      · rw [z 22 (by omega) (by omega)]; exact a2
      · rw [z2 26 (by omega)]; exact a3
      · rw [z2 6 (by omega), z 20 (by omega) (by omega)]; exact b1
      · rw [z 20 (by omega) (by omega)]; exact b2
      · rw [z 20 (by omega) (by omega)]; exact b3
      · rw [z 23 (by omega) (by omega)]; exact d1
      · rw [z2 46 (by omega)]; exact d2
theorem ev_makeB {c r : pm_H} {T l lo np n m : Nat} (H : pu_R c r T l lo np) (hn : n ≤ 20) (hm : m ≤ 11) : ∃ v c' r', fX8_produce lw_SC 17 (nI n) (nI m) c = some (v, c') ∧ fX12_makeNow lw_SR 1 (nI (12 * n + m)) r = some (v, r') ∧ pu_R c' r' T l lo np ∧ c'.1 18 = c.1 18 ∧ c'.1 1 = c.1 1 ∧ r'.1 1 = r.1 1 := by
  obtain ⟨hT, g1, g2, g3, ht, hf, b1, b2, b3, b4, hs, hsi, hb⟩ := id H
  obtain ⟨L, y, nt, nh, k0, ⟨a1, a2⟩, ⟨v1, v2, v3⟩, -, ⟨k5, k6⟩, ⟨k1, k2⟩, -, k3, -⟩ := id b2
  simp only [Nat.reduceAdd] at k1 k5 a1 v1 v2 v3
  obtain ⟨v, hv⟩ : ∃ v, v = nI L * nI (12 * n + m) / 12 + c.1 18 1 := ⟨_, rfl⟩
  have hb1 : L * (12 * n + m) ≤ 240 * 251 := Nat.mul_le_mul (by omega) (by omega)
  have hvt : v.toInt = (L * (12 * n + m) / 12 : Nat) + (c.1 18 1).toInt := by
    rw [hv, qn_mul, qn_div12 (by omega), qn_addInt (by omega) (by omega) (by omega)]
  have e12 : (12 : Int32) * nI n + nI m = nI (12 * n + m) := by rw [show (12 : Int32) = nI 12 from rfl, qn_mul, qn_add]
  by_cases h20 : nt = 20
  · subst h20
    have e20 : ¬ nI 20 < 20 := by decide
    obtain ⟨c1, r1, q1, q2, H1, q3, q4, q5, q6⟩ := ev_lose20 (nI (12 * n + m)) H k1
    obtain ⟨-, -, -, -, -, -, -, b21, -⟩ := id H1
    obtain ⟨L', y', nt', nh', -, ⟨a1', a2'⟩, ⟨-, -, v3'⟩, -⟩ := id b21
    simp only [Nat.reduceAdd] at a1' v3'
    have hr0 : r1.1 7 0 = nI L := by rw [a2', ← a1', q4, a1]
    have hr1 : r1.1 7 1 = c.1 18 1 := by rw [v3', q4]
    obtain ⟨c', r', w1, w2, w3, w4, w5, w6⟩ := ev_put (n := n) (m := m) (y := y) (v := v) H1 (nt := 19) (by omega) q3 hn hm (by omega) (by rw [q4]; exact k5) (by rw [hr0, hr1]; exact hv) (by omega) (by omega)
    refine ⟨v, c', r', ?_, q2.trans w2, w3, w4.trans q4, w5.trans q5, w6.trans q6⟩
    simp only [fX8_produce, fX10_span, g1, lgS, a1, Option.bind_some, pm_let, e12, ← hv, fX10_add, k1, if_neg e20, q1, k5, w1]
  · have e20 : nI nt < 20 := (qn_lt_iff (b := 20) (by omega) (by omega)).mpr (by omega)
    have e20' : ¬ nI nt = 20 := fun z => by have := (qn_inj (b := 20) (by omega) (by omega)).mp z; omega
    obtain ⟨c', r', w1, w2, w3, w4, w5, w6⟩ := ev_put (n := n) (m := m) (y := y) (v := v) H (nt := nt) (by omega) k1 hn hm (by omega) k5 (by rw [a2, v3]; exact hv) (by omega) (by omega)
    refine ⟨v, c', r', ?_, ?_, w3, w4, w5, w6⟩
    · simp only [fX8_produce, fX10_span, g1, lgS, a1, Option.bind_some, pm_let, e12, ← hv, fX10_add, k1, if_pos e20, k5, w1]
    · simp only [fX12_makeNow, g3, lgR, lenR, ib80, cl6, if_true, k2, if_neg e20', w2]
theorem pu_make : pu_2 pu_Rel fX11_make fX12_make := by
  intro c r h a a2
  obtain ⟨T, l, lo, np, H⟩ := id h
  obtain ⟨n1, n2⟩ := ev_canUse H
  rcases pu_w01 a 0 20 with hw | hw
  · exact pu_ro h (-1000000002) (by simp [fX11_make, ev_within, hw]) (by simp [fX12_make, evI, hw])
  rcases pu_w01 a2 0 11 with hw2 | hw2
  · exact pu_ro h (-1000000002) (by simp [fX11_make, ev_within, hw, hw2]) (by simp [fX12_make, evI, hw, hw2])
  by_cases hlo : lo = 0
  · exact pu_ro h (-1000000003) (by simp [fX11_make, ev_within, hw, hw2, n1, hlo]) (by simp [fX12_make, evI, hw, hw2, n2, hlo])
  by_cases hz : c.1 18 2 = 0
  · have wl := pu_w_lit hw
    obtain ⟨n, rfl, ⟨hn1, hn2⟩, hn3⟩ := qn_of (lo := 0) (hi := 20) (by omega) (by simpa using wl.1) (by simpa using wl.2)
    have wl2 := pu_w_lit hw2
    obtain ⟨m, rfl, ⟨hm1, hm2⟩, hm3⟩ := qn_of (lo := 0) (hi := 11) (by omega) (by simpa using wl2.1) (by simpa using wl2.2)
    have e12 : (12 : Int32) * nI n + nI m = nI (12 * n + m) := by rw [show (12 : Int32) = nI 12 from rfl, qn_mul, qn_add]
    obtain ⟨c1, r1, q1, q2, H1, q3, q4, q5⟩ := ev_rem H
    have g1 := H.2.1
    have g1' := H1.2.1
    obtain ⟨v, c', r', w1, w2, w3, -⟩ := ev_makeB (n := n) (m := m) H1 (by omega) (by omega)
    refine ⟨v + 1000, c', r', ?_, ?_, T, l, lo, np, w3⟩
    · simp [fX11_make, ev_within, hw, hw2, n1, hlo, hz, g1, g1', lgS, q1, w1]
    · simp [fX12_make, evI, hw, hw2, n2, hlo, hz, q2, e12, w2]
  · exact pu_ro h (-1000000003) (by simp [fX11_make, ev_within, hw, hw2, n1, hlo, hz]) (by simp [fX12_make, evI, hw, hw2, n2, hlo, hz])
