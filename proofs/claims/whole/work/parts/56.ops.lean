/-! realm: what was read becomes the realm -/
theorem ev_copyRow {a b k la lb : Nat} {r : pm_H} (hab : a ≠ b) (hla : pm_len lw_SR a = la) (hlb : pm_len lw_SR b = lb) (ha : k ≤ la) (hb : k ≤ lb) (hk : k ≤ 20) : ∃ r', fX12_copyRow lw_SR a b (nI k) r = some r' ∧ r'.2 = r.2 ∧ (∀ q, q ≠ b → r'.1 q = r.1 q) ∧ ∀ i, i < k → r'.1 b i = r.1 a i := by
  have loop : ∀ n i m (s : pm_H), i + n = k → n < m → s.2 = r.2 → (∀ q, q ≠ b → s.1 q = r.1 q) → (∀ j, j < i → s.1 b j = r.1 a j) → ∃ r', fX12_copyRow_L2 lw_SR a b (nI k) (fun s5 => some s5) m (nI i) s = some r' ∧ r'.2 = r.2 ∧ (∀ q, q ≠ b → r'.1 q = r.1 q) ∧ ∀ i, i < k → r'.1 b i = r.1 a i := by
    intro n
    induction n with
    | zero =>
      intro i m s hi hm a1 a2 a3
      obtain ⟨m, rfl⟩ : ∃ z, m = z + 1 := ⟨m - 1, by omega⟩
      have hik : i = k := by omega
      subst hik
      exact ⟨s, by rw [fX12_copyRow_L2, if_pos (Int32.le_refl _)], a1, a2, a3⟩
    | succ n ih =>
      intro i m s hi hm a1 a2 a3
      obtain ⟨m, rfl⟩ : ∃ z, m = z + 1 := ⟨m - 1, by omega⟩
      have e0 : ¬ nI k ≤ nI i := fun z => by have := (qn_le_iff (by omega) (by omega)).mp z; omega
      have i1 : pm_ib (nI i) la = true := by
        simp only [pm_ib, Bool.and_eq_true, Bool.not_eq_true', decide_eq_false_iff_not, decide_eq_true_eq]
        exact ⟨nI_pos (by omega), by rw [nI_clamp (by omega)]; omega⟩
      have i2 : pm_ib (nI i) lb = true := by
        simp only [pm_ib, Bool.and_eq_true, Bool.not_eq_true', decide_eq_false_iff_not, decide_eq_true_eq]
        exact ⟨nI_pos (by omega), by rw [nI_clamp (by omega)]; omega⟩
      have c1 : (nI i).toNatClampNeg = i := nI_clamp (by omega)
      obtain ⟨r', y1, y2⟩ := ih (i + 1) m (pm_si s b i (s.1 a i)) (by omega) (by omega) a1 (fun q hq => by rw [pm_si_row hq]; exact a2 q hq) (fun j hj => by
        by_cases e : j = i
        · subst e; rw [pm_si_same, a2 a hab]
        · rw [pm_si_ne (by omega)]; exact a3 j (by omega))
      refine ⟨r', ?_, y2⟩
      rw [fX12_copyRow_L2, if_neg e0]
      simp only [hla, hlb, i1, i2, c1, if_true, pm_let, (nL i).2.2.2.2.2.2]
      exact y1
  exact loop k 0 pm_fuel r (by omega) (by unfold pm_fuel; omega) rfl (fun _ _ => rfl) (fun j hj => absurd hj (Nat.not_lt_zero _))
theorem ev_zero7 {r : pm_H} (g3 : r.2 = lw_R0.2) : ∃ r', (∀ kx, fX12_takeRead_L125 lw_SR 1 kx pm_fuel 0 r = kx r') ∧ r'.2 = r.2 ∧ (∀ q, q ≠ 7 → r'.1 q = r.1 q) ∧ ∀ k, k < 80 → r'.1 7 k = 0 := by
  have loop : ∀ n i m (s : pm_H), i + n = 80 → n < m → s.2 = r.2 → (∀ q, q ≠ 7 → s.1 q = r.1 q) → (∀ j, j < i → s.1 7 j = 0) → ∃ r', (∀ kx, fX12_takeRead_L125 lw_SR 1 kx m (nI i) s = kx r') ∧ r'.2 = r.2 ∧ (∀ q, q ≠ 7 → r'.1 q = r.1 q) ∧ ∀ k, k < 80 → r'.1 7 k = 0 := by
    intro n
    induction n with
    | zero =>
      intro i m s hi hm a1 a2 a3
      obtain ⟨m, rfl⟩ : ∃ z, m = z + 1 := ⟨m - 1, by omega⟩
      have hik : i = 80 := by omega
      subst hik
      exact ⟨s, fun kx => by rw [fX12_takeRead_L125, if_pos (by decide)], a1, a2, a3⟩
    | succ n ih =>
      intro i m s hi hm a1 a2 a3
      obtain ⟨m, rfl⟩ : ∃ z, m = z + 1 := ⟨m - 1, by omega⟩
      have e0 : ¬ (80 : Int32) ≤ nI i := fun z => by have := (qn_le_iff (a := 80) (by omega) (by omega)).mp z; omega
      have i1 : pm_ib (nI i) 80 = true := pm_ib_nI (by omega) (by omega)
      have c1 : (nI i).toNatClampNeg = i := nI_clamp (by omega)
      have a1' : s.2 = lw_R0.2 := a1.trans g3
      obtain ⟨r', y1, y2⟩ := ih (i + 1) m (pm_si s 7 i 0) (by omega) (by omega) a1 (fun q hq => by rw [pm_si_row hq]; exact a2 q hq) (fun j hj => by
        by_cases e : j = i
        · subst e; rw [pm_si_same]
        · rw [pm_si_ne (by omega)]; exact a3 j (by omega))
      refine ⟨r', fun kx => ?_, y2⟩
      rw [← y1 kx, fX12_takeRead_L125, if_neg e0]
      simp only [a1', lgR, lenR, i1, c1, if_true, pm_let, (nL i).2.2.2.2.2.2]
  exact loop 80 0 pm_fuel r (by omega) (by unfold pm_fuel; omega) rfl (fun _ _ => rfl) (fun j hj => absurd hj (Nat.not_lt_zero _))
theorem ev_tall7 {r : pm_H} {np : Nat} (g3 : r.2 = lw_R0.2) (hnp : np ≤ 6) (e7 : r.1 1 7 = nI np) : ∃ r', fX12_takeRead_L156 lw_SR 1 (fun s36 => some s36) pm_fuel 0 r = some r' ∧ r'.2 = r.2 ∧ (∀ q, q ≠ 7 → r'.1 q = r.1 q) ∧ (∀ k, k < 74 → r'.1 7 k = r.1 7 k) ∧ ∀ p, p < np → r'.1 7 (74 + p) = r.1 5 p := by
  have loop : ∀ n i m (s : pm_H), i + n = np → n < m → s.2 = r.2 → (∀ q, q ≠ 7 → s.1 q = r.1 q) → (∀ k, k < 74 → s.1 7 k = r.1 7 k) → (∀ j, j < i → s.1 7 (74 + j) = r.1 5 j) → ∃ r', fX12_takeRead_L156 lw_SR 1 (fun s36 => some s36) m (nI i) s = some r' ∧ r'.2 = r.2 ∧ (∀ q, q ≠ 7 → r'.1 q = r.1 q) ∧ (∀ k, k < 74 → r'.1 7 k = r.1 7 k) ∧ ∀ p, p < np → r'.1 7 (74 + p) = r.1 5 p := by
    intro n
    induction n with
    | zero =>
      intro i m s hi hm a1 a2 a4 a3
      obtain ⟨m, rfl⟩ : ∃ z, m = z + 1 := ⟨m - 1, by omega⟩
      have hik : i = np := by omega
      subst hik
      exact ⟨s, by rw [fX12_takeRead_L156, a2 1 (by omega), e7, if_pos (Int32.le_refl _)], a1, a2, a4, a3⟩
    | succ n ih =>
      intro i m s hi hm a1 a2 a4 a3
      obtain ⟨m, rfl⟩ : ∃ z, m = z + 1 := ⟨m - 1, by omega⟩
      have e0 : ¬ nI np ≤ nI i := fun z => by have := (qn_le_iff (by omega) (by omega)).mp z; omega
      have i1 : pm_ib (nI i) 6 = true := pm_ib_nI (by omega) (by omega)
      have c1 : (nI i).toNatClampNeg = i := nI_clamp (by omega)
      have i2 : pm_ib (nI (74 + i)) 80 = true := pm_ib_nI (by omega) (by omega)
      have c2 : (nI (74 + i)).toNatClampNeg = 74 + i := nI_clamp (by omega)
      have a1' : s.2 = lw_R0.2 := a1.trans g3
      obtain ⟨r', y1, y2⟩ := ih (i + 1) m (pm_si s 7 (74 + i) (s.1 5 i)) (by omega) (by omega) a1 (fun q hq => by rw [pm_si_row hq]; exact a2 q hq) (fun k hk => by rw [pm_si_ne (by omega)]; exact a4 k hk) (fun j hj => by
        by_cases e : j = i
        · subst e; rw [pm_si_same, a2 5 (by omega)]
        · rw [pm_si_ne (by omega)]; exact a3 j (by omega))
      refine ⟨r', ?_, y2⟩
      have s7 : s.1 1 7 = nI np := by rw [a2 1 (by omega)]; exact e7
      rw [fX12_takeRead_L156, s7, if_neg e0]
      simp only [a1', lgR, lenR, i1, c1, (nL i).2.2.2.2.2.1, i2, c2, if_true, pm_let, (nL i).2.2.2.2.2.2]
      exact y1
  exact loop np 0 pm_fuel r (by omega) (by unfold pm_fuel; omega) rfl (fun _ _ => rfl) (fun _ _ => rfl) (fun j hj => absurd hj (Nat.not_lt_zero _))
theorem ev_takeRead {r : pm_H} {L kn ko np ks : Nat} (g3 : r.2 = lw_R0.2) (h19 : r.1 1 19 = nI L) (h21 : r.1 1 21 = nI kn) (h23 : r.1 1 23 = nI ko) (h26 : r.1 1 26 = nI np) (h28 : r.1 1 28 = nI ks) (bn : kn ≤ 5) (bo : ko ≤ 6) (bp : np ≤ 6) (bs : ks ≤ 12) : ∃ r', fX12_takeRead lw_SR 1 r = some r' ∧ r'.2 = r.2 ∧ (∀ q, q = 0 ∨ 7 < q → r'.1 q = r.1 q) ∧ (∀ k, 10 ≤ k → r'.1 1 k = r.1 1 k) ∧ (r'.1 1 0 = nI L ∧ r'.1 1 1 = r.1 1 20 ∧ r'.1 1 2 = nI kn ∧ r'.1 1 4 = nI ko ∧ r'.1 1 7 = nI np ∧ r'.1 1 9 = nI ks) ∧ (∀ i, i < kn → r'.1 2 i = r.1 9 i) ∧ (∀ i, i < ko → r'.1 3 i = r.1 10 i ∧ r'.1 4 i = r.1 11 i) ∧ (∀ i, i < ks → r'.1 6 i = r.1 13 i) ∧ r'.1 7 0 = nI L ∧ (∀ k, 1 ≤ k → k < 74 → r'.1 7 k = 0) ∧ ∀ p, p < np → r'.1 7 (74 + p) = r.1 12 p := by
  obtain ⟨s, hs⟩ : ∃ s, s = pm_si (pm_si (pm_si (pm_si (pm_si (pm_si r 1 0 (nI L)) 1 1 (r.1 1 20)) 1 2 (nI kn)) 1 4 (nI ko)) 1 7 (nI np)) 1 9 (nI ks) := ⟨_, rfl⟩
  have sg : s.2 = r.2 := by rw [hs]; rfl
  have sg3 : s.2 = lw_R0.2 := sg.trans g3
  have sq : ∀ q, q ≠ 1 → s.1 q = r.1 q := fun q hq => by rw [hs, pm_si_row hq, pm_si_row hq, pm_si_row hq, pm_si_row hq, pm_si_row hq, pm_si_row hq]
  have s10 : ∀ k, 10 ≤ k → s.1 1 k = r.1 1 k := fun k hk => by rw [hs, pm_si_ne (by omega), pm_si_ne (by omega), pm_si_ne (by omega), pm_si_ne (by omega), pm_si_ne (by omega), pm_si_ne (by omega)]
  have s0 : s.1 1 0 = nI L := by rw [hs, pm_si_ne (by omega), pm_si_ne (by omega), pm_si_ne (by omega), pm_si_ne (by omega), pm_si_ne (by omega), pm_si_same]
  have s1 : s.1 1 1 = r.1 1 20 := by rw [hs, pm_si_ne (by omega), pm_si_ne (by omega), pm_si_ne (by omega), pm_si_ne (by omega), pm_si_same]
  have s2 : s.1 1 2 = nI kn := by rw [hs, pm_si_ne (by omega), pm_si_ne (by omega), pm_si_ne (by omega), pm_si_same]
  have s4 : s.1 1 4 = nI ko := by rw [hs, pm_si_ne (by omega), pm_si_ne (by omega), pm_si_same]
  have s7 : s.1 1 7 = nI np := by rw [hs, pm_si_ne (by omega), pm_si_same]
  have s9 : s.1 1 9 = nI ks := by rw [hs, pm_si_same]
  obtain ⟨u1, a1, a2, a3, a4⟩ := ev_copyRow (a := 9) (b := 2) (k := kn) (la := 5) (lb := 5) (r := s) (by omega) (by simp only [lenR]) (by simp only [lenR]) (by omega) (by omega) (by omega)
  obtain ⟨u2, b1, b2, b3, b4⟩ := ev_copyRow (a := 10) (b := 3) (k := ko) (la := 6) (lb := 6) (r := u1) (by omega) (by simp only [lenR]) (by simp only [lenR]) (by omega) (by omega) (by omega)
  obtain ⟨u3, c1, c2, c3, c4⟩ := ev_copyRow (a := 11) (b := 4) (k := ko) (la := 6) (lb := 6) (r := u2) (by omega) (by simp only [lenR]) (by simp only [lenR]) (by omega) (by omega) (by omega)
  obtain ⟨u4, d1, d2, d3, d4⟩ := ev_copyRow (a := 12) (b := 5) (k := np) (la := 6) (lb := 6) (r := u3) (by omega) (by simp only [lenR]) (by simp only [lenR]) (by omega) (by omega) (by omega)
  obtain ⟨u5, e1, e2, e3, e4⟩ := ev_copyRow (a := 13) (b := 6) (k := ks) (la := 12) (lb := 12) (r := u4) (by omega) (by simp only [lenR]) (by simp only [lenR]) (by omega) (by omega) (by omega)
  have g1' : u1.2 = lw_R0.2 := a2.trans sg3
  have g2' : u2.2 = lw_R0.2 := b2.trans g1'
  have g3' : u3.2 = lw_R0.2 := c2.trans g2'
  have g4' : u4.2 = lw_R0.2 := d2.trans g3'
  have g5' : u5.2 = lw_R0.2 := e2.trans g4'
  obtain ⟨u6, f1, f2, f3, f4⟩ := ev_zero7 g5'
  have g6' : u6.2 = lw_R0.2 := f2.trans g5'
  have row1 : u5.1 1 = s.1 1 := by rw [e3 1 (by omega), d3 1 (by omega), c3 1 (by omega), b3 1 (by omega), a3 1 (by omega)]
  have row1' : u6.1 1 = s.1 1 := by rw [f3 1 (by omega), row1]
  obtain ⟨u7, h1, h2, h3, h4, h5⟩ := ev_tall7 (r := pm_si u6 7 0 (nI L)) (np := np) g6' bp (by rw [pm_si_row (by omega), row1']; exact s7)
  refine ⟨u7, ?_, ?_, fun q hq => ?_, fun k hk => ?_, ?_, fun i hi => ?_, fun i hi => ⟨?_, ?_⟩, fun i hi => ?_, ?_, fun k hk1 hk2 => ?_, fun p hp => ?_⟩
  · rw [fX12_takeRead]
    have t1 : (pm_si r 1 0 (nI L)).1 1 20 = r.1 1 20 := pm_si_ne (by omega)
    have t2 : (pm_si (pm_si r 1 0 (nI L)) 1 1 (r.1 1 20)).1 1 21 = nI kn := by rw [pm_si_ne (by omega), pm_si_ne (by omega)]; exact h21
    have t3 : (pm_si (pm_si (pm_si r 1 0 (nI L)) 1 1 (r.1 1 20)) 1 2 (nI kn)).1 1 23 = nI ko := by rw [pm_si_ne (by omega), pm_si_ne (by omega), pm_si_ne (by omega)]; exact h23
    have t4 : (pm_si (pm_si (pm_si (pm_si r 1 0 (nI L)) 1 1 (r.1 1 20)) 1 2 (nI kn)) 1 4 (nI ko)).1 1 26 = nI np := by rw [pm_si_ne (by omega), pm_si_ne (by omega), pm_si_ne (by omega), pm_si_ne (by omega)]; exact h26
    have t5 : (pm_si (pm_si (pm_si (pm_si (pm_si r 1 0 (nI L)) 1 1 (r.1 1 20)) 1 2 (nI kn)) 1 4 (nI ko)) 1 7 (nI np)).1 1 28 = nI ks := by rw [pm_si_ne (by omega), pm_si_ne (by omega), pm_si_ne (by omega), pm_si_ne (by omega), pm_si_ne (by omega)]; exact h28
    simp only [pm_let, h19, t1, t2, t3, t4, t5]
    rw [← hs]
    have v4 : u1.1 1 4 = nI ko := by rw [a3 1 (by omega)]; exact s4
    have v4' : u2.1 1 4 = nI ko := by rw [b3 1 (by omega)]; exact v4
    have v7 : u3.1 1 7 = nI np := by rw [c3 1 (by omega), b3 1 (by omega), a3 1 (by omega)]; exact s7
    have v9 : u4.1 1 9 = nI ks := by rw [d3 1 (by omega), c3 1 (by omega), b3 1 (by omega), a3 1 (by omega)]; exact s9
    have v0 : u6.1 1 0 = nI L := by rw [row1']; exact s0
    simp only [sg3, lgR, s2, a1, Option.bind_some, g1', v4, b1, g2', v4', c1, g3', v7, d1, g4', v9, e1, f1, g6', lenR, ib80, cl6, if_true, v0]
    exact h1
  · rw [h2]; show u6.2 = r.2; rw [f2, e2, d2, c2, b2, a2, sg]
  · rw [h3 q (by omega), pm_si_row (by omega), f3 q (by omega), e3 q (by omega), d3 q (by omega), c3 q (by omega), b3 q (by omega), a3 q (by omega), sq q (by omega)]
  · rw [h3 1 (by omega), pm_si_row (by omega), row1', s10 k hk]
  · rw [h3 1 (by omega), pm_si_row (by omega), row1']
    exact ⟨s0, s1, s2, s4, s7, s9⟩
  · rw [h3 2 (by omega), pm_si_row (by omega), f3 2 (by omega), e3 2 (by omega), d3 2 (by omega), c3 2 (by omega), b3 2 (by omega), a4 i hi, sq 9 (by omega)]
  · rw [h3 3 (by omega), pm_si_row (by omega), f3 3 (by omega), e3 3 (by omega), d3 3 (by omega), c3 3 (by omega), b4 i hi, a3 10 (by omega), sq 10 (by omega)]
  · rw [h3 4 (by omega), pm_si_row (by omega), f3 4 (by omega), e3 4 (by omega), d3 4 (by omega), c4 i hi, b3 11 (by omega), a3 11 (by omega), sq 11 (by omega)]
  · rw [h3 6 (by omega), pm_si_row (by omega), f3 6 (by omega), e4 i hi, d3 13 (by omega), c3 13 (by omega), b3 13 (by omega), a3 13 (by omega), sq 13 (by omega)]
  · rw [h4 0 (by omega), pm_si_same]
  · rw [h4 k hk2, pm_si_ne (by omega), f4 k (by omega)]
  · rw [h5 p hp, pm_si_row (by omega), f3 5 (by omega), e3 5 (by omega), d4 p hp, c3 12 (by omega), b3 12 (by omega), a3 12 (by omega), sq 12 (by omega)]
theorem ev_forgetI {c : pm_H} {T l : Nat} (g1 : c.2 = lgC T l) (kx : pm_H → Option (Int32 × pm_H)) : ∃ c', fX11_realm_L94 lw_SC 1 kx pm_fuel 0 c = kx c' ∧ c'.2 = c.2 ∧ (∀ q, q ≠ 211 → c'.1 q = c.1 q) ∧ ∀ i, i < 2 → c'.1 211 i = 0 := by
  obtain ⟨m, hm⟩ : ∃ m, pm_fuel = m + 3 := ⟨pm_fuel - 3, by unfold pm_fuel; omega⟩
  have i0 : pm_ib (0 : Int32) 2 = true := by decide
  have i1 : pm_ib (1 : Int32) 2 = true := by decide
  have e0 : ¬ (2 : Int32) ≤ 0 := by decide
  have e1 : ¬ (2 : Int32) ≤ 1 := by decide
  have e2 : (2 : Int32) ≤ 2 := by decide
  have p1 : (0 : Int32) + 1 = 1 := by decide
  have p2 : (1 : Int32) + 1 = 2 := by decide
  have g1' : (pm_si c 211 0 0).2 = lgC T l := g1
  refine ⟨pm_si (pm_si c 211 0 0) 211 1 0, ?_, rfl, fun q hq => by rw [pm_si_row hq, pm_si_row hq], fun i hi => ?_⟩
  · rw [hm, fX11_realm_L94, if_neg e0]
    simp only [g1, lgS, lenS, i0, cl6, if_true, pm_let, p1]
    rw [fX11_realm_L94, if_neg e1]
    simp only [g1', lgS, lenS, i1, cl6, if_true, pm_let, p2]
    rw [fX11_realm_L94, if_pos e2]
  · by_cases h : i = 1
    · subst h; rw [pm_si_same]
    · have : i = 0 := by omega
      subst this
      rw [pm_si_ne (by omega), pm_si_same]
theorem ev_beginC {c : pm_H} {D : Nat} (hD : D = 5 ∨ D = 11) (g1 : c.2 = lgC D 2) : ∃ c', fX8_begin lw_SC 17 D c = some c' ∧ c'.2 = c.2 ∧ (∀ q, q ≤ 17 ∨ 27 ≤ q → c'.1 q = c.1 q) ∧ c'.1 18 0 = c.1 D 0 ∧ c'.1 18 1 = 0 ∧ c'.1 18 2 = 0 ∧ c'.1 18 3 = 0 ∧ c'.1 19 4 = 0 ∧ c'.1 24 1 = 0 ∧ ∀ p, p < 6 → c'.1 26 p = c.1 (D + 4) p := by
  obtain ⟨s, hs⟩ : ∃ s, s = pm_si (pm_si (pm_si (pm_si c 18 0 (c.1 D 0)) 18 1 0) 18 2 0) 18 3 0 := ⟨_, rfl⟩
  have sg : s.2 = lgC D 2 := by rw [hs]; exact g1
  obtain ⟨s2, hs2⟩ : ∃ s2, s2 = pm_si (pm_si s 19 4 0) 24 1 0 := ⟨_, rfl⟩
  have sg2 : s2.2 = lgC D 2 := by rw [hs2]; exact sg
  have hb : fX6_begin lw_SC 18 (c.1 D 0) c = some s := by rw [fX6_begin, hs]; rfl
  have sgm : (pm_si s 19 4 0).2 = lgC D 2 := sg
  refine ⟨pm_sa s2 26 (va_cpy (s2.1 (D + 4)) (s2.1 26) 0 0 6), ?_, ?_, fun q hq => ?_, ?_, ?_, ?_, ?_, ?_, ?_, fun p hp => ?_⟩
  · rw [fX8_begin]
    simp only [g1, lgS, hb, Option.bind_some, pm_let, sg, sgm]
    rw [← hs2]
    simp only [sg2, lgS, lgT 2 hD, lenS, lenT hD, cpS, if_true, cl6]
  · show s2.2 = c.2
    rw [sg2, g1]
  · rw [pm_sa_row (by omega), hs2, pm_si_row (by omega), pm_si_row (by omega), hs, pm_si_row (by omega), pm_si_row (by omega), pm_si_row (by omega), pm_si_row (by omega)]
  · rw [pm_sa_row (by omega), hs2, pm_si_row (by omega), pm_si_row (by omega), hs, pm_si_ne (by omega), pm_si_ne (by omega), pm_si_ne (by omega), pm_si_same]
  · rw [pm_sa_row (by omega), hs2, pm_si_row (by omega), pm_si_row (by omega), hs, pm_si_ne (by omega), pm_si_ne (by omega), pm_si_same]
  · rw [pm_sa_row (by omega), hs2, pm_si_row (by omega), pm_si_row (by omega), hs, pm_si_ne (by omega), pm_si_same]
  · rw [pm_sa_row (by omega), hs2, pm_si_row (by omega), pm_si_row (by omega), hs, pm_si_same]
  · rw [pm_sa_row (by omega), hs2, pm_si_row (by omega), pm_si_same]
  · rw [pm_sa_row (by omega), hs2, pm_si_same]
  · rw [pm_sa_same, cp0 hp, hs2, pm_si_row (by omega), pm_si_row (by omega), hs, pm_si_row (by omega), pm_si_row (by omega), pm_si_row (by omega), pm_si_row (by omega)]
