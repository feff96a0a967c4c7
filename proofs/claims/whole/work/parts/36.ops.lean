/-! hands -/
theorem ev_size (S : pm_S) (x : Int32) (σ : pm_H) : fX12_size S x σ = some (pm_abs x, σ) := by
  unfold fX12_size pm_abs
  by_cases h : 0 ≤ x
  · rw [if_pos h, if_pos h]
  · rw [if_neg h, if_neg h, Int32.zero_sub]
theorem pu_hands : pu_1 pu_Rel fX11_hands fX12_hands := by
  intro c r h a
  obtain ⟨T, l, lo, np, H⟩ := id h
  obtain ⟨hT, g1, g2, g3, -, hf, b1, b2, -⟩ := id H
  obtain ⟨L', y, nt, nh, d1, ⟨d2, d3⟩, -, -, -, -, ⟨d10, d11⟩, -, d12, -⟩ := b2
  simp only [Nat.reduceAdd] at d2 d10 d12
  have hh : ∀ i, i < nh → r.1 7 (66 + i) = c.1 25 i := fun i hi => (d12 i hi).1
  have IB : ∀ i, i < nh → pm_ib (nI i) 8 = true := fun i hi => pm_ib_nI (by omega) (by omega)
  have CL : ∀ i, i < nh → (nI i).toNatClampNeg = i := fun i hi => nI_clamp (by omega)
  have IB6 : ∀ i, i < nh → pm_ib (nI (66 + i)) 80 = true := fun i hi => pm_ib_nI (by omega) (by omega)
  have CL6 : ∀ i, i < nh → (nI (66 + i)).toNatClampNeg = 66 + i := fun i hi => nI_clamp (by omega)
  by_cases hn0 : nh = 0
  · subst hn0
    have e : nI 0 ≤ 0 := by decide
    have e1 : ¬ (1 : Int32) ≤ nI 0 := by decide
    have e0 : nI 0 = 0 := rfl
    obtain ⟨f, hfu⟩ : ∃ f, pm_fuel = f + 1 := ⟨999999, rfl⟩
    have m1 : fX1_mean lw_SC 24 c = some (-1, c) := by simp only [fX1_mean, hfu, fX1_mean_L4, d10, if_pos e, if_neg e1]
    have m2 : fX1_middle lw_SC 24 c = some (-1, c) := by simp only [fX1_middle, hfu, fX1_middle_L11, d10, if_pos e, pm_let]
    have m3 : ∀ x, fX1_farthestFrom lw_SC 24 x c = some (-1, c) := fun x => by simp only [fX1_farthestFrom, hfu, fX1_farthestFrom_L4, d10, if_pos e]
    have m4 : ∀ x, fX1_nearestTo lw_SC 24 x c = some (-1, c) := fun x => by simp only [fX1_nearestTo, hfu, fX1_nearestTo_L4, d10, if_pos e]
    rcases pu_w01 a 0 3 with hw | hw
    · have z0 : ¬ a = 0 := fun z => by rw [z] at hw; exact absurd hw (by decide)
      have z1 : ¬ a = 1 := fun z => by rw [z] at hw; exact absurd hw (by decide)
      have z2 : ¬ a = 2 := fun z => by rw [z] at hw; exact absurd hw (by decide)
      have z3 : ¬ a = 3 := fun z => by rw [z] at hw; exact absurd hw (by decide)
      exact pu_ro h (-1000000002) (by simp [fX11_hands, z0, z1, z2, z3]) (by simp [fX12_hands, evI, hw])
    · refine pu_ro h (-1) ?_ (by simp [fX12_hands, evI, hw, g3, lgR, lenR, ib80, cl6, d11, e0])
      by_cases z0 : a = 0
      · subst z0; simp [fX11_hands, g1, lgS, m1]
      by_cases z1 : a = 1
      · subst z1; simp [fX11_hands, g1, lgS, m2]
      by_cases z2 : a = 2
      · subst z2; simp [fX11_hands, g1, lgS, m1, m3]
      by_cases z3 : a = 3
      · subst z3; simp [fX11_hands, g1, lgS, m4]
      · exfalso
        have wl := pu_w_lit hw
        obtain ⟨n, rfl, ⟨hn1, hn2⟩, hn3⟩ := qn_of (lo := 0) (hi := 3) (by omega) (by simpa using wl.1) (by simpa using wl.2)
        have y0 : n ≠ 0 := fun z => z0 (by rw [z]; rfl)
        have y1 : n ≠ 1 := fun z => z1 (by rw [z]; rfl)
        have y2 : n ≠ 2 := fun z => z2 (by rw [z]; rfl)
        have y3 : n ≠ 3 := fun z => z3 (by rw [z]; rfl)
        omega
  have hfu : nh < pm_fuel := by unfold pm_fuel; omega
  have E0 : ¬ nI nh = 0 := nI_ne0 (by omega) (by omega)
  have E1 : (1 : Int32) ≤ nI nh := (qn_le_iff (a := 1) (by omega) (by omega)).mpr (by omega)
  have mean : ∃ v, fX1_mean lw_SC 24 c = some (v, c) ∧ fX12_mean lw_SR 1 r = some (v, r) := by
    have loop : ∀ k i m m' (s : Int32), i + k = nh → k < m → k < m' → ∃ v, fX1_mean_L4 lw_SC 24 (fun w5 s6 => (if (1 : Int32) ≤ (s6.1 24 1) then if (s6.1 24 1) = 0 then none else some ((w5 / (s6.1 24 1)), s6) else some ((-1 : Int32), s6))) m s (nI i) c = some (v, c) ∧ fX12_mean_L4 lw_SR 1 (fun w7 s8 => (if pm_ib (5 : Int32) (pm_len lw_SR (s8.2 1 11)) = true then if (s8.1 (s8.2 1 11) ((5 : Int32)).toNatClampNeg) = 0 then none else some ((w7 / (s8.1 (s8.2 1 11) ((5 : Int32)).toNatClampNeg)), s8) else none)) m' s (nI i) r = some (v, r) := by
      intro k
      induction k with
      | zero =>
        intro i m m' s hi hm hm'
        obtain ⟨m, rfl⟩ : ∃ z, m = z + 1 := ⟨m - 1, by omega⟩
        obtain ⟨m', rfl⟩ : ∃ z, m' = z + 1 := ⟨m' - 1, by omega⟩
        have e : nI nh ≤ nI i := (qn_le_iff (by omega) (by omega)).mpr (by omega)
        exact ⟨s / nI nh, by simp only [fX1_mean_L4, d10, if_pos e, if_pos E1, if_neg E0], by simp only [fX12_mean_L4, g3, lgR, lenR, ib80, cl6, d11, if_true, if_pos e, if_neg E0]⟩
      | succ k ih =>
        intro i m m' s hi hm hm'
        obtain ⟨m, rfl⟩ : ∃ z, m = z + 1 := ⟨m - 1, by omega⟩
        obtain ⟨m', rfl⟩ : ∃ z, m' = z + 1 := ⟨m' - 1, by omega⟩
        have e : ¬ nI nh ≤ nI i := fun z => by have := (qn_le_iff (by omega) (by omega)).mp z; omega
        obtain ⟨v, v1, v2⟩ := ih (i + 1) m m' (s + c.1 25 i) (by omega) (by omega) (by omega)
        refine ⟨v, ?_, ?_⟩
        · rw [fX1_mean_L4, d10, if_neg e]
          simp only [g1, lgS, lenS, IB i (by omega), CL i (by omega), if_true, pm_let, (nL i).2.2.2.2.2.2]
          exact v1
        · rw [fX12_mean_L4]
          simp only [g3, lgR, lenR, ib80, cl6, d11, if_true, if_neg e, nL, IB6 i (by omega), CL6 i (by omega), hh i (by omega), pm_let] at v2 ⊢
          exact v2
    obtain ⟨v, v1, v2⟩ := loop nh 0 pm_fuel pm_fuel 0 (by omega) hfu hfu
    exact ⟨v, v1, v2⟩
  have midIn : ∀ p, p < nh → ∀ (wd : Int32) k i m m' (u q : Nat), i + k = nh → k < m → k < m' → u + q ≤ i → ∃ u' q', u' + q' ≤ nh ∧ (∀ kx, fX1_middle_L27 lw_SC 24 wd (nI p) kx m (nI u) (nI (u + q)) (nI i) c = kx (nI u') (nI (u' + q')) c) ∧ ∀ kx, fX12_middle_L31 lw_SR 1 wd (nI p) kx m' (nI u) (nI q) (nI i) r = kx (nI u') (nI q') r := by
    intro p hp wd k
    induction k with
    | zero =>
      intro i m m' u q hi hm hm' huq
      obtain ⟨m, rfl⟩ : ∃ z, m = z + 1 := ⟨m - 1, by omega⟩
      obtain ⟨m', rfl⟩ : ∃ z, m' = z + 1 := ⟨m' - 1, by omega⟩
      have e : nI nh ≤ nI i := (qn_le_iff (by omega) (by omega)).mpr (by omega)
      exact ⟨u, q, by omega, fun kx => by simp only [fX1_middle_L27, d10, if_pos e], fun kx => by simp only [fX12_middle_L31, g3, lgR, lenR, ib80, cl6, d11, if_true, if_pos e]⟩
    | succ k ih =>
      intro i m m' u q hi hm hm' huq
      obtain ⟨m, rfl⟩ : ∃ z, m = z + 1 := ⟨m - 1, by omega⟩
      obtain ⟨m', rfl⟩ : ∃ z, m' = z + 1 := ⟨m' - 1, by omega⟩
      have e : ¬ nI nh ≤ nI i := fun z => by have := (qn_le_iff (by omega) (by omega)).mp z; omega
      have A : ∀ kx, fX1_middle_L27 lw_SC 24 wd (nI p) kx (m + 1) (nI u) (nI (u + q)) (nI i) c = (if c.1 25 p ≤ c.1 25 i then fX1_middle_J58 lw_SC 24 wd (nI p) (nI (u + q)) (nI i) 0 (nI u) (fun w3 w4 w5 sw => fX1_middle_L27 lw_SC 24 wd (nI p) kx m w3 w4 w5 sw) c else fX1_middle_J58 lw_SC 24 wd (nI p) (nI (u + q)) (nI i) 1 (nI u) (fun w3 w4 w5 sw => fX1_middle_L27 lw_SC 24 wd (nI p) kx m w3 w4 w5 sw) c) := fun kx => by
        simp only [fX1_middle_L27, d10, if_neg e, g1, lgS, lenS, IB i (by omega), IB p hp, CL i (by omega), CL p hp, if_true]
      have AJ : ∀ (t : Int32) (w : Int32) ag, fX1_middle_J58 lw_SC 24 wd (nI p) w (nI i) t (nI u) ag c = (if c.1 25 p < c.1 25 i then ag (nI u + t) (w + 0) (nI (i + 1)) c else ag (nI u + t) (w + 1) (nI (i + 1)) c) := fun t w ag => by
        simp only [fX1_middle_J58, g1, lgS, lenS, IB i (by omega), IB p hp, CL i (by omega), CL p hp, if_true, pm_let, (nL i).2.2.2.2.2.2]
      have B : ∀ kx, fX12_middle_L31 lw_SR 1 wd (nI p) kx (m' + 1) (nI u) (nI q) (nI i) r = (if c.1 25 p ≤ c.1 25 i then fX12_middle_J70 lw_SR 1 wd (nI p) (nI q) (nI i) 0 (nI u) (fun w3 w4 w5 sw => fX12_middle_L31 lw_SR 1 wd (nI p) kx m' w3 w4 w5 sw) r else fX12_middle_J70 lw_SR 1 wd (nI p) (nI q) (nI i) 1 (nI u) (fun w3 w4 w5 sw => fX12_middle_L31 lw_SR 1 wd (nI p) kx m' w3 w4 w5 sw) r) := fun kx => by
        simp only [fX12_middle_L31, g3, lgR, lenR, ib80, cl6, d11, if_true, if_neg e, nL, IB6 i (by omega), IB6 p hp, CL6 i (by omega), CL6 p hp, hh i (by omega), hh p hp]
      have BJ : ∀ (t : Int32) ag, fX12_middle_J70 lw_SR 1 wd (nI p) (nI q) (nI i) t (nI u) ag r = (if c.1 25 i = c.1 25 p then ag (nI u + t) (nI q + 1) (nI (i + 1)) r else ag (nI u + t) (nI q + 0) (nI (i + 1)) r) := fun t ag => by
        simp only [fX12_middle_J70, g3, lgR, lenR, if_true, nL, IB6 i (by omega), IB6 p hp, CL6 i (by omega), CL6 p hp, hh i (by omega), hh p hp, pm_let]
      have u0 : nI u + 0 = nI u := Int32.add_zero _
      have q0 : nI q + 0 = nI q := Int32.add_zero _
      have w0 : nI (u + q) + 0 = nI (u + q) := Int32.add_zero _
      rcases Int.lt_trichotomy (c.1 25 i).toInt (c.1 25 p).toInt with ht | ht | ht
      · have k1 : ¬ c.1 25 p ≤ c.1 25 i := fun z => by have := Int32.le_iff_toInt_le.mp z; omega
        have k2 : ¬ c.1 25 p < c.1 25 i := fun z => by have := Int32.lt_iff_toInt_lt.mp z; omega
        have k3 : ¬ c.1 25 i = c.1 25 p := fun z => by rw [z] at ht; omega
        obtain ⟨u', q', h1, h2, h3⟩ := ih (i + 1) m m' (u + 1) q (by omega) (by omega) (by omega) (by omega)
        refine ⟨u', q', h1, fun kx => ?_, fun kx => ?_⟩
        · rw [A, if_neg k1, AJ, if_neg k2, (nL u).2.2.2.2.2.2, (nL (u + q)).2.2.2.2.2.2, ← h2 kx, show u + q + 1 = u + 1 + q by omega]
        · rw [B, if_neg k1, BJ, if_neg k3, (nL u).2.2.2.2.2.2, q0, ← h3 kx]
      · have ht' : c.1 25 i = c.1 25 p := Int32.toInt_inj.mp ht
        have k1 : c.1 25 p ≤ c.1 25 i := Int32.le_iff_toInt_le.mpr (by omega)
        have k2 : ¬ c.1 25 p < c.1 25 i := fun z => by have := Int32.lt_iff_toInt_lt.mp z; omega
        obtain ⟨u', q', h1, h2, h3⟩ := ih (i + 1) m m' u (q + 1) (by omega) (by omega) (by omega) (by omega)
        refine ⟨u', q', h1, fun kx => ?_, fun kx => ?_⟩
        · rw [A, if_pos k1, AJ, if_neg k2, u0, (nL (u + q)).2.2.2.2.2.2, ← h2 kx, show u + q + 1 = u + (q + 1) by omega]
        · rw [B, if_pos k1, BJ, if_pos ht', (nL q).2.2.2.2.2.2, u0, ← h3 kx]
      · have k1 : c.1 25 p ≤ c.1 25 i := Int32.le_iff_toInt_le.mpr (by omega)
        have k2 : c.1 25 p < c.1 25 i := Int32.lt_iff_toInt_lt.mpr (by omega)
        have k3 : ¬ c.1 25 i = c.1 25 p := fun z => by rw [z] at ht; omega
        obtain ⟨u', q', h1, h2, h3⟩ := ih (i + 1) m m' u q (by omega) (by omega) (by omega) (by omega)
        refine ⟨u', q', h1, fun kx => ?_, fun kx => ?_⟩
        · rw [A, if_pos k1, AJ, if_pos k2, u0, w0, ← h2 kx]
        · rw [B, if_pos k1, BJ, if_neg k3, q0, u0, ← h3 kx]
  have middle : ∃ v, fX1_middle lw_SC 24 c = some (v, c) ∧ fX12_middle lw_SR 1 r = some (v, r) := by
    obtain ⟨wd, hwd⟩ : ∃ z, (nI nh - 1) / 2 = z := ⟨_, rfl⟩
    have hwd' : wd = nI ((nh - 1) / 2) := by
      rw [← hwd, show nI nh - 1 = nI (nh - 1) from qn_sub (b := 1) (by omega)]
      exact pk_div (d := 2) (by omega) (by omega) (by omega)
    have loop : ∀ k i m m', i + k = nh → k < m → k < m' → ∃ v, fX1_middle_L11 lw_SC 24 wd (fun s24 => some ((-1 : Int32), s24)) m (nI i) c = some (v, c) ∧ fX12_middle_L13 lw_SR 1 wd (fun s30 => some ((-1 : Int32), s30)) m' (nI i) r = some (v, r) := by
      intro k
      induction k with
      | zero =>
        intro i m m' hi hm hm'
        obtain ⟨m, rfl⟩ : ∃ z, m = z + 1 := ⟨m - 1, by omega⟩
        obtain ⟨m', rfl⟩ : ∃ z, m' = z + 1 := ⟨m' - 1, by omega⟩
        have e : nI nh ≤ nI i := (qn_le_iff (by omega) (by omega)).mpr (by omega)
        exact ⟨-1, by simp only [fX1_middle_L11, d10, if_pos e], by simp only [fX12_middle_L13, g3, lgR, lenR, ib80, cl6, d11, if_true, if_pos e]⟩
      | succ k ih =>
        intro i m m' hi hm hm'
        obtain ⟨m, rfl⟩ : ∃ z, m = z + 1 := ⟨m - 1, by omega⟩
        obtain ⟨m', rfl⟩ : ∃ z, m' = z + 1 := ⟨m' - 1, by omega⟩
        have e : ¬ nI nh ≤ nI i := fun z => by have := (qn_le_iff (by omega) (by omega)).mp z; omega
        obtain ⟨v, v1, v2⟩ := ih (i + 1) m m' (by omega) (by omega) (by omega)
        obtain ⟨u', q', h1, h2, h3⟩ := midIn i (by omega) wd nh 0 pm_fuel pm_fuel 0 0 (by omega) hfu hfu (by omega)
        have h2' : ∀ kx, fX1_middle_L27 lw_SC 24 wd (nI i) kx pm_fuel 0 0 0 c = kx (nI u') (nI (u' + q')) c := h2
        have h3' : ∀ kx, fX12_middle_L31 lw_SR 1 wd (nI i) kx pm_fuel 0 0 0 r = kx (nI u') (nI q') r := h3
        have hm1 := qn_m1 (n := u' + q') (by omega)
        have A : fX1_middle_L11 lw_SC 24 wd (fun s24 => some ((-1 : Int32), s24)) (m + 1) (nI i) c = (if wd < nI u' then some (v, c) else (if nI (u' + q') ≤ wd then some (v, c) else some (c.1 25 i, c))) := by
          simp only [fX1_middle_L11, d10, if_neg e, h2', g1, lgS, lenS, IB i (by omega), CL i (by omega), if_true, (nL i).2.2.2.2.2.2, v1]
        have B : fX12_middle_L13 lw_SR 1 wd (fun s30 => some ((-1 : Int32), s30)) (m' + 1) (nI i) r = (if pu_w wd (nI u') (nI (u' + q') - 1) = 0 then some (v, r) else some (c.1 25 i, r)) := by
          simp only [fX12_middle_L13, g3, lgR, lenR, ib80, cl6, d11, if_true, if_neg e, h3', ev_in, Option.bind_some, nL, IB6 i (by omega), CL6 i (by omega), hh i (by omega), v2, qn_add]
        rw [A, B]
        rw [hwd']
        by_cases j1 : (nh - 1) / 2 < u'
        · have j1' : nI ((nh - 1) / 2) < nI u' := (qn_lt_iff (by omega) (by omega)).mpr j1
          exact ⟨v, by rw [if_pos j1'], by rw [pu_w, if_pos j1', if_pos rfl]⟩
        · have j1' : ¬ nI ((nh - 1) / 2) < nI u' := fun z => j1 ((qn_lt_iff (by omega) (by omega)).mp z)
          by_cases j2 : u' + q' ≤ (nh - 1) / 2
          · have j2' : nI (u' + q') ≤ nI ((nh - 1) / 2) := (qn_le_iff (by omega) (by omega)).mpr j2
            have j3 : nI (u' + q') - 1 < nI ((nh - 1) / 2) := Int32.lt_iff_toInt_lt.mpr (by rw [hm1, nI_toInt (by omega)]; omega)
            exact ⟨v, by rw [if_neg j1', if_pos j2'], by rw [pu_w, if_neg j1', if_pos j3, if_pos rfl]⟩
          · have j2' : ¬ nI (u' + q') ≤ nI ((nh - 1) / 2) := fun z => j2 ((qn_le_iff (by omega) (by omega)).mp z)
            have j3 : ¬ nI (u' + q') - 1 < nI ((nh - 1) / 2) := fun z => by have z := Int32.lt_iff_toInt_lt.mp z; rw [hm1, nI_toInt (by omega)] at z; omega
            exact ⟨c.1 25 i, by rw [if_neg j1', if_neg j2'], by rw [pu_w, if_neg j1', if_neg j3, if_neg (by decide)]⟩
    obtain ⟨v, v1, v2⟩ := loop nh 0 pm_fuel pm_fuel (by omega) hfu hfu
    refine ⟨v, ?_, ?_⟩
    · simp only [fX1_middle, d10, pm_let, hwd]
      exact v1
    · simp only [fX12_middle, g3, lgR, lenR, ib80, cl6, d11, if_true, pm_let, hwd]
      exact v2
  have far : ∀ x, ∃ v, fX1_farthestFrom lw_SC 24 x c = some (v, c) ∧ fX12_handBy lw_SR 1 x 1 r = some (v, r) := by
    intro x
    have n1 : ¬ (1 : Int32) = 0 := by decide
    have loop : ∀ k i m m' j, i + k = nh → k < m → k < m' → j < i → ∃ v, fX1_farthestFrom_L4 lw_SC 24 x (fun w8 s9 => some (w8, s9)) m (nI j) (nI i) c = some (v, c) ∧ fX12_handBy_L5 lw_SR 1 x 1 (fun w13 s14 => some (w13, s14)) m' (nI j) (nI i) r = some (v, r) := by
      intro k
      induction k with
      | zero =>
        intro i m m' j hi hm hm' hj
        obtain ⟨m, rfl⟩ : ∃ z, m = z + 1 := ⟨m - 1, by omega⟩
        obtain ⟨m', rfl⟩ : ∃ z, m' = z + 1 := ⟨m' - 1, by omega⟩
        have e : nI nh ≤ nI i := (qn_le_iff (by omega) (by omega)).mpr (by omega)
        exact ⟨nI j, by simp only [fX1_farthestFrom_L4, d10, if_pos e], by simp only [fX12_handBy_L5, g3, lgR, lenR, ib80, cl6, d11, if_true, if_pos e]⟩
      | succ k ih =>
        intro i m m' j hi hm hm' hj
        obtain ⟨m, rfl⟩ : ∃ z, m = z + 1 := ⟨m - 1, by omega⟩
        obtain ⟨m', rfl⟩ : ∃ z, m' = z + 1 := ⟨m' - 1, by omega⟩
        have e : ¬ nI nh ≤ nI i := fun z => by have := (qn_le_iff (by omega) (by omega)).mp z; omega
        have ej := qn_nem1 (j := j) (by omega)
        by_cases hc : pm_abs (c.1 25 i - x) ≤ pm_abs (c.1 25 j - x)
        · obtain ⟨v, v1, v2⟩ := ih (i + 1) m m' j (by omega) (by omega) (by omega) (by omega)
          refine ⟨v, ?_, ?_⟩
          · simp only [fX1_farthestFrom_L4, d10, if_neg e, if_neg ej, g1, lgS, lenS, IB i (by omega), IB j (by omega), CL i (by omega), CL j (by omega), if_true, if_pos hc, (nL i).2.2.2.2.2.2, v1]
          · simp only [fX12_handBy_L5, g3, lgR, lenR, ib80, cl6, d11, if_true, if_neg e, nL, IB6 i (by omega), IB6 j (by omega), CL6 i (by omega), CL6 j (by omega), hh i (by omega), hh j (by omega), ev_size, Option.bind_some, if_neg n1, if_pos hc, v2]
        · obtain ⟨v, v1, v2⟩ := ih (i + 1) m m' i (by omega) (by omega) (by omega) (by omega)
          refine ⟨v, ?_, ?_⟩
          · simp only [fX1_farthestFrom_L4, d10, if_neg e, if_neg ej, g1, lgS, lenS, IB i (by omega), IB j (by omega), CL i (by omega), CL j (by omega), if_true, if_neg hc, (nL i).2.2.2.2.2.2, v1]
          · simp only [fX12_handBy_L5, g3, lgR, lenR, ib80, cl6, d11, if_true, if_neg e, nL, IB6 i (by omega), IB6 j (by omega), CL6 i (by omega), CL6 j (by omega), hh i (by omega), hh j (by omega), ev_size, Option.bind_some, if_neg n1, if_neg hc, v2]
    obtain ⟨f, hf⟩ : ∃ f, pm_fuel = f + 1 := ⟨999999, rfl⟩
    obtain ⟨v, v1, v2⟩ := loop (nh - 1) 1 f (f + 1) 0 (by omega) (by omega) (by omega) (by omega)
    have e : ¬ nI nh ≤ 0 := fun z => by have := (qn_le_iff (b := 0) (by omega) (by omega)).mp z; omega
    refine ⟨v, ?_, ?_⟩
    · rw [fX1_farthestFrom, hf, fX1_farthestFrom_L4, d10, if_neg e, if_pos rfl]
      exact v1
    · rw [fX12_handBy, hf]
      exact v2
  have near : ∀ x, ∃ v, fX1_nearestTo lw_SC 24 x c = some (v, c) ∧ fX12_handBy lw_SR 1 x 0 r = some (v, r) := by
    intro x
    have loop : ∀ k i m m' j, i + k = nh → k < m → k < m' → j < i → ∃ v, fX1_nearestTo_L4 lw_SC 24 x (fun w8 s9 => some (w8, s9)) m (nI j) (nI i) c = some (v, c) ∧ fX12_handBy_L5 lw_SR 1 x 0 (fun w13 s14 => some (w13, s14)) m' (nI j) (nI i) r = some (v, r) := by
      intro k
      induction k with
      | zero =>
        intro i m m' j hi hm hm' hj
        obtain ⟨m, rfl⟩ : ∃ z, m = z + 1 := ⟨m - 1, by omega⟩
        obtain ⟨m', rfl⟩ : ∃ z, m' = z + 1 := ⟨m' - 1, by omega⟩
        have e : nI nh ≤ nI i := (qn_le_iff (by omega) (by omega)).mpr (by omega)
        exact ⟨nI j, by simp only [fX1_nearestTo_L4, d10, if_pos e], by simp only [fX12_handBy_L5, g3, lgR, lenR, ib80, cl6, d11, if_true, if_pos e]⟩
      | succ k ih =>
        intro i m m' j hi hm hm' hj
        obtain ⟨m, rfl⟩ : ∃ z, m = z + 1 := ⟨m - 1, by omega⟩
        obtain ⟨m', rfl⟩ : ∃ z, m' = z + 1 := ⟨m' - 1, by omega⟩
        have e : ¬ nI nh ≤ nI i := fun z => by have := (qn_le_iff (by omega) (by omega)).mp z; omega
        have ej := qn_nem1 (j := j) (by omega)
        by_cases hc : pm_abs (c.1 25 j - x) ≤ pm_abs (c.1 25 i - x)
        · obtain ⟨v, v1, v2⟩ := ih (i + 1) m m' j (by omega) (by omega) (by omega) (by omega)
          refine ⟨v, ?_, ?_⟩
          · simp only [fX1_nearestTo_L4, d10, if_neg e, if_neg ej, g1, lgS, lenS, IB i (by omega), IB j (by omega), CL i (by omega), CL j (by omega), if_true, if_pos hc, (nL i).2.2.2.2.2.2, v1]
          · simp only [fX12_handBy_L5, g3, lgR, lenR, ib80, cl6, d11, if_true, if_neg e, nL, IB6 i (by omega), IB6 j (by omega), CL6 i (by omega), CL6 j (by omega), hh i (by omega), hh j (by omega), ev_size, Option.bind_some, if_pos hc, v2]
        · obtain ⟨v, v1, v2⟩ := ih (i + 1) m m' i (by omega) (by omega) (by omega) (by omega)
          refine ⟨v, ?_, ?_⟩
          · simp only [fX1_nearestTo_L4, d10, if_neg e, if_neg ej, g1, lgS, lenS, IB i (by omega), IB j (by omega), CL i (by omega), CL j (by omega), if_true, if_neg hc, (nL i).2.2.2.2.2.2, v1]
          · simp only [fX12_handBy_L5, g3, lgR, lenR, ib80, cl6, d11, if_true, if_neg e, nL, IB6 i (by omega), IB6 j (by omega), CL6 i (by omega), CL6 j (by omega), hh i (by omega), hh j (by omega), ev_size, Option.bind_some, if_neg hc, v2]
    obtain ⟨f, hf⟩ : ∃ f, pm_fuel = f + 1 := ⟨999999, rfl⟩
    obtain ⟨v, v1, v2⟩ := loop (nh - 1) 1 f (f + 1) 0 (by omega) (by omega) (by omega) (by omega)
    have e : ¬ nI nh ≤ 0 := fun z => by have := (qn_le_iff (b := 0) (by omega) (by omega)).mp z; omega
    refine ⟨v, ?_, ?_⟩
    · rw [fX1_nearestTo, hf, fX1_nearestTo_L4, d10, if_neg e, if_pos rfl]
      exact v1
    · rw [fX12_handBy, hf]
      exact v2
  obtain ⟨mv, mv1, mv2⟩ := mean
  obtain ⟨dv, dv1, dv2⟩ := middle
  obtain ⟨fv, fv1, fv2⟩ := far mv
  obtain ⟨nv, nv1, nv2⟩ := near (nI L')
  by_cases z0 : a = 0
  · have hw : pu_w a 0 3 = 1 := by rw [z0]; decide
    exact pu_ro h mv (by simp [fX11_hands, eq_true z0, g1, lgS, mv1]) (by simp [fX12_hands, eq_true z0, evI, hw, g3, lgR, lenR, ib80, cl6, d11, E0, mv2])
  by_cases z1 : a = 1
  · have hw : pu_w a 0 3 = 1 := by rw [z1]; decide
    exact pu_ro h dv (by simp [fX11_hands, z0, eq_true z1, g1, lgS, dv1]) (by simp [fX12_hands, z0, eq_true z1, evI, hw, g3, lgR, lenR, ib80, cl6, d11, E0, dv2])
  by_cases z2 : a = 2
  · have hw : pu_w a 0 3 = 1 := by rw [z2]; decide
    exact pu_ro h fv (by simp [fX11_hands, z0, z1, eq_true z2, g1, lgS, mv1, fv1]) (by simp [fX12_hands, z0, z1, eq_true z2, evI, hw, g3, lgR, lenR, ib80, cl6, d11, E0, mv2, fv2])
  by_cases z3 : a = 3
  · have hw : pu_w a 0 3 = 1 := by rw [z3]; decide
    exact pu_ro h nv (by simp [fX11_hands, z0, z1, z2, eq_true z3, g1, lgS, d2, nv1]) (by simp [fX12_hands, z0, z1, z2, evI, hw, g3, lgR, lenR, ib80, cl6, d11, E0, d3, nv2])
  rcases pu_w01 a 0 3 with hw | hw
  · exact pu_ro h (-1000000002) (by simp [fX11_hands, z0, z1, z2, z3]) (by simp [fX12_hands, evI, hw])
  · exfalso
    have wl := pu_w_lit hw
    obtain ⟨n, rfl, ⟨hn1, hn2⟩, hn3⟩ := qn_of (lo := 0) (hi := 3) (by omega) (by simpa using wl.1) (by simpa using wl.2)
    have y0 : n ≠ 0 := fun z => z0 (by rw [z]; rfl)
    have y1 : n ≠ 1 := fun z => z1 (by rw [z]; rfl)
    have y2 : n ≠ 2 := fun z => z2 (by rw [z]; rfl)
    have y3 : n ≠ 3 := fun z => z3 (by rw [z]; rfl)
    omega
