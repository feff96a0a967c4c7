theorem ev_hasNick {D n : Nat} {tx : Nat → Int32} {c : pm_H} {kn : Nat} (hD : D = 5 ∨ D = 11) (hc : pu_TC (16 - D) n tx c) (hk : kn ≤ 5) (e3 : c.1 D 3 = nI kn) (x : Int32) : (fX9_hasNick lw_SC D x c = some (0, c) ∧ ∀ i, i < kn → ¬ c.1 (D + 1) i = x) ∨ (fX9_hasNick lw_SC D x c = some (1, c) ∧ ∃ i, i < kn ∧ c.1 (D + 1) i = x) := by
  have g1 := hc.1
  have loop : ∀ k i m, i + k = kn → k < m → (∀ j, j < i → ¬ c.1 (D + 1) j = x) → (fX9_hasNick_L2 lw_SC D x (fun s5 => some ((0 : Int32), s5)) m (nI i) c = some (0, c) ∧ ∀ i, i < kn → ¬ c.1 (D + 1) i = x) ∨ (fX9_hasNick_L2 lw_SC D x (fun s5 => some ((0 : Int32), s5)) m (nI i) c = some (1, c) ∧ ∃ i, i < kn ∧ c.1 (D + 1) i = x) := by
    intro k
    induction k with
    | zero =>
      intro i m hi hm h
      obtain ⟨m, rfl⟩ : ∃ z, m = z + 1 := ⟨m - 1, by omega⟩
      have hin : i = kn := by omega
      subst hin
      exact Or.inl ⟨by rw [fX9_hasNick_L2, e3, if_pos (Int32.le_refl _)], h⟩
    | succ k ih =>
      intro i m hi hm h
      obtain ⟨m, rfl⟩ : ∃ z, m = z + 1 := ⟨m - 1, by omega⟩
      have e0 : ¬ nI kn ≤ nI i := fun z => by have := (qn_le_iff (by omega) (by omega)).mp z; omega
      have i1 : pm_ib (nI i) 5 = true := pm_ib_nI (by omega) (by omega)
      have c1 : (nI i).toNatClampNeg = i := nI_clamp (by omega)
      rw [fX9_hasNick_L2, e3, if_neg e0]
      simp only [g1, lgD hD, lenT hD, i1, c1, if_true, (nL i).2.2.2.2.2.2]
      by_cases hx : c.1 (D + 1) i = x
      · exact Or.inr ⟨by rw [if_pos hx], i, by omega, hx⟩
      · rw [if_neg hx]
        exact ih (i + 1) m (by omega) (by omega) (fun j hj => by
          by_cases e : j = i
          · subst e; exact hx
          · exact h j (by omega))
  exact loop kn 0 pm_fuel (by omega) (by unfold pm_fuel; omega) (fun j hj => absurd hj (Nat.not_lt_zero _))
theorem ev_L19 {σ : pm_H} {kn : Nat} {x : Int32} (g3 : σ.2 = lw_R0.2) (hk : kn < 5) (e21 : σ.1 1 21 = nI kn) (ex : σ.1 9 kn = x) (kx : Int32 → pm_H → Option (Int32 × pm_H)) : ((∀ i, i < kn → ¬ σ.1 9 i = x) → fX12_takeNick_L19 lw_SR 1 kx pm_fuel 0 0 σ = kx 0 σ) ∧ ((∃ i, i < kn ∧ σ.1 9 i = x) → fX12_takeNick_L19 lw_SR 1 kx pm_fuel 0 0 σ = kx 4 (pm_si σ 1 15 (σ.1 1 18))) := by
  have n40 : ¬ (4 : Int32) = 0 := by decide
  have i2 : pm_ib (nI kn) 5 = true := pm_ib_nI (by omega) (by omega)
  have c2 : (nI kn).toNatClampNeg = kn := nI_clamp (by omega)
  have stop : ∀ m v, fX12_takeNick_L19 lw_SR 1 kx (m + 1) 4 v (pm_si σ 1 15 (σ.1 1 18)) = kx 4 (pm_si σ 1 15 (σ.1 1 18)) := by
    intro m v
    rw [fX12_takeNick_L19]
    split
    · rfl
    · rfl
  have loop : ∀ k i m, i + k = kn → k + 1 < m → (∀ j, j < i → ¬ σ.1 9 j = x) → ((∀ i, i < kn → ¬ σ.1 9 i = x) → fX12_takeNick_L19 lw_SR 1 kx m 0 (nI i) σ = kx 0 σ) ∧ ((∃ i, i < kn ∧ σ.1 9 i = x) → fX12_takeNick_L19 lw_SR 1 kx m 0 (nI i) σ = kx 4 (pm_si σ 1 15 (σ.1 1 18))) := by
    intro k
    induction k with
    | zero =>
      intro i m hi hm h
      obtain ⟨m, rfl⟩ : ∃ z, m = z + 1 := ⟨m - 1, by omega⟩
      have hin : i = kn := by omega
      subst hin
      refine ⟨fun _ => by rw [fX12_takeNick_L19, e21, if_pos (Int32.le_refl _)], fun ⟨j, hj, he⟩ => absurd he (h j hj)⟩
    | succ k ih =>
      intro i m hi hm h
      obtain ⟨m, rfl⟩ : ∃ z, m = z + 2 := ⟨m - 2, by omega⟩
      have e0 : ¬ nI kn ≤ nI i := fun z => by have := (qn_le_iff (by omega) (by omega)).mp z; omega
      have i1 : pm_ib (nI i) 5 = true := pm_ib_nI (by omega) (by omega)
      have c1 : (nI i).toNatClampNeg = i := nI_clamp (by omega)
      rw [fX12_takeNick_L19, e21, if_neg e0, if_pos rfl]
      simp only [g3, lgR, lenR, i1, c1, i2, c2, if_true, ex, (nL i).2.2.2.2.2.2]
      by_cases hx : σ.1 9 i = x
      · refine ⟨fun h' => absurd hx (h' i (by omega)), fun _ => ?_⟩
        rw [if_pos hx]
        simp only [fX12_fails, pm_let, Option.bind_some]
        exact stop m _
      · simp only [if_neg hx]
        exact ih (i + 1) (m + 1) (by omega) (by omega) (fun j hj => by
          by_cases e : j = i
          · subst e; exact hx
          · exact h j (by omega))
  exact loop kn 0 pm_fuel (by omega) (by unfold pm_fuel; omega) (fun j hj => absurd hj (Nat.not_lt_zero _))
theorem ev_L19f {σ : pm_H} {f : Int32} (hf : ¬ f = 0) (kx : Int32 → pm_H → Option (Int32 × pm_H)) : fX12_takeNick_L19 lw_SR 1 kx pm_fuel f 0 σ = kx f σ := by
  obtain ⟨m, hm⟩ : ∃ m, pm_fuel = m + 1 := ⟨pm_fuel - 1, by unfold pm_fuel; omega⟩
  rw [hm, fX12_takeNick_L19]
  split
  · rfl
  · rfl
theorem ev_nick {D n : Nat} {tx : Nat → Int32} {c r : pm_H} {i L kn ko np ks : Nat} (hD : D = 5 ∨ D = 11) (G : pu_Gd (16 - D) n tx c r i) (hi : i < n) (h12 : 12 ≤ L) (H : pu_Dp c r D L kn ko np ks) : pu_Cl D (16 - D) n tx c r i (fX5_readNick lw_SC 3 D c) (fX12_takeClause_J82 lw_SR 1 1 r) := by
  have n10 : ¬ (1 : Int32) = 0 := by decide
  have n40 : ¬ (4 : Int32) = 0 := by decide
  obtain ⟨hL, H0, ⟨a1, a2, a3, a4⟩, H2, H3, H4⟩ := H
  by_cases hk : kn < 5
  · have e0 : ¬ (5 : Int32) ≤ c.1 D 3 := fun z => by rw [a2] at z; have := (qn_le_iff (a := 5) (by omega) (by omega)).mp z; omega
    have hfull : fX12_isFull lw_SR 1 1 r = some (0, r) := by
      have : ¬ nI kn = 5 := fun z => by have := (qn_inj (b := 5) (by omega) (by omega)).mp z; omega
      rw [fX12_isFull, if_neg (by decide), if_pos rfl, a3, if_neg this]
    obtain ⟨c1, r1, w1, w2, w3, w4, G1⟩ := ev_wgo G hi
    obtain ⟨v1, f1, c2, r2, y1, y2, y3, y4, y5⟩ := ev_num 1 239 G1
    have i1 : pm_ib (nI kn) 5 = true := pm_ib_nI (by omega) (by omega)
    have k1 : (nI kn).toNatClampNeg = kn := nI_clamp (by omega)
    have s21 : r1.1 1 21 = nI kn := by rw [w4.2.2 21 (by omega)]; exact a3
    have s22 : r1.2 1 22 = 9 := by rw [w4.1, G.2.1.1]; simp only [lgR]
    obtain ⟨r3, hr3⟩ : ∃ r3, r3 = pm_si r2 9 kn (r2.1 1 17) := ⟨_, rfl⟩
    have hinto : fX12_into lw_SR 1 9 (nI kn) 1 239 r1 = some (f1, r3) := by
      rw [fX12_into, y2, Option.bind_some]
      simp only [lenR, i1, k1, if_true, pm_let, hr3]
    have t21 : r3.1 1 21 = nI kn := by rw [hr3, pm_si_row (by omega), y4.2.2 21 (by omega)]; exact s21
    have g3 : r3.2 = lw_R0.2 := by rw [hr3]; show r2.2 = _; rw [y4.1, w4.1]; exact G.2.1.1
    have body : ∀ f r4, fX12_takeNick_L19 lw_SR 1 (fun w11 s12 => pm_let (pm_si s12 1 21 ((s12.1 1 21) + (1 : Int32))) fun s13 => some (w11, s13)) pm_fuel f1 0 r3 = some (f, r4) → fX12_takeBody lw_SR 1 1 (pm_si r 1 16 (r.1 1 16 + 1)) = some (f, r4) := by
      intro f r4 h
      rw [w2, fX12_takeBody, if_neg (by decide), if_pos rfl, fX12_takeNick, s21, s22, hinto, Option.bind_some]
      rw [h, Option.bind_some]
    have F2 : pu_F D c r c2 (pm_si r3 1 21 (nI (kn + 1))) := by
      have := ((pu_F.of (w3.tr y3) (w4.tr y4)).r (D := D) (c := c) (r := r) (q := 9) (k := kn) (x := r2.1 1 17) (by omega))
      rw [← hr3] at this
      exact this.r (by omega)
    have hc2 : pu_TC (16 - D) n tx c2 := (G.1.cX w3).cX y3
    have d3 : c2.1 D 3 = nI kn := by rw [y3.2.1 D (by omega), w3.2.1 D (by omega)]; exact a2
    have hn := ev_hasNick hD hc2 a1 d3 v1
    rcases y5 with ⟨rfl, y6, y7, y8, j, hj, G2⟩ | ⟨⟨hf, hf'⟩, F, p, hJ, rfl, hp⟩
    · have t9 : r3.1 9 kn = v1 := by rw [hr3, pm_si_same]; exact y6
      have t9' : ∀ i, i < kn → r3.1 9 i = c2.1 (D + 1) i := fun i hi => by
        rw [hr3, pm_si_ne (by omega), y4.2.1 9 (by omega), w4.2.1 9 (by omega), (a4 i hi).1, y3.2.1 (D + 1) (by omega), w3.2.1 (D + 1) (by omega)]
      obtain ⟨L1, L2⟩ := ev_L19 (x := v1) g3 hk t21 t9 (fun w11 s12 => pm_let (pm_si s12 1 21 ((s12.1 1 21) + (1 : Int32))) fun s13 => some (w11, s13))
      rcases hn with ⟨hn1, hn2⟩ | ⟨hn1, i0, hn2, hn3⟩
      · have hb := body 0 (pm_si r3 1 21 (nI (kn + 1))) (by
          rw [L1 (fun i hi => by rw [t9' i hi]; exact hn2 i hi)]
          simp only [pm_let, t21, (nL kn).2.2.2.2.2.2])
        have G2' : pu_Gd (16 - D) n tx c2 (pm_si r3 1 21 (nI (kn + 1))) j := G2.mv rfl rfl rfl (by rw [hr3]; rfl) (by rw [pm_si_row (by omega), hr3, pm_si_row (by omega)]) (fun k _ _ => by rw [pm_si_ne (by omega), hr3, pm_si_row (by omega)])
        obtain ⟨f3, c4, r4, x1, x2, x3, x4, x5⟩ := ev_end G2'
        have F4 : pu_F D c r c4 r4 := F2.tr (pu_F.of x3 x4)
        have cc : ∀ q, q ≠ 3 → c4.1 q = c.1 q := fun q hq => by rw [x3.2.1 q hq, y3.2.1 q hq, w3.2.1 q hq]
        rcases x5 with ⟨rfl, j3, hj3, G4⟩ | ⟨hf3, F, p, hJ, rfl, hp⟩
        · have e00 : c4.1 3 0 = 0 := G4.2.2.2.1
          have g4 : c4.2 = lgC (16 - D) 2 := G4.1.1
          have c8 : c4.1 D 3 = nI kn := by rw [cc D (by omega)]; exact a2
          have c8' : (pm_si c4 (D + 1) kn v1).1 D 3 = nI kn := by rw [pm_si_row (by omega)]; exact c8
          refine ⟨0, pm_si (pm_si c4 (D + 1) kn v1) D 3 (nI (kn + 1)), r4, ?_, ?_, (F4.c (by omega)).c (by omega), Or.inl ⟨rfl, j3, by omega, G4.mv rfl (by rw [pm_si_row (by omega), pm_si_row (by omega)]) (by rw [pm_si_row (by omega), pm_si_row (by omega)]) rfl rfl (fun _ _ _ => rfl), ?_⟩⟩
          · rw [fX5_readNick, if_neg e0, fX5_readNick_J14, w1, Option.bind_some, if_neg n10, y1, Option.bind_some, hn1, Option.bind_some, if_pos rfl, fX5_readNick_J47, x1, Option.bind_some, if_pos e00]
            simp only [c8, g4, lgD hD, lenT hD, i1, k1, if_true, pm_let, c8', (nL kn).2.2.2.2.2.2]
          · rw [ev_J82 hfull hb, if_pos rfl]; exact x2
          · have rr : ∀ q, q ≠ 1 → q ≠ 9 → r4.1 q = r.1 q := fun q hq hq2 => by rw [x4.2.1 q hq, pm_si_row hq, hr3, pm_si_row hq2, y4.2.1 q hq, w4.2.1 q hq]
            have r1' : ∀ k, 19 ≤ k → k ≠ 21 → r4.1 1 k = r.1 1 k := fun k hk hk2 => by rw [x4.2.2 k (by omega), pm_si_ne (by omega), hr3, pm_si_row (by omega), y4.2.2 k (by omega), w4.2.2 k (by omega)]
            have r26' : r4.1 1 21 = nI (kn + 1) := by rw [x4.2.2 21 (by omega), pm_si_same]
            have r12 : r4.1 9 kn = v1 := by rw [x4.2.1 9 (by omega), pm_si_row (by omega)]; exact t9
            have r12' : ∀ i, i < kn → r4.1 9 i = r.1 9 i := fun i hi => by rw [x4.2.1 9 (by omega), pm_si_row (by omega), hr3, pm_si_ne (by omega), y4.2.1 9 (by omega), w4.2.1 9 (by omega)]
            refine ⟨L, kn + 1, ko, np, ks, Or.inl h12, H0.cg ?_ ?_ (r1' 19 (by omega) (by omega)) (r1' 20 (by omega) (by omega)), ⟨by omega, pm_si_same, r26', fun i hi => ?_⟩, H2.cg ?_ ?_ ?_ (r1' 23 (by omega) (by omega)) (rr 10 (by omega) (by omega)) (rr 11 (by omega) (by omega)), H3.cg ?_ ?_ (r1' 26 (by omega) (by omega)) (rr 12 (by omega) (by omega)), H4.cg ?_ ?_ (r1' 28 (by omega) (by omega)) (rr 13 (by omega) (by omega))⟩
            · rw [pm_si_ne (by omega), pm_si_row (by omega), cc D (by omega)]
            · rw [pm_si_ne (by omega), pm_si_row (by omega), cc D (by omega)]
            · rw [pm_si_row (by omega)]
              by_cases hin : i = kn
              · subst hin
                rw [pm_si_same, r12]
                exact ⟨rfl, by simpa using y7.1, by simpa using y7.2⟩
              · rw [pm_si_ne (by omega), r12' i (by omega), cc (D + 1) (by omega)]
                exact a4 i (by omega)
            · rw [pm_si_ne (by omega), pm_si_row (by omega), cc D (by omega)]
            · rw [pm_si_row (by omega), pm_si_row (by omega), cc (D + 2) (by omega)]
            · rw [pm_si_row (by omega), pm_si_row (by omega), cc (D + 3) (by omega)]
            · rw [pm_si_ne (by omega), pm_si_row (by omega), cc D (by omega)]
            · rw [pm_si_row (by omega), pm_si_row (by omega), cc (D + 4) (by omega)]
            · rw [pm_si_ne (by omega), pm_si_row (by omega), cc D (by omega)]
            · rw [pm_si_row (by omega), pm_si_row (by omega), cc (D + 5) (by omega)]
        · refine ⟨nI F, c4, r4, ?_, ?_, F4, Or.inr ⟨hf3, F, p, hJ, rfl, hp⟩⟩
          · rw [fX5_readNick, if_neg e0, fX5_readNick_J14, w1, Option.bind_some, if_neg n10, y1, Option.bind_some, hn1, Option.bind_some, if_pos rfl, fX5_readNick_J47, x1, Option.bind_some, if_neg hJ.ne]
          · rw [ev_J82 hfull hb, if_pos rfl]; exact x2
      · have hb := body 4 (pm_si (pm_si r3 1 15 (r3.1 1 18)) 1 21 (nI (kn + 1))) (by
          rw [L2 ⟨i0, hn2, by rw [t9' i0 hn2]; exact hn3⟩]
          have : (pm_si r3 1 15 (r3.1 1 18)).1 1 21 = nI kn := by rw [pm_si_ne (by omega)]; exact t21
          simp only [pm_let, this, (nL kn).2.2.2.2.2.2])
        obtain ⟨c3, b1, b2, b3, b4, b5⟩ := ev_blame 4 (c2.1 3 5) c2
        obtain ⟨b6, b7⟩ := b4 G2.2.2.2.1
        have hJ : pu_Jk (16 - D) n tx c3 4 (c2.1 3 5) := ⟨hc2.cX b2, by omega, b6, b7, j, G2.2.2.1.2.2, by rw [b3 4 (by omega)]; exact G2.2.2.1.1⟩
        obtain ⟨c4, x1, x2, x3⟩ := hJ.fin
        refine ⟨4, c4, _, ?_, (ev_J82 hfull hb).trans (if_neg n40), ?_, Or.inr ⟨n40, 4, _, x3, rfl, ?_⟩⟩
        · rw [fX5_readNick, if_neg e0, fX5_readNick_J14, w1, Option.bind_some, if_neg n10, y1, Option.bind_some, hn1, Option.bind_some, if_neg n10, b1, Option.bind_some, fX5_readNick_J47, x1, Option.bind_some, if_neg x3.ne]
        · have F3 : pu_F D c r c4 r3 := by
            have := ((pu_F.of (((w3.tr y3).tr b2).tr x2) (w4.tr y4)).r (D := D) (c := c) (r := r) (q := 9) (k := kn) (x := r2.1 1 17) (by omega))
            rw [← hr3] at this
            exact this
          exact ((F3.r (by omega)).r (by omega)).r (by omega)
        · rw [pm_si_ne (by omega), pm_si_ne (by omega), pm_si_same, hr3, pm_si_row (by omega)]; exact y8.symm
    · have hb := body (nI F) (pm_si r3 1 21 (nI (kn + 1))) (by
        rw [ev_L19f hf]
        simp only [pm_let, t21, (nL kn).2.2.2.2.2.2])
      obtain ⟨c4, x1, x2, x3⟩ := hJ.fin
      refine ⟨nI F, c4, _, ?_, (ev_J82 hfull hb).trans (if_neg hf), (F2.tr (pu_F.of x2 (pu_rX.rf _))).r (by omega), Or.inr ⟨hf, F, p, x3, rfl, ?_⟩⟩
      · rcases hn with ⟨hn1, hn2⟩ | ⟨hn1, i0, hn2, hn3⟩
        · rw [fX5_readNick, if_neg e0, fX5_readNick_J14, w1, Option.bind_some, if_neg n10, y1, Option.bind_some, hn1, Option.bind_some, if_pos rfl, fX5_readNick_J47, x1, Option.bind_some, if_neg x3.ne]
        · obtain ⟨c3, b1, b2, b3, b4, b5⟩ := ev_blame 4 (c2.1 3 5) c2
          have b5' := b5 hJ.ne
          rw [b5'] at b1
          rw [fX5_readNick, if_neg e0, fX5_readNick_J14, w1, Option.bind_some, if_neg n10, y1, Option.bind_some, hn1, Option.bind_some, if_neg n10, b1, Option.bind_some, fX5_readNick_J47, x1, Option.bind_some, if_neg x3.ne]
      · rw [pm_si_ne (by omega), pm_si_ne (by omega), hr3, pm_si_row (by omega)]; exact hp
  · have hk6 : kn = 5 := by omega
    have e0 : (5 : Int32) ≤ c.1 D 3 := by rw [a2, hk6]; decide
    refine ev_clfull G (fun c' h => ?_) ?_
    · rw [fX5_readNick, if_pos e0, fX5_readNick_J14, h, Option.bind_some, if_pos rfl]
    · rw [fX12_isFull, if_neg (by decide), if_pos rfl, a3, hk6, if_pos (by decide)]
