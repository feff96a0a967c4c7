theorem ev_office {D n : Nat} {tx : Nat → Int32} {c r : pm_H} {i L kn ko np ks : Nat} (hD : D = 5 ∨ D = 11) (G : pu_Gd (16 - D) n tx c r i) (hi : i < n) (h12 : 12 ≤ L) (H : pu_Dp c r D L kn ko np ks) : pu_Cl D (16 - D) n tx c r i (fX5_readOffice lw_SC 3 D c) (fX12_takeClause_J82 lw_SR 1 2 r) := by
  have n10 : ¬ (1 : Int32) = 0 := by decide
  obtain ⟨hL, H0, H1, ⟨a1, a2, a3, a4⟩, H3, H4⟩ := H
  by_cases hk : ko < 6
  · have e0 : ¬ (6 : Int32) ≤ c.1 D 6 := fun z => by rw [a2] at z; have := (qn_le_iff (a := 6) (by omega) (by omega)).mp z; omega
    have hfull : fX12_isFull lw_SR 1 2 r = some (0, r) := by
      have : ¬ nI ko = 6 := fun z => by have := (qn_inj (b := 6) (by omega) (by omega)).mp z; omega
      rw [fX12_isFull, if_neg (by decide), if_neg (by decide), if_pos rfl, a3, if_neg this]
    obtain ⟨c1, r1, w1, w2, w3, w4, G1⟩ := ev_wgo G hi
    have s23 : r1.1 1 23 = nI ko := by rw [w4.2.2 23 (by omega)]; exact a3
    obtain ⟨s1, hs1⟩ : ∃ s1, s1 = pm_si r1 1 23 (nI (ko + 1)) := ⟨_, rfl⟩
    have G1' : pu_Gd (16 - D) n tx c1 s1 (i + 1) := G1.mv rfl rfl rfl (by rw [hs1]; rfl) (by rw [hs1, pm_si_row (by omega)]) (fun k _ _ => by rw [hs1, pm_si_ne (by omega)])
    obtain ⟨v1, f1, c2, r2, y1, y2, y3, y4, y5⟩ := ev_num 1 99 G1'
    have i1 : pm_ib (nI ko) 6 = true := pm_ib_nI (by omega) (by omega)
    have k1 : (nI ko).toNatClampNeg = ko := nI_clamp (by omega)
    have g3 : s1.2 = lw_R0.2 := G1'.2.1.1
    obtain ⟨r3, hr3⟩ : ∃ r3, r3 = pm_si r2 10 ko (r2.1 1 17) := ⟨_, rfl⟩
    have hinto : fX12_into lw_SR 1 10 (nI ko) 1 99 s1 = some (f1, r3) := by
      rw [fX12_into, y2, Option.bind_some]
      simp only [lenR, i1, k1, if_true, pm_let, hr3]
    have g3' : r3.2 = lw_R0.2 := by rw [hr3]; show r2.2 = _; rw [y4.1]; exact g3
    have F1 : pu_F D c r c1 s1 := by rw [hs1]; exact (pu_F.of w3 w4).r (by omega)
    have F2 : pu_F D c r c2 r3 := by rw [hr3]; exact (F1.tr (pu_F.of y3 y4)).r (by omega)
    rcases y5 with ⟨rfl, y6, y7, y8, j, hj, G2⟩ | ⟨⟨hf, hf'⟩, F, p, hJ, rfl, hp⟩
    · have hle : (0 : Int32) ≤ 0 := Int32.le_refl _
      have t10 : r3.1 10 ko = v1 := by rw [hr3, pm_si_same]; exact y6
      have G2' : pu_Gd (16 - D) n tx c2 r3 j := G2.mv rfl rfl rfl (by rw [hr3]; rfl) (by rw [hr3, pm_si_row (by omega)]) (fun k _ _ => by rw [hr3, pm_si_row (by omega)])
      obtain ⟨v2, f2, c3, r4, z1, z2, z3, z4, z5⟩ := ev_num v1 99 G2'
      have hb : fX12_takeBody lw_SR 1 2 (pm_si r 1 16 (r.1 1 16 + 1)) = some (f2, pm_si r4 11 ko (r4.1 1 17)) := by
        rw [w2, fX12_takeBody, if_neg (by decide), if_neg (by decide), if_pos rfl, fX12_takeOffice]
        simp only [pm_let, s23, (nL ko).2.2.2.2.2.2]
        rw [← hs1]
        simp only [g3, lgR, hinto, Option.bind_some, if_pos hle, g3', lenR, i1, k1, if_true, t10]
        rw [fX12_into, z2, Option.bind_some]
        simp only [lenR, i1, k1, if_true, pm_let, Option.bind_some]
      have F3 : pu_F D c r c3 (pm_si r4 11 ko (r4.1 1 17)) := (F2.tr (pu_F.of z3 z4)).r (by omega)
      rcases z5 with ⟨rfl, z6, z7, z8, j2, hj2, G3⟩ | ⟨⟨hf, hf'⟩, F, p, hJ, rfl, hp⟩
      · have G3' : pu_Gd (16 - D) n tx c3 (pm_si r4 11 ko (r4.1 1 17)) j2 := G3.mv rfl rfl rfl rfl (pm_si_row (by omega)) (fun k _ _ => pm_si_ne (by omega))
        obtain ⟨f3, c4, r5, x1, x2, x3, x4, x5⟩ := ev_end G3'
        have F4 : pu_F D c r c4 r5 := F3.tr (pu_F.of x3 x4)
        have cc : ∀ q, q ≠ 3 → c4.1 q = c.1 q := fun q hq => by rw [x3.2.1 q hq, z3.2.1 q hq, y3.2.1 q hq, w3.2.1 q hq]
        rcases x5 with ⟨rfl, j3, hj3, G4⟩ | ⟨hf3, F, p, hJ, rfl, hp⟩
        · have e00 : c4.1 3 0 = 0 := G4.2.2.2.1
          have g4 : c4.2 = lgC (16 - D) 2 := G4.1.1
          have g4' : (pm_si c4 (D + 2) ko v1).2 = lgC (16 - D) 2 := g4
          have c8 : c4.1 D 6 = nI ko := by rw [cc D (by omega)]; exact a2
          have c8' : (pm_si c4 (D + 2) ko v1).1 D 6 = nI ko := by rw [pm_si_row (by omega)]; exact c8
          have c8'' : (pm_si (pm_si c4 (D + 2) ko v1) (D + 3) ko v2).1 D 6 = nI ko := by rw [pm_si_row (by omega)]; exact c8'
          refine ⟨0, pm_si (pm_si (pm_si c4 (D + 2) ko v1) (D + 3) ko v2) D 6 (nI (ko + 1)), r5, ?_, ?_, ((F4.c (by omega)).c (by omega)).c (by omega), Or.inl ⟨rfl, j3, by omega, G4.mv rfl (by rw [pm_si_row (by omega), pm_si_row (by omega), pm_si_row (by omega)]) (by rw [pm_si_row (by omega), pm_si_row (by omega), pm_si_row (by omega)]) rfl rfl (fun _ _ _ => rfl), ?_⟩⟩
          · rw [fX5_readOffice, if_neg e0, fX5_readOffice_J15, w1, Option.bind_some, if_neg n10, y1, Option.bind_some, z1, Option.bind_some, x1, Option.bind_some, if_pos e00]
            simp only [c8, g4, lgD hD, lenT hD, i1, k1, if_true, pm_let, c8', g4', c8'', (nL ko).2.2.2.2.2.2]
          · rw [ev_J82 hfull hb, if_pos rfl]; exact x2
          · have rr : ∀ q, q ≠ 1 → q ≠ 10 → q ≠ 11 → r5.1 q = r.1 q := fun q hq hq2 hq3 => by rw [x4.2.1 q hq, pm_si_row hq3, z4.2.1 q hq, hr3, pm_si_row hq2, y4.2.1 q hq, hs1, pm_si_row hq, w4.2.1 q hq]
            have r1' : ∀ k, 19 ≤ k → k ≠ 23 → r5.1 1 k = r.1 1 k := fun k hk hk2 => by rw [x4.2.2 k (by omega), pm_si_row (by omega), z4.2.2 k (by omega), hr3, pm_si_row (by omega), y4.2.2 k (by omega), hs1, pm_si_ne (by omega), w4.2.2 k (by omega)]
            have r23' : r5.1 1 23 = nI (ko + 1) := by rw [x4.2.2 23 (by omega), pm_si_row (by omega), z4.2.2 23 (by omega), hr3, pm_si_row (by omega), y4.2.2 23 (by omega), hs1, pm_si_same]
            have r10 : r5.1 10 ko = v1 := by rw [x4.2.1 10 (by omega), pm_si_row (by omega), z4.2.1 10 (by omega)]; exact t10
            have r11 : r5.1 11 ko = v2 := by rw [x4.2.1 11 (by omega), pm_si_same]; exact z6
            have r10' : ∀ i, i < ko → r5.1 10 i = r.1 10 i := fun i hi => by rw [x4.2.1 10 (by omega), pm_si_row (by omega), z4.2.1 10 (by omega), hr3, pm_si_ne (by omega), y4.2.1 10 (by omega), hs1, pm_si_row (by omega), w4.2.1 10 (by omega)]
            have r11' : ∀ i, i < ko → r5.1 11 i = r.1 11 i := fun i hi => by rw [x4.2.1 11 (by omega), pm_si_ne (by omega), z4.2.1 11 (by omega), hr3, pm_si_row (by omega), y4.2.1 11 (by omega), hs1, pm_si_row (by omega), w4.2.1 11 (by omega)]
            have u1 : (1 : Int) ≤ v1.toInt := by simpa using y7.1
            have u2 : v1.toInt ≤ 99 := by simpa using y7.2
            have u3 : v2.toInt ≤ 99 := by simpa using z7.2
            have u4 : v1.toInt ≤ v2.toInt := z7.1
            refine ⟨L, kn, ko + 1, np, ks, Or.inl h12, H0.cg ?_ ?_ (r1' 19 (by omega) (by omega)) (r1' 20 (by omega) (by omega)), H1.cg ?_ ?_ (r1' 21 (by omega) (by omega)) (rr 9 (by omega) (by omega) (by omega)), ⟨by omega, pm_si_same, r23', fun i hi => ?_⟩, H3.cg ?_ ?_ (r1' 26 (by omega) (by omega)) (rr 12 (by omega) (by omega) (by omega)), H4.cg ?_ ?_ (r1' 28 (by omega) (by omega)) (rr 13 (by omega) (by omega) (by omega))⟩
            · rw [pm_si_ne (by omega), pm_si_row (by omega), pm_si_row (by omega), cc D (by omega)]
            · rw [pm_si_ne (by omega), pm_si_row (by omega), pm_si_row (by omega), cc D (by omega)]
            · rw [pm_si_ne (by omega), pm_si_row (by omega), pm_si_row (by omega), cc D (by omega)]
            · rw [pm_si_row (by omega), pm_si_row (by omega), pm_si_row (by omega), cc (D + 1) (by omega)]
            · have m2 : (pm_si (pm_si (pm_si c4 (D + 2) ko v1) (D + 3) ko v2) D 6 (nI (ko + 1))).1 (D + 2) i = (pm_si c4 (D + 2) ko v1).1 (D + 2) i := by rw [pm_si_row (by omega), pm_si_row (by omega)]
              have m3 : (pm_si (pm_si (pm_si c4 (D + 2) ko v1) (D + 3) ko v2) D 6 (nI (ko + 1))).1 (D + 3) i = (pm_si (pm_si c4 (D + 2) ko v1) (D + 3) ko v2).1 (D + 3) i := by rw [pm_si_row (by omega)]
              rw [m2, m3]
              by_cases hin : i = ko
              · subst hin
                rw [pm_si_same, pm_si_same, r10, r11]
                exact ⟨rfl, rfl, u1, u2, by omega, u3⟩
              · rw [pm_si_ne (by omega), pm_si_ne (by omega), pm_si_row (by omega), r10' i (by omega), r11' i (by omega), cc (D + 2) (by omega), cc (D + 3) (by omega)]
                exact a4 i (by omega)
            · rw [pm_si_ne (by omega), pm_si_row (by omega), pm_si_row (by omega), cc D (by omega)]
            · rw [pm_si_row (by omega), pm_si_row (by omega), pm_si_row (by omega), cc (D + 4) (by omega)]
            · rw [pm_si_ne (by omega), pm_si_row (by omega), pm_si_row (by omega), cc D (by omega)]
            · rw [pm_si_row (by omega), pm_si_row (by omega), pm_si_row (by omega), cc (D + 5) (by omega)]
        · refine ⟨nI F, c4, r5, ?_, ?_, F4, Or.inr ⟨hf3, F, p, hJ, rfl, hp⟩⟩
          · rw [fX5_readOffice, if_neg e0, fX5_readOffice_J15, w1, Option.bind_some, if_neg n10, y1, Option.bind_some, z1, Option.bind_some, x1, Option.bind_some, if_neg hJ.ne]
          · rw [ev_J82 hfull hb, if_pos rfl]; exact x2
      · obtain ⟨c4, x1, x2, x3⟩ := hJ.fin
        refine ⟨nI F, c4, _, ?_, (ev_J82 hfull hb).trans (if_neg hf), (F3.tr (pu_F.of x2 (pu_rX.rf _))).r (by omega), Or.inr ⟨hf, F, p, x3, rfl, ?_⟩⟩
        · rw [fX5_readOffice, if_neg e0, fX5_readOffice_J15, w1, Option.bind_some, if_neg n10, y1, Option.bind_some, z1, Option.bind_some, x1, Option.bind_some, if_neg x3.ne]
        · rw [pm_si_ne (by omega), pm_si_row (by omega)]; exact hp
    · obtain ⟨v2, c3, z1, z2, z3⟩ := hJ.num v1 99
      obtain ⟨c4, x1, x2, x3⟩ := z3.fin
      have hb : fX12_takeBody lw_SR 1 2 (pm_si r 1 16 (r.1 1 16 + 1)) = some (nI F, r3) := by
        rw [w2, fX12_takeBody, if_neg (by decide), if_neg (by decide), if_pos rfl, fX12_takeOffice]
        simp only [pm_let, s23, (nL ko).2.2.2.2.2.2]
        rw [← hs1]
        simp only [g3, lgR, hinto, Option.bind_some, if_neg hf']
      refine ⟨nI F, c4, _, ?_, (ev_J82 hfull hb).trans (if_neg hf), (F2.tr (pu_F.of (z2.tr x2) (pu_rX.rf _))).r (by omega), Or.inr ⟨hf, F, p, x3, rfl, ?_⟩⟩
      · rw [fX5_readOffice, if_neg e0, fX5_readOffice_J15, w1, Option.bind_some, if_neg n10, y1, Option.bind_some, z1, Option.bind_some, x1, Option.bind_some, if_neg x3.ne]
      · rw [pm_si_ne (by omega), hr3, pm_si_row (by omega)]; exact hp
  · have hk6 : ko = 6 := by omega
    have e0 : (6 : Int32) ≤ c.1 D 6 := by rw [a2, hk6]; decide
    refine ev_clfull G (fun c' h => ?_) ?_
    · rw [fX5_readOffice, if_pos e0, fX5_readOffice_J15, h, Option.bind_some, if_pos rfl]
    · rw [fX12_isFull, if_neg (by decide), if_neg (by decide), if_pos rfl, a3, hk6, if_pos (by decide)]
