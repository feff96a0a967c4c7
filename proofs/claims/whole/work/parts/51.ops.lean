def pu_Cl (D T n : Nat) (tx : Nat → Int32) (c r : pm_H) (i : Nat) (A : Option pm_H) (B : Option (Int32 × pm_H)) : Prop := ∃ f c' r', A = some c' ∧ B = some (f, r') ∧ pu_F D c r c' r' ∧ ((f = 0 ∧ ∃ j, i < j ∧ pu_Gd T n tx c' r' j ∧ ∃ L kn ko np ks, pu_Dp c' r' D L kn ko np ks) ∨ (¬ f = 0 ∧ pu_Bd T n tx c' r' f))
theorem pu_Jk.ne {T n : Nat} {tx : Nat → Int32} {c : pm_H} {F : Nat} {p : Int32} (h : pu_Jk T n tx c F p) : ¬ c.1 3 0 = 0 := by
  rw [h.2.2.1]; exact nI_ne0 (by have := h.2.1; omega) (by have := h.2.1; omega)
theorem ev_clfull {D T n : Nat} {tx : Nat → Int32} {c r : pm_H} {i : Nat} {A : Option pm_H} {k : Int32} (G : pu_Gd T n tx c r i) (hA : ∀ c', fX5_takeWord lw_SC 3 0 c = some (0, c') → A = some c') (hfull : fX12_isFull lw_SR 1 k r = some (1, r)) : pu_Cl D T n tx c r i A (fX12_takeClause_J82 lw_SR 1 k r) := by
  obtain ⟨c', y1, y2, y3, y4⟩ := ev_wfull G
  exact ⟨3, c', _, hA c' y1, ev_J82f hfull, pu_F.of y2 y3, Or.inr ⟨by decide, y4⟩⟩
theorem ev_rod {D n : Nat} {tx : Nat → Int32} {c r : pm_H} {i L kn ko np ks : Nat} (hD : D = 5 ∨ D = 11) (G : pu_Gd (16 - D) n tx c r i) (hi : i < n) (H : pu_Dp c r D L kn ko np ks) : pu_Cl D (16 - D) n tx c r i (fX5_readRod lw_SC 3 D c) (fX12_takeClause_J82 lw_SR 1 0 r) := by
  have n10 : ¬ (1 : Int32) = 0 := by decide
  obtain ⟨hL, ⟨a1, a2, a3, a4, a5⟩, H1, H2, H3, H4⟩ := H
  by_cases hL0 : L = 0
  · subst hL0
    have e0 : c.1 D 0 = 0 := a3
    have hfull : fX12_isFull lw_SR 1 0 r = some (0, r) := by rw [fX12_isFull, if_pos rfl, a4, if_pos (by decide)]
    obtain ⟨c1, r1, w1, w2, w3, w4, G1⟩ := ev_wgo G hi
    obtain ⟨v1, f1, c2, r2, y1, y2, y3, y4, y5⟩ := ev_num 12 240 G1
    have F2 : pu_F D c r c2 (pm_si r2 1 19 (r2.1 1 17)) := (pu_F.of (w3.tr y3) (w4.tr y4)).r (by omega)
    rcases y5 with ⟨rfl, y6, y7, y8, j, hj, G2⟩ | ⟨⟨hf, hf'⟩, F, p, hJ, rfl, hp⟩
    · have hle : (0 : Int32) ≤ 0 := Int32.le_refl _
      have G2' : pu_Gd (16 - D) n tx c2 (pm_si r2 1 19 (r2.1 1 17)) j := G2.mv rfl rfl rfl rfl (pm_si_row (by omega)) (fun k _ _ => pm_si_ne (by omega))
      obtain ⟨v2, f2, c3, r3, z1, z2, z3, z4, z5⟩ := ev_num 0 9 G2'
      have hb : fX12_takeBody lw_SR 1 0 (pm_si r 1 16 (r.1 1 16 + 1)) = some (f2, pm_si r3 1 20 (r3.1 1 17)) := by
        rw [w2, fX12_takeBody, if_pos rfl, fX12_takeRod, y2, Option.bind_some]
        simp only [pm_let, if_pos hle, z2, Option.bind_some]
      have F3 : pu_F D c r c3 (pm_si r3 1 20 (r3.1 1 17)) := (F2.tr (pu_F.of z3 z4)).r (by omega)
      rcases z5 with ⟨rfl, z6, z7, z8, j2, hj2, G3⟩ | ⟨⟨hf, hf'⟩, F, p, hJ, rfl, hp⟩
      · have G3' : pu_Gd (16 - D) n tx c3 (pm_si r3 1 20 (r3.1 1 17)) j2 := G3.mv rfl rfl rfl rfl (pm_si_row (by omega)) (fun k _ _ => pm_si_ne (by omega))
        obtain ⟨f3, c4, r4, x1, x2, x3, x4, x5⟩ := ev_end G3'
        have F4 : pu_F D c r c4 r4 := F3.tr (pu_F.of x3 x4)
        rcases x5 with ⟨rfl, j3, hj3, G4⟩ | ⟨hf3, F, p, hJ, rfl, hp⟩
        · have e00 : c4.1 3 0 = 0 := G4.2.2.2.1
          refine ⟨0, pm_si (pm_si c4 D 0 v1) D 1 v2, r4, ?_, ?_, (F4.c (by omega)).c (by omega), Or.inl ⟨rfl, j3, by omega, G4.mv rfl (by rw [pm_si_row (by omega), pm_si_row (by omega)]) (by rw [pm_si_row (by omega), pm_si_row (by omega)]) rfl rfl (fun _ _ _ => rfl), ?_⟩⟩
          · rw [fX5_readRod, if_pos e0, fX5_readRod_J13, w1, Option.bind_some, if_neg n10, y1, Option.bind_some, z1, Option.bind_some, x1, Option.bind_some, if_pos e00]
            rfl
          · rw [ev_J82 hfull hb, if_pos rfl]; exact x2
          · obtain ⟨k1, p1, ⟨p2, p3⟩, p4⟩ := qn_of (lo := 12) (hi := 240) (by omega) (by simpa using y7.1) (by simpa using y7.2)
            obtain ⟨k2, q1, ⟨q2, q3⟩, q4⟩ := qn_of (lo := 0) (hi := 9) (by omega) (by simpa using z7.1) (by simpa using z7.2)
            have cc : ∀ q, q ≠ 3 → c4.1 q = c.1 q := fun q hq => by rw [x3.2.1 q hq, z3.2.1 q hq, y3.2.1 q hq, w3.2.1 q hq]
            have rr : ∀ q, q ≠ 1 → r4.1 q = r.1 q := fun q hq => by rw [x4.2.1 q hq, pm_si_row hq, z4.2.1 q hq, pm_si_row hq, y4.2.1 q hq, w4.2.1 q hq]
            have r1' : ∀ k, 21 ≤ k → r4.1 1 k = r.1 1 k := fun k hk => by rw [x4.2.2 k (by omega), pm_si_ne (by omega), z4.2.2 k (by omega), pm_si_ne (by omega), y4.2.2 k (by omega), w4.2.2 k (by omega)]
            have r19 : r4.1 1 19 = v1 := by rw [x4.2.2 19 (by omega), pm_si_ne (by omega), z4.2.2 19 (by omega), pm_si_same]; exact y6
            have r20 : r4.1 1 20 = v2 := by rw [x4.2.2 20 (by omega), pm_si_same]; exact z6
            refine ⟨k1, kn, ko, np, ks, Or.inl (by omega), ⟨Or.inr (by omega), by omega, by rw [pm_si_ne (by omega), pm_si_same]; exact p1, r19.trans p1, fun _ => ⟨k2, by omega, by rw [pm_si_same]; exact q1, r20.trans q1⟩⟩, H1.cg ?_ ?_ (r1' 21 (by omega)) (rr 9 (by omega)), H2.cg ?_ ?_ ?_ (r1' 23 (by omega)) (rr 10 (by omega)) (rr 11 (by omega)), H3.cg ?_ ?_ (r1' 26 (by omega)) (rr 12 (by omega)), H4.cg ?_ ?_ (r1' 28 (by omega)) (rr 13 (by omega))⟩
            · rw [pm_si_ne (by omega), pm_si_ne (by omega), cc D (by omega)]
            · rw [pm_si_row (by omega), pm_si_row (by omega), cc (D + 1) (by omega)]
            · rw [pm_si_ne (by omega), pm_si_ne (by omega), cc D (by omega)]
            · rw [pm_si_row (by omega), pm_si_row (by omega), cc (D + 2) (by omega)]
            · rw [pm_si_row (by omega), pm_si_row (by omega), cc (D + 3) (by omega)]
            · rw [pm_si_ne (by omega), pm_si_ne (by omega), cc D (by omega)]
            · rw [pm_si_row (by omega), pm_si_row (by omega), cc (D + 4) (by omega)]
            · rw [pm_si_ne (by omega), pm_si_ne (by omega), cc D (by omega)]
            · rw [pm_si_row (by omega), pm_si_row (by omega), cc (D + 5) (by omega)]
        · refine ⟨nI F, c4, r4, ?_, ?_, F4, Or.inr ⟨hf3, F, p, hJ, rfl, hp⟩⟩
          · rw [fX5_readRod, if_pos e0, fX5_readRod_J13, w1, Option.bind_some, if_neg n10, y1, Option.bind_some, z1, Option.bind_some, x1, Option.bind_some, if_neg hJ.ne]
          · rw [ev_J82 hfull hb, if_pos rfl]; exact x2
      · obtain ⟨c4, x1, x2, x3⟩ := hJ.fin
        refine ⟨nI F, c4, _, ?_, (ev_J82 hfull hb).trans (if_neg hf), (F3.tr (pu_F.of x2 (pu_rX.rf _))).r (by omega), Or.inr ⟨hf, F, p, x3, rfl, ?_⟩⟩
        · rw [fX5_readRod, if_pos e0, fX5_readRod_J13, w1, Option.bind_some, if_neg n10, y1, Option.bind_some, z1, Option.bind_some, x1, Option.bind_some, if_neg x3.ne]
        · rw [pm_si_ne (by omega), pm_si_ne (by omega)]; exact hp
    · obtain ⟨v2, c3, z1, z2, z3⟩ := hJ.num 0 9
      obtain ⟨c4, x1, x2, x3⟩ := z3.fin
      have hb : fX12_takeBody lw_SR 1 0 (pm_si r 1 16 (r.1 1 16 + 1)) = some (nI F, pm_si (pm_si r2 1 19 (r2.1 1 17)) 1 20 ((pm_si r2 1 19 (r2.1 1 17)).1 1 17)) := by
        rw [w2, fX12_takeBody, if_pos rfl, fX12_takeRod, y2, Option.bind_some]
        simp only [pm_let, if_neg hf', Option.bind_some]
      refine ⟨nI F, c4, _, ?_, (ev_J82 hfull hb).trans (if_neg hf), ((F2.tr (pu_F.of (z2.tr x2) (pu_rX.rf _))).r (by omega)).r (by omega), Or.inr ⟨hf, F, p, x3, rfl, ?_⟩⟩
      · rw [fX5_readRod, if_pos e0, fX5_readRod_J13, w1, Option.bind_some, if_neg n10, y1, Option.bind_some, z1, Option.bind_some, x1, Option.bind_some, if_neg x3.ne]
      · rw [pm_si_ne (by omega), pm_si_ne (by omega), pm_si_ne (by omega)]; exact hp
  · have hne : ¬ c.1 D 0 = 0 := by rw [a3]; exact nI_ne0 (by omega) (by omega)
    refine ev_clfull G (fun c' h => ?_) ?_
    · rw [fX5_readRod, if_neg hne, fX5_readRod_J13, h, Option.bind_some, if_pos rfl]
    · have : ¬ nI L ≤ 0 := fun z => by have := (qn_le_iff (b := 0) (by omega) (by omega)).mp z; omega
      rw [fX12_isFull, if_pos rfl, a4, if_neg this]
theorem ev_person {D n : Nat} {tx : Nat → Int32} {c r : pm_H} {i L kn ko np ks : Nat} (hD : D = 5 ∨ D = 11) (G : pu_Gd (16 - D) n tx c r i) (hi : i < n) (h12 : 12 ≤ L) (H : pu_Dp c r D L kn ko np ks) : pu_Cl D (16 - D) n tx c r i (fX5_readPerson lw_SC 3 D c) (fX12_takeClause_J82 lw_SR 1 3 r) := by
  have n10 : ¬ (1 : Int32) = 0 := by decide
  obtain ⟨hL, H0, H1, H2, ⟨a1, a2, a3, a4⟩, H4⟩ := H
  by_cases hk : np < 6
  · have e0 : ¬ (6 : Int32) ≤ c.1 D 8 := fun z => by rw [a2] at z; have := (qn_le_iff (a := 6) (by omega) (by omega)).mp z; omega
    have hfull : fX12_isFull lw_SR 1 3 r = some (0, r) := by
      have : ¬ nI np = 6 := fun z => by have := (qn_inj (b := 6) (by omega) (by omega)).mp z; omega
      rw [fX12_isFull, if_neg (by decide), if_neg (by decide), if_neg (by decide), if_pos rfl, a3, if_neg this]
    obtain ⟨c1, r1, w1, w2, w3, w4, G1⟩ := ev_wgo G hi
    have r26 : r1.1 1 26 = nI np := by rw [w4.2.2 26 (by omega)]; exact a3
    obtain ⟨s1, hs1⟩ : ∃ s1, s1 = pm_si r1 1 26 (nI (np + 1)) := ⟨_, rfl⟩
    have G1' : pu_Gd (16 - D) n tx c1 s1 (i + 1) := G1.mv rfl rfl rfl (by rw [hs1]; rfl) (by rw [hs1, pm_si_row (by omega)]) (fun k _ _ => by rw [hs1, pm_si_ne (by omega)])
    obtain ⟨v1, f1, c2, r2, y1, y2, y3, y4, y5⟩ := ev_num 1 999 G1'
    have i1 : pm_ib (nI np) 6 = true := pm_ib_nI (by omega) (by omega)
    have k1 : (nI np).toNatClampNeg = np := nI_clamp (by omega)
    have en : nI (np + 1) - 1 = nI np := by rw [show (1 : Int32) = nI 1 from rfl, qn_sub (by omega)]; congr 1
    have s26 : s1.1 1 26 = nI (np + 1) := by rw [hs1, pm_si_same]
    have s27 : s1.2 1 27 = 12 := by rw [hs1]; show r1.2 1 27 = 12; rw [w4.1, G.2.1.1]; simp only [lgR]
    have hb : fX12_takeBody lw_SR 1 3 (pm_si r 1 16 (r.1 1 16 + 1)) = some (f1, pm_si r2 12 np (r2.1 1 17)) := by
      rw [w2, fX12_takeBody, if_neg (by decide), if_neg (by decide), if_neg (by decide), if_pos rfl, fX12_takePerson]
      simp only [pm_let, r26, (nL np).2.2.2.2.2.2]
      rw [← hs1, s26, en, s27, fX12_into, y2, Option.bind_some]
      simp only [lenR, i1, k1, if_true, pm_let, Option.bind_some]
    have F2 : pu_F D c r c2 (pm_si r2 12 np (r2.1 1 17)) := by
      have : pu_F D c r c1 s1 := by rw [hs1]; exact (pu_F.of w3 w4).r (by omega)
      exact (this.tr (pu_F.of y3 y4)).r (by omega)
    rcases y5 with ⟨rfl, y6, y7, y8, j, hj, G2⟩ | ⟨⟨hf, hf'⟩, F, p, hJ, rfl, hp⟩
    · have G2' : pu_Gd (16 - D) n tx c2 (pm_si r2 12 np (r2.1 1 17)) j := G2.mv rfl rfl rfl rfl (pm_si_row (by omega)) (fun k _ _ => pm_si_ne (by omega))
      obtain ⟨f3, c4, r4, x1, x2, x3, x4, x5⟩ := ev_end G2'
      have F4 : pu_F D c r c4 r4 := F2.tr (pu_F.of x3 x4)
      have cc : ∀ q, q ≠ 3 → c4.1 q = c.1 q := fun q hq => by rw [x3.2.1 q hq, y3.2.1 q hq, w3.2.1 q hq]
      rcases x5 with ⟨rfl, j3, hj3, G4⟩ | ⟨hf3, F, p, hJ, rfl, hp⟩
      · have e00 : c4.1 3 0 = 0 := G4.2.2.2.1
        have g4 : c4.2 = lgC (16 - D) 2 := G4.1.1
        have c8 : c4.1 D 8 = nI np := by rw [cc D (by omega)]; exact a2
        have c8' : (pm_si c4 (D + 4) np v1).1 D 8 = nI np := by rw [pm_si_row (by omega)]; exact c8
        refine ⟨0, pm_si (pm_si c4 (D + 4) np v1) D 8 (nI (np + 1)), r4, ?_, ?_, (F4.c (by omega)).c (by omega), Or.inl ⟨rfl, j3, by omega, G4.mv rfl (by rw [pm_si_row (by omega), pm_si_row (by omega)]) (by rw [pm_si_row (by omega), pm_si_row (by omega)]) rfl rfl (fun _ _ _ => rfl), ?_⟩⟩
        · rw [fX5_readPerson, if_neg e0, fX5_readPerson_J15, w1, Option.bind_some, if_neg n10, y1, Option.bind_some, x1, Option.bind_some, if_pos e00]
          simp only [c8, g4, lgD hD, lenT hD, i1, k1, if_true, pm_let, c8', (nL np).2.2.2.2.2.2]
        · rw [ev_J82 hfull hb, if_pos rfl]; exact x2
        · have rr : ∀ q, q ≠ 1 → q ≠ 12 → r4.1 q = r.1 q := fun q hq hq2 => by rw [x4.2.1 q hq, pm_si_row hq2, y4.2.1 q hq, hs1, pm_si_row hq, w4.2.1 q hq]
          have r1' : ∀ k, 19 ≤ k → k ≠ 26 → r4.1 1 k = r.1 1 k := fun k hk hk2 => by rw [x4.2.2 k (by omega), pm_si_row (by omega), y4.2.2 k (by omega), hs1, pm_si_ne (by omega), w4.2.2 k (by omega)]
          have r26' : r4.1 1 26 = nI (np + 1) := by rw [x4.2.2 26 (by omega), pm_si_row (by omega), y4.2.2 26 (by omega)]; exact s26
          have r12 : r4.1 12 np = v1 := by rw [x4.2.1 12 (by omega), pm_si_same]; exact y6
          have r12' : ∀ i, i < np → r4.1 12 i = r.1 12 i := fun i hi => by rw [x4.2.1 12 (by omega), pm_si_ne (by omega), y4.2.1 12 (by omega), hs1, pm_si_row (by omega), w4.2.1 12 (by omega)]
          refine ⟨L, kn, ko, np + 1, ks, Or.inl h12, H0.cg ?_ ?_ (r1' 19 (by omega) (by omega)) (r1' 20 (by omega) (by omega)), H1.cg ?_ ?_ (r1' 21 (by omega) (by omega)) (rr 9 (by omega) (by omega)), H2.cg ?_ ?_ ?_ (r1' 23 (by omega) (by omega)) (rr 10 (by omega) (by omega)) (rr 11 (by omega) (by omega)), ⟨by omega, pm_si_same, r26', fun i hi => ?_⟩, H4.cg ?_ ?_ (r1' 28 (by omega) (by omega)) (rr 13 (by omega) (by omega))⟩
          · rw [pm_si_ne (by omega), pm_si_row (by omega), cc D (by omega)]
          · rw [pm_si_ne (by omega), pm_si_row (by omega), cc D (by omega)]
          · rw [pm_si_ne (by omega), pm_si_row (by omega), cc D (by omega)]
          · rw [pm_si_row (by omega), pm_si_row (by omega), cc (D + 1) (by omega)]
          · rw [pm_si_ne (by omega), pm_si_row (by omega), cc D (by omega)]
          · rw [pm_si_row (by omega), pm_si_row (by omega), cc (D + 2) (by omega)]
          · rw [pm_si_row (by omega), pm_si_row (by omega), cc (D + 3) (by omega)]
          · rw [pm_si_row (by omega)]
            by_cases hin : i = np
            · subst hin
              rw [pm_si_same, r12]
              exact ⟨rfl, by simpa using y7.1, by simpa using y7.2⟩
            · rw [pm_si_ne (by omega), r12' i (by omega), cc (D + 4) (by omega)]
              exact a4 i (by omega)
          · rw [pm_si_ne (by omega), pm_si_row (by omega), cc D (by omega)]
          · rw [pm_si_row (by omega), pm_si_row (by omega), cc (D + 5) (by omega)]
      · refine ⟨nI F, c4, r4, ?_, ?_, F4, Or.inr ⟨hf3, F, p, hJ, rfl, hp⟩⟩
        · rw [fX5_readPerson, if_neg e0, fX5_readPerson_J15, w1, Option.bind_some, if_neg n10, y1, Option.bind_some, x1, Option.bind_some, if_neg hJ.ne]
        · rw [ev_J82 hfull hb, if_pos rfl]; exact x2
    · obtain ⟨c4, x1, x2, x3⟩ := hJ.fin
      refine ⟨nI F, c4, _, ?_, (ev_J82 hfull hb).trans (if_neg hf), (F2.tr (pu_F.of x2 (pu_rX.rf _))).r (by omega), Or.inr ⟨hf, F, p, x3, rfl, ?_⟩⟩
      · rw [fX5_readPerson, if_neg e0, fX5_readPerson_J15, w1, Option.bind_some, if_neg n10, y1, Option.bind_some, x1, Option.bind_some, if_neg x3.ne]
      · rw [pm_si_ne (by omega), pm_si_row (by omega)]; exact hp
  · have hk6 : np = 6 := by omega
    have e0 : (6 : Int32) ≤ c.1 D 8 := by rw [a2, hk6]; decide
    refine ev_clfull G (fun c' h => ?_) ?_
    · rw [fX5_readPerson, if_pos e0, fX5_readPerson_J15, h, Option.bind_some, if_pos rfl]
    · rw [fX12_isFull, if_neg (by decide), if_neg (by decide), if_neg (by decide), if_pos rfl, a3, hk6, if_pos (by decide)]
