/-! realm: a clause, the text -/
theorem ev_here0 {n : Nat} {tx : Nat → Int32} {i : Nat} {r : pm_H} (hr : pu_TR n tx r) (hi : i < n) (e16 : r.1 1 16 = nI i) (h32 : tx i ≠ 32) : fX12_here lw_SR 1 r = some (tx i, r) := by
  obtain ⟨r', y1, y2, y3, y4⟩ := ev_here hr (Nat.le_of_lt hi) e16
  have est : pu_sk tx (n - i) i = i := pu_sk_st (fun _ => h32) (Nat.le_of_lt hi)
  rw [est] at y1 y3
  have er : r' = r := by
    refine Prod.ext ?_ y2.1
    funext q
    by_cases hq : q = 1
    · subst hq
      funext s
      by_cases hs : s = 16
      · subst hs; rw [y3, e16]
      · exact y4 s hs
    · exact y2.2.1 q hq
  rw [er, pu_hd, if_pos hi] at y1
  exact y1
theorem ev_clbad {D T n : Nat} {tx : Nat → Int32} {c r : pm_H} {i : Nat} {A : Option pm_H} {B : Option (Int32 × pm_H)} (G : pu_Gd T n tx c r i) (hA : ∀ c', fX5_blame lw_SC 3 1 (c.1 3 4) c = some c' → A = some c') (hB : B = some (1, pm_si r 1 15 (r.1 1 16))) : pu_Cl D T n tx c r i A B := by
  obtain ⟨a, b, ⟨d1, d2, d3⟩, e1, e2, e3⟩ := G
  obtain ⟨c3, b1, b2, b3, b4, b5⟩ := ev_blame 1 (c.1 3 4) c
  obtain ⟨b6, b7⟩ := b4 e1
  refine ⟨1, c3, _, hA c3 b1, hB, pu_F.of b2 (pu_rX.si (by omega)), Or.inr ⟨by decide, 1, nI i, ⟨a.cX b2, by omega, b6, by rw [b7]; exact d1, i, d3, by rw [b3 4 (by omega)]; exact d1⟩, rfl, ?_⟩⟩
  rw [pm_si_same, d2]
theorem ev_clause {D n : Nat} {tx : Nat → Int32} {c r : pm_H} {i L kn ko np ks : Nat} (hD : D = 5 ∨ D = 11) (G : pu_Gd (16 - D) n tx c r i) (hi : i < n) (h32 : tx i ≠ 32) (H : pu_Dp c r D L kn ko np ks) : pu_Cl D (16 - D) n tx c r i (fX5_readClause lw_SC 3 D c) (fX12_takeClause lw_SR 1 r) := by
  obtain ⟨⟨g1, hn, e3, ht⟩, b, ⟨d1, d2, d3⟩, -⟩ := id G
  have hh := ev_here0 b hi d2 h32
  have i1 : pm_ib (nI i) 240 = true := pm_ib_nI (by omega) (by omega)
  have k1 : (nI i).toNatClampNeg = i := nI_clamp (by omega)
  have bs : ∀ o : Option pm_H, (Option.bind o fun u => some u) = o := fun o => by cases o <;> rfl
  have hC : fX5_readClause lw_SC 3 D c = (if tx i = (114 : Int32) then fX5_readClause_J33 lw_SC 3 D (tx i) c else (if (c.1 D 0) = 0 then fX5_blame lw_SC 3 (1 : Int32) (c.1 3 4) c else fX5_readClause_J33 lw_SC 3 D (tx i) c)) := by
    rw [fX5_readClause, d1]
    simp only [g1, lgS, lenS, i1, k1, if_true, pm_let, ht i hi, bs]
  have hR : fX12_takeClause lw_SR 1 r = (if tx i = (114 : Int32) then fX12_takeClause_J56 lw_SR 1 (0 : Int32) r else (if tx i = (110 : Int32) then fX12_takeClause_J56 lw_SR 1 (1 : Int32) r else (if tx i = (111 : Int32) then fX12_takeClause_J56 lw_SR 1 (2 : Int32) r else (if tx i = (112 : Int32) then fX12_takeClause_J56 lw_SR 1 (3 : Int32) r else (if tx i = (100 : Int32) then fX12_takeClause_J56 lw_SR 1 (4 : Int32) r else fX12_takeClause_J56 lw_SR 1 (-1 : Int32) r))))) := by
    rw [fX12_takeClause, hh, Option.bind_some]
  have hm1 : fX12_takeClause_J56 lw_SR 1 (-1 : Int32) r = some (1, pm_si r 1 15 (r.1 1 16)) := by
    rw [fX12_takeClause_J56, if_pos (by decide)]
    rfl
  rw [hC, hR]
  by_cases h114 : tx i = 114
  · rw [if_pos h114, if_pos h114, fX12_takeClause_J56, if_neg (by decide), if_pos (by decide), fX5_readClause_J33, h114, if_neg (by decide), if_neg (by decide), if_neg (by decide), if_neg (by decide), if_pos rfl, bs]
    exact ev_rod hD G hi H
  · rw [if_neg h114, if_neg h114]
    have hD0 : c.1 D 0 = nI L ∧ r.1 1 19 = nI L := ⟨H.2.1.2.2.1, H.2.1.2.2.2.1⟩
    have hL12 : L = 0 ∨ 12 ≤ L := H.2.1.1
    have hL240 : L ≤ 240 := H.2.1.2.1
    by_cases hL : L = 0
    · have c0 : c.1 D 0 = 0 := by rw [hD0.1, hL]; rfl
      have r0 : r.1 1 19 = 0 := by rw [hD0.2, hL]; rfl
      rw [if_pos c0]
      refine ev_clbad G (fun c' h => h) ?_
      have hk : ∀ k : Int32, ¬ k < 0 → ¬ k ≤ 0 → fX12_takeClause_J56 lw_SR 1 k r = some (1, pm_si r 1 15 (r.1 1 16)) := by
        intro k h1 h2
        rw [fX12_takeClause_J56, if_neg h1, if_neg h2, if_pos r0]
        rfl
      rw [hk 1 (by decide) (by decide), hk 2 (by decide) (by decide), hk 3 (by decide) (by decide), hk 4 (by decide) (by decide), hm1]
      split
      · rfl
      · split
        · rfl
        · split
          · rfl
          · split <;> rfl
    · have h12 : 12 ≤ L := by omega
      have c0 : ¬ c.1 D 0 = 0 := by rw [hD0.1]; exact nI_ne0 (by omega) (by omega)
      have r0 : ¬ r.1 1 19 = 0 := by rw [hD0.2]; exact nI_ne0 (by omega) (by omega)
      have hk : ∀ k : Int32, ¬ k < 0 → ¬ k ≤ 0 → fX12_takeClause_J56 lw_SR 1 k r = fX12_takeClause_J82 lw_SR 1 k r := by
        intro k h1 h2
        rw [fX12_takeClause_J56, if_neg h1, if_neg h2, if_neg r0]
      rw [if_neg c0, hk 1 (by decide) (by decide), hk 2 (by decide) (by decide), hk 3 (by decide) (by decide), hk 4 (by decide) (by decide), hm1, fX5_readClause_J33]
      by_cases h110 : tx i = 110
      · rw [if_pos h110, h110, if_neg (by decide), if_pos rfl, bs]
        exact ev_nick hD G hi h12 H
      · rw [if_neg h110]
        by_cases h111 : tx i = 111
        · rw [if_pos h111, h111, if_neg (by decide), if_neg (by decide), if_pos rfl, bs]
          exact ev_office hD G hi h12 H
        · rw [if_neg h111]
          by_cases h112 : tx i = 112
          · rw [if_pos h112, h112, if_neg (by decide), if_neg (by decide), if_neg (by decide), if_pos rfl, bs]
            exact ev_person hD G hi h12 H
          · rw [if_neg h112]
            by_cases h100 : tx i = 100
            · simp only [if_neg h110, if_neg h111, if_neg h112, if_pos h100, bs]
              exact ev_sways hD G hi h12 H
            · rw [if_neg h100, if_neg h100, if_neg h110, if_neg h111, if_neg h112, if_neg h114, fX5_readClause_J148, bs]
              exact ev_clbad G (fun c' h => h) rfl
theorem pu_Dp.cg {c r c' r' : pm_H} {D L kn ko np ks : Nat} (hD : D = 5 ∨ D = 11) (H : pu_Dp c r D L kn ko np ks) (x : pu_cX c c') (y : pu_rX r r') : pu_Dp c' r' D L kn ko np ks := by
  obtain ⟨h, H0, H1, H2, H3, H4⟩ := H
  have xD : ∀ q, D ≤ q → q ≤ D + 5 → c'.1 q = c.1 q := fun q h1 h2 => x.2.1 q (by omega)
  have x0 := xD D (by omega) (by omega)
  exact ⟨h, H0.cg (by rw [x0]) (by rw [x0]) (y.2.2 19 (by omega)) (y.2.2 20 (by omega)), H1.cg (by rw [x0]) (xD (D + 1) (by omega) (by omega)) (y.2.2 21 (by omega)) (y.2.1 9 (by omega)), H2.cg (by rw [x0]) (xD (D + 2) (by omega) (by omega)) (xD (D + 3) (by omega) (by omega)) (y.2.2 23 (by omega)) (y.2.1 10 (by omega)) (y.2.1 11 (by omega)), H3.cg (by rw [x0]) (xD (D + 4) (by omega) (by omega)) (y.2.2 26 (by omega)) (y.2.1 12 (by omega)), H4.cg (by rw [x0]) (xD (D + 5) (by omega) (by omega)) (y.2.2 28 (by omega)) (y.2.1 13 (by omega))⟩
theorem ev_text {D n : Nat} {tx : Nat → Int32} (hD : D = 5 ∨ D = 11) (htx : ∀ j, j < n → 0 ≤ (tx j).toInt) : ∀ k i q N N2 (c r : pm_H) (L kn ko np ks : Nat), n - i ≤ k → q ≤ i → k < N → k + 1 < N2 → i ≤ n → pu_TC (16 - D) n tx c → pu_TR n tx r → c.1 3 4 = nI (pu_sk tx (n - i) i) → r.1 1 16 = nI i → c.1 3 0 = 0 → c.1 3 1 = -1 → r.1 1 15 = -1 → pu_Dp c r D L kn ko np ks →
    ∃ f c' r', fX5_readText_L41 lw_SC 3 D (fun s13 => some s13) (N + 1) (nI q) c = some c' ∧ (∀ kx, fX12_realm_L37 lw_SR 1 kx (N2 + 1) 0 r = kx f r') ∧ pu_F D c r c' r' ∧ c'.1 3 1 = r'.1 1 15 ∧ ((f = 0 ∧ c'.1 3 0 = 0 ∧ r'.1 1 15 = -1 ∧ ∃ L kn ko np ks, pu_Dp c' r' D L kn ko np ks) ∨ ∃ F, 1 ≤ F ∧ F ≤ 4 ∧ f = nI F ∧ c'.1 3 0 = nI F) := by
  intro k
  induction k with
  | zero =>
    intro i q N N2 c r L kn ko np ks hk hq hN hN2 hi a b e4 e16 e0 e1 e15 H
    obtain ⟨g1, hn, e3, ht⟩ := id a
    have hin : i = n := by omega
    subst hin
    have esk : pu_sk tx (i - i) i = i := by rw [Nat.sub_self]; rfl
    rw [esk] at e4
    obtain ⟨r1, z1, z2, z3, z4⟩ := ev_here b hi e16
    rw [esk, pu_hd, if_neg (Nat.lt_irrefl _)] at z1
    refine ⟨0, c, r1, ?_, fun kx => ?_, pu_F.of (pu_cX.rf c) z2, by rw [z4 15 (by omega), e15]; exact e1, Or.inl ⟨rfl, e0, by rw [z4 15 (by omega)]; exact e15, L, kn, ko, np, ks, H.cg hD (pu_cX.rf c) z2⟩⟩
    · rw [fX5_readText_L41, e3, e4]
      split
      · rfl
      · rw [if_pos (Int32.le_refl _)]
    · rw [fX12_realm_L37, if_pos rfl, z1, Option.bind_some, if_pos qn_m1lt]
  | succ k ih =>
    intro i q N N2 c r L kn ko np ks hk hq hN hN2 hi a b e4 e16 e0 e1 e15 H
    obtain ⟨g1, hn, e3, ht⟩ := id a
    obtain ⟨r1, z1, z2, z3, z4⟩ := ev_here b hi e16
    obtain ⟨s1, s2, s3⟩ := pu_sk_in tx (n - i) i
    obtain ⟨j, hj⟩ : ∃ j, j = pu_sk tx (n - i) i := ⟨_, rfl⟩
    rw [← hj] at e4 z1 z3 s1 s2 s3
    by_cases hjn : j < n
    · have h32 : tx j ≠ 32 := s3 (by omega)
      have G : pu_Gd (16 - D) n tx c r1 j := ⟨a, b.rX z2, ⟨e4, z3, by omega⟩, e0, e1, by rw [z4 15 (by omega)]; exact e15⟩
      obtain ⟨f, c2, r2, y1, y2, y3, y4⟩ := ev_clause hD G hjn h32 (H.cg hD (pu_cX.rf c) z2)
      have q240 : ¬ (240 : Int32) ≤ nI q := fun z => by have := (qn_le_iff (a := 240) (by omega) (by omega)).mp z; omega
      have qn : ¬ nI n ≤ nI j := fun z => by have := (qn_le_iff (by omega) (by omega)).mp z; omega
      have hpos : ¬ tx j < 0 := fun z => by have h1 := Int32.lt_iff_toInt_lt.mp z; have h2 := htx j hjn; rw [qn_t.1] at h1; omega
      rw [pu_hd, if_pos hjn] at z1
      have F1 : pu_F D c r c2 r2 := (pu_F.of (pu_cX.rf c) z2).tr y3
      rcases y4 with ⟨rfl, j', hj', G2, L', kn', ko', np', ks', H'⟩ | ⟨hf, F, p, hJ, rfl, hp⟩
      · obtain ⟨a', b', ⟨d1, d2, d3⟩, f1, f2, f3⟩ := G2
        obtain ⟨c3, w1, w2, w3, w4⟩ := ev_skip a' d3 d1
        obtain ⟨N, rfl⟩ : ∃ z, N = z + 1 := ⟨N - 1, by omega⟩
        obtain ⟨N2, rfl⟩ : ∃ z, N2 = z + 1 := ⟨N2 - 1, by omega⟩
        obtain ⟨f', c', r', p1, p2, p3, p4, p5⟩ := ih j' (q + 1) N N2 c3 r2 L' kn' ko' np' ks' (by omega) (by omega) (by omega) (by omega) d3 (a'.cX w2) b' w3 d2 (by rw [w4 0 (by omega)]; exact f1) (by rw [w4 1 (by omega)]; exact f2) f3 (H'.cg hD w2 (pu_rX.rf r2))
        refine ⟨f', c', r', ?_, fun kx => ?_, (F1.tr (pu_F.of w2 (pu_rX.rf r2))).tr p3, p4, p5⟩
        · rw [fX5_readText_L41, if_neg q240, e3, e4, if_neg qn, if_pos e0, y1, Option.bind_some, w1, Option.bind_some, (nL q).2.2.2.2.2.2]
          exact p1
        · rw [fX12_realm_L37, if_pos rfl, z1, Option.bind_some, if_neg hpos, y2, Option.bind_some]
          exact p2 kx
      · obtain ⟨c3, w1, w2, w3⟩ := hJ.skip
        obtain ⟨N, rfl⟩ : ∃ z, N = z + 1 := ⟨N - 1, by omega⟩
        obtain ⟨N2, rfl⟩ : ∃ z, N2 = z + 1 := ⟨N2 - 1, by omega⟩
        refine ⟨nI F, c3, r2, ?_, fun kx => ?_, F1.tr (pu_F.of w2 (pu_rX.rf r2)), by rw [hp]; exact w3.2.2.2.1, Or.inr ⟨F, w3.2.1.1, w3.2.1.2, rfl, w3.2.2.1⟩⟩
        · rw [fX5_readText_L41, if_neg q240, e3, e4, if_neg qn, if_pos e0, y1, Option.bind_some, w1, Option.bind_some, fX5_readText_L41, if_neg w3.ne]
          split
          · rfl
          · split <;> rfl
        · rw [fX12_realm_L37, if_pos rfl, z1, Option.bind_some, if_neg hpos, y2, Option.bind_some, fX12_realm_L37, if_neg hf]
    · have hjn' : j = n := by omega
      rw [pu_hd, if_neg hjn] at z1
      refine ⟨0, c, r1, ?_, fun kx => ?_, pu_F.of (pu_cX.rf c) z2, by rw [z4 15 (by omega), e15]; exact e1, Or.inl ⟨rfl, e0, by rw [z4 15 (by omega)]; exact e15, L, kn, ko, np, ks, H.cg hD (pu_cX.rf c) z2⟩⟩
      · rw [fX5_readText_L41, e3, e4, hjn']
        split
        · rfl
        · rw [if_pos (Int32.le_refl _)]
      · rw [fX12_realm_L37, if_pos rfl, z1, Option.bind_some, if_pos qn_m1lt]
