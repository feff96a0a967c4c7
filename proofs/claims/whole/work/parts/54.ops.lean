/-! sways -/
def pu_post (o : Option (Int32 × pm_H)) : Option (Int32 × pm_H) := Option.bind o fun u => if u.1 = 0 then pu_tail u.2 else some (u.1, pm_si u.2 1 16 (u.2.1 1 16 + 1))
theorem ev_J82p {k : Int32} {r : pm_H} (hfull : fX12_isFull lw_SR 1 k r = some (0, r)) {f : Int32} {r' : pm_H} (h : pu_post (fX12_takeBody lw_SR 1 k (pm_si r 1 16 (r.1 1 16 + 1))) = some (f, r')) : fX12_takeClause_J82 lw_SR 1 k r = some (f, r') := by
  cases hb : fX12_takeBody lw_SR 1 k (pm_si r 1 16 (r.1 1 16 + 1)) with
  | none => rw [hb] at h; simp [pu_post] at h
  | some p =>
    rw [hb, pu_post, Option.bind_some] at h
    rw [ev_J82 hfull (f := p.1) (r2 := p.2) hb]
    exact h
/-- what the sways' clause may change -/
def pu_Fs (D : Nat) (c r c' r' : pm_H) : Prop := c'.2 = c.2 ∧ (∀ q, q ≠ 3 → q ≠ D → q ≠ D + 5 → c'.1 q = c.1 q) ∧ (∀ k, k ≠ 10 → c'.1 D k = c.1 D k) ∧ r'.2 = r.2 ∧ (∀ q, q ≠ 1 → q ≠ 13 → r'.1 q = r.1 q) ∧ ∀ k, k < 15 ∨ 19 ≤ k → k ≠ 28 → r'.1 1 k = r.1 1 k
theorem pu_Fs.tr {D : Nat} {c r c1 r1 c2 r2 : pm_H} (h : pu_Fs D c r c1 r1) (h' : pu_Fs D c1 r1 c2 r2) : pu_Fs D c r c2 r2 :=
  ⟨h'.1.trans h.1, fun q a b d => (h'.2.1 q a b d).trans (h.2.1 q a b d), fun k a => (h'.2.2.1 k a).trans (h.2.2.1 k a), h'.2.2.2.1.trans h.2.2.2.1, fun q a b => (h'.2.2.2.2.1 q a b).trans (h.2.2.2.2.1 q a b), fun k a b => (h'.2.2.2.2.2 k a b).trans (h.2.2.2.2.2 k a b)⟩
theorem pu_Fs.of {D : Nat} {c r c' r' : pm_H} (hD : D ≠ 3) (h : pu_cX c c') (h' : pu_rX r r') : pu_Fs D c r c' r' := ⟨h.1, fun q a _ _ => h.2.1 q a, fun k _ => by rw [h.2.1 D hD], h'.1, fun q a _ => h'.2.1 q a, fun k a _ => h'.2.2 k a⟩
theorem pu_Fs.c5 {D k : Nat} {c r c' r' : pm_H} {x : Int32} (h : pu_Fs D c r c' r') : pu_Fs D c r (pm_si c' (D + 5) k x) r' := ⟨h.1, fun q a b d => by rw [pm_si_row (by omega)]; exact h.2.1 q a b d, fun k a => by rw [pm_si_row (by omega)]; exact h.2.2.1 k a, h.2.2.2⟩
theorem pu_Fs.cD {D : Nat} {c r c' r' : pm_H} {x : Int32} (h : pu_Fs D c r c' r') : pu_Fs D c r (pm_si c' D 10 x) r' := ⟨h.1, fun q a b d => by rw [pm_si_row (by omega)]; exact h.2.1 q a b d, fun k a => by rw [pm_si_ne (by omega)]; exact h.2.2.1 k a, h.2.2.2⟩
theorem pu_Fs.r13 {D k : Nat} {c r c' r' : pm_H} {x : Int32} (h : pu_Fs D c r c' r') : pu_Fs D c r c' (pm_si r' 13 k x) := ⟨h.1, h.2.1, h.2.2.1, h.2.2.2.1, fun q a b => by rw [pm_si_row b]; exact h.2.2.2.2.1 q a b, fun k a b => by rw [pm_si_row (by omega)]; exact h.2.2.2.2.2 k a b⟩
theorem pu_Fs.r1 {D k : Nat} {c r c' r' : pm_H} {x : Int32} (h : pu_Fs D c r c' r') (hk : (15 ≤ k ∧ k < 19) ∨ k = 28) : pu_Fs D c r c' (pm_si r' 1 k x) := ⟨h.1, h.2.1, h.2.2.1, h.2.2.2.1, fun q a b => by rw [pm_si_row a]; exact h.2.2.2.2.1 q a b, fun k a b => by rw [pm_si_ne (by omega)]; exact h.2.2.2.2.2 k a b⟩
theorem pu_Fs.F {D : Nat} {c r c' r' : pm_H} (h : pu_Fs D c r c' r') : pu_F D c r c' r' := ⟨h.1, fun q a b => h.2.1 q a (by omega) (by omega), h.2.2.2.1, fun q a b => h.2.2.2.2.1 q a (by omega), fun k a => h.2.2.2.2.2 k (by omega) (by omega)⟩
theorem ev_tail2 {n : Nat} {tx : Nat → Int32} {i : Nat} {r r1 : pm_H} (hr : pu_TR n tx r) (hi : i ≤ n) (e16 : r.1 1 16 = nI i) (h : Int32) (hh : fX12_here lw_SR 1 r = some (h, r1)) : pu_tail r1 = pu_tail r := by
  obtain ⟨r', y1, y2, y3, y4⟩ := ev_here hr hi e16
  rw [hh] at y1
  have e1 : h = pu_hd tx n (pu_sk tx (n - i) i) ∧ r1 = r' := by
    have := Option.some.inj y1
    exact ⟨congrArg Prod.fst this, congrArg Prod.snd this⟩
  obtain ⟨rfl, rfl⟩ := e1
  obtain ⟨s1, s2, s3⟩ := pu_sk_in tx (n - i) i
  obtain ⟨r2, z1, z2, z3, z4⟩ := ev_here (hr.rX y2) (show pu_sk tx (n - i) i ≤ n by omega) y3
  have est : pu_sk tx (n - pu_sk tx (n - i) i) (pu_sk tx (n - i) i) = pu_sk tx (n - i) i := pu_sk_st (fun hlt => s3 (by omega)) (by omega)
  rw [est] at z1 z3
  have er : r2 = r1 := by
    refine Prod.ext ?_ z2.1
    funext q
    by_cases hq : q = 1
    · subst hq
      funext s
      by_cases hs : s = 16
      · subst hs; rw [z3, y3]
      · exact z4 s hs
    · exact z2.2.1 q hq
  rw [pu_tail, pu_tail, z1, hh, er]
theorem ev_into13 {m : Nat} {r r2 : pm_H} {f : Int32} (hm : m < 12) (h : fX12_takeNumber lw_SR 1 0 9 r = some (f, r2)) : fX12_into lw_SR 1 13 (nI m) 0 9 r = some (f, pm_si r2 13 m (r2.1 1 17)) := by
  have i1 : pm_ib (nI m) 12 = true := pm_ib_nI (by omega) (by omega)
  have k1 : (nI m).toNatClampNeg = m := nI_clamp (by omega)
  rw [fX12_into, h, Option.bind_some]
  simp only [lenR, i1, k1, if_true, pm_let]
theorem ev_L24x {D : Nat} {kx : pm_H → Option pm_H} {N : Nat} {v : Int32} {c : pm_H} : fX5_readSways_L24 lw_SC 3 D kx (N + 1) 0 v c = kx c := by
  rw [fX5_readSways_L24]
  split
  · rfl
  · rfl
theorem ev_L18f {kx : Int32 → pm_H → Option (Int32 × pm_H)} {N : Nat} {f : Int32} {r : pm_H} (hf : ¬ f = 0) : fX12_takeSways_L18 lw_SR 1 kx (N + 1) f r = kx f r := by
  rw [fX12_takeSways_L18, if_neg hf]
theorem ev_swayN {D n : Nat} {tx : Nat → Int32} (hD : D = 5 ∨ D = 11) : ∀ k m j N N2 (c r : pm_H), m + k = 11 → k + 1 < N → k < N2 → pu_Gd (16 - D) n tx c r j → (∀ i, i < m → r.1 13 i = c.1 (D + 5) i ∧ 0 ≤ (c.1 (D + 5) i).toInt ∧ (c.1 (D + 5) i).toInt ≤ 9) →
    ∃ f c' r', fX5_readSways_L24 lw_SC 3 D (fun s13 => Option.bind (fX5_takeEnd lw_SC 3 s13) fun u14 => some u14) N 1 (nI m) c = some c' ∧ pu_post (Option.bind (fX12_into lw_SR 1 13 (nI m) 0 9 r) fun u2 => fX12_takeSways_L18 lw_SR 1 (fun w13 s14 => some (w13, s14)) N2 u2.1 (pm_si u2.2 1 28 (nI (m + 1)))) = some (f, r') ∧ pu_Fs D c r c' r' ∧ ((f = 0 ∧ ∃ j', j < j' ∧ pu_Gd (16 - D) n tx c' r' j' ∧ ∃ ks, pu_D4 c' r' D ks) ∨ (¬ f = 0 ∧ pu_Bd (16 - D) n tx c' r' f)) := by
  have n10 : ¬ (1 : Int32) = 0 := by decide
  intro k
  induction k with
  | zero =>
    intro m j N N2 c r hm hN hN2 G h13
    obtain ⟨N, rfl⟩ : ∃ z, N = z + 2 := ⟨N - 2, by omega⟩
    obtain ⟨N2, rfl⟩ : ∃ z, N2 = z + 1 := ⟨N2 - 1, by omega⟩
    have hm11 : m = 11 := by omega
    subst hm11
    obtain ⟨v, f, c2, r2, y1, y2, y3, y4, y5⟩ := ev_num 0 9 G
    have hin := ev_into13 (m := 11) (by omega) y2
    have g1 : c.2 = lgC (16 - D) 2 := G.1.1
    have i1 : pm_ib (nI 11) 12 = true := pm_ib_nI (by omega) (by omega)
    have k1 : (nI 11).toNatClampNeg = 11 := nI_clamp (by omega)
    have eL : fX5_readSways_L24 lw_SC 3 D (fun s13 => Option.bind (fX5_takeEnd lw_SC 3 s13) fun u14 => some u14) (N + 2) 1 (nI 11) c = Option.bind (fX5_takeEnd lw_SC 3 (pm_si (pm_si c2 (D + 5) 11 v) D 10 (nI 12))) fun u14 => some u14 := by
      rw [fX5_readSways_L24, if_neg (by decide), if_neg n10, y1, Option.bind_some]
      simp only [g1, lgD hD, lenT hD, i1, k1, if_true, pm_let, (nL 11).2.2.2.2.2.2]
      rw [if_pos (by decide), ev_L24x]
    obtain ⟨s6, hs6⟩ : ∃ s6, s6 = pm_si (pm_si c2 (D + 5) 11 v) D 10 (nI 12) := ⟨_, rfl⟩
    obtain ⟨s8, hs8⟩ : ∃ s8, s8 = pm_si (pm_si r2 13 11 (r2.1 1 17)) 1 28 (nI 12) := ⟨_, rfl⟩
    have F2 : pu_Fs D c r s6 s8 := by
      rw [hs6, hs8]
      exact ((((pu_Fs.of (by omega) y3 y4).c5).cD).r13).r1 (by omega)
    rw [← hs6] at eL
    have eR : pu_post (Option.bind (fX12_into lw_SR 1 13 (nI 11) 0 9 r) fun u2 => fX12_takeSways_L18 lw_SR 1 (fun w13 s14 => some (w13, s14)) (N2 + 1) u2.1 (pm_si u2.2 1 28 (nI (11 + 1)))) = pu_post (fX12_takeSways_L18 lw_SR 1 (fun w13 s14 => some (w13, s14)) (N2 + 1) f s8) := by
      rw [hin, Option.bind_some, hs8]
    rw [eL, eR]
    have q2 : s6.1 2 = c2.1 2 := by rw [hs6, pm_si_row (by omega), pm_si_row (by omega)]
    have q3 : s6.1 3 = c2.1 3 := by rw [hs6, pm_si_row (by omega), pm_si_row (by omega)]
    have qg : s6.2 = c2.2 := by rw [hs6]; rfl
    have t8 : s8.1 8 = r2.1 8 := by rw [hs8, pm_si_row (by omega), pm_si_row (by omega)]
    have tg : s8.2 = r2.2 := by rw [hs8]; rfl
    have t1 : ∀ k, 14 ≤ k → k < 17 → s8.1 1 k = r2.1 1 k := fun k _ _ => by rw [hs8, pm_si_ne (by omega), pm_si_row (by omega)]
    rcases y5 with ⟨rfl, y6, y7, y8, j1, hj1, G2⟩ | ⟨⟨hf, hf'⟩, F, p, hJ, rfl, hp⟩
    · have G3 : pu_Gd (16 - D) n tx s6 s8 j1 := G2.mv qg q2 q3 tg t8 t1
      have D4 : pu_D4 s6 s8 D 12 := by
        refine ⟨by omega, by rw [hs6, pm_si_same], by rw [hs8, pm_si_same], fun i hi => ?_⟩
        have m1 : s6.1 (D + 5) i = (pm_si c2 (D + 5) 11 v).1 (D + 5) i := by rw [hs6, pm_si_row (by omega)]
        have m2 : s8.1 13 i = (pm_si r2 13 11 (r2.1 1 17)).1 13 i := by rw [hs8, pm_si_row (by omega)]
        rw [m1, m2]
        by_cases e : i = 11
        · subst e
          rw [pm_si_same, pm_si_same, y6]
          exact ⟨rfl, by simpa using y7.1, by simpa using y7.2⟩
        · rw [pm_si_ne (by omega), pm_si_ne (by omega), y3.2.1 (D + 5) (by omega), y4.2.1 13 (by omega)]
          exact h13 i (by omega)
      obtain ⟨a, b, ⟨d1, d2, d3⟩, e1, e2, e3⟩ := id G3
      obtain ⟨r3, z1, z2, z3, z4⟩ := ev_here b d3 d2
      by_cases h44 : pu_hd tx n (pu_sk tx (n - j1) j1) = 44
      · obtain ⟨c3, x1, x2, x3, x4⟩ := ev_sign (sg := 59) (by decide) a d3 d1
        have h59 : ¬ pu_hd tx n (pu_sk tx (n - j1) j1) = 59 := by rw [h44]; decide
        rw [if_neg h59] at x1 x3
        obtain ⟨c4, b1, b2, b3, b4, b5⟩ := ev_blame 1 (nI (pu_sk tx (n - j1) j1)) c3
        obtain ⟨b6, b7⟩ := b4 (by rw [x4 0 (by omega)]; exact e1)
        obtain ⟨s1, s2, -⟩ := pu_sk_in tx (n - j1) j1
        have r28 : r3.1 1 28 = 12 := by rw [z4 28 (by omega), D4.2.2.1]; rfl
        obtain ⟨rb, hrb⟩ : ∃ rb, rb = pm_si r3 1 15 (nI (pu_sk tx (n - j1) j1)) := ⟨_, rfl⟩
        refine ⟨1, c4, pm_si rb 1 16 (rb.1 1 16 + 1), ?_, ?_, ?_, Or.inr ⟨n10, 1, nI (pu_sk tx (n - j1) j1), ⟨(a.cX x2).cX b2, by omega, b6, b7, pu_sk tx (n - j1) j1, by omega, by rw [b3 4 (by omega)]; exact x3⟩, rfl, ?_⟩⟩
        · rw [fX5_takeEnd, x1, Option.bind_some]
          simp only [if_true, x3, b1, Option.bind_some]
        · rw [fX12_takeSways_L18, if_pos rfl, z1, Option.bind_some]
          simp only [if_pos h44, r28, if_true, z3, fX12_fails, pm_let, Option.bind_some]
          rw [pu_post, Option.bind_some, ← hrb]
          exact if_neg n10
        · rw [hrb]
          exact ((F2.tr (pu_Fs.of (by omega) (x2.tr b2) z2)).r1 (by omega)).r1 (by omega)
        · rw [pm_si_ne (by omega), hrb, pm_si_same]
      · obtain ⟨f3, c4, r4, x1, x2, x3, x4, x5⟩ := ev_end G3
        refine ⟨f3, c4, r4, by rw [x1, Option.bind_some], ?_, F2.tr (pu_Fs.of (by omega) x3 x4), ?_⟩
        · rw [fX12_takeSways_L18, if_pos rfl, z1, Option.bind_some]
          simp only [if_neg h44]
          rw [pu_post, Option.bind_some]
          refine (if_pos rfl).trans ?_
          show pu_tail r3 = _
          rw [ev_tail2 b d3 d2 _ z1]
          exact x2
        · rcases x5 with ⟨rfl, j3, hj3, G4⟩ | ⟨hf3, hB⟩
          · exact Or.inl ⟨rfl, j3, by omega, G4, 12, D4.cg (by rw [x3.2.1 D (by omega)]) (x3.2.1 (D + 5) (by omega)) (x4.2.2 28 (by omega)) (x4.2.1 13 (by omega))⟩
          · exact Or.inr ⟨hf3, hB⟩
    · have hJ2 : pu_Jk (16 - D) n tx s6 F p := hJ.mv qg q2 q3
      obtain ⟨c4, x1, x2, x3⟩ := hJ2.fin
      refine ⟨nI F, c4, pm_si s8 1 16 (s8.1 1 16 + 1), by rw [x1, Option.bind_some], ?_, (F2.tr (pu_Fs.of (by omega) x2 (pu_rX.rf _))).r1 (by omega), Or.inr ⟨hf, F, p, x3, rfl, ?_⟩⟩
      · rw [ev_L18f hf, pu_post, Option.bind_some]
        exact if_neg hf
      · rw [pm_si_ne (by omega), t1 15 (by omega) (by omega)]; exact hp
  | succ k ih =>
    intro m j N N2 c r hm hN hN2 G h13
    obtain ⟨N, rfl⟩ : ∃ z, N = z + 2 := ⟨N - 2, by omega⟩
    obtain ⟨N2, rfl⟩ : ∃ z, N2 = z + 1 := ⟨N2 - 1, by omega⟩
    obtain ⟨v, f, c2, r2, y1, y2, y3, y4, y5⟩ := ev_num 0 9 G
    have hin := ev_into13 (m := m) (by omega) y2
    have g1 : c.2 = lgC (16 - D) 2 := G.1.1
    have i1 : pm_ib (nI m) 12 = true := pm_ib_nI (by omega) (by omega)
    have k1 : (nI m).toNatClampNeg = m := nI_clamp (by omega)
    have em : ¬ (12 : Int32) ≤ nI m := fun z => by have := (qn_le_iff (a := 12) (by omega) (by omega)).mp z; omega
    have em1 : ¬ (12 : Int32) ≤ nI (m + 1) := fun z => by have := (qn_le_iff (a := 12) (by omega) (by omega)).mp z; omega
    obtain ⟨s6, hs6⟩ : ∃ s6, s6 = pm_si (pm_si c2 (D + 5) m v) D 10 (nI (m + 1)) := ⟨_, rfl⟩
    obtain ⟨s8, hs8⟩ : ∃ s8, s8 = pm_si (pm_si r2 13 m (r2.1 1 17)) 1 28 (nI (m + 1)) := ⟨_, rfl⟩
    have F2 : pu_Fs D c r s6 s8 := by
      rw [hs6, hs8]
      exact ((((pu_Fs.of (by omega) y3 y4).c5).cD).r13).r1 (by omega)
    have q2 : s6.1 2 = c2.1 2 := by rw [hs6, pm_si_row (by omega), pm_si_row (by omega)]
    have q3 : s6.1 3 = c2.1 3 := by rw [hs6, pm_si_row (by omega), pm_si_row (by omega)]
    have qg : s6.2 = c2.2 := by rw [hs6]; rfl
    have t8 : s8.1 8 = r2.1 8 := by rw [hs8, pm_si_row (by omega), pm_si_row (by omega)]
    have tg : s8.2 = r2.2 := by rw [hs8]; rfl
    have t1 : ∀ k, 14 ≤ k → k < 17 → s8.1 1 k = r2.1 1 k := fun k _ _ => by rw [hs8, pm_si_ne (by omega), pm_si_row (by omega)]
    have eL : fX5_readSways_L24 lw_SC 3 D (fun s13 => Option.bind (fX5_takeEnd lw_SC 3 s13) fun u14 => some u14) (N + 2) 1 (nI m) c = (if (s6.1 3 0) = 0 then Option.bind (fX5_takeSign lw_SC 3 (44 : Int32) s6) fun u7 => (if u7.1 = 0 then fX5_readSways_L24 lw_SC 3 D (fun s13 => Option.bind (fX5_takeEnd lw_SC 3 s13) fun u14 => some u14) (N + 1) (0 : Int32) (nI (m + 1)) u7.2 else fX5_readSways_L24 lw_SC 3 D (fun s13 => Option.bind (fX5_takeEnd lw_SC 3 s13) fun u14 => some u14) (N + 1) (1 : Int32) (nI (m + 1)) u7.2) else fX5_readSways_L24 lw_SC 3 D (fun s13 => Option.bind (fX5_takeEnd lw_SC 3 s13) fun u14 => some u14) (N + 1) (0 : Int32) (nI (m + 1)) s6) := by
      rw [fX5_readSways_L24, if_neg em, if_neg n10, y1, Option.bind_some]
      simp only [g1, lgD hD, lenT hD, i1, k1, if_true, pm_let, (nL m).2.2.2.2.2.2, if_neg em1]
      rw [← hs6]
    have eR : pu_post (Option.bind (fX12_into lw_SR 1 13 (nI m) 0 9 r) fun u2 => fX12_takeSways_L18 lw_SR 1 (fun w13 s14 => some (w13, s14)) (N2 + 1) u2.1 (pm_si u2.2 1 28 (nI (m + 1)))) = pu_post (fX12_takeSways_L18 lw_SR 1 (fun w13 s14 => some (w13, s14)) (N2 + 1) f s8) := by
      rw [hin, Option.bind_some, hs8]
    rw [eL, eR]
    rcases y5 with ⟨rfl, y6, y7, y8, j1, hj1, G2⟩ | ⟨⟨hf, hf'⟩, F, p, hJ, rfl, hp⟩
    · have G3 : pu_Gd (16 - D) n tx s6 s8 j1 := G2.mv qg q2 q3 tg t8 t1
      have D4 : pu_D4 s6 s8 D (m + 1) := by
        refine ⟨by omega, by rw [hs6, pm_si_same], by rw [hs8, pm_si_same], fun i hi => ?_⟩
        have m1 : s6.1 (D + 5) i = (pm_si c2 (D + 5) m v).1 (D + 5) i := by rw [hs6, pm_si_row (by omega)]
        have m2 : s8.1 13 i = (pm_si r2 13 m (r2.1 1 17)).1 13 i := by rw [hs8, pm_si_row (by omega)]
        rw [m1, m2]
        by_cases e : i = m
        · subst e
          rw [pm_si_same, pm_si_same, y6]
          exact ⟨rfl, by simpa using y7.1, by simpa using y7.2⟩
        · rw [pm_si_ne (by omega), pm_si_ne (by omega), y3.2.1 (D + 5) (by omega), y4.2.1 13 (by omega)]
          exact h13 i (by omega)
      obtain ⟨a, b, ⟨d1, d2, d3⟩, e1, e2, e3⟩ := id G3
      obtain ⟨r3, z1, z2, z3, z4⟩ := ev_here b d3 d2
      obtain ⟨c3, x1, x2, x3, x4⟩ := ev_sign (sg := 44) (by decide) a d3 d1
      obtain ⟨s1, s2, -⟩ := pu_sk_in tx (n - j1) j1
      obtain ⟨j2, hj2⟩ : ∃ j2, j2 = pu_sk tx (n - j1) j1 := ⟨_, rfl⟩
      rw [← hj2] at z1 z3 x1 x3 s1 s2
      have r28 : r3.1 1 28 = nI (m + 1) := by rw [z4 28 (by omega)]; exact D4.2.2.1
      by_cases h44 : pu_hd tx n j2 = 44
      · have hlt : j2 < n := by
          by_cases hlt : j2 < n
          · exact hlt
          · rw [pu_hd, if_neg hlt] at h44; exact absurd h44 (by decide)
        rw [if_pos h44] at x1 x3
        have r12 : ¬ nI (m + 1) = 12 := fun z => by have := (qn_inj (b := 12) (by omega) (by omega)).mp z; omega
        obtain ⟨s5, hs5⟩ : ∃ s5, s5 = pm_si r3 1 16 (nI (j2 + 1)) := ⟨_, rfl⟩
        have X5 : pu_rX s8 s5 := by rw [hs5]; exact z2.tr (pu_rX.si (by omega))
        have G4 : pu_Gd (16 - D) n tx c3 s5 (j2 + 1) := ⟨a.cX x2, b.rX X5, ⟨x3, by rw [hs5, pm_si_same], by omega⟩, by rw [x4 0 (by omega)]; exact e1, by rw [x4 1 (by omega)]; exact e2, by rw [hs5, pm_si_ne (by omega), z4 15 (by omega)]; exact e3⟩
        have D4' := D4.cg (c' := c3) (r' := s5) (by rw [x2.2.1 D (by omega)]) (x2.2.1 (D + 5) (by omega)) (X5.2.2 28 (by omega)) (X5.2.1 13 (by omega))
        obtain ⟨f', c', r', p1, p2, p3, p4⟩ := ih (m + 1) (j2 + 1) (N + 1) N2 c3 s5 (by omega) (by omega) (by omega) G4 D4'.2.2.2
        refine ⟨f', c', r', ?_, ?_, (F2.tr (pu_Fs.of (by omega) x2 X5)).tr p3, ?_⟩
        · rw [if_pos e1, x1, Option.bind_some, if_neg n10]
          exact p1
        · obtain ⟨v', f'', c5, r5, u1, u2, u3, u4, u5⟩ := ev_num 0 9 G4
          have hin2 := ev_into13 (m := m + 1) (by omega) u2
          have g5 : s5.2 = lw_R0.2 := G4.2.1.1
          have s28 : s5.1 1 28 = nI (m + 1) := by rw [hs5, pm_si_ne (by omega)]; exact r28
          have q28 : (pm_si r5 13 (m + 1) (r5.1 1 17)).1 1 28 = nI (m + 1) := by rw [pm_si_row (by omega), u4.2.2 28 (by omega)]; exact s28
          rw [hin2, Option.bind_some] at p2
          rw [fX12_takeSways_L18, if_pos rfl, z1, Option.bind_some]
          simp only [if_pos h44, r28, if_neg r12, pm_let, z3, (nL j2).2.2.2.2.2.2]
          rw [← hs5]
          simp only [g5, lgR, s28, hin2, Option.bind_some, q28, (nL (m + 1)).2.2.2.2.2.2]
          exact p2
        · rcases p4 with ⟨rfl, j', hj', p5⟩ | p5
          · exact Or.inl ⟨rfl, j', by omega, p5⟩
          · exact Or.inr p5
      · rw [if_neg h44] at x1 x3
        have G4 : pu_Gd (16 - D) n tx c3 r3 j2 := ⟨a.cX x2, b.rX z2, ⟨x3, z3, by omega⟩, by rw [x4 0 (by omega)]; exact e1, by rw [x4 1 (by omega)]; exact e2, by rw [z4 15 (by omega)]; exact e3⟩
        obtain ⟨f3, c4, r4, u1, u2, u3, u4, u5⟩ := ev_end G4
        refine ⟨f3, c4, r4, ?_, ?_, F2.tr (pu_Fs.of (by omega) (x2.tr u3) (z2.tr u4)), ?_⟩
        · rw [if_pos e1, x1, Option.bind_some]
          simp only [if_true]
          rw [ev_L24x, u1, Option.bind_some]
        · rw [fX12_takeSways_L18, if_pos rfl, z1, Option.bind_some]
          simp only [if_neg h44]
          rw [pu_post, Option.bind_some]
          exact (if_pos rfl).trans u2
        · rcases u5 with ⟨rfl, j3, hj3, G5⟩ | ⟨hf3, hB⟩
          · have X3 := x2.tr u3
            have X4 := z2.tr u4
            exact Or.inl ⟨rfl, j3, by omega, G5, m + 1, D4.cg (by rw [X3.2.1 D (by omega)]) (X3.2.1 (D + 5) (by omega)) (X4.2.2 28 (by omega)) (X4.2.1 13 (by omega))⟩
          · exact Or.inr ⟨hf3, hB⟩
    · have hJ2 : pu_Jk (16 - D) n tx s6 F p := hJ.mv qg q2 q3
      obtain ⟨c4, x1, x2, x3⟩ := hJ2.fin
      refine ⟨nI F, c4, pm_si s8 1 16 (s8.1 1 16 + 1), ?_, ?_, (F2.tr (pu_Fs.of (by omega) x2 (pu_rX.rf _))).r1 (by omega), Or.inr ⟨hf, F, p, x3, rfl, ?_⟩⟩
      · rw [if_neg hJ2.ne, ev_L24x, x1, Option.bind_some]
      · rw [ev_L18f hf, pu_post, Option.bind_some]
        exact if_neg hf
      · rw [pm_si_ne (by omega), t1 15 (by omega) (by omega)]; exact hp
theorem ev_sways {D n : Nat} {tx : Nat → Int32} {c r : pm_H} {i L kn ko np ks : Nat} (hD : D = 5 ∨ D = 11) (G : pu_Gd (16 - D) n tx c r i) (hi : i < n) (h12 : 12 ≤ L) (H : pu_Dp c r D L kn ko np ks) : pu_Cl D (16 - D) n tx c r i (fX5_readSways lw_SC 3 D c) (fX12_takeClause_J82 lw_SR 1 4 r) := by
  have n10 : ¬ (1 : Int32) = 0 := by decide
  obtain ⟨hL, H0, H1, H2, H3, ⟨a1, a2, a3, a4⟩⟩ := H
  by_cases hk : ks = 0
  · subst hk
    have e0 : c.1 D 10 = 0 := a2
    have hfull : fX12_isFull lw_SR 1 4 r = some (0, r) := by
      rw [fX12_isFull, if_neg (by decide), if_neg (by decide), if_neg (by decide), if_neg (by decide), a3, if_pos (by decide)]
    obtain ⟨c1, r1, w1, w2, w3, w4, G1⟩ := ev_wgo G hi
    obtain ⟨f, c', r', p1, p2, p3, p4⟩ := ev_swayN hD 11 0 (i + 1) pm_fuel pm_fuel c1 r1 (by omega) (by unfold pm_fuel; omega) (by unfold pm_fuel; omega) G1 (fun i hi => absurd hi (Nat.not_lt_zero _))
    have p1' : fX5_readSways_L24 lw_SC 3 D (fun s13 => Option.bind (fX5_takeEnd lw_SC 3 s13) fun u14 => some u14) pm_fuel 1 0 c1 = some c' := p1
    have p2' : pu_post (Option.bind (fX12_into lw_SR 1 13 0 0 9 r1) fun u2 => fX12_takeSways_L18 lw_SR 1 (fun w13 s14 => some (w13, s14)) pm_fuel u2.1 (pm_si u2.2 1 28 1)) = some (f, r') := p2
    have F1 : pu_Fs D c r c' r' := (pu_Fs.of (by omega) w3 w4).tr p3
    refine ⟨f, c', r', ?_, ?_, F1.F, ?_⟩
    · rw [fX5_readSways, if_pos e0, fX5_readSways_J13, w1, Option.bind_some, if_neg n10]
      exact p1'
    · refine ev_J82p hfull ?_
      have s29 : r1.2 1 29 = 13 := by rw [w4.1, G.2.1.1]; simp only [lgR]
      rw [w2, fX12_takeBody, if_neg (by decide), if_neg (by decide), if_neg (by decide), if_neg (by decide), fX12_takeSways, s29]
      have : ∀ o : Option (Int32 × pm_H), (Option.bind o fun u9 => some (u9.1, u9.2)) = o := fun o => by cases o <;> rfl
      rw [this]
      exact p2'
    · rcases p4 with ⟨rfl, j', hj', G', ks', D4⟩ | p5
      · refine Or.inl ⟨rfl, j', by omega, G', L, kn, ko, np, ks', Or.inl h12, H0.cg (F1.2.2.1 0 (by omega)) (F1.2.2.1 1 (by omega)) (F1.2.2.2.2.2 19 (by omega) (by omega)) (F1.2.2.2.2.2 20 (by omega) (by omega)), H1.cg (F1.2.2.1 3 (by omega)) (F1.2.1 (D + 1) (by omega) (by omega) (by omega)) (F1.2.2.2.2.2 21 (by omega) (by omega)) (F1.2.2.2.2.1 9 (by omega) (by omega)), H2.cg (F1.2.2.1 6 (by omega)) (F1.2.1 (D + 2) (by omega) (by omega) (by omega)) (F1.2.1 (D + 3) (by omega) (by omega) (by omega)) (F1.2.2.2.2.2 23 (by omega) (by omega)) (F1.2.2.2.2.1 10 (by omega) (by omega)) (F1.2.2.2.2.1 11 (by omega) (by omega)), H3.cg (F1.2.2.1 8 (by omega)) (F1.2.1 (D + 4) (by omega) (by omega) (by omega)) (F1.2.2.2.2.2 26 (by omega) (by omega)) (F1.2.2.2.2.1 12 (by omega) (by omega)), D4⟩
      · exact Or.inr p5
  · have hne : ¬ c.1 D 10 = 0 := by rw [a2]; exact nI_ne0 (by omega) (by omega)
    refine ev_clfull G (fun c' h => ?_) ?_
    · rw [fX5_readSways, if_neg hne, fX5_readSways_J13, h, Option.bind_some, if_pos rfl]
    · have : ¬ nI ks ≤ 0 := fun z => by have := (qn_le_iff (b := 0) (by omega) (by omega)).mp z; omega
      rw [fX12_isFull, if_neg (by decide), if_neg (by decide), if_neg (by decide), if_neg (by decide), a3, if_neg this]
