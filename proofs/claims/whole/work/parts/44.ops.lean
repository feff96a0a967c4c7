theorem ev_findTimes {nk : Nat → Nat} {kn L M : Nat} {r : pm_H} (hM : M ≤ 20) (g3 : r.2 = lw_R0.2) (hk : kn ≤ 5) (ek : r.1 1 2 = nI kn) (hnk : ∀ i, i < kn → r.1 2 i = nI (nk i) ∧ nk i ≤ 240) (hL : L ≤ 240) (eL : r.1 7 0 = nI L) : ∃ r', fX12_findTimes lw_SR 1 (nI M) r = some r' ∧ r'.2 = r.2 ∧ (∀ q, q ≠ 15 → r'.1 q = r.1 q) ∧ ∀ x, x < 1000 → (∃ dd, dd ≤ M ∧ pu_lv (pu_Bl nk kn L) dd x ∧ r'.1 15 x = nI dd) ∨ (¬ pu_rd (pu_Bl nk kn L) M x ∧ r'.1 15 x = nI 1000000) := by
  have fill : ∀ k i n (s : pm_H), i + k = 1000 → k < n → s.2 = r.2 → (∀ q, q ≠ 15 → s.1 q = r.1 q) → (∀ j, j < i → s.1 15 j = if j = 0 then 0 else nI 1000000) → ∃ r', r'.2 = r.2 ∧ (∀ q, q ≠ 15 → r'.1 q = r.1 q) ∧ (∀ j, j < 1000 → r'.1 15 j = if j = 0 then 0 else nI 1000000) ∧ ∀ kx, fX12_findTimes_L2 lw_SR 1 (nI M) kx n (nI i) s = kx r' := by
    intro k
    induction k with
    | zero =>
      intro i n s hi hn a1 a2 a3
      obtain ⟨n, rfl⟩ : ∃ z, n = z + 1 := ⟨n - 1, by omega⟩
      have e0 : (1000 : Int32) ≤ nI i := (qn_le_iff (a := 1000) (by omega) (by omega)).mpr (by omega)
      exact ⟨s, a1, a2, fun j hj => a3 j (by omega), fun kx => by rw [fX12_findTimes_L2, if_pos e0]⟩
    | succ k ih =>
      intro i n s hi hn a1 a2 a3
      obtain ⟨n, rfl⟩ : ∃ z, n = z + 1 := ⟨n - 1, by omega⟩
      have e0 : ¬ (1000 : Int32) ≤ nI i := fun z => by have := (qn_le_iff (a := 1000) (by omega) (by omega)).mp z; omega
      have i1 : pm_ib (nI i) 1000 = true := pm_ib_nI (by omega) (by omega)
      have c1 : (nI i).toNatClampNeg = i := nI_clamp (by omega)
      have a1' : s.2 = lw_R0.2 := a1.trans g3
      obtain ⟨r', y1, y2, y3, y4⟩ := ih (i + 1) n (pm_si s 15 i (if i = 0 then 0 else nI 1000000)) (by omega) (by omega) a1 (fun q hq => by rw [pm_si_row hq]; exact a2 q hq) (fun j hj => by
        by_cases hji : j = i
        · subst hji; rw [pm_si_same]
        · rw [pm_si_ne (by omega)]; exact a3 j (by omega))
      refine ⟨r', y1, y2, y3, fun kx => ?_⟩
      rw [← y4 kx, fX12_findTimes_L2, if_neg e0]
      by_cases hi0 : i = 0
      · have ei : nI i = 0 := by rw [hi0]; rfl
        rw [if_pos ei]
        simp only [a1', lgR, lenR, i1, c1, if_true, pm_let, (nL i).2.2.2.2.2.2, if_pos hi0]
      · have ei : ¬ nI i = 0 := nI_ne0 (by omega) (by omega)
        rw [if_neg ei]
        simp only [a1', lgR, lenR, i1, c1, if_true, pm_let, (nL i).2.2.2.2.2.2, if_neg hi0]
        rfl
  have nicks : ∀ n, n ≤ 19 → ∀ k j m (s : pm_H), j + k = kn → k < m → s.2 = r.2 → (∀ q, q ≠ 15 → s.1 q = r.1 q) → pu_I (pu_Bl nk kn L) n (fun b' _ => pu_Bl nk j L b') (s.1 15) → ∃ r', r'.2 = r.2 ∧ (∀ q, q ≠ 15 → r'.1 q = r.1 q) ∧ pu_I (pu_Bl nk kn L) n (fun b' _ => pu_Bl nk kn L b') (r'.1 15) ∧ ∀ kx, fX12_findTimes_L52 lw_SR 1 (nI M) (nI n) kx m (nI j) s = kx r' := by
    intro n hn k
    induction k with
    | zero =>
      intro j m s hj hm a1 a2 a3
      obtain ⟨m, rfl⟩ : ∃ z, m = z + 1 := ⟨m - 1, by omega⟩
      have hjk : j = kn := by omega
      subst hjk
      have e0 : nI j ≤ nI j := Int32.le_refl _
      exact ⟨s, a1, a2, a3, fun kx => by rw [fX12_findTimes_L52, a2 1 (by omega), ek, if_pos e0]⟩
    | succ k ih =>
      intro j m s hj hm a1 a2 a3
      obtain ⟨m, rfl⟩ : ∃ z, m = z + 1 := ⟨m - 1, by omega⟩
      have e0 : ¬ nI kn ≤ nI j := fun z => by have := (qn_le_iff (by omega) (by omega)).mp z; omega
      obtain ⟨b1, b2⟩ := hnk j (by omega)
      have i1 : pm_ib (nI j) 5 = true := pm_ib_nI (by omega) (by omega)
      have c1 : (nI j).toNatClampNeg = j := nI_clamp (by omega)
      have a1' : s.2 = lw_R0.2 := a1.trans g3
      have s1 : s.1 1 2 = nI kn := by rw [a2 1 (by omega)]; exact ek
      have s2 : s.1 2 j = nI (nk j) := by rw [a2 2 (by omega)]; exact b1
      have s3 : s.1 7 0 = nI L := by rw [a2 7 (by omega)]; exact eL
      by_cases hlt : nk j < L
      · have e1 : ¬ nI L ≤ nI (nk j) := fun z => by have := (qn_le_iff (by omega) (by omega)).mp z; omega
        obtain ⟨s', p1, p2, p3, p4⟩ := ev_layR (B := pu_Bl nk kn L) (b := nk j) (D := fun b' => pu_Bl nk j L b') hn b2 (Or.inr ⟨j, by omega, rfl, hlt⟩) a1' a3
        obtain ⟨r', y1, y2, y3, y4⟩ := ih (j + 1) m s' (by omega) (by omega) (p2.trans a1) (fun q hq => by rw [p3 q hq, a2 q hq]) (p4.weak (fun b' y _ h => by
          rcases h with z | ⟨i, z1, z2, z3⟩
          · exact Or.inl (Or.inl z)
          · by_cases hij : i = j
            · subst hij; exact Or.inr z2.symm
            · exact Or.inl (Or.inr ⟨i, by omega, z2, z3⟩)))
        refine ⟨r', y1, y2, y3, fun kx => ?_⟩
        rw [← y4 kx, fX12_findTimes_L52, s1, if_neg e0]
        simp only [a1', lgR, lenR, i1, c1, ib80, cl6, if_true, s2, s3, if_neg e1, p1, Option.bind_some, (nL j).2.2.2.2.2.2]
      · have e1 : nI L ≤ nI (nk j) := (qn_le_iff (by omega) (by omega)).mpr (by omega)
        obtain ⟨r', y1, y2, y3, y4⟩ := ih (j + 1) m s (by omega) (by omega) a1 a2 (a3.weak (fun b' y _ h => by
          rcases h with z | ⟨i, z1, z2, z3⟩
          · exact Or.inl z
          · by_cases hij : i = j
            · subst hij; omega
            · exact Or.inr ⟨i, by omega, z2, z3⟩))
        refine ⟨r', y1, y2, y3, fun kx => ?_⟩
        rw [← y4 kx, fX12_findTimes_L52, s1, if_neg e0]
        simp only [a1', lgR, lenR, i1, c1, ib80, cl6, if_true, s2, s3, if_pos e1, (nL j).2.2.2.2.2.2]
  have layers : ∀ k n m (s : pm_H), n + k = M → k < m → s.2 = r.2 → (∀ q, q ≠ 15 → s.1 q = r.1 q) → (∀ x, x < 1000 → (∃ dd, dd ≤ n ∧ pu_lv (pu_Bl nk kn L) dd x ∧ s.1 15 x = nI dd) ∨ (¬ pu_rd (pu_Bl nk kn L) n x ∧ s.1 15 x = nI 1000000)) → ∃ r', fX12_findTimes_L34 lw_SR 1 (nI M) (fun s23 => some s23) m (nI n) s = some r' ∧ r'.2 = r.2 ∧ (∀ q, q ≠ 15 → r'.1 q = r.1 q) ∧ ∀ x, x < 1000 → (∃ dd, dd ≤ M ∧ pu_lv (pu_Bl nk kn L) dd x ∧ r'.1 15 x = nI dd) ∨ (¬ pu_rd (pu_Bl nk kn L) M x ∧ r'.1 15 x = nI 1000000) := by
    intro k
    induction k with
    | zero =>
      intro n m s hn hm a1 a2 a3
      obtain ⟨m, rfl⟩ : ∃ z, m = z + 1 := ⟨m - 1, by omega⟩
      have hnM : n = M := by omega
      subst hnM
      have e0 : nI n ≤ nI n := Int32.le_refl _
      exact ⟨s, by rw [fX12_findTimes_L34, if_pos e0], a1, a2, a3⟩
    | succ k ih =>
      intro n m s hn hm a1 a2 a3
      obtain ⟨m, rfl⟩ : ∃ z, m = z + 1 := ⟨m - 1, by omega⟩
      have e0 : ¬ nI M ≤ nI n := fun z => by have := (qn_le_iff (by omega) (by omega)).mp z; omega
      have a1' : s.2 = lw_R0.2 := a1.trans g3
      have s3 : s.1 7 0 = nI L := by rw [a2 7 (by omega)]; exact eL
      obtain ⟨s1, p1, p2, p3, p4⟩ := ev_layR (B := pu_Bl nk kn L) (n := n) (b := L) (D := fun _ => False) (by omega) hL (Or.inl rfl) a1' (fun x hx => by
        rcases a3 x hx with z | ⟨z1, z2⟩
        · exact Or.inl z
        · exact Or.inr (Or.inr ⟨z1, z2, fun b y h => absurd h id⟩))
      obtain ⟨s2, q1, q2, q3, q4⟩ := nicks n (by omega) kn 0 pm_fuel s1 (by omega) (by unfold pm_fuel; omega) (p2.trans a1) (fun q hq => by rw [p3 q hq, a2 q hq]) (p4.weak (fun b' y _ h => by
        rcases h with z | ⟨i, z1, z2, z3⟩
        · exact Or.inr z
        · omega))
      have q4' : ∀ kx, fX12_findTimes_L52 lw_SR 1 (nI M) (nI n) kx pm_fuel 0 s1 = kx s2 := q4
      obtain ⟨r', y1, y2⟩ := ih (n + 1) m s2 (by omega) (by omega) q1 q2 (fun x hx => by
        rcases q3 x hx with ⟨d, z1, z2, z3⟩ | ⟨z1, z2, z3⟩ | ⟨z1, z2, z3⟩
        · exact Or.inl ⟨d, by omega, z2, z3⟩
        · exact Or.inl ⟨n + 1, by omega, ⟨z2, fun d' hd h5 => z1 (pu_rd_mono (by omega) h5)⟩, z3⟩
        · refine Or.inr ⟨fun hr => ?_, z2⟩
          obtain ⟨y, y1, b, y2, y3⟩ := pu_lv_prev hr z1
          have := z3 b y y2 y1
          rcases y3 with y3 | y3
          · exact this.1 y3
          · exact this.2 y3)
      refine ⟨r', ?_, y2⟩
      rw [fX12_findTimes_L34, if_neg e0]
      simp only [a1', lgR, lenR, ib80, cl6, if_true, s3, p1, Option.bind_some, q4', (nL n).2.2.2.2.2.2, y1]
  obtain ⟨s, f1, f2, f3, f4⟩ := fill 1000 0 pm_fuel r (by omega) (by unfold pm_fuel; omega) rfl (fun _ _ => rfl) (fun j hj => by omega)
  have f4' : ∀ kx, fX12_findTimes_L2 lw_SR 1 (nI M) kx pm_fuel 0 r = kx s := f4
  obtain ⟨r', y1, y2⟩ := layers M 0 pm_fuel s (by omega) (by unfold pm_fuel; omega) f1 f2 (fun x hx => by
    by_cases hx0 : x = 0
    · subst hx0
      exact Or.inl ⟨0, by omega, ⟨rfl, fun d' hd => absurd hd (Nat.not_lt_zero _)⟩, by rw [f3 0 hx, if_pos rfl]; rfl⟩
    · exact Or.inr ⟨hx0, by rw [f3 x hx, if_neg hx0]⟩)
  have y1' : fX12_findTimes_L34 lw_SR 1 (nI M) (fun s23 => some s23) pm_fuel 0 s = some r' := y1
  refine ⟨r', ?_, y2⟩
  rw [fX12_findTimes, f4', y1']
theorem ev_both {c r : pm_H} {T l np : Nat} (H : pu_R c r T l 1 np) {M : Nat} (hM1 : 1 ≤ M) (hM : M ≤ 20) : ∃ (L : Nat) (c1 c' r' : pm_H), (1 ≤ L ∧ L ≤ 240 ∧ c.1 18 0 = nI L) ∧ fX2_takeLengths lw_SC 213 T (nI L) c = some c1 ∧ fX2_layOn lw_SC 213 (nI M) c1 = some c' ∧ fX12_findTimes lw_SR 1 (nI M) r = some r' ∧ c1.2 = c.2 ∧ c'.2 = c.2 ∧ r'.2 = r.2 ∧ c'.1 18 0 = nI L ∧ r'.1 7 0 = nI L ∧ pu_R c' r' T l 1 np ∧ ∀ x, x < 1000 → (∃ dd, dd ≤ M ∧ c'.1 214 x = nI dd ∧ r'.1 15 x = nI dd) ∨ (c'.1 214 x = -1 ∧ r'.1 15 x = nI 1000000) := by
  obtain ⟨hT, g1, g2, g3, ht, hf, b1, b2, b3, b4, hs, hsi, hb⟩ := id H
  obtain ⟨L0, kn, ko, ks, -, k00, -, -, ⟨k3, k4⟩, -, -, -, kn1, -, -⟩ := b1
  obtain ⟨L, y', nt, nh, k0, ⟨a1, a2⟩, -⟩ := id b2
  simp only [Nat.reduceAdd] at a1
  obtain ⟨nk, hnk0⟩ : ∃ nk : Nat → Nat, nk = fun i => (c.1 (T + 1) i).toNatClampNeg := ⟨_, rfl⟩
  have hnk : ∀ i, i < kn → c.1 (T + 1) i = nI (nk i) ∧ nk i ≤ 240 := fun i hi => by
    obtain ⟨z1, z2, z3⟩ := kn1 i hi
    obtain ⟨u, e1, e2, e3⟩ := qn_of (by omega) z2 z3
    have : nk i = u := by rw [hnk0]; show (c.1 (T + 1) i).toNatClampNeg = u; rw [e1, nI_clamp (by omega)]
    rw [this]
    exact ⟨e1, by omega⟩
  obtain ⟨c1, K, b, p1, p2, p3, p4, p5, p6, p7⟩ := ev_take (nk := nk) hT g1 (show kn ≤ 5 by omega) k3 hnk (show L ≤ 240 by omega)
  obtain ⟨c', q1, q2, q3, q4⟩ := ev_layOnC (B := pu_Bl nk kn L) (M := M) (b := b) hM1 hM (p2.trans g1) p4 p5 p6 p7
  obtain ⟨r', w1, w2, w3, w4⟩ := ev_findTimes (nk := nk) (M := M) (r := r) hM g3 (show kn ≤ 5 by omega) k4 (fun i hi => by rw [(kn1 i hi).1]; exact hnk i hi) (show L ≤ 240 by omega) a2
  have fr : ∀ q, q ≠ 213 → q ≠ 214 → q ≠ 215 → q ≠ 216 → c'.1 q = c.1 q := fun q z1 z2 z3 z4 => by rw [q3 q z1 z2 z3, p3 q z1 z4]
  refine ⟨L, c1, c', r', ⟨by omega, by omega, a1⟩, p1, q1, w1, p2, q2.trans p2, w2, by rw [fr 18 (by omega) (by omega) (by omega) (by omega)]; exact a1, by rw [w3 7 (by omega)]; exact a2, H.scr (q2.trans p2) w2 (fun q hq => fr q (by omega) (by omega) (by omega) (by omega)) (fun q hq _ _ => w3 q hq), fun x hx => ?_⟩
  rcases q4 x hx with ⟨dd, z1, z2, z3⟩ | ⟨z1, z2⟩
  · rcases w4 x hx with ⟨de, y1, y2, y3⟩ | ⟨y1, y2⟩
    · exact Or.inl ⟨dd, z1, z3, by rw [y3, pu_lv_uniq y2 z2]⟩
    · exact absurd (pu_rd_mono z1 z2.1) y1
  · rcases w4 x hx with ⟨de, y1, y2, y3⟩ | ⟨y1, y2⟩
    · exact absurd (pu_rd_mono y1 y2.1) z1
    · exact Or.inr ⟨z2, y2⟩
theorem pu_had : pu_1 pu_Rel fX11_had fX12_had := by
  intro c r h a
  obtain ⟨T, l, lo, np, H⟩ := id h
  obtain ⟨n1, n2⟩ := ev_noRealm H
  rcases pu_w01 a 0 999 with hw | hw
  · exact pu_ro h (-1000000002) (by simp [fX11_had, ev_within, hw]) (by simp [fX12_had, evI, hw])
  by_cases hlo : lo = 0
  · exact pu_ro h (-1000000003) (by simp [fX11_had, ev_within, hw, n1, hlo]) (by simp [fX12_had, evI, hw, n2, hlo])
  have hlo1 := H.lo1
  have : lo = 1 := by omega
  subst this
  have wl := pu_w_lit hw
  obtain ⟨x, rfl, ⟨hx1, hx2⟩, hx3⟩ := qn_of (lo := 0) (hi := 999) (by omega) (by simpa using wl.1) (by simpa using wl.2)
  obtain ⟨L, c1, c', r', ⟨e1, e2, e3⟩, p1, p2, p3, p4, p5, p6, p7, p8, p9, p10⟩ := ev_both H (M := 20) (by omega) (by omega)
  have g1 := H.2.1
  have g3 : r.2 = lw_R0.2 := H.2.2.2.1
  have i1 : pm_ib (nI x) 1000 = true := pm_ib_nI (by omega) (by omega)
  have cx : (nI x).toNatClampNeg = x := nI_clamp (by omega)
  have n0 : ¬ (1 : Int32) = 0 := by decide
  have p2' : fX2_layOn lw_SC 213 20 c1 = some c' := p2
  have p3' : fX12_findTimes lw_SR 1 20 r = some r' := p3
  have p4' : c1.2 = lgC T l := p4.trans g1
  have p5' : c'.2 = lgC T l := p5.trans g1
  have p6' : r'.2 = lw_R0.2 := p6.trans g3
  refine ⟨c'.1 214 x, c', r', ?_, ?_, T, l, 1, np, p9⟩
  · simp only [fX11_had, ev_within, hw, Option.bind_some, if_neg n0, n1, if_neg hlo, if_true, g1, lgS, e3, p1, p4', p2', p5', lenS, i1, cx]
  · have B : fX12_in lw_SR (nI x).toInt64 (0 : Int64) (999 : Int64) r = some (1, r) := by simp only [evI, hw]
    rw [fX12_had, B, Option.bind_some, if_neg n0, n2, Option.bind_some, if_neg hlo, if_neg n0, p3', Option.bind_some]
    simp only [p6', lgR, lenR, i1, cx, if_true]
    rcases p10 x (by omega) with ⟨dd, z1, z2, z3⟩ | ⟨z1, z2⟩
    · have e : ¬ (20 : Int32) < nI dd := fun z => by have := (qn_lt_iff (a := 20) (by omega) (by omega)).mp z; omega
      rw [z3, if_neg e, z2]
    · have e : (20 : Int32) < nI 1000000 := by decide
      rw [z2, if_pos e, z1]
theorem pu_parts : pu_1 pu_Rel fX11_parts fX12_parts := by
  intro c r h a
  obtain ⟨T, l, lo, np, H⟩ := id h
  obtain ⟨n1, n2⟩ := ev_noRealm H
  by_cases hlo : lo = 0
  · exact pu_ro h (-1000000003) (by simp [fX11_parts, n1, hlo]) (by simp [fX12_parts, n2, hlo])
  have hlo1 := H.lo1
  have : lo = 1 := by omega
  subst this
  obtain ⟨L, c1, c', r', ⟨e1, e2, e3⟩, p1, p2, p3, p4, p5, p6, p7, p8, p9, p10⟩ := ev_both H (M := 2) (by omega) (by omega)
  have g1 := H.2.1
  have g3 : r.2 = lw_R0.2 := H.2.2.2.1
  have n0 : ¬ (1 : Int32) = 0 := by decide
  have p2' : fX2_layOn lw_SC 213 2 c1 = some c' := p2
  have p3' : fX12_findTimes lw_SR 1 2 r = some r' := p3
  have p4' : c1.2 = lgC T l := p4.trans g1
  have p5' : c'.2 = lgC T l := p5.trans g1
  have p6' : r'.2 = lw_R0.2 := p6.trans g3
  have loop : ∀ k x m m' (f : Int32), x + k = L + 1 → 1 ≤ x → k < m → k < m' → ∃ v, fX11_parts_L43 lw_SC 1 a (fun w18 s19 => (if a = (-1 : Int32) then some (w18, s19) else some ((-1 : Int32), s19))) m f (nI x) c' = some (v, c') ∧ fX12_parts_L19 lw_SR 1 a (fun w10 s11 => (if a = (-1 : Int32) then some (w10, s11) else some ((-1 : Int32), s11))) m' f (nI x) r' = some (v, r') := by
    intro k
    induction k with
    | zero =>
      intro x m m' f hx h1 hm hm'
      obtain ⟨m, rfl⟩ : ∃ z, m = z + 1 := ⟨m - 1, by omega⟩
      obtain ⟨m', rfl⟩ : ∃ z, m' = z + 1 := ⟨m' - 1, by omega⟩
      have e : nI L < nI x := (qn_lt_iff (by omega) (by omega)).mpr (by omega)
      refine ⟨if a = -1 then f else -1, ?_, ?_⟩
      · simp only [fX11_parts_L43, p5', lgS, p7, if_pos e]
        split <;> rfl
      · simp only [fX12_parts_L19, p6', lgR, lenR, ib80, cl6, if_true, p8, if_pos e]
        split <;> rfl
    | succ k ih =>
      intro x m m' f hx h1 hm hm'
      obtain ⟨m, rfl⟩ : ∃ z, m = z + 1 := ⟨m - 1, by omega⟩
      obtain ⟨m', rfl⟩ : ∃ z, m' = z + 1 := ⟨m' - 1, by omega⟩
      have e : ¬ nI L < nI x := fun z => by have := (qn_lt_iff (by omega) (by omega)).mp z; omega
      have e9 : ¬ (999 : Int32) < nI x := fun z => by have := (qn_lt_iff (a := 999) (by omega) (by omega)).mp z; omega
      have i1 : pm_ib (nI x) 1000 = true := pm_ib_nI (by omega) (by omega)
      have cx : (nI x).toNatClampNeg = x := nI_clamp (by omega)
      rcases p10 x (by omega) with ⟨dd, z1, z2, z3⟩ | ⟨z1, z2⟩
      · have e4 := qn_nem1 (j := dd) (by omega)
        have e5 : ¬ (2 : Int32) < nI dd := fun z => by have := (qn_lt_iff (a := 2) (by omega) (by omega)).mp z; omega
        by_cases hfa : f = a
        · refine ⟨nI x, ?_, ?_⟩
          · simp only [fX11_parts_L43, p5', lgS, lenS, p7, if_neg e, if_neg e9, i1, cx, if_true, z2, if_neg e4, if_pos hfa]
          · simp only [fX12_parts_L19, p6', lgR, lenR, ib80, cl6, if_true, p8, if_neg e, i1, cx, z3, if_neg e5, if_pos hfa]
        · obtain ⟨v, v1, v2⟩ := ih (x + 1) m m' (f + 1) (by omega) (by omega) (by omega) (by omega)
          refine ⟨v, ?_, ?_⟩
          · simp only [fX11_parts_L43, p5', lgS, lenS, p7, if_neg e, if_neg e9, i1, cx, if_true, z2, if_neg e4, if_neg hfa, (nL x).2.2.2.2.2.2, v1]
          · simp only [fX12_parts_L19, p6', lgR, lenR, ib80, cl6, if_true, p8, if_neg e, i1, cx, z3, if_neg e5, if_neg hfa, (nL x).2.2.2.2.2.2, v2]
      · have e5 : (2 : Int32) < nI 1000000 := by decide
        obtain ⟨v, v1, v2⟩ := ih (x + 1) m m' f (by omega) (by omega) (by omega) (by omega)
        refine ⟨v, ?_, ?_⟩
        · simp only [fX11_parts_L43, p5', lgS, lenS, p7, if_neg e, if_neg e9, i1, cx, if_true, z1, (nL x).2.2.2.2.2.2, v1]
        · simp only [fX12_parts_L19, p6', lgR, lenR, ib80, cl6, if_true, p8, if_neg e, i1, cx, z2, if_pos e5, (nL x).2.2.2.2.2.2, v2]
  obtain ⟨v, v1, v2⟩ := loop L 1 pm_fuel pm_fuel 0 (by omega) (by omega) (by unfold pm_fuel; omega) (by unfold pm_fuel; omega)
  have v1' : fX11_parts_L43 lw_SC 1 a (fun w18 s19 => (if a = (-1 : Int32) then some (w18, s19) else some ((-1 : Int32), s19))) pm_fuel 0 1 c' = some (v, c') := v1
  have v2' : fX12_parts_L19 lw_SR 1 a (fun w10 s11 => (if a = (-1 : Int32) then some (w10, s11) else some ((-1 : Int32), s11))) pm_fuel 0 1 r' = some (v, r') := v2
  refine ⟨v, c', r', ?_, ?_, T, l, 1, np, p9⟩
  · rw [fX11_parts, n1, Option.bind_some, if_neg hlo, if_pos rfl]
    simp only [g1, lgS, e3, p1, Option.bind_some, p4', p2']
    rw [v1']
  · rw [fX12_parts, n2, Option.bind_some, if_neg hlo, if_neg n0, p3', Option.bind_some, v2']
