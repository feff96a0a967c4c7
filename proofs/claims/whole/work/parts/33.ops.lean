/-! what is tried: longAt, firstShort, planeWhen -/
def pu_L (w L : Nat) : Nat → Nat
  | 0 => L
  | k + 1 => pu_ln w (pu_L w L k)
def pu_V (sw : Nat → Int32) (v : Int32) : Nat → Int32
  | 0 => v
  | k + 1 => pu_bd (pu_V sw v k + sw k)
theorem pu_L_in {w L : Nat} (hL : L ≤ 240) (h1 : 1 ≤ L) (k : Nat) : 1 ≤ pu_L w L k ∧ pu_L w L k ≤ 240 := by
  induction k with
  | zero => exact ⟨h1, hL⟩
  | succ k ih =>
    rw [pu_L, pu_ln]
    split <;> omega
theorem pu_V_in {sw : Nat → Int32} {v : Int32} (h1 : -99 ≤ v.toInt) (h2 : v.toInt ≤ 99) (k : Nat) : -99 ≤ (pu_V sw v k).toInt ∧ (pu_V sw v k).toInt ≤ 99 := by
  cases k with
  | zero => exact ⟨h1, h2⟩
  | succ k => exact qn_bd_in _
theorem ev_longBehind {r : pm_H} {w L n : Nat} (g3 : r.2 = lw_R0.2) (hw : w ≤ 9) (ew : r.1 1 1 = nI w) (hL : L ≤ 240) (h1 : 1 ≤ L) (eL : r.1 7 0 = nI L) (hn : n ≤ 200) : fX12_longBehind lw_SR 1 (nI n) r = some (nI (pu_L w L n), r) := by
  have loop : ∀ k i m, i + k = n → k < m → fX12_longBehind_L9 lw_SR 1 (nI n) (fun w7 s8 => some (w7, s8)) m (nI (pu_L w L i)) (nI i) r = some (nI (pu_L w L n), r) := by
    intro k
    induction k with
    | zero =>
      intro i m hi hm
      obtain ⟨m, rfl⟩ : ∃ z, m = z + 1 := ⟨m - 1, by omega⟩
      have e : nI n ≤ nI i := (qn_le_iff (by omega) (by omega)).mpr (by omega)
      have hi : i = n := by omega
      subst hi
      simp only [fX12_longBehind_L9, if_pos e]
    | succ k ih =>
      intro i m hi hm
      obtain ⟨m, rfl⟩ : ∃ z, m = z + 1 := ⟨m - 1, by omega⟩
      have e : ¬ nI n ≤ nI i := fun z => by have := (qn_le_iff (by omega) (by omega)).mp z; omega
      have b := pu_L_in (w := w) hL h1 i
      have u := ih (i + 1) m (by omega) (by omega)
      rw [pu_L] at u
      by_cases hle : pu_L w L i ≤ w
      · have e2 : nI (pu_L w L i) ≤ nI w := (qn_le_iff (by omega) (by omega)).mpr hle
        rw [pu_ln, if_pos hle] at u
        simp only [fX12_longBehind_L9, if_neg e, ew, if_pos e2, (nL i).2.2.2.2.2.2]
        exact u
      · have e2 : ¬ nI (pu_L w L i) ≤ nI w := fun z => by have := (qn_le_iff (by omega) (by omega)).mp z; omega
        rw [pu_ln, if_neg hle] at u
        simp only [fX12_longBehind_L9, if_neg e, ew, if_neg e2, pm_let, (nL i).2.2.2.2.2.2, qn_sub (show w ≤ pu_L w L i by omega), u]
  have u := loop n 0 pm_fuel (by omega) (by unfold pm_fuel; omega)
  rw [pu_L] at u
  simp only [fX12_longBehind, g3, lgR, lenR, ib80, cl6, if_true, pm_let, eL]
  rw [show (0 : Int32) = nI 0 from rfl, u]
theorem ev_warpBehind {c r : pm_H} {T ks y n : Nat} {v : Int32} (g3 : r.2 = lw_R0.2) (hk : ks ≤ 12) (e1 : r.1 1 9 = nI ks) (hs : ∀ i, i < ks → r.1 6 i = c.1 (T + 5) i) (hy : y ≤ 9060) (ey : r.1 7 3 = nI y) (ev : r.1 7 1 = v) (hn : n ≤ 60) : fX12_warpBehind lw_SR 1 (nI n) r = some (pu_V (fun k => pu_sw c T ks (y + k)) v n, r) := by
  have loop : ∀ k i m, i + k = n → k < m → fX12_warpBehind_L9 lw_SR 1 (nI n) (fun w9 s10 => some (w9, s10)) m (pu_V (fun k => pu_sw c T ks (y + k)) v i) (nI i) r = some (pu_V (fun k => pu_sw c T ks (y + k)) v n, r) := by
    intro k
    induction k with
    | zero =>
      intro i m hi hm
      obtain ⟨m, rfl⟩ : ∃ z, m = z + 1 := ⟨m - 1, by omega⟩
      have e : nI n ≤ nI i := (qn_le_iff (by omega) (by omega)).mpr (by omega)
      have hi : i = n := by omega
      subst hi
      simp only [fX12_warpBehind_L9, if_pos e]
    | succ k ih =>
      intro i m hi hm
      obtain ⟨m, rfl⟩ : ∃ z, m = z + 1 := ⟨m - 1, by omega⟩
      have e : ¬ nI n ≤ nI i := fun z => by have := (qn_le_iff (by omega) (by omega)).mp z; omega
      have u := ih (i + 1) m (by omega) (by omega)
      rw [pu_V] at u
      have A := ev_swayOf (c := c) (r := r) (T := T) (y := y + i) g3 hk e1 hs (by omega)
      simp only [fX12_warpBehind_L9, if_neg e, g3, lgR, lenR, ib80, cl6, if_true, ey, qn_add, A, Option.bind_some, ev_bound, (nL i).2.2.2.2.2.2, u]
  have u := loop n 0 pm_fuel (by omega) (by unfold pm_fuel; omega)
  rw [pu_V] at u
  simp only [fX12_warpBehind, g3, lgR, lenR, ib80, cl6, if_true, pm_let, ev]
  rw [show (0 : Int32) = nI 0 from rfl, u]
/-- the trial rod after k years -/
def pu_Tr (c0 c : pm_H) (T ks w L y k : Nat) : Prop := c.2 = c0.2 ∧ (∀ q, q ≠ 27 → c.1 q = c0.1 q) ∧ c.1 27 0 = nI (pu_L w L k) ∧ c.1 27 1 = pu_V (fun k => pu_sw c0 T ks (y + k)) (c0.1 18 1) k ∧ c.1 27 2 = 0 ∧ c.1 27 3 = nI (y + k)
theorem pu_Tr.step {c0 c : pm_H} {T l ks w L y k : Nat} (h : pu_Tr c0 c T ks w L y k) (hT : T = 5 ∨ T = 11) (g1 : c0.2 = lgC T l) (hk : ks ≤ 12) (e1 : c0.1 T 10 = nI ks) (hw : w ≤ 9) (ew : c0.1 T 1 = nI w) (hy : y ≤ 9060) (hkk : k ≤ 200) (hL : L ≤ 240) (h1 : 1 ≤ L) : ∃ c', fX6_passYear lw_SC 27 T c = some c' ∧ pu_Tr c0 c' T ks w L y (k + 1) := by
  obtain ⟨p1, p2, p3, p4, p5, p6⟩ := h
  have b := pu_L_in (w := w) hL h1 k
  obtain ⟨c', q1, q2, q3, q4, q5, q6, q7⟩ := ev_passC (c0 := c0) (c := c) (a := 27) (l := l) hT (p1.trans g1) (Or.inr rfl) hk (by rw [p2 T (by omega)]; exact e1) (p2 _ (by omega)) hw (by rw [p2 T (by omega)]; exact ew) (show y + k < 2 ^ 20 by omega) p6 b.2 p3 p5
  refine ⟨c', q1, q2.trans p1, fun q hq => (q3 q hq).trans (p2 q hq), q4, ?_, q6, q7⟩
  rw [q5, p4, pu_V]
theorem ev_begin {c r : pm_H} {T l np : Nat} (H : pu_R c r T l 1 np) : ∃ ks w L y : Nat, (ks ≤ 12 ∧ w ≤ 9 ∧ 1 ≤ L ∧ L ≤ 240 ∧ y ≤ 9060) ∧ (c.1 T 10 = nI ks ∧ c.1 T 1 = nI w) ∧ (r.1 1 9 = nI ks ∧ r.1 1 1 = nI w ∧ r.1 7 0 = nI L ∧ r.1 7 1 = c.1 18 1 ∧ r.1 7 3 = nI y) ∧ (-99 ≤ (c.1 18 1).toInt ∧ (c.1 18 1).toInt ≤ 99) ∧ (∀ i, i < ks → r.1 6 i = c.1 (T + 5) i) ∧ ∃ c', fX11_beginTrial lw_SC 1 c = some c' ∧ pu_Tr c c' T ks w L y 0 := by
  obtain ⟨hT, g1, g2, g3, ht, hf, b1, b2, b3, b4, hs, hsi, hb⟩ := id H
  obtain ⟨L0, kn, ko, ks, -, k00, -, hw, -, -, -, ⟨k9, k10⟩, -, -, k11⟩ := b1
  obtain ⟨w, w1, w2, w3⟩ := hw rfl
  obtain ⟨L, y', nt, nh, k0, ⟨a1, a2⟩, ⟨v1, v2, v3⟩, ⟨d1, d2⟩, ⟨e1, e2⟩, -⟩ := id b2
  simp only [Nat.reduceAdd] at a1 v1 v2 v3 d1 d2 e1
  obtain ⟨c1, q1, q2, q3, q4⟩ := ev_rodcopy (S := lw_SC) (a := 27) (a' := 18) (c := c) (by omega) d1
  have q2' : c1.2 = lgC T l := q2.trans g1
  refine ⟨ks, w, L, y', by omega, ⟨k9, w2⟩, ⟨k10, w3, a2, v3, e2⟩, ⟨v1, v2⟩, fun i hi => (k11 i hi).1, pm_si c1 27 2 0, ?_, q2, fun q hq => by rw [pm_si_row hq, q3 q hq], ?_, ?_, pm_si_same, ?_⟩
  · simp only [fX11_beginTrial, g1, lgS, q1, Option.bind_some, pm_let, q2']
  · rw [pm_si_ne (by omega), q4 0 (by omega), a1]; rfl
  · rw [pm_si_ne (by omega), q4 1 (by omega)]; rfl
  · rw [pm_si_ne (by omega), q4 3 (by omega), e1]; rfl
theorem pu_R.trial {c r c' : pm_H} {T l lo np : Nat} (H : pu_R c r T l lo np) (g : c'.2 = c.2) (hq : ∀ q, q ≠ 27 → c'.1 q = c.1 q) : pu_R c' r T l lo np := by
  obtain ⟨hT, g1, g2, g3, ht, hf, b1, b2, b3, b4, hs, hsi, hb⟩ := id H
  exact H.mv g rfl (fun q hq2 => hq q (by omega)) (fun _ _ => rfl) (fun _ _ => rfl) (ht.cg (hq 2 (by omega)) (by rw [hq 1 (by omega)]) rfl rfl) (by rw [hq 1 (by omega)]; exact hf) (by rw [hq 1 (by omega)]; exact hs) (hsi.cg (fun q _ _ => hq q (by omega)) (fun _ _ _ => rfl) rfl) (hb.cg (fun q _ _ => hq q (by omega)) (fun _ _ _ => rfl) rfl)
theorem pu_longAt : pu_2 pu_Rel fX11_longAt fX12_longAt := by
  intro c r h a a2
  obtain ⟨T, l, lo, np, H⟩ := id h
  obtain ⟨n1, n2⟩ := ev_noRealm H
  rcases pu_w01 a 0 60 with hw | hw
  · exact pu_ro h (-1000000002) (by simp [fX11_longAt, fX11_refusalOfTrial, ev_within, hw]) (by simp [fX12_longAt, evI, hw])
  rcases pu_w01 a2 0 1 with hw2 | hw2
  · exact pu_ro h (-1000000002) (by simp [fX11_longAt, fX11_refusalOfTrial, ev_within, hw, hw2]) (by simp [fX12_longAt, evI, hw, hw2])
  by_cases hlo : lo = 0
  · exact pu_ro h (-1000000003) (by simp [fX11_longAt, fX11_refusalOfTrial, ev_within, hw, hw2, n1, hlo]) (by simp [fX12_longAt, evI, hw, hw2, n2, hlo])
  have hlo1 := H.lo1
  have : lo = 1 := by omega
  subst this
  have wl := pu_w_lit hw
  obtain ⟨n, rfl, ⟨hn1, hn2⟩, hn3⟩ := qn_of (lo := 0) (hi := 60) (by omega) (by simpa using wl.1) (by simpa using wl.2)
  obtain ⟨hT, g1, g2, g3, -⟩ := id H
  obtain ⟨ks, w, L, y, ⟨z1, z2, z3, z4, z5⟩, ⟨z6, z7⟩, ⟨z8, z9, z10, z11, z12⟩, ⟨z13, z14⟩, z15, c1, z16, z17⟩ := ev_begin H
  have loop : ∀ k i m s, i + k = n → k < m → pu_Tr c s T ks w L y i → ∃ s', fX11_longAt_L20 lw_SC 1 (nI n) a2 (fun s7 => (if a2 = 0 then some ((s7.1 (s7.2 1 7) 0), s7) else some (((s7.1 (s7.2 1 7) 1) + (1000 : Int32)), s7))) m (nI i) s = some (if a2 = 0 then nI (pu_L w L n) else pu_V (fun k => pu_sw c T ks (y + k)) (c.1 18 1) n + 1000, s') ∧ pu_Tr c s' T ks w L y n := by
    intro k
    induction k with
    | zero =>
      intro i m s hi hm hs
      obtain ⟨m, rfl⟩ : ∃ z, m = z + 1 := ⟨m - 1, by omega⟩
      have e : nI n ≤ nI i := (qn_le_iff (by omega) (by omega)).mpr (by omega)
      have hi : i = n := by omega
      subst hi
      obtain ⟨p1, p2, p3, p4, p5, p6⟩ := id hs
      have p1' := p1.trans g1
      refine ⟨s, ?_, hs⟩
      simp only [fX11_longAt_L20, if_pos e, p1', lgS, p3, p4]
      split <;> rfl
    | succ k ih =>
      intro i m s hi hm hs
      obtain ⟨m, rfl⟩ : ∃ z, m = z + 1 := ⟨m - 1, by omega⟩
      have e : ¬ nI n ≤ nI i := fun z => by have := (qn_le_iff (by omega) (by omega)).mp z; omega
      obtain ⟨s2, q1, q2⟩ := hs.step hT g1 z1 z6 z2 z7 z5 (by omega) z4 z3
      obtain ⟨s', u1, u2⟩ := ih (i + 1) m s2 (by omega) (by omega) q2
      have p1' := hs.1.trans g1
      refine ⟨s', ?_, u2⟩
      simp only [fX11_longAt_L20, if_neg e, p1', lgS, q1, Option.bind_some, (nL i).2.2.2.2.2.2, u1]
  obtain ⟨s', u1, u2⟩ := loop n 0 pm_fuel c1 (by omega) (by unfold pm_fuel; omega) z17
  have A := ev_longBehind (r := r) (n := n) g3 z2 z9 z4 z3 z10 (by omega)
  have B := ev_warpBehind (c := c) (r := r) (T := T) (n := n) g3 z1 z8 z15 z5 z12 z11 (by omega)
  have n0 : ¬ (1 : Int32) = 0 := by decide
  refine ⟨if a2 = 0 then nI (pu_L w L n) else pu_V (fun k => pu_sw c T ks (y + k)) (c.1 18 1) n + 1000, s', r, ?_, ?_, T, l, 1, np, H.trial u2.1 u2.2.1⟩
  · simp only [fX11_longAt, fX11_refusalOfTrial, ev_within, hw, hw2, Option.bind_some, if_neg n0, n1, if_neg hlo, if_true, z16]
    exact u1
  · by_cases ha : a2 = 0
    · simp [fX12_longAt, evI, hw, hw2, n2, eq_true ha, A]
    · simp [fX12_longAt, evI, hw, hw2, n2, ha, B]
theorem pu_firstShort : pu_1 pu_Rel fX11_firstShort fX12_firstShort := by
  intro c r h a
  obtain ⟨T, l, lo, np, H⟩ := id h
  obtain ⟨n1, n2⟩ := ev_noRealm H
  rcases pu_w01 a 1 240 with hw | hw
  · exact pu_ro h (-1000000002) (by simp [fX11_firstShort, ev_within, hw]) (by simp [fX12_firstShort, evI, hw])
  by_cases hlo : lo = 0
  · exact pu_ro h (-1000000003) (by simp [fX11_firstShort, ev_within, hw, n1, hlo]) (by simp [fX12_firstShort, evI, hw, n2, hlo])
  have hlo1 := H.lo1
  have : lo = 1 := by omega
  subst this
  obtain ⟨hT, g1, g2, g3, -⟩ := id H
  obtain ⟨ks, w, L, y, ⟨z1, z2, z3, z4, z5⟩, ⟨z6, z7⟩, ⟨z8, z9, z10, z11, z12⟩, ⟨z13, z14⟩, z15, c1, z16, z17⟩ := ev_begin H
  have loop : ∀ k i m m' s, i + k = 201 → k < m → k < m' → pu_Tr c s T ks w L y i → ∃ v s' j, fX11_firstShort_L30 lw_SC 1 a (fun s10 => some ((-1 : Int32), s10)) m (nI i) s = some (v, s') ∧ fX12_firstShort_L27 lw_SR 1 a (fun s6 => some ((-1 : Int32), s6)) m' (nI i) r = some (v, r) ∧ pu_Tr c s' T ks w L y j := by
    intro k
    induction k with
    | zero =>
      intro i m m' s hi hm hm' hs
      obtain ⟨m, rfl⟩ : ∃ z, m = z + 1 := ⟨m - 1, by omega⟩
      obtain ⟨m', rfl⟩ : ∃ z, m' = z + 1 := ⟨m' - 1, by omega⟩
      have e : (200 : Int32) < nI i := (qn_lt_iff (a := 200) (by omega) (by omega)).mpr (by omega)
      exact ⟨-1, s, i, by simp only [fX11_firstShort_L30, if_pos e], by simp only [fX12_firstShort_L27, if_pos e], hs⟩
    | succ k ih =>
      intro i m m' s hi hm hm' hs
      obtain ⟨m, rfl⟩ : ∃ z, m = z + 1 := ⟨m - 1, by omega⟩
      obtain ⟨m', rfl⟩ : ∃ z, m' = z + 1 := ⟨m' - 1, by omega⟩
      have e : ¬ (200 : Int32) < nI i := fun z => by have := (qn_lt_iff (a := 200) (by omega) (by omega)).mp z; omega
      have A := ev_longBehind (r := r) (n := i) g3 z2 z9 z4 z3 z10 (by omega)
      have p1' := hs.1.trans g1
      have p3 := hs.2.2.1
      by_cases ha : a ≤ nI (pu_L w L i)
      · obtain ⟨s2, q1, q2⟩ := hs.step hT g1 z1 z6 z2 z7 z5 (by omega) z4 z3
        obtain ⟨v, s', j, u1, u2, u3⟩ := ih (i + 1) m m' s2 (by omega) (by omega) (by omega) q2
        refine ⟨v, s', j, ?_, ?_, u3⟩
        · simp only [fX11_firstShort_L30, if_neg e, p1', lgS, p3, if_pos ha, q1, Option.bind_some, (nL i).2.2.2.2.2.2, u1]
        · simp only [fX12_firstShort_L27, if_neg e, A, Option.bind_some, if_pos ha, (nL i).2.2.2.2.2.2, u2]
      · refine ⟨nI i, s, i, ?_, ?_, hs⟩
        · simp only [fX11_firstShort_L30, if_neg e, p1', lgS, p3, if_neg ha]
        · simp only [fX12_firstShort_L27, if_neg e, A, Option.bind_some, if_neg ha]
  obtain ⟨v, s', j, u1, u2, u3⟩ := loop 201 0 pm_fuel pm_fuel c1 (by omega) (by unfold pm_fuel; omega) (by unfold pm_fuel; omega) z17
  have n0 : ¬ (1 : Int32) = 0 := by decide
  refine ⟨v, s', r, ?_, ?_, T, l, 1, np, H.trial u3.1 u3.2.1⟩
  · simp only [fX11_firstShort, ev_within, hw, Option.bind_some, if_neg n0, n1, if_neg hlo, if_true, z16]
    rw [show (0 : Int32) = nI 0 from rfl, u1]
  · simp only [fX12_firstShort, evI, hw, Option.bind_some, if_neg n0, n2, if_neg hlo]
    rw [show (0 : Int32) = nI 0 from rfl, u2]
theorem pu_planeWhen : pu_2 pu_Rel fX11_planeWhen fX12_planeWhen := by
  intro c r h a a2
  obtain ⟨T, l, lo, np, H⟩ := id h
  obtain ⟨n1, n2⟩ := ev_noRealm H
  rcases pu_w01 a 0 60 with hw | hw
  · exact pu_ro h (-1000000002) (by simp [fX11_planeWhen, fX11_refusalOfTrial, ev_within, hw]) (by simp [fX12_planeWhen, evI, hw])
  rcases pu_w01 a2 0 1 with hw2 | hw2
  · exact pu_ro h (-1000000002) (by simp [fX11_planeWhen, fX11_refusalOfTrial, ev_within, hw, hw2]) (by simp [fX12_planeWhen, evI, hw, hw2])
  by_cases hlo : lo = 0
  · exact pu_ro h (-1000000003) (by simp [fX11_planeWhen, fX11_refusalOfTrial, ev_within, hw, hw2, n1, hlo]) (by simp [fX12_planeWhen, evI, hw, hw2, n2, hlo])
  have hlo1 := H.lo1
  have : lo = 1 := by omega
  subst this
  have wl := pu_w_lit hw
  obtain ⟨n, rfl, ⟨hn1, hn2⟩, hn3⟩ := qn_of (lo := 0) (hi := 60) (by omega) (by simpa using wl.1) (by simpa using wl.2)
  obtain ⟨hT, g1, g2, g3, -⟩ := id H
  obtain ⟨ks, w, L, y, ⟨z1, z2, z3, z4, z5⟩, ⟨z6, z7⟩, ⟨z8, z9, z10, z11, z12⟩, ⟨z13, z14⟩, z15, c1, z16, z17⟩ := ev_begin H
  have hP : ∀ k, ∃ M : Nat, 1 ≤ M ∧ M ≤ 240 ∧ pm_max 1 (nI (pu_L w L k) - pm_abs (pu_V (fun k => pu_sw c T ks (y + k)) (c.1 18 1) k)) = nI M ∧ ∀ (S : pm_S) (σ : pm_H), fX12_planed S (nI (pu_L w L k)) (pu_V (fun k => pu_sw c T ks (y + k)) (c.1 18 1) k) σ = some (nI M, σ) := fun k => ev_planed (pu_L_in z4 z3 k).2 (pu_V_in z13 z14 k).1 (pu_V_in z13 z14 k).2
  have hC : ∀ k s, pu_Tr c s T ks w L y k → ∀ M : Nat, pm_max 1 (nI (pu_L w L k) - pm_abs (pu_V (fun k => pu_sw c T ks (y + k)) (c.1 18 1) k)) = nI M → fX6_lengthIfPlaned lw_SC 27 s = some (nI M, s) := fun k s hs M hM => by
    obtain ⟨p1, p2, p3, p4, p5, p6⟩ := hs
    rw [fX6_lengthIfPlaned, p3, p4, hM]
  have loop : ∀ k i m m' s bst (ln : Nat), i + k = n + 1 → 1 ≤ i → k < m → k < m' → ln ≤ 240 → pu_Tr c s T ks w L y (i - 1) → ∃ v s' j, fX11_planeWhen_L32 lw_SC 1 (nI n) a2 (fun w14 w15 s16 => (if a2 = 0 then some (w14, s16) else some (w15, s16))) m bst (nI ln) (nI i) s = some (v, s') ∧ fX12_planeWhen_L43 lw_SR 1 (nI n) a2 (fun w10 w11 s12 => (if a2 = 0 then some (w10, s12) else some (w11, s12))) m' bst (nI ln) (nI i) r = some (v, r) ∧ pu_Tr c s' T ks w L y j := by
    intro k
    induction k with
    | zero =>
      intro i m m' s bst ln hi h1 hm hm' hln hs
      obtain ⟨m, rfl⟩ : ∃ z, m = z + 1 := ⟨m - 1, by omega⟩
      obtain ⟨m', rfl⟩ : ∃ z, m' = z + 1 := ⟨m' - 1, by omega⟩
      have e : nI n < nI i := (qn_lt_iff (by omega) (by omega)).mpr (by omega)
      refine ⟨if a2 = 0 then bst else nI ln, s, i - 1, ?_, ?_, hs⟩
      · simp only [fX11_planeWhen_L32, if_pos e]
        split <;> rfl
      · simp only [fX12_planeWhen_L43, if_pos e]
        split <;> rfl
    | succ k ih =>
      intro i m m' s bst ln hi h1 hm hm' hln hs
      obtain ⟨m, rfl⟩ : ∃ z, m = z + 1 := ⟨m - 1, by omega⟩
      obtain ⟨m', rfl⟩ : ∃ z, m' = z + 1 := ⟨m' - 1, by omega⟩
      have e : ¬ nI n < nI i := fun z => by have := (qn_lt_iff (by omega) (by omega)).mp z; omega
      have A := ev_longBehind (r := r) (n := i) g3 z2 z9 z4 z3 z10 (by omega)
      have B := ev_warpBehind (c := c) (r := r) (T := T) (n := i) g3 z1 z8 z15 z5 z12 z11 (by omega)
      obtain ⟨s2, q1, q2⟩ := hs.step hT g1 z1 z6 z2 z7 z5 (by omega) z4 z3
      rw [show i - 1 + 1 = i by omega] at q2
      obtain ⟨M, M1, M2, M3, M4⟩ := hP i
      have C := hC i s2 q2 M M3
      have p1' := hs.1.trans g1
      have p2' := q2.1.trans g1
      by_cases hle : M ≤ ln
      · have e2 : nI M ≤ nI ln := (qn_le_iff (by omega) (by omega)).mpr hle
        obtain ⟨v, s', j, u1, u2, u3⟩ := ih (i + 1) m m' s2 bst ln (by omega) (by omega) (by omega) (by omega) hln q2
        refine ⟨v, s', j, ?_, ?_, u3⟩
        · simp only [fX11_planeWhen_L32, if_neg e, p1', p2', lgS, q1, C, Option.bind_some, if_pos e2, (nL i).2.2.2.2.2.2, u1]
        · simp only [fX12_planeWhen_L43, fX12_planeWhen_J79, if_neg e, A, B, M4, Option.bind_some, if_pos e2, (nL i).2.2.2.2.2.2, u2]
      · have e2 : ¬ nI M ≤ nI ln := fun z => by have := (qn_le_iff (by omega) (by omega)).mp z; omega
        obtain ⟨v, s', j, u1, u2, u3⟩ := ih (i + 1) m m' s2 (nI i) M (by omega) (by omega) (by omega) (by omega) M2 q2
        refine ⟨v, s', j, ?_, ?_, u3⟩
        · simp only [fX11_planeWhen_L32, if_neg e, p1', p2', lgS, q1, C, Option.bind_some, if_neg e2, (nL i).2.2.2.2.2.2, u1]
        · simp only [fX12_planeWhen_L43, fX12_planeWhen_J79, if_neg e, A, B, M4, Option.bind_some, if_neg e2, (nL i).2.2.2.2.2.2, u2]
  obtain ⟨M, M1, M2, M3, M4⟩ := hP 0
  have C := hC 0 c1 z17 M M3
  obtain ⟨f, hfu⟩ : ∃ f, pm_fuel = f + 1 := ⟨999999, rfl⟩
  have hfb : 70 < f := by unfold pm_fuel at hfu; omega
  obtain ⟨v, s', j, u1, u2, u3⟩ := loop n 1 (f + 1) f c1 (nI 0) M (by omega) (by omega) (by omega) (by omega) M2 z17
  have n0 : ¬ (1 : Int32) = 0 := by decide
  have p1' := z17.1.trans g1
  refine ⟨v, s', r, ?_, ?_, T, l, 1, np, H.trial u3.1 u3.2.1⟩
  · simp only [fX11_planeWhen, fX11_refusalOfTrial, ev_within, hw, hw2, Option.bind_some, if_neg n0, n1, if_neg hlo, if_true, z16, p1', lgS, C, hfu]
    exact u1
  · have A := ev_longBehind (r := r) (n := 0) g3 z2 z9 z4 z3 z10 (by omega)
    have B := ev_warpBehind (c := c) (r := r) (T := T) (n := 0) g3 z1 z8 z15 z5 z12 z11 (by omega)
    have e : ¬ nI n < nI 0 := fun z => by have := (qn_lt_iff (by omega) (by omega)).mp z; omega
    have e2 : ¬ nI M ≤ nI 0 := fun z => by have := (qn_le_iff (by omega) (by omega)).mp z; omega
    simp only [fX12_planeWhen, evI, hw, hw2, Option.bind_some, if_neg n0, n2, if_neg hlo, hfu]
    rw [show (0 : Int32) = nI 0 from rfl]
    simp only [fX12_planeWhen_L43, fX12_planeWhen_J79, if_neg e, A, B, M4, Option.bind_some, if_neg e2, (nL 0).2.2.2.2.2.2]
    exact u2
