theorem pu_foundBy : pu_2 pu_Rel fX11_foundBy fX12_foundBy := by
  intro c r h a a2
  rcases pu_w01 a 0 60 with hw | hw
  · exact pu_ro h (-1000000002) (by simp [fX11_foundBy, ev_within, hw]) (by simp [fX12_foundBy, evI, hw])
  rcases pu_w01 a2 0 100 with hw2 | hw2
  · exact pu_ro h (-1000000002) (by simp [fX11_foundBy, ev_within, hw, hw2]) (by simp [fX12_foundBy, evI, hw, hw2])
  have b2 := pu_w_lit hw
  obtain ⟨n, hn0, rfl⟩ := nI_of (x := a) (fun z => by have := Int32.lt_iff_toInt_lt.mp z; simp at this b2; omega)
  rw [nI_toInt hn0] at b2
  have hn : n ≤ 60 := by have := b2.2; simp at this; omega
  have loop : ∀ k i x m m', i + k = n → k < m → k < m' → ∃ v, fX11_foundBy_L30 lw_SC (nI n) a2 (fun w5 s6 => some (w5.toInt32, s6)) m x (nI i) c = some (v, c) ∧ fX12_foundBy_L34 lw_SR (nI n) a2 (fun w5 s6 => some (w5.toInt32, s6)) m' x (nI i) r = some (v, r) := by
    intro k
    induction k with
    | zero =>
      intro i x m m' hi hm hm'
      obtain ⟨m, rfl⟩ : ∃ z, m = z + 1 := ⟨m - 1, by omega⟩
      obtain ⟨m', rfl⟩ : ∃ z, m' = z + 1 := ⟨m' - 1, by omega⟩
      have e : nI n ≤ nI i := (qn_le_iff (by omega) (by omega)).mpr (by omega)
      exact ⟨x.toInt32, by simp [fX11_foundBy_L30, e], by simp [fX12_foundBy_L34, e]⟩
    | succ k ih =>
      intro i x m m' hi hm hm'
      obtain ⟨m, rfl⟩ : ∃ z, m = z + 1 := ⟨m - 1, by omega⟩
      obtain ⟨m', rfl⟩ : ∃ z, m' = z + 1 := ⟨m' - 1, by omega⟩
      have e : ¬ nI n ≤ nI i := fun z => by have := (qn_le_iff (by omega) (by omega)).mp z; omega
      obtain ⟨v, v1, v2⟩ := ih (i + 1) ((x * ((100 : Int32) - a2).toInt64) / (100 : Int64)) m m' (by omega) (by omega) (by omega)
      refine ⟨v, ?_, ?_⟩
      · rw [fX11_foundBy_L30, if_neg e, pm_let, (nL i).2.2.2.2.2.2]
        exact v1
      · rw [fX12_foundBy_L34, if_neg e, pm_let, (nL i).2.2.2.2.2.2]
        exact v2
  obtain ⟨v, v1, v2⟩ := loop n 0 (1000000000 : Int64) pm_fuel pm_fuel (by omega) (by unfold pm_fuel; omega) (by unfold pm_fuel; omega)
  refine pu_ro h v ?_ ?_
  · simp only [fX11_foundBy, ev_within, Option.bind_some, hw, hw2]
    rw [if_neg (by decide), if_neg (by decide), show (0 : Int32) = nI 0 from rfl, v1]
  · simp only [fX12_foundBy, evI, Option.bind_some, hw, hw2]
    rw [if_neg (by decide), if_neg (by decide), show (0 : Int32) = nI 0 from rfl, v2]
theorem qn_div12 {a : Nat} (ha : a < 2 ^ 31) : nI a / 12 = nI (a / 12) := pk_div (d := 12) ha (by omega) (by omega)
theorem qn_rem12 {a : Nat} (ha : a < 2 ^ 31) : pm_rem (nI a) 12 = nI (a % 12) := pk_rem (d := 12) ha (by omega) (by omega)
theorem pu_thing : pu_2 pu_Rel fX11_thing fX12_thing := by
  intro c r h a a2
  obtain ⟨T, l, lo, np, hT, a1, -, a3, ht, hf, hL, hst, -⟩ := id h
  obtain ⟨L, y, nt, nh, k0, k1, k2, k3, k4, ⟨k5, k6⟩, k7, m1, m2, m3⟩ := hst
  simp only [Nat.reduceAdd] at k5
  rcases pu_w_idx a (n := nt) (by omega) with hw | ⟨hw, j, hj, rfl⟩
  · exact pu_ro h (-1000000001) (by simp [fX11_thing, ev_within, a1, lgS, k5, hw]) (by simp [fX12_thing, evJ, a3, lgR, lenR, ib80, cl6, k6, hw])
  obtain ⟨fe, tw, yy, q0, ⟨q1, q2, q3⟩, ⟨q4, q5, q6⟩, q7, q8⟩ := m1 j hj
  simp only [Nat.reduceAdd] at q1 q2 q4 q7
  have hib : pm_ib (nI j) 20 = true := pm_ib_nI (by omega) (by omega)
  have hcl : (nI j).toNatClampNeg = j := nI_clamp (by omega)
  have i1 : pm_ib (nI (6 + j)) 80 = true := pm_ib_nI (by omega) (by omega)
  have c1 : (nI (6 + j)).toNatClampNeg = 6 + j := nI_clamp (by omega)
  have i2 : pm_ib (nI (26 + j)) 80 = true := pm_ib_nI (by omega) (by omega)
  have c2 : (nI (26 + j)).toNatClampNeg = 26 + j := nI_clamp (by omega)
  have i3 : pm_ib (nI (46 + j)) 80 = true := pm_ib_nI (by omega) (by omega)
  have c3 : (nI (46 + j)).toNatClampNeg = 46 + j := nI_clamp (by omega)
  have d1 : nI (12 * fe + tw) / 12 = nI fe := by rw [qn_div12 (by omega)]; congr 1; omega
  have d2 : pm_rem (nI (12 * fe + tw)) 12 = nI tw := by rw [qn_rem12 (by omega)]; congr 1; omega
  by_cases h0 : a2 = 0
  · exact pu_ro h (c.1 20 j + 1000) (by simp [fX11_thing, ev_within, a1, lgS, lenS, k5, hw, eq_true h0, hib, hcl]) (by simp [fX12_thing, evJ, a3, lgR, lenR, ib80, cl6, k6, hw, eq_true h0, nL, i1, c1, q4])
  by_cases h1 : a2 = 1
  · exact pu_ro h (nI fe) (by simp [fX11_thing, ev_within, a1, lgS, lenS, k5, hw, h0, eq_true h1, hib, hcl, q1]) (by simp [fX12_thing, evJ, a3, lgR, lenR, ib80, cl6, k6, hw, h0, eq_true h1, nL, i2, c2, q3, d1])
  by_cases h2 : a2 = 2
  · exact pu_ro h (nI tw) (by simp [fX11_thing, ev_within, a1, lgS, lenS, k5, hw, h0, h1, eq_true h2, hib, hcl, q2]) (by simp [fX12_thing, evJ, a3, lgR, lenR, ib80, cl6, k6, hw, h0, h1, eq_true h2, nL, i2, c2, q3, d2])
  by_cases h3 : a2 = 3
  · exact pu_ro h (nI yy) (by simp [fX11_thing, ev_within, a1, lgS, lenS, k5, hw, h0, h1, h2, eq_true h3, hib, hcl, q7]) (by simp [fX12_thing, evJ, a3, lgR, lenR, ib80, cl6, k6, hw, h0, h1, h2, eq_true h3, nL, i3, c3, q8])
  exact pu_ro h (-1000000002) (by simp [fX11_thing, ev_within, a1, lgS, lenS, k5, hw, h0, h1, h2, h3]) (by simp [fX12_thing, evJ, a3, lgR, lenR, ib80, cl6, k6, hw, h0, h1, h2, h3])
/-! who fits -/
theorem ev_tenths {c : pm_H} {L : Nat} (hL : c.1 18 0 = nI L) (h1 : 1 ≤ L) (h2 : L ≤ 240) (a : Int32) : fX6_tenthsOf lw_SC 18 a c = some (10 * a / nI L, c) := by
  have e : (1 : Int32) ≤ nI L := (qn_le_iff (a := 1) (by omega) (by omega)).mpr (by omega)
  have e' : ¬ nI L = 0 := nI_ne0 (by omega) (by omega)
  simp [fX6_tenthsOf, hL, e, e']
theorem ev_asks {c : pm_H} {T l o : Nat} (hT : T = 5 ∨ T = 11) (g1 : c.2 = lgC T l) (ho : o < 6) (x : Int32) : fX9_asksFor lw_SC T (nI o) x c = some (pu_w x (c.1 (T + 2) o) (c.1 (T + 3) o), c) := by
  have hib : pm_ib (nI o) 6 = true := pm_ib_nI (by omega) (by omega)
  have hcl : (nI o).toNatClampNeg = o := nI_clamp (by omega)
  simp only [fX9_asksFor, g1, lgT l hT, lenT hT, hib, hcl, if_true, pu_w]
  split
  · rfl
  · split <;> rfl
theorem ev_fits {r : pm_H} {L o : Nat} (g3 : r.2 = lw_R0.2) (hL : r.1 7 0 = nI L) (h1 : 1 ≤ L) (h2 : L ≤ 240) (ho : o < 6) (t : Int32) : fX12_fits lw_SR 1 (nI o) t r = some (pu_w (10 * t / nI L) (r.1 3 o) (r.1 4 o), r) := by
  have hib : pm_ib (nI o) 6 = true := pm_ib_nI (by omega) (by omega)
  have hcl : (nI o).toNatClampNeg = o := nI_clamp (by omega)
  have e' : ¬ nI L = 0 := nI_ne0 (by omega) (by omega)
  simp [fX12_fits, fX12_measuredBy, g3, lgR, lenR, ib80, cl6, hL, e', hib, hcl, ev_in, pu_zbw]
def pu_fb (q : Nat → Bool) : Nat → Int32
  | 0 => 0
  | n + 1 => if q n then pu_fb q n ||| (1 <<< (nI n &&& 31)) else pu_fb q n
def pu_q (c : pm_H) (T L o p : Nat) : Bool := decide (pu_w (10 * c.1 26 p / nI L) (c.1 (T + 2) o) (c.1 (T + 3) o) = 1)
theorem pu_w_ne {a b c : Int32} : pu_w a b c = 0 ↔ ¬ pu_w a b c = 1 := by
  rcases pu_w01 a b c with h | h <;> rw [h] <;> decide
theorem ev_fitting {c : pm_H} {T l L np o : Nat} (hT : T = 5 ∨ T = 11) (g1 : c.2 = lgC T l) (hL : c.1 18 0 = nI L) (h1 : 0 < np → 1 ≤ L) (h2 : L ≤ 240) (hn : c.1 T 8 = nI np) (hnp : np ≤ 6) (ho : o < 6) : fX8_fitting lw_SC 17 T (nI o) c = some (pu_fb (pu_q c T L o) np, c) := by
  have loop : ∀ k i m, i + k = np → k < m → fX8_fitting_L5 lw_SC 17 T (nI o) (fun w9 s10 => some (w9, s10)) m (pu_fb (pu_q c T L o) i) (nI i) c = some (pu_fb (pu_q c T L o) np, c) := by
    intro k
    induction k with
    | zero =>
      intro i m hi hm
      obtain ⟨m, rfl⟩ : ∃ z, m = z + 1 := ⟨m - 1, by omega⟩
      have e : nI np ≤ nI i := (qn_le_iff (by omega) (by omega)).mpr (by omega)
      rw [fX8_fitting_L5, hn, if_pos e, show i = np by omega]
    | succ k ih =>
      intro i m hi hm
      obtain ⟨m, rfl⟩ : ∃ z, m = z + 1 := ⟨m - 1, by omega⟩
      have e : ¬ nI np ≤ nI i := fun z => by have := (qn_le_iff (by omega) (by omega)).mp z; omega
      have hib : pm_ib (nI i) 6 = true := pm_ib_nI (by omega) (by omega)
      have hcl : (nI i).toNatClampNeg = i := nI_clamp (by omega)
      have ih' := ih (i + 1) m (by omega) (by omega)
      rw [fX8_fitting_L5, hn, if_neg e]
      simp only [g1, lgS, lenS, hib, hcl, if_true, ev_tenths hL (h1 (by omega)) h2, Option.bind_some]
      rw [ev_asks hT g1 ho]
      simp only [Option.bind_some, pm_let, (nL i).2.2.2.2.2.2]
      by_cases hq : pu_w (10 * c.1 26 i / nI L) (c.1 (T + 2) o) (c.1 (T + 3) o) = 1
      · rw [if_neg (fun z => pu_w_ne.mp z hq)]
        have e2 : pu_fb (pu_q c T L o) (i + 1) = pu_fb (pu_q c T L o) i ||| (1 <<< (nI i &&& 31)) := by simp [pu_fb, pu_q, hq]
        rw [e2] at ih'
        exact ih'
      · rw [if_pos (pu_w_ne.mpr hq)]
        have e2 : pu_fb (pu_q c T L o) (i + 1) = pu_fb (pu_q c T L o) i := by simp [pu_fb, pu_q, hq]
        rw [e2] at ih'
        exact ih'
  exact loop np 0 pm_fuel (by omega) (by unfold pm_fuel; omega)
theorem ev_fitsOf {r : pm_H} {L np o : Nat} {q : Nat → Bool} (g3 : r.2 = lw_R0.2) (hL : r.1 7 0 = nI L) (h1 : 0 < np → 1 ≤ L) (h2 : L ≤ 240) (hn : r.1 1 7 = nI np) (hnp : np ≤ 6) (ho : o < 6) (hq : ∀ p, p < np → q p = decide (pu_w (10 * r.1 7 (74 + p) / nI L) (r.1 3 o) (r.1 4 o) = 1)) : fX12_fitsOf lw_SR 1 (nI o) r = some (pu_fb q np, r) := by
  have loop : ∀ k i m, i + k = np → k < m → fX12_fitsOf_L4 lw_SR 1 (nI o) (fun w8 s9 => some (w8, s9)) m (pu_fb q i) (nI i) r = some (pu_fb q np, r) := by
    intro k
    induction k with
    | zero =>
      intro i m hi hm
      obtain ⟨m, rfl⟩ : ∃ z, m = z + 1 := ⟨m - 1, by omega⟩
      have e : nI np ≤ nI i := (qn_le_iff (by omega) (by omega)).mpr (by omega)
      rw [fX12_fitsOf_L4, hn, if_pos e, show i = np by omega]
    | succ k ih =>
      intro i m hi hm
      obtain ⟨m, rfl⟩ : ∃ z, m = z + 1 := ⟨m - 1, by omega⟩
      have e : ¬ nI np ≤ nI i := fun z => by have := (qn_le_iff (by omega) (by omega)).mp z; omega
      have hib : pm_ib (nI (74 + i)) 80 = true := pm_ib_nI (by omega) (by omega)
      have hcl : (nI (74 + i)).toNatClampNeg = 74 + i := nI_clamp (by omega)
      have ih' := ih (i + 1) m (by omega) (by omega)
      rw [fX12_fitsOf_L4, hn, if_neg e]
      simp only [g3, lgR, lenR, nL, hib, hcl, if_true, ev_fits g3 hL (h1 (by omega)) h2 ho, Option.bind_some, pm_let, Int32.or_zero]
      have hqi := hq i (by omega)
      by_cases hw : pu_w (10 * r.1 7 (74 + i) / nI L) (r.1 3 o) (r.1 4 o) = 1
      · rw [if_neg (fun z => pu_w_ne.mp z hw)]
        have e2 : pu_fb q (i + 1) = pu_fb q i ||| (1 <<< (nI i &&& 31)) := by simp [pu_fb, hqi, hw]
        rw [e2] at ih'
        exact ih'
      · rw [if_pos (pu_w_ne.mpr hw)]
        have e2 : pu_fb q (i + 1) = pu_fb q i := by simp [pu_fb, hqi, hw]
        rw [e2] at ih'
        exact ih'
  exact loop np 0 pm_fuel (by omega) (by unfold pm_fuel; omega)
theorem ev_isOffice {c r : pm_H} {T l lo np ko : Nat} (hT : T = 5 ∨ T = 11) (g1 : c.2 = lgC T l) (e1 : c.1 T 6 = nI ko) (e2 : r.1 1 4 = nI ko) (a : Int32) : fX11_isOffice lw_SC 1 a c = some (pu_w a 0 (nI ko - 1), c) ∧ fX12_isOffice lw_SR 1 a r = some (pu_w a 0 (nI ko - 1), r) :=
  ⟨by simp [fX11_isOffice, ev_within, g1, lgS, e1, pu_zbw], by simp [fX12_isOffice, evJ, e2, pu_zbw]⟩
theorem pu_office : pu_2 pu_Rel fX11_office fX12_office := by
  intro c r h a a2
  obtain ⟨T, l, lo, np, hT, g1, g2, g3, ht, hf, hLw, hst, -⟩ := id h
  obtain ⟨LL, kn, ko, ks, d1, d2, d3, d4, d5, ⟨e1, e2⟩, ⟨p1, p2⟩, d7, m1, m2, m3⟩ := hLw
  obtain ⟨i1, i2⟩ := ev_isOffice (lo := lo) (np := np) (r := r) hT g1 e1 e2 a
  obtain ⟨L, y, nt, nh, k0, ⟨k1, k1'⟩, k2, k3, k4, k5, k6, n1, n2, n3⟩ := hst
  simp only [Nat.reduceAdd] at k1 n3
  rcases pu_w_idx a (n := ko) (by omega) with hw | ⟨hw, o, ho, rfl⟩
  · exact pu_ro h (-1000000001) (by simp [fX11_office, i1, hw]) (by simp [fX12_office, i2, hw])
  obtain ⟨w1, w2, -⟩ := m2 o ho
  have hib : pm_ib (nI o) 6 = true := pm_ib_nI (by omega) (by omega)
  have hcl : (nI o).toNatClampNeg = o := nI_clamp (by omega)
  have hlo : 1 ≤ L := by omega
  by_cases h0 : a2 = 0
  · exact pu_ro h (c.1 (T + 2) o) (by simp [fX11_office, i1, hw, eq_true h0, g1, lgS, lgT l hT, lenT hT, hib, hcl]) (by simp [fX12_office, i2, hw, eq_true h0, g3, lgR, lenR, hib, hcl, w1])
  by_cases h1 : a2 = 1
  · exact pu_ro h (c.1 (T + 3) o) (by simp [fX11_office, i1, hw, h0, eq_true h1, g1, lgS, lgT l hT, lenT hT, hib, hcl]) (by simp [fX12_office, i2, hw, h0, eq_true h1, g3, lgR, lenR, hib, hcl, w2])
  by_cases h2 : a2 = 2
  · refine pu_ro h (pu_fb (pu_q c T L o) np) ?_ ?_
    · simp [fX11_office, i1, hw, h0, h1, eq_true h2, g1, lgS, ev_fitting hT g1 k1 (fun _ => hlo) (by omega) p1 (by omega) (show o < 6 by omega)]
    · have := ev_fitsOf (q := pu_q c T L o) g3 k1' (fun _ => hlo) (by omega) p2 (by omega) (show o < 6 by omega) (fun p hp => by simp [pu_q, (n3 p hp).1, w1, w2])
      simp [fX12_office, i2, hw, h0, h1, eq_true h2, this]
  exact pu_ro h (-1000000002) (by simp [fX11_office, i1, hw, h0, h1, h2]) (by simp [fX12_office, i2, hw, h0, h1, h2])
theorem pu_person : pu_2 pu_Rel fX11_person fX12_person := by
  intro c r h a a2
  obtain ⟨T, l, lo, np, H⟩ := id h
  obtain ⟨i1, i2⟩ := ev_isPerson H a
  obtain ⟨hT, g1, g2, g3, ht, hf, hLw, hst, -⟩ := id H
  obtain ⟨LL, kn, ko, ks, d1, d2, -⟩ := hLw
  obtain ⟨L, y, nt, nh, k0, ⟨k1, k1'⟩, k2, k3, k4, k5, k6, n1, n2, n3⟩ := hst
  simp only [Nat.reduceAdd] at k1 n3
  rcases pu_w_idx a (n := np) (by omega) with hw | ⟨hw, p, hp, rfl⟩
  · exact pu_ro h (-1000000001) (by simp [fX11_person, i1, hw]) (by simp [fX12_person, i2, hw])
  have hib : pm_ib (nI p) 6 = true := pm_ib_nI (by omega) (by omega)
  have hcl : (nI p).toNatClampNeg = p := nI_clamp (by omega)
  have hib3 : pm_ib (nI (74 + p)) 80 = true := pm_ib_nI (by omega) (by omega)
  have hcl3 : (nI (74 + p)).toNatClampNeg = 74 + p := nI_clamp (by omega)
  have hlo : 1 ≤ L := by omega
  have e' : ¬ nI L = 0 := nI_ne0 (by omega) (by omega)
  by_cases h0 : a2 = 0
  · exact pu_ro h (c.1 26 p) (by simp [fX11_person, i1, hw, eq_true h0, g1, lgS, lenS, hib, hcl]) (by simp [fX12_person, i2, hw, eq_true h0, g3, lgR, lenR, nL, hib3, hcl3, (n3 p hp).1])
  by_cases h1 : a2 = 1
  · exact pu_ro h (10 * c.1 26 p / nI L) (by simp [fX11_person, i1, hw, h0, eq_true h1, g1, lgS, lenS, hib, hcl, ev_tenths k1 hlo (by omega)]) (by simp [fX12_person, fX12_measuredBy, i2, hw, h0, eq_true h1, g3, lgR, lenR, ib80, cl6, nL, hib3, hcl3, (n3 p hp).1, k1', e'])
  exact pu_ro h (-1000000002) (by simp [fX11_person, i1, hw, h0, h1]) (by simp [fX12_person, i2, hw, h0, h1])
