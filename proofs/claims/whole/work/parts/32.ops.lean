/-! years -/
def pu_ln (w L : Nat) : Nat := if L ≤ w then 1 else L - w
theorem qn_ln {t n : Nat} (ht : t < 2 ^ 29) (hn : n < 2 ^ 29) : pm_max 1 (nI t - nI n) = nI (pu_ln n t) := by
  unfold pu_ln
  by_cases hle : t ≤ n
  · rw [if_pos hle, pm_max, if_neg (fun z => ?_)]
    · rfl
    · have z := Int32.lt_iff_toInt_lt.mp z
      rw [pk_sub_toInt (by omega) (by omega)] at z
      simp at z
      omega
  · rw [if_neg hle, qn_sub (by omega), pm_max]
    by_cases h9 : 1 < t - n
    · have e9 : (1 : Int32) < nI (t - n) := (qn_lt_iff (a := 1) (by omega) (by omega)).mpr h9
      rw [if_pos e9]
    · rw [show t - n = 1 by omega]
      rfl
def pu_bd (x : Int32) : Int32 := if x ≤ 99 then (if -99 ≤ x then x else -99) else 99
theorem ev_bound (S : pm_S) (x : Int32) (σ : pm_H) : fX12_bound S x σ = some (pu_bd x, σ) := by
  unfold fX12_bound pu_bd
  split
  · split <;> rfl
  · rfl
theorem qn_t99 : (99 : Int32).toInt = 99 ∧ (-99 : Int32).toInt = -99 := by decide
theorem qn_bd (x : Int32) : pm_max (-99) (pm_min 99 x) = pu_bd x := by
  have t := qn_t99
  unfold pu_bd pm_min
  by_cases h : x < 99
  · rw [if_pos h, if_pos (Int32.le_of_lt h)]
    unfold pm_max
    by_cases h2 : (-99 : Int32) ≤ x
    · rw [if_pos h2]
      by_cases h3 : (-99 : Int32) < x
      · rw [if_pos h3]
      · rw [if_neg h3]
        apply Int32.toInt_inj.mp
        rw [Int32.lt_iff_toInt_lt] at h3
        rw [Int32.le_iff_toInt_le] at h2
        omega
    · rw [if_neg h2, if_neg (fun z => h2 (Int32.le_of_lt z))]
  · rw [if_neg h]
    have e : pm_max (-99) 99 = 99 := by decide
    rw [e]
    by_cases h2 : x ≤ 99
    · have h3 : x = 99 := by
        apply Int32.toInt_inj.mp
        rw [Int32.lt_iff_toInt_lt] at h
        rw [Int32.le_iff_toInt_le] at h2
        omega
      subst h3
      decide
    · rw [if_neg h2]
theorem qn_bd_in (x : Int32) : -99 ≤ (pu_bd x).toInt ∧ (pu_bd x).toInt ≤ 99 := by
  have t := qn_t99
  unfold pu_bd
  split
  · rename_i h
    rw [Int32.le_iff_toInt_le] at h
    split
    · rename_i h2
      rw [Int32.le_iff_toInt_le] at h2
      omega
    · omega
  · omega
/-- the sways' bend of a year, on both sides -/
def pu_sw (c : pm_H) (T ks y : Nat) : Int32 := if ks = 0 then 0 else c.1 (T + 5) (y % ks) - 4
theorem ev_bendIn {c c' : pm_H} {T l ks y : Nat} (hT : T = 5 ∨ T = 11) (g1 : c'.2 = lgC T l) (hk : ks ≤ 12) (e1 : c'.1 T 10 = nI ks) (e5 : c'.1 (T + 5) = c.1 (T + 5)) (hy : y < 2 ^ 20) : fX9_bendIn lw_SC T (nI y) c' = some (pu_sw c T ks y, c') := by
  by_cases h0 : ks = 0
  · subst h0
    have e : nI 0 < 1 := by decide
    rw [fX9_bendIn, e1, if_pos e]
    rfl
  have e : ¬ nI ks < 1 := fun z => by have := (qn_lt_iff (b := 1) (by omega) (by omega)).mp z; omega
  have e0 : (0 : Int32) ≤ nI y := (qn_le_iff (a := 0) (by omega) (by omega)).mpr (by omega)
  have e' : ¬ nI ks = 0 := nI_ne0 (by omega) (by omega)
  have em : pm_rem (nI y) (nI ks) = nI (y % ks) := pk_rem (by omega) (by omega) (by omega)
  have hlt : y % ks < ks := Nat.mod_lt _ (by omega)
  have i1 : pm_ib (nI (y % ks)) 12 = true := pm_ib_nI (by omega) (by omega)
  have c1 : (nI (y % ks)).toNatClampNeg = y % ks := nI_clamp (by omega)
  simp only [fX9_bendIn, e1, if_neg e, if_pos e0, if_neg e', em, g1, lgT l hT, lenT hT, i1, c1, if_true, pu_sw, if_neg h0, e5]
theorem ev_swayOf {c r : pm_H} {T ks y : Nat} (g3 : r.2 = lw_R0.2) (hk : ks ≤ 12) (e1 : r.1 1 9 = nI ks) (hs : ∀ i, i < ks → r.1 6 i = c.1 (T + 5) i) (hy : y < 2 ^ 20) : fX12_swayOf lw_SR 1 (nI y) r = some (pu_sw c T ks y, r) := by
  by_cases h0 : ks = 0
  · subst h0
    have e : nI 0 = 0 := by decide
    rw [fX12_swayOf, e1, if_pos e]
    rfl
  have e' : ¬ nI ks = 0 := nI_ne0 (by omega) (by omega)
  have em : pm_rem (nI y) (nI ks) = nI (y % ks) := pk_rem (by omega) (by omega) (by omega)
  have hlt : y % ks < ks := Nat.mod_lt _ (by omega)
  have i1 : pm_ib (nI (y % ks)) 12 = true := pm_ib_nI (by omega) (by omega)
  have c1 : (nI (y % ks)).toNatClampNeg = y % ks := nI_clamp (by omega)
  simp only [fX12_swayOf, e1, if_neg e', em, g3, lgR, lenR, i1, c1, if_true, pu_sw, if_neg h0, hs _ hlt]
theorem ev_passC {c0 c : pm_H} {T l ks y w L a : Nat} (hT : T = 5 ∨ T = 11) (g1 : c.2 = lgC T l) (ha : a = 18 ∨ a = 27) (hk : ks ≤ 12) (e1 : c.1 T 10 = nI ks) (e5 : c.1 (T + 5) = c0.1 (T + 5)) (hw : w ≤ 9) (ew : c.1 T 1 = nI w) (hy : y < 2 ^ 20) (ey : c.1 a 3 = nI y) (hL : L ≤ 240) (eL : c.1 a 0 = nI L) (ez : c.1 a 2 = 0) : ∃ c', fX6_passYear lw_SC a T c = some c' ∧ c'.2 = c.2 ∧ (∀ q, q ≠ a → c'.1 q = c.1 q) ∧ c'.1 a 0 = nI (pu_ln w L) ∧ c'.1 a 1 = pu_bd (c.1 a 1 + pu_sw c0 T ks y) ∧ c'.1 a 2 = 0 ∧ c'.1 a 3 = nI (y + 1) := by
  have A := ev_bendIn (c := c0) hT g1 hk e1 e5 hy
  have ne : T ≠ a := by omega
  refine ⟨pm_si (pm_si (pm_si c a 1 (pu_bd (c.1 a 1 + pu_sw c0 T ks y))) a 0 (nI (pu_ln w L))) a 3 (nI (y + 1)), ?_, rfl, fun q hq => by rw [pm_si_row hq, pm_si_row hq, pm_si_row hq], by rw [pm_si_ne (by omega), pm_si_same], by rw [pm_si_ne (by omega), pm_si_ne (by omega), pm_si_same], by rw [pm_si_ne (by omega), pm_si_ne (by omega), pm_si_ne (by omega)]; exact ez, pm_si_same⟩
  have q0 : ∀ x, (pm_si c a 1 x).1 a 0 = nI L := fun x => by rw [pm_si_ne (by omega)]; exact eL
  have q1 : ∀ x, (pm_si c a 1 x).1 T 1 = nI w := fun x => by rw [pm_si_row ne]; exact ew
  have q3 : ∀ x x', (pm_si (pm_si c a 1 x) a 0 x').1 a 3 = nI y := fun x x' => by rw [pm_si_ne (by omega), pm_si_ne (by omega)]; exact ey
  simp only [fX6_passYear, ez, if_true, ey, A, Option.bind_some, pm_let, qn_bd, q0, q1, qn_ln (show L < 2 ^ 29 by omega) (show w < 2 ^ 29 by omega), q3, (nL y).2.2.2.2.2.2]
theorem ev_passB {c r : pm_H} {T l np y : Nat} (H : pu_R c r T l 1 np) (ey : c.1 18 3 = nI y) (hy : y ≤ 9059) : ∃ c' r', fX6_passYear lw_SC 18 T c = some c' ∧ fX12_pass lw_SR 1 r = some r' ∧ pu_R c' r' T l 1 np ∧ c'.1 18 3 = nI (y + 1) ∧ r'.1 7 3 = nI (y + 1) ∧ c'.1 19 = c.1 19 ∧ r'.1 7 4 = r.1 7 4 := by
  obtain ⟨hT, g1, g2, g3, ht, hf, b1, b2, b3, b4, hs, hsi, hb⟩ := id H
  have hnp := b1.np
  obtain ⟨L0, kn, ko, ks, -, k00, -, hw, -, -, -, ⟨k9, k10⟩, -, -, k11⟩ := b1
  obtain ⟨w, w1, w2, w3⟩ := hw rfl
  obtain ⟨L, y', nt, nh, k0, ⟨a1, a2⟩, ⟨v1, v2, v3⟩, ⟨d1, d2⟩, ⟨e1, e2⟩, -⟩ := id b2
  simp only [Nat.reduceAdd] at a1 v1 v2 v3 d1 d2 e1
  have hyy : y' = y := by
    rw [e1] at ey
    exact (qn_inj (by omega) (by omega)).mp ey
  subst hyy
  rcases d1 with d1 | d1
  · obtain ⟨c', q1, q2, q3, q4, q5, q6, q7⟩ := ev_passC (c0 := c) (a := 18) hT g1 (Or.inl rfl) (show ks ≤ 12 by omega) k9 rfl w1 w2 (show y' < 2 ^ 20 by omega) e1 (show L ≤ 240 by omega) a1 d1
    have S := ev_swayOf (c := c) (r := r) (T := T) g3 (show ks ≤ 12 by omega) k10 (fun i hi => (k11 i hi).1) (show y' < 2 ^ 20 by omega)
    have hM : 1 ≤ pu_ln w L ∧ pu_ln w L ≤ 240 := by unfold pu_ln; split <;> omega
    refine ⟨c', pm_si (pm_si (pm_si r 7 1 (pu_bd (c.1 18 1 + pu_sw c T ks y'))) 7 0 (nI (pu_ln w L))) 7 3 (nI (y' + 1)), q1, ?_, H.now q2 rfl (fun q _ hq => q3 q (by omega)) (fun k _ => by rw [q3 1 (by omega)]) (fun q _ hq => by rw [pm_si_row hq, pm_si_row hq, pm_si_row hq]) (fun k _ => by rw [pm_si_row (by omega), pm_si_row (by omega), pm_si_row (by omega)]) (by rw [pm_si_row (by omega), pm_si_row (by omega), pm_si_row (by omega), q3 1 (by omega)]; exact hs) (b2.rod hnp (fun o _ _ => q3 _ (by omega)) (fun k _ _ => by rw [pm_si_ne (by omega), pm_si_ne (by omega), pm_si_ne (by omega)]) (pu_ln w L) (y' + 1) (by omega) ⟨q4, by rw [pm_si_ne (by omega), pm_si_same]⟩ ?_ ⟨Or.inl q6, ?_⟩ ⟨q7, pm_si_same⟩), q7, pm_si_same, q3 19 (by omega), by rw [pm_si_ne (by omega), pm_si_ne (by omega), pm_si_ne (by omega)]⟩
    · rw [d1] at d2
      have q0 : ∀ x, (pm_si r 7 1 x).1 7 0 = nI L := fun x => by rw [pm_si_ne (by omega)]; exact a2
      have q1 : ∀ x, (pm_si r 7 1 x).1 1 1 = nI w := fun x => by rw [pm_si_row (by omega)]; exact w3
      have q3 : ∀ x x', (pm_si (pm_si r 7 1 x) 7 0 x').1 7 3 = nI y' := fun x x' => by rw [pm_si_ne (by omega), pm_si_ne (by omega)]; exact e2
      by_cases hle : L ≤ w
      · have e : nI L ≤ nI w := (qn_le_iff (by omega) (by omega)).mpr hle
        have el : nI (pu_ln w L) = 1 := by unfold pu_ln; rw [if_pos hle]; rfl
        simp only [fX12_pass, g3, lgR, lenR, ib80, cl6, d2, if_true, e2, S, Option.bind_some, ev_bound, pm_let, pm_si_2, v3, q0, q1, if_pos e, q3, (nL y').2.2.2.2.2.2, el]
      · have e : ¬ nI L ≤ nI w := fun z => by have := (qn_le_iff (by omega) (by omega)).mp z; omega
        have el : nI (pu_ln w L) = nI L - nI w := by unfold pu_ln; rw [if_neg hle, qn_sub (by omega)]
        simp only [fX12_pass, g3, lgR, lenR, ib80, cl6, d2, if_true, e2, S, Option.bind_some, ev_bound, pm_let, pm_si_2, v3, q0, q1, if_neg e, q3, (nL y').2.2.2.2.2.2, el]
    · have := qn_bd_in (c.1 18 1 + pu_sw c T ks y')
      refine ⟨?_, ?_, ?_⟩
      · rw [q5]; exact this.1
      · rw [q5]; exact this.2
      · rw [q5, pm_si_ne (by omega), pm_si_ne (by omega), pm_si_same]
    · rw [pm_si_ne (by omega), pm_si_ne (by omega), pm_si_ne (by omega), d2, q6, d1]
  · have n1 : ¬ (1 : Int32) = 0 := by decide
    refine ⟨pm_si c 18 3 (nI (y' + 1)), pm_si r 7 3 (nI (y' + 1)), ?_, ?_, H.now1 (by omega) (b2.rod hnp (fun o _ _ => pm_si_row (by omega)) (fun k _ _ => pm_si_ne (by omega)) L (y' + 1) (by omega) ⟨by rw [pm_si_ne (by omega)]; exact a1, by rw [pm_si_ne (by omega)]; exact a2⟩ ?_ ?_ ⟨pm_si_same, pm_si_same⟩), pm_si_same, pm_si_same, pm_si_row (by omega), pm_si_ne (by omega)⟩
    · simp only [fX6_passYear, d1, if_neg n1, pm_let, e1, (nL y').2.2.2.2.2.2]
    · rw [d1] at d2
      simp only [fX12_pass, g3, lgR, lenR, ib80, cl6, d2, if_true, if_neg n1, pm_let, e2, (nL y').2.2.2.2.2.2]
    · rw [pm_si_ne (by omega), pm_si_ne (by omega)]; exact ⟨v1, v2, v3⟩
    · rw [pm_si_ne (by omega), pm_si_ne (by omega)]; exact ⟨Or.inr d1, d2⟩
theorem ev_yearsNo {c r : pm_H} {T l lo np : Nat} (H : pu_R c r T l lo np) (a : Int32) : (∃ v, v ≠ 0 ∧ fX11_refusalOfYears lw_SC 1 a c = some (v, c) ∧ fX12_yearsRefused lw_SR 1 a r = some (v, r)) ∨ (fX11_refusalOfYears lw_SC 1 a c = some (0, c) ∧ fX12_yearsRefused lw_SR 1 a r = some (0, r) ∧ lo = 1 ∧ ∃ n y : Nat, a = nI n ∧ 1 ≤ n ∧ n ≤ 60 ∧ y ≤ 9000 ∧ c.1 18 3 = nI y) := by
  obtain ⟨n1, n2⟩ := ev_noRealm H
  obtain ⟨hT, g1, g2, g3, ht, hf, b1, b2, b3, b4, hs, hsi, hb⟩ := id H
  obtain ⟨L, y, nt, nh, k0, ⟨a1, a2⟩, ⟨v1, v2, v3⟩, ⟨d1, d2⟩, ⟨e1, e2⟩, -⟩ := id b2
  simp only [Nat.reduceAdd] at a1 v1 v2 v3 d1 d2 e1
  have hlo1 := H.lo1
  rcases pu_w01 a 1 60 with hw | hw
  · exact Or.inl ⟨-1000000002, by decide, by simp [fX11_refusalOfYears, ev_within, hw], by simp [fX12_yearsRefused, evI, hw]⟩
  by_cases hlo : lo = 0
  · exact Or.inl ⟨-1000000003, by decide, by simp [fX11_refusalOfYears, ev_within, hw, n1, hlo], by simp [fX12_yearsRefused, evI, hw, n2, hlo]⟩
  by_cases hy : y ≤ 9000
  · have e : nI y ≤ 9000 := (qn_le_iff (b := 9000) (by omega) (by omega)).mpr hy
    have w := pu_w_lit hw
    obtain ⟨n, rfl, ⟨hn1, hn2⟩, hn3⟩ := qn_of (lo := 1) (hi := 60) (by omega) (by simpa using w.1) (by simpa using w.2)
    exact Or.inr ⟨by simp [fX11_refusalOfYears, ev_within, hw, n1, hlo, g1, lgS, e1, e], by simp [fX12_yearsRefused, evI, hw, n2, hlo, g3, lgR, lenR, ib80, cl6, e2, e], by omega, n, y, rfl, by omega, by omega, hy, e1⟩
  · have e : ¬ nI y ≤ 9000 := fun z => by have := (qn_le_iff (b := 9000) (by omega) (by omega)).mp z; omega
    exact Or.inl ⟨-1000000004, by decide, by simp [fX11_refusalOfYears, ev_within, hw, n1, hlo, g1, lgS, e1, e], by simp [fX12_yearsRefused, evI, hw, n2, hlo, g3, lgR, lenR, ib80, cl6, e2, e]⟩
theorem pu_year : pu_1 pu_Rel fX11_year fX12_year := by
  intro c r h a
  obtain ⟨T, l, lo, np, H⟩ := id h
  rcases ev_yearsNo H a with ⟨v, v0, v1, v2⟩ | ⟨v1, v2, rfl, n, y, rfl, hn1, hn2, hy, ey⟩
  · exact pu_ro h v (by simp [fX11_year, v1, v0]) (by simp [fX12_year, v2, v0])
  obtain ⟨c1, r1, q1, q2, H1, q3, q4, q5⟩ := ev_rem H
  have loop : ∀ k i m m' c r, i + k = n → k < m → k < m' → pu_R c r T l 1 np → c.1 18 3 = nI (y + i) → r.1 7 3 = nI (y + i) → ∃ c' r', fX11_year_L25 lw_SC 1 (nI n) (fun s10 => some ((s10.1 (s10.2 (s10.2 1 6) 0) 3), s10)) m (nI i) c = some (nI (y + n), c') ∧ fX12_year_L18 lw_SR 1 (nI n) (fun s5 => (if pm_ib (3 : Int32) (pm_len lw_SR (s5.2 1 11)) = true then some ((s5.1 (s5.2 1 11) ((3 : Int32)).toNatClampNeg), s5) else none)) m' (nI i) r = some (nI (y + n), r') ∧ pu_R c' r' T l 1 np := by
    intro k
    induction k with
    | zero =>
      intro i m m' c r hi hm hm' H e1 e2
      obtain ⟨m, rfl⟩ : ∃ z, m = z + 1 := ⟨m - 1, by omega⟩
      obtain ⟨m', rfl⟩ : ∃ z, m' = z + 1 := ⟨m' - 1, by omega⟩
      have e : nI n ≤ nI i := (qn_le_iff (by omega) (by omega)).mpr (by omega)
      have hi : i = n := by omega
      subst hi
      obtain ⟨hT, g1, g2, g3, -⟩ := id H
      refine ⟨c, r, ?_, ?_, H⟩
      · simp only [fX11_year_L25, if_pos e, g1, lgS, e1]
      · simp only [fX12_year_L18, if_pos e, g3, lgR, lenR, ib80, cl6, if_true, e2]
    | succ k ih =>
      intro i m m' c r hi hm hm' H e1 e2
      obtain ⟨m, rfl⟩ : ∃ z, m = z + 1 := ⟨m - 1, by omega⟩
      obtain ⟨m', rfl⟩ : ∃ z, m' = z + 1 := ⟨m' - 1, by omega⟩
      have e : ¬ nI n ≤ nI i := fun z => by have := (qn_le_iff (by omega) (by omega)).mp z; omega
      obtain ⟨hT, g1, g2, g3, -⟩ := id H
      obtain ⟨c2, r2, p1, p2, p3, p4, p5, -, -⟩ := ev_passB H e1 (by omega)
      obtain ⟨c', r', u1, u2, u3⟩ := ih (i + 1) m m' c2 r2 (by omega) (by omega) (by omega) p3 p4 p5
      refine ⟨c', r', ?_, ?_, u3⟩
      · simp only [fX11_year_L25, if_neg e, g1, lgS, p1, Option.bind_some, (nL i).2.2.2.2.2.2, u1]
      · simp only [fX12_year_L18, if_neg e, p2, Option.bind_some, (nL i).2.2.2.2.2.2, u2]
  have g1 := H.2.1
  have ey1 : c1.1 18 3 = nI y := by rw [q3 18 (by omega)]; exact ey
  have ey2 : r1.1 7 3 = nI y := by
    obtain ⟨hT, g1, g2, g3, ht, hf, b1, b2, -⟩ := id H1
    obtain ⟨L, y', nt, nh, k0, -, -, -, ⟨e1, e2⟩, -⟩ := id b2
    simp only [Nat.reduceAdd] at e1
    rw [e2, ← e1, ey1]
  obtain ⟨c', r', u1, u2, u3⟩ := loop n 0 pm_fuel pm_fuel c1 r1 (by omega) (by unfold pm_fuel; omega) (by unfold pm_fuel; omega) H1 ey1 ey2
  refine ⟨nI (y + n), c', r', ?_, ?_, T, l, 1, np, u3⟩
  · simp only [fX11_year, v1, Option.bind_some, if_true, g1, lgS, q1]
    rw [show (0 : Int32) = nI 0 from rfl, u1]
  · simp only [fX12_year, v2, Option.bind_some, if_true, q2]
    rw [show (0 : Int32) = nI 0 from rfl, u2]
