/-! door -/
theorem ev_zero19 {r : pm_H} (v1 v2 : Int32) (g3 : r.2 = lw_R0.2) : ∃ r', (∀ kx, fX12_greatestPart_L4 lw_SR 1 v1 v2 kx pm_fuel 0 r = kx r') ∧ r'.2 = r.2 ∧ (∀ q, q ≠ 19 → r'.1 q = r.1 q) ∧ ∀ k, k < 2200 → r'.1 19 k = 0 := by
  have loop : ∀ k i n (s : pm_H), i + k = 2200 → k < n → s.2 = r.2 → (∀ q, q ≠ 19 → s.1 q = r.1 q) → (∀ j, j < i → s.1 19 j = 0) → ∃ r', (∀ kx, fX12_greatestPart_L4 lw_SR 1 v1 v2 kx n (nI i) s = kx r') ∧ r'.2 = r.2 ∧ (∀ q, q ≠ 19 → r'.1 q = r.1 q) ∧ ∀ k, k < 2200 → r'.1 19 k = 0 := by
    intro k
    induction k with
    | zero =>
      intro i n s hi hn h2 hq hj
      obtain ⟨n, rfl⟩ : ∃ z, n = z + 1 := ⟨n - 1, by omega⟩
      have e : (2200 : Int32) ≤ nI i := (qn_le_iff (a := 2200) (by omega) (by omega)).mpr (by omega)
      exact ⟨s, fun kx => by rw [fX12_greatestPart_L4, if_pos e], h2, hq, fun j hj2 => hj j (by omega)⟩
    | succ k ih =>
      intro i n s hi hn h2 hq hj
      obtain ⟨n, rfl⟩ : ∃ z, n = z + 1 := ⟨n - 1, by omega⟩
      have e : ¬ (2200 : Int32) ≤ nI i := fun z => by have := (qn_le_iff (a := 2200) (by omega) (by omega)).mp z; omega
      have i1 : pm_ib (nI i) 2200 = true := pm_ib_nI (by omega) (by omega)
      have c1 : (nI i).toNatClampNeg = i := nI_clamp (by omega)
      have h3 : s.2 = lw_R0.2 := h2.trans g3
      obtain ⟨r', z1, z2⟩ := ih (i + 1) n (pm_si s 19 i 0) (by omega) (by omega) h2 (fun a ha => by rw [pm_si_row ha]; exact hq a ha) (fun j hj2 => by
        by_cases hji : j = i
        · subst hji; rw [pm_si_same]
        · rw [pm_si_ne (by omega)]; exact hj j (by omega))
      refine ⟨r', fun kx => ?_, z2⟩
      rw [← z1 kx, fX12_greatestPart_L4, if_neg e]
      simp only [h3, lgR, lenR, i1, c1, if_true, pm_let, (nL i).2.2.2.2.2.2]
  exact loop 2200 0 pm_fuel r (by omega) (by unfold pm_fuel; omega) rfl (fun _ _ => rfl) (fun j hj => absurd hj (Nat.not_lt_zero _))
theorem ev_part {f x : Nat → Nat} {n nn T l0 : Nat} {c r : pm_H} (hn : n ≤ 6) (hb : ∀ j, j < n → f j ≤ 9 ∧ x j ≤ 9999) (hnn : nn ≤ 9) (g1 : c.2 = lgC T l0) (hc : ∀ l, 1 ≤ l → l ≤ 240 → c.1 223 l = pu_lo f x l n ∧ c.1 224 l = pu_hi f x l n) (hr : pu_SR f x n r) : ∃ g c' r', fX7_greatestPart lw_SC 220 (nI nn) c = some (g, c') ∧ fX12_greatestPart lw_SR 1 (nI nn) r = some (g, r') ∧ c'.2 = c.2 ∧ (∀ q, q ≠ 225 → c'.1 q = c.1 q) ∧ r'.2 = r.2 ∧ ∀ q, q ≠ 19 → r'.1 q = r.1 q := by
  have t := qn_t
  have n1 : ¬ (1 : Int32) = 0 := by decide
  have inner : ∀ l, 1 ≤ l → l ≤ 240 → ∀ (k m m' : Nat) (v w g : Int32) (s t : pm_H), v.toInt + (k : Int) = 10 → -9 ≤ v.toInt → w.toInt = max (pu_lo f x l n).toInt (min v.toInt ((pu_hi f x l n).toInt + 1)) → k < m → k < m' → s.2 = c.2 → (∀ q, q ≠ 225 → s.1 q = c.1 q) → t.2 = r.2 → (∀ q, q ≠ 19 → t.1 q = r.1 q) → (∀ i, i < 2179 → s.1 225 i = t.1 19 i) → ∃ g' s' t', s'.2 = c.2 ∧ (∀ q, q ≠ 225 → s'.1 q = c.1 q) ∧ t'.2 = r.2 ∧ (∀ q, q ≠ 19 → t'.1 q = r.1 q) ∧ (∀ i, i < 2179 → s'.1 225 i = t'.1 19 i) ∧ (∀ kx, fX7_greatestPart_L27 lw_SC 220 (nI nn) (nI l) kx m g w s = kx g' s') ∧ ∀ kx, fX12_greatestPart_L37 lw_SR 1 (nI nn) (nI l) kx m' g v t = kx g' t' := by
    intro l hl1 hl2 k
    obtain ⟨p1, p2, -⟩ := pu_lohi (n := n) hl2 hb
    obtain ⟨q1, q2⟩ := hc l hl1 hl2
    have b2 : pm_ib (nI l) 241 = true := pm_ib_nI (by omega) (by omega)
    have c2 : (nI l).toNatClampNeg = l := nI_clamp (by omega)
    have hln : l * nn ≤ 240 * 9 := Nat.mul_le_mul hl2 hnn
    induction k with
    | zero =>
      intro m m' v w g s t hv h1 hw hm hm' a1 a2 a3 a4 a5
      obtain ⟨m, rfl⟩ : ∃ z, m = z + 1 := ⟨m - 1, by omega⟩
      obtain ⟨m', rfl⟩ : ∃ z, m' = z + 1 := ⟨m' - 1, by omega⟩
      have e : (9 : Int32) < v := Int32.lt_iff_toInt_lt.mpr (by omega)
      have e2 : pu_hi f x l n < w := Int32.lt_iff_toInt_lt.mpr (by omega)
      have a1' : s.2 = lgC T l0 := a1.trans g1
      refine ⟨g, s, t, a1, a2, a3, a4, a5, fun kx => ?_, fun kx => by rw [fX12_greatestPart_L37, if_pos e]⟩
      rw [fX7_greatestPart_L27]
      simp only [a1', lgS, lenS, b2, c2, if_true, a2 224 (by omega), q2, if_pos e2]
    | succ k ih =>
      intro m m' v w g s t hv h1 hw hm hm' a1 a2 a3 a4 a5
      obtain ⟨m', rfl⟩ : ∃ z, m' = z + 1 := ⟨m' - 1, by omega⟩
      have e : ¬ (9 : Int32) < v := fun z => by have := Int32.lt_iff_toInt_lt.mp z; omega
      have hinc : (v + 1).toInt = v.toInt + 1 := qn_addI (by omega) (by omega)
      have a1' : s.2 = lgC T l0 := a1.trans g1
      have a3' : t.2 = lw_R0.2 := a3.trans hr.1
      have hrt : pu_SR f x n t := ⟨a3', by rw [a4 1 (by omega)]; exact hr.2.1, fun j hj => by rw [a4 17 (by omega), a4 18 (by omega)]; exact hr.2.2 j hj⟩
      have CB := ev_couldBe (l := l) (v := v) hn hb hrt hl2 h1 (by omega)
      by_cases hin : (pu_lo f x l n).toInt ≤ v.toInt ∧ v.toInt ≤ (pu_hi f x l n).toInt
      · rw [if_pos hin] at CB
        have hwv : w = v := Int32.toInt_inj.mp (by omega)
        subst hwv
        obtain ⟨m, rfl⟩ : ∃ z, m = z + 1 := ⟨m - 1, by omega⟩
        obtain ⟨W, hW⟩ : ∃ W : Nat, ((l * nn : Nat) : Int) + w.toInt + 9 = (W : Int) := ⟨(((l * nn : Nat) : Int) + w.toInt + 9).toNat, by omega⟩
        have hWb : W < 2179 := by omega
        have eW : nI l * nI nn + w + 9 = nI W := by
          apply Int32.toInt_inj.mp
          rw [qn_mul, nI_toInt (by omega), qn_addI, qn_addInt (by omega) (by omega) (by omega)]
          · omega
          · rw [qn_addInt (by omega) (by omega) (by omega)]; omega
          · rw [qn_addInt (by omega) (by omega) (by omega)]; omega
        have i1 : pm_ib (nI W) 2179 = true := pm_ib_nI (by omega) (by omega)
        have i2 : pm_ib (nI W) 2200 = true := pm_ib_nI (by omega) (by omega)
        have cW : (nI W).toNatClampNeg = W := nI_clamp (by omega)
        have e2 : ¬ pu_hi f x l n < w := fun z => by have := Int32.lt_iff_toInt_lt.mp z; omega
        have hcnt := a5 W hWb
        obtain ⟨y, hy⟩ : ∃ y, s.1 225 W + 1 = y := ⟨_, rfl⟩
        have hy' : t.1 19 W + 1 = y := by rw [← hcnt, hy]
        obtain ⟨g', s', t', z1, z2, z3, z4, z5, z6, z7⟩ := ih m m' (w + 1) (w + 1) (pm_max g y) (pm_si s 225 W y) (pm_si t 19 W y) (by omega) (by omega) (by omega) (by omega) (by omega) a1 (fun q hq => by rw [pm_si_row hq]; exact a2 q hq) a3 (fun q hq => by rw [pm_si_row hq]; exact a4 q hq) (fun i hi => by
          by_cases hiW : i = W
          · subst hiW; rw [pm_si_same, pm_si_same]
          · rw [pm_si_ne (by omega), pm_si_ne (by omega)]; exact a5 i hi)
        refine ⟨g', s', t', z1, z2, z3, z4, z5, fun kx => ?_, fun kx => ?_⟩
        · rw [← z6 kx, fX7_greatestPart_L27]
          simp only [a1', lgS, lenS, b2, c2, if_true, a2 224 (by omega), q2, if_neg e2, pm_let, eW, i1, cW, hy, pm_si_2, pm_si_same]
        · rw [← z7 kx, fX12_greatestPart_L37, if_neg e]
          simp only [CB, Option.bind_some, if_neg n1, pm_let, eW, a3', lgR, lenR, i2, cW, if_true, hy', pm_si_2, pm_si_same]
          by_cases hyg : y ≤ g
          · have : ¬ g < y := fun z => by have := Int32.lt_iff_toInt_lt.mp z; have := Int32.le_iff_toInt_le.mp hyg; omega
            rw [if_pos hyg, pm_max, if_neg this]
          · have : g < y := Int32.lt_iff_toInt_lt.mpr (by rw [Int32.le_iff_toInt_le] at hyg; omega)
            rw [if_neg hyg, pm_max, if_pos this]
      · rw [if_neg hin] at CB
        obtain ⟨g', s', t', z1, z2, z3, z4, z5, z6, z7⟩ := ih m m' (v + 1) w g s t (by omega) (by omega) (by omega) (by omega) (by omega) a1 a2 a3 a4 a5
        refine ⟨g', s', t', z1, z2, z3, z4, z5, z6, fun kx => ?_⟩
        rw [← z7 kx, fX12_greatestPart_L37, if_neg e]
        simp only [CB, Option.bind_some, if_true]
  have outer : ∀ (k l m m' : Nat) (g : Int32) (s t : pm_H), l + k = 241 → 1 ≤ l → k < m → k < m' → s.2 = c.2 → (∀ q, q ≠ 225 → s.1 q = c.1 q) → t.2 = r.2 → (∀ q, q ≠ 19 → t.1 q = r.1 q) → (∀ i, i < 2179 → s.1 225 i = t.1 19 i) → ∃ g' s' t', fX7_greatestPart_L12 lw_SC 220 (nI nn) (fun w20 s21 => some (w20, s21)) m g (nI l) s = some (g', s') ∧ fX12_greatestPart_L26 lw_SR 1 (nI nn) (fun w23 s24 => some (w23, s24)) m' g (nI l) t = some (g', t') ∧ s'.2 = c.2 ∧ (∀ q, q ≠ 225 → s'.1 q = c.1 q) ∧ t'.2 = r.2 ∧ (∀ q, q ≠ 19 → t'.1 q = r.1 q) := by
    intro k
    induction k with
    | zero =>
      intro l m m' g s t hl h1 hm hm' a1 a2 a3 a4 a5
      obtain ⟨m, rfl⟩ : ∃ z, m = z + 1 := ⟨m - 1, by omega⟩
      obtain ⟨m', rfl⟩ : ∃ z, m' = z + 1 := ⟨m' - 1, by omega⟩
      have e : (240 : Int32) < nI l := (qn_lt_iff (a := 240) (by omega) (by omega)).mpr (by omega)
      exact ⟨g, s, t, by rw [fX7_greatestPart_L12, if_pos e], by rw [fX12_greatestPart_L26, if_pos e], a1, a2, a3, a4⟩
    | succ k ih =>
      intro l m m' g s t hl h1 hm hm' a1 a2 a3 a4 a5
      obtain ⟨m, rfl⟩ : ∃ z, m = z + 1 := ⟨m - 1, by omega⟩
      obtain ⟨m', rfl⟩ : ∃ z, m' = z + 1 := ⟨m' - 1, by omega⟩
      have e : ¬ (240 : Int32) < nI l := fun z => by have := (qn_lt_iff (a := 240) (by omega) (by omega)).mp z; omega
      have hl2 : l ≤ 240 := by omega
      obtain ⟨p1, p2, -⟩ := pu_lohi (n := n) hl2 hb
      obtain ⟨q1, q2⟩ := hc l h1 hl2
      have b2 : pm_ib (nI l) 241 = true := pm_ib_nI (by omega) (by omega)
      have c2 : (nI l).toNatClampNeg = l := nI_clamp (by omega)
      have a1' : s.2 = lgC T l0 := a1.trans g1
      obtain ⟨g', s', t', z1, z2, z3, z4, z5, z6, z7⟩ := inner l h1 hl2 19 pm_fuel pm_fuel (-9) (pu_lo f x l n) g s t (by omega) (by omega) (by omega) (by unfold pm_fuel; omega) (by unfold pm_fuel; omega) a1 a2 a3 a4 a5
      obtain ⟨g'', s'', t'', y1, y2, y3⟩ := ih (l + 1) m m' g' s' t' (by omega) (by omega) (by omega) (by omega) z1 z2 z3 z4 z5
      refine ⟨g'', s'', t'', ?_, ?_, y3⟩
      · rw [fX7_greatestPart_L12, if_neg e]
        simp only [a1', lgS, lenS, b2, c2, if_true, a2 223 (by omega), q1, pm_let, z6, (nL l).2.2.2.2.2.2, y1]
      · rw [fX12_greatestPart_L26, if_neg e, z7, (nL l).2.2.2.2.2.2, y2]
  obtain ⟨c1, u1, u2, u3, u4⟩ := ev_fill (q := 225) (len := 2179) 0 (c := c) (by simp only [lenS]) (by omega)
  obtain ⟨r1, w1, w2, w3, w4⟩ := ev_zero19 (r := r) (nI nn) 0 hr.1
  obtain ⟨g', s', t', y1, y2, y3, y4, y5, y6⟩ := outer 240 1 pm_fuel pm_fuel 0 c1 r1 (by omega) (by omega) (by unfold pm_fuel; omega) (by unfold pm_fuel; omega) u2 u3 w2 w3 (fun i hi => by rw [u4 i hi, w4 i (by omega)])
  have y1' : fX7_greatestPart_L12 lw_SC 220 (nI nn) (fun w20 s21 => some (w20, s21)) pm_fuel 0 1 c1 = some (g', s') := y1
  have y2' : fX12_greatestPart_L26 lw_SR 1 (nI nn) (fun w23 s24 => some (w23, s24)) pm_fuel 0 1 r1 = some (g', t') := y2
  refine ⟨g', s', t', ?_, ?_, y3, y4, y5, y6⟩
  · rw [fX7_greatestPart, g1, show lgC T l0 220 5 = 225 by simp only [lgS], u1, Option.bind_some, y1']
  · rw [fX12_greatestPart, w1, y2']
theorem pu_door : pu_0 pu_Rel fX11_door fX12_door := by
  intro c r h
  obtain ⟨T, l, lo, np, H⟩ := id h
  obtain ⟨hT, g1, g2, g3, -⟩ := id H
  obtain ⟨f, x, n, hn, hb, hC, hR⟩ := pu_Sight.get H
  obtain ⟨c', q1, q2, q3, q4⟩ := ev_gather hn hb hC
  have g1' : c'.2 = lgC T l := q2.trans g1
  have RR := ev_rodsR 0 hn hb hR
  obtain ⟨tt, htt⟩ : ∃ z, nI (pu_tot f x n 240) = z := ⟨_, rfl⟩
  have n1 : ¬ (1 : Int32) = 0 := by decide
  have R0 : fX12_rods lw_SR 1 0 r = some (tt, r) := by
    have B : fX12_in lw_SR (0 : Int32).toInt64 (0 : Int64) (2 : Int64) r = some (1, r) := by
      have e : pu_w 0 0 2 = 1 := by decide
      rw [← e]
      exact ev_in lw_SR 0 0 2 r
    rw [fX12_rods, B, Option.bind_some, if_neg n1, RR, if_pos rfl, htt]
  rw [htt] at q1
  have loop : ∀ (k nn m m' : Nat) (ft bst : Int32) (s t : pm_H), nn + k = 10 → 1 ≤ nn → k < m → k < m' → s.2 = c.2 → (∀ q, q ≠ 225 → s.1 q = c'.1 q) → t.2 = r.2 → (∀ q, q ≠ 19 → t.1 q = r.1 q) → ∃ v s' t', fX7_bestDoor_L9 lw_SC 220 (fun w5 s6 => some (w5, s6)) m ft bst (nI nn) s = some (v, s') ∧ fX12_door_L10 lw_SR 1 (fun w6 s7 => some (w6, s7)) m' bst ft (nI nn) t = some (v, t') ∧ s'.2 = c.2 ∧ (∀ q, q ≠ 225 → s'.1 q = c'.1 q) ∧ t'.2 = r.2 ∧ (∀ q, q ≠ 19 → t'.1 q = r.1 q) := by
    intro k
    induction k with
    | zero =>
      intro nn m m' ft bst s t hk h1 hm hm' a1 a2 a3 a4
      obtain ⟨m, rfl⟩ : ∃ z, m = z + 1 := ⟨m - 1, by omega⟩
      obtain ⟨m', rfl⟩ : ∃ z, m' = z + 1 := ⟨m' - 1, by omega⟩
      have e : (9 : Int32) < nI nn := (qn_lt_iff (a := 9) (by omega) (by omega)).mpr (by omega)
      have e' : (10 : Int32) ≤ nI nn := (qn_le_iff (a := 10) (by omega) (by omega)).mpr (by omega)
      exact ⟨bst, s, t, by rw [fX7_bestDoor_L9, if_pos e], by rw [fX12_door_L10, if_pos e'], a1, a2, a3, a4⟩
    | succ k ih =>
      intro nn m m' ft bst s t hk h1 hm hm' a1 a2 a3 a4
      obtain ⟨m, rfl⟩ : ∃ z, m = z + 1 := ⟨m - 1, by omega⟩
      obtain ⟨m', rfl⟩ : ∃ z, m' = z + 1 := ⟨m' - 1, by omega⟩
      have e : ¬ (9 : Int32) < nI nn := fun z => by have := (qn_lt_iff (a := 9) (by omega) (by omega)).mp z; omega
      have e' : ¬ (10 : Int32) ≤ nI nn := fun z => by have := (qn_le_iff (a := 10) (by omega) (by omega)).mp z; omega
      have hrt : pu_SR f x n t := ⟨a3.trans g3, by rw [a4 1 (by omega)]; exact hR.2.1, fun j hj => by rw [a4 17 (by omega), a4 18 (by omega)]; exact hR.2.2 j hj⟩
      obtain ⟨g, s1, t1, z1, z2, z3, z4, z5, z6⟩ := ev_part (nn := nn) (c := s) (r := t) hn hb (by omega) (a1.trans g1) (fun l w1 w2 => by rw [a2 223 (by omega), a2 224 (by omega)]; exact q4 l w1 w2) hrt
      by_cases hle : ft ≤ g
      · obtain ⟨v, s', t', y1, y2, y3⟩ := ih (nn + 1) m m' ft bst s1 t1 (by omega) (by omega) (by omega) (by omega) (z3.trans a1) (fun q hq => (z4 q hq).trans (a2 q hq)) (z5.trans a3) (fun q hq => (z6 q hq).trans (a4 q hq))
        refine ⟨v, s', t', ?_, ?_, y3⟩
        · rw [fX7_bestDoor_L9, if_neg e, z1, Option.bind_some, if_pos hle, (nL nn).2.2.2.2.2.2, y1]
        · rw [fX12_door_L10, if_neg e', z2, Option.bind_some, if_pos hle, fX12_door_J34, if_pos hle, (nL nn).2.2.2.2.2.2, y2]
      · obtain ⟨v, s', t', y1, y2, y3⟩ := ih (nn + 1) m m' g (nI nn) s1 t1 (by omega) (by omega) (by omega) (by omega) (z3.trans a1) (fun q hq => (z4 q hq).trans (a2 q hq)) (z5.trans a3) (fun q hq => (z6 q hq).trans (a4 q hq))
        refine ⟨v, s', t', ?_, ?_, y3⟩
        · rw [fX7_bestDoor_L9, if_neg e, z1, Option.bind_some, if_neg hle, (nL nn).2.2.2.2.2.2, y1]
        · rw [fX12_door_L10, if_neg e', z2, Option.bind_some, if_neg hle, fX12_door_J34, if_neg hle, (nL nn).2.2.2.2.2.2, y2]
  obtain ⟨v, s', t', y1, y2, y3, y4, y5, y6⟩ := loop 9 1 pm_fuel pm_fuel tt (-1) c' r (by omega) (by omega) (by unfold pm_fuel; omega) (by unfold pm_fuel; omega) q2 (fun _ _ => rfl) rfl (fun _ _ => rfl)
  have y1' : fX7_bestDoor_L9 lw_SC 220 (fun w5 s6 => some (w5, s6)) pm_fuel tt (-1) 1 c' = some (v, s') := y1
  have y2' : fX12_door_L10 lw_SR 1 (fun w6 s7 => some (w6, s7)) pm_fuel (-1) tt 1 r = some (v, t') := y2
  refine ⟨v, s', t', ?_, ?_, T, l, lo, np, H.scr y3 y5 (fun q hq => by rw [y4 q (by omega), q3 q (by omega) (by omega)]) (fun q _ _ hq => y6 q hq)⟩
  · rw [fX11_door, g1, show lgC T l 1 15 = 220 by simp only [lgS], fX7_bestDoor, q1, Option.bind_some, y1', Option.bind_some]
  · rw [fX12_door, R0, Option.bind_some, y2']
