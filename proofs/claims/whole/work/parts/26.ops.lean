/-! copies of standings -/
theorem pm_sa_row {σ : pm_H} {q a : Nat} {f : Nat → Int32} (h : a ≠ q) : (pm_sa σ q f).1 a = σ.1 a := by simp [pm_sa, h]
theorem pm_sa_same {σ : pm_H} {q : Nat} {f : Nat → Int32} : (pm_sa σ q f).1 q = f := by simp [pm_sa]
theorem cpS : pm_cb 0 0 20 20 20 = true ∧ pm_cb 0 0 8 8 8 = true ∧ pm_cb 0 0 6 6 6 = true := by decide
theorem cp0 {f g : Nat → Int32} {n j : Nat} (h : j < n) : va_cpy f g 0 0 n j = f j := by
  rw [pk_cpy_in (by omega) (by omega)]
  congr 1
  omega
theorem ev_rodcopy {S : pm_S} {a a' : Nat} {c : pm_H} (hne : a' ≠ a) (hz : c.1 a' 2 = 0 ∨ c.1 a' 2 = 1) : ∃ c', fX6_copyFrom S a a' c = some c' ∧ c'.2 = c.2 ∧ (∀ q, q ≠ a → c'.1 q = c.1 q) ∧ ∀ j, j < 4 → c'.1 a j = c.1 a' j := by
  have hzb : pm_zb (c.1 a' 2) = true := by rcases hz with h | h <;> rw [h] <;> rfl
  refine ⟨pm_si (pm_si (pm_si (pm_si c a 0 (c.1 a' 0)) a 1 (c.1 a' 1)) a 2 (c.1 a' 2)) a 3 (c.1 a' 3), ?_, rfl, fun q hq => ?_, fun j hj => ?_⟩
  · simp [fX6_copyFrom, pm_let, pm_si_row hne, hzb]
  · rw [pm_si_row hq, pm_si_row hq, pm_si_row hq, pm_si_row hq]
  · simp only [pm_si_1]
    rcases (show j = 0 ∨ j = 1 ∨ j = 2 ∨ j = 3 by omega) with rfl | rfl | rfl | rfl <;> simp
def pu_cp (h : Nat → Nat → Int32) (b' : Nat) (h' : Nat → Nat → Int32) (b : Nat) : Prop :=
  (∀ j, j < 4 → h' (b + 1) j = h (b' + 1) j) ∧ h' (b + 2) 4 = h (b' + 2) 4 ∧ (∀ j, j < 20 → h' (b + 3) j = h (b' + 3) j ∧ h' (b + 4) j = h (b' + 4) j ∧ h' (b + 5) j = h (b' + 5) j ∧ h' (b + 6) j = h (b' + 6) j) ∧ h' (b + 7) 1 = h (b' + 7) 1 ∧ (∀ j, j < 8 → h' (b + 8) j = h (b' + 8) j) ∧ ∀ j, j < 6 → h' (b + 9) j = h (b' + 9) j
theorem sts_apart {b b' : Nat} (hb : b ∈ pu_sts) (hb' : b' ∈ pu_sts) (hne : b ≠ b') : b + 10 ≤ b' ∨ b' + 10 ≤ b := by
  have h : ∀ b ∈ pu_sts, ∀ b' ∈ pu_sts, b ≠ b' → b + 10 ≤ b' ∨ b' + 10 ≤ b := by decide
  exact h b hb b' hb' hne
theorem ev_copy {b b' T l : Nat} {c : pm_H} (hb : b ∈ pu_sts) (hb' : b' ∈ pu_sts) (hne : b ≠ b') (g1 : c.2 = lgC T l) (hz : c.1 (b' + 1) 2 = 0 ∨ c.1 (b' + 1) 2 = 1) : ∃ c', fX8_copyFrom lw_SC b b' c = some c' ∧ c'.2 = c.2 ∧ (∀ q, ¬ (b < q ∧ q ≤ b + 9) → c'.1 q = c.1 q) ∧ pu_cp c.1 b' c'.1 b := by
  have hap := sts_apart hb hb' hne
  obtain ⟨c1, e1, e2, e3, e4⟩ := ev_rodcopy (S := lw_SC) (a := b + 1) (a' := b' + 1) (c := c) (by omega) hz
  have G := st_g hb T l
  have G' := st_g hb' T l
  have Ls := st_l hb
  have Ls' := st_l hb'
  refine ⟨pm_sa (pm_sa (pm_si (pm_sa (pm_sa (pm_sa (pm_sa (pm_si c1 (b + 2) 4 (c1.1 (b' + 2) 4)) (b + 3) (va_cpy (c1.1 (b' + 3)) (c1.1 (b + 3)) 0 0 20)) (b + 4) (va_cpy (c1.1 (b' + 4)) (c1.1 (b + 4)) 0 0 20)) (b + 5) (va_cpy (c1.1 (b' + 5)) (c1.1 (b + 5)) 0 0 20)) (b + 6) (va_cpy (c1.1 (b' + 6)) (c1.1 (b + 6)) 0 0 20)) (b + 7) 1 (c1.1 (b' + 7) 1)) (b + 8) (va_cpy (c1.1 (b' + 8)) (c1.1 (b + 8)) 0 0 8)) (b + 9) (va_cpy (c1.1 (b' + 9)) (c1.1 (b + 9)) 0 0 6), ?_, e2, fun q hq => ?_, ?_⟩
  · have g1' : c1.2 = lgC T l := e2.trans g1
    have s1 : fX10_copyFrom lw_SC (b + 2) (b' + 2) c1 = some (pm_sa (pm_sa (pm_sa (pm_sa (pm_si c1 (b + 2) 4 (c1.1 (b' + 2) 4)) (b + 3) (va_cpy (c1.1 (b' + 3)) (c1.1 (b + 3)) 0 0 20)) (b + 4) (va_cpy (c1.1 (b' + 4)) (c1.1 (b + 4)) 0 0 20)) (b + 5) (va_cpy (c1.1 (b' + 5)) (c1.1 (b + 5)) 0 0 20)) (b + 6) (va_cpy (c1.1 (b' + 6)) (c1.1 (b + 6)) 0 0 20)) := by
      simp only [fX10_copyFrom, pm_let, pm_si_2, pm_sa_2, g1', G, G', Ls, Ls', cpS, if_true, cl6]
      rw [pm_si_row (a := b' + 3) (by omega), pm_si_row (a := b + 3) (by omega), pm_sa_row (a := b' + 4) (by omega), pm_si_row (a := b' + 4) (by omega), pm_sa_row (a := b + 4) (by omega), pm_si_row (a := b + 4) (by omega), pm_sa_row (a := b' + 5) (by omega), pm_sa_row (a := b' + 5) (by omega), pm_si_row (a := b' + 5) (by omega), pm_sa_row (a := b + 5) (by omega), pm_sa_row (a := b + 5) (by omega), pm_si_row (a := b + 5) (by omega), pm_sa_row (a := b' + 6) (by omega), pm_sa_row (a := b' + 6) (by omega), pm_sa_row (a := b' + 6) (by omega), pm_si_row (a := b' + 6) (by omega), pm_sa_row (a := b + 6) (by omega), pm_sa_row (a := b + 6) (by omega), pm_sa_row (a := b + 6) (by omega), pm_si_row (a := b + 6) (by omega)]
    obtain ⟨c2, hc2⟩ : ∃ z, pm_sa (pm_sa (pm_sa (pm_sa (pm_si c1 (b + 2) 4 (c1.1 (b' + 2) 4)) (b + 3) (va_cpy (c1.1 (b' + 3)) (c1.1 (b + 3)) 0 0 20)) (b + 4) (va_cpy (c1.1 (b' + 4)) (c1.1 (b + 4)) 0 0 20)) (b + 5) (va_cpy (c1.1 (b' + 5)) (c1.1 (b + 5)) 0 0 20)) (b + 6) (va_cpy (c1.1 (b' + 6)) (c1.1 (b + 6)) 0 0 20) = z := ⟨_, rfl⟩
    have g2 : c2.2 = lgC T l := by rw [← hc2]; exact g1'
    have r2 : ∀ a, a ≠ b + 2 → a ≠ b + 3 → a ≠ b + 4 → a ≠ b + 5 → a ≠ b + 6 → c2.1 a = c1.1 a := fun a z1 z2 z3 z4 z5 => by rw [← hc2, pm_sa_row z5, pm_sa_row z4, pm_sa_row z3, pm_sa_row z2, pm_si_row z1]
    rw [hc2] at s1 ⊢
    simp only [fX8_copyFrom, g1, G, G', e1, Option.bind_some, g1', s1]
    simp only [fX1_copyFrom, pm_let, pm_si_2, pm_sa_2, g2, G, G', Ls, Ls', cpS, if_true, cl6, Option.bind_some]
    rw [pm_si_row (a := b' + 8) (by omega), pm_si_row (a := b + 8) (by omega), pm_sa_row (a := b' + 9) (by omega), pm_si_row (a := b' + 9) (by omega), pm_sa_row (a := b + 9) (by omega), pm_si_row (a := b + 9) (by omega), r2 (b' + 7) (by omega) (by omega) (by omega) (by omega) (by omega), r2 (b' + 8) (by omega) (by omega) (by omega) (by omega) (by omega), r2 (b + 8) (by omega) (by omega) (by omega) (by omega) (by omega), r2 (b' + 9) (by omega) (by omega) (by omega) (by omega) (by omega), r2 (b + 9) (by omega) (by omega) (by omega) (by omega) (by omega)]
  · rw [pm_sa_row (by omega), pm_sa_row (by omega), pm_si_row (by omega), pm_sa_row (by omega), pm_sa_row (by omega), pm_sa_row (by omega), pm_sa_row (by omega), pm_si_row (by omega)]
    exact e3 q (by omega)
  · refine ⟨fun j hj => ?_, ?_, fun j hj => ⟨?_, ?_, ?_, ?_⟩, ?_, fun j hj => ?_, fun j hj => ?_⟩
    · rw [pm_sa_row (by omega), pm_sa_row (by omega), pm_si_row (by omega), pm_sa_row (by omega), pm_sa_row (by omega), pm_sa_row (by omega), pm_sa_row (by omega), pm_si_row (by omega)]
      exact e4 j hj
    · rw [pm_sa_row (by omega), pm_sa_row (by omega), pm_si_row (by omega), pm_sa_row (by omega), pm_sa_row (by omega), pm_sa_row (by omega), pm_sa_row (by omega), pm_si_same, e3 (b' + 2) (by omega)]
    · rw [pm_sa_row (by omega), pm_sa_row (by omega), pm_si_row (by omega), pm_sa_row (by omega), pm_sa_row (by omega), pm_sa_row (by omega), pm_sa_same, cp0 hj, e3 (b' + 3) (by omega)]
    · rw [pm_sa_row (by omega), pm_sa_row (by omega), pm_si_row (by omega), pm_sa_row (by omega), pm_sa_row (by omega), pm_sa_same, cp0 hj, e3 (b' + 4) (by omega)]
    · rw [pm_sa_row (by omega), pm_sa_row (by omega), pm_si_row (by omega), pm_sa_row (by omega), pm_sa_same, cp0 hj, e3 (b' + 5) (by omega)]
    · rw [pm_sa_row (by omega), pm_sa_row (by omega), pm_si_row (by omega), pm_sa_same, cp0 hj, e3 (b' + 6) (by omega)]
    · rw [pm_sa_row (by omega), pm_sa_row (by omega), pm_si_same, e3 (b' + 7) (by omega)]
    · rw [pm_sa_row (by omega), pm_sa_same, cp0 hj, e3 (b' + 8) (by omega)]
    · rw [pm_sa_same, cp0 hj, e3 (b' + 9) (by omega)]
theorem pu_St.cp {h h' : Nat → Nat → Int32} {b b' lo np : Nat} {f f' : Nat → Int32} (hnp : np ≤ 6) (hc : pu_cp h b' h' b) (hf : ∀ k, k < 80 → f' k = f k) (H : pu_St h b' f lo np) : pu_St h' b f' lo np := by
  obtain ⟨L, y, nt, nh, h1, ⟨a1, a2⟩, ⟨b1, b2, b3⟩, ⟨d1, d2⟩, ⟨e1, e2⟩, ⟨g1, g2⟩, ⟨k1, k2⟩, t1, t2, t3⟩ := H
  obtain ⟨c1, c2, c3, c7, c8, c9⟩ := hc
  refine ⟨L, y, nt, nh, h1, ⟨by rw [c1 0 (by omega)]; exact a1, by rw [hf 0 (by omega)]; exact a2⟩, ⟨by rw [c1 1 (by omega)]; exact b1, by rw [c1 1 (by omega)]; exact b2, by rw [c1 1 (by omega), hf 1 (by omega)]; exact b3⟩, ⟨by rw [c1 2 (by omega)]; exact d1, by rw [c1 2 (by omega), hf 2 (by omega)]; exact d2⟩, ⟨by rw [c1 3 (by omega)]; exact e1, by rw [hf 3 (by omega)]; exact e2⟩, ⟨by rw [c2]; exact g1, by rw [hf 4 (by omega)]; exact g2⟩, ⟨by rw [c7]; exact k1, by rw [hf 5 (by omega)]; exact k2⟩, fun i hi => ?_, fun i hi => ?_, fun p hp => ?_⟩
  · obtain ⟨fe, tw, yy, q0, ⟨q1, q2, q3⟩, ⟨q4, q5, q6⟩, q7, q8⟩ := t1 i hi
    obtain ⟨w3, w4, w5, w6⟩ := c3 i (by omega)
    exact ⟨fe, tw, yy, q0, ⟨by rw [w4]; exact q1, by rw [w5]; exact q2, by rw [hf _ (by omega)]; exact q3⟩, ⟨by rw [w3, hf _ (by omega)]; exact q4, by rw [w3]; exact q5, by rw [w3]; exact q6⟩, by rw [w6]; exact q7, by rw [hf _ (by omega)]; exact q8⟩
  · rw [c8 i (by omega), hf _ (by omega)]; exact t2 i hi
  · rw [c9 p (by omega), hf _ (by omega)]; exact t3 p hp
theorem pu_St.z {h : Nat → Nat → Int32} {b lo np : Nat} {f : Nat → Int32} (H : pu_St h b f lo np) : h (b + 1) 2 = 0 ∨ h (b + 1) 2 = 1 := by
  obtain ⟨L, y, nt, nh, h1, -, -, ⟨d1, -⟩, -⟩ := H
  exact d1
/-- remember: the class's side -/
theorem ev_remC {c : pm_H} {T l x m : Nat} (g1 : c.2 = lgC T l) (hx : x < 16) (hm : m ≤ 16) (e1 : c.1 28 1 = nI x) (e2 : c.1 28 2 = nI m) (hz : c.1 18 2 = 0 ∨ c.1 18 2 = 1) : ∃ c', fX3_remember lw_SC 28 17 c = some c' ∧ c'.2 = c.2 ∧ (∀ q, q ≠ 28 → ¬ (30 + 10 * x < q ∧ q ≤ 30 + 10 * x + 9) → c'.1 q = c.1 q) ∧ pu_cp c.1 17 c'.1 (30 + 10 * x) ∧ c'.1 28 1 = nI ((x + 1) % 16) ∧ c'.1 28 2 = nI (if m = 16 then 16 else m + 1) := by
  obtain ⟨r1, r2⟩ := st_ring hx T l
  have h17 : 17 ∈ pu_sts := by decide
  obtain ⟨c1, q1, q2, q3, q4⟩ := ev_copy r2 h17 (by omega) g1 hz
  have hib : pm_ib (nI x) 16 = true := pm_ib_nI (by omega) (by omega)
  have hcl : (nI x).toNatClampNeg = x := nI_clamp (by omega)
  have k1 : c1.1 28 = c.1 28 := q3 28 (by omega)
  have hmin : pm_min 16 (nI m + 1) = nI (if m = 16 then 16 else m + 1) := by
    rw [(nL m).2.2.2.2.2.2]
    unfold pm_min
    by_cases h16 : m = 16
    · rw [if_neg (fun z => by have := (qn_lt_iff (b := 16) (by omega) (by omega)).mp z; omega), if_pos h16]; rfl
    · rw [if_neg h16]
      by_cases h15 : m + 1 < 16
      · have e9 : nI (m + 1) < (16 : Int32) := (qn_lt_iff (b := 16) (by omega) (by omega)).mpr h15
        rw [if_pos e9]
      · rw [if_neg (fun z => by have := (qn_lt_iff (b := 16) (by omega) (by omega)).mp z; omega), show m + 1 = 16 by omega]; rfl
  refine ⟨pm_si (pm_si c1 28 1 (nI ((x + 1) % 16))) 28 2 (nI (if m = 16 then 16 else m + 1)), ?_, q2, fun q hq hq2 => ?_, ?_, ?_, ?_⟩
  · simp only [fX3_remember, e1, g1, lgS, lenS, hib, if_true, hcl, r1, q1, Option.bind_some, k1, (nL x).2.2.2.2.2.2]
    by_cases h15 : x = 15
    · have e9 : (16 : Int32) ≤ nI (x + 1) := (qn_le_iff (a := 16) (by omega) (by omega)).mpr (by omega)
      rw [if_pos e9]
      simp only [fX3_remember_J35, pm_let]
      rw [pm_si_ne (by omega), k1, e2, hmin, show (x + 1) % 16 = 0 by omega]
      rfl
    · have e9 : ¬ (16 : Int32) ≤ nI (x + 1) := fun z => by have := (qn_le_iff (a := 16) (by omega) (by omega)).mp z; omega
      rw [if_neg e9]
      simp only [fX3_remember_J35, pm_let]
      rw [pm_si_ne (by omega), k1, e2, hmin, show (x + 1) % 16 = x + 1 by omega]
  · rw [pm_si_row hq, pm_si_row hq]; exact q3 q hq2
  · obtain ⟨c1', c2', c3', c7', c8', c9'⟩ := q4
    refine ⟨fun j hj => ?_, ?_, fun j hj => ?_, ?_, fun j hj => ?_, fun j hj => ?_⟩
    · rw [pm_si_row (by omega), pm_si_row (by omega)]; exact c1' j hj
    · rw [pm_si_row (by omega), pm_si_row (by omega)]; exact c2'
    · rw [pm_si_row (by omega), pm_si_row (by omega), pm_si_row (by omega), pm_si_row (by omega), pm_si_row (by omega), pm_si_row (by omega), pm_si_row (by omega), pm_si_row (by omega)]; exact c3' j hj
    · rw [pm_si_row (by omega), pm_si_row (by omega)]; exact c7'
    · rw [pm_si_row (by omega), pm_si_row (by omega)]; exact c8' j hj
    · rw [pm_si_row (by omega), pm_si_row (by omega)]; exact c9' j hj
  · rw [pm_si_ne (by omega), pm_si_same]
  · rw [pm_si_same]
