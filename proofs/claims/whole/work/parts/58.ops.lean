/-- what the class does with a text that has no fault -/
def pu_ok (s7 : pm_H) : Option (Int32 × pm_H) := pm_let (pm_sr s7 1 4 (s7.2 1 5)) fun s11 => pm_let (pm_sr s11 1 5 (s7.2 1 4)) fun s12 => Option.bind (fX8_begin lw_SC (s12.2 1 6) (s12.2 1 4) s12) fun u15 => Option.bind (fX3_forget lw_SC (u15.2 1 8) u15) fun u17 => fX11_realm_L94 lw_SC 1 (fun s22 => pm_let (pm_si s22 (s22.2 1 15) 2 (0 : Int32)) fun s24 => pm_let (pm_si s24 (s24.2 1 16) 2 (0 : Int32)) fun s26 => some ((s26.1 (s26.2 1 4) 0), s26)) pm_fuel (0 : Int32) u17
theorem ev_ok {s7 : pm_H} {D L : Nat} (hD : D = 5 ∨ D = 11) (sg : s7.2 = lgC (16 - D) 2) (d0 : s7.1 D 0 = nI L) : ∃ C, pu_ok s7 = some (nI L, C) ∧ C.2 = lgC D 2 ∧ (∀ q, q ≠ 28 → q ≠ 211 → q ≠ 220 → q ≠ 226 → q ≤ 17 ∨ 27 ≤ q → C.1 q = s7.1 q) ∧ (C.1 28 1 = s7.1 28 1 ∧ C.1 28 2 = 0) ∧ (∀ i, i < 2 → C.1 211 i = 0) ∧ C.1 220 2 = 0 ∧ C.1 226 2 = 0 ∧ (C.1 18 0 = nI L ∧ C.1 18 1 = 0 ∧ C.1 18 2 = 0 ∧ C.1 18 3 = 0) ∧ C.1 19 4 = 0 ∧ C.1 24 1 = 0 ∧ ∀ p, p < 6 → C.1 26 p = s7.1 (D + 4) p := by
  have hD28 : D ≠ 28 ∧ D ≠ 211 ∧ D ≠ 220 ∧ D ≠ 226 ∧ D ≤ 17 := by omega
  have e15 : s7.2 1 5 = D := by
    rw [sg]
    simp only [lgS]
    omega
  have e14 : s7.2 1 4 = 16 - D := by rw [sg]; simp only [lgS]
  obtain ⟨cb, hcb⟩ : ∃ cb, cb = pm_sr (pm_sr s7 1 4 D) 1 5 (16 - D) := ⟨_, rfl⟩
  have gb : cb.2 = lgC D 2 := by rw [hcb]; exact lgC_sw hD sg
  have cb1 : cb.1 = s7.1 := by rw [hcb]; rfl
  obtain ⟨u, b1, b2, b3, b4, b5, b6, b7, b8, b9, b10⟩ := ev_beginC hD gb
  clear hcb
  have gu : u.2 = lgC D 2 := b2.trans gb
  obtain ⟨u', hu'⟩ : ∃ u', u' = pm_si u 28 2 (0 : Int32) := ⟨_, rfl⟩
  have gu' : u'.2 = lgC D 2 := by rw [hu']; exact gu
  have hfg : fX3_forget lw_SC 28 u = some u' := by rw [fX3_forget, hu']; rfl
  obtain ⟨v, i1, i2, i3, i4⟩ := ev_forgetI gu' (fun s22 => pm_let (pm_si s22 (s22.2 1 15) 2 (0 : Int32)) fun s24 => pm_let (pm_si s24 (s24.2 1 16) 2 (0 : Int32)) fun s26 => some ((s26.1 (s26.2 1 4) 0), s26))
  have gv : v.2 = lgC D 2 := i2.trans gu'
  obtain ⟨v2, hv2⟩ : ∃ v2, v2 = pm_si v 220 2 (0 : Int32) := ⟨_, rfl⟩
  have gv2 : v2.2 = lgC D 2 := by rw [hv2]; exact gv
  obtain ⟨C, hCd⟩ : ∃ C, C = pm_si v2 226 2 (0 : Int32) := ⟨_, rfl⟩
  have gC : C.2 = lgC D 2 := by rw [hCd]; exact gv2
  have rowC : ∀ q, q ≠ 28 → q ≠ 211 → q ≠ 220 → q ≠ 226 → q ≤ 17 ∨ 27 ≤ q → C.1 q = s7.1 q := fun q h1 h2 h3 h4 h5 => by rw [hCd, pm_si_row h4, hv2, pm_si_row h3, i3 q h2, hu', pm_si_row h1, b3 q h5, cb1]
  have rowB : ∀ q, q ≠ 28 → q ≠ 211 → q ≠ 220 → q ≠ 226 → C.1 q = u.1 q := fun q h1 h2 h3 h4 => by rw [hCd, pm_si_row h4, hv2, pm_si_row h3, i3 q h2, hu', pm_si_row h1]
  have B18 := rowB 18 (by decide) (by decide) (by decide) (by decide)
  have B28 : C.1 28 = u'.1 28 := by rw [hCd, pm_si_row (by decide), hv2, pm_si_row (by decide), i3 28 (by decide)]
  have ans : C.1 D 0 = nI L := by rw [rowC D hD28.1 hD28.2.1 hD28.2.2.1 hD28.2.2.2.1 (Or.inl hD28.2.2.2.2)]; exact d0
  refine ⟨C, ?_, gC, rowC, ⟨?_, ?_⟩, fun i hi => ?_, ?_, ?_, ⟨?_, ?_, ?_, ?_⟩, ?_, ?_, fun p hp => ?_⟩
  · rw [pu_ok, e15, e14, pm_let, pm_let]
    have hb0 : (pm_sr (pm_sr s7 1 4 D) 1 5 (16 - D)).2 = lgC D 2 := lgC_sw hD sg
    have e6 : (pm_sr (pm_sr s7 1 4 D) 1 5 (16 - D)).2 1 6 = 17 := by rw [hb0]; simp only [lgS]
    have e4 : (pm_sr (pm_sr s7 1 4 D) 1 5 (16 - D)).2 1 4 = D := by rw [hb0]; simp only [lgS]
    have e8 : u.2 1 8 = 28 := by rw [gu]; simp only [lgS]
    have e220 : v.2 1 15 = 220 := by rw [gv]; simp only [lgS]
    have e226 : v2.2 1 16 = 226 := by rw [gv2]; simp only [lgS]
    have eC4 : C.2 1 4 = D := by rw [gC]; simp only [lgS]
    rw [e6, e4]
    have b1' : fX8_begin lw_SC 17 D (pm_sr (pm_sr s7 1 4 D) 1 5 (16 - D)) = some u := by
      have hx : pm_sr (pm_sr s7 1 4 D) 1 5 (16 - D) = cb := by
        refine Prod.ext ?_ ?_
        · rw [cb1]; rfl
        · rw [hb0, gb]
      rw [hx]; exact b1
    rw [b1', Option.bind_some, e8, hfg, Option.bind_some, i1, pm_let, e220, ← hv2, pm_let, e226, ← hCd, eC4, ans]
  · rw [B28, hu', pm_si_ne (by decide), b3 28 (by decide), cb1]
  · rw [B28, hu', pm_si_same]
  · rw [hCd, pm_si_row (by decide), hv2, pm_si_row (by decide)]; exact i4 i hi
  · rw [hCd, pm_si_row (by decide), hv2, pm_si_same]
  · rw [hCd, pm_si_same]
  · rw [B18, b4, cb1]; exact d0
  · rw [B18]; exact b5
  · rw [B18]; exact b6
  · rw [B18]; exact b7
  · rw [rowB 19 (by decide) (by decide) (by decide) (by decide)]; exact b8
  · rw [rowB 24 (by decide) (by decide) (by decide) (by decide)]; exact b9
  · rw [rowB 26 (by decide) (by decide) (by decide) (by decide), b10 p hp, cb1]
theorem ev_okR {r' : pm_H} {L kn ko np ks : Nat} (g3 : r'.2 = lw_R0.2) (h19 : r'.1 1 19 = nI L) (h21 : r'.1 1 21 = nI kn) (h23 : r'.1 1 23 = nI ko) (h26 : r'.1 1 26 = nI np) (h28 : r'.1 1 28 = nI ks) (bn : kn ≤ 5) (bo : ko ≤ 6) (bp : np ≤ 6) (bs : ks ≤ 12) : ∃ R, fX12_realm_J56 lw_SR 1 0 r' = some (nI L, R) ∧ R.2 = lw_R0.2 ∧ (R.1 1 0 = nI L ∧ R.1 1 1 = r'.1 1 20 ∧ R.1 1 2 = nI kn ∧ R.1 1 4 = nI ko ∧ R.1 1 7 = nI np ∧ R.1 1 9 = nI ks) ∧ (∀ i, i < kn → R.1 2 i = r'.1 9 i) ∧ (∀ i, i < ko → R.1 3 i = r'.1 10 i ∧ R.1 4 i = r'.1 11 i) ∧ (∀ i, i < ks → R.1 6 i = r'.1 13 i) ∧ R.1 7 0 = nI L ∧ (∀ k, 1 ≤ k → k < 74 → R.1 7 k = 0) ∧ (∀ p, p < np → R.1 7 (74 + p) = r'.1 12 p) ∧ (R.1 1 12 = r'.1 1 12 ∧ R.1 1 14 = 0 ∧ R.1 1 15 = r'.1 1 15 ∧ R.1 1 30 = 0 ∧ R.1 1 34 = 0 ∧ R.1 1 38 = 0) ∧ ∀ i, i < 2 → R.1 23 i = 0 := by
  obtain ⟨r14, hr14⟩ : ∃ r14, r14 = pm_si r' 1 14 (0 : Int32) := ⟨_, rfl⟩
  have g14 : r14.2 = lw_R0.2 := by rw [hr14]; exact g3
  have k14 : ∀ k, k ≠ 14 → r14.1 1 k = r'.1 1 k := fun k hk => by rw [hr14, pm_si_ne (fun z => hk z.2)]
  have q14 : ∀ q, q ≠ 1 → r14.1 q = r'.1 q := fun q hq => by rw [hr14, pm_si_row hq]
  obtain ⟨w, j1, j2, j3, j4, ⟨j50, j51, j52, j54, j57, j59⟩, j6, j7, j8, j9, j10, j11⟩ := ev_takeRead (r := r14) (L := L) (kn := kn) (ko := ko) (np := np) (ks := ks) g14 (by rw [k14 19 (by decide)]; exact h19) (by rw [k14 21 (by decide)]; exact h21) (by rw [k14 23 (by decide)]; exact h23) (by rw [k14 26 (by decide)]; exact h26) (by rw [k14 28 (by decide)]; exact h28) bn bo bp bs
  have gw : w.2 = lw_R0.2 := j2.trans g14
  obtain ⟨wa, hwa⟩ : ∃ wa, wa = pm_si (pm_si (pm_si w 1 34 (0 : Int32)) 1 38 (0 : Int32)) 1 30 (0 : Int32) := ⟨_, rfl⟩
  have ga : wa.2 = lw_R0.2 := by rw [hwa]; exact gw
  obtain ⟨wb, hwb⟩ : ∃ wb, wb = pm_si wa 23 0 (0 : Int32) := ⟨_, rfl⟩
  have gb : wb.2 = lw_R0.2 := by rw [hwb]; exact ga
  obtain ⟨R, hR⟩ : ∃ R, R = pm_si wb 23 1 (0 : Int32) := ⟨_, rfl⟩
  have gR : R.2 = lw_R0.2 := by rw [hR]; exact gb
  have rowR : ∀ q, q ≠ 1 → q ≠ 23 → R.1 q = w.1 q := fun q h1 h2 => by rw [hR, pm_si_row h2, hwb, pm_si_row h2, hwa, pm_si_row h1, pm_si_row h1, pm_si_row h1]
  have slotR : ∀ k, k ≠ 34 → k ≠ 38 → k ≠ 30 → R.1 1 k = w.1 1 k := fun k h1 h2 h3 => by rw [hR, pm_si_row (by decide), hwb, pm_si_row (by decide), hwa, pm_si_ne (fun z => h3 z.2), pm_si_ne (fun z => h2 z.2), pm_si_ne (fun z => h1 z.2)]
  refine ⟨R, ?_, gR, ⟨?_, ?_, ?_, ?_, ?_, ?_⟩, fun i hi => ?_, fun i hi => ?_, fun i hi => ?_, ?_, fun k h1 h2 => ?_, fun p hp => ?_, ⟨?_, ?_, ?_, ?_, ?_, ?_⟩, fun i hi => ?_⟩
  · have ib0 : pm_ib (0 : Int32) 2 = true := by decide
    have ib1 : pm_ib (1 : Int32) 2 = true := by decide
    have ea : wa.2 1 42 = 23 := by rw [ga]; simp only [lgR]
    have eb : wb.2 1 42 = 23 := by rw [gb]; simp only [lgR]
    have el : pm_len lw_SR 23 = 2 := by simp only [lenR]
    rw [fX12_realm_J56, pm_let, if_pos (Int32.le_refl _), ← hr14, j1, Option.bind_some, pm_let, pm_let, pm_let, ← hwa, ea, el, if_pos ib0, pm_let, cl6.1, ← hwb, eb, el, if_pos ib1, pm_let, cl6.2.1, ← hR, slotR 0 (by decide) (by decide) (by decide), j50]
  · rw [slotR 0 (by decide) (by decide) (by decide)]; exact j50
  · rw [slotR 1 (by decide) (by decide) (by decide), j51, k14 20 (by decide)]
  · rw [slotR 2 (by decide) (by decide) (by decide)]; exact j52
  · rw [slotR 4 (by decide) (by decide) (by decide)]; exact j54
  · rw [slotR 7 (by decide) (by decide) (by decide)]; exact j57
  · rw [slotR 9 (by decide) (by decide) (by decide)]; exact j59
  · rw [rowR 2 (by decide) (by decide), j6 i hi, q14 9 (by decide)]
  · rw [rowR 3 (by decide) (by decide), rowR 4 (by decide) (by decide), (j7 i hi).1, (j7 i hi).2, q14 10 (by decide), q14 11 (by decide)]; exact ⟨rfl, rfl⟩
  · rw [rowR 6 (by decide) (by decide), j8 i hi, q14 13 (by decide)]
  · rw [rowR 7 (by decide) (by decide)]; exact j9
  · rw [rowR 7 (by decide) (by decide)]; exact j10 k h1 h2
  · rw [rowR 7 (by decide) (by decide), j11 p hp, q14 12 (by decide)]
  · rw [slotR 12 (by decide) (by decide) (by decide), j4 12 (by decide), k14 12 (by decide)]
  · rw [slotR 14 (by decide) (by decide) (by decide), j4 14 (by decide), hr14, pm_si_same]
  · rw [slotR 15 (by decide) (by decide) (by decide), j4 15 (by decide), k14 15 (by decide)]
  · rw [hR, pm_si_row (by decide), hwb, pm_si_row (by decide), hwa, pm_si_same]
  · rw [hR, pm_si_row (by decide), hwb, pm_si_row (by decide), hwa, pm_si_ne (by decide), pm_si_ne (by decide), pm_si_same]
  · rw [hR, pm_si_row (by decide), hwb, pm_si_row (by decide), hwa, pm_si_ne (by decide), pm_si_same]
  · by_cases h1 : i = 1
    · subst h1; rw [hR, pm_si_same]
    · have : i = 0 := by omega
      subst this
      rw [hR, pm_si_ne (by decide), hwb, pm_si_same]
theorem pu_fin {C R c' r' : pm_H} {D L kn ko np ks lo x : Nat} (hD : D = 5 ∨ D = 11) (hlo : (lo = 0 ∧ L = 0) ∨ (lo = 1 ∧ 12 ≤ L)) (hDp : pu_Dp c' r' D L kn ko np ks) (gC : C.2 = lgC D 2) (gR : R.2 = lw_R0.2)
    (rowD : ∀ o, o ≤ 5 → C.1 (D + o) = c'.1 (D + o)) (c11 : C.1 1 1 = 0) (hx : x < 16) (c281 : C.1 28 1 = nI x) (c282 : C.1 28 2 = 0) (c211 : ∀ i, i < 2 → C.1 211 i = 0) (c220 : C.1 220 2 = 0) (c226 : C.1 226 2 = 0) (c18 : C.1 18 0 = nI L ∧ C.1 18 1 = 0 ∧ C.1 18 2 = 0 ∧ C.1 18 3 = 0) (c19 : C.1 19 4 = 0) (c24 : C.1 24 1 = 0) (c26 : ∀ p, p < 6 → C.1 26 p = c'.1 (D + 4) p)
    (j5 : R.1 1 0 = nI L ∧ R.1 1 1 = r'.1 1 20 ∧ R.1 1 2 = nI kn ∧ R.1 1 4 = nI ko ∧ R.1 1 7 = nI np ∧ R.1 1 9 = nI ks) (j6 : ∀ i, i < kn → R.1 2 i = r'.1 9 i) (j7 : ∀ i, i < ko → R.1 3 i = r'.1 10 i ∧ R.1 4 i = r'.1 11 i) (j8 : ∀ i, i < ks → R.1 6 i = r'.1 13 i) (j9 : R.1 7 0 = nI L) (j10 : ∀ k, 1 ≤ k → k < 74 → R.1 7 k = 0) (j11 : ∀ p, p < np → R.1 7 (74 + p) = r'.1 12 p) (j12 : R.1 1 14 = 0 ∧ R.1 1 30 = 0 ∧ R.1 1 34 = 0 ∧ R.1 1 38 = 0) (j23 : ∀ i, i < 2 → R.1 23 i = 0) (hft : R.1 1 15 = C.1 1 2) (hsd : R.1 1 12 = C.1 1 12 ∧ 0 ≤ (C.1 1 12).toInt) : pu_R C R D 2 lo np := by
  obtain ⟨hz, ⟨d01, d02, d03, d04, d05⟩, ⟨d11, d12, d13, d14⟩, ⟨d21, d22, d23, d24⟩, ⟨d31, d32, d33, d34⟩, ⟨d41, d42, d43, d44⟩⟩ := hDp
  obtain ⟨j50, j51, j52, j54, j57, j59⟩ := j5
  have hD0 : C.1 D = c'.1 D := rowD 0 (by decide)
  have z0 : nI 0 = 0 := rfl
  have loL : lo ≤ L := by clear d05; omega
  have hcase : (lo = 0 ∧ L = 0 ∧ kn = 0 ∧ ko = 0 ∧ ks = 0 ∧ np = 0) ∨ (lo = 1 ∧ 12 ≤ L) := by clear d05; omega
  refine ⟨hD, gC, Or.inr rfl, gR, ⟨0, by decide, c11, j12.1, fun j hj => absurd hj (Nat.not_lt_zero _)⟩, hft, ?_, ?_, ?_, fun i hi => Or.inl ⟨c211 i hi, j23 i hi⟩, hsd, ⟨0, by decide, c220, j12.2.2.1, fun j hj => absurd hj (Nat.not_lt_zero _)⟩, ⟨0, by decide, c226, j12.2.2.2, fun j hj => absurd hj (Nat.not_lt_zero _)⟩⟩
  · refine ⟨L, kn, ko, ks, hcase, ⟨d02, d11, d21, d41, d31⟩, ⟨by rw [hD0]; exact d03, j50⟩, fun hl1 => ?_, ⟨by rw [hD0]; exact d12, j52⟩, ⟨by rw [hD0]; exact d22, j54⟩, ⟨by rw [hD0]; exact d32, j57⟩, ⟨by rw [hD0]; exact d42, j59⟩, fun i hi => ?_, fun i hi => ?_, fun i hi => ?_⟩
    · have h12 : 12 ≤ L := by clear d05; omega
      obtain ⟨ww, w1, w2, w3⟩ := d05 h12
      exact ⟨ww, w1, by rw [hD0]; exact w2, by rw [j51]; exact w3⟩
    · rw [rowD 1 (by decide), j6 i hi]; exact d14 i hi
    · rw [rowD 2 (by decide), rowD 3 (by decide), (j7 i hi).1, (j7 i hi).2]; exact d24 i hi
    · rw [rowD 5 (by decide), j8 i hi]; exact d44 i hi
  · refine ⟨L, 0, 0, 0, ⟨loL, d02, by decide, by decide, by decide⟩, ⟨c18.1, j9⟩, ⟨?_, ?_, ?_⟩, ⟨Or.inl c18.2.2.1, ?_⟩, ⟨c18.2.2.2, j10 3 (by decide) (by decide)⟩, ⟨c19, j10 4 (by decide) (by decide)⟩, ⟨c24, j10 5 (by decide) (by decide)⟩, fun i hi => absurd hi (Nat.not_lt_zero _), fun i hi => absurd hi (Nat.not_lt_zero _), fun p hp => ?_⟩
    · show -99 ≤ (C.1 18 1).toInt
      rw [c18.2.1]; decide
    · show (C.1 18 1).toInt ≤ 99
      rw [c18.2.1]; decide
    · show R.1 7 1 = C.1 18 1
      rw [c18.2.1]; exact j10 1 (by decide) (by decide)
    · show R.1 7 2 = C.1 18 2
      rw [c18.2.2.1]; exact j10 2 (by decide) (by decide)
    · show R.1 7 (74 + p) = C.1 26 p ∧ 1 ≤ (C.1 26 p).toInt ∧ (C.1 26 p).toInt ≤ 999
      rw [c26 p (Nat.lt_of_lt_of_le hp d31), j11 p hp]
      exact d34 p hp
  · exact ⟨x, 0, hx, by decide, c281, c282, j12.2.1, fun j hj => absurd hj (Nat.not_lt_zero _)⟩
