theorem pu_St.tallc {h h' : Nat → Nat → Int32} {b lo np : Nat} {f f' : Nat → Int32} (H : pu_St h b f lo np) (hh : ∀ o, 1 ≤ o → o ≤ 8 → h' (b + o) = h (b + o)) (hf : ∀ k, k < 74 → f' k = f k) (r9 : ∀ p, p < np → f' (74 + p) = h' (b + 9) p ∧ 1 ≤ (h' (b + 9) p).toInt ∧ (h' (b + 9) p).toInt ≤ 999) : pu_St h' b f' lo np := by
  obtain ⟨L, y, nt, nh, k0, ⟨a1, a2⟩, ⟨b1, b2, b3⟩, ⟨d1, d2⟩, ⟨e1, e2⟩, ⟨f1, f2⟩, ⟨i1, i2⟩, t1, t2, t3⟩ := H
  have w1 := hh 1 (by omega) (by omega)
  refine ⟨L, y, nt, nh, by omega, ⟨by rw [w1]; exact a1, by rw [hf _ (by omega)]; exact a2⟩, ⟨by rw [w1]; exact b1, by rw [w1]; exact b2, by rw [w1, hf _ (by omega)]; exact b3⟩, ⟨by rw [w1]; exact d1, by rw [w1, hf _ (by omega)]; exact d2⟩, ⟨by rw [w1]; exact e1, by rw [hf _ (by omega)]; exact e2⟩, ⟨?_, ?_⟩, ⟨?_, ?_⟩, fun i hi => ?_, fun i hi => ?_, r9⟩
  · rw [hh 2 (by omega) (by omega)]; exact f1
  · rw [hf _ (by omega)]; exact f2
  · rw [hh 7 (by omega) (by omega)]; exact i1
  · rw [hf _ (by omega)]; exact i2
  · obtain ⟨fe, tw, yy, h1, ⟨u1, u2, u3⟩, ⟨v1, v2, v3⟩, x1, x2⟩ := t1 i hi
    refine ⟨fe, tw, yy, h1, ⟨?_, ?_, ?_⟩, ⟨?_, ?_, ?_⟩, ?_, ?_⟩
    · rw [hh 4 (by omega) (by omega)]; exact u1
    · rw [hh 5 (by omega) (by omega)]; exact u2
    · rw [hf _ (by omega)]; exact u3
    · rw [hh 3 (by omega) (by omega), hf _ (by omega)]; exact v1
    · rw [hh 3 (by omega) (by omega)]; exact v2
    · rw [hh 3 (by omega) (by omega)]; exact v3
    · rw [hh 6 (by omega) (by omega)]; exact x1
    · rw [hf _ (by omega)]; exact x2
  · rw [hh 8 (by omega) (by omega), hf _ (by omega)]; exact t2 i hi
theorem qn_of {a : Int32} {lo hi : Int} (h0 : 0 ≤ lo) (h1 : lo ≤ a.toInt) (h2 : a.toInt ≤ hi) : ∃ k : Nat, a = nI k ∧ (lo ≤ (k : Int) ∧ (k : Int) ≤ hi) ∧ k < 2 ^ 31 := by
  obtain ⟨k, hk, rfl⟩ := nI_of (x := a) (fun z => by have := Int32.lt_iff_toInt_lt.mp z; simp at this; omega)
  rw [nI_toInt hk] at h1 h2
  exact ⟨k, rfl, ⟨h1, h2⟩, hk⟩
theorem pu_shorten : pu_2 pu_Rel fX11_shorten fX12_shorten := by
  intro c r h a a2
  obtain ⟨T, l, lo, np, H⟩ := id h
  obtain ⟨i1, i2⟩ := ev_isPerson H a
  have hnp := H.np
  rcases pu_w_idx a (n := np) (by omega) with hw | ⟨hw, p, hp, rfl⟩
  · exact pu_ro h (-1000000001) (by simp [fX11_shorten, i1, hw]) (by simp [fX12_shorten, i2, hw])
  rcases pu_w01 a2 1 999 with hw2 | hw2
  · exact pu_ro h (-1000000002) (by simp [fX11_shorten, i1, ev_within, hw, hw2]) (by simp [fX12_shorten, i2, evI, hw, hw2])
  obtain ⟨c1, r1, q1, q2, H1, q3, q4, q5⟩ := ev_rem H
  obtain ⟨-, g1, -, g3, -, -, -, hst1, -, -, hs, -⟩ := id H1
  obtain ⟨-, g1', -⟩ := id H
  obtain ⟨L, y, nt, nh, k0, -, -, -, -, -, -, -, -, t3⟩ := id hst1
  simp only [Nat.reduceAdd] at t3
  have tp := t3 p hp
  obtain ⟨t, ht, ⟨ht1, ht2⟩, ht3⟩ := qn_of (by omega) tp.2.1 tp.2.2
  have w := pu_w_lit hw2
  obtain ⟨n, rfl, ⟨hn1, hn2⟩, hn3⟩ := qn_of (lo := 1) (hi := 999) (by omega) (by simpa using w.1) (by simpa using w.2)
  have hib : pm_ib (nI p) 6 = true := pm_ib_nI (by omega) (by omega)
  have hcl : (nI p).toNatClampNeg = p := nI_clamp (by omega)
  have hib3 : pm_ib (nI (74 + p)) 80 = true := pm_ib_nI (by omega) (by omega)
  have hcl3 : (nI (74 + p)).toNatClampNeg = 74 + p := nI_clamp (by omega)
  have hmax : pm_max 1 (nI t - nI n) = nI (if t ≤ n then 1 else t - n) := by
    by_cases hle : t ≤ n
    · rw [if_pos hle, pm_max, if_neg (fun z => ?_)]
      · rfl
      · have z := Int32.lt_iff_toInt_lt.mp z
        rw [pk_sub_toInt (by omega) (by omega)] at z
        simp at z
        omega
    · rw [if_neg hle, qn_sub (by omega), pm_max]
      by_cases h9 : 1 < t - n
      · have e9 : (1 : Int32) < nI (t - n) := (qn_lt_iff (a := 1) (by omega) (by omega)).mpr h9
        rw [if_pos e9]
      · rw [show t - n = 1 by omega]
        rfl
  obtain ⟨M, hM⟩ : ∃ z, (if t ≤ n then 1 else t - n) = z := ⟨_, rfl⟩
  have hMb : 1 ≤ M ∧ M ≤ 999 := by rw [← hM]; split <;> omega
  rw [hM] at hmax
  refine ⟨nI M, pm_si c1 26 p (nI M), pm_si r1 7 (74 + p) (nI M), ?_, ?_, T, l, lo, np, H1.now1 (by omega) (hst1.tallc (fun o _ _ => pm_si_row (by omega)) (fun k _ => pm_si_ne (by omega)) (fun j hj => ?_))⟩
  · simp [fX11_shorten, i1, ev_within, hw, hw2, g1', lgS, q1, g1, lenS, hib, hcl, pm_let, ht, hmax, pm_si_2, pm_si_1]
  · by_cases hle : t ≤ n
    · have e : nI t ≤ nI n := (qn_le_iff (by omega) (by omega)).mpr hle
      rw [if_pos hle] at hM
      subst hM
      simp [fX12_shorten, i2, evI, hw, hw2, q2, g3, lgR, lenR, nL, hib3, hcl3, tp.1, ht, e, pm_let, pm_si_2, pm_si_1]
      exact ⟨rfl, rfl⟩
    · have e : ¬ nI t ≤ nI n := fun z => by have := (qn_le_iff (by omega) (by omega)).mp z; omega
      rw [if_neg hle] at hM
      subst hM
      simp [fX12_shorten, i2, evI, hw, hw2, q2, g3, lgR, lenR, nL, hib3, hcl3, tp.1, ht, e, pm_let, pm_si_2, pm_si_1, qn_sub (show n ≤ t by omega)]
  · by_cases hjp : j = p
    · subst hjp
      rw [pm_si_same, pm_si_same, nI_toInt (by omega)]
      exact ⟨rfl, by omega, by omega⟩
    · rw [pm_si_ne (by omega), pm_si_ne (by omega)]
      exact t3 j hj
/-! undo -/
theorem ev_load {r : pm_H} {m : Nat} (g3 : r.2 = lw_R0.2) (hm : m ≤ 15) (e1 : r.1 1 30 = nI m) (kx : pm_H → Option (Int32 × pm_H)) : ∃ r', fX12_undo_L22 lw_SR 1 kx pm_fuel 0 r = kx r' ∧ r'.2 = r.2 ∧ (∀ q, q ≠ 7 → r'.1 q = r.1 q) ∧ ∀ k, k < 80 → r'.1 7 k = r.1 14 (80 * m + k) := by
  have loop : ∀ k i n (s : pm_H), i + k = 80 → k < n → s.2 = r.2 → (∀ q, q ≠ 7 → s.1 q = r.1 q) → (∀ j, j < i → s.1 7 j = r.1 14 (80 * m + j)) → ∃ r', fX12_undo_L22 lw_SR 1 kx n (nI i) s = kx r' ∧ r'.2 = r.2 ∧ (∀ q, q ≠ 7 → r'.1 q = r.1 q) ∧ ∀ k, k < 80 → r'.1 7 k = r.1 14 (80 * m + k) := by
    intro k
    induction k with
    | zero =>
      intro i n s hi hn h2 hq hj
      obtain ⟨n, rfl⟩ : ∃ z, n = z + 1 := ⟨n - 1, by omega⟩
      have hi : i = 80 := by omega
      subst hi
      have e : (80 : Int32) ≤ nI 80 := by decide
      exact ⟨s, by rw [fX12_undo_L22, if_pos e], h2, hq, hj⟩
    | succ k ih =>
      intro i n s hi hn h2 hq hj
      obtain ⟨n, rfl⟩ : ∃ z, n = z + 1 := ⟨n - 1, by omega⟩
      have e : ¬ (80 : Int32) ≤ nI i := fun z => by have := (qn_le_iff (a := 80) (by omega) (by omega)).mp z; omega
      have e30 : s.1 1 30 = nI m := by rw [hq 1 (by omega)]; exact e1
      have e80 : (80 : Int32) * nI m + nI i = nI (80 * m + i) := by rw [show (80 : Int32) = nI 80 from rfl, qn_mul, qn_add]
      have i1 : pm_ib (nI i) 80 = true := pm_ib_nI (by omega) (by omega)
      have i2 : pm_ib (nI (80 * m + i)) 1280 = true := pm_ib_nI (by omega) (by omega)
      have c1 : (nI i).toNatClampNeg = i := nI_clamp (by omega)
      have c2 : (nI (80 * m + i)).toNatClampNeg = 80 * m + i := nI_clamp (by omega)
      have h3 : s.2 = lw_R0.2 := h2.trans g3
      rw [fX12_undo_L22, if_neg e]
      simp only [h3, lgR, lenR, i1, e30, e80, i2, c1, c2, if_true, pm_let, (nL i).2.2.2.2.2.2]
      refine ih (i + 1) n (pm_si s 7 i (s.1 14 (80 * m + i))) (by omega) (by omega) h2 (fun q hq2 => by rw [pm_si_row hq2]; exact hq q hq2) (fun j hj2 => ?_)
      by_cases hji : j = i
      · subst hji
        rw [pm_si_same, hq 14 (by omega)]
      · rw [pm_si_ne (by omega)]; exact hj j (by omega)
  exact loop 80 0 pm_fuel r (by omega) (by unfold pm_fuel; omega) rfl (fun _ _ => rfl) (fun j hj => absurd hj (Nat.not_lt_zero _))
theorem pu_undo : pu_0 pu_Rel fX11_undo fX12_undo := by
  intro c r h
  obtain ⟨T, l, lo, np, H⟩ := id h
  obtain ⟨hT, g1, g2, g3, ht, hf, b1, b2, b3, b4, ⟨hs1, hs2⟩, hsi, hb⟩ := id H
  have hnp := b1.np
  obtain ⟨x, m, x1, x2, x3, x4, x5, x6⟩ := id b3
  by_cases hm0 : m = 0
  · subst hm0
    have e : ¬ (1 : Int32) ≤ nI 0 := by decide
    have e' : nI 0 = 0 := by decide
    exact pu_ro h (-1000000003) (by simp [fX11_undo, g1, lgS, x4, e]) (by simp [fX12_undo, x5, e'])
  obtain ⟨x', hx'⟩ : ∃ z, (x + 15) % 16 = z := ⟨_, rfl⟩
  have hx16 : x' < 16 := by omega
  have e : (1 : Int32) ≤ nI m := (qn_le_iff (a := 1) (by omega) (by omega)).mpr (by omega)
  have e0 : ¬ nI m ≤ 0 := fun z => by have := (qn_le_iff (b := 0) (by omega) (by omega)).mp z; omega
  have e' : ¬ nI m = 0 := nI_ne0 (by omega) (by omega)
  have em : nI m - 1 = nI (m - 1) := qn_sub (b := 1) (by omega)
  obtain ⟨r1, r2⟩ := st_ring hx16 T l
  have h17 : 17 ∈ pu_sts := by decide
  have hrp : pu_rp x m (m - 1) = 30 + 10 * x' := by unfold pu_rp; omega
  have hsl := x6 (m - 1) (by omega)
  rw [hrp] at hsl
  have hz := hsl.z
  have hib : pm_ib (nI x') 16 = true := pm_ib_nI (by omega) (by omega)
  have hcl : (nI x').toNatClampNeg = x' := nI_clamp (by omega)
  have hz' : (pm_si c 28 1 (nI x')).1 (30 + 10 * x' + 1) 2 = 0 ∨ (pm_si c 28 1 (nI x')).1 (30 + 10 * x' + 1) 2 = 1 := by rw [pm_si_row (by omega)]; exact hz
  obtain ⟨c1, q1, q2, q3, q4⟩ := ev_copy (c := pm_si c 28 1 (nI x')) h17 r2 (by omega) g1 hz'
  obtain ⟨r', w1, w2, w3, w4⟩ := ev_load (r := pm_si r 1 30 (nI (m - 1))) (m := m - 1) g3 (by omega) pm_si_same (fun s8 => some ((s8.1 1 30), s8))
  have k28 : c1.1 28 2 = nI m := by rw [q3 28 (by omega), pm_si_ne (by omega)]; exact x4
  have hcc : ∀ q, q ≠ 28 → ¬ (17 < q ∧ q ≤ 26) → (pm_si c1 28 2 (nI (m - 1))).1 q = c.1 q := fun q z1 z2 => by rw [pm_si_row z1, q3 q (by omega), pm_si_row z1]
  have hrr : ∀ q, q ≠ 1 → q ≠ 7 → r'.1 q = r.1 q := fun q z1 z2 => by rw [w3 q z2, pm_si_row z1]
  have hr1 : ∀ k, k ≠ 30 → r'.1 1 k = r.1 1 k := fun k z => by rw [w3 1 (by omega), pm_si_ne (by omega)]
  have hbr : fX3_bringBack lw_SC 28 17 c = some (pm_si c1 28 2 (nI (m - 1))) := by
    have hJ : fX3_bringBack_J26 lw_SC 28 17 (nI x') 28 c = some (pm_si c1 28 2 (nI (m - 1))) := by
      simp only [fX3_bringBack_J26, pm_let, pm_si_2, g1, lgS, lenS, pm_si_same, hib, hcl, if_true, r1, q1, Option.bind_some, k28, em]
    simp only [fX3_bringBack, x4, if_neg e0, x3]
    by_cases hx0 : x = 0
    · subst hx0
      have : x' = 15 := by omega
      subst this
      have e9 : nI 0 ≤ 0 := by decide
      rw [if_pos e9]
      exact hJ
    · have e9 : ¬ nI x ≤ 0 := fun z => by have := (qn_le_iff (b := 0) (by omega) (by omega)).mp z; omega
      rw [if_neg e9, show nI x - 1 = nI x' from (qn_sub (b := 1) (by omega)).trans (by congr 1; omega)]
      exact hJ
  refine ⟨nI (m - 1), pm_si c1 28 2 (nI (m - 1)), r', ?_, ?_, T, l, lo, np, hT, q2.trans g1, g2, w2.trans g3, ht.cg (hcc 2 (by omega) (by omega)) (by rw [hcc 1 (by omega) (by omega)]) (hrr 8 (by omega) (by omega)) (hr1 14 (by omega)), by rw [hr1 15 (by omega), hcc 1 (by omega) (by omega)]; exact hf, b1.cg hT (fun q _ _ => hcc q (by omega) (by omega)) (fun q _ _ => hrr q (by omega) (by omega)) (fun k _ => hr1 k (by omega)), ?_, ⟨x', m - 1, hx16, by omega, ?_, pm_si_same, by rw [w3 1 (by omega), pm_si_same], fun j hj => ?_⟩, b4.cg hnp (fun q _ _ => hcc q (by omega) (by omega)) (hrr 22 (by omega) (by omega)) (hrr 23 (by omega) (by omega)), by rw [hr1 12 (by omega), hcc 1 (by omega) (by omega)]; exact ⟨hs1, hs2⟩, hsi.cg (fun q _ _ => hcc q (by omega) (by omega)) (fun q _ _ => hrr q (by omega) (by omega)) (hr1 34 (by omega)), hb.cg (fun q _ _ => hcc q (by omega) (by omega)) (fun q _ _ => hrr q (by omega) (by omega)) (hr1 38 (by omega))⟩
  · simp [fX11_undo, g1, lgS, x4, e, hbr, q2, pm_si_2, pm_si_1]
  · simp only [fX12_undo, x5, if_neg e', pm_let, em]
    rw [w1, w3 1 (by omega), pm_si_same]
  · have s1 : pu_St c1.1 17 (r'.1 7) lo np := by
      refine (hsl.cg (h' := (pm_si c 28 1 (nI x')).1) (f' := r'.1 7) hnp (fun o _ _ => pm_si_row (by omega)) (fun k hk => ?_)).cp hnp q4 (fun _ _ => rfl)
      rw [w4 k hk, pm_si_row (by omega)]
    exact s1.cg hnp (fun o _ _ => pm_si_row (by omega)) (fun _ _ => rfl)
  · rw [pm_si_ne (by omega), q3 28 (by omega), pm_si_same]
  · have e9 : pu_rp x' (m - 1) j = pu_rp x m j := by unfold pu_rp; omega
    have hbnd := pu_rp_lt x m j
    rw [e9]
    exact (x6 j (by omega)).cg hnp (fun o _ _ => hcc _ (by omega) (by omega)) (fun k _ => by rw [hrr 14 (by omega) (by omega)])
