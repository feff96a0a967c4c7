/-! drift -/
def pu_dr (k : Nat) : Nat := (k * 1103515245 + 12345) % 2147483648
theorem qn_l64 {k : Nat} (hk : k < 2 ^ 31) : (nI k).toInt64 = Int64.ofNat k := by
  apply Int64.toInt_inj.mp
  rw [Int32.toInt_toInt64, nI_toInt hk, Int64.toInt_ofNat_of_lt (by omega)]
theorem qn_l64x (k : Nat) : Int64.ofNat k * (1103515245 : Int64) + (12345 : Int64) = Int64.ofNat (k * 1103515245 + 12345) := by
  rw [Int64.ofNat_add, Int64.ofNat_mul]
  rfl
theorem qn_land {N : Nat} (hN : N < 2 ^ 63) : Int64.ofNat N &&& (2147483647 : Int64) = Int64.ofNat (N % 2147483648) := by
  apply Int64.toBitVec_inj.mp
  apply BitVec.eq_of_toNat_eq
  rw [Int64.toBitVec_and, BitVec.toNat_and]
  have e1 : (Int64.ofNat N).toBitVec.toNat = N := by
    rw [Int64.toBitVec_ofNat']
    exact Nat.mod_eq_of_lt (by omega)
  have e2 : (Int64.ofNat (N % 2147483648)).toBitVec.toNat = N % 2147483648 := by
    rw [Int64.toBitVec_ofNat']
    exact Nat.mod_eq_of_lt (by omega)
  have e3 : (2147483647 : Int64).toBitVec.toNat = 2 ^ 31 - 1 := by decide
  rw [e1, e2, e3, Nat.and_two_pow_sub_one_eq_mod]
theorem qn_lrem {N : Nat} (hN : N < 2 ^ 63) : pm_lrem_ (Int64.ofNat N) (2147483648 : Int64) = Int64.ofNat (N % 2147483648) := by
  have ed : Int64.ofNat N / (2147483648 : Int64) = Int64.ofNat (N / 2147483648) := by
    apply Int64.toInt_inj.mp
    rw [Int64.toInt_div, Int64.toInt_ofNat_of_lt (by omega), Int64.toInt_ofNat_of_lt (by omega)]
    have e : (2147483648 : Int64).toInt = ((2147483648 : Nat) : Int) := by decide
    rw [e, ← Int.ofNat_tdiv]
    exact Int.bmod_eq_of_le (by omega) (by omega)
  rw [pm_lrem_, ed, show (2147483648 : Int64) = Int64.ofNat 2147483648 from rfl, ← Int64.ofNat_mul, ← Int64.ofNat_sub _ _ (by omega)]
  congr 1
  omega
theorem qn_to32 {N : Nat} (hN : N < 2 ^ 31) : (Int64.ofNat N).toInt32 = nI N := by
  apply Int32.toInt_inj.mp
  rw [Int64.toInt_toInt32, Int64.toInt_ofNat_of_lt (by omega), nI_toInt hN]
  exact Int.bmod_eq_of_le (by omega) (by omega)
theorem pu_dr_lt (k : Nat) : pu_dr k < 2 ^ 31 := by unfold pu_dr; omega
theorem ev_draw {c r : pm_H} {k d : Nat} (hk : k < 2 ^ 31) (e1 : c.1 1 12 = nI k) (e2 : r.1 1 12 = nI k) (hd : 1 ≤ d ∧ d ≤ 1000) : fX11_draw lw_SC 1 (nI d) c = some (nI (pu_dr k / 65536 % d), pm_si c 1 12 (nI (pu_dr k))) ∧ fX12_draw lw_SR 1 (nI d) r = some (nI (pu_dr k / 65536 % d), pm_si r 1 12 (nI (pu_dr k))) := by
  have hb : k * 1103515245 + 12345 < 2 ^ 63 := by omega
  have hl := pu_dr_lt k
  have A : ((((nI k).toInt64 * (1103515245 : Int64)) + (12345 : Int64)) &&& (2147483647 : Int64)).toInt32 = nI (pu_dr k) := by
    rw [qn_l64 hk, qn_l64x, qn_land hb, qn_to32 (by omega)]
    rfl
  have B : (pm_lrem_ (((nI k).toInt64 * (1103515245 : Int64)) + (12345 : Int64)) (2147483648 : Int64)).toInt32 = nI (pu_dr k) := by
    rw [qn_l64 hk, qn_l64x, qn_lrem hb, qn_to32 (by omega)]
    rfl
  have D : nI (pu_dr k) / 65536 = nI (pu_dr k / 65536) := pk_div (d := 65536) hl (by omega) (by omega)
  have E : pm_rem (nI (pu_dr k / 65536)) (nI d) = nI (pu_dr k / 65536 % d) := pk_rem (by omega) (by omega) (by omega)
  have h1 : (1 : Int32) ≤ nI d := (qn_le_iff (a := 1) (by omega) (by omega)).mpr hd.1
  have h0 : ¬ nI d = 0 := nI_ne0 (by omega) (by omega)
  constructor
  · simp only [fX11_draw, pm_let, e1, A, if_pos h1, if_neg h0, pm_si_same, D, E]
  · simp only [fX12_draw, pm_let, e2, B, if_neg h0, pm_si_same, D, E]
theorem pu_R.sd {c r : pm_H} {T l lo np k : Nat} (H : pu_R c r T l lo np) (hk : k < 2 ^ 31) : pu_R (pm_si c 1 12 (nI k)) (pm_si r 1 12 (nI k)) T l lo np := by
  obtain ⟨hT, g1, g2, g3, ht, hf, b1, b2, b3, b4, hs, hsi, hb⟩ := id H
  exact H.now rfl rfl (fun q hq _ => pm_si_row hq) (fun k hk => pm_si_ne (by omega)) (fun q hq _ => pm_si_row hq) (fun k hk => pm_si_ne (by omega)) (by rw [pm_si_same, pm_si_same, nI_toInt hk]; exact ⟨rfl, by omega⟩) (b2.cg b1.np (fun o _ _ => pm_si_row (by omega)) (fun k _ => by rw [pm_si_row (by omega)]))
theorem ev_chance {c r : pm_H} {T l lo np : Nat} (H : pu_R c r T l lo np) : ∃ c' r', fX11_meetChance lw_SC 1 c = some c' ∧ fX12_chance lw_SR 1 r = some r' ∧ pu_R c' r' T l lo np ∧ c'.1 18 3 = c.1 18 3 := by
  obtain ⟨hT, g1, g2, g3, ht, hf, b1, b2, b3, b4, ⟨hs1, hs2⟩, hsi, hb⟩ := id H
  have hnp := b1.np
  have tlt := Int32.toInt_lt (c.1 1 12)
  obtain ⟨k, hk, -, hkl⟩ := qn_of (hi := 2 ^ 31 - 1) (by omega) hs2 (by omega)
  have hk' : r.1 1 12 = nI k := hs1.trans hk
  obtain ⟨A, B⟩ := ev_draw (d := 8) hkl hk hk' (by omega)
  have A : fX11_draw lw_SC 1 8 c = some (nI (pu_dr k / 65536 % 8), pm_si c 1 12 (nI (pu_dr k))) := A
  have B : fX12_draw lw_SR 1 8 r = some (nI (pu_dr k / 65536 % 8), pm_si r 1 12 (nI (pu_dr k))) := B
  have H1 := H.sd (k := pu_dr k) (pu_dr_lt k)
  obtain ⟨k1, hk1⟩ : ∃ z, pu_dr k = z := ⟨_, rfl⟩
  have hk1l : k1 < 2 ^ 31 := hk1 ▸ pu_dr_lt k
  rw [hk1] at A B H1
  obtain ⟨w, hw⟩ : ∃ z, k1 / 65536 % 8 = z := ⟨_, rfl⟩
  have hwl : w < 8 := by omega
  rw [hw] at A B
  obtain ⟨c1, hc1⟩ : ∃ z, pm_si c 1 12 (nI k1) = z := ⟨_, rfl⟩
  obtain ⟨r1, hr1⟩ : ∃ z, pm_si r 1 12 (nI k1) = z := ⟨_, rfl⟩
  rw [hc1] at A H1
  rw [hr1] at B H1
  have s1 : c1.1 1 12 = nI k1 := by rw [← hc1, pm_si_same]
  have s2 : r1.1 1 12 = nI k1 := by rw [← hr1, pm_si_same]
  have s3 : c1.1 18 3 = c.1 18 3 := by rw [← hc1, pm_si_row (by omega)]
  obtain ⟨-, g1', -, g3', -, -, -, b21, -⟩ := id H1
  obtain ⟨L, y, nt, nh, k0, ⟨a1, a2⟩, ⟨v1, v2, v3⟩, ⟨d1, d2⟩, ⟨e1, e2⟩, -⟩ := id b21
  simp only [Nat.reduceAdd] at a1 v1 v2 v3 d1 d2 e1
  have e0 : nI 0 = 0 := rfl
  have e1' : nI 1 = 1 := rfl
  have e2' : nI 2 = 2 := rfl
  have e3' : nI 3 = 3 := rfl
  have n10 : ¬ (1 : Int32) = 0 := by decide
  have n20 : ¬ (2 : Int32) = 0 := by decide
  have n21 : ¬ (2 : Int32) = 1 := by decide
  have n30 : ¬ (3 : Int32) = 0 := by decide
  have n31 : ¬ (3 : Int32) = 1 := by decide
  have n32 : ¬ (3 : Int32) = 2 := by decide
  have l20 : ¬ (2 : Int32) ≤ 0 := by decide
  have l21 : ¬ (2 : Int32) ≤ 1 := by decide
  have l22 : (2 : Int32) ≤ 2 := by decide
  have l23 : (2 : Int32) ≤ 3 := by decide
  by_cases w0 : w = 0
  · subst w0
    rw [e0] at A B
    refine ⟨pm_si c1 18 2 1, pm_si r1 7 2 1, ?_, ?_, H1.now1 (by omega) (b21.rod hnp (fun o _ _ => pm_si_row (by omega)) (fun k _ _ => pm_si_ne (by omega)) L y (by omega) ⟨?_, ?_⟩ ?_ ⟨?_, ?_⟩ ⟨?_, ?_⟩), ?_⟩
    · simp only [fX11_meetChance, A, Option.bind_some, if_true, g1', lgS, pm_let]
    · simp only [fX12_chance, B, Option.bind_some, if_neg l20, g3', lgR, lenR, ib80, cl6, if_true, pm_let]
      rfl
    · rw [pm_si_ne (by omega)]; exact a1
    · rw [pm_si_ne (by omega)]; exact a2
    · rw [pm_si_ne (by omega), pm_si_ne (by omega)]; exact ⟨v1, v2, v3⟩
    · exact Or.inr pm_si_same
    · rw [pm_si_same, pm_si_same]
    · rw [pm_si_ne (by omega)]; exact e1
    · rw [pm_si_ne (by omega)]; exact e2
    · rw [pm_si_ne (by omega)]; exact s3
  by_cases w1 : w = 1
  · subst w1
    rw [e1'] at A B
    refine ⟨pm_si c1 18 2 0, pm_si r1 7 2 0, ?_, ?_, H1.now1 (by omega) (b21.rod hnp (fun o _ _ => pm_si_row (by omega)) (fun k _ _ => pm_si_ne (by omega)) L y (by omega) ⟨?_, ?_⟩ ?_ ⟨?_, ?_⟩ ⟨?_, ?_⟩), ?_⟩
    · simp only [fX11_meetChance, A, Option.bind_some, if_neg n10, if_true, g1', lgS, pm_let]
    · simp only [fX12_chance, B, Option.bind_some, if_neg l21, g3', lgR, lenR, ib80, cl6, if_true, pm_let]
      rfl
    · rw [pm_si_ne (by omega)]; exact a1
    · rw [pm_si_ne (by omega)]; exact a2
    · rw [pm_si_ne (by omega), pm_si_ne (by omega)]; exact ⟨v1, v2, v3⟩
    · exact Or.inl pm_si_same
    · rw [pm_si_same, pm_si_same]
    · rw [pm_si_ne (by omega)]; exact e1
    · rw [pm_si_ne (by omega)]; exact e2
    · rw [pm_si_ne (by omega)]; exact s3
  by_cases w2 : w = 2
  · subst w2
    rw [e2'] at A B
    obtain ⟨A2, B2⟩ := ev_draw (d := 21) hk1l s1 s2 (by omega)
    have A2 : fX11_draw lw_SC 1 21 c1 = some (nI (pu_dr k1 / 65536 % 21), pm_si c1 1 12 (nI (pu_dr k1))) := A2
    have B2 : fX12_draw lw_SR 1 21 r1 = some (nI (pu_dr k1 / 65536 % 21), pm_si r1 1 12 (nI (pu_dr k1))) := B2
    have H2 := H1.sd (k := pu_dr k1) (pu_dr_lt k1)
    obtain ⟨w', hw'⟩ : ∃ z, pu_dr k1 / 65536 % 21 = z := ⟨_, rfl⟩
    have hwl' : w' < 21 := by omega
    rw [hw'] at A2 B2
    obtain ⟨c2, hc2⟩ : ∃ z, pm_si c1 1 12 (nI (pu_dr k1)) = z := ⟨_, rfl⟩
    obtain ⟨r2, hr2⟩ : ∃ z, pm_si r1 1 12 (nI (pu_dr k1)) = z := ⟨_, rfl⟩
    rw [hc2] at A2 H2
    rw [hr2] at B2 H2
    have t3 : c2.1 18 = c1.1 18 := by rw [← hc2, pm_si_row (by omega)]
    have t4 : r2.1 7 = r1.1 7 := by rw [← hr2, pm_si_row (by omega)]
    obtain ⟨-, g1'', -, g3'', -, -, -, b22, -⟩ := id H2
    have hv := pk_sub_toInt (a := w') (b := 10) (by omega) (by omega)
    have hv' : (nI w' - 10).toInt = (w' : Int) - 10 := hv
    rcases d1 with d1 | d1
    · have d2' : r2.1 7 2 = 0 := by rw [t4, d2, d1]
      have d1' : c2.1 18 2 = 0 := by rw [t3, d1]
      refine ⟨pm_si c2 18 1 (nI w' - 10), pm_si r2 7 1 (nI w' - 10), ?_, ?_, H2.now1 (by omega) (b22.rod hnp (fun o _ _ => pm_si_row (by omega)) (fun k _ _ => pm_si_ne (by omega)) L y (by omega) ⟨?_, ?_⟩ ⟨?_, ?_, ?_⟩ ⟨?_, ?_⟩ ⟨?_, ?_⟩), ?_⟩
      · simp only [fX11_meetChance, fX11_bendByDraw, A, Option.bind_some, if_neg n20, if_neg n21, if_true, A2, g1'', lgS, pm_let, d1']
      · simp only [fX12_chance, B, Option.bind_some, if_pos l22, if_true, B2, g3'', lgR, lenR, ib80, cl6, pm_let, d2']
      · rw [pm_si_ne (by omega), t3]; exact a1
      · rw [pm_si_ne (by omega), t4]; exact a2
      · rw [pm_si_same, hv']; omega
      · rw [pm_si_same, hv']; omega
      · rw [pm_si_same, pm_si_same]
      · rw [pm_si_ne (by omega), t3]; exact Or.inl d1
      · rw [pm_si_ne (by omega), pm_si_ne (by omega), t3, t4]; exact d2
      · rw [pm_si_ne (by omega), t3]; exact e1
      · rw [pm_si_ne (by omega), t4]; exact e2
      · rw [pm_si_ne (by omega), t3]; exact s3
    · have d2' : ¬ r2.1 7 2 = 0 := by rw [t4, d2, d1]; decide
      have d1' : ¬ c2.1 18 2 = 0 := by rw [t3, d1]; decide
      refine ⟨c2, pm_si r2 7 1 (r2.1 7 1), ?_, ?_, H2.now rfl rfl (fun _ _ _ => rfl) (fun _ _ => rfl) (fun q _ hq => pm_si_row hq) (fun k _ => by rw [pm_si_row (by omega)]) (by rw [pm_si_row (by omega)]; exact H2.2.2.2.2.2.2.2.2.2.2.1) (b22.cg hnp (fun _ _ _ => rfl) (fun k _ => ?_)), ?_⟩
      · simp only [fX11_meetChance, fX11_bendByDraw, A, Option.bind_some, if_neg n20, if_neg n21, if_true, A2, g1'', lgS, pm_let, if_neg d1']
      · simp only [fX12_chance, B, Option.bind_some, if_pos l22, if_true, B2, g3'', lgR, lenR, ib80, cl6, pm_let, if_neg d2']
      · rw [pm_si_1]
        split
        · rename_i hh; rw [hh.2]
        · rfl
      · rw [t3]; exact s3
  by_cases w3 : w = 3
  · subst w3
    rw [e3'] at A B
    obtain ⟨A2, B2⟩ := ev_draw (d := 10) hk1l s1 s2 (by omega)
    have A2 : fX11_draw lw_SC 1 10 c1 = some (nI (pu_dr k1 / 65536 % 10), pm_si c1 1 12 (nI (pu_dr k1))) := A2
    have B2 : fX12_draw lw_SR 1 10 r1 = some (nI (pu_dr k1 / 65536 % 10), pm_si r1 1 12 (nI (pu_dr k1))) := B2
    have H2 := H1.sd (k := pu_dr k1) (pu_dr_lt k1)
    obtain ⟨w', hw'⟩ : ∃ z, pu_dr k1 / 65536 % 10 = z := ⟨_, rfl⟩
    have hwl' : w' < 10 := by omega
    rw [hw'] at A2 B2
    obtain ⟨c2, hc2⟩ : ∃ z, pm_si c1 1 12 (nI (pu_dr k1)) = z := ⟨_, rfl⟩
    obtain ⟨r2, hr2⟩ : ∃ z, pm_si r1 1 12 (nI (pu_dr k1)) = z := ⟨_, rfl⟩
    rw [hc2] at A2 H2
    rw [hr2] at B2 H2
    have t3 : c2.1 18 = c1.1 18 := by rw [← hc2, pm_si_row (by omega)]
    have t4 : r2.1 7 = r1.1 7 := by rw [← hr2, pm_si_row (by omega)]
    obtain ⟨-, g1'', -, g3'', -, -, -, b22, -⟩ := id H2
    have e12 : (12 : Int32) * nI w' = nI (12 * w' + 0) := by rw [show (12 : Int32) = nI 12 from rfl, qn_mul, Nat.add_zero]
    rcases d1 with d1 | d1
    · have d2' : r2.1 7 2 = 0 := by rw [t4, d2, d1]
      have d1' : c2.1 18 2 = 0 := by rw [t3, d1]
      obtain ⟨v, c3, r3, p1, p2, p3, p4, -⟩ := ev_makeB (n := w') (m := 0) H2 (by omega) (by omega)
      refine ⟨c3, r3, ?_, ?_, p3, ?_⟩
      · rw [e0] at p1
        simp only [fX11_meetChance, fX11_produceByDraw, A, Option.bind_some, if_neg n30, if_neg n31, if_neg n32, if_true, A2, g1'', lgS, d1', p1]
      · simp only [fX12_chance, B, Option.bind_some, if_pos l23, if_neg n32, if_true, B2, g3'', lgR, lenR, ib80, cl6, d2', e12, p2]
      · rw [p4, t3]; exact s3
    · have d2' : ¬ r2.1 7 2 = 0 := by rw [t4, d2, d1]; decide
      have d1' : ¬ c2.1 18 2 = 0 := by rw [t3, d1]; decide
      refine ⟨c2, r2, ?_, ?_, H2, ?_⟩
      · simp only [fX11_meetChance, fX11_produceByDraw, A, Option.bind_some, if_neg n30, if_neg n31, if_neg n32, if_true, A2, g1'', lgS, if_neg d1']
      · simp only [fX12_chance, B, Option.bind_some, if_pos l23, if_neg n32, if_true, B2, g3'', lgR, lenR, ib80, cl6, if_neg d2']
      · rw [t3]; exact s3
  have m0 : ¬ nI w = 0 := fun z => by have := (qn_inj (b := 0) (by omega) (by omega)).mp z; omega
  have m1 : ¬ nI w = 1 := fun z => by have := (qn_inj (b := 1) (by omega) (by omega)).mp z; omega
  have m2 : ¬ nI w = 2 := fun z => by have := (qn_inj (b := 2) (by omega) (by omega)).mp z; omega
  have m3 : ¬ nI w = 3 := fun z => by have := (qn_inj (b := 3) (by omega) (by omega)).mp z; omega
  have m4 : (2 : Int32) ≤ nI w := (qn_le_iff (a := 2) (by omega) (by omega)).mpr (by omega)
  refine ⟨c1, r1, ?_, ?_, H1, s3⟩
  · simp only [fX11_meetChance, A, Option.bind_some, if_neg m0, if_neg m1, if_neg m2, if_neg m3]
  · simp only [fX12_chance, B, Option.bind_some, if_pos m4, if_neg m2, if_neg m3]
theorem pu_drift : pu_1 pu_Rel fX11_drift fX12_drift := by
  intro c r h a
  obtain ⟨T, l, lo, np, H⟩ := id h
  rcases ev_yearsNo H a with ⟨v, v0, v1, v2⟩ | ⟨v1, v2, rfl, n, y, rfl, hn1, hn2, hy, ey⟩
  · exact pu_ro h v (by simp [fX11_drift, v1, v0]) (by simp [fX12_drift, v2, v0])
  obtain ⟨c1, r1, q1, q2, H1, q3, q4, q5⟩ := ev_rem H
  have loop : ∀ k i m m' c r, i + k = n → k < m → k < m' → pu_R c r T l 1 np → c.1 18 3 = nI (y + i) → ∃ v c' r', fX11_drift_L25 lw_SC 1 (nI n) (fun s11 => some ((s11.1 (s11.2 (s11.2 1 6) 1) 4), s11)) m (nI i) c = some (v, c') ∧ fX12_drift_L18 lw_SR 1 (nI n) (fun s6 => (if pm_ib (4 : Int32) (pm_len lw_SR (s6.2 1 11)) = true then some ((s6.1 (s6.2 1 11) ((4 : Int32)).toNatClampNeg), s6) else none)) m' (nI i) r = some (v, r') ∧ pu_R c' r' T l 1 np := by
    intro k
    induction k with
    | zero =>
      intro i m m' c r hi hm hm' H e1
      obtain ⟨m, rfl⟩ : ∃ z, m = z + 1 := ⟨m - 1, by omega⟩
      obtain ⟨m', rfl⟩ : ∃ z, m' = z + 1 := ⟨m' - 1, by omega⟩
      have e : nI n ≤ nI i := (qn_le_iff (by omega) (by omega)).mpr (by omega)
      obtain ⟨hT, g1, g2, g3, -, -, -, b2, -⟩ := id H
      obtain ⟨L, y, nt, nh, k0, -, -, -, -, ⟨k1, k2⟩, -⟩ := id b2
      simp only [Nat.reduceAdd] at k1
      refine ⟨nI nt, c, r, ?_, ?_, H⟩
      · simp only [fX11_drift_L25, if_pos e, g1, lgS, k1]
      · simp only [fX12_drift_L18, if_pos e, g3, lgR, lenR, ib80, cl6, if_true, k2]
    | succ k ih =>
      intro i m m' c r hi hm hm' H e1
      obtain ⟨m, rfl⟩ : ∃ z, m = z + 1 := ⟨m - 1, by omega⟩
      obtain ⟨m', rfl⟩ : ∃ z, m' = z + 1 := ⟨m' - 1, by omega⟩
      have e : ¬ nI n ≤ nI i := fun z => by have := (qn_le_iff (by omega) (by omega)).mp z; omega
      obtain ⟨c1, r1, o1, o2, o3, o4⟩ := ev_chance H
      have g1 := o3.2.1
      obtain ⟨c2, r2, p1, p2, p3, p4, p5, -, -⟩ := ev_passB o3 (o4.trans e1) (by omega)
      obtain ⟨v, c', r', u1, u2, u3⟩ := ih (i + 1) m m' c2 r2 (by omega) (by omega) (by omega) p3 p4
      refine ⟨v, c', r', ?_, ?_, u3⟩
      · simp only [fX11_drift_L25, if_neg e, o1, g1, lgS, p1, Option.bind_some, (nL i).2.2.2.2.2.2, u1]
      · simp only [fX12_drift_L18, if_neg e, o2, p2, Option.bind_some, (nL i).2.2.2.2.2.2, u2]
  have g1 := H.2.1
  have ey1 : c1.1 18 3 = nI y := by rw [q3 18 (by omega)]; exact ey
  obtain ⟨v, c', r', u1, u2, u3⟩ := loop n 0 pm_fuel pm_fuel c1 r1 (by omega) (by unfold pm_fuel; omega) (by unfold pm_fuel; omega) H1 ey1
  refine ⟨v, c', r', ?_, ?_, T, l, 1, np, u3⟩
  · simp only [fX11_drift, v1, Option.bind_some, if_true, g1, lgS, q1]
    rw [show (0 : Int32) = nI 0 from rfl, u1]
  · simp only [fX12_drift, v2, Option.bind_some, if_true, q2]
    rw [show (0 : Int32) = nI 0 from rfl, u2]
