def pu_A (f x : Nat → Nat) (n k : Nat) : Int32 := if pu_fs f x n k = 0 then -1 else nI (pu_fs f x n k)
def pu_B (f x : Nat → Nat) (n k : Nat) : Int32 := if pu_fs f x n k = 0 then -1 else pu_lo f x (pu_fs f x n k) n + 1000
theorem ev_rodsR {f x : Nat → Nat} {n : Nat} {r : pm_H} (a1 : Int32) (hn : n ≤ 6) (hb : ∀ j, j < n → f j ≤ 9 ∧ x j ≤ 9999) (hr : pu_SR f x n r) : ∀ kx, fX12_rods_L25 lw_SR 1 a1 kx pm_fuel 0 (-1) (-1) 1 r = kx (nI (pu_tot f x n 240)) (pu_A f x n 240) (pu_B f x n 240) r := by
  have t := qn_t
  have n1 : ¬ (1 : Int32) = 0 := by decide
  have inner : ∀ l, 1 ≤ l → l ≤ 240 → ∀ (M : Nat) (A B : Int32), M ≤ 4560 → ∀ (k m : Nat) (v : Int32) (g : Nat), v.toInt + (k : Int) = 10 → -9 ≤ v.toInt → k < m → ((v.toInt ≤ (pu_lo f x l n).toInt ∨ (pu_hi f x l n).toInt < (pu_lo f x l n).toInt) → g = 0) → ((pu_lo f x l n).toInt < v.toInt → (pu_lo f x l n).toInt ≤ (pu_hi f x l n).toInt → (g : Int) = min (v.toInt - 1) (pu_hi f x l n).toInt - (pu_lo f x l n).toInt + 1) → ∀ kx, fX12_rods_L37 lw_SR 1 a1 (nI l) kx m (nI (M + g)) (if M = 0 ∧ g ≠ 0 then nI l else A) (if M = 0 ∧ g ≠ 0 then pu_lo f x l n + 1000 else B) v r = kx (nI (M + pu_ct f x n l)) (if M = 0 ∧ pu_ct f x n l ≠ 0 then nI l else A) (if M = 0 ∧ pu_ct f x n l ≠ 0 then pu_lo f x l n + 1000 else B) r := by
    intro l hl1 hl2 M A B hM k
    obtain ⟨p1, p2, -⟩ := pu_lohi (n := n) hl2 hb
    have hct : (pu_ct f x n l : Int) = max 0 ((pu_hi f x l n).toInt - (pu_lo f x l n).toInt + 1) := by unfold pu_ct; omega
    induction k with
    | zero =>
      intro m v g hv h1 hm i1 i2 kx
      obtain ⟨m, rfl⟩ : ∃ z, m = z + 1 := ⟨m - 1, by omega⟩
      have e : (9 : Int32) < v := Int32.lt_iff_toInt_lt.mpr (by omega)
      have hg : g = pu_ct f x n l := by
        rcases Int.lt_or_le (pu_hi f x l n).toInt (pu_lo f x l n).toInt with q | q
        · have := i1 (Or.inr q); omega
        · have := i2 (by omega) q; omega
      rw [fX12_rods_L37, if_pos e, hg]
    | succ k ih =>
      intro m v g hv h1 hm i1 i2 kx
      obtain ⟨m, rfl⟩ : ∃ z, m = z + 1 := ⟨m - 1, by omega⟩
      have e : ¬ (9 : Int32) < v := fun z => by have := Int32.lt_iff_toInt_lt.mp z; omega
      have hinc : (v + 1).toInt = v.toInt + 1 := qn_addI (by omega) (by omega)
      have CB := ev_couldBe (l := l) (v := v) hn hb hr hl2 h1 (by omega)
      by_cases hin : (pu_lo f x l n).toInt ≤ v.toInt ∧ v.toInt ≤ (pu_hi f x l n).toInt
      · rw [if_pos hin] at CB
        have hgb : g ≤ 19 := by
          rcases Int.lt_or_le (pu_lo f x l n).toInt v.toInt with q | q
          · have := i2 q (by omega); omega
          · have := i1 (Or.inl q); omega
        have u := ih m (v + 1) (g + 1) (by omega) (by omega) (by omega) (fun z => by omega) (fun z z' => by
          rcases Int.lt_or_le (pu_lo f x l n).toInt v.toInt with q | q
          · have := i2 q (by omega); omega
          · have := i1 (Or.inl q); omega) kx
        rw [← u, fX12_rods_L37, if_neg e]
        simp only [CB, Option.bind_some, if_neg n1, fX12_rods_J65]
        by_cases h0 : M + g = 0
        · have hM0 : M = 0 := by omega
          have hg0 : g = 0 := by omega
          have hlo' : v = pu_lo f x l n := by
            apply Int32.toInt_inj.mp
            rcases Int.lt_or_le (pu_lo f x l n).toInt v.toInt with q | q
            · have := i2 q (by omega); omega
            · omega
          subst hM0 hg0
          have e0 : nI (0 + 0) = 0 := rfl
          rw [if_pos e0, if_pos e0, if_pos (show (0 : Nat) = 0 ∧ 0 + 1 ≠ 0 by omega), if_pos (show (0 : Nat) = 0 ∧ 0 + 1 ≠ 0 by omega), ← hlo']
          rfl
        · have e0 : ¬ nI (M + g) = 0 := nI_ne0 (by omega) (by omega)
          rw [if_neg e0, if_neg e0, (nL (M + g)).2.2.2.2.2.2, Nat.add_assoc]
          by_cases hM0 : M = 0
          · rw [if_pos (show M = 0 ∧ g ≠ 0 by omega), if_pos (show M = 0 ∧ g ≠ 0 by omega), if_pos (show M = 0 ∧ g + 1 ≠ 0 by omega), if_pos (show M = 0 ∧ g + 1 ≠ 0 by omega)]
          · rw [if_neg (show ¬ (M = 0 ∧ g ≠ 0) by omega), if_neg (show ¬ (M = 0 ∧ g ≠ 0) by omega), if_neg (show ¬ (M = 0 ∧ g + 1 ≠ 0) by omega), if_neg (show ¬ (M = 0 ∧ g + 1 ≠ 0) by omega)]
      · rw [if_neg hin] at CB
        have u := ih m (v + 1) g (by omega) (by omega) (by omega) (fun z => i1 (by omega)) (fun z z' => by have := i2 (by omega) z'; omega) kx
        rw [← u, fX12_rods_L37, if_neg e]
        simp only [CB, Option.bind_some, if_true]
  have outer : ∀ k l m, l + k = 241 → 1 ≤ l → k < m → ∀ kx, fX12_rods_L25 lw_SR 1 a1 kx m (nI (pu_tot f x n (l - 1))) (pu_A f x n (l - 1)) (pu_B f x n (l - 1)) (nI l) r = kx (nI (pu_tot f x n 240)) (pu_A f x n 240) (pu_B f x n 240) r := by
    intro k
    induction k with
    | zero =>
      intro l m hl h1 hm kx
      obtain ⟨m, rfl⟩ : ∃ z, m = z + 1 := ⟨m - 1, by omega⟩
      have hll : l = 241 := by omega
      subst hll
      have e : (240 : Int32) < nI 241 := by decide
      rw [fX12_rods_L25, if_pos e]
    | succ k ih =>
      intro l m hl h1 hm kx
      obtain ⟨m, rfl⟩ : ∃ z, m = z + 1 := ⟨m - 1, by omega⟩
      have e : ¬ (240 : Int32) < nI l := fun z => by have := (qn_lt_iff (a := 240) (by omega) (by omega)).mp z; omega
      obtain ⟨l', rfl⟩ : ∃ z, l = z + 1 := ⟨l - 1, by omega⟩
      simp only [Nat.add_sub_cancel]
      obtain ⟨p1, p2, -⟩ := pu_lohi (n := n) (show l' + 1 ≤ 240 by omega) hb
      have ht := pu_tot_le hb l' (by omega)
      have u := inner (l' + 1) (by omega) (by omega) (pu_tot f x n l') (pu_A f x n l') (pu_B f x n l') (by omega) 19 pm_fuel (-9) 0 (by omega) (by omega) (by unfold pm_fuel; omega) (fun _ => rfl) (fun z => by omega)
      simp only [Nat.add_zero, ne_eq, not_true, and_false, if_false] at u
      have w := ih (l' + 1 + 1) m (by omega) (by omega) (by omega) kx
      simp only [Nat.add_sub_cancel] at w
      have hft := pu_fs_tot f x n l'
      have hA : pu_A f x n (l' + 1) = if pu_tot f x n l' = 0 ∧ ¬ pu_ct f x n (l' + 1) = 0 then nI (l' + 1) else pu_A f x n l' := by
        unfold pu_A
        rw [pu_fs]
        by_cases q : pu_fs f x n l' = 0
        · have := hft.mp q
          by_cases q2 : pu_ct f x n (l' + 1) = 0
          · simp [q, q2]
          · simp [q, q2, this]
        · have : ¬ pu_tot f x n l' = 0 := fun z => q (hft.mpr z)
          simp [q, this]
      have hB : pu_B f x n (l' + 1) = if pu_tot f x n l' = 0 ∧ ¬ pu_ct f x n (l' + 1) = 0 then pu_lo f x (l' + 1) n + 1000 else pu_B f x n l' := by
        unfold pu_B
        rw [pu_fs]
        by_cases q : pu_fs f x n l' = 0
        · have := hft.mp q
          by_cases q2 : pu_ct f x n (l' + 1) = 0
          · simp [q, q2]
          · simp [q, q2, this]
        · have : ¬ pu_tot f x n l' = 0 := fun z => q (hft.mpr z)
          simp [q, this]
      rw [fX12_rods_L25, if_neg e, u, ← hA, ← hB, ← w, (nL (l' + 1)).2.2.2.2.2.2]
      rfl
  exact outer 240 1 pm_fuel (by omega) (by omega) (by unfold pm_fuel; omega)
theorem ev_least {f x : Nat → Nat} {n T l0 : Nat} {c : pm_H} (hn : n ≤ 6) (hb : ∀ j, j < n → f j ≤ 9 ∧ x j ≤ 9999) (g1 : c.2 = lgC T l0) (hc : ∀ l, 1 ≤ l → l ≤ 240 → c.1 223 l = pu_lo f x l n ∧ c.1 224 l = pu_hi f x l n) : fX7_leastLength lw_SC 220 c = some (pu_A f x n 240, c) := by
  have loop : ∀ k l m, l + k = 241 → 1 ≤ l → k < m → pu_fs f x n (l - 1) = 0 → fX7_leastLength_L2 lw_SC 220 (fun s7 => some ((-1 : Int32), s7)) m (nI l) c = some (pu_A f x n 240, c) := by
    intro k
    induction k with
    | zero =>
      intro l m hl h1 hm h0
      obtain ⟨m, rfl⟩ : ∃ z, m = z + 1 := ⟨m - 1, by omega⟩
      have hll : l = 241 := by omega
      subst hll
      have e : (240 : Int32) < nI 241 := by decide
      have h0 : pu_fs f x n 240 = 0 := h0
      rw [fX7_leastLength_L2, if_pos e, pu_A, if_pos h0]
    | succ k ih =>
      intro l m hl h1 hm h0
      obtain ⟨m, rfl⟩ : ∃ z, m = z + 1 := ⟨m - 1, by omega⟩
      have e : ¬ (240 : Int32) < nI l := fun z => by have := (qn_lt_iff (a := 240) (by omega) (by omega)).mp z; omega
      obtain ⟨l', rfl⟩ : ∃ z, l = z + 1 := ⟨l - 1, by omega⟩
      simp only [Nat.add_sub_cancel] at h0
      have b2 : pm_ib (nI (l' + 1)) 241 = true := pm_ib_nI (by omega) (by omega)
      have c2 : (nI (l' + 1)).toNatClampNeg = l' + 1 := nI_clamp (by omega)
      obtain ⟨q1, q2⟩ := hc (l' + 1) (by omega) (by omega)
      by_cases hlt : pu_hi f x (l' + 1) n < pu_lo f x (l' + 1) n
      · have := Int32.lt_iff_toInt_lt.mp hlt
        have hct : pu_ct f x n (l' + 1) = 0 := by unfold pu_ct; omega
        have u := ih (l' + 1 + 1) m (by omega) (by omega) (by omega) (by
          show pu_fs f x n (l' + 1) = 0
          rw [pu_fs, if_pos h0, if_pos hct])
        rw [fX7_leastLength_L2, if_neg e]
        simp only [g1, lgS, lenS, b2, c2, if_true, q1, q2, if_pos hlt, (nL (l' + 1)).2.2.2.2.2.2, u]
      · have hle : ¬ (pu_hi f x (l' + 1) n).toInt < (pu_lo f x (l' + 1) n).toInt := fun z => hlt (Int32.lt_iff_toInt_lt.mpr z)
        have hct : pu_ct f x n (l' + 1) ≠ 0 := by unfold pu_ct; omega
        have hfs : pu_fs f x n (l' + 1) = l' + 1 := by rw [pu_fs, if_pos h0, if_neg hct]
        have h240 : pu_fs f x n 240 = l' + 1 := by
          have := pu_fs_stay (f := f) (x := x) (n := n) (k := l' + 1) (by omega) (240 - (l' + 1))
          rw [show l' + 1 + (240 - (l' + 1)) = 240 by omega] at this
          rw [this, hfs]
        rw [fX7_leastLength_L2, if_neg e]
        simp only [g1, lgS, lenS, b2, c2, if_true, q1, q2, if_neg hlt, pu_A, h240, if_neg (show ¬ l' + 1 = 0 by omega)]
  exact loop 240 1 pm_fuel (by omega) (by omega) (by unfold pm_fuel; omega) rfl
theorem pu_Sight.get {c r : pm_H} {T l lo np : Nat} (H : pu_R c r T l lo np) : ∃ (f x : Nat → Nat) (n : Nat), n ≤ 6 ∧ (∀ j, j < n → f j ≤ 9 ∧ x j ≤ 9999) ∧ pu_SC f x n T l c ∧ pu_SR f x n r := by
  obtain ⟨hT, g1, g2, g3, -, -, -, -, -, -, -, ⟨n, h1, h2, h3, h4⟩, -⟩ := id H
  refine ⟨fun j => (c.1 221 j).toNatClampNeg, fun j => (c.1 222 j).toNatClampNeg, n, h1, fun j hj => ?_, ⟨g1, h2, fun j hj => ?_⟩, g3, h3, fun j hj => ?_⟩
  · obtain ⟨a1, a2, a3, a4, a5, a6⟩ := h4 j hj
    obtain ⟨u, e1, e2, e3⟩ := qn_of (by omega) a3 a4
    obtain ⟨w, e4, e5, e6⟩ := qn_of (by omega) a5 a6
    show (c.1 221 j).toNatClampNeg ≤ 9 ∧ (c.1 222 j).toNatClampNeg ≤ 9999
    rw [e1, e4, nI_clamp (by omega), nI_clamp (by omega)]
    omega
  · obtain ⟨a1, a2, a3, a4, a5, a6⟩ := h4 j hj
    obtain ⟨u, e1, e2, e3⟩ := qn_of (by omega) a3 a4
    obtain ⟨w, e4, e5, e6⟩ := qn_of (by omega) a5 a6
    show c.1 221 j = nI (c.1 221 j).toNatClampNeg ∧ c.1 222 j = nI (c.1 222 j).toNatClampNeg
    rw [e1, e4, nI_clamp (by omega), nI_clamp (by omega)]
    exact ⟨rfl, rfl⟩
  · obtain ⟨a1, a2, a3, a4, a5, a6⟩ := h4 j hj
    obtain ⟨u, e1, e2, e3⟩ := qn_of (by omega) a3 a4
    obtain ⟨w, e4, e5, e6⟩ := qn_of (by omega) a5 a6
    show r.1 17 j = nI (c.1 221 j).toNatClampNeg ∧ r.1 18 j = nI (c.1 222 j).toNatClampNeg
    rw [a1, a2, e1, e4, nI_clamp (by omega), nI_clamp (by omega)]
    exact ⟨rfl, rfl⟩
theorem pu_rods : pu_1 pu_Rel fX11_rods fX12_rods := by
  intro c r h a
  obtain ⟨T, l, lo, np, H⟩ := id h
  obtain ⟨hT, g1, g2, g3, -⟩ := id H
  rcases pu_w01 a 0 2 with hw | hw
  · exact pu_ro h (-1000000002) (by simp [fX11_rods, ev_within, hw]) (by simp [fX12_rods, evI, hw])
  obtain ⟨f, x, n, hn, hb, hC, hR⟩ := pu_Sight.get H
  obtain ⟨c', q1, q2, q3, q4⟩ := ev_gather hn hb hC
  have g1' : c'.2 = lgC T l := q2.trans g1
  have LL := ev_least hn hb g1' q4
  have RR := ev_rodsR a hn hb hR
  have n1 : ¬ (1 : Int32) = 0 := by decide
  have hle := pu_fs_le f x n 240
  have qA : ∃ A B tt : Int32, pu_A f x n 240 = A ∧ pu_B f x n 240 = B ∧ nI (pu_tot f x n 240) = tt ∧ ((A = -1 ∧ B = -1) ∨ ∃ F : Nat, 1 ≤ F ∧ F ≤ 240 ∧ A = nI F ∧ B = pu_lo f x F n + 1000) := by
    refine ⟨_, _, _, rfl, rfl, rfl, ?_⟩
    by_cases hf : pu_fs f x n 240 = 0
    · exact Or.inl ⟨by rw [pu_A, if_pos hf], by rw [pu_B, if_pos hf]⟩
    · exact Or.inr ⟨pu_fs f x n 240, by omega, hle, by rw [pu_A, if_neg hf], by rw [pu_B, if_neg hf]⟩
  obtain ⟨A, B, tt, hA, hB, htt, hAB⟩ := qA
  rw [hA] at LL
  rw [htt] at q1
  simp only [hA, hB, htt] at RR
  refine ⟨if a = 0 then tt else if a = 1 then A else B, c', r, ?_, ?_, T, l, lo, np, H.scr q2 rfl (fun q hq => q3 q (by omega) (by omega)) (fun _ _ _ _ => rfl)⟩
  · simp only [fX11_rods, ev_within, hw, Option.bind_some, if_neg n1, g1, lgS, q1, g1', LL, lenS]
    by_cases h0 : a = 0
    · rw [if_pos h0, if_pos h0]
    · rw [if_neg h0, if_neg h0]
      rcases hAB with ⟨rfl, rfl⟩ | ⟨F, hF1, hF2, rfl, rfl⟩
      · rw [if_pos rfl]
        by_cases h1 : a = 1
        · rw [if_pos h1]
        · rw [if_neg h1]
      · have e := qn_nem1 (j := F) (by omega)
        have b2 : pm_ib (nI F) 241 = true := pm_ib_nI (by omega) (by omega)
        have c2 : (nI F).toNatClampNeg = F := nI_clamp (by omega)
        rw [if_neg e, if_pos b2, c2, (q4 _ hF1 hF2).1]
        by_cases h1 : a = 1
        · rw [if_pos h1, if_pos h1]
        · rw [if_neg h1, if_neg h1]
  · have E : fX12_rods lw_SR 1 a r = fX12_rods_L25 lw_SR 1 a (fun w13 w14 w15 s16 => (if a = 0 then some (w13, s16) else (if a = (1 : Int32) then some (w14, s16) else some (w15, s16)))) pm_fuel (0 : Int32) (-1 : Int32) (-1 : Int32) (1 : Int32) r := by
      have B : fX12_in lw_SR a.toInt64 (0 : Int64) (2 : Int64) r = some (1, r) := by simp only [evI, hw]
      rw [fX12_rods, B, Option.bind_some, if_neg n1]
    rw [E, RR]
    by_cases h0 : a = 0
    · rw [if_pos h0, if_pos h0]
    · rw [if_neg h0, if_neg h0]
      by_cases h1 : a = 1
      · rw [if_pos h1, if_pos h1]
      · rw [if_neg h1, if_neg h1]
