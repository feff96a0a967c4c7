/-! numbers -/
def pu_dg (tx : Nat → Int32) : Nat → Nat → Nat
  | 0, i => i
  | k + 1, i => if pu_w (tx i) 48 57 = 0 then i else pu_dg tx k (i + 1)
def pu_vC (tx : Nat → Int32) : Nat → Nat → Int32 → Int32
  | 0, _, v => v
  | k + 1, i, v => if pu_w (tx i) 48 57 = 0 then v else pu_vC tx k (i + 1) (pm_min (v * 10 + tx i - 48) 9999)
def pu_vR (tx : Nat → Int32) : Nat → Nat → Int32 → Int32
  | 0, _, v => v
  | k + 1, i, v => if pu_w (tx i) 48 57 = 0 then v else pu_vR tx k (i + 1) (if v ≤ 10000 then 10 * v + tx i - 48 else v)
theorem pu_dg_in (tx : Nat → Int32) (k : Nat) : ∀ i, i ≤ pu_dg tx k i ∧ pu_dg tx k i ≤ i + k := by
  induction k with
  | zero => intro i; exact ⟨Nat.le_refl _, Nat.le_refl _⟩
  | succ k ih =>
    intro i
    unfold pu_dg
    split
    · exact ⟨Nat.le_refl _, by omega⟩
    · have := ih (i + 1); omega
theorem pu_v_eq (tx : Nat → Int32) (k : Nat) : ∀ i x e, e = pu_dg tx k i - i → e ≤ 3 → x ≤ 999 → (1 ≤ e → x ≤ 99) → (2 ≤ e → x ≤ 9) → (3 ≤ e → x = 0) → pu_vC tx k i (nI x) = pu_vR tx k i (nI x) ∧ ∃ y, y ≤ 999 ∧ pu_vR tx k i (nI x) = nI y := by
  induction k with
  | zero => intro i x e h0 h1 h2 h3 h4 h5; exact ⟨rfl, x, h2, rfl⟩
  | succ k ih =>
    intro i x e h0 h1 h2 h3 h4 h5
    by_cases hd : pu_w (tx i) 48 57 = 0
    · rw [pu_vC, if_pos hd, pu_vR, if_pos hd]
      exact ⟨rfl, x, h2, rfl⟩
    · have hd1 : pu_w (tx i) 48 57 = 1 := by
        rcases pu_w01 (tx i) 48 57 with z | z
        · exact absurd z hd
        · exact z
      have wl := pu_w_lit hd1
      obtain ⟨d, e1, ⟨e2, e3⟩, e4⟩ := qn_of (lo := 48) (hi := 57) (by omega) (by simpa using wl.1) (by simpa using wl.2)
      have hg := pu_dg_in tx k (i + 1)
      rw [pu_dg, if_neg hd] at h0
      have e1' : 1 ≤ e := by omega
      have ex : nI x * 10 + tx i - 48 = nI (10 * x + (d - 48)) := by
        rw [e1, show (10 : Int32) = nI 10 from rfl, show (48 : Int32) = nI 48 from rfl, qn_mul, qn_add, qn_sub (by omega)]
        congr 1
        omega
      have ex2 : 10 * nI x + tx i - 48 = nI (10 * x + (d - 48)) := by
        rw [e1, show (10 : Int32) = nI 10 from rfl, show (48 : Int32) = nI 48 from rfl, qn_mul, qn_add, qn_sub (by omega)]
        congr 1
        omega
      have hx99 := h3 e1'
      have em : pm_min (nI (10 * x + (d - 48))) 9999 = nI (10 * x + (d - 48)) := by
        unfold pm_min
        rw [if_neg]
        intro z
        have := (qn_lt_iff (a := 9999) (by omega) (by omega)).mp z
        omega
      have el : nI x ≤ 10000 := (qn_le_iff (b := 10000) (by omega) (by omega)).mpr (by omega)
      rw [pu_vC, if_neg hd, pu_vR, if_neg hd, if_pos el, ex, ex2, em]
      exact ih (i + 1) (10 * x + (d - 48)) (e - 1) (by omega) (by omega) (by omega) (fun h => by have := h4 (by omega); omega) (fun h => by have := h5 (by omega); omega) (fun h => by omega)
/-- a number's fault, its place j0, its end j, its value by the class v -/
def pu_nk (j0 j : Nat) (v lo hi : Int32) : Nat := if j = j0 then 1 else if 3 < j - j0 then 2 else if pu_w v lo hi = 0 then 2 else 0
theorem ev_digC {T n : Nat} {tx : Nat → Int32} (lo hi : Int32) (kx : Int32 → pm_H → Option (Int32 × pm_H)) : ∀ k i m (c : pm_H) (v : Int32), i + k = n → k < m → pu_TC T n tx c → c.1 3 4 = nI i → ∃ c', fX5_takeNumber_L14 lw_SC 3 lo hi kx m v c = kx (pu_vC tx k i v) c' ∧ pu_cX c c' ∧ c'.1 3 4 = nI (pu_dg tx k i) ∧ ∀ s, s ≠ 4 → c'.1 3 s = c.1 3 s := by
  intro k
  induction k with
  | zero =>
    intro i m c v hi hm ⟨g1, hn, e3, ht⟩ e4
    obtain ⟨m, rfl⟩ : ∃ z, m = z + 1 := ⟨m - 1, by omega⟩
    have hin : i = n := by omega
    subst hin
    exact ⟨c, by rw [fX5_takeNumber_L14, e3, e4, if_pos (Int32.le_refl _)]; rfl, pu_cX.rf c, e4, fun _ _ => rfl⟩
  | succ k ih =>
    intro i m c v hi hm hc e4
    obtain ⟨g1, hn, e3, ht⟩ := id hc
    obtain ⟨m, rfl⟩ : ∃ z, m = z + 1 := ⟨m - 1, by omega⟩
    have e0 : ¬ nI n ≤ nI i := fun z => by have := (qn_le_iff (by omega) (by omega)).mp z; omega
    have i1 : pm_ib (nI i) 240 = true := pm_ib_nI (by omega) (by omega)
    have c1 : (nI i).toNatClampNeg = i := nI_clamp (by omega)
    by_cases h1 : tx i < 48
    · have hw : pu_w (tx i) 48 57 = 0 := if_pos h1
      refine ⟨c, ?_, pu_cX.rf c, by rw [pu_dg, if_pos hw]; exact e4, fun _ _ => rfl⟩
      rw [fX5_takeNumber_L14, pu_vC, if_pos hw]
      simp only [e3, e4, if_neg e0, g1, lgS, lenS, i1, c1, if_true, ht i (by omega), if_pos h1]
    · by_cases h2 : 57 < tx i
      · have hw : pu_w (tx i) 48 57 = 0 := by unfold pu_w; rw [if_neg h1, if_pos h2]
        refine ⟨c, ?_, pu_cX.rf c, by rw [pu_dg, if_pos hw]; exact e4, fun _ _ => rfl⟩
        rw [fX5_takeNumber_L14, pu_vC, if_pos hw]
        simp only [e3, e4, if_neg e0, g1, lgS, lenS, i1, c1, if_true, ht i (by omega), if_neg h1, if_pos h2]
      · have hw : ¬ pu_w (tx i) 48 57 = 0 := by unfold pu_w; rw [if_neg h1, if_neg h2]; decide
        obtain ⟨c', y1, y2, y3, y4⟩ := ih (i + 1) m (pm_si c 3 4 (nI (i + 1))) (pm_min (v * 10 + tx i - 48) 9999) (by omega) (by omega) (hc.cX (pu_cX.si (by omega))) pm_si_same
        refine ⟨c', ?_, (pu_cX.si (by omega)).tr y2, by rw [pu_dg, if_neg hw]; exact y3, fun s hs => by rw [y4 s hs, pm_si_ne (by omega)]⟩
        rw [fX5_takeNumber_L14, pu_vC, if_neg hw, ← y1]
        simp only [e3, e4, if_neg e0, g1, lgS, lenS, i1, c1, if_true, ht i (by omega), if_neg h1, if_neg h2, pm_let, (nL i).2.2.2.2.2.2]
theorem ev_digR {n : Nat} {tx : Nat → Int32} (lo hi : Int32) (kx : pm_H → Option (Int32 × pm_H)) : ∀ k i m (r : pm_H) (v : Int32), i + k = n → k < m → pu_TR n tx r → r.1 1 16 = nI i → r.1 1 17 = v → ∃ r', fX12_takeNumber_L42 lw_SR 1 lo hi kx m r = kx r' ∧ pu_rX r r' ∧ r'.1 1 16 = nI (pu_dg tx k i) ∧ r'.1 1 17 = pu_vR tx k i v ∧ ∀ s, s ≠ 16 → s ≠ 17 → r'.1 1 s = r.1 1 s := by
  intro k
  induction k with
  | zero =>
    intro i m r v hi hm ⟨g1, hn, e3, ht⟩ e4 e17
    obtain ⟨m, rfl⟩ : ∃ z, m = z + 1 := ⟨m - 1, by omega⟩
    have hin : i = n := by omega
    subst hin
    exact ⟨r, by rw [fX12_takeNumber_L42, e3, e4, if_pos (Int32.le_refl _)], pu_rX.rf r, e4, e17, fun _ _ _ => rfl⟩
  | succ k ih =>
    intro i m r v hi hm hr e4 e17
    obtain ⟨g1, hn, e3, ht⟩ := id hr
    obtain ⟨m, rfl⟩ : ∃ z, m = z + 1 := ⟨m - 1, by omega⟩
    have e0 : ¬ nI n ≤ nI i := fun z => by have := (qn_le_iff (by omega) (by omega)).mp z; omega
    have i1 : pm_ib (nI i) 240 = true := pm_ib_nI (by omega) (by omega)
    have c1 : (nI i).toNatClampNeg = i := nI_clamp (by omega)
    have ein : fX12_in lw_SR (tx i).toInt64 (48 : Int64) (57 : Int64) r = some (pu_w (tx i) 48 57, r) := by simp only [evI]
    by_cases hw : pu_w (tx i) 48 57 = 0
    · refine ⟨r, ?_, pu_rX.rf r, by rw [pu_dg, if_pos hw]; exact e4, by rw [pu_vR, if_pos hw]; exact e17, fun _ _ _ => rfl⟩
      rw [fX12_takeNumber_L42]
      simp only [e3, e4, if_neg e0, g1, lgR, lenR, i1, c1, if_true, ht i (by omega), ein, Option.bind_some, if_pos hw]
    · by_cases hv : v ≤ 10000
      · obtain ⟨r', y1, y2, y3, y4, y5⟩ := ih (i + 1) m (pm_si (pm_si r 1 17 (10 * v + tx i - 48)) 1 16 (nI (i + 1))) (10 * v + tx i - 48) (by omega) (by omega) ((hr.rX (pu_rX.si (by omega))).rX (pu_rX.si (by omega))) pm_si_same (by rw [pm_si_ne (by omega), pm_si_same])
        refine ⟨r', ?_, ((pu_rX.si (by omega)).tr (pu_rX.si (by omega))).tr y2, by rw [pu_dg, if_neg hw]; exact y3, by rw [pu_vR, if_neg hw, if_pos hv]; exact y4, fun s h1 h2 => by rw [y5 s h1 h2, pm_si_ne (by omega), pm_si_ne (by omega)]⟩
        rw [fX12_takeNumber_L42, ← y1]
        have e16' : (pm_si r 1 17 (10 * v + tx i - 48)).1 1 16 = nI i := by rw [pm_si_ne (by omega)]; exact e4
        simp only [e3, e4, if_neg e0, g1, lgR, lenR, i1, c1, if_true, ht i (by omega), ein, Option.bind_some, if_neg hw, e17, if_pos hv, pm_let, e16', (nL i).2.2.2.2.2.2]
      · obtain ⟨r', y1, y2, y3, y4, y5⟩ := ih (i + 1) m (pm_si (pm_si r 1 17 v) 1 16 (nI (i + 1))) v (by omega) (by omega) ((hr.rX (pu_rX.si (by omega))).rX (pu_rX.si (by omega))) pm_si_same (by rw [pm_si_ne (by omega), pm_si_same])
        refine ⟨r', ?_, ((pu_rX.si (by omega)).tr (pu_rX.si (by omega))).tr y2, by rw [pu_dg, if_neg hw]; exact y3, by rw [pu_vR, if_neg hw, if_neg hv]; exact y4, fun s h1 h2 => by rw [y5 s h1 h2, pm_si_ne (by omega), pm_si_ne (by omega)]⟩
        rw [fX12_takeNumber_L42, ← y1]
        have e16' : (pm_si r 1 17 v).1 1 16 = nI i := by rw [pm_si_ne (by omega)]; exact e4
        simp only [e3, e4, if_neg e0, g1, lgR, lenR, i1, c1, if_true, ht i (by omega), ein, Option.bind_some, if_neg hw, e17, if_neg hv, pm_let, e16', (nL i).2.2.2.2.2.2]
theorem ev_numC {T n : Nat} {tx : Nat → Int32} {i : Nat} {c : pm_H} (lo hi : Int32) (hc : pu_TC T n tx c) (hi' : i ≤ n) (e4 : c.1 3 4 = nI i) {j0 j : Nat} {v : Int32} (hj0 : j0 = pu_sk tx (n - i) i) (hj : j = pu_dg tx (n - j0) j0) (hv : v = pu_vC tx (n - j0) j0 0) : ∃ c', fX5_takeNumber lw_SC 3 lo hi c = some (v, c') ∧ pu_cX c c' ∧ c'.1 3 4 = nI j ∧ c'.1 3 5 = nI j0 ∧ (¬ c.1 3 0 = 0 → c'.1 3 0 = c.1 3 0 ∧ c'.1 3 1 = c.1 3 1) ∧ (pu_nk j0 j v lo hi = 0 → c'.1 3 0 = c.1 3 0 ∧ c'.1 3 1 = c.1 3 1) ∧ (c.1 3 0 = 0 → ¬ pu_nk j0 j v lo hi = 0 → c'.1 3 0 = nI (pu_nk j0 j v lo hi) ∧ c'.1 3 1 = nI j0) := by
  obtain ⟨c1, y1, y2, y3, y4⟩ := ev_skip hc hi' e4
  obtain ⟨s1, s2, -⟩ := pu_sk_in tx (n - i) i
  rw [← hj0] at y3 s1 s2
  have hn := hc.2.1
  have h5 : (pm_si c1 3 5 (nI j0)).1 3 4 = nI j0 := by rw [pm_si_ne (by omega)]; exact y3
  obtain ⟨c2, z1, z2, z3, z4⟩ := ev_digC lo hi (fun w14 s15 => fX5_takeNumber_J90 lw_SC 3 lo hi w14 s15) (n - j0) j0 pm_fuel (pm_si c1 3 5 (nI j0)) 0 (by omega) (by unfold pm_fuel; omega) ((hc.cX y2).cX (pu_cX.si (by omega))) h5
  rw [← hj] at z3
  rw [← hv] at z1
  have hjj := pu_dg_in tx (n - j0) j0
  rw [← hj] at hjj
  have hX : pu_cX c c2 := (y2.tr (pu_cX.si (by omega))).tr z2
  have w5 : c2.1 3 5 = nI j0 := by rw [z4 5 (by omega), pm_si_same]
  have w0 : c2.1 3 0 = c.1 3 0 := by rw [z4 0 (by omega), pm_si_ne (by omega), y4 0 (by omega)]
  have w1 : c2.1 3 1 = c.1 3 1 := by rw [z4 1 (by omega), pm_si_ne (by omega), y4 1 (by omega)]
  have es : nI j - nI j0 = nI (j - j0) := qn_sub (by omega)
  have st : fX5_takeNumber lw_SC 3 lo hi c = fX5_takeNumber_J90 lw_SC 3 lo hi v c2 := by
    rw [fX5_takeNumber, y1, Option.bind_some, pm_let, y3, z1]
  have fin : ∀ K : Nat, pu_nk j0 j v lo hi = K → K ≠ 0 → fX5_takeNumber_J90 lw_SC 3 lo hi v c2 = Option.bind (fX5_blame lw_SC 3 (nI K) (nI j0) c2) (fun u => some (v, u)) → ∃ c', fX5_takeNumber lw_SC 3 lo hi c = some (v, c') ∧ pu_cX c c' ∧ c'.1 3 4 = nI j ∧ c'.1 3 5 = nI j0 ∧ (¬ c.1 3 0 = 0 → c'.1 3 0 = c.1 3 0 ∧ c'.1 3 1 = c.1 3 1) ∧ (pu_nk j0 j v lo hi = 0 → c'.1 3 0 = c.1 3 0 ∧ c'.1 3 1 = c.1 3 1) ∧ (c.1 3 0 = 0 → ¬ pu_nk j0 j v lo hi = 0 → c'.1 3 0 = nI (pu_nk j0 j v lo hi) ∧ c'.1 3 1 = nI j0) := by
    intro K hK hK0 hb
    obtain ⟨c3, b1, b2, b3, b4, b5⟩ := ev_blame (nI K) (nI j0) c2
    refine ⟨c3, by rw [st, hb, b1, Option.bind_some], hX.tr b2, by rw [b3 4 (by omega)]; exact z3, by rw [b3 5 (by omega)]; exact w5, fun h0 => ?_, fun h0 => absurd (hK.symm.trans h0) hK0, fun h0 _ => ?_⟩
    · rw [b5 (by rw [w0]; exact h0)]; exact ⟨w0, w1⟩
    · rw [hK]; exact b4 (by rw [w0]; exact h0)
  by_cases k1 : j = j0
  · refine fin 1 (by unfold pu_nk; rw [if_pos k1]) (by omega) ?_
    have e0 : nI (j - j0) = 0 := by rw [k1, Nat.sub_self]; rfl
    rw [fX5_takeNumber_J90, z3, w5, es, pm_let, if_pos e0, k1]
    rfl
  · have e0 : ¬ nI (j - j0) = 0 := nI_ne0 (by omega) (by omega)
    by_cases k2 : 3 < j - j0
    · refine fin 2 (by unfold pu_nk; rw [if_neg k1, if_pos k2]) (by omega) ?_
      have e3 : (3 : Int32) < nI (j - j0) := (qn_lt_iff (a := 3) (by omega) (by omega)).mpr k2
      rw [fX5_takeNumber_J90, z3, w5, es, pm_let, if_neg e0, if_pos e3]
      rfl
    · have e3 : ¬ (3 : Int32) < nI (j - j0) := fun z => k2 ((qn_lt_iff (a := 3) (by omega) (by omega)).mp z)
      by_cases k3 : pu_w v lo hi = 0
      · refine fin 2 (by unfold pu_nk; rw [if_neg k1, if_neg k2, if_pos k3]) (by omega) ?_
        rw [fX5_takeNumber_J90, z3, w5, es, pm_let, if_neg e0, if_neg e3, ev_within, Option.bind_some]
        simp only [if_pos k3, w5]
        rfl
      · have hK : pu_nk j0 j v lo hi = 0 := by unfold pu_nk; rw [if_neg k1, if_neg k2, if_neg k3]
        refine ⟨c2, ?_, hX, z3, w5, fun _ => ⟨w0, w1⟩, fun _ => ⟨w0, w1⟩, fun _ h => absurd hK h⟩
        rw [st, fX5_takeNumber_J90, z3, w5, es, pm_let, if_neg e0, if_neg e3, ev_within, Option.bind_some]
        simp only [if_neg k3]
theorem ev_numR {n : Nat} {tx : Nat → Int32} {i : Nat} {r : pm_H} (lo hi : Int32) (hr : pu_TR n tx r) (hi' : i ≤ n) (e4 : r.1 1 16 = nI i) {j0 j : Nat} {v : Int32} (hj0 : j0 = pu_sk tx (n - i) i) (hj : j = pu_dg tx (n - j0) j0) (hv : v = pu_vC tx (n - j0) j0 0) : ∃ r', fX12_takeNumber lw_SR 1 lo hi r = some (nI (pu_nk j0 j v lo hi), r') ∧ pu_rX r r' ∧ (pu_nk j0 j v lo hi = 0 → r'.1 1 16 = nI j ∧ r'.1 1 17 = v ∧ r'.1 1 18 = nI j0 ∧ r'.1 1 15 = r.1 1 15 ∧ i < j ∧ j ≤ n) ∧ (¬ pu_nk j0 j v lo hi = 0 → r'.1 1 15 = nI j0) := by
  obtain ⟨r1, y1, y2, y3, y4⟩ := ev_here hr hi' e4
  obtain ⟨s1, s2, -⟩ := pu_sk_in tx (n - i) i
  rw [← hj0] at y1 y3 s1 s2
  have hn := hr.2.1
  have hjj := pu_dg_in tx (n - j0) j0
  rw [← hj] at hjj
  have n10 : ¬ (1 : Int32) = 0 := by decide
  have ein : fX12_in lw_SR (pu_hd tx n j0).toInt64 (48 : Int64) (57 : Int64) r1 = some (pu_w (pu_hd tx n j0) 48 57, r1) := by simp only [evI]
  have hk1 : pu_w (pu_hd tx n j0) 48 57 = 0 ↔ j = j0 := by
    by_cases hjn : j0 < n
    · obtain ⟨k, hk⟩ : ∃ k, n - j0 = k + 1 := ⟨n - j0 - 1, by omega⟩
      rw [pu_hd, if_pos hjn]
      rw [hk, pu_dg] at hj
      constructor
      · intro h; rw [if_pos h] at hj; exact hj
      · intro h
        by_cases hw : pu_w (tx j0) 48 57 = 0
        · exact hw
        · rw [if_neg hw] at hj
          have := pu_dg_in tx k (j0 + 1)
          omega
    · rw [pu_hd, if_neg hjn]
      exact ⟨fun _ => by omega, fun _ => by decide⟩
  by_cases k1 : j = j0
  · have hK : pu_nk j0 j v lo hi = 1 := by unfold pu_nk; rw [if_pos k1]
    rw [hK]
    refine ⟨pm_si r1 1 15 (nI j0), ?_, y2.tr (pu_rX.si (by omega)), fun h => by omega, fun _ => pm_si_same⟩
    rw [fX12_takeNumber, y1, Option.bind_some]
    simp only [ein, Option.bind_some, if_pos (hk1.mpr k1), y3, fX12_fails, pm_let]
    rfl
  · have hw : ¬ pu_w (pu_hd tx n j0) 48 57 = 0 := fun z => k1 (hk1.mp z)
    obtain ⟨r2, z1, z2, z3, z4, z5⟩ := ev_digR lo hi (fun s17 => fX12_takeNumber_J129 lw_SR 1 lo hi s17) (n - j0) j0 pm_fuel (pm_si (pm_si r1 1 18 (nI j0)) 1 17 0) 0 (by omega) (by unfold pm_fuel; omega) (((hr.rX y2).rX (pu_rX.si (by omega))).rX (pu_rX.si (by omega))) (by rw [pm_si_ne (by omega), pm_si_ne (by omega)]; exact y3) pm_si_same
    rw [← hj] at z3
    have hX : pu_rX r r2 := ((y2.tr (pu_rX.si (by omega))).tr (pu_rX.si (by omega))).tr z2
    have w18 : r2.1 1 18 = nI j0 := by rw [z5 18 (by omega) (by omega), pm_si_ne (by omega), pm_si_same]
    have w15 : r2.1 1 15 = r.1 1 15 := by rw [z5 15 (by omega) (by omega), pm_si_ne (by omega), pm_si_ne (by omega), y4 15 (by omega)]
    have es : nI j - nI j0 = nI (j - j0) := qn_sub (by omega)
    have st : fX12_takeNumber lw_SR 1 lo hi r = fX12_takeNumber_J129 lw_SR 1 lo hi r2 := by
      rw [fX12_takeNumber, y1, Option.bind_some]
      simp only [ein, Option.bind_some, if_neg hw, y3, pm_let]
      exact z1
    by_cases k2 : 3 < j - j0
    · have hK : pu_nk j0 j v lo hi = 2 := by unfold pu_nk; rw [if_neg k1, if_pos k2]
      rw [hK]
      have e3 : (3 : Int32) < nI (j - j0) := (qn_lt_iff (a := 3) (by omega) (by omega)).mpr k2
      refine ⟨pm_si r2 1 15 (nI j0), ?_, hX.tr (pu_rX.si (by omega)), fun h => by omega, fun _ => pm_si_same⟩
      rw [st, fX12_takeNumber_J129, z3, w18, es, if_pos e3]
      rfl
    · have e3 : ¬ (3 : Int32) < nI (j - j0) := fun z => k2 ((qn_lt_iff (a := 3) (by omega) (by omega)).mp z)
      have hvv : pu_vR tx (n - j0) j0 0 = v := by
        have := (pu_v_eq tx (n - j0) j0 0 (j - j0) (by rw [hj]) (by omega) (by omega) (fun _ => by omega) (fun _ => by omega) (fun _ => rfl)).1
        rw [hv]
        exact this.symm
      have w17 : r2.1 1 17 = v := z4.trans hvv
      by_cases k3 : pu_w v lo hi = 0
      · have hK : pu_nk j0 j v lo hi = 2 := by unfold pu_nk; rw [if_neg k1, if_neg k2, if_pos k3]
        rw [hK]
        refine ⟨pm_si r2 1 15 (nI j0), ?_, hX.tr (pu_rX.si (by omega)), fun h => by omega, fun _ => pm_si_same⟩
        rw [st, fX12_takeNumber_J129, z3, w18, es, if_neg e3, w17, ev_in, Option.bind_some]
        simp only [if_pos k3, w18, fX12_fails, pm_let]
        rfl
      · have hK : pu_nk j0 j v lo hi = 0 := by unfold pu_nk; rw [if_neg k1, if_neg k2, if_neg k3]
        rw [hK]
        refine ⟨r2, ?_, hX, fun _ => ⟨z3, w17, w18, w15, by omega, by omega⟩, fun h => absurd rfl h⟩
        rw [st, fX12_takeNumber_J129, z3, w18, es, if_neg e3, w17, ev_in, Option.bind_some]
        simp only [if_neg k3]
        rfl
