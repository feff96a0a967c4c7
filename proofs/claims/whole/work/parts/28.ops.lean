/-- what changes the standing now, and the seed, alone -/
theorem pu_R.now {c r c' r' : pm_H} {T l lo np : Nat} (H : pu_R c r T l lo np) (g1 : c'.2 = c.2) (g2 : r'.2 = r.2) (hc : ∀ q, q ≠ 1 → ¬ (17 < q ∧ q ≤ 26) → c'.1 q = c.1 q) (hc1 : ∀ k, k ≠ 12 → c'.1 1 k = c.1 1 k) (hr : ∀ q, q ≠ 1 → q ≠ 7 → r'.1 q = r.1 q) (hr1 : ∀ k, k ≠ 12 → r'.1 1 k = r.1 1 k) (hs : r'.1 1 12 = c'.1 1 12 ∧ 0 ≤ (c'.1 1 12).toInt) (hst : pu_St c'.1 17 (r'.1 7) lo np) : pu_R c' r' T l lo np := by
  obtain ⟨hT, a1, a2, a3, ht, hf, b1, b2, b3, b4, -, hsi, hb⟩ := H
  have hnp := b1.np
  exact ⟨hT, g1.trans a1, a2, g2.trans a3, ht.cg (hc 2 (by omega) (by omega)) (hc1 1 (by omega)) (hr 8 (by omega) (by omega)) (hr1 14 (by omega)), by rw [hr1 15 (by omega), hc1 2 (by omega)]; exact hf, b1.cg hT (fun q _ _ => hc q (by omega) (by omega)) (fun q _ _ => hr q (by omega) (by omega)) (fun k _ => hr1 k (by omega)), hst, b3.cg hnp (fun q _ _ => hc q (by omega) (by omega)) (hr 14 (by omega) (by omega)) (hr1 30 (by omega)), b4.cg hnp (fun q _ _ => hc q (by omega) (by omega)) (hr 22 (by omega) (by omega)) (hr 23 (by omega) (by omega)), hs, hsi.cg (fun q _ _ => hc q (by omega) (by omega)) (fun q _ _ => hr q (by omega) (by omega)) (hr1 34 (by omega)), hb.cg (fun q _ _ => hc q (by omega) (by omega)) (fun q _ _ => hr q (by omega) (by omega)) (hr1 38 (by omega))⟩
theorem pu_R.np {c r : pm_H} {T l lo np : Nat} (H : pu_R c r T l lo np) : np ≤ 6 := H.2.2.2.2.2.2.1.np
theorem pu_St.rod {h h' : Nat → Nat → Int32} {b lo np : Nat} {f f' : Nat → Int32} (H : pu_St h b f lo np) (hnp : np ≤ 6) (hh : ∀ o, 2 ≤ o → o ≤ 9 → h' (b + o) = h (b + o)) (hf : ∀ k, 4 ≤ k → k < 80 → f' k = f k) (L y : Nat) (hL : lo ≤ L ∧ L ≤ 240 ∧ y ≤ 9060) (r0 : h' (b + 1) 0 = nI L ∧ f' 0 = nI L) (r1 : -99 ≤ (h' (b + 1) 1).toInt ∧ (h' (b + 1) 1).toInt ≤ 99 ∧ f' 1 = h' (b + 1) 1) (r2 : (h' (b + 1) 2 = 0 ∨ h' (b + 1) 2 = 1) ∧ f' 2 = h' (b + 1) 2) (r3 : h' (b + 1) 3 = nI y ∧ f' 3 = nI y) : pu_St h' b f' lo np := by
  obtain ⟨L0, y0, nt, nh, k0, -, -, -, -, ⟨f1, f2⟩, ⟨i1, i2⟩, t1, t2, t3⟩ := H
  refine ⟨L, y, nt, nh, by omega, r0, r1, r2, r3, ⟨?_, ?_⟩, ⟨?_, ?_⟩, fun i hi => ?_, fun i hi => ?_, fun p hp => ?_⟩
  · rw [hh 2 (by omega) (by omega)]; exact f1
  · rw [hf _ (by omega) (by omega)]; exact f2
  · rw [hh 7 (by omega) (by omega)]; exact i1
  · rw [hf _ (by omega) (by omega)]; exact i2
  · obtain ⟨fe, tw, yy, h1, ⟨u1, u2, u3⟩, ⟨v1, v2, v3⟩, x1, x2⟩ := t1 i hi
    refine ⟨fe, tw, yy, h1, ⟨?_, ?_, ?_⟩, ⟨?_, ?_, ?_⟩, ?_, ?_⟩
    · rw [hh 4 (by omega) (by omega)]; exact u1
    · rw [hh 5 (by omega) (by omega)]; exact u2
    · rw [hf _ (by omega) (by omega)]; exact u3
    · rw [hh 3 (by omega) (by omega), hf _ (by omega) (by omega)]; exact v1
    · rw [hh 3 (by omega) (by omega)]; exact v2
    · rw [hh 3 (by omega) (by omega)]; exact v3
    · rw [hh 6 (by omega) (by omega)]; exact x1
    · rw [hf _ (by omega) (by omega)]; exact x2
  · rw [hh 8 (by omega) (by omega), hf _ (by omega) (by omega)]; exact t2 i hi
  · rw [hh 9 (by omega) (by omega), hf _ (by omega) (by omega)]; exact t3 p hp
theorem pu_St.hands {h h' : Nat → Nat → Int32} {b lo np : Nat} {f f' : Nat → Int32} (H : pu_St h b f lo np) (hnp : np ≤ 6) (hh : ∀ o, 1 ≤ o → o ≤ 9 → o ≠ 7 → o ≠ 8 → h' (b + o) = h (b + o)) (hf : ∀ k, k ≠ 5 → k < 66 ∨ 74 ≤ k → k < 80 → f' k = f k) (nh : Nat) (hn : nh ≤ 8) (r7 : h' (b + 7) 1 = nI nh ∧ f' 5 = nI nh) (r8 : ∀ i, i < nh → f' (66 + i) = h' (b + 8) i ∧ 0 ≤ (h' (b + 8) i).toInt ∧ (h' (b + 8) i).toInt ≤ 260) : pu_St h' b f' lo np := by
  obtain ⟨L, y, nt, nh0, k0, ⟨a1, a2⟩, ⟨b1, b2, b3⟩, ⟨d1, d2⟩, ⟨e1, e2⟩, ⟨f1, f2⟩, -, t1, t2, t3⟩ := H
  have w1 := hh 1 (by omega) (by omega) (by omega) (by omega)
  refine ⟨L, y, nt, nh, by omega, ⟨by rw [w1]; exact a1, by rw [hf _ (by omega) (by omega) (by omega)]; exact a2⟩, ⟨by rw [w1]; exact b1, by rw [w1]; exact b2, by rw [w1, hf _ (by omega) (by omega) (by omega)]; exact b3⟩, ⟨by rw [w1]; exact d1, by rw [w1, hf _ (by omega) (by omega) (by omega)]; exact d2⟩, ⟨by rw [w1]; exact e1, by rw [hf _ (by omega) (by omega) (by omega)]; exact e2⟩, ⟨?_, ?_⟩, r7, fun i hi => ?_, r8, fun p hp => ?_⟩
  · rw [hh 2 (by omega) (by omega) (by omega) (by omega)]; exact f1
  · rw [hf _ (by omega) (by omega) (by omega)]; exact f2
  · obtain ⟨fe, tw, yy, h1, ⟨u1, u2, u3⟩, ⟨v1, v2, v3⟩, x1, x2⟩ := t1 i hi
    refine ⟨fe, tw, yy, h1, ⟨?_, ?_, ?_⟩, ⟨?_, ?_, ?_⟩, ?_, ?_⟩
    · rw [hh 4 (by omega) (by omega) (by omega) (by omega)]; exact u1
    · rw [hh 5 (by omega) (by omega) (by omega) (by omega)]; exact u2
    · rw [hf _ (by omega) (by omega) (by omega)]; exact u3
    · rw [hh 3 (by omega) (by omega) (by omega) (by omega), hf _ (by omega) (by omega) (by omega)]; exact v1
    · rw [hh 3 (by omega) (by omega) (by omega) (by omega)]; exact v2
    · rw [hh 3 (by omega) (by omega) (by omega) (by omega)]; exact v3
    · rw [hh 6 (by omega) (by omega) (by omega) (by omega)]; exact x1
    · rw [hf _ (by omega) (by omega) (by omega)]; exact x2
  · rw [hh 9 (by omega) (by omega) (by omega) (by omega), hf _ (by omega) (by omega) (by omega)]; exact t3 p hp
/-- the same, by one slot on each side -/
theorem pu_R.now1 {c r : pm_H} {T l lo np q k k' : Nat} {x x' : Int32} (H : pu_R c r T l lo np) (hq : 17 < q ∧ q ≤ 26) (hst : pu_St (pm_si c q k x).1 17 ((pm_si r 7 k' x').1 7) lo np) : pu_R (pm_si c q k x) (pm_si r 7 k' x') T l lo np := by
  obtain ⟨-, -, -, -, -, -, -, -, -, -, hs, -⟩ := id H
  exact H.now rfl rfl (fun a _ ha => pm_si_row (by omega)) (fun a _ => pm_si_ne (by omega)) (fun a _ ha => pm_si_row ha) (fun a _ => pm_si_ne (by omega)) (by rw [pm_si_ne (by omega), pm_si_ne (by omega)]; exact hs) hst
theorem ev_canUse {c r : pm_H} {T l lo np : Nat} (H : pu_R c r T l lo np) : fX11_noRodAtHand lw_SC 1 c = some (if lo = 0 then 1 else if c.1 18 2 = 0 then 0 else 1, c) ∧ fX12_canUse lw_SR 1 r = some (if lo = 0 then 0 else if c.1 18 2 = 0 then 1 else 0, r) := by
  obtain ⟨n1, n2⟩ := ev_noRealm H
  obtain ⟨hT, a1, a2, a3, ht, hf, hL, hst, -⟩ := H
  obtain ⟨L, y, nt, nh, k0, k1, k2, ⟨k3, k4⟩, -⟩ := hst
  simp only [Nat.reduceAdd] at k3 k4
  by_cases hlo : lo = 0
  · exact ⟨by simp [fX11_noRodAtHand, n1, hlo], by simp [fX12_canUse, n2, hlo]⟩
  · by_cases hz : c.1 18 2 = 0
    · exact ⟨by simp [fX11_noRodAtHand, n1, hlo, a1, lgS, hz], by simp [fX12_canUse, n2, hlo, a3, lgR, lenR, ib80, cl6, k4, hz]⟩
    · exact ⟨by simp [fX11_noRodAtHand, n1, hlo, a1, lgS, hz], by simp [fX12_canUse, n2, hlo, a3, lgR, lenR, ib80, cl6, k4, hz]⟩
theorem pu_warp : pu_1 pu_Rel fX11_warp fX12_warp := by
  intro c r h a
  obtain ⟨T, l, lo, np, H⟩ := id h
  obtain ⟨n1, n2⟩ := ev_canUse H
  rcases pu_w01 a (-99) 99 with hw | hw
  · exact pu_ro h (-1000000002) (by simp [fX11_warp, ev_within, hw]) (by simp [fX12_warp, evI, hw])
  by_cases hlo : lo = 0
  · exact pu_ro h (-1000000003) (by simp [fX11_warp, ev_within, hw, n1, hlo]) (by simp [fX12_warp, evI, hw, n2, hlo])
  by_cases hz : c.1 18 2 = 0
  · obtain ⟨c1, r1, q1, q2, H1, q3, q4, q5⟩ := ev_rem H
    obtain ⟨-, g1, -, g3, -, -, -, hst1, -⟩ := id H1
    obtain ⟨-, g1', -⟩ := id H
    obtain ⟨L, y, nt, nh, k0, k1, ⟨k2, k2', k2''⟩, k3⟩ := id hst1
    simp only [Nat.reduceAdd] at k2''
    refine ⟨c1.1 18 1 + 1000, pm_si c1 18 1 a, pm_si r1 7 1 a, ?_, ?_, T, l, lo, np, H1.now1 (by omega) ?_⟩
    · simp [fX11_warp, ev_within, hw, n1, hlo, hz, g1', lgS, q1, pm_let, g1]
    · simp [fX12_warp, evI, hw, n2, hlo, hz, q2, pm_let, g3, lgR, lenR, ib80, cl6, k2'']
    · have w := pu_w_lit hw
      obtain ⟨L, y, nt, nh, k0, ⟨a1, a2⟩, -, ⟨d1, d2⟩, ⟨e1, e2⟩, -⟩ := id hst1
      refine hst1.rod H1.np (fun o _ _ => pm_si_row (by omega)) (fun k _ _ => pm_si_ne (by omega)) L y (by omega) ⟨?_, ?_⟩ ⟨?_, ?_, ?_⟩ ⟨?_, ?_⟩ ⟨?_, ?_⟩
      · rw [pm_si_ne (by omega)]; exact a1
      · rw [pm_si_ne (by omega)]; exact a2
      · rw [pm_si_same]; exact w.1
      · rw [pm_si_same]; exact w.2
      · rw [pm_si_same, pm_si_same]
      · rw [pm_si_ne (by omega)]; exact d1
      · rw [pm_si_ne (by omega), pm_si_ne (by omega)]; exact d2
      · rw [pm_si_ne (by omega)]; exact e1
      · rw [pm_si_ne (by omega)]; exact e2
  · exact pu_ro h (-1000000003) (by simp [fX11_warp, ev_within, hw, n1, hlo, hz]) (by simp [fX12_warp, evI, hw, n2, hlo, hz])

theorem pu_lose : pu_z pu_Rel fX11_lose fX12_lose := by
  intro c r h a ha
  obtain ⟨T, l, lo, np, H⟩ := id h
  obtain ⟨n1, n2⟩ := ev_noRealm H
  by_cases hlo : lo = 0
  · exact pu_ro h (-1000000003) (by simp [fX11_lose, n1, hlo]) (by simp [fX12_lose, n2, hlo])
  obtain ⟨c1, r1, q1, q2, H1, q3, q4, q5⟩ := ev_rem H
  obtain ⟨-, g1, -, g3, -, -, -, hst1, -⟩ := id H1
  obtain ⟨-, g1', -⟩ := id H
  obtain ⟨L, y, nt, nh, k0, ⟨a1, a2⟩, ⟨b1, b2, b3⟩, ⟨d1, d2⟩, ⟨e1, e2⟩, -⟩ := id hst1
  simp only [Nat.reduceAdd] at d1 d2
  have hzb : pm_zb a = true := by rcases ha with h | h <;> rw [h] <;> rfl
  refine ⟨c1.1 18 2, pm_si c1 18 2 a, pm_si r1 7 2 a, ?_, ?_, T, l, lo, np, H1.now1 (by omega) (hst1.rod H1.np (fun o _ _ => pm_si_row (by omega)) (fun k _ _ => pm_si_ne (by omega)) L y (by omega) ⟨?_, ?_⟩ ⟨?_, ?_, ?_⟩ ⟨?_, ?_⟩ ⟨?_, ?_⟩)⟩
  · rcases d1 with h0 | h0 <;> simp [fX11_lose, n1, hlo, g1', lgS, q1, pm_let, g1, h0, hzb]
  · rcases ha with rfl | rfl <;> simp [fX12_lose, n2, hlo, q2, pm_let, g3, lgR, lenR, ib80, cl6, d2]
  · rw [pm_si_ne (by omega)]; exact a1
  · rw [pm_si_ne (by omega)]; exact a2
  · rw [pm_si_ne (by omega)]; exact b1
  · rw [pm_si_ne (by omega)]; exact b2
  · rw [pm_si_ne (by omega), pm_si_ne (by omega)]; exact b3
  · rw [pm_si_same]; exact ha
  · rw [pm_si_same, pm_si_same]
  · rw [pm_si_ne (by omega)]; exact e1
  · rw [pm_si_ne (by omega)]; exact e2
theorem qn_abs {v : Int32} (h1 : -99 ≤ v.toInt) (h2 : v.toInt ≤ 99) : ∃ k : Nat, k ≤ 99 ∧ pm_abs v = nI k ∧ ∀ (S : pm_S) (σ : pm_H), fX12_size S v σ = some (nI k, σ) := by
  by_cases h : 0 ≤ v
  · obtain ⟨k, hk, rfl⟩ := nI_of (x := v) (fun z => by have a := Int32.lt_iff_toInt_lt.mp z; have b := le0_toInt.mp h; simp at a; omega)
    rw [nI_toInt hk] at h2
    exact ⟨k, by omega, by rw [pm_abs, if_pos h], fun S σ => by rw [fX12_size, if_pos h]⟩
  · have hneg : v.toInt < 0 := by
      rcases Int.lt_or_le v.toInt 0 with q | q
      · exact q
      · exact absurd (le0_toInt.mpr q) h
    have e : -v = nI (-v.toInt).toNat := by
      apply Int32.toInt_inj.mp
      rw [nI_toInt (by omega), Int32.toInt_neg]
      have : (-v.toInt).bmod (2 ^ 32) = -v.toInt := Int.bmod_eq_of_le (by omega) (by omega)
      rw [this]
      omega
    refine ⟨(-v.toInt).toNat, by omega, ?_, fun S σ => ?_⟩
    · rw [pm_abs, if_neg h, Int32.zero_sub, e]
    · rw [fX12_size, if_neg h, e]
theorem ev_planed {L : Nat} {v : Int32} (hL : L ≤ 240) (h1 : -99 ≤ v.toInt) (h2 : v.toInt ≤ 99) : ∃ M : Nat, 1 ≤ M ∧ M ≤ 240 ∧ pm_max 1 (nI L - pm_abs v) = nI M ∧ ∀ (S : pm_S) (σ : pm_H), fX12_planed S (nI L) v σ = some (nI M, σ) := by
  obtain ⟨k, hk, e1, e2⟩ := qn_abs h1 h2
  by_cases hle : L ≤ k
  · refine ⟨1, by omega, by omega, ?_, fun S σ => ?_⟩
    · rw [e1, pm_max, if_neg (fun z => ?_)]
      · rfl
      · have a := Int32.lt_iff_toInt_lt.mp z
        rw [pk_sub_toInt (by omega) (by omega)] at a
        simp at a
        omega
    · simp [fX12_planed, e2, (qn_le_iff (show L < 2 ^ 31 by omega) (show k < 2 ^ 31 by omega)).mpr hle]
      rfl
  · have e3 : ¬ nI L ≤ nI k := fun z => by have := (qn_le_iff (by omega) (by omega)).mp z; omega
    refine ⟨L - k, by omega, by omega, ?_, fun S σ => ?_⟩
    · rw [e1, qn_sub (by omega), pm_max]
      by_cases h9 : 1 < L - k
      · have e9 : (1 : Int32) < nI (L - k) := (qn_lt_iff (a := 1) (by omega) (by omega)).mpr h9
        rw [if_pos e9]
      · rw [show L - k = 1 by omega]
        rfl
    · simp [fX12_planed, e2, e3, qn_sub (show k ≤ L by omega)]
theorem pu_plane : pu_0 pu_Rel fX11_plane fX12_plane := by
  intro c r h
  obtain ⟨T, l, lo, np, H⟩ := id h
  obtain ⟨n1, n2⟩ := ev_canUse H
  by_cases hlo : lo = 0
  · exact pu_ro h (-1000000003) (by simp [fX11_plane, n1, hlo]) (by simp [fX12_plane, n2, hlo])
  by_cases hz : c.1 18 2 = 0
  · obtain ⟨c1, r1, q1, q2, H1, q3, q4, q5⟩ := ev_rem H
    obtain ⟨-, g1, -, g3, -, -, hlw, hst1, -, -, hs, -⟩ := id H1
    obtain ⟨-, g1', -⟩ := id H
    obtain ⟨L, y, nt, nh, k0, ⟨a1, a2⟩, ⟨b1, b2, b3⟩, ⟨d1, d2⟩, ⟨e1, e2⟩, -⟩ := id hst1
    simp only [Nat.reduceAdd] at a1 b1 b2 b3 d1 d2 e1
    obtain ⟨M, m1, m2, m3, m4⟩ := ev_planed (L := L) (v := c1.1 18 1) (by omega) b1 b2
    have hlo1 : lo ≤ 1 := by obtain ⟨L9, k9, k8, k7, dd, -⟩ := hlw; omega
    refine ⟨nI M, pm_si (pm_si c1 18 0 (nI M)) 18 1 0, pm_si (pm_si r1 7 0 (nI M)) 7 1 0, ?_, ?_, T, l, lo, np, H1.now rfl rfl (fun a _ ha => by rw [pm_si_row (by omega), pm_si_row (by omega)]) (fun a _ => by rw [pm_si_ne (by omega), pm_si_ne (by omega)]) (fun a _ ha => by rw [pm_si_row ha, pm_si_row ha]) (fun a _ => by rw [pm_si_ne (by omega), pm_si_ne (by omega)]) (by rw [pm_si_ne (by omega), pm_si_ne (by omega), pm_si_ne (by omega), pm_si_ne (by omega)]; exact hs) (hst1.rod H1.np (fun o _ _ => by rw [pm_si_row (by omega), pm_si_row (by omega)]) (fun k _ _ => by rw [pm_si_ne (by omega), pm_si_ne (by omega)]) M y (by omega) ⟨?_, ?_⟩ ⟨?_, ?_, ?_⟩ ⟨?_, ?_⟩ ⟨?_, ?_⟩)⟩
    · simp [fX11_plane, fX6_lengthIfPlaned, n1, hlo, hz, g1', lgS, q1, pm_let, g1, pm_si_2, pm_si_1, a1, m3]
    · simp [fX12_plane, n2, hlo, hz, q2, pm_let, g3, lgR, lenR, ib80, cl6, a2, b3, m4, pm_si_2, pm_si_1]
    · rw [pm_si_ne (by omega), pm_si_same]
    · rw [pm_si_ne (by omega), pm_si_same]
    · rw [pm_si_same]; decide
    · rw [pm_si_same]; decide
    · rw [pm_si_same, pm_si_same]
    · rw [pm_si_ne (by omega), pm_si_ne (by omega)]; exact d1
    · rw [pm_si_ne (by omega), pm_si_ne (by omega), pm_si_ne (by omega), pm_si_ne (by omega)]; exact d2
    · rw [pm_si_ne (by omega), pm_si_ne (by omega)]; exact e1
    · rw [pm_si_ne (by omega), pm_si_ne (by omega)]; exact e2
  · exact pu_ro h (-1000000003) (by simp [fX11_plane, n1, hlo, hz]) (by simp [fX12_plane, n2, hlo, hz])

theorem pu_R.lo1 {c r : pm_H} {T l lo np : Nat} (H : pu_R c r T l lo np) : lo ≤ 1 := by
  obtain ⟨L9, k9, k8, k7, dd, -⟩ := H.2.2.2.2.2.2.1
  omega
theorem ev_dropR {r : pm_H} (g3 : r.2 = lw_R0.2) (v1 : Int32) (kx : pm_H → Option (Int32 × pm_H)) : ∃ r', fX12_drop_L20 lw_SR 1 v1 kx pm_fuel 0 r = kx r' ∧ r'.2 = r.2 ∧ (∀ q, q ≠ 7 → r'.1 q = r.1 q) ∧ ∀ k, k < 66 ∨ 74 ≤ k → r'.1 7 k = r.1 7 k := by
  have loop : ∀ k i n (s : pm_H), i + k = 8 → k < n → s.2 = r.2 → (∀ q, q ≠ 7 → s.1 q = r.1 q) → (∀ j, j < 66 ∨ 74 ≤ j → s.1 7 j = r.1 7 j) → ∃ r', fX12_drop_L20 lw_SR 1 v1 kx n (nI i) s = kx r' ∧ r'.2 = r.2 ∧ (∀ q, q ≠ 7 → r'.1 q = r.1 q) ∧ ∀ k, k < 66 ∨ 74 ≤ k → r'.1 7 k = r.1 7 k := by
    intro k
    induction k with
    | zero =>
      intro i n s hi hn h2 hq hj
      obtain ⟨n, rfl⟩ : ∃ z, n = z + 1 := ⟨n - 1, by omega⟩
      have hi : i = 8 := by omega
      subst hi
      have e : (8 : Int32) ≤ nI 8 := by decide
      exact ⟨s, by rw [fX12_drop_L20, if_pos e], h2, hq, hj⟩
    | succ k ih =>
      intro i n s hi hn h2 hq hj
      obtain ⟨n, rfl⟩ : ∃ z, n = z + 1 := ⟨n - 1, by omega⟩
      have e : ¬ (8 : Int32) ≤ nI i := fun z => by have := (qn_le_iff (a := 8) (by omega) (by omega)).mp z; omega
      have i2 : pm_ib (nI (66 + i)) 80 = true := pm_ib_nI (by omega) (by omega)
      have c2 : (nI (66 + i)).toNatClampNeg = 66 + i := nI_clamp (by omega)
      have h3 : s.2 = lw_R0.2 := h2.trans g3
      rw [fX12_drop_L20, if_neg e]
      simp only [h3, lgR, lenR, nL, i2, c2, if_true, pm_let]
      exact ih (i + 1) n (pm_si s 7 (66 + i) 0) (by omega) (by omega) h2 (fun q hq2 => by rw [pm_si_row hq2]; exact hq q hq2) (fun j hj2 => by rw [pm_si_ne (by omega)]; exact hj j hj2)
  exact loop 8 0 pm_fuel r (by omega) (by unfold pm_fuel; omega) rfl (fun _ _ => rfl) (fun _ _ => rfl)
theorem pu_drop : pu_0 pu_Rel fX11_drop fX12_drop := by
  intro c r h
  obtain ⟨T, l, lo, np, H⟩ := id h
  obtain ⟨c1, r1, q1, q2, H1, q3, q4, q5⟩ := ev_rem H
  obtain ⟨-, g1, -, g3, -, -, -, hst1, -, -, hs, -⟩ := id H1
  obtain ⟨-, g1', -⟩ := id H
  obtain ⟨L, y, nt, nh, k0, -, -, -, -, -, ⟨i1, i2⟩, -⟩ := id hst1
  simp only [Nat.reduceAdd] at i1
  obtain ⟨r2, w1, w2, w3, w4⟩ := ev_dropR (r := pm_si r1 7 5 0) g3 (nI nh) (fun s12 => some (nI nh, s12))
  refine ⟨nI nh, pm_si c1 24 1 0, r2, ?_, ?_, T, l, lo, np, H1.now rfl w2 (fun a _ ha => pm_si_row (by omega)) (fun a _ => pm_si_ne (by omega)) (fun a _ ha => by rw [w3 a ha, pm_si_row ha]) (fun a _ => by rw [w3 1 (by omega), pm_si_ne (by omega)]) (by rw [w3 1 (by omega), pm_si_ne (by omega), pm_si_ne (by omega)]; exact hs) (hst1.hands H1.np (fun o _ _ _ _ => pm_si_row (by omega)) (fun k h1 h2 _ => by rw [w4 k h2, pm_si_ne (by omega)]) 0 (by omega) ⟨by rw [pm_si_same]; rfl, by rw [w4 5 (by omega), pm_si_same]; rfl⟩ (fun i hi => absurd hi (Nat.not_lt_zero _)))⟩
  · simp [fX11_drop, g1', lgS, q1, pm_let, g1, i1]
  · simp only [fX12_drop, q2, Option.bind_some, g3, lgR, lenR, ib80, cl6, if_true, pm_let, i2]
    exact w1
theorem pu_hold : pu_1 pu_Rel fX11_hold fX12_hold := by
  intro c r h a
  obtain ⟨T, l, lo, np, H⟩ := id h
  obtain ⟨n1, n2⟩ := ev_canUse H
  rcases pu_w01 a (-20) 20 with hw | hw
  · exact pu_ro h (-1000000002) (by simp [fX11_hold, ev_within, hw]) (by simp [fX12_hold, evI, hw])
  by_cases hlo : lo = 0
  · exact pu_ro h (-1000000003) (by simp [fX11_hold, ev_within, hw, n1, hlo]) (by simp [fX12_hold, evI, hw, n2, hlo])
  by_cases hz : c.1 18 2 = 0
  · obtain ⟨-, g1', -, g3', -, -, -, hst0, -⟩ := id H
    obtain ⟨L0, y0, nt0, nh0, k00, -, -, -, -, -, ⟨i10, i20⟩, -⟩ := id hst0
    simp only [Nat.reduceAdd] at i10
    by_cases h8 : nh0 = 8
    · subst h8
      have e : ¬ nI 8 < 8 := by decide
      have e' : nI 8 = 8 := by decide
      exact pu_ro h (-1000000004) (by simp [fX11_hold, ev_within, hw, n1, hlo, hz, g1', lgS, i10, e]) (by simp [fX12_hold, evI, hw, n2, hlo, hz, g3', lgR, lenR, ib80, cl6, i20, e'])
    obtain ⟨c1, r1, q1, q2, H1, q3, q4, q5⟩ := ev_rem H
    obtain ⟨-, g1, -, g3, -, -, -, hst1, -, -, hs, -⟩ := id H1
    obtain ⟨L, y, nt, nh, k0, ⟨a1, a2⟩, -, -, -, -, ⟨i1, i2⟩, -, t2, -⟩ := id hst1
    simp only [Nat.reduceAdd] at a1 i1 t2
    have hnh : nh = nh0 := by
      have z := i1
      rw [q3 24 (by omega), i10] at z
      exact ((qn_inj (by omega) (by omega)).mp z).symm
    subst hnh
    have e : nI nh < 8 := (qn_lt_iff (b := 8) (by omega) (by omega)).mpr (by omega)
    have e8 : ¬ (8 : Int32) ≤ nI nh := fun z => by have := (qn_le_iff (a := 8) (by omega) (by omega)).mp z; omega
    have e' : ¬ nI nh = 8 := fun z => by have := (qn_inj (b := 8) (by omega) (by omega)).mp z; omega
    have hib : pm_ib (nI nh) 8 = true := pm_ib_nI (by omega) (by omega)
    have hcl : (nI nh).toNatClampNeg = nh := nI_clamp (by omega)
    have hib2 : pm_ib (nI (66 + nh)) 80 = true := pm_ib_nI (by omega) (by omega)
    have hcl2 : (nI (66 + nh)).toNatClampNeg = 66 + nh := nI_clamp (by omega)
    have w := pu_w_lit hw
    have w' : -20 ≤ a.toInt ∧ a.toInt ≤ 20 := ⟨by have := w.1; simpa using this, by have := w.2; simpa using this⟩
    have hsum : (nI L + a).toInt = (L : Int) + a.toInt := by
      rw [Int32.toInt_add, nI_toInt (by omega)]
      exact Int.bmod_eq_of_le (by omega) (by omega)
    have h566 : ¬ 5 = 66 + nh := by omega
    obtain ⟨W9, hW⟩ : ∃ z, pm_max 0 (nI L + a) = z := ⟨_, rfl⟩
    have hWb : 0 ≤ W9.toInt ∧ W9.toInt ≤ 260 := by
      rw [← hW, pm_max]
      by_cases hp : 0 < nI L + a
      · rw [if_pos hp, hsum]
        have := Int32.lt_iff_toInt_lt.mp hp
        rw [hsum] at this
        simp at this
        omega
      · rw [if_neg hp]; decide
    refine ⟨nI (nh + 1), pm_si (pm_si c1 25 nh W9) 24 1 (nI (nh + 1)), pm_si (pm_si r1 7 (66 + nh) W9) 7 5 (nI (nh + 1)), ?_, ?_, T, l, lo, np, H1.now rfl rfl (fun a _ ha => by rw [pm_si_row (by omega), pm_si_row (by omega)]) (fun a _ => by rw [pm_si_ne (by omega), pm_si_ne (by omega)]) (fun a _ ha => by rw [pm_si_row ha, pm_si_row ha]) (fun a _ => by rw [pm_si_ne (by omega), pm_si_ne (by omega)]) (by rw [pm_si_ne (by omega), pm_si_ne (by omega), pm_si_ne (by omega), pm_si_ne (by omega)]; exact hs) (hst1.hands H1.np (fun o _ _ _ _ => by rw [pm_si_row (by omega), pm_si_row (by omega)]) (fun k h1 h2 _ => by rw [pm_si_ne (by omega), pm_si_ne (by omega)]) (nh + 1) (by omega) ⟨pm_si_same, pm_si_same⟩ (fun i hi => ?_))⟩
    · simp [fX11_hold, fX1_add, ev_within, hw, n1, hlo, hz, g1', lgS, lenS, i10, e, q1, g1, a1, hW, i1, e8, hib, hcl, pm_let, pm_si_2, pm_si_1, nL]
    · by_cases hp : nI L + a ≤ 0
      · have hW0 : W9 = 0 := by
          rw [← hW, pm_max, if_neg (fun z => ?_)]
          have := Int32.lt_iff_toInt_lt.mp z
          have := Int32.le_iff_toInt_le.mp hp
          omega
        simp [fX12_hold, fX12_hold_J81, evI, hw, n2, hlo, hz, g3', g3, lgR, lenR, ib80, cl6, i20, e', q2, i2, a2, hp, nL, hib2, hcl2, pm_let, pm_si_2, pm_si_1, hW0, h566]
      · have hp2 : ¬ (nI L + a).toInt ≤ (0 : Int32).toInt := fun z => hp (Int32.le_iff_toInt_le.mpr z)
        have hW0 : nI L + a = W9 := by
          rw [← hW, pm_max, if_pos (Int32.lt_iff_toInt_lt.mpr (by omega))]
        have hp3 : ¬ W9 ≤ 0 := by rw [← hW0]; exact hp
        simp [fX12_hold, fX12_hold_J81, evI, hw, n2, hlo, hz, g3', g3, lgR, lenR, ib80, cl6, i20, e', q2, i2, a2, hp3, nL, hib2, hcl2, pm_let, pm_si_2, pm_si_1, hW0, h566]
    · by_cases hin : i = nh
      · subst hin
        simp only [pm_si_1]
        simp
        exact ⟨fun hh => by omega, hWb⟩
      · have q := t2 i (by omega)
        simp only [pm_si_1]
        simp [hin]
        rw [if_neg (by omega)]
        exact q
  · exact pu_ro h (-1000000003) (by simp [fX11_hold, ev_within, hw, n1, hlo, hz]) (by simp [fX12_hold, evI, hw, n2, hlo, hz])
