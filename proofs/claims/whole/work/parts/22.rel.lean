/-! what does not touch it keeps it -/
theorem pu_Th.cg {h h' : Nat → Nat → Int32} {b : Nat} {f f' : Nat → Int32} {i : Nat} (hi : i < 20) (hh : ∀ o, 1 ≤ o → o ≤ 9 → h' (b + o) = h (b + o)) (hf : ∀ k, k < 80 → f' k = f k) (H : pu_Th h b f i) : pu_Th h' b f' i := by
  obtain ⟨fe, tw, yy, h1, ⟨a1, a2, a3⟩, ⟨b1, b2, b3⟩, d1, d2⟩ := H
  refine ⟨fe, tw, yy, h1, ⟨?_, ?_, ?_⟩, ⟨?_, ?_, ?_⟩, ?_, ?_⟩
  · rw [hh 4 (by omega) (by omega)]; exact a1
  · rw [hh 5 (by omega) (by omega)]; exact a2
  · rw [hf _ (by omega)]; exact a3
  · rw [hh 3 (by omega) (by omega), hf _ (by omega)]; exact b1
  · rw [hh 3 (by omega) (by omega)]; exact b2
  · rw [hh 3 (by omega) (by omega)]; exact b3
  · rw [hh 6 (by omega) (by omega)]; exact d1
  · rw [hf _ (by omega)]; exact d2
theorem pu_St.cg {h h' : Nat → Nat → Int32} {b lo np : Nat} {f f' : Nat → Int32} (hnp : np ≤ 6) (hh : ∀ o, 1 ≤ o → o ≤ 9 → h' (b + o) = h (b + o)) (hf : ∀ k, k < 80 → f' k = f k) (H : pu_St h b f lo np) : pu_St h' b f' lo np := by
  obtain ⟨L, y, nt, nh, h1, ⟨a1, a2⟩, ⟨b1, b2, b3⟩, ⟨d1, d2⟩, ⟨e1, e2⟩, ⟨g1, g2⟩, ⟨k1, k2⟩, t1, t2, t3⟩ := H
  have e1' := hh 1 (by omega) (by omega)
  have e2' := hh 2 (by omega) (by omega)
  have e7' := hh 7 (by omega) (by omega)
  have e8' := hh 8 (by omega) (by omega)
  have e9' := hh 9 (by omega) (by omega)
  refine ⟨L, y, nt, nh, h1, ⟨by rw [e1']; exact a1, by rw [hf 0 (by omega)]; exact a2⟩, ⟨by rw [e1']; exact b1, by rw [e1']; exact b2, by rw [e1', hf 1 (by omega)]; exact b3⟩, ⟨by rw [e1']; exact d1, by rw [e1', hf 2 (by omega)]; exact d2⟩, ⟨by rw [e1']; exact e1, by rw [hf 3 (by omega)]; exact e2⟩, ⟨by rw [e2']; exact g1, by rw [hf 4 (by omega)]; exact g2⟩, ⟨by rw [e7']; exact k1, by rw [hf 5 (by omega)]; exact k2⟩, fun i hi => (t1 i hi).cg (by omega) hh hf, fun i hi => ?_, fun p hp => ?_⟩
  · rw [e8', hf _ (by omega)]; exact t2 i hi
  · rw [e9', hf _ (by omega)]; exact t3 p hp
theorem pu_Law.np {c r : pm_H} {T lo np : Nat} (h : pu_Law c r T lo np) : np ≤ 6 := by
  obtain ⟨L, kn, ko, ks, -, h1, -⟩ := h
  omega
theorem pu_Law.cg {c r c' r' : pm_H} {T lo np : Nat} (hT : T = 5 ∨ T = 11) (hc : ∀ q, 5 ≤ q → q ≤ 16 → c'.1 q = c.1 q) (hr : ∀ q, 2 ≤ q → q ≤ 6 → r'.1 q = r.1 q) (h1 : ∀ k, k < 10 → r'.1 1 k = r.1 1 k) (h : pu_Law c r T lo np) : pu_Law c' r' T lo np := by
  obtain ⟨L, kn, ko, ks, a1, a2, ⟨b1, b2⟩, b3, ⟨b4, b5⟩, ⟨b6, b7⟩, ⟨b8, b9⟩, ⟨b10, b11⟩, d1, d2, d3⟩ := h
  have e : ∀ o, o ≤ 5 → c'.1 (T + o) = c.1 (T + o) := fun o ho => hc _ (by omega) (by omega)
  have e0 := e 0 (by omega)
  rw [Nat.add_zero] at e0
  refine ⟨L, kn, ko, ks, a1, a2, ⟨by rw [e0]; exact b1, by rw [h1 _ (by omega)]; exact b2⟩, fun hlo => ?_, ⟨by rw [e0]; exact b4, by rw [h1 _ (by omega)]; exact b5⟩, ⟨by rw [e0]; exact b6, by rw [h1 _ (by omega)]; exact b7⟩, ⟨by rw [e0]; exact b8, by rw [h1 _ (by omega)]; exact b9⟩, ⟨by rw [e0]; exact b10, by rw [h1 _ (by omega)]; exact b11⟩, fun i hi => ?_, fun i hi => ?_, fun i hi => ?_⟩
  · obtain ⟨w, g1, g2, g3⟩ := b3 hlo
    exact ⟨w, g1, by rw [e0]; exact g2, by rw [h1 _ (by omega)]; exact g3⟩
  · rw [e 1 (by omega), hr 2 (by omega) (by omega)]; exact d1 i hi
  · rw [e 2 (by omega), e 3 (by omega), hr 3 (by omega) (by omega), hr 4 (by omega) (by omega)]; exact d2 i hi
  · rw [e 5 (by omega), hr 6 (by omega) (by omega)]; exact d3 i hi
theorem pu_rp_lt (x m j : Nat) : 30 ≤ pu_rp x m j ∧ pu_rp x m j ≤ 180 := by
  unfold pu_rp
  omega
theorem pu_Past.cg {c r c' r' : pm_H} {lo np : Nat} (hnp : np ≤ 6) (hc : ∀ q, 28 ≤ q → q ≤ 189 → c'.1 q = c.1 q) (hr : r'.1 14 = r.1 14) (h1 : r'.1 1 30 = r.1 1 30) (h : pu_Past c r lo np) : pu_Past c' r' lo np := by
  obtain ⟨x, m, a1, a2, a3, a4, a5, a6⟩ := h
  refine ⟨x, m, a1, a2, by rw [hc 28 (by omega) (by omega)]; exact a3, by rw [hc 28 (by omega) (by omega)]; exact a4, by rw [h1]; exact a5, fun j hj => ?_⟩
  have hb := pu_rp_lt x m j
  exact (a6 j hj).cg hnp (fun o _ _ => hc _ (by omega) (by omega)) (fun k _ => by rw [hr])
theorem pu_Img.cg {c r c' r' : pm_H} {lo np : Nat} (hnp : np ≤ 6) (hc : ∀ q, 191 ≤ q → q ≤ 212 → c'.1 q = c.1 q) (hr : r'.1 22 = r.1 22) (hr2 : r'.1 23 = r.1 23) (h : pu_Img c r lo np) : pu_Img c' r' lo np := by
  intro i hi
  rw [hc 211 (by omega) (by omega), hc 212 (by omega) (by omega), hr, hr2]
  rcases h i hi with h | ⟨h1, h2, h3, h4⟩
  · exact Or.inl h
  · exact Or.inr ⟨h1, h2, h3.cg hnp (fun o _ _ => hc _ (by omega) (by omega)) (fun k _ => rfl), h4⟩
theorem pu_Sight.cg {c r c' r' : pm_H} (hc : ∀ q, 220 ≤ q → q ≤ 222 → c'.1 q = c.1 q) (hr : ∀ q, 17 ≤ q → q ≤ 18 → r'.1 q = r.1 q) (h1 : r'.1 1 34 = r.1 1 34) (h : pu_Sight c r) : pu_Sight c' r' := by
  obtain ⟨n, a1, a2, a3, a4⟩ := h
  refine ⟨n, a1, by rw [hc 220 (by omega) (by omega)]; exact a2, by rw [h1]; exact a3, ?_⟩
  rw [hc 221 (by omega) (by omega), hc 222 (by omega) (by omega), hr 17 (by omega) (by omega), hr 18 (by omega) (by omega)]
  exact a4
theorem pu_Book.cg {c r c' r' : pm_H} {np : Nat} (hc : ∀ q, 226 ≤ q → q ≤ 228 → c'.1 q = c.1 q) (hr : ∀ q, 20 ≤ q → q ≤ 21 → r'.1 q = r.1 q) (h1 : r'.1 1 38 = r.1 1 38) (h : pu_Book c r np) : pu_Book c' r' np := by
  obtain ⟨n, a1, a2, a3, a4⟩ := h
  refine ⟨n, a1, by rw [hc 226 (by omega) (by omega)]; exact a2, by rw [h1]; exact a3, ?_⟩
  rw [hc 227 (by omega) (by omega), hc 228 (by omega) (by omega), hr 20 (by omega) (by omega), hr 21 (by omega) (by omega)]
  exact a4
theorem pu_Text.cg {c r c' r' : pm_H} (hc : c'.1 2 = c.1 2) (hc1 : c'.1 1 1 = c.1 1 1) (hr : r'.1 8 = r.1 8) (h1 : r'.1 1 14 = r.1 1 14) (h : pu_Text c r) : pu_Text c' r' := by
  obtain ⟨n, a1, a2, a3, a4⟩ := h
  exact ⟨n, a1, by rw [hc1]; exact a2, by rw [h1]; exact a3, by rw [hc, hr]; exact a4⟩
/-- law, standings, past, images untouched -/
theorem pu_R.mv {c r c' r' : pm_H} {T l lo np : Nat} (h : pu_R c r T l lo np) (g1 : c'.2 = c.2) (g2 : r'.2 = r.2) (hc : ∀ q, (5 ≤ q ∧ q ≤ 26) ∨ (28 ≤ q ∧ q ≤ 212) → c'.1 q = c.1 q) (hr : ∀ q, (2 ≤ q ∧ q ≤ 7) ∨ q = 14 ∨ q = 22 ∨ q = 23 → r'.1 q = r.1 q) (h1 : ∀ k, k < 10 ∨ k = 30 → r'.1 1 k = r.1 1 k)
    (ht : pu_Text c' r') (hf : r'.1 1 15 = c'.1 1 2) (hs : r'.1 1 12 = c'.1 1 12 ∧ 0 ≤ (c'.1 1 12).toInt) (hsi : pu_Sight c' r') (hb : pu_Book c' r' np) : pu_R c' r' T l lo np := by
  obtain ⟨hT, a1, a2, a3, -, -, b1, b2, b3, b4, -, -, -⟩ := h
  have hnp := b1.np
  exact ⟨hT, by rw [g1]; exact a1, a2, by rw [g2]; exact a3, ht, hf, b1.cg hT (fun q _ _ => hc q (by omega)) (fun q _ _ => hr q (by omega)) (fun k _ => h1 k (by omega)), b2.cg hnp (fun o _ _ => hc _ (by omega)) (fun k _ => by rw [hr 7 (by omega)]), b3.cg hnp (fun q _ _ => hc q (by omega)) (hr 14 (by omega)) (h1 30 (by omega)), b4.cg hnp (fun q _ _ => hc q (by omega)) (hr 22 (by omega)) (hr 23 (by omega)), hs, hsi, hb⟩
theorem pm_si_row {σ : pm_H} {q k a : Nat} {x : Int32} (h : a ≠ q) : (pm_si σ q k x).1 a = σ.1 a := by simp [pm_si, h]
theorem pm_si_same {σ : pm_H} {q k : Nat} {x : Int32} : (pm_si σ q k x).1 q k = x := by rw [pm_si_1, if_pos ⟨rfl, rfl⟩]
theorem pm_si_ne {σ : pm_H} {q k a j : Nat} {x : Int32} (h : ¬ (a = q ∧ j = k)) : (pm_si σ q k x).1 a j = σ.1 a j := by rw [pm_si_1, if_neg h]
theorem le0_toInt {a : Int32} : 0 ≤ a ↔ 0 ≤ a.toInt := by rw [Int32.le_iff_toInt_le]; rfl
theorem pu_seed : pu_1 pu_Rel fX11_seed fX12_seed := by
  intro c r h a
  obtain ⟨T, l, lo, np, H⟩ := id h
  obtain ⟨hT, a1, a2, a3, ht, hf, b1, b2, b3, b4, ⟨hs1, hs2⟩, hsi, hb⟩ := id H
  by_cases ha : 0 ≤ a
  · refine ⟨c.1 1 12, pm_si c 1 12 a, pm_si r 1 12 a, by simp [fX11_seed, ha, pm_let], by simp [fX12_seed, ha, pm_let, hs1], T, l, lo, np, H.mv rfl rfl (fun q hq => pm_si_row (by omega)) (fun q hq => pm_si_row (by omega)) (fun k hk => pm_si_ne (by omega)) (ht.cg (pm_si_row (by omega)) (pm_si_ne (by omega)) (pm_si_row (by omega)) (pm_si_ne (by omega))) ?_ ⟨?_, ?_⟩ (hsi.cg (fun q _ _ => pm_si_row (by omega)) (fun q _ _ => pm_si_row (by omega)) (pm_si_ne (by omega))) (hb.cg (fun q _ _ => pm_si_row (by omega)) (fun q _ _ => pm_si_row (by omega)) (pm_si_ne (by omega)))⟩
    · rw [pm_si_ne (by omega), pm_si_ne (by omega)]; exact hf
    · rw [pm_si_same, pm_si_same]
    · rw [pm_si_same]; exact le0_toInt.mp ha
  · exact pu_ro h (-1000000002) (by simp [fX11_seed, ha]) (by simp [fX12_seed, ha])
