theorem ev_realmC {c c' : pm_H} {T l n : Nat} (g1 : c.2 = lgC T l) (t1 : c.1 1 1 = nI n) (p1 : fX5_readText lw_SC 3 2 (nI n) (16 - T) c = some c') (q1 : c'.2 = lgC T 2) {s7 : pm_H} (hs7 : s7 = pm_si (pm_si c' 1 1 (0 : Int32)) 1 2 (c'.1 3 1)) : fX11_realm lw_SC 1 c = (if (s7.1 3 0) = 0 then pu_ok s7 else some (((-10 : Int32) - (s7.1 3 0)), s7)) := by
  have e3 : (pm_si c' 1 1 (0 : Int32)).2 1 3 = 3 := by
    show c'.2 1 3 = 3
    rw [q1]; simp only [lgS]
  have e31 : (pm_si c' 1 1 (0 : Int32)).1 3 1 = c'.1 3 1 := by rw [pm_si_row (by decide)]
  have s73 : s7.2 1 3 = 3 := by
    rw [hs7]
    show c'.2 1 3 = 3
    rw [q1]; simp only [lgS]
  have f3 : c.2 1 3 = 3 := by rw [g1]; simp only [lgS]
  have f0 : c.2 1 0 = 2 := by rw [g1]; simp only [lgS]
  have f5 : c.2 1 5 = 16 - T := by rw [g1]; simp only [lgS]
  rw [fX11_realm, f3, f0, f5, t1, p1, Option.bind_some, pm_let, pm_let, e3, e31, ← hs7, s73]
  rfl
theorem pu_realm_bad {c r c' r' s7 : pm_H} {T l lo np D F : Nat} (H : pu_R c r T l lo np) (hDT : D = 16 - T) (hF : 1 ≤ F ∧ F ≤ 4) (q1 : c'.2 = lgC T 2) (q2 : ∀ q, q ≠ 3 → q < D ∨ D + 5 < q → c'.1 q = c.1 q) (q3 : r'.2 = r.2) (q4 : ∀ q, q ≠ 1 → q < 9 ∨ 13 < q → r'.1 q = r.1 q) (q5 : ∀ k, k < 15 ∨ 29 < k → r'.1 1 k = r.1 1 k) (q6 : c'.1 3 1 = r'.1 1 15) (hs7 : s7 = pm_si (pm_si c' 1 1 (0 : Int32)) 1 2 (c'.1 3 1)) : pu_R s7 (pm_si r' 1 14 (0 : Int32)) T 2 lo np := by
  obtain ⟨hT, g1, g2, g3, ht, hf, hLw, hst, hpa, him, hsd, hsi, hbk⟩ := H
  have hnp := hLw.np
  have sq : ∀ q, q ≠ 1 → s7.1 q = c'.1 q := fun q hq => by rw [hs7, pm_si_row hq, pm_si_row hq]
  have s11 : s7.1 1 1 = 0 := by rw [hs7, pm_si_ne (by decide), pm_si_same]
  have s12 : s7.1 1 2 = c'.1 3 1 := by rw [hs7, pm_si_same]
  have s1k : s7.1 1 12 = c.1 1 12 := by rw [hs7, pm_si_ne (by decide), pm_si_ne (by decide), q2 1 (by decide) (by omega)]
  have sq' : ∀ q, q ≠ 1 → q ≠ 3 → q < D ∨ D + 5 < q → s7.1 q = c.1 q := fun q h1 h2 h3 => by rw [sq q h1, q2 q h2 h3]
  have sq17 : ∀ q, 17 ≤ q → s7.1 q = c.1 q := fun q h => sq' q (by omega) (by omega) (by omega)
  have sqT : ∀ o, o ≤ 5 → s7.1 (T + o) = c.1 (T + o) := fun o ho => sq' _ (by omega) (by omega) (by omega)
  have rq : ∀ q, q ≠ 1 → q < 9 ∨ 13 < q → (pm_si r' 1 14 (0 : Int32)).1 q = r.1 q := fun q h1 h2 => by rw [pm_si_row h1, q4 q h1 h2]
  have rk : ∀ k, k ≠ 14 → k < 15 ∨ 29 < k → (pm_si r' 1 14 (0 : Int32)).1 1 k = r.1 1 k := fun k h1 h2 => by rw [pm_si_ne (fun z => h1 z.2), q5 k h2]
  refine ⟨hT, by rw [hs7]; exact q1, Or.inr rfl, q3.trans g3, ⟨0, by decide, s11, by rw [pm_si_same]; rfl, fun j hj => absurd hj (Nat.not_lt_zero _)⟩, ?_, hLw.cg2 sqT (fun q h1 h2 => rq q (by omega) (by omega)) (fun k hk => rk k (by omega) (by omega)), hst.cg hnp (fun o _ _ => sq17 _ (by omega)) (fun k _ => by rw [rq 7 (by decide) (by decide)]), hpa.cg hnp (fun q _ _ => sq17 q (by omega)) (rq 14 (by decide) (by decide)) (rk 30 (by decide) (by decide)), him.cg hnp (fun q _ _ => sq17 q (by omega)) (rq 22 (by decide) (by decide)) (rq 23 (by decide) (by decide)), ?_, hsi.cg (fun q _ _ => sq17 q (by omega)) (fun q _ _ => rq q (by omega) (by omega)) (rk 34 (by decide) (by decide)), hbk.cg (fun q _ _ => sq17 q (by omega)) (fun q _ _ => rq q (by omega) (by omega)) (rk 38 (by decide) (by decide))⟩
  · rw [pm_si_ne (by decide), s12]; exact q6.symm
  · rw [rk 12 (by decide) (by decide), s1k]
    exact hsd
theorem pu_realm : pu_0 pu_Rel fX11_realm fX12_realm := by
  intro c r h
  obtain ⟨T, l, lo, np, H⟩ := h
  obtain ⟨hT, g1, g2, g3, ht, hf, hLw, hst, hpa, him, hsd, hsi, hbk⟩ := id H
  obtain ⟨n, hn, t1, t2, t3⟩ := ht
  obtain ⟨D, hDe⟩ : ∃ D, D = 16 - T := ⟨_, rfl⟩
  have hD : D = 5 ∨ D = 11 := by clear hsd; omega
  have hTD : 16 - D = T := by clear hsd; omega
  have hD1 : 1 < D := by clear hsd; omega
  have hD28 : D + 5 < 28 := by clear hsd; omega
  obtain ⟨f, c', r', p1, p2, q1, q2, q3, q4, q5, q6, q7⟩ := ev_read (n := n) (tx := c.1 2) hD (by rw [hTD]; exact g1) g3 hn (fun j hj => ⟨rfl, (t3 j hj).1, (t3 j hj).2.1⟩) t2
  rw [hTD] at q1
  obtain ⟨s7, hs7⟩ : ∃ s7, s7 = pm_si (pm_si c' 1 1 (0 : Int32)) 1 2 (c'.1 3 1) := ⟨_, rfl⟩
  have hC := ev_realmC g1 t1 (by rw [← hDe]; exact p1) q1 hs7
  have sq : ∀ q, q ≠ 1 → s7.1 q = c'.1 q := fun q hq => by rw [hs7, pm_si_row hq, pm_si_row hq]
  have s70 : s7.1 3 0 = c'.1 3 0 := by rw [sq 3 (by decide)]
  rcases q7 with ⟨rfl, z0, z15, L, kn, ko, np', ks, hDp⟩ | ⟨F, hF1, hF4, rfl, z0⟩
  · have hD31 : ∀ o, o ≤ 5 → D + o ≠ 1 ∧ D + o ≠ 28 ∧ D + o ≠ 211 ∧ D + o ≠ 220 ∧ D + o ≠ 226 ∧ D + o ≤ 17 := fun o ho => by clear hsd; omega
    obtain ⟨C, k1, k2, k3, ⟨k4, k5⟩, k6, k7, k8, k9, k10, k11, k12⟩ := ev_ok (s7 := s7) (L := L) hD (by rw [hTD, hs7]; exact q1) (by rw [sq D (hD31 0 (by decide)).1]; exact hDp.2.1.2.2.1)
    obtain ⟨R, o1, o2, o3, o4, o5, o6, o7, o8, o9, ⟨v1, v2, v3, v4, v5, v6⟩, o11⟩ := ev_okR (r' := r') (q3.trans g3) hDp.2.1.2.2.2.1 hDp.2.2.1.2.2.1 hDp.2.2.2.1.2.2.1 hDp.2.2.2.2.1.2.2.1 hDp.2.2.2.2.2.2.2.1 hDp.2.2.1.1 hDp.2.2.2.1.1 hDp.2.2.2.2.1.1 hDp.2.2.2.2.2.1
    obtain ⟨x, m, w1, w2, w3, w4, w5, w6⟩ := hpa
    have hlo : ∃ lo', (lo' = 0 ∧ L = 0) ∨ (lo' = 1 ∧ 12 ≤ L) := by
      rcases hDp.2.1.1 with h | h
      · exact ⟨0, Or.inl ⟨rfl, h⟩⟩
      · exact ⟨1, Or.inr ⟨rfl, h⟩⟩
    obtain ⟨lo', hlo'⟩ := hlo
    have C1 : C.1 1 = s7.1 1 := k3 1 (by decide) (by decide) (by decide) (by decide) (by decide)
    have C12 : C.1 1 12 = c.1 1 12 := by rw [C1, hs7, pm_si_ne (by decide), pm_si_ne (by decide), q2 1 (by decide) (Or.inl hD1)]
    refine ⟨nI L, C, R, ?_, by rw [p2]; exact o1, D, 2, lo', np', pu_fin (x := x) hD hlo' hDp k2 o2 (fun o ho => ?_) ?_ w1 ?_ k5 k6 k7 k8 k9 k10 k11 (fun p hp => ?_) o3 o4 o5 o6 o7 o8 o9 ⟨v2, v4, v5, v6⟩ o11 ?_ ⟨?_, ?_⟩⟩
    · rw [hC, if_pos (s70.trans z0)]; exact k1
    · obtain ⟨e1, e2, e3, e4, e5, e6⟩ := hD31 o ho
      rw [k3 _ e2 e3 e4 e5 (Or.inl e6), sq _ e1]
    · rw [C1, hs7, pm_si_ne (by decide), pm_si_same]
    · rw [k4, sq 28 (by decide), q2 28 (by decide) (Or.inr hD28)]; exact w3
    · rw [k12 p hp, sq _ (hD31 4 (by decide)).1]
    · rw [v3, C1, hs7, pm_si_same]; exact q6.symm
    · rw [v1, q5 12 (by decide), C12]; exact hsd.1
    · rw [C12]; exact hsd.2
  · have hne : ¬ s7.1 3 0 = 0 := by rw [s70, z0]; exact nI_ne0 (by clear hsd; omega) (by clear hsd; omega)
    have hle : ¬ nI F ≤ 0 := fun z => by have := (qn_le_iff (b := 0) (by clear hsd; omega) (by decide)).mp z; clear hsd; omega
    refine ⟨-10 - nI F, s7, pm_si r' 1 14 (0 : Int32), ?_, ?_, T, 2, lo, np, pu_realm_bad H hDe ⟨hF1, hF4⟩ q1 q2 q3 q4 q5 q6 hs7⟩
    · rw [hC, if_neg hne, s70, z0]
    · rw [p2, fX12_realm_J56, pm_let, if_neg hle]
