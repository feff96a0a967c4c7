theorem pu_Q.adv {B : Nat → Prop} {M d e h u : Nat} {c : pm_H} (H : pu_Q B M d e h c) (hM : M ≤ 20) (hh : h < e) (hu : u < 1000) (e1 : c.1 215 h = nI u) (hn : d < M → ∀ y, y < 1000 → pu_adj B u y → c.1 214 y ≠ -1) : pu_Q B M d e (h + 1) c := by
  obtain ⟨qn, q, ⟨k1, k2, k3⟩, k4, k5, k6, k7, k8, k9, k10, k11, k12⟩ := H
  obtain ⟨m1, m2⟩ := k6 h (by omega)
  have hq : q h = u := (qn_inj (by omega) (by omega)).mp (m1.symm.trans e1)
  refine ⟨qn, q, ⟨by omega, k2, k3⟩, k4, k5, k6, fun i h1 h2 => k7 i (by omega) h2, k8, k9, k10, fun z hz => ?_, k12⟩
  rcases k11 z hz with ⟨i, z1, z2, z3⟩ | z
  · by_cases hi : i = h
    · subst hi
      rw [← z3, hq]
      exact Or.inr hn
    · exact Or.inl ⟨i, by omega, z2, z3⟩
  · exact Or.inr z
theorem pu_Q.next {B : Nat → Prop} {M d h qn : Nat} {c : pm_H} (H : pu_Q B M d h h c) (hM : M ≤ 20) (hq : qn < 2 ^ 31) (e1 : c.1 213 2 = nI qn) (hh : h < qn) : pu_Q B M (d + 1) qn h c := by
  obtain ⟨qn', q, ⟨k1, k2, k3⟩, k4, k5, k6, k7, k8, k9, k10, k11, k12⟩ := H
  have hle : qn' ≤ 1000 := by rw [k5]; exact pu_cn_le _ _
  have : qn' = qn := (qn_inj (by omega) hq).mp (k4.symm.trans e1)
  subst this
  have hd : d < M := (k8 h (by omega) hh).2
  have hrd : ∀ x, pu_rd B (d + 1) x → c.1 214 x ≠ -1 := fun x hx => by
    by_cases hx2 : pu_rd B d x
    · exact k10 x hx2
    · obtain ⟨y, y1, y2⟩ := pu_lv_prev hx hx2
      rcases k11 y y1 with ⟨i, z1, z2, z3⟩ | z
      · omega
      · exact z hd x (pu_rd_lt hx) y2
  refine ⟨qn', q, ⟨by omega, Nat.le_refl _, by omega⟩, k4, k5, k6, fun i h1 h2 => (k8 i h1 h2).1, fun i h1 h2 => by omega, fun x hx => ?_, hrd, fun z hz => ?_, fun z hz hz2 => ?_⟩
  · rcases k9 x hx with z | ⟨dd, z1, z2, z3, z4⟩
    · exact Or.inl z
    · exact Or.inr ⟨dd, by omega, z2, z3, z4⟩
  · obtain ⟨i, z1, z2, z3⟩ := k12 z hz (hrd z hz.1)
    exact Or.inl ⟨i, z1, z2, z3⟩
  · exfalso
    rcases k9 z (pu_rd_lt hz.1) with y | ⟨dd, z1, z2, z3, z4⟩
    · exact hz2 y
    · have := pu_lv_uniq hz z3
      omega
theorem pu_Q.fin {B : Nat → Prop} {M d e h qn : Nat} {c : pm_H} (H : pu_Q B M d e h c) (hM : M ≤ 20) (hq : qn < 2 ^ 31) (e1 : c.1 213 2 = nI qn) (hh : qn ≤ h) : ∀ x, x < 1000 → (∃ dd, dd ≤ M ∧ pu_lv B dd x ∧ c.1 214 x = nI dd) ∨ (¬ pu_rd B M x ∧ c.1 214 x = -1) := by
  obtain ⟨qn', q, ⟨k1, k2, k3⟩, k4, k5, k6, k7, k8, k9, k10, k11, k12⟩ := H
  have hle : qn' ≤ 1000 := by rw [k5]; exact pu_cn_le _ _
  have : qn' = qn := (qn_inj (by omega) hq).mp (k4.symm.trans e1)
  subst this
  intro x hx
  rcases k9 x hx with z | ⟨dd, z1, z2, z3, z4⟩
  · refine Or.inr ⟨fun hr => ?_, z⟩
    by_cases hd : d = M
    · subst hd
      exact k10 x hr z
    · have fix : ∀ x, pu_rd B (d + 1) x → pu_rd B d x := fun x hx => by
        by_cases hx2 : pu_rd B d x
        · exact hx2
        · obtain ⟨y, y1, y2⟩ := pu_lv_prev hx hx2
          have hm : c.1 214 x ≠ -1 := by
            rcases k11 y y1 with ⟨i, z1, z2, z3⟩ | z
            · omega
            · exact z (by omega) x (pu_rd_lt hx) y2
          rcases k9 x (pu_rd_lt hx) with y | ⟨dd, z1, z2, z3, z4⟩
          · exact absurd y hm
          · by_cases hdd : dd = d + 1
            · subst hdd
              obtain ⟨i, z5, z6, z7⟩ := k12 x z3 hm
              omega
            · exact pu_rd_mono (by omega) z3.1
      have := pu_rd_fix fix (M - d) x (by rw [show d + (M - d) = M by omega]; exact hr)
      exact k10 x this z
  · exact Or.inl ⟨dd, z2, z3, z4⟩
theorem ev_layOnC {B : Nat → Prop} {M K T l : Nat} {b : Nat → Nat} {c : pm_H} (hM1 : 1 ≤ M) (hM : M ≤ 20) (g1 : c.2 = lgC T l) (hK : K ≤ 6) (eK : c.1 213 4 = nI K) (hb : ∀ i, i < K → c.1 216 i = nI (b i) ∧ b i ≤ 240 ∧ B (b i)) (hB : ∀ x, B x → ∃ i, i < K ∧ b i = x) : ∃ c', fX2_layOn lw_SC 213 (nI M) c = some c' ∧ c'.2 = c.2 ∧ (∀ q, q ≠ 213 → q ≠ 214 → q ≠ 215 → c'.1 q = c.1 q) ∧ ∀ x, x < 1000 → (∃ dd, dd ≤ M ∧ pu_lv B dd x ∧ c'.1 214 x = nI dd) ∨ (¬ pu_rd B M x ∧ c'.1 214 x = -1) := by
  have loop : ∀ k h n (s : pm_H), h + k = 1001 → k < n → (∃ d e, pu_Q B M d e h s) → s.2 = c.2 → (∀ q, q ≠ 213 → q ≠ 214 → q ≠ 215 → s.1 q = c.1 q) → (∀ k, k ≠ 2 → s.1 213 k = c.1 213 k) → ∃ c', fX2_layOn_L21 lw_SC 213 (nI M) (fun s13 => some s13) n (nI h) s = some c' ∧ c'.2 = c.2 ∧ (∀ q, q ≠ 213 → q ≠ 214 → q ≠ 215 → c'.1 q = c.1 q) ∧ ∀ x, x < 1000 → (∃ dd, dd ≤ M ∧ pu_lv B dd x ∧ c'.1 214 x = nI dd) ∨ (¬ pu_rd B M x ∧ c'.1 214 x = -1) := by
    intro k
    induction k with
    | zero =>
      intro h n s hh hn ⟨d, e, H⟩ a2 a3 a4
      obtain ⟨n, rfl⟩ : ∃ z, n = z + 1 := ⟨n - 1, by omega⟩
      obtain ⟨qn, q, k1, k4, k5, -⟩ := id H
      have hle : qn ≤ 1000 := by rw [k5]; exact pu_cn_le _ _
      have e0 : nI qn ≤ nI h := (qn_le_iff (by omega) (by omega)).mpr (by omega)
      exact ⟨s, by rw [fX2_layOn_L21, k4, if_pos e0], a2, a3, H.fin hM (by omega) k4 (by omega)⟩
    | succ k ih =>
      intro h n s hh hn ⟨d, e, H⟩ a2 a3 a4
      obtain ⟨n, rfl⟩ : ∃ z, n = z + 1 := ⟨n - 1, by omega⟩
      obtain ⟨qn, q, k1, k4, k5, -⟩ := id H
      have hle : qn ≤ 1000 := by rw [k5]; exact pu_cn_le _ _
      by_cases hq : qn ≤ h
      · have e0 : nI qn ≤ nI h := (qn_le_iff (by omega) (by omega)).mpr hq
        exact ⟨s, by rw [fX2_layOn_L21, k4, if_pos e0], a2, a3, H.fin hM (by omega) k4 hq⟩
      have e0 : ¬ nI qn ≤ nI h := fun z => by have := (qn_le_iff (by omega) (by omega)).mp z; omega
      have H2 : ∃ d e, h < e ∧ pu_Q B M d e h s := by
        by_cases he : h = e
        · subst he
          exact ⟨d + 1, qn, by omega, H.next hM (by omega) k4 (by omega)⟩
        · exact ⟨d, e, by omega, H⟩
      obtain ⟨d, e, he, H⟩ := H2
      obtain ⟨qn', q, ⟨k1, k2, k3⟩, k4', k5, k6, k7, k8, k9, k10, k11, k12⟩ := id H
      obtain ⟨u, hu⟩ : ∃ u, q h = u := ⟨_, rfl⟩
      obtain ⟨m1, m2⟩ := k6 h (by omega)
      have m3 := k7 h (Nat.le_refl _) he
      rw [hu] at m1 m2 m3
      have hut : s.1 214 u = nI d := by
        rcases k9 u m2 with z | ⟨dd, z1, z2, z3, z4⟩
        · exact absurd z (k10 u m3.1)
        · rw [z4, pu_lv_uniq z3 m3]
      have i1 : pm_ib (nI h) 1000 = true := pm_ib_nI (by omega) (by omega)
      have c1 : (nI h).toNatClampNeg = h := nI_clamp (by omega)
      have i2 : pm_ib (nI u) 1000 = true := pm_ib_nI (by omega) (by omega)
      have c2 : (nI u).toNatClampNeg = u := nI_clamp (by omega)
      have a2' : s.2 = lgC T l := a2.trans g1
      by_cases hd : d < M
      · have e1 : ¬ nI M ≤ nI d := fun z => by have := (qn_le_iff (by omega) (by omega)).mp z; omega
        obtain ⟨s', p1, p2, p3, p4, p5, p6, p7, p8⟩ := ev_layFrom (b := b) H hM hd m3 hut a2' hK (by rw [a4 4 (by omega)]; exact eK) (fun i hi => by rw [a3 216 (by omega) (by omega) (by omega)]; exact hb i hi)
        obtain ⟨c', y1, y2⟩ := ih (h + 1) n s' (by omega) (by omega) ⟨d, e, p2.adv hM he m2 (by rw [p8 h he]; exact m1) (fun _ y hy ⟨b', hb', hor⟩ => by
          obtain ⟨i, hi, hbi⟩ := hB b' hb'
          exact p7 i hi y hy (by rw [hbi]; exact hor))⟩ (p3.trans a2) (fun q z1 z2 z3 => by rw [p4 q z1 z2 z3, a3 q z1 z2 z3]) (fun k hk => by rw [p5 k hk, a4 k hk])
        refine ⟨c', ?_, y2⟩
        rw [fX2_layOn_L21, k4, if_neg e0]
        simp only [a2', lgS, lenS, i1, c1, if_true, pm_let, m1, i2, c2, hut, if_neg e1, p1, Option.bind_some, (nL h).2.2.2.2.2.2, y1]
      · have e1 : nI M ≤ nI d := (qn_le_iff (by omega) (by omega)).mpr (by omega)
        obtain ⟨c', y1, y2⟩ := ih (h + 1) n s (by omega) (by omega) ⟨d, e, H.adv hM he m2 m1 (fun z => absurd z hd)⟩ a2 a3 a4
        refine ⟨c', ?_, y2⟩
        rw [fX2_layOn_L21, k4, if_neg e0]
        simp only [a2', lgS, lenS, i1, c1, if_true, pm_let, m1, i2, c2, hut, if_pos e1, (nL h).2.2.2.2.2.2, y1]
  obtain ⟨c1, u1, u2, u3, u4⟩ := ev_fill (q := 214) (len := 1000) (-1) (c := c) (by simp only [lenS]) (by omega)
  have u2' : c1.2 = lgC T l := u2.trans g1
  have e0 : (pm_si c1 213 2 0).1 214 0 = -1 := by rw [pm_si_row (by omega)]; exact u4 0 (by omega)
  have w0 : pu_w 0 0 999 = 1 := by decide
  have i0 : pm_ib 0 1000 = true := by decide
  have e9 : ¬ (999 : Int32) < 0 := by decide
  obtain ⟨s, hs⟩ : ∃ s, s = pm_si (pm_si (pm_si (pm_si c1 213 2 0) 214 0 0) 215 0 0) 213 2 1 := ⟨_, rfl⟩
  have R : fX2_reach lw_SC 213 0 0 (pm_si c1 213 2 0) = some s := by
    have f1 : (pm_si (pm_si c1 213 2 0) 214 0 0).1 213 2 = 0 := by rw [pm_si_row (by omega), pm_si_same]
    have f2 : (pm_si (pm_si (pm_si c1 213 2 0) 214 0 0) 215 0 0).1 213 2 = 0 := by rw [pm_si_row (by omega), pm_si_row (by omega), pm_si_same]
    have f3 : (0 : Int32) + 1 = 1 := by decide
    rw [hs]
    simp only [fX2_reach, ev_within, w0, Option.bind_some, if_neg (show ¬ (1 : Int32) = 0 by decide), pm_si_2, u2', lgS, lenS, i0, cl6, if_true, e0, pm_si_same, if_neg e9, pm_let, f1, f2, f3]
  have s4 : s.1 214 = (pm_si c1 214 0 0).1 214 := by
    funext i
    rw [hs, pm_si_row (by omega), pm_si_row (by omega)]
    by_cases hi : i = 0
    · subst hi; rw [pm_si_same, pm_si_same]
    · rw [pm_si_ne (by omega), pm_si_row (by omega), pm_si_ne (by omega)]
  have s4n : ∀ i, i ≠ 0 → i < 1000 → s.1 214 i = -1 := fun i hi hi2 => by rw [s4, pm_si_ne (by omega)]; exact u4 i hi2
  have s40 : s.1 214 0 = nI 0 := by rw [s4, pm_si_same]; rfl
  have s2 : s.1 213 2 = nI 1 := by rw [hs, pm_si_same]; rfl
  have s5 : s.1 215 0 = nI 0 := by rw [hs, pm_si_row (by omega), pm_si_same]; rfl
  have hn0 : nI 0 ≠ -1 := qn_nem1 (by omega)
  have lv0 : pu_lv B 0 0 := ⟨rfl, fun d' hd => absurd hd (Nat.not_lt_zero _)⟩
  have hQ : pu_Q B M 0 1 0 s := by
    refine ⟨1, fun _ => 0, by omega, s2, ?_, fun i hi => ?_, fun i h1 h2 => lv0, fun i h1 h2 => by omega, fun x hx => ?_, fun x hx => ?_, fun z hz => ?_, fun z hz hz2 => ?_⟩
    · have h0 := pu_cn_0 (t := c1.1 214) (k := 1000) (fun i hi => u4 i hi)
      have h1 := (pu_cn_upd (t := c1.1 214) (t' := s.1 214) (x := 0) (k := 1000) (u4 0 (by omega)) (by rw [s40]; exact hn0) (fun i hi => by rw [s4, pm_si_ne (by omega)])).2 (by omega)
      rw [h0] at h1
      omega
    · rw [show i = 0 by omega]; exact ⟨s5, (by decide : 0 < 1000)⟩
    · by_cases hx0 : x = 0
      · subst hx0; exact Or.inr ⟨0, by omega, by omega, lv0, s40⟩
      · exact Or.inl (s4n x hx0 hx)
    · rw [show x = 0 from hx, s40]; exact hn0
    · exact Or.inl ⟨0, by omega, by omega, by rw [show z = 0 from hz.1]⟩
    · exfalso
      by_cases hz0 : z = 0
      · subst hz0
        have := pu_lv_uniq hz lv0
        omega
      · exact hz2 (s4n z hz0 (pu_rd_lt hz.1))
  obtain ⟨c', y1, y2⟩ := loop 1001 0 pm_fuel s (by omega) (by unfold pm_fuel; omega) ⟨0, 1, hQ⟩ (by rw [hs]; exact u2) (fun q q1 q2 q3 => by rw [hs, pm_si_row q1, pm_si_row q3, pm_si_row q2, pm_si_row q1, u3 q q2]) (fun k hk => by rw [hs, pm_si_ne (by omega), pm_si_row (by omega), pm_si_row (by omega), pm_si_ne (by omega), u3 213 (by omega)])
  have y1' : fX2_layOn_L21 lw_SC 213 (nI M) (fun s13 => some s13) pm_fuel 0 s = some c' := y1
  refine ⟨c', ?_, y2⟩
  rw [fX2_layOn, g1, show lgC T l 213 0 = 214 by simp only [lgS], u1, Option.bind_some, pm_let, R, Option.bind_some, y1']
