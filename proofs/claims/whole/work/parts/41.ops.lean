/-! what can be had: levels -/
def pu_adj (B : Nat → Prop) (x y : Nat) : Prop := ∃ b, B b ∧ (y = x + b ∨ x = y + b)
def pu_rd (B : Nat → Prop) : Nat → Nat → Prop
  | 0, x => x = 0
  | k + 1, x => pu_rd B k x ∨ (x < 1000 ∧ ∃ y, pu_rd B k y ∧ pu_adj B y x)
def pu_lv (B : Nat → Prop) (d x : Nat) : Prop := pu_rd B d x ∧ ∀ d', d' < d → ¬ pu_rd B d' x
theorem pu_rd_lt {B : Nat → Prop} {k x : Nat} (h : pu_rd B k x) : x < 1000 := by
  induction k with
  | zero => rw [pu_rd] at h; omega
  | succ k ih =>
    rcases h with h | h
    · exact ih h
    · exact h.1
theorem pu_rd_add {B : Nat → Prop} {k x : Nat} (h : pu_rd B k x) (m : Nat) : pu_rd B (k + m) x := by
  induction m with
  | zero => exact h
  | succ m ih => exact Or.inl ih
theorem pu_rd_mono {B : Nat → Prop} {k m x : Nat} (hkm : k ≤ m) (h : pu_rd B k x) : pu_rd B m x := by
  have := pu_rd_add h (m - k)
  rwa [show k + (m - k) = m by omega] at this
theorem pu_lv_uniq {B : Nat → Prop} {d d' x : Nat} (h : pu_lv B d x) (h' : pu_lv B d' x) : d = d' := by
  rcases Nat.lt_trichotomy d d' with q | q | q
  · exact absurd h.1 (h'.2 d q)
  · exact q
  · exact absurd h'.1 (h.2 d' q)
theorem pu_rd_lv {B : Nat → Prop} {k x : Nat} (h : pu_rd B k x) : ∃ d, d ≤ k ∧ pu_lv B d x := by
  induction k with
  | zero => exact ⟨0, Nat.le_refl _, h, fun d' hd => absurd hd (Nat.not_lt_zero _)⟩
  | succ k ih =>
    by_cases h2 : pu_rd B k x
    · obtain ⟨d, h3, h4⟩ := ih h2
      exact ⟨d, by omega, h4⟩
    · exact ⟨k + 1, Nat.le_refl _, h, fun d' hd h3 => h2 (pu_rd_mono (by omega) h3)⟩
theorem pu_lv_prev {B : Nat → Prop} {k x : Nat} (h : pu_rd B (k + 1) x) (h2 : ¬ pu_rd B k x) : ∃ y, pu_lv B k y ∧ pu_adj B y x := by
  rcases h with h | ⟨hx, y, h3, h4⟩
  · exact absurd h h2
  · refine ⟨y, ⟨h3, fun d' hd h5 => h2 ?_⟩, h4⟩
    have : pu_rd B (d' + 1) x := Or.inr ⟨hx, y, h5, h4⟩
    exact pu_rd_mono (by omega) this
theorem pu_lv_next {B : Nat → Prop} {d x y : Nat} (h : pu_lv B d x) (ha : pu_adj B x y) (hy : y < 1000) (hn : ¬ pu_rd B d y) : pu_lv B (d + 1) y :=
  ⟨Or.inr ⟨hy, x, h.1, ha⟩, fun _ hd h5 => hn (pu_rd_mono (by omega) h5)⟩
theorem pu_rd_fix {B : Nat → Prop} {d : Nat} (h : ∀ x, pu_rd B (d + 1) x → pu_rd B d x) (k x : Nat) (hx : pu_rd B (d + k) x) : pu_rd B d x := by
  induction k generalizing x with
  | zero => exact hx
  | succ k ih =>
    rcases hx with hx | ⟨h1, y, h2, h3⟩
    · exact ih x hx
    · exact h x (Or.inr ⟨h1, y, ih y h2, h3⟩)
def pu_cn (t : Nat → Int32) : Nat → Nat
  | 0 => 0
  | k + 1 => pu_cn t k + (if t k = -1 then 0 else 1)
theorem pu_cn_le (t : Nat → Int32) (k : Nat) : pu_cn t k ≤ k := by
  induction k with
  | zero => exact Nat.le_refl _
  | succ k ih => rw [pu_cn]; split <;> omega
theorem pu_cn_lt {t : Nat → Int32} {k x : Nat} (hx : x < k) (h : t x = -1) : pu_cn t k < k := by
  induction k with
  | zero => omega
  | succ k ih =>
    rw [pu_cn]
    by_cases hk : x = k
    · subst hk
      rw [if_pos h]
      have := pu_cn_le t x
      omega
    · have := ih (by omega)
      split <;> omega
theorem pu_cn_upd {t t' : Nat → Int32} {x k : Nat} (h : t x = -1) (hv : t' x ≠ -1) (ho : ∀ i, i ≠ x → t' i = t i) : (k ≤ x → pu_cn t' k = pu_cn t k) ∧ (x < k → pu_cn t' k = pu_cn t k + 1) := by
  induction k with
  | zero => exact ⟨fun _ => rfl, fun z => absurd z (Nat.not_lt_zero _)⟩
  | succ k ih =>
    rw [pu_cn, pu_cn]
    refine ⟨fun z => ?_, fun z => ?_⟩
    · rw [ih.1 (by omega), ho k (by omega)]
    · by_cases hk : k = x
      · subst hk
        rw [ih.1 (Nat.le_refl _), if_pos h, if_neg hv]
      · rw [ih.2 (by omega), ho k hk]
        omega
theorem pu_cn_0 {t : Nat → Int32} {k : Nat} (h : ∀ i, i < k → t i = -1) : pu_cn t k = 0 := by
  induction k with
  | zero => rfl
  | succ k ih => rw [pu_cn, ih (fun i hi => h i (by omega)), if_pos (h k (by omega))]
/-- the queue: d the level of its head, e where the next level begins, h the head -/
def pu_Q (B : Nat → Prop) (M d e h : Nat) (c : pm_H) : Prop := ∃ (qn : Nat) (q : Nat → Nat),
  (h ≤ e ∧ e ≤ qn ∧ d ≤ M) ∧ c.1 213 2 = nI qn ∧ qn = pu_cn (c.1 214) 1000 ∧
  (∀ i, i < qn → c.1 215 i = nI (q i) ∧ q i < 1000) ∧
  (∀ i, h ≤ i → i < e → pu_lv B d (q i)) ∧
  (∀ i, e ≤ i → i < qn → pu_lv B (d + 1) (q i) ∧ d < M) ∧
  (∀ x, x < 1000 → c.1 214 x = -1 ∨ ∃ dd, dd ≤ d + 1 ∧ dd ≤ M ∧ pu_lv B dd x ∧ c.1 214 x = nI dd) ∧
  (∀ x, pu_rd B d x → c.1 214 x ≠ -1) ∧
  (∀ z, pu_lv B d z → (∃ i, h ≤ i ∧ i < e ∧ q i = z) ∨ (d < M → ∀ y, y < 1000 → pu_adj B z y → c.1 214 y ≠ -1)) ∧
  (∀ z, pu_lv B (d + 1) z → c.1 214 z ≠ -1 → ∃ i, e ≤ i ∧ i < qn ∧ q i = z)
theorem pu_Q.cg {B : Nat → Prop} {M d e h : Nat} {c c' : pm_H} (H : pu_Q B M d e h c) (h2 : c'.1 213 2 = c.1 213 2) (h4 : c'.1 214 = c.1 214) (h5 : c'.1 215 = c.1 215) : pu_Q B M d e h c' := by
  unfold pu_Q at H ⊢
  rw [h2, h4, h5]
  exact H
theorem ev_reach {B : Nat → Prop} {M d e h u T l : Nat} {c : pm_H} {y : Int32} (H : pu_Q B M d e h c) (hM : M ≤ 20) (hd : d < M) (hu : pu_lv B d u) (g1 : c.2 = lgC T l) (hy : ∀ Y, Y < 1000 → y = nI Y → pu_adj B u Y) : ∃ c', fX2_reach lw_SC 213 y (nI (d + 1)) c = some c' ∧ pu_Q B M d e h c' ∧ c'.2 = c.2 ∧ (∀ q, q ≠ 213 → q ≠ 214 → q ≠ 215 → c'.1 q = c.1 q) ∧ (∀ k, k ≠ 2 → c'.1 213 k = c.1 213 k) ∧ (∀ x, c.1 214 x ≠ -1 → c'.1 214 x = c.1 214 x) ∧ (∀ Y, Y < 1000 → y = nI Y → c'.1 214 Y ≠ -1) ∧ ∀ i, i < e → c'.1 215 i = c.1 215 i := by
  rcases pu_w01 y 0 999 with hw | hw
  · refine ⟨c, by simp [fX2_reach, ev_within, hw], H, rfl, fun _ _ _ _ => rfl, fun _ _ => rfl, fun _ _ => rfl, fun Y hY e => ?_, fun _ _ => rfl⟩
    exfalso
    rw [e, pu_w, if_neg (qn_notneg (by omega)), if_neg (fun z => by have := (qn_lt_iff (a := 999) (by omega) (by omega)).mp z; omega)] at hw
    exact absurd hw (by decide)
  have wl := pu_w_lit hw
  obtain ⟨Y, rfl, ⟨hY1, hY2⟩, hY3⟩ := qn_of (lo := 0) (hi := 999) (by omega) (by simpa using wl.1) (by simpa using wl.2)
  have i1 : pm_ib (nI Y) 1000 = true := pm_ib_nI (by omega) (by omega)
  have c1 : (nI Y).toNatClampNeg = Y := nI_clamp (by omega)
  by_cases ht : c.1 214 Y = -1
  · obtain ⟨qn, q, ⟨k1, k2, k3⟩, k4, k5, k6, k7, k8, k9, k10, k11, k12⟩ := H
    have hlt : qn < 1000 := by rw [k5]; exact pu_cn_lt (x := Y) (by omega) ht
    have e9 : ¬ (999 : Int32) < nI qn := fun z => by have := (qn_lt_iff (a := 999) (by omega) (by omega)).mp z; omega
    have i2 : pm_ib (nI qn) 1000 = true := pm_ib_nI (by omega) (by omega)
    have c2 : (nI qn).toNatClampNeg = qn := nI_clamp (by omega)
    have hnr : ¬ pu_rd B d Y := fun z => k10 Y z ht
    have hlv : pu_lv B (d + 1) Y := pu_lv_next hu (hy Y (by omega) rfl) (by omega) hnr
    have hne : nI (d + 1) ≠ -1 := qn_nem1 (by omega)
    have e1 : ∀ v, (pm_si c 214 Y v).1 213 2 = nI qn := fun v => by rw [pm_si_row (by omega)]; exact k4
    have e2 : ∀ v v', (pm_si (pm_si c 214 Y v) 215 qn v').1 213 2 = nI qn := fun v v' => by rw [pm_si_row (by omega), pm_si_row (by omega)]; exact k4
    have r4 : (pm_si (pm_si (pm_si c 214 Y (nI (d + 1))) 215 qn (nI Y)) 213 2 (nI (qn + 1))).1 214 = (pm_si c 214 Y (nI (d + 1))).1 214 := by rw [pm_si_row (by omega), pm_si_row (by omega)]
    have r4s : (pm_si c 214 Y (nI (d + 1))).1 214 Y = nI (d + 1) := pm_si_same
    have r4n : ∀ i, i ≠ Y → (pm_si c 214 Y (nI (d + 1))).1 214 i = c.1 214 i := fun i hi => pm_si_ne (by omega)
    have mk : ∀ x, c.1 214 x ≠ -1 → (pm_si c 214 Y (nI (d + 1))).1 214 x = c.1 214 x := fun x hx => r4n x (fun z => hx (by rw [z]; exact ht))
    have mk' : ∀ x, c.1 214 x ≠ -1 → (pm_si c 214 Y (nI (d + 1))).1 214 x ≠ -1 := fun x hx => by rw [mk x hx]; exact hx
    refine ⟨pm_si (pm_si (pm_si c 214 Y (nI (d + 1))) 215 qn (nI Y)) 213 2 (nI (qn + 1)), ?_, ⟨qn + 1, fun i => if i = qn then Y else q i, ⟨k1, by omega, k3⟩, pm_si_same, ?_, fun i hi => ?_, fun i h1 h2 => ?_, fun i h1 h2 => ?_, fun x hx => ?_, fun x hx => ?_, fun z hz => ?_, fun z hz hz2 => ?_⟩, rfl, fun q q1 q2 q3 => by rw [pm_si_row q1, pm_si_row q3, pm_si_row q2], fun k hk => by rw [pm_si_ne (by omega), pm_si_row (by omega), pm_si_row (by omega)], fun x hx => ?_, fun Y' hY' e => ?_, fun i hi => by rw [pm_si_row (by omega), pm_si_ne (by omega), pm_si_row (by omega)]⟩
    · simp only [fX2_reach, ev_within, hw, Option.bind_some, if_neg (show ¬ (1 : Int32) = 0 by decide), g1, lgS, lenS, i1, c1, if_true, if_pos ht, k4, if_neg e9, pm_let, pm_si_2, e1, i2, c2, e2, (nL qn).2.2.2.2.2.2]
    · rw [r4, (pu_cn_upd ht (by rw [r4s]; exact hne) r4n).2 (by omega), k5]
    · show (pm_si (pm_si (pm_si c 214 Y (nI (d + 1))) 215 qn (nI Y)) 213 2 (nI (qn + 1))).1 215 i = nI (if i = qn then Y else q i) ∧ (if i = qn then Y else q i) < 1000
      by_cases hiq : i = qn
      · subst hiq
        rw [if_pos rfl, pm_si_row (by omega), pm_si_same]
        exact ⟨rfl, by omega⟩
      · rw [if_neg hiq, pm_si_row (by omega), pm_si_ne (by omega), pm_si_row (by omega)]
        exact k6 i (by omega)
    · show pu_lv B d (if i = qn then Y else q i)
      rw [if_neg (by omega)]
      exact k7 i h1 h2
    · show pu_lv B (d + 1) (if i = qn then Y else q i) ∧ d < M
      by_cases hiq : i = qn
      · rw [if_pos hiq]; exact ⟨hlv, hd⟩
      · rw [if_neg hiq]; exact k8 i h1 (by omega)
    · rw [r4]
      by_cases hxY : x = Y
      · subst hxY
        exact Or.inr ⟨d + 1, by omega, by omega, hlv, r4s⟩
      · rw [r4n x hxY]; exact k9 x hx
    · rw [r4]; exact mk' x (k10 x hx)
    · rw [r4]
      rcases k11 z hz with ⟨i, z1, z2, z3⟩ | z
      · exact Or.inl ⟨i, z1, z2, by show (if i = qn then Y else q i) = z; rw [if_neg (by omega)]; exact z3⟩
      · exact Or.inr (fun a y1 y2 y3 => mk' y1 (z a y1 y2 y3))
    · rw [r4] at hz2
      by_cases hzY : z = Y
      · exact ⟨qn, by omega, by omega, by show (if qn = qn then Y else q qn) = z; rw [if_pos rfl]; exact hzY.symm⟩
      · rw [r4n z hzY] at hz2
        obtain ⟨i, z1, z2, z3⟩ := k12 z hz hz2
        exact ⟨i, z1, by omega, by show (if i = qn then Y else q i) = z; rw [if_neg (by omega)]; exact z3⟩
    · rw [r4]; exact mk x hx
    · have : Y' = Y := ((qn_inj (by omega) (by omega)).mp e).symm
      subst this
      rw [r4, r4s]; exact hne
  · refine ⟨c, ?_, H, rfl, fun _ _ _ _ => rfl, fun _ _ => rfl, fun _ _ => rfl, fun Y' hY' e => ?_, fun _ _ => rfl⟩
    · simp only [fX2_reach, ev_within, hw, Option.bind_some, if_neg (show ¬ (1 : Int32) = 0 by decide), g1, lgS, lenS, i1, c1, if_true, if_neg ht]
    · have : Y' = Y := ((qn_inj (by omega) (by omega)).mp e).symm
      subst this
      exact ht
theorem ev_layFrom {B : Nat → Prop} {M d e h u K T l : Nat} {b : Nat → Nat} {c : pm_H} (H : pu_Q B M d e h c) (hM : M ≤ 20) (hd : d < M) (hu : pu_lv B d u) (hut : c.1 214 u = nI d) (g1 : c.2 = lgC T l) (hK : K ≤ 6) (eK : c.1 213 4 = nI K) (hb : ∀ i, i < K → c.1 216 i = nI (b i) ∧ b i ≤ 240 ∧ B (b i)) : ∃ c', fX2_layFrom lw_SC 213 (nI u) c = some c' ∧ pu_Q B M d e h c' ∧ c'.2 = c.2 ∧ (∀ q, q ≠ 213 → q ≠ 214 → q ≠ 215 → c'.1 q = c.1 q) ∧ (∀ k, k ≠ 2 → c'.1 213 k = c.1 213 k) ∧ (∀ x, c.1 214 x ≠ -1 → c'.1 214 x = c.1 214 x) ∧ (∀ i, i < K → ∀ y, y < 1000 → y = u + b i ∨ u = y + b i → c'.1 214 y ≠ -1) ∧ ∀ i, i < e → c'.1 215 i = c.1 215 i := by
  have hu1 := pu_rd_lt hu.1
  have i1 : pm_ib (nI u) 1000 = true := pm_ib_nI (by omega) (by omega)
  have c1 : (nI u).toNatClampNeg = u := nI_clamp (by omega)
  have hdn : nI d ≠ -1 := qn_nem1 (by omega)
  have loop : ∀ k j n (s : pm_H), j + k = K → k < n → pu_Q B M d e h s → s.2 = c.2 → (∀ q, q ≠ 213 → q ≠ 214 → q ≠ 215 → s.1 q = c.1 q) → (∀ k, k ≠ 2 → s.1 213 k = c.1 213 k) → (∀ x, c.1 214 x ≠ -1 → s.1 214 x = c.1 214 x) → (∀ i, i < j → ∀ y, y < 1000 → y = u + b i ∨ u = y + b i → s.1 214 y ≠ -1) → (∀ i, i < e → s.1 215 i = c.1 215 i) → ∃ c', fX2_layFrom_L2 lw_SC 213 (nI u) (fun s12 => some s12) n (nI j) s = some c' ∧ pu_Q B M d e h c' ∧ c'.2 = c.2 ∧ (∀ q, q ≠ 213 → q ≠ 214 → q ≠ 215 → c'.1 q = c.1 q) ∧ (∀ k, k ≠ 2 → c'.1 213 k = c.1 213 k) ∧ (∀ x, c.1 214 x ≠ -1 → c'.1 214 x = c.1 214 x) ∧ (∀ i, i < K → ∀ y, y < 1000 → y = u + b i ∨ u = y + b i → c'.1 214 y ≠ -1) ∧ ∀ i, i < e → c'.1 215 i = c.1 215 i := by
    intro k
    induction k with
    | zero =>
      intro j n s hj hn a1 a2 a3 a4 a5 a6 a7
      obtain ⟨n, rfl⟩ : ∃ z, n = z + 1 := ⟨n - 1, by omega⟩
      have hjK : j = K := by omega
      subst hjK
      have e0 : nI j ≤ nI j := Int32.le_refl _
      exact ⟨s, by rw [fX2_layFrom_L2, a4 4 (by omega), eK, if_pos e0], a1, a2, a3, a4, a5, a6, a7⟩
    | succ k ih =>
      intro j n s hj hn a1 a2 a3 a4 a5 a6 a7
      obtain ⟨n, rfl⟩ : ∃ z, n = z + 1 := ⟨n - 1, by omega⟩
      have e0 : ¬ nI K ≤ nI j := fun z => by have := (qn_le_iff (by omega) (by omega)).mp z; omega
      obtain ⟨b1, b2, b3⟩ := hb j (by omega)
      have i2 : pm_ib (nI j) 6 = true := pm_ib_nI (by omega) (by omega)
      have c2 : (nI j).toNatClampNeg = j := nI_clamp (by omega)
      have t1 : s.1 214 u = nI d := by rw [a5 u (by rw [hut]; exact hdn)]; exact hut
      have a2' : s.2 = lgC T l := a2.trans g1
      have bs : s.1 216 j = nI (b j) := by rw [a3 216 (by omega) (by omega) (by omega)]; exact b1
      obtain ⟨s1, p1, p2, p3, p4, p5, p6, p7, p8⟩ := ev_reach (y := nI u + nI (b j)) a1 hM hd hu a2' (fun Y hY eY => by
        rw [qn_add] at eY
        have := (qn_inj (by omega) (by omega)).mp eY
        exact ⟨b j, b3, Or.inl this.symm⟩)
      have t2 : s1.1 214 u = nI d := by rw [p6 u (by rw [t1]; exact hdn)]; exact t1
      have p3' : s1.2 = lgC T l := p3.trans a2'
      have bs1 : s1.1 216 j = nI (b j) := by rw [p4 216 (by omega) (by omega) (by omega)]; exact bs
      have hsub : (nI u - nI (b j)).toInt = (u : Int) - (b j : Int) := pk_sub_toInt (by omega) (by omega)
      obtain ⟨s2, q1, q2, q3, q4, q5, q6, q7, q8⟩ := ev_reach (y := nI u - nI (b j)) p2 hM hd hu p3' (fun Y hY eY => by
        rw [eY, nI_toInt (by omega)] at hsub
        exact ⟨b j, b3, Or.inr (by omega)⟩)
      have m1 : ∀ x, s.1 214 x ≠ -1 → s2.1 214 x = s.1 214 x := fun x hx => by rw [q6 x (by rw [p6 x hx]; exact hx), p6 x hx]
      obtain ⟨c', y1, y2⟩ := ih (j + 1) n s2 (by omega) (by omega) q2 (q3.trans (p3.trans a2)) (fun q z1 z2 z3 => by rw [q4 q z1 z2 z3, p4 q z1 z2 z3, a3 q z1 z2 z3]) (fun k hk => by rw [q5 k hk, p5 k hk, a4 k hk]) (fun x hx => by rw [m1 x (by rw [a5 x hx]; exact hx), a5 x hx]) (fun i hi y hy hor => by
        by_cases hij : i = j
        · subst hij
          rcases hor with hor | hor
          · have := p7 y hy (by rw [hor, qn_add])
            rw [q6 y this]; exact this
          · exact q7 y hy (by
              apply Int32.toInt_inj.mp
              rw [hsub, nI_toInt (by omega)]
              omega)
        · have := a6 i (by omega) y hy hor
          rw [m1 y this]; exact this) (fun i hi => by rw [q8 i hi, p8 i hi, a7 i hi])
      refine ⟨c', ?_, y2⟩
      rw [fX2_layFrom_L2, a4 4 (by omega), eK, if_neg e0]
      simp only [a2', lgS, lenS, i1, i2, c1, c2, if_true, bs, t1, (nL d).2.2.2.2.2.2, p1, Option.bind_some, p3', bs1, t2, q1, (nL j).2.2.2.2.2.2, y1]
  exact loop K 0 pm_fuel c (by omega) (by unfold pm_fuel; omega) H rfl (fun _ _ _ _ => rfl) (fun _ _ => rfl) (fun _ _ => rfl) (fun i hi => by omega) (fun _ _ => rfl)
