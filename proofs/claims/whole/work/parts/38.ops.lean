/-! what was seen: rods, door -/
theorem ev_fill {q len : Nat} (x : Int32) {c : pm_H} (hl : pm_len lw_SC q = len) (hb : len ≤ 5000) : ∃ c', fJ7_fill_53178 lw_SC q x c = some c' ∧ c'.2 = c.2 ∧ (∀ a, a ≠ q → c'.1 a = c.1 a) ∧ ∀ k, k < len → c'.1 q k = x := by
  have loop : ∀ k i n (s : pm_H), i + k = len → k < n → s.2 = c.2 → (∀ a, a ≠ q → s.1 a = c.1 a) → (∀ j, j < i → s.1 q j = x) → ∃ c', fJ7_fill_53178_L5 lw_SC q x (nI len) (fun s5 => some s5) n (nI i) s = some c' ∧ c'.2 = c.2 ∧ (∀ a, a ≠ q → c'.1 a = c.1 a) ∧ ∀ k, k < len → c'.1 q k = x := by
    intro k
    induction k with
    | zero =>
      intro i n s hi hn h2 hq hj
      obtain ⟨n, rfl⟩ : ∃ z, n = z + 1 := ⟨n - 1, by omega⟩
      have e : nI len ≤ nI i := (qn_le_iff (by omega) (by omega)).mpr (by omega)
      exact ⟨s, by rw [fJ7_fill_53178_L5, if_pos e], h2, hq, fun j hj2 => hj j (by omega)⟩
    | succ k ih =>
      intro i n s hi hn h2 hq hj
      obtain ⟨n, rfl⟩ : ∃ z, n = z + 1 := ⟨n - 1, by omega⟩
      have e : ¬ nI len ≤ nI i := fun z => by have := (qn_le_iff (by omega) (by omega)).mp z; omega
      have i1 : pm_ib (nI i) len = true := pm_ib_nI (by omega) (by omega)
      have c1 : (nI i).toNatClampNeg = i := nI_clamp (by omega)
      rw [fJ7_fill_53178_L5, if_neg e]
      simp only [hl, i1, c1, if_true, pm_let, (nL i).2.2.2.2.2.2]
      refine ih (i + 1) n (pm_si s q i x) (by omega) (by omega) h2 (fun a ha => by rw [pm_si_row ha]; exact hq a ha) (fun j hj2 => ?_)
      by_cases hji : j = i
      · subst hji; rw [pm_si_same]
      · rw [pm_si_ne (by omega)]; exact hj j (by omega)
  obtain ⟨c', h1, h2⟩ := loop len 0 pm_fuel c (by omega) (by unfold pm_fuel; omega) rfl (fun _ _ => rfl) (fun j hj => absurd hj (Nat.not_lt_zero _))
  refine ⟨c', ?_, h2⟩
  rw [fJ7_fill_53178, pm_let, hl]
  exact h1
theorem pu_R.scr {c r c' r' : pm_H} {T l lo np : Nat} (H : pu_R c r T l lo np) (g : c'.2 = c.2) (g' : r'.2 = r.2) (hq : ∀ q, q ≤ 26 ∨ (28 ≤ q ∧ q ≤ 212) ∨ (220 ≤ q ∧ q ≤ 222) ∨ 226 ≤ q → c'.1 q = c.1 q) (hr : ∀ q, q ≠ 15 → q ≠ 16 → q ≠ 19 → r'.1 q = r.1 q) : pu_R c' r' T l lo np := by
  obtain ⟨hT, g1, g2, g3, ht, hf, b1, b2, b3, b4, hs, hsi, hb⟩ := id H
  have hr1 := hr 1 (by omega) (by omega) (by omega)
  have hc1 := hq 1 (by omega)
  exact H.mv g g' (fun q hq2 => hq q (by omega)) (fun q _ => hr q (by omega) (by omega) (by omega)) (fun _ _ => by rw [hr1]) (ht.cg (hq 2 (by omega)) (by rw [hc1]) (hr 8 (by omega) (by omega) (by omega)) (by rw [hr1])) (by rw [hc1, hr1]; exact hf) (by rw [hc1, hr1]; exact hs) (hsi.cg (fun q _ _ => hq q (by omega)) (fun q _ _ => hr q (by omega) (by omega) (by omega)) (by rw [hr1])) (hb.cg (fun q _ _ => hq q (by omega)) (fun q _ _ => hr q (by omega) (by omega) (by omega)) (by rw [hr1]))
def pu_SC (f x : Nat → Nat) (n T l : Nat) (c : pm_H) : Prop := c.2 = lgC T l ∧ c.1 220 2 = nI n ∧ ∀ j, j < n → c.1 221 j = nI (f j) ∧ c.1 222 j = nI (x j)
def pu_SR (f x : Nat → Nat) (n : Nat) (r : pm_H) : Prop := r.2 = lw_R0.2 ∧ r.1 1 34 = nI n ∧ ∀ j, j < n → r.1 17 j = nI (f j) ∧ r.1 18 j = nI (x j)
def pu_lo (f x : Nat → Nat) (l : Nat) : Nat → Int32
  | 0 => -9
  | j + 1 => pm_max (pu_lo f x l j) (nI (x j) - nI (l * f j))
def pu_hi (f x : Nat → Nat) (l : Nat) : Nat → Int32
  | 0 => 9
  | j + 1 => pm_min (pu_hi f x l j) (nI (x j) - nI (l * f j))
theorem pu_lohi {f x : Nat → Nat} {l n : Nat} (hl : l ≤ 240) (hb : ∀ j, j < n → f j ≤ 9 ∧ x j ≤ 9999) : (-9 ≤ (pu_lo f x l n).toInt ∧ (pu_lo f x l n).toInt ≤ 9999) ∧ (-2160 ≤ (pu_hi f x l n).toInt ∧ (pu_hi f x l n).toInt ≤ 9) ∧ ∀ v : Int, ((pu_lo f x l n).toInt ≤ v ∧ v ≤ (pu_hi f x l n).toInt) ↔ (-9 ≤ v ∧ v ≤ 9 ∧ ∀ j, j < n → ((l * f j : Nat) : Int) + v = (x j : Int)) := by
  have t := qn_t
  induction n with
  | zero =>
    simp only [pu_lo, pu_hi]
    refine ⟨by omega, by omega, fun v => ⟨fun h => ⟨by omega, by omega, fun j hj => absurd hj (Nat.not_lt_zero _)⟩, fun h => by omega⟩⟩
  | succ n ih =>
    obtain ⟨i1, i2, i3⟩ := ih (fun j hj => hb j (by omega))
    obtain ⟨h1, h2⟩ := hb n (by omega)
    have hm : l * f n ≤ 240 * 9 := Nat.mul_le_mul hl h1
    have e : (nI (x n) - nI (l * f n)).toInt = (x n : Int) - ((l * f n : Nat) : Int) := pk_sub_toInt (by omega) (by omega)
    simp only [pu_lo, pu_hi, qn_max, qn_min, e]
    refine ⟨by omega, by omega, fun v => ?_⟩
    have := i3 v
    constructor
    · intro z
      have w := this.mp (by omega)
      refine ⟨w.1, w.2.1, fun j hj => ?_⟩
      by_cases hjn : j = n
      · subst hjn; omega
      · exact w.2.2 j (by omega)
    · intro ⟨z1, z2, z3⟩
      have w := this.mpr ⟨z1, z2, fun j hj => z3 j (by omega)⟩
      have := z3 n (by omega)
      omega
def pu_ct (f x : Nat → Nat) (n l : Nat) : Nat := ((pu_hi f x l n).toInt - (pu_lo f x l n).toInt + 1).toNat
def pu_tot (f x : Nat → Nat) (n : Nat) : Nat → Nat
  | 0 => 0
  | k + 1 => pu_tot f x n k + pu_ct f x n (k + 1)
def pu_fs (f x : Nat → Nat) (n : Nat) : Nat → Nat
  | 0 => 0
  | k + 1 => if pu_fs f x n k = 0 then (if pu_ct f x n (k + 1) = 0 then 0 else k + 1) else pu_fs f x n k
theorem pu_fs_tot (f x : Nat → Nat) (n k : Nat) : pu_fs f x n k = 0 ↔ pu_tot f x n k = 0 := by
  induction k with
  | zero => exact ⟨fun _ => rfl, fun _ => rfl⟩
  | succ k ih =>
    rw [pu_fs, pu_tot]
    by_cases h : pu_fs f x n k = 0
    · rw [if_pos h]
      have := ih.mp h
      by_cases h2 : pu_ct f x n (k + 1) = 0
      · rw [if_pos h2]; omega
      · rw [if_neg h2]; omega
    · rw [if_neg h]
      have : ¬ pu_tot f x n k = 0 := fun z => h (ih.mpr z)
      omega
theorem pu_fs_le (f x : Nat → Nat) (n k : Nat) : pu_fs f x n k ≤ k := by
  induction k with
  | zero => exact Nat.le_refl _
  | succ k ih =>
    rw [pu_fs]
    split
    · split <;> omega
    · omega
theorem pu_fs_stay {f x : Nat → Nat} {n k : Nat} (h : pu_fs f x n k ≠ 0) (m : Nat) : pu_fs f x n (k + m) = pu_fs f x n k := by
  induction m with
  | zero => rfl
  | succ m ih =>
    rw [← Nat.add_assoc, pu_fs, if_neg (by rw [ih]; exact h)]
    exact ih
theorem pu_ct_le {f x : Nat → Nat} {l n : Nat} (hl : l ≤ 240) (hb : ∀ j, j < n → f j ≤ 9 ∧ x j ≤ 9999) : pu_ct f x n l ≤ 19 := by
  obtain ⟨h1, h2, -⟩ := pu_lohi hl hb
  unfold pu_ct
  omega
theorem pu_tot_le {f x : Nat → Nat} {n : Nat} (hb : ∀ j, j < n → f j ≤ 9 ∧ x j ≤ 9999) (k : Nat) (hk : k ≤ 240) : pu_tot f x n k ≤ 19 * k := by
  induction k with
  | zero => exact Nat.le_refl _
  | succ k ih =>
    have := ih (by omega)
    have := pu_ct_le (l := k + 1) hk hb
    rw [pu_tot]
    omega
theorem qn_ct {f x : Nat → Nat} {l n : Nat} (hl : l ≤ 240) (hb : ∀ j, j < n → f j ≤ 9 ∧ x j ≤ 9999) : pm_max 0 (pu_hi f x l n - pu_lo f x l n + 1) = nI (pu_ct f x n l) := by
  have t := qn_t
  obtain ⟨h1, h2, -⟩ := pu_lohi hl hb
  have h3 := pu_ct_le hl hb
  have e1 : (pu_hi f x l n - pu_lo f x l n).toInt = (pu_hi f x l n).toInt - (pu_lo f x l n).toInt := qn_subI (by omega) (by omega)
  have e2 : (pu_hi f x l n - pu_lo f x l n + 1).toInt = (pu_hi f x l n).toInt - (pu_lo f x l n).toInt + 1 := by rw [qn_addI] <;> omega
  apply Int32.toInt_inj.mp
  rw [qn_max, nI_toInt (by omega), e2]
  unfold pu_ct
  omega
theorem ev_gather {f x : Nat → Nat} {n T l0 : Nat} {c : pm_H} (hn : n ≤ 6) (hb : ∀ j, j < n → f j ≤ 9 ∧ x j ≤ 9999) (hc : pu_SC f x n T l0 c) : ∃ c', fX7_gather lw_SC 220 c = some (nI (pu_tot f x n 240), c') ∧ c'.2 = c.2 ∧ (∀ q, q ≠ 223 → q ≠ 224 → c'.1 q = c.1 q) ∧ ∀ l, 1 ≤ l → l ≤ 240 → c'.1 223 l = pu_lo f x l n ∧ c'.1 224 l = pu_hi f x l n := by
  obtain ⟨g1, hc2, hc3⟩ := hc
  have inner : ∀ (v1 : Int32) l, 1 ≤ l → l ≤ 240 → ∀ k j m (s0 s : pm_H), j + k = n → k < m → s.2 = c.2 → (∀ q, q ≠ 223 → q ≠ 224 → s.1 q = c.1 q) → s.1 223 l = pu_lo f x l j → s.1 224 l = pu_hi f x l j → (∀ i, i ≠ l → s.1 223 i = s0.1 223 i ∧ s.1 224 i = s0.1 224 i) → ∃ s' : pm_H, s'.2 = c.2 ∧ (∀ q, q ≠ 223 → q ≠ 224 → s'.1 q = c.1 q) ∧ s'.1 223 l = pu_lo f x l n ∧ s'.1 224 l = pu_hi f x l n ∧ (∀ i, i ≠ l → s'.1 223 i = s0.1 223 i ∧ s'.1 224 i = s0.1 224 i) ∧ ∀ kx, fX7_gather_L29 lw_SC 220 v1 (nI l) kx m (nI j) s = kx s' := by
    intro v1 l hl1 hl2 k
    induction k with
    | zero =>
      intro j m s0 s hj hm h2 hq i1 i2 i3
      obtain ⟨m, rfl⟩ : ∃ z, m = z + 1 := ⟨m - 1, by omega⟩
      have hjn : j = n := by omega
      subst hjn
      have e : nI j ≤ nI j := Int32.le_refl _
      have e2 : s.1 220 2 = nI j := by rw [hq 220 (by omega) (by omega)]; exact hc2
      exact ⟨s, h2, hq, i1, i2, i3, fun kx => by rw [fX7_gather_L29, e2, if_pos e]⟩
    | succ k ih =>
      intro j m s0 s hj hm h2 hq i1 i2 i3
      obtain ⟨m, rfl⟩ : ∃ z, m = z + 1 := ⟨m - 1, by omega⟩
      have e : ¬ nI n ≤ nI j := fun z => by have := (qn_le_iff (by omega) (by omega)).mp z; omega
      have e2 : s.1 220 2 = nI n := by rw [hq 220 (by omega) (by omega)]; exact hc2
      have e3 : s.1 221 j = nI (f j) := by rw [hq 221 (by omega) (by omega)]; exact (hc3 j (by omega)).1
      have e4 : s.1 222 j = nI (x j) := by rw [hq 222 (by omega) (by omega)]; exact (hc3 j (by omega)).2
      have b1 : pm_ib (nI j) 6 = true := pm_ib_nI (by omega) (by omega)
      have c1 : (nI j).toNatClampNeg = j := nI_clamp (by omega)
      have b2 : pm_ib (nI l) 241 = true := pm_ib_nI (by omega) (by omega)
      have c2 : (nI l).toNatClampNeg = l := nI_clamp (by omega)
      have h3 : s.2 = lgC T l0 := h2.trans g1
      obtain ⟨s', z1, z2, z3, z4, z5, z6⟩ := ih (j + 1) m s0 (pm_si (pm_si s 223 l (pu_lo f x l (j + 1))) 224 l (pu_hi f x l (j + 1))) (by omega) (by omega) h2 (fun q q1 q2 => by rw [pm_si_row q2, pm_si_row q1]; exact hq q q1 q2) (by rw [pm_si_row (by omega), pm_si_same]) pm_si_same (fun i hi => by rw [pm_si_ne (by omega), pm_si_ne (by omega), pm_si_ne (by omega), pm_si_ne (by omega)]; exact i3 i hi)
      refine ⟨s', z1, z2, z3, z4, z5, fun kx => ?_⟩
      have e5 : ∀ y, (pm_si s 223 l y).1 224 l = pu_hi f x l j := fun y => by rw [pm_si_row (by omega)]; exact i2
      rw [← z6 kx, fX7_gather_L29, e2, if_neg e]
      simp only [h3, lgS, lenS, b1, b2, c1, c2, if_true, pm_let, e3, e4, qn_mul, pm_si_2, i1, e5, (nL j).2.2.2.2.2.2, pu_lo, pu_hi]
  have outer : ∀ k l m (s : pm_H), l + k = 241 → 1 ≤ l → k < m → s.2 = c.2 → (∀ q, q ≠ 223 → q ≠ 224 → s.1 q = c.1 q) → (∀ i, 1 ≤ i → i < l → s.1 223 i = pu_lo f x i n ∧ s.1 224 i = pu_hi f x i n) → ∃ c', fX7_gather_L4 lw_SC 220 (fun w30 s31 => some (w30, s31)) m (nI (pu_tot f x n (l - 1))) (nI l) s = some (nI (pu_tot f x n 240), c') ∧ c'.2 = c.2 ∧ (∀ q, q ≠ 223 → q ≠ 224 → c'.1 q = c.1 q) ∧ ∀ l, 1 ≤ l → l ≤ 240 → c'.1 223 l = pu_lo f x l n ∧ c'.1 224 l = pu_hi f x l n := by
    intro k
    induction k with
    | zero =>
      intro l m s hl h1 hm h2 hq hi
      obtain ⟨m, rfl⟩ : ∃ z, m = z + 1 := ⟨m - 1, by omega⟩
      have hll : l = 241 := by omega
      subst hll
      have e : (240 : Int32) < nI 241 := by decide
      exact ⟨s, by rw [fX7_gather_L4, if_pos e], h2, hq, fun i z1 z2 => hi i z1 (by omega)⟩
    | succ k ih =>
      intro l m s hl h1 hm h2 hq hi
      obtain ⟨m, rfl⟩ : ∃ z, m = z + 1 := ⟨m - 1, by omega⟩
      have e : ¬ (240 : Int32) < nI l := fun z => by have := (qn_lt_iff (a := 240) (by omega) (by omega)).mp z; omega
      have b2 : pm_ib (nI l) 241 = true := pm_ib_nI (by omega) (by omega)
      have c2 : (nI l).toNatClampNeg = l := nI_clamp (by omega)
      have h3 : s.2 = lgC T l0 := h2.trans g1
      obtain ⟨s', z1, z2, z3, z4, z5, z6⟩ := inner (nI (pu_tot f x n (l - 1))) l h1 (by omega) n 0 pm_fuel s (pm_si (pm_si s 223 l (-9)) 224 l 9) (by omega) (by unfold pm_fuel; omega) h2 (fun q q1 q2 => by rw [pm_si_row q2, pm_si_row q1]; exact hq q q1 q2) (by rw [pm_si_row (by omega), pm_si_same]; rfl) (by rw [pm_si_same]; rfl) (fun i hi => by rw [pm_si_ne (by omega), pm_si_ne (by omega), pm_si_ne (by omega), pm_si_ne (by omega)]; exact ⟨rfl, rfl⟩)
      have z6' : ∀ kx, fX7_gather_L29 lw_SC 220 (nI (pu_tot f x n (l - 1))) (nI l) kx pm_fuel 0 (pm_si (pm_si s 223 l (-9)) 224 l 9) = kx s' := z6
      have z1' : s'.2 = lgC T l0 := z1.trans g1
      obtain ⟨c', y1, y2⟩ := ih (l + 1) m s' (by omega) (by omega) (by omega) z1 z2 (fun i w1 w2 => by
        by_cases hil : i = l
        · subst hil; exact ⟨z3, z4⟩
        · rw [(z5 i hil).1, (z5 i hil).2]; exact hi i w1 (by omega))
      refine ⟨c', ?_, y2⟩
      have et : pu_tot f x n (l + 1 - 1) = pu_tot f x n (l - 1) + pu_ct f x n l := by
        obtain ⟨l', rfl⟩ : ∃ z, l = z + 1 := ⟨l - 1, by omega⟩
        rfl
      rw [et] at y1
      rw [fX7_gather_L4, if_neg e]
      simp only [h3, lgS, lenS, b2, c2, if_true, pm_let, pm_si_2, z6', z1', z3, z4, qn_ct (show l ≤ 240 by omega) hb, qn_add, (nL l).2.2.2.2.2.2, y1]
  obtain ⟨c', y1, y2⟩ := outer 240 1 pm_fuel c (by omega) (by omega) (by unfold pm_fuel; omega) rfl (fun _ _ _ => rfl) (fun i w1 w2 => by omega)
  exact ⟨c', y1, y2⟩
theorem ev_couldBe {f x : Nat → Nat} {n l : Nat} {r : pm_H} {v : Int32} (hn : n ≤ 6) (hb : ∀ j, j < n → f j ≤ 9 ∧ x j ≤ 9999) (hr : pu_SR f x n r) (hl : l ≤ 240) (hv1 : -9 ≤ v.toInt) (hv2 : v.toInt ≤ 9) : fX12_couldBe lw_SR 1 (nI l) v r = some (if (pu_lo f x l n).toInt ≤ v.toInt ∧ v.toInt ≤ (pu_hi f x l n).toInt then 1 else 0, r) := by
  obtain ⟨g3, hr2, hr3⟩ := hr
  have zb1 : pm_zb 1 = true := by decide
  have zb0 : pm_zb 0 = true := by decide
  have n1 : ¬ (1 : Int32) = 0 := by decide
  have loop : ∀ k j m, j + k = n → k < m → (∀ i, i < j → ((l * f i : Nat) : Int) + v.toInt = (x i : Int)) → ((∀ i, i < n → ((l * f i : Nat) : Int) + v.toInt = (x i : Int)) ∧ fX12_couldBe_L5 lw_SR 1 (nI l) v (fun w8 s9 => (if pm_zb w8 = true then some (w8, s9) else none)) m 1 (nI j) r = some (1, r)) ∨ ((¬ ∀ i, i < n → ((l * f i : Nat) : Int) + v.toInt = (x i : Int)) ∧ fX12_couldBe_L5 lw_SR 1 (nI l) v (fun w8 s9 => (if pm_zb w8 = true then some (w8, s9) else none)) m 1 (nI j) r = some (0, r)) := by
    intro k
    induction k with
    | zero =>
      intro j m hj hm hP
      obtain ⟨m, rfl⟩ : ∃ z, m = z + 1 := ⟨m - 1, by omega⟩
      have hjn : j = n := by omega
      subst hjn
      have e : nI j ≤ nI j := Int32.le_refl _
      exact Or.inl ⟨hP, by simp only [fX12_couldBe_L5, hr2, if_pos e, zb1, if_true]⟩
    | succ k ih =>
      intro j m hj hm hP
      obtain ⟨m, rfl⟩ : ∃ z, m = z + 1 := ⟨m - 1, by omega⟩
      have e : ¬ nI n ≤ nI j := fun z => by have := (qn_le_iff (by omega) (by omega)).mp z; omega
      obtain ⟨e3, e4⟩ := hr3 j (by omega)
      obtain ⟨h1, h2⟩ := hb j (by omega)
      have hmm : l * f j ≤ 240 * 9 := Nat.mul_le_mul hl h1
      have b1 : pm_ib (nI j) 6 = true := pm_ib_nI (by omega) (by omega)
      have c1 : (nI j).toNatClampNeg = j := nI_clamp (by omega)
      have ei : (nI (l * f j) + v).toInt = ((l * f j : Nat) : Int) + v.toInt := qn_addInt (by omega) (by omega) (by omega)
      by_cases hq : nI (l * f j) + v = nI (x j)
      · have hqi : ((l * f j : Nat) : Int) + v.toInt = (x j : Int) := by rw [← ei, hq, nI_toInt (by omega)]
        have E : fX12_couldBe_L5 lw_SR 1 (nI l) v (fun w8 s9 => (if pm_zb w8 = true then some (w8, s9) else none)) (m + 1) 1 (nI j) r = fX12_couldBe_L5 lw_SR 1 (nI l) v (fun w8 s9 => (if pm_zb w8 = true then some (w8, s9) else none)) m 1 (nI (j + 1)) r := by
          rw [fX12_couldBe_L5]
          simp only [hr2, if_neg e, if_neg n1, g3, lgR, lenR, b1, c1, if_true, e3, e4, qn_mul, if_pos hq, (nL j).2.2.2.2.2.2]
        rw [E]
        exact ih (j + 1) m (by omega) (by omega) (fun i hi => by
          by_cases hij : i = j
          · subst hij; exact hqi
          · exact hP i (by omega))
      · refine Or.inr ⟨fun z => hq (Int32.toInt_inj.mp (by rw [ei, nI_toInt (by omega)]; exact z j (by omega))), ?_⟩
        obtain ⟨m, rfl⟩ : ∃ z, m = z + 1 := ⟨m - 1, by omega⟩
        rw [fX12_couldBe_L5]
        simp only [hr2, if_neg e, if_neg n1, g3, lgR, lenR, b1, c1, if_true, e3, e4, qn_mul, if_neg hq, (nL j).2.2.2.2.2.2]
        rw [fX12_couldBe_L5]
        simp only [if_true, zb0]
        split <;> rfl
  have key := (pu_lohi (n := n) hl hb).2.2 v.toInt
  rw [fX12_couldBe]
  rcases loop n 0 pm_fuel (by omega) (by unfold pm_fuel; omega) (fun i hi => by omega) with ⟨z1, z2⟩ | ⟨z1, z2⟩
  · rw [if_pos (key.mpr ⟨hv1, hv2, z1⟩)]
    exact z2
  · rw [if_neg (fun z => z1 (key.mp z).2.2)]
    exact z2
