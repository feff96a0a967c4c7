/-! how warped it was -/
theorem qn_max (a b : Int32) : (pm_max a b).toInt = max a.toInt b.toInt := by
  unfold pm_max
  by_cases h : a < b
  · rw [if_pos h]; have := Int32.lt_iff_toInt_lt.mp h; omega
  · rw [if_neg h]; rw [Int32.lt_iff_toInt_lt] at h; omega
theorem qn_min (a b : Int32) : (pm_min a b).toInt = min a.toInt b.toInt := by
  unfold pm_min
  by_cases h : b < a
  · rw [if_pos h]; have := Int32.lt_iff_toInt_lt.mp h; omega
  · rw [if_neg h]; rw [Int32.lt_iff_toInt_lt] at h; omega
theorem qn_addI {a b : Int32} (h1 : -2 ^ 31 ≤ a.toInt + b.toInt) (h2 : a.toInt + b.toInt < 2 ^ 31) : (a + b).toInt = a.toInt + b.toInt := by
  rw [Int32.toInt_add]
  exact Int.bmod_eq_of_le (by omega) (by omega)
theorem qn_subI {a b : Int32} (h1 : -2 ^ 31 ≤ a.toInt - b.toInt) (h2 : a.toInt - b.toInt < 2 ^ 31) : (a - b).toInt = a.toInt - b.toInt := by
  rw [Int32.toInt_sub]
  exact Int.bmod_eq_of_le (by omega) (by omega)
theorem qn_t : (0 : Int32).toInt = 0 ∧ (1 : Int32).toInt = 1 ∧ (9 : Int32).toInt = 9 ∧ (-9 : Int32).toInt = -9 ∧ (-1 : Int32).toInt = -1 ∧ (1000 : Int32).toInt = 1000 ∧ (99 : Int32).toInt = 99 ∧ (-99 : Int32).toInt = -99 := by decide
def pu_P (c : pm_H) (s : Nat → Nat) (a : Int32) (v : Int) (j : Nat) : Prop := ∀ i, i < j → c.1 23 i = a → (c.1 20 i).toInt - (s i : Int) = v
theorem pu_P.succ {c : pm_H} {s : Nat → Nat} {a : Int32} {v : Int} {j : Nat} : pu_P c s a v (j + 1) ↔ pu_P c s a v j ∧ (c.1 23 j = a → (c.1 20 j).toInt - (s j : Int) = v) := by
  constructor
  · intro h
    exact ⟨fun i hi => h i (by omega), h j (by omega)⟩
  · intro ⟨h1, h2⟩ i hi
    by_cases hij : i = j
    · subst hij; exact h2
    · exact h1 i (by omega)
theorem pu_wasWarped : pu_3 pu_Rel fX11_wasWarped fX12_wasWarped := by
  intro c r h a a2 a3
  obtain ⟨T, l, lo, np, H⟩ := id h
  obtain ⟨hT, g1, g2, g3, -, hf, b1, b2, -⟩ := id H
  obtain ⟨L', y, nt, nh, d1, ⟨d2, d3⟩, -, -, -, ⟨d8, d9⟩, -, d12, -⟩ := b2
  simp only [Nat.reduceAdd] at d2 d8
  rcases pu_w01 a 0 9999 with hw | hw
  · exact pu_ro h (-1000000002) (by simp [fX11_wasWarped, ev_within, hw]) (by simp [fX12_wasWarped, evI, hw])
  rcases pu_w01 a2 1 240 with hw2 | hw2
  · exact pu_ro h (-1000000002) (by simp [fX11_wasWarped, ev_within, hw, hw2]) (by simp [fX12_wasWarped, evI, hw, hw2])
  rcases pu_w01 a3 0 1 with hw3 | hw3
  · exact pu_ro h (-1000000002) (by simp [fX11_wasWarped, ev_within, hw, hw2, hw3]) (by simp [fX12_wasWarped, evI, hw, hw2, hw3])
  have wl := pu_w_lit hw2
  obtain ⟨L, rfl, ⟨hL1, hL2⟩, hL3⟩ := qn_of (lo := 1) (hi := 240) (by omega) (by simpa using wl.1) (by simpa using wl.2)
  obtain ⟨s, hs⟩ : ∃ s : Nat → Nat, s = fun i => L * (r.1 7 (26 + i)).toNatClampNeg / 12 := ⟨_, rfl⟩
  have hB : ∀ i, i < nt → s i ≤ 5020 ∧ fX10_bendIfLong lw_SC 19 (nI i) (nI L) c = some (c.1 20 i - nI (s i), c) ∧ fX12_madeBy lw_SR (nI L) (r.1 7 (26 + i)) r = some (nI (s i), r) ∧ r.1 7 (46 + i) = c.1 23 i ∧ r.1 7 (6 + i) = c.1 20 i ∧ -9999 ≤ (c.1 20 i).toInt ∧ (c.1 20 i).toInt ≤ 9999 := by
    intro i hi
    obtain ⟨fe, tw, yy, h1, ⟨z1, z2, z3⟩, ⟨y1, y2, y3⟩, x1, x2⟩ := d12 i hi
    simp only [Nat.reduceAdd] at z1 z2 y1 y2 y3 x1
    have hm : L * (12 * fe + tw) ≤ 240 * 251 := Nat.mul_le_mul (by omega) (by omega)
    have es : s i = L * (12 * fe + tw) / 12 := by rw [hs]; show L * (r.1 7 (26 + i)).toNatClampNeg / 12 = _; rw [z3, nI_clamp (by omega)]
    have e12 : (12 : Int32) * nI fe + nI tw = nI (12 * fe + tw) := by rw [show (12 : Int32) = nI 12 from rfl, qn_mul, qn_add]
    have i1 : pm_ib (nI i) 20 = true := pm_ib_nI (by omega) (by omega)
    have c1 : (nI i).toNatClampNeg = i := nI_clamp (by omega)
    refine ⟨by omega, ?_, ?_, x2.trans x1.symm, y1, y2, y3⟩
    · simp only [fX10_bendIfLong, fX10_span, g1, lgS, lenS, i1, c1, if_true, z1, z2, e12, qn_mul, qn_div12 (show L * (12 * fe + tw) < 2 ^ 31 by omega), Option.bind_some, es]
    · rw [fX12_madeBy, z3, qn_mul, qn_div12 (show L * (12 * fe + tw) < 2 ^ 31 by omega), es]
  have hfu : nt + 300 < pm_fuel := by unfold pm_fuel; omega
  have t := qn_t
  have cls : ∀ k i m (lo hi : Int32), i + k = nt → k < m → (-99 ≤ lo.toInt ∧ lo.toInt ≤ 9999 ∧ -16000 ≤ hi.toInt ∧ hi.toInt ≤ 99) → (∀ v, (lo.toInt ≤ v ∧ v ≤ hi.toInt) ↔ (-99 ≤ v ∧ v ≤ 99 ∧ pu_P c s a v i)) → ∃ lo' hi' : Int32, (-99 ≤ lo'.toInt ∧ lo'.toInt ≤ 9999 ∧ -16000 ≤ hi'.toInt ∧ hi'.toInt ≤ 99) ∧ (∀ v, (lo'.toInt ≤ v ∧ v ≤ hi'.toInt) ↔ (-99 ≤ v ∧ v ≤ 99 ∧ pu_P c s a v nt)) ∧ ∀ kx, fX11_wasWarped_L45 lw_SC 1 a (nI L) a3 kx m lo hi (nI i) c = kx lo' hi' c := by
    intro k
    induction k with
    | zero =>
      intro i m lo hi hi' hm hb hv
      obtain ⟨m, rfl⟩ : ∃ z, m = z + 1 := ⟨m - 1, by omega⟩
      have e : nI nt ≤ nI i := (qn_le_iff (by omega) (by omega)).mpr (by omega)
      have : i = nt := by omega
      subst this
      exact ⟨lo, hi, hb, hv, fun kx => by simp only [fX11_wasWarped_L45, g1, lgS, d8, if_pos e]⟩
    | succ k ih =>
      intro i m lo hi hi' hm hb hv
      obtain ⟨m, rfl⟩ : ∃ z, m = z + 1 := ⟨m - 1, by omega⟩
      have e : ¬ nI nt ≤ nI i := fun z => by have := (qn_le_iff (by omega) (by omega)).mp z; omega
      obtain ⟨w1, w2, w3, w4, w5, w6, w7⟩ := hB i (by omega)
      have i1 : pm_ib (nI i) 20 = true := pm_ib_nI (by omega) (by omega)
      have c1 : (nI i).toNatClampNeg = i := nI_clamp (by omega)
      by_cases hy : c.1 23 i = a
      · have hbt : (c.1 20 i - nI (s i)).toInt = (c.1 20 i).toInt - (s i : Int) := by
          rw [qn_subI, nI_toInt (by omega)]
          · rw [nI_toInt (by omega)]; omega
          · rw [nI_toInt (by omega)]; omega
        have m1 := qn_max lo (c.1 20 i - nI (s i))
        have m2 := qn_min hi (c.1 20 i - nI (s i))
        obtain ⟨lo', hi', u1, u2, u3⟩ := ih (i + 1) m (pm_max lo (c.1 20 i - nI (s i))) (pm_min hi (c.1 20 i - nI (s i))) (by omega) (by omega) (by omega) (fun v => by
          rw [pu_P.succ, m1, m2, hbt]
          have := hv v
          constructor
          · intro ⟨z1, z2⟩
            have := this.mp ⟨by omega, by omega⟩
            exact ⟨this.1, this.2.1, this.2.2, fun _ => by omega⟩
          · intro ⟨z1, z2, z3, z4⟩
            have := this.mpr ⟨z1, z2, z3⟩
            have := z4 hy
            omega)
        refine ⟨lo', hi', u1, u2, fun kx => ?_⟩
        simp only [fX11_wasWarped_L45, g1, lgS, lenS, d8, if_neg e, i1, c1, if_true, if_pos hy, w2, Option.bind_some, pm_let, (nL i).2.2.2.2.2.2, u3]
      · obtain ⟨lo', hi', u1, u2, u3⟩ := ih (i + 1) m lo hi (by omega) (by omega) hb (fun v => by
          rw [pu_P.succ]
          have := hv v
          constructor
          · intro z
            have := this.mp z
            exact ⟨this.1, this.2.1, this.2.2, fun z => absurd z hy⟩
          · intro ⟨z1, z2, z3, z4⟩
            exact this.mpr ⟨z1, z2, z3⟩)
        refine ⟨lo', hi', u1, u2, fun kx => ?_⟩
        simp only [fX11_wasWarped_L45, g1, lgS, lenS, d8, if_neg e, i1, c1, if_true, if_neg hy, (nL i).2.2.2.2.2.2, u3]
  obtain ⟨lo', hi', u1, u2, u3⟩ := cls nt 0 pm_fuel (-99) 99 (by omega) (by omega) (by omega) (fun v => by
    constructor
    · intro z
      exact ⟨by omega, by omega, fun i hi => by omega⟩
    · intro z
      omega)
  have mdl : ∀ (v4 v5 v6 : Int32), -99 ≤ v6.toInt → v6.toInt ≤ 99 → ∀ k i m (f : Int32), i + k = nt → k < m → ((f = 1 ∧ pu_P c s a v6.toInt i) ∨ (f = 0 ∧ ¬ pu_P c s a v6.toInt i)) → ∃ f', ((f' = 1 ∧ pu_P c s a v6.toInt nt) ∨ (f' = 0 ∧ ¬ pu_P c s a v6.toInt nt)) ∧ ∀ kx, fX12_wasWarped_L60 lw_SR 1 a (nI L) a3 v4 v5 v6 kx m f (nI i) r = kx f' r := by
    intro v4 v5 v6 b1 b2 k
    induction k with
    | zero =>
      intro i m f hi' hm hb
      obtain ⟨m, rfl⟩ : ∃ z, m = z + 1 := ⟨m - 1, by omega⟩
      have e : nI nt ≤ nI i := (qn_le_iff (by omega) (by omega)).mpr (by omega)
      have : i = nt := by omega
      subst this
      exact ⟨f, hb, fun kx => by simp only [fX12_wasWarped_L60, g3, lgR, lenR, ib80, cl6, d9, if_true, if_pos e]⟩
    | succ k ih =>
      intro i m f hi' hm hb
      obtain ⟨m, rfl⟩ : ∃ z, m = z + 1 := ⟨m - 1, by omega⟩
      have e : ¬ nI nt ≤ nI i := fun z => by have := (qn_le_iff (by omega) (by omega)).mp z; omega
      obtain ⟨w1, w2, w3, w4, w5, w6, w7⟩ := hB i (by omega)
      have i1 : ∀ o, o ≤ 46 → pm_ib (nI (o + i)) 80 = true := fun o ho => pm_ib_nI (by omega) (by omega)
      have c1 : ∀ o, o ≤ 46 → (nI (o + i)).toNatClampNeg = o + i := fun o ho => nI_clamp (by omega)
      have hbt : (nI (s i) + v6).toInt = (s i : Int) + v6.toInt := qn_addInt (by omega) (by omega) (by omega)
      have n1 : ¬ (1 : Int32) = 0 := by decide
      have A : ∀ kx, fX12_wasWarped_L60 lw_SR 1 a (nI L) a3 v4 v5 v6 kx (m + 1) f (nI i) r = (if nI (s i) + v6 = c.1 20 i then fX12_wasWarped_J106 lw_SR 1 a (nI L) a3 v4 v5 v6 f (nI i) 1 (fun w7 w8 sw => fX12_wasWarped_L60 lw_SR 1 a (nI L) a3 v4 v5 v6 kx m w7 w8 sw) r else fX12_wasWarped_J106 lw_SR 1 a (nI L) a3 v4 v5 v6 f (nI i) 0 (fun w7 w8 sw => fX12_wasWarped_L60 lw_SR 1 a (nI L) a3 v4 v5 v6 kx m w7 w8 sw) r) := fun kx => by
        simp only [fX12_wasWarped_L60, g3, lgR, lenR, ib80, cl6, d9, if_true, if_neg e, nL, i1 26 (by omega), c1 26 (by omega), w3, Option.bind_some, i1 6 (by omega), c1 6 (by omega), w5]
      have B : ∀ t ag, fX12_wasWarped_J106 lw_SR 1 a (nI L) a3 v4 v5 v6 f (nI i) t ag r = (if f = 0 then ag 0 (nI (i + 1)) r else (if c.1 23 i = a then (if t = 0 then ag 0 (nI (i + 1)) r else ag 1 (nI (i + 1)) r) else ag 1 (nI (i + 1)) r)) := fun t ag => by
        simp only [fX12_wasWarped_J106, g3, lgR, lenR, if_true, nL, i1 46 (by omega), c1 46 (by omega), w4]
      rcases hb with ⟨rfl, hb⟩ | ⟨rfl, hb⟩
      · by_cases hy : c.1 23 i = a
        · by_cases hq : nI (s i) + v6 = c.1 20 i
          · have hP : pu_P c s a v6.toInt (i + 1) := pu_P.succ.mpr ⟨hb, fun _ => by rw [← hq, hbt]; omega⟩
            obtain ⟨f', z1, z2⟩ := ih (i + 1) m 1 (by omega) (by omega) (Or.inl ⟨rfl, hP⟩)
            exact ⟨f', z1, fun kx => by rw [A, if_pos hq, B, if_neg n1, if_pos hy, if_neg n1, z2]⟩
          · have hP : ¬ pu_P c s a v6.toInt (i + 1) := fun z => hq (Int32.toInt_inj.mp (by have := (pu_P.succ.mp z).2 hy; omega))
            obtain ⟨f', z1, z2⟩ := ih (i + 1) m 0 (by omega) (by omega) (Or.inr ⟨rfl, hP⟩)
            exact ⟨f', z1, fun kx => by rw [A, if_neg hq, B, if_neg n1, if_pos hy, if_pos rfl, z2]⟩
        · have hP : pu_P c s a v6.toInt (i + 1) := pu_P.succ.mpr ⟨hb, fun z => absurd z hy⟩
          obtain ⟨f', z1, z2⟩ := ih (i + 1) m 1 (by omega) (by omega) (Or.inl ⟨rfl, hP⟩)
          refine ⟨f', z1, fun kx => ?_⟩
          rw [A]
          split <;> rw [B, if_neg n1, if_neg hy, z2]
      · have hP : ¬ pu_P c s a v6.toInt (i + 1) := fun z => hb (pu_P.succ.mp z).1
        obtain ⟨f', z1, z2⟩ := ih (i + 1) m 0 (by omega) (by omega) (Or.inr ⟨rfl, hP⟩)
        refine ⟨f', z1, fun kx => ?_⟩
        rw [A]
        split <;> rw [B, if_pos rfl, z2]
  have out : ∀ (k m : Nat) (v6 v5 : Int32) (mN : Nat), v6.toInt + (k : Int) = 100 → -99 ≤ v6.toInt → k < m → ((v6.toInt ≤ lo'.toInt ∨ hi'.toInt < lo'.toInt) → mN = 0) → (lo'.toInt < v6.toInt → lo'.toInt ≤ hi'.toInt → (mN : Int) = min (v6.toInt - 1) hi'.toInt - lo'.toInt + 1) → (v5 = if mN = 0 then -1 else lo' + 1000) → ∃ mN' : Nat, (hi'.toInt < lo'.toInt → mN' = 0) ∧ (lo'.toInt ≤ hi'.toInt → (mN' : Int) = hi'.toInt - lo'.toInt + 1) ∧ ∀ kx, fX12_wasWarped_L47 lw_SR 1 a (nI L) a3 kx m (nI mN) v5 v6 r = kx (nI mN') (if mN' = 0 then -1 else lo' + 1000) r := by
    intro k
    induction k with
    | zero =>
      intro m v6 v5 mN hv h1 hm i1 i2 i3
      obtain ⟨m, rfl⟩ : ∃ z, m = z + 1 := ⟨m - 1, by omega⟩
      have e : (99 : Int32) < v6 := Int32.lt_iff_toInt_lt.mpr (by omega)
      refine ⟨mN, fun z => i1 (Or.inr z), fun z => ?_, fun kx => ?_⟩
      · have := i2 (by omega) z
        omega
      · simp only [fX12_wasWarped_L47, if_pos e, i3]
    | succ k ih =>
      intro m v6 v5 mN hv h1 hm i1 i2 i3
      obtain ⟨m, rfl⟩ : ∃ z, m = z + 1 := ⟨m - 1, by omega⟩
      have e : ¬ (99 : Int32) < v6 := fun z => by have := Int32.lt_iff_toInt_lt.mp z; omega
      obtain ⟨f', z1, z2⟩ := mdl (nI mN) v5 v6 h1 (by omega) nt 0 pm_fuel 1 (by omega) (by omega) (Or.inl ⟨rfl, fun i hi => by omega⟩)
      have z2' : ∀ kx, fX12_wasWarped_L60 lw_SR 1 a (nI L) a3 (nI mN) v5 v6 kx pm_fuel 1 0 r = kx f' r := z2
      have hinc : (v6 + 1).toInt = v6.toInt + 1 := qn_addI (by omega) (by omega)
      have hp := u2 v6.toInt
      have n1 : ¬ (1 : Int32) = 0 := by decide
      have m0 : nI mN + 0 = nI mN := Int32.add_zero _
      rcases z1 with ⟨rfl, hP⟩ | ⟨rfl, hP⟩
      · have hin := hp.mpr ⟨by omega, by omega, hP⟩
        by_cases hm0 : mN = 0
        · subst hm0
          have hlo : v6.toInt = lo'.toInt := by
            rcases Int.lt_or_le lo'.toInt v6.toInt with q | q
            · have := i2 q (by omega); omega
            · omega
          have hlo' : v6 = lo' := Int32.toInt_inj.mp hlo
          obtain ⟨mN', y1, y2, y3⟩ := ih m (v6 + 1) (v6 + 1000) 1 (by omega) (by omega) (by omega) (fun z => by omega) (fun z z' => by omega) (by rw [if_neg (by omega), hlo'])
          refine ⟨mN', y1, y2, fun kx => ?_⟩
          rw [fX12_wasWarped_L47, if_neg e, z2', if_neg n1, if_pos (show nI 0 = 0 from rfl), fX12_wasWarped_J166, if_neg n1, (nL 0).2.2.2.2.2.2]
          exact y3 kx
        · have e0 : ¬ nI mN = 0 := nI_ne0 (by omega) (by omega)
          have hlt : lo'.toInt < v6.toInt := by
            rcases Int.lt_or_le lo'.toInt v6.toInt with q | q
            · exact q
            · exact absurd (i1 (Or.inl q)) hm0
          have := i2 hlt (by omega)
          obtain ⟨mN', y1, y2, y3⟩ := ih m (v6 + 1) v5 (mN + 1) (by omega) (by omega) (by omega) (fun z => by omega) (fun z z' => by omega) (by rw [i3, if_neg hm0, if_neg (by omega)])
          refine ⟨mN', y1, y2, fun kx => ?_⟩
          rw [fX12_wasWarped_L47, if_neg e, z2', if_neg n1, if_neg e0, fX12_wasWarped_J164, fX12_wasWarped_J166, if_neg n1, (nL mN).2.2.2.2.2.2]
          exact y3 kx
      · have hout : ¬ (lo'.toInt ≤ v6.toInt ∧ v6.toInt ≤ hi'.toInt) := fun z => hP (hp.mp z).2.2
        obtain ⟨mN', y1, y2, y3⟩ := ih m (v6 + 1) v5 mN (by omega) (by omega) (by omega) (fun z => i1 (by omega)) (fun z z' => by have := i2 (by omega) z'; omega) i3
        refine ⟨mN', y1, y2, fun kx => ?_⟩
        rw [fX12_wasWarped_L47, if_neg e, z2', if_pos rfl, fX12_wasWarped_J164, fX12_wasWarped_J166, if_pos rfl, m0]
        exact y3 kx
  obtain ⟨mN', y1, y2, y3⟩ := out 199 pm_fuel (-99) (-1) 0 (by omega) (by omega) (by omega) (fun _ => rfl) (fun z => by omega) rfl
  have y3' : ∀ kx, fX12_wasWarped_L47 lw_SR 1 a (nI L) a3 kx pm_fuel 0 (-1) (-99) r = kx (nI mN') (if mN' = 0 then -1 else lo' + 1000) r := y3
  have u3' : ∀ kx, fX11_wasWarped_L45 lw_SC 1 a (nI L) a3 kx pm_fuel (-99) 99 0 c = kx lo' hi' c := u3
  have n1 : ¬ (1 : Int32) = 0 := by decide
  have hsub : (hi' - lo').toInt = hi'.toInt - lo'.toInt := qn_subI (by omega) (by omega)
  have hsub1 : (hi' - lo' + 1).toInt = hi'.toInt - lo'.toInt + 1 := by rw [qn_addI] <;> omega
  have hmN : mN' ≤ 199 := by
    rcases Int.lt_or_le hi'.toInt lo'.toInt with q | q
    · have := y1 q; omega
    · have := y2 q; omega
  have hmx : pm_max 0 (hi' - lo' + 1) = nI mN' := by
    apply Int32.toInt_inj.mp
    rw [qn_max, nI_toInt (by omega), hsub1]
    rcases Int.lt_or_le hi'.toInt lo'.toInt with q | q
    · have := y1 q; omega
    · have := y2 q; omega
  by_cases h3 : a3 = 0
  · refine pu_ro h (nI mN') ?_ ?_
    · simp only [fX11_wasWarped, ev_within, hw, hw2, hw3, Option.bind_some, if_neg n1, u3', if_pos h3, hmx]
    · simp only [fX12_wasWarped, evI, hw, hw2, hw3, Option.bind_some, if_neg n1, y3', if_pos h3]
  · refine pu_ro h (if mN' = 0 then -1 else lo' + 1000) ?_ ?_
    · simp only [fX11_wasWarped, ev_within, hw, hw2, hw3, Option.bind_some, if_neg n1, u3', if_neg h3]
      rcases Int.lt_or_le hi'.toInt lo'.toInt with q | q
      · rw [if_pos (Int32.lt_iff_toInt_lt.mpr q), if_pos (y1 q)]
      · have e : ¬ hi' < lo' := fun z => by have := Int32.lt_iff_toInt_lt.mp z; omega
        have := y2 q
        rw [if_neg e, if_neg (by omega)]
    · simp only [fX12_wasWarped, evI, hw, hw2, hw3, Option.bind_some, if_neg n1, y3', if_neg h3]
