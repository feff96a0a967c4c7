/-- the reference's table when k of ko offices are weighed -/
def pu_PR (fit : Nat → Nat) (ko k : Nat) (r0 r : pm_H) : Prop := r.2 = r0.2 ∧ (∀ q, q ≠ 16 → r.1 q = r0.1 q) ∧ ∀ j, j ≤ k → ∀ S, S < 64 → r.1 16 (64 * (ko - j) + S) = nI (pu_G fit ko j S)
theorem ev_has {F S p : Nat} (hF : F < 64) (hS : S < 64) (hp : p < 6) (r : pm_H) : fX12_has lw_SR (nI F &&& (nI S ^^^ (-1 : Int32))) (nI p) r = some (if pu_free F S p = true then 1 else 0, r) := by
  by_cases hf : pu_free F S p = true
  · rw [fX12_has, if_pos ((qn_free hF hS hp).mpr hf), if_pos hf]
  · rw [fX12_has, if_neg (fun z => hf ((qn_free hF hS hp).mp z)), if_neg hf]
theorem ev_mxR {F S o np b : Nat} {g : Nat → Nat} {r : pm_H} (g3 : r.2 = lw_R0.2) (hn : r.1 1 7 = nI np) (hnp : np ≤ 6) (ho : o < 6) (hF : F < 64) (hS : S < 64) (hg : ∀ S, S < 64 → r.1 16 (64 * (o + 1) + S) = nI (g S)) (hgb : ∀ S, g S ≤ 6) (hb : b ≤ 6) (kx : Int32 → pm_H → Option pm_H) : fX12_findFilled_L73 lw_SR 1 (nI o) (nI F) (nI S) kx pm_fuel (nI b) 0 r = kx (nI (pu_mx b (fun p => if pu_free F S p = true then 1 + g (S ||| 2 ^ p) else 0) np)) r := by
  have n10 : ¬ (1 : Int32) = 0 := by decide
  obtain ⟨v, hv⟩ : ∃ v : Nat → Nat, v = fun p => if pu_free F S p = true then 1 + g (S ||| 2 ^ p) else 0 := ⟨_, rfl⟩
  rw [← hv]
  have hv7 : ∀ p, v p ≤ 7 := fun p => by
    rw [hv]
    show (if pu_free F S p = true then 1 + g (S ||| 2 ^ p) else 0) ≤ 7
    have := hgb (S ||| 2 ^ p)
    split <;> omega
  have hm7 : ∀ p, pu_mx b v p ≤ 7 := fun p => by
    rcases pu_mx_is b v p with h | ⟨q, -, h⟩
    · omega
    · rw [h]; exact hv7 q
  have loop : ∀ k p m, p + k = np → k < m → fX12_findFilled_L73 lw_SR 1 (nI o) (nI F) (nI S) kx m (nI (pu_mx b v p)) (nI p) r = kx (nI (pu_mx b v np)) r := by
    intro k
    induction k with
    | zero =>
      intro p m hp hm
      obtain ⟨m, rfl⟩ : ∃ z, m = z + 1 := ⟨m - 1, by omega⟩
      have hpn : p = np := by omega
      subst hpn
      rw [fX12_findFilled_L73, hn, if_pos (Int32.le_refl _)]
    | succ k ih =>
      intro p m hp hm
      obtain ⟨m, rfl⟩ : ∃ z, m = z + 1 := ⟨m - 1, by omega⟩
      have e0 : ¬ nI np ≤ nI p := fun z => by have := (qn_le_iff (by omega) (by omega)).mp z; omega
      have ih' := ih (p + 1) m (by omega) (by omega)
      have b1 := hm7 p
      have b2 := hv7 p
      have fin : fX12_findFilled_J120 lw_SR 1 (nI o) (nI F) (nI S) (nI (pu_mx b v p)) (nI p) (nI (v p)) (fun w4 w5 sw => fX12_findFilled_L73 lw_SR 1 (nI o) (nI F) (nI S) kx m w4 w5 sw) r = kx (nI (pu_mx b v np)) r := by
        by_cases hle : v p ≤ pu_mx b v p
        · have ec : nI (v p) ≤ nI (pu_mx b v p) := (qn_le_iff (by omega) (by omega)).mpr hle
          have em : pu_mx b v (p + 1) = pu_mx b v p := by rw [pu_mx, if_pos hle]
          rw [em] at ih'
          rw [fX12_findFilled_J120, if_pos ec, (nL p).2.2.2.2.2.2]
          exact ih'
        · have ec : ¬ nI (v p) ≤ nI (pu_mx b v p) := fun z => hle ((qn_le_iff (by omega) (by omega)).mp z)
          have em : pu_mx b v (p + 1) = v p := by rw [pu_mx, if_neg hle]
          rw [em] at ih'
          rw [fX12_findFilled_J120, if_neg ec, (nL p).2.2.2.2.2.2]
          exact ih'
      rw [fX12_findFilled_L73, hn, if_neg e0, ev_has hF hS (by omega), Option.bind_some]
      by_cases hf : pu_free F S p = true
      · have hlt := qn_orlt S hS p (by omega)
        have i1 : pm_ib (nI (64 * (o + 1) + (S ||| 2 ^ p))) 448 = true := pm_ib_nI (by omega) (by omega)
        have c1 : (nI (64 * (o + 1) + (S ||| 2 ^ p))).toNatClampNeg = 64 * (o + 1) + (S ||| 2 ^ p) := nI_clamp (by omega)
        have ev : nI (v p) = nI (1 + g (S ||| 2 ^ p)) := by rw [hv]; show nI (if pu_free F S p = true then 1 + g (S ||| 2 ^ p) else 0) = _; rw [if_pos hf]
        rw [ev] at fin
        simp only [if_pos hf]
        rw [if_neg n10, qn_or S hS p (by omega), e64s]
        simp only [g3, lgR, lenR, i1, c1, if_true, hg _ hlt, (nL _).1]
        exact fin
      · have ev : nI (v p) = 0 := by rw [hv]; show nI (if pu_free F S p = true then 1 + g (S ||| 2 ^ p) else 0) = _; rw [if_neg hf]; rfl
        rw [ev] at fin
        simp only [if_neg hf, if_true]
        exact fin
  exact loop np 0 pm_fuel (by omega) (by unfold pm_fuel; omega)
theorem ev_findFilled {fit : Nat → Nat} {np ko : Nat} {r : pm_H} (g3 : r.2 = lw_R0.2) (hn : r.1 1 7 = nI np) (hnp : np ≤ 6) (hko : ko ≤ 6) (eko : r.1 1 4 = nI ko) (hfl : ∀ o, o < ko → fit o < 64) (hfp : ∀ o p, o < ko → Nat.testBit (fit o) p = true → p < np) (hfit : ∀ (s : pm_H), s.2 = r.2 → (∀ q, q ≠ 16 → s.1 q = r.1 q) → ∀ o, o < ko → fX12_fitsOf lw_SR 1 (nI o) s = some (nI (fit o), s)) : ∃ r', fX12_findFilled lw_SR 1 r = some r' ∧ pu_PR fit ko ko r r' := by
  have fill : ∀ k i n (s : pm_H), i + k = 64 → k < n → s.2 = r.2 → (∀ q, q ≠ 16 → s.1 q = r.1 q) → (∀ j, j < i → s.1 16 (64 * ko + j) = 0) → ∃ r', r'.2 = r.2 ∧ (∀ q, q ≠ 16 → r'.1 q = r.1 q) ∧ (∀ j, j < 64 → r'.1 16 (64 * ko + j) = 0) ∧ ∀ kx, fX12_findFilled_L2 lw_SR 1 kx n (nI i) s = kx r' := by
    intro k
    induction k with
    | zero =>
      intro i n s hi hn a1 a2 a3
      obtain ⟨n, rfl⟩ : ∃ z, n = z + 1 := ⟨n - 1, by omega⟩
      have hi64 : i = 64 := by omega
      subst hi64
      exact ⟨s, a1, a2, a3, fun kx => by rw [fX12_findFilled_L2, if_pos (by decide)]⟩
    | succ k ih =>
      intro i n s hi hn a1 a2 a3
      obtain ⟨n, rfl⟩ : ∃ z, n = z + 1 := ⟨n - 1, by omega⟩
      have e0 : ¬ (64 : Int32) ≤ nI i := fun z => by have := (qn_le_iff (a := 64) (by omega) (by omega)).mp z; omega
      have i1 : pm_ib (nI (64 * ko + i)) 448 = true := pm_ib_nI (by omega) (by omega)
      have c1 : (nI (64 * ko + i)).toNatClampNeg = 64 * ko + i := nI_clamp (by omega)
      have a1' : s.2 = lw_R0.2 := a1.trans g3
      have s4 : s.1 1 4 = nI ko := by rw [a2 1 (by omega)]; exact eko
      obtain ⟨r', y1, y2, y3, y4⟩ := ih (i + 1) n (pm_si s 16 (64 * ko + i) 0) (by omega) (by omega) a1 (fun q hq => by rw [pm_si_row hq]; exact a2 q hq) (fun j hj => by
        by_cases e : j = i
        · subst e; rw [pm_si_same]
        · rw [pm_si_ne (by omega)]; exact a3 j (by omega))
      refine ⟨r', y1, y2, y3, fun kx => ?_⟩
      rw [← y4 kx, fX12_findFilled_L2, if_neg e0, s4, e64r]
      simp only [a1', lgR, lenR, i1, c1, if_true, pm_let, (nL i).2.2.2.2.2.2]
  have row : ∀ k o, k < ko → o = ko - (k + 1) → ∀ j S m (s : pm_H), S + j = 64 → j < m → pu_PR fit ko k r s → (∀ S', S' < S → s.1 16 (64 * o + S') = nI (pu_G fit ko (k + 1) S')) → ∃ r', pu_PR fit ko (k + 1) r r' ∧ ∀ kx, fX12_findFilled_L48 lw_SR 1 (nI o) (nI (fit o)) kx m (nI S) s = kx r' := by
    intro k o hk ho j
    induction j with
    | zero =>
      intro S m s hS hm ⟨p1, p2, p3⟩ h3
      obtain ⟨m, rfl⟩ : ∃ z, m = z + 1 := ⟨m - 1, by omega⟩
      have hS64 : S = 64 := by omega
      subst hS64
      refine ⟨s, ⟨p1, p2, fun j hj S hS => ?_⟩, fun kx => by rw [fX12_findFilled_L48, if_pos (by decide)]⟩
      by_cases e : j = k + 1
      · subst e; rw [← ho]; exact h3 S hS
      · exact p3 j (by omega) S hS
    | succ j ih =>
      intro S m s hS hm ⟨p1, p2, p3⟩ h3
      obtain ⟨m, rfl⟩ : ∃ z, m = z + 1 := ⟨m - 1, by omega⟩
      have e0 : ¬ (64 : Int32) ≤ nI S := fun z => by have := (qn_le_iff (a := 64) (by omega) (by omega)).mp z; omega
      have hok : ko - k = o + 1 := by omega
      have a1' : s.2 = lw_R0.2 := p1.trans g3
      have s7 : s.1 1 7 = nI np := by rw [p2 1 (by omega)]; exact hn
      have hg : ∀ S, S < 64 → s.1 16 (64 * (o + 1) + S) = nI (pu_G fit ko k S) := fun S hS => by rw [← hok]; exact p3 k (Nat.le_refl _) S hS
      have hgb : ∀ S, pu_G fit ko k S ≤ 6 := fun S => by have := pu_G_le fit ko k S; omega
      have i1 : pm_ib (nI (64 * (o + 1) + S)) 448 = true := pm_ib_nI (by omega) (by omega)
      have c1 : (nI (64 * (o + 1) + S)).toNatClampNeg = 64 * (o + 1) + S := nI_clamp (by omega)
      have i2 : pm_ib (nI (64 * o + S)) 448 = true := pm_ib_nI (by omega) (by omega)
      have c2 : (nI (64 * o + S)).toNatClampNeg = 64 * o + S := nI_clamp (by omega)
      have eG : pu_mx (pu_G fit ko k S) (fun p => if pu_free (fit o) S p = true then 1 + pu_G fit ko k (S ||| 2 ^ p) else 0) np = pu_G fit ko (k + 1) S := by
        rw [pu_G, ← ho]
        have := pu_mx_stop (pu_G fit ko k S) (fun p => if pu_free (fit o) S p = true then 1 + pu_G fit ko k (S ||| 2 ^ p) else 0) np (fun p hp => by
          show (if pu_free (fit o) S p = true then 1 + pu_G fit ko k (S ||| 2 ^ p) else 0) = 0
          rw [if_neg]
          intro hf
          unfold pu_free at hf
          have := hfp o p (by omega) (Bool.and_eq_true _ _ |>.mp hf).1
          omega) (6 - np)
        rw [← this]
        congr 1
        omega
      obtain ⟨r', y1, y2⟩ := ih (S + 1) m (pm_si s 16 (64 * o + S) (nI (pu_G fit ko (k + 1) S))) (by omega) (by omega) ⟨p1, fun q hq => by rw [pm_si_row hq]; exact p2 q hq, fun j' hj' S' hS' => by rw [pm_si_ne (by omega)]; exact p3 j' hj' S' hS'⟩ (fun S' hS' => by
        by_cases e : S' = S
        · subst e; rw [pm_si_same]
        · rw [pm_si_ne (by omega)]; exact h3 S' (by omega))
      refine ⟨r', y1, fun kx => ?_⟩
      rw [← y2 kx, fX12_findFilled_L48, if_neg e0, e64s]
      simp only [a1', lgR, lenR, i1, c1, if_true, pm_let, hg S (by omega)]
      rw [ev_mxR a1' s7 hnp (by omega) (hfl o (by omega)) (by omega) hg hgb (hgb S), eG, e64r]
      simp only [a1', lgR, lenR, i2, c2, if_true, (nL S).2.2.2.2.2.2]
  have loop : ∀ n k m (s : pm_H), k + n = ko → n < m → pu_PR fit ko k r s → ∃ r', fX12_findFilled_L36 lw_SR 1 (fun s25 => some s25) m (nI n - 1) s = some r' ∧ pu_PR fit ko ko r r' := by
    intro n
    induction n with
    | zero =>
      intro k m s hk hm H
      obtain ⟨m, rfl⟩ : ∃ z, m = z + 1 := ⟨m - 1, by omega⟩
      have hkk : k = ko := by omega
      subst hkk
      exact ⟨s, by rw [fX12_findFilled_L36, if_pos (by decide)], H⟩
    | succ n ih =>
      intro k m s hk hm H
      obtain ⟨m, rfl⟩ : ∃ z, m = z + 1 := ⟨m - 1, by omega⟩
      have en : nI (n + 1) - 1 = nI n := by rw [show (1 : Int32) = nI 1 from rfl, qn_sub (by omega)]; congr 1
      have e0 := qn_notneg (j := n) (by omega)
      obtain ⟨s', y1, y2⟩ := row k n (by omega) (by omega) 64 0 pm_fuel s (by omega) (by unfold pm_fuel; omega) H (fun S' h => absurd h (Nat.not_lt_zero _))
      obtain ⟨r', z1, z2⟩ := ih (k + 1) m s' (by omega) (by omega) y1
      refine ⟨r', ?_, z2⟩
      have em : nI n + (-1 : Int32) = nI n - 1 := by rw [Int32.sub_eq_add_neg]
      have y2' : ∀ kx, fX12_findFilled_L48 lw_SR 1 (nI n) (nI (fit n)) kx pm_fuel 0 s = kx s' := y2
      rw [en, fX12_findFilled_L36, if_neg e0, hfit s H.1 H.2.1 n (by omega), Option.bind_some, y2', em]
      exact z1
  obtain ⟨s, f1, f2, f3, f4⟩ := fill 64 0 pm_fuel r (by omega) (by unfold pm_fuel; omega) rfl (fun _ _ => rfl) (fun j hj => absurd hj (Nat.not_lt_zero _))
  have f4' : ∀ kx, fX12_findFilled_L2 lw_SR 1 kx pm_fuel 0 r = kx s := f4
  obtain ⟨r', z1, z2⟩ := loop ko 0 pm_fuel s (by omega) (by unfold pm_fuel; omega) ⟨f1, f2, fun j hj S hS => by
    have hj0 : j = 0 := by omega
    subst hj0
    rw [show ko - 0 = ko from rfl, f3 S hS]; rfl⟩
  refine ⟨r', ?_, z2⟩
  have s4 : s.1 1 4 = nI ko := by rw [f2 1 (by omega)]; exact eko
  rw [fX12_findFilled, f4', pm_let, s4]
  exact z1
theorem ev_who {fit : Nat → Nat} {np ko k o S : Nat} {r0 r : pm_H} {w : Int32} (g3 : r.2 = lw_R0.2) (hn : r.1 1 7 = nI np) (hnp : np ≤ 6) (hko : ko ≤ 6) (ho : o = ko - (k + 1)) (hk : k < ko) (hfl : fit o < 64) (hfp : ∀ p, Nat.testBit (fit o) p = true → p < np) (hfit : fX12_fitsOf lw_SR 1 (nI o) r = some (nI (fit o), r)) (H : pu_PR fit ko ko r0 r) (hS : S < 64) (hw : pu_W (fit o) S (pu_G fit ko k) 6 w) : fX12_whoGets lw_SR 1 (nI o) (nI S) r = some (w, r) := by
  have n10 : ¬ (1 : Int32) = 0 := by decide
  have hok : ko - k = o + 1 := by omega
  have hg : ∀ S, S < 64 → r.1 16 (64 * (o + 1) + S) = nI (pu_G fit ko k S) := fun S hS => by rw [← hok]; exact H.2.2 k (by omega) S hS
  have hg2 : r.1 16 (64 * o + S) = nI (pu_G fit ko (k + 1) S) := by have := H.2.2 (k + 1) (by omega) S hS; rw [← ho] at this; exact this
  have i2 : pm_ib (nI (64 * o + S)) 448 = true := pm_ib_nI (by omega) (by omega)
  have c2 : (nI (64 * o + S)).toNatClampNeg = 64 * o + S := nI_clamp (by omega)
  have hle : ∀ S, pu_G fit ko k S ≤ 6 := fun S => by have := pu_G_le fit ko k S; omega
  have step : ∀ p m, p < np → pu_free (fit o) S p = true → ¬ nI (1 + pu_G fit ko k (S ||| 2 ^ p)) = nI (pu_G fit ko (k + 1) S) → fX12_whoGets_L9 lw_SR 1 (nI o) (nI S) (nI (fit o)) (fun s10 => some ((-1 : Int32), s10)) (m + 1) (nI p) r = fX12_whoGets_L9 lw_SR 1 (nI o) (nI S) (nI (fit o)) (fun s10 => some ((-1 : Int32), s10)) m (nI (p + 1)) r := by
    intro p m hp hf hne
    have e0 : ¬ nI np ≤ nI p := fun z => by have := (qn_le_iff (by omega) (by omega)).mp z; omega
    have hlt := qn_orlt S hS p (by omega)
    have i1 : pm_ib (nI (64 * (o + 1) + (S ||| 2 ^ p))) 448 = true := pm_ib_nI (by omega) (by omega)
    have c1 : (nI (64 * (o + 1) + (S ||| 2 ^ p))).toNatClampNeg = 64 * (o + 1) + (S ||| 2 ^ p) := nI_clamp (by omega)
    rw [fX12_whoGets_L9, hn, if_neg e0, ev_has hfl hS (by omega), Option.bind_some]
    simp only [if_pos hf]
    rw [if_neg n10, qn_or S hS p (by omega), e64s, e64r]
    simp only [g3, lgR, lenR, i1, c1, i2, c2, if_true, hg _ hlt, hg2, (nL _).1, if_neg hne, (nL p).2.2.2.2.2.2]
  have skip : ∀ p m, p < np → pu_free (fit o) S p = false → fX12_whoGets_L9 lw_SR 1 (nI o) (nI S) (nI (fit o)) (fun s10 => some ((-1 : Int32), s10)) (m + 1) (nI p) r = fX12_whoGets_L9 lw_SR 1 (nI o) (nI S) (nI (fit o)) (fun s10 => some ((-1 : Int32), s10)) m (nI (p + 1)) r := by
    intro p m hp hf
    have e0 : ¬ nI np ≤ nI p := fun z => by have := (qn_le_iff (by omega) (by omega)).mp z; omega
    have hf' : ¬ pu_free (fit o) S p = true := by rw [hf]; decide
    rw [fX12_whoGets_L9, hn, if_neg e0, ev_has hfl hS (by omega), Option.bind_some]
    simp only [if_neg hf', if_true, (nL p).2.2.2.2.2.2]
  have start : fX12_whoGets lw_SR 1 (nI o) (nI S) r = fX12_whoGets_L9 lw_SR 1 (nI o) (nI S) (nI (fit o)) (fun s10 => some ((-1 : Int32), s10)) pm_fuel (nI 0) r := by
    rw [fX12_whoGets, hfit, Option.bind_some]; rfl
  rw [start]
  rcases hw with ⟨rfl, h1⟩ | ⟨b, hb1, rfl, hb2, hb3, hb4⟩
  · have loop : ∀ j p m, p + j = np → j < m → fX12_whoGets_L9 lw_SR 1 (nI o) (nI S) (nI (fit o)) (fun s10 => some ((-1 : Int32), s10)) m (nI p) r = some (-1, r) := by
      intro j
      induction j with
      | zero =>
        intro p m hp hm
        obtain ⟨m, rfl⟩ : ∃ z, m = z + 1 := ⟨m - 1, by omega⟩
        have hpn : p = np := by omega
        subst hpn
        rw [fX12_whoGets_L9, hn, if_pos (Int32.le_refl _)]
      | succ j ih =>
        intro p m hp hm
        obtain ⟨m, rfl⟩ : ∃ z, m = z + 1 := ⟨m - 1, by omega⟩
        rw [skip p m (by omega) (h1 p (by omega))]
        exact ih (p + 1) m (by omega) (by omega)
    exact loop np 0 pm_fuel (by omega) (by unfold pm_fuel; omega)
  · have hGb : pu_G fit ko (k + 1) S = 1 + pu_G fit ko k (S ||| 2 ^ b) := pu_G_best hb1 (by rw [← ho]; exact hb2) (by rw [← ho]; exact hb3)
    have hbn : b < np := hfp b (by unfold pu_free at hb2; exact (Bool.and_eq_true _ _ |>.mp hb2).1)
    have loop : ∀ j p m, p + j = b → j < m → fX12_whoGets_L9 lw_SR 1 (nI o) (nI S) (nI (fit o)) (fun s10 => some ((-1 : Int32), s10)) m (nI p) r = some (nI b, r) := by
      intro j
      induction j with
      | zero =>
        intro p m hp hm
        obtain ⟨m, rfl⟩ : ∃ z, m = z + 1 := ⟨m - 1, by omega⟩
        have hpn : p = b := by omega
        subst hpn
        have e0 : ¬ nI np ≤ nI p := fun z => by have := (qn_le_iff (by omega) (by omega)).mp z; omega
        have hlt := qn_orlt S hS p (by omega)
        have i1 : pm_ib (nI (64 * (o + 1) + (S ||| 2 ^ p))) 448 = true := pm_ib_nI (by omega) (by omega)
        have c1 : (nI (64 * (o + 1) + (S ||| 2 ^ p))).toNatClampNeg = 64 * (o + 1) + (S ||| 2 ^ p) := nI_clamp (by omega)
        rw [fX12_whoGets_L9, hn, if_neg e0, ev_has hfl hS (by omega), Option.bind_some]
        simp only [if_pos hb2]
        rw [if_neg n10, qn_or S hS p (by omega), e64s, e64r]
        simp only [g3, lgR, lenR, i1, c1, i2, c2, if_true, hg _ hlt, hg2, (nL _).1, hGb]
      | succ j ih =>
        intro p m hp hm
        obtain ⟨m, rfl⟩ : ∃ z, m = z + 1 := ⟨m - 1, by omega⟩
        by_cases hf : pu_free (fit o) S p = true
        · have h5 := hb4 p (by omega) hf
          have h6 := hle (S ||| 2 ^ b)
          rw [step p m (by omega) hf (fun z => by
            have := (qn_inj (by omega) (by omega)).mp z
            omega)]
          exact ih (p + 1) m (by omega) (by omega)
        · rw [skip p m (by omega) (by simpa using hf)]
          exact ih (p + 1) m (by omega) (by omega)
    exact loop b 0 pm_fuel (by omega) (by unfold pm_fuel; omega)
theorem pu_posts : pu_1 pu_Rel fX11_posts fX12_posts := by
  intro c r h a
  obtain ⟨T, l, lo, np, H⟩ := id h
  obtain ⟨hT, g1, g2, g3, ht, hf, hLw, hst, -⟩ := id H
  obtain ⟨LL, kn, ko, ks, d1, d2, d3, d4, d5, ⟨e1, e2⟩, ⟨p1, p2⟩, d7, m1, m2, m3⟩ := hLw
  obtain ⟨i1, i2⟩ := ev_isOffice (lo := lo) (np := np) (r := r) hT g1 e1 e2 a
  obtain ⟨L, y, nt, nh, k0, ⟨k1, k1'⟩, k2, k3, k4, k5, k6, n1, n2, n3⟩ := hst
  simp only [Nat.reduceAdd] at k1 n3
  have hlo : 0 < np → 1 ≤ L := fun hp => by omega
  have hnp : np ≤ 6 := by omega
  have hko : ko ≤ 6 := by omega
  obtain ⟨c', w1, hPC⟩ := ev_weigh hT g1 k1 hlo (by omega) p1 hnp hko e1
  obtain ⟨fit, hfit⟩ : ∃ fit, fit = fun o => pu_fN (pu_q c T L o) np := ⟨_, rfl⟩
  rw [← hfit] at hPC
  have hfl : ∀ o, o < ko → fit o < 64 := fun o _ => by rw [hfit]; exact pu_fN_lt _ _ hnp
  have hfp : ∀ o p, o < ko → Nat.testBit (fit o) p = true → p < np := fun o p _ hb => by rw [hfit] at hb; exact pu_fN_bit _ _ _ hb
  have hft : ∀ (s : pm_H), s.2 = r.2 → (∀ q, q ≠ 16 → s.1 q = r.1 q) → ∀ o, o < ko → fX12_fitsOf lw_SR 1 (nI o) s = some (nI (fit o), s) := by
    intro s s1 s2 o ho
    obtain ⟨w1, w2, -⟩ := m2 o ho
    have := ev_fitsOf (q := pu_q c T L o) (r := s) (L := L) (np := np) (o := o) (s1.trans g3) (by rw [s2 7 (by omega)]; exact k1') hlo (by omega) (by rw [s2 1 (by omega)]; exact p2) hnp (by omega) (fun p hp => by
      rw [s2 7 (by omega), s2 3 (by omega), s2 4 (by omega), (n3 p hp).1, w1, w2]
      rfl)
    rw [this, hfit, pu_fN_fb _ _ hnp]
  obtain ⟨r', w2, hPR⟩ := ev_findFilled g3 p2 hnp hko e2 hfl hfp hft
  have g1' : c'.2 = lgC T l := hPC.1.trans g1
  have g3' : r'.2 = lw_R0.2 := hPR.1.trans g3
  have hRel : pu_Rel c' r' := ⟨T, l, lo, np, H.scr hPC.1 hPR.1 (fun q hq => hPC.2.1 q (by omega) (by omega) (by omega)) (fun q _ hq _ => hPR.2.1 q hq)⟩
  have cJ : fX11_posts_J16 lw_SC 1 a c = Option.bind (some c') fun u4 => (if a = (-1 : Int32) then Option.bind (fX4_mostFrom lw_SC (u4.2 1 14) (0 : Int32) (0 : Int32) u4) fun u8 => some (u8.1, u8.2) else Option.bind (fX4_holderOf lw_SC (u4.2 1 14) a u4) fun u6 => some (u6.1, u6.2)) := by
    rw [fX11_posts_J16, g1]
    simp only [lgS]
    rw [w1]
  have e217 : c'.2 1 14 = 217 := by rw [g1']; simp only [lgS]
  by_cases ha : a = -1
  · refine ⟨nI (pu_G fit ko ko 0), c', r', ?_, ?_, hRel⟩
    · rw [fX11_posts, if_pos ha, cJ, Option.bind_some, if_pos ha, e217]
      have := ev_most (o := 0) (S := 0) g1' (by omega) (by omega)
      have t0 := hPC.2.2.2.2 ko (Nat.le_refl _) 0 (by omega)
      rw [Nat.sub_self] at t0
      rw [t0] at this
      have this' : fX4_mostFrom lw_SC 217 (0 : Int32) (0 : Int32) c' = some (nI (pu_G fit ko ko 0), c') := this
      rw [this', Option.bind_some]
    · have t0 := hPR.2.2 ko (Nat.le_refl _) 0 (by omega)
      rw [Nat.sub_self] at t0
      have t0' : r'.1 16 0 = nI (pu_G fit ko ko 0) := t0
      have i448 : pm_ib (0 : Int32) 448 = true := by decide
      rw [fX12_posts, if_pos ha, fX12_posts_J16, w2, Option.bind_some, if_pos ha]
      simp only [g3', lgR, lenR, i448, if_true, cl6, t0']
  · rcases pu_w_idx a (n := ko) (by omega) with hw | ⟨hw, o, ho, rfl⟩
    · refine pu_ro h (-1000000001) ?_ ?_
      · rw [fX11_posts, if_neg ha, i1, Option.bind_some, hw, if_pos rfl]
      · rw [fX12_posts, if_neg ha, i2, Option.bind_some, hw, if_pos rfl]
    · have n10 : ¬ (1 : Int32) = 0 := by decide
      have r7 : r'.1 1 7 = nI np := by rw [hPR.2.1 1 (by omega)]; exact p2
      have one : ∀ j S, j ≤ o → S < 64 → ∃ w, fX4_firstBest lw_SC 217 (nI j) (nI S) c' = some (w, c') ∧ fX12_whoGets lw_SR 1 (nI j) (nI S) r' = some (w, r') ∧ (w = -1 ∨ ∃ b, b < 6 ∧ w = nI b) := by
        intro j S hj hS
        have hkj : ko - (ko - (j + 1)) = j + 1 := by omega
        obtain ⟨w, y1, y2⟩ := ev_firstBest (F := fit j) (g := pu_G fit ko (ko - (j + 1))) g1' (show j < 6 by omega) (hfl j (by omega)) hS (hPC.2.2.2.1 j (by omega) (by omega)) (fun S hS => by have := hPC.2.2.2.2 (ko - (j + 1)) (by omega) S hS; rw [hkj] at this; exact this) (fun S => by have := pu_G_le fit ko (ko - (j + 1)) S; omega)
        refine ⟨w, y1, ev_who (k := ko - (j + 1)) g3' r7 hnp hko (by omega) (by omega) (hfl j (by omega)) (fun p hp => hfp j p (by omega) hp) (hft r' hPR.1 hPR.2.1 j (by omega)) hPR hS y2, ?_⟩
        rcases y2 with ⟨z, -⟩ | ⟨b, z1, z2, -⟩
        · exact Or.inl z
        · exact Or.inr ⟨b, z1, z2⟩
      have loop : ∀ k j S m m' (w0 : Int32), j + k = o → S < 64 → k < m → k + 1 < m' → ∃ v, fX4_holderOf_L4 lw_SC 217 (nI o) (fun w7 s8 => Option.bind (fX4_firstBest lw_SC 217 (nI o) w7 s8) fun u9 => some (u9.1, u9.2)) m (nI S) (nI j) c' = some (v, c') ∧ fX12_posts_L39 lw_SR 1 (nI o) (fun w7 s8 => some (w7, s8)) m' (nI S) w0 (nI j) r' = some (v, r') := by
        intro k
        induction k with
        | zero =>
          intro j S m m' w0 hj hS hm hm'
          obtain ⟨m, rfl⟩ : ∃ z, m = z + 1 := ⟨m - 1, by omega⟩
          obtain ⟨m', rfl⟩ : ∃ z, m' = z + 2 := ⟨m' - 2, by omega⟩
          have hjo : j = o := by omega
          subst hjo
          obtain ⟨w, y1, y2, y3⟩ := one j S (Nat.le_refl _) hS
          have e0 : ¬ nI j < nI j := fun z => Int32.lt_irrefl z
          have e5 : nI j < nI (j + 1) := (qn_lt_iff (by omega) (by omega)).mpr (by omega)
          refine ⟨w, ?_, ?_⟩
          · rw [fX4_holderOf_L4, if_pos (Int32.le_refl _), y1, Option.bind_some]
          · rw [fX12_posts_L39, if_neg e0, y2, Option.bind_some]
            simp only [pm_let, (nL j).2.2.2.2.2.2]
            rcases y3 with rfl | ⟨b, hb, rfl⟩
            · rw [if_neg (by decide), fX12_posts_L39, if_pos e5]
            · have eb : (0 : Int32) ≤ nI b := (qn_le_iff (a := 0) (by omega) (by omega)).mpr (by omega)
              rw [if_pos eb, fX12_posts_L39, if_pos e5]
        | succ k ih =>
          intro j S m m' w0 hj hS hm hm'
          obtain ⟨m, rfl⟩ : ∃ z, m = z + 1 := ⟨m - 1, by omega⟩
          obtain ⟨m', rfl⟩ : ∃ z, m' = z + 1 := ⟨m' - 1, by omega⟩
          obtain ⟨w, y1, y2, y3⟩ := one j S (by omega) hS
          have e0 : ¬ nI o ≤ nI j := fun z => by have := (qn_le_iff (by omega) (by omega)).mp z; omega
          have e1 : ¬ nI ko ≤ nI j := fun z => by have := (qn_le_iff (by omega) (by omega)).mp z; omega
          have e2 : ¬ nI o < nI j := fun z => by have := (qn_lt_iff (by omega) (by omega)).mp z; omega
          rcases y3 with rfl | ⟨b, hb, rfl⟩
          · obtain ⟨v, v1, v2⟩ := ih (j + 1) S m m' (-1) (by omega) hS (by omega) (by omega)
            refine ⟨v, ?_, ?_⟩
            · rw [fX4_holderOf_L4, if_neg e0, hPC.2.2.1, if_neg e1, y1, Option.bind_some]
              simp only [if_true, pm_let, (nL j).2.2.2.2.2.2, Int32.or_zero]
              exact v1
            · rw [fX12_posts_L39, if_neg e2, y2, Option.bind_some]
              simp only [pm_let, (nL j).2.2.2.2.2.2, Int32.or_zero]
              rw [if_neg (by decide)]
              exact v2
          · have eb : (0 : Int32) ≤ nI b := (qn_le_iff (a := 0) (by omega) (by omega)).mpr (by omega)
            have en := qn_nem1 (j := b) (by omega)
            obtain ⟨v, v1, v2⟩ := ih (j + 1) (S ||| 2 ^ b) m m' (nI b) (by omega) (qn_orlt S hS b hb) (by omega) (by omega)
            refine ⟨v, ?_, ?_⟩
            · rw [fX4_holderOf_L4, if_neg e0, hPC.2.2.1, if_neg e1, y1, Option.bind_some]
              simp only [if_neg en, pm_let, (nL j).2.2.2.2.2.2, qn_or S hS b hb]
              exact v1
            · rw [fX12_posts_L39, if_neg e2, y2, Option.bind_some]
              simp only [pm_let, (nL j).2.2.2.2.2.2, qn_or S hS b hb]
              rw [if_pos eb]
              exact v2
      obtain ⟨v, v1, v2⟩ := loop o 0 0 pm_fuel pm_fuel (-1) (by omega) (by omega) (by unfold pm_fuel; omega) (by unfold pm_fuel; omega)
      have v1' : fX4_holderOf_L4 lw_SC 217 (nI o) (fun w7 s8 => Option.bind (fX4_firstBest lw_SC 217 (nI o) w7 s8) fun u9 => some (u9.1, u9.2)) pm_fuel 0 0 c' = some (v, c') := v1
      have v2' : fX12_posts_L39 lw_SR 1 (nI o) (fun w7 s8 => some (w7, s8)) pm_fuel 0 (-1) 0 r' = some (v, r') := v2
      refine ⟨v, c', r', ?_, ?_, hRel⟩
      · rw [fX11_posts, if_neg ha, i1, Option.bind_some, hw, if_neg n10]
        show fX11_posts_J16 lw_SC 1 (nI o) c = _
        rw [cJ, Option.bind_some, if_neg ha, e217, fX4_holderOf, v1', Option.bind_some]
      · rw [fX12_posts, if_neg ha, i2, Option.bind_some, hw, if_neg n10]
        show fX12_posts_J16 lw_SR 1 (nI o) r = _
        rw [fX12_posts_J16, w2, Option.bind_some, if_neg ha]
        exact v2'
