/-! realm: letters, blanks, numbers -/
def pu_TC (T n : Nat) (tx : Nat → Int32) (c : pm_H) : Prop := c.2 = lgC T 2 ∧ n ≤ 240 ∧ c.1 3 3 = nI n ∧ ∀ j, j < n → c.1 2 j = tx j
def pu_TR (n : Nat) (tx : Nat → Int32) (r : pm_H) : Prop := r.2 = lw_R0.2 ∧ n ≤ 240 ∧ r.1 1 14 = nI n ∧ ∀ j, j < n → r.1 8 j = tx j
/-- the reader's own row alone has changed -/
def pu_cX (c c' : pm_H) : Prop := c'.2 = c.2 ∧ (∀ q, q ≠ 3 → c'.1 q = c.1 q) ∧ c'.1 3 3 = c.1 3 3
def pu_rX (r r' : pm_H) : Prop := r'.2 = r.2 ∧ (∀ q, q ≠ 1 → r'.1 q = r.1 q) ∧ ∀ k, k < 15 ∨ 19 ≤ k → r'.1 1 k = r.1 1 k
theorem pu_cX.tr {a b c : pm_H} (h : pu_cX a b) (h' : pu_cX b c) : pu_cX a c := ⟨h'.1.trans h.1, fun q hq => (h'.2.1 q hq).trans (h.2.1 q hq), h'.2.2.trans h.2.2⟩
theorem pu_rX.tr {a b c : pm_H} (h : pu_rX a b) (h' : pu_rX b c) : pu_rX a c := ⟨h'.1.trans h.1, fun q hq => (h'.2.1 q hq).trans (h.2.1 q hq), fun k hk => (h'.2.2 k hk).trans (h.2.2 k hk)⟩
theorem pu_cX.rf (c : pm_H) : pu_cX c c := ⟨rfl, fun _ _ => rfl, rfl⟩
theorem pu_rX.rf (r : pm_H) : pu_rX r r := ⟨rfl, fun _ _ => rfl, fun _ _ => rfl⟩
theorem pu_cX.si {c : pm_H} {k : Nat} {x : Int32} (h : k ≠ 3) : pu_cX c (pm_si c 3 k x) := ⟨rfl, fun q hq => pm_si_row hq, pm_si_ne (by omega)⟩
theorem pu_rX.si {r : pm_H} {k : Nat} {x : Int32} (h : 15 ≤ k ∧ k < 19) : pu_rX r (pm_si r 1 k x) := ⟨rfl, fun q hq => pm_si_row hq, fun j hj => pm_si_ne (by omega)⟩
theorem pu_TC.cX {T n : Nat} {tx : Nat → Int32} {c c' : pm_H} (h : pu_TC T n tx c) (x : pu_cX c c') : pu_TC T n tx c' := ⟨x.1.trans h.1, h.2.1, x.2.2.trans h.2.2.1, fun j hj => by rw [x.2.1 2 (by omega)]; exact h.2.2.2 j hj⟩
theorem pu_TR.rX {n : Nat} {tx : Nat → Int32} {r r' : pm_H} (h : pu_TR n tx r) (x : pu_rX r r') : pu_TR n tx r' := ⟨x.1.trans h.1, h.2.1, (x.2.2 14 (by omega)).trans h.2.2.1, fun j hj => by rw [x.2.1 8 (by omega)]; exact h.2.2.2 j hj⟩
def pu_sk (tx : Nat → Int32) : Nat → Nat → Nat
  | 0, i => i
  | k + 1, i => if tx i = 32 then pu_sk tx k (i + 1) else i
theorem pu_sk_in (tx : Nat → Int32) (k : Nat) : ∀ i, i ≤ pu_sk tx k i ∧ pu_sk tx k i ≤ i + k ∧ (pu_sk tx k i < i + k → tx (pu_sk tx k i) ≠ 32) := by
  induction k with
  | zero => intro i; exact ⟨Nat.le_refl _, Nat.le_refl _, fun h => absurd h (Nat.lt_irrefl _)⟩
  | succ k ih =>
    intro i
    unfold pu_sk
    split
    · obtain ⟨h1, h2, h3⟩ := ih (i + 1)
      exact ⟨by omega, by omega, fun h => h3 (by omega)⟩
    · next h => exact ⟨Nat.le_refl _, by omega, fun _ => h⟩
theorem pu_sk_st {tx : Nat → Int32} {n j : Nat} (h : j < n → tx j ≠ 32) (hj : j ≤ n) : pu_sk tx (n - j) j = j := by
  by_cases e : j = n
  · rw [e, Nat.sub_self]; rfl
  · obtain ⟨k, hk⟩ : ∃ k, n - j = k + 1 := ⟨n - j - 1, by omega⟩
    rw [hk, pu_sk, if_neg (h (by omega))]
def pu_hd (tx : Nat → Int32) (n j : Nat) : Int32 := if j < n then tx j else -1
theorem ev_skip {T n : Nat} {tx : Nat → Int32} {i : Nat} {c : pm_H} (hc : pu_TC T n tx c) (hi : i ≤ n) (e4 : c.1 3 4 = nI i) : ∃ c', fX5_skipBlanks lw_SC 3 c = some c' ∧ pu_cX c c' ∧ c'.1 3 4 = nI (pu_sk tx (n - i) i) ∧ ∀ s, s ≠ 4 → c'.1 3 s = c.1 3 s := by
  have loop : ∀ k i m (c : pm_H), i + k = n → k < m → pu_TC T n tx c → c.1 3 4 = nI i → ∃ c', fX5_skipBlanks_L0 lw_SC 3 (fun s6 => some s6) m c = some c' ∧ pu_cX c c' ∧ c'.1 3 4 = nI (pu_sk tx k i) ∧ ∀ s, s ≠ 4 → c'.1 3 s = c.1 3 s := by
    intro k
    induction k with
    | zero =>
      intro i m c hi hm ⟨g1, hn, e3, ht⟩ e4
      obtain ⟨m, rfl⟩ : ∃ z, m = z + 1 := ⟨m - 1, by omega⟩
      have hin : i = n := by omega
      subst hin
      exact ⟨c, by rw [fX5_skipBlanks_L0, e3, e4, if_pos (Int32.le_refl _)], pu_cX.rf c, e4, fun _ _ => rfl⟩
    | succ k ih =>
      intro i m c hi hm hc e4
      obtain ⟨g1, hn, e3, ht⟩ := id hc
      obtain ⟨m, rfl⟩ : ∃ z, m = z + 1 := ⟨m - 1, by omega⟩
      have e0 : ¬ nI n ≤ nI i := fun z => by have := (qn_le_iff (by omega) (by omega)).mp z; omega
      have i1 : pm_ib (nI i) 240 = true := pm_ib_nI (by omega) (by omega)
      have c1 : (nI i).toNatClampNeg = i := nI_clamp (by omega)
      by_cases h32 : tx i = 32
      · obtain ⟨c', y1, y2, y3, y4⟩ := ih (i + 1) m (pm_si c 3 4 (nI (i + 1))) (by omega) (by omega) (hc.cX (pu_cX.si (by omega))) pm_si_same
        refine ⟨c', ?_, (pu_cX.si (by omega)).tr y2, ?_, fun s hs => by rw [y4 s hs, pm_si_ne (by omega)]⟩
        · rw [fX5_skipBlanks_L0]
          simp only [e3, e4, if_neg e0, g1, lgS, lenS, i1, c1, if_true, ht i (by omega), if_pos h32, pm_let, (nL i).2.2.2.2.2.2]
          exact y1
        · rw [pu_sk, if_pos h32]; exact y3
      · refine ⟨c, ?_, pu_cX.rf c, ?_, fun _ _ => rfl⟩
        · rw [fX5_skipBlanks_L0]
          simp only [e3, e4, if_neg e0, g1, lgS, lenS, i1, c1, if_true, ht i (by omega), if_neg h32]
        · rw [pu_sk, if_neg h32]; exact e4
  exact loop (n - i) i pm_fuel c (by omega) (by unfold pm_fuel; have := hc.2.1; omega) hc e4
theorem ev_here {n : Nat} {tx : Nat → Int32} {i : Nat} {r : pm_H} (hr : pu_TR n tx r) (hi : i ≤ n) (e16 : r.1 1 16 = nI i) : ∃ r', fX12_here lw_SR 1 r = some (pu_hd tx n (pu_sk tx (n - i) i), r') ∧ pu_rX r r' ∧ r'.1 1 16 = nI (pu_sk tx (n - i) i) ∧ ∀ s, s ≠ 16 → r'.1 1 s = r.1 1 s := by
  have loop : ∀ k i m (r : pm_H), i + k = n → k < m → pu_TR n tx r → r.1 1 16 = nI i → ∃ r', fX12_here_L0 lw_SR 1 (fun s6 => fX12_here_J38 lw_SR 1 s6) m r = some (pu_hd tx n (pu_sk tx k i), r') ∧ pu_rX r r' ∧ r'.1 1 16 = nI (pu_sk tx k i) ∧ ∀ s, s ≠ 16 → r'.1 1 s = r.1 1 s := by
    intro k
    induction k with
    | zero =>
      intro i m r hi hm ⟨g1, hn, e3, ht⟩ e4
      obtain ⟨m, rfl⟩ : ∃ z, m = z + 1 := ⟨m - 1, by omega⟩
      have hin : i = n := by omega
      subst hin
      refine ⟨r, ?_, pu_rX.rf r, e4, fun _ _ => rfl⟩
      rw [fX12_here_L0, e3, e4, if_pos (Int32.le_refl _), fX12_here_J38, e3, e4, if_pos (Int32.le_refl _), pu_sk, pu_hd, if_neg (Nat.lt_irrefl _)]
    | succ k ih =>
      intro i m r hi hm hr e4
      obtain ⟨g1, hn, e3, ht⟩ := id hr
      obtain ⟨m, rfl⟩ : ∃ z, m = z + 1 := ⟨m - 1, by omega⟩
      have e0 : ¬ nI n ≤ nI i := fun z => by have := (qn_le_iff (by omega) (by omega)).mp z; omega
      have i1 : pm_ib (nI i) 240 = true := pm_ib_nI (by omega) (by omega)
      have c1 : (nI i).toNatClampNeg = i := nI_clamp (by omega)
      by_cases h32 : tx i = 32
      · obtain ⟨r', y1, y2, y3, y4⟩ := ih (i + 1) m (pm_si r 1 16 (nI (i + 1))) (by omega) (by omega) (hr.rX (pu_rX.si (by omega))) pm_si_same
        refine ⟨r', ?_, (pu_rX.si (by omega)).tr y2, ?_, fun s hs => by rw [y4 s hs, pm_si_ne (by omega)]⟩
        · rw [fX12_here_L0, pu_sk, if_pos h32]
          simp only [e3, e4, if_neg e0, g1, lgR, lenR, i1, c1, if_true, ht i (by omega), if_pos h32, pm_let, (nL i).2.2.2.2.2.2]
          exact y1
        · rw [pu_sk, if_pos h32]; exact y3
      · refine ⟨r, ?_, pu_rX.rf r, ?_, fun _ _ => rfl⟩
        · rw [fX12_here_L0, pu_sk, if_neg h32, pu_hd, if_pos (show i < n by omega)]
          simp only [e3, e4, if_neg e0, g1, lgR, lenR, i1, c1, if_true, ht i (by omega), if_neg h32, fX12_here_J38]
        · rw [pu_sk, if_neg h32]; exact e4
  exact loop (n - i) i pm_fuel r (by omega) (by unfold pm_fuel; have := hr.2.1; omega) hr e16
theorem ev_blame (k p : Int32) (c : pm_H) : ∃ c', fX5_blame lw_SC 3 k p c = some c' ∧ pu_cX c c' ∧ (∀ s, 2 ≤ s → c'.1 3 s = c.1 3 s) ∧ (c.1 3 0 = 0 → c'.1 3 0 = k ∧ c'.1 3 1 = p) ∧ (¬ c.1 3 0 = 0 → c' = c) := by
  by_cases h : c.1 3 0 = 0
  · refine ⟨pm_si (pm_si c 3 0 k) 3 1 p, by rw [fX5_blame, if_pos h]; rfl, (pu_cX.si (by omega)).tr (pu_cX.si (by omega)), fun s hs => by rw [pm_si_ne (by omega), pm_si_ne (by omega)], fun _ => ⟨by rw [pm_si_ne (by omega), pm_si_same], pm_si_same⟩, fun z => absurd h z⟩
  · exact ⟨c, by rw [fX5_blame, if_neg h], pu_cX.rf c, fun _ _ => rfl, fun z => absurd z h, fun _ => rfl⟩
theorem ev_sign {T n : Nat} {tx : Nat → Int32} {i : Nat} {c : pm_H} {sg : Int32} (hsg : sg ≠ -1) (hc : pu_TC T n tx c) (hi : i ≤ n) (e4 : c.1 3 4 = nI i) : ∃ c', fX5_takeSign lw_SC 3 sg c = some (if pu_hd tx n (pu_sk tx (n - i) i) = sg then 1 else 0, c') ∧ pu_cX c c' ∧ c'.1 3 4 = nI (if pu_hd tx n (pu_sk tx (n - i) i) = sg then pu_sk tx (n - i) i + 1 else pu_sk tx (n - i) i) ∧ ∀ s, s ≠ 4 → c'.1 3 s = c.1 3 s := by
  obtain ⟨c1, y1, y2, y3, y4⟩ := ev_skip hc hi e4
  obtain ⟨j, hj⟩ : ∃ j, j = pu_sk tx (n - i) i := ⟨_, rfl⟩
  obtain ⟨s1, s2, s3⟩ := pu_sk_in tx (n - i) i
  rw [← hj] at y3 s1 s2 s3 ⊢
  obtain ⟨g1, hn, e3, ht⟩ := hc.cX y2
  rw [fX5_takeSign, y1, Option.bind_some]
  by_cases hjn : j < n
  · have e0 : ¬ nI n ≤ nI j := fun z => by have := (qn_le_iff (by omega) (by omega)).mp z; omega
    have i1 : pm_ib (nI j) 240 = true := pm_ib_nI (by omega) (by omega)
    have k1 : (nI j).toNatClampNeg = j := nI_clamp (by omega)
    have eh : pu_hd tx n j = tx j := if_pos hjn
    rw [eh]
    simp only [e3, y3, if_neg e0, g1, lgS, lenS, i1, k1, if_true, ht j hjn]
    by_cases hs : tx j = sg
    · refine ⟨pm_si c1 3 4 (nI (j + 1)), ?_, y2.tr (pu_cX.si (by omega)), ?_, fun s hs => by rw [pm_si_ne (by omega), y4 s hs]⟩
      · simp only [if_pos hs, pm_let, (nL j).2.2.2.2.2.2]
      · rw [if_pos hs, pm_si_same]
    · refine ⟨c1, ?_, y2, ?_, y4⟩
      · simp only [if_neg hs]
      · rw [if_neg hs]; exact y3
  · have hjn' : j = n := by omega
    have eh : pu_hd tx n j = -1 := if_neg hjn
    have hne : ¬ (-1 : Int32) = sg := fun z => hsg z.symm
    rw [eh, e3, y3, hjn', if_pos (Int32.le_refl _), if_neg hne, if_neg hne]
    exact ⟨c1, rfl, y2, by rw [y3, hjn'], y4⟩
