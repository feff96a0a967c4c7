/-! realm: reading goes on (Gd), or a fault stands (Bd; Jk: the class's side of it) -/
def pu_Jk (T n : Nat) (tx : Nat → Int32) (c : pm_H) (F : Nat) (p : Int32) : Prop := pu_TC T n tx c ∧ (1 ≤ F ∧ F ≤ 4) ∧ c.1 3 0 = nI F ∧ c.1 3 1 = p ∧ ∃ j, j ≤ n ∧ c.1 3 4 = nI j
def pu_Gd (T n : Nat) (tx : Nat → Int32) (c r : pm_H) (i : Nat) : Prop := pu_TC T n tx c ∧ pu_TR n tx r ∧ (c.1 3 4 = nI i ∧ r.1 1 16 = nI i ∧ i ≤ n) ∧ c.1 3 0 = 0 ∧ c.1 3 1 = -1 ∧ r.1 1 15 = -1
def pu_Bd (T n : Nat) (tx : Nat → Int32) (c r : pm_H) (f : Int32) : Prop := ∃ F p, pu_Jk T n tx c F p ∧ f = nI F ∧ r.1 1 15 = p
theorem pu_TC.mv {T n : Nat} {tx : Nat → Int32} {c c' : pm_H} (h : pu_TC T n tx c) (g : c'.2 = c.2) (h2 : c'.1 2 = c.1 2) (h3 : c'.1 3 = c.1 3) : pu_TC T n tx c' := ⟨g.trans h.1, h.2.1, by rw [h3]; exact h.2.2.1, fun j hj => by rw [h2]; exact h.2.2.2 j hj⟩
theorem pu_TR.mv {n : Nat} {tx : Nat → Int32} {r r' : pm_H} (h : pu_TR n tx r) (g : r'.2 = r.2) (h8 : r'.1 8 = r.1 8) (h14 : r'.1 1 14 = r.1 1 14) : pu_TR n tx r' := ⟨g.trans h.1, h.2.1, by rw [h14]; exact h.2.2.1, fun j hj => by rw [h8]; exact h.2.2.2 j hj⟩
theorem pu_Jk.mv {T n : Nat} {tx : Nat → Int32} {c c' : pm_H} {F : Nat} {p : Int32} (h : pu_Jk T n tx c F p) (g : c'.2 = c.2) (h2 : c'.1 2 = c.1 2) (h3 : c'.1 3 = c.1 3) : pu_Jk T n tx c' F p := by
  obtain ⟨a, b, d, e, j, hj, f⟩ := h
  exact ⟨a.mv g h2 h3, b, by rw [h3]; exact d, by rw [h3]; exact e, j, hj, by rw [h3]; exact f⟩
theorem pu_Gd.mv {T n : Nat} {tx : Nat → Int32} {c r c' r' : pm_H} {i : Nat} (h : pu_Gd T n tx c r i) (g : c'.2 = c.2) (h2 : c'.1 2 = c.1 2) (h3 : c'.1 3 = c.1 3) (g' : r'.2 = r.2) (h8 : r'.1 8 = r.1 8) (h1 : ∀ k, 14 ≤ k → k < 17 → r'.1 1 k = r.1 1 k) : pu_Gd T n tx c' r' i := by
  obtain ⟨a, b, ⟨d1, d2, d3⟩, e1, e2, e3⟩ := h
  exact ⟨a.mv g h2 h3, b.mv g' h8 (h1 14 (by omega) (by omega)), ⟨by rw [h3]; exact d1, by rw [h1 16 (by omega) (by omega)]; exact d2, d3⟩, by rw [h3]; exact e1, by rw [h3]; exact e2, by rw [h1 15 (by omega) (by omega)]; exact e3⟩
theorem pu_Jk.skip {T n : Nat} {tx : Nat → Int32} {c : pm_H} {F : Nat} {p : Int32} (h : pu_Jk T n tx c F p) : ∃ c', fX5_skipBlanks lw_SC 3 c = some c' ∧ pu_cX c c' ∧ pu_Jk T n tx c' F p := by
  obtain ⟨a, b, d, e, j, hj, f⟩ := h
  obtain ⟨c', y1, y2, y3, y4⟩ := ev_skip a hj f
  obtain ⟨s1, s2, -⟩ := pu_sk_in tx (n - j) j
  exact ⟨c', y1, y2, a.cX y2, b, by rw [y4 0 (by omega)]; exact d, by rw [y4 1 (by omega)]; exact e, _, by omega, y3⟩
theorem pu_Jk.num {T n : Nat} {tx : Nat → Int32} {c : pm_H} {F : Nat} {p : Int32} (h : pu_Jk T n tx c F p) (lo hi : Int32) : ∃ v c', fX5_takeNumber lw_SC 3 lo hi c = some (v, c') ∧ pu_cX c c' ∧ pu_Jk T n tx c' F p := by
  obtain ⟨a, b, d, e, j, hj, f⟩ := h
  obtain ⟨c', y1, y2, y3, y4, y5, -⟩ := ev_numC lo hi a hj f rfl rfl rfl
  obtain ⟨s1, s2, -⟩ := pu_sk_in tx (n - j) j
  have s3 := pu_dg_in tx (n - pu_sk tx (n - j) j) (pu_sk tx (n - j) j)
  have hF : ¬ c.1 3 0 = 0 := by rw [d]; exact nI_ne0 (by omega) (by omega)
  obtain ⟨z1, z2⟩ := y5 hF
  exact ⟨_, c', y1, y2, a.cX y2, b, by rw [z1]; exact d, by rw [z2]; exact e, _, by omega, y3⟩
theorem pu_Jk.fin {T n : Nat} {tx : Nat → Int32} {c : pm_H} {F : Nat} {p : Int32} (h : pu_Jk T n tx c F p) : ∃ c', fX5_takeEnd lw_SC 3 c = some c' ∧ pu_cX c c' ∧ pu_Jk T n tx c' F p := by
  obtain ⟨a, b, d, e, j, hj, f⟩ := h
  obtain ⟨c', y1, y2, y3, y4⟩ := ev_sign (sg := 59) (by decide) a hj f
  obtain ⟨s1, s2, -⟩ := pu_sk_in tx (n - j) j
  have n10 : ¬ (1 : Int32) = 0 := by decide
  have hF : ¬ c'.1 3 0 = 0 := by rw [y4 0 (by omega), d]; exact nI_ne0 (by omega) (by omega)
  rw [fX5_takeEnd, y1, Option.bind_some]
  by_cases hs : pu_hd tx n (pu_sk tx (n - j) j) = 59
  · have hlt : pu_sk tx (n - j) j < n := by
      by_cases hlt : pu_sk tx (n - j) j < n
      · exact hlt
      · rw [pu_hd, if_neg hlt] at hs; exact absurd hs (by decide)
    rw [if_pos hs] at y3
    simp only [if_pos hs, if_neg n10]
    exact ⟨c', rfl, y2, a.cX y2, b, by rw [y4 0 (by omega)]; exact d, by rw [y4 1 (by omega)]; exact e, _, by omega, y3⟩
  · rw [if_neg hs] at y3
    obtain ⟨c3, b1, b2, b3, b4, b5⟩ := ev_blame 1 (c'.1 3 4) c'
    simp only [if_neg hs, if_true, b1, Option.bind_some]
    rw [b5 hF]
    exact ⟨c', rfl, y2, a.cX y2, b, by rw [y4 0 (by omega)]; exact d, by rw [y4 1 (by omega)]; exact e, _, by omega, y3⟩
theorem ev_num {T n : Nat} {tx : Nat → Int32} {c r : pm_H} {i : Nat} (lo hi : Int32) (G : pu_Gd T n tx c r i) : ∃ v f c' r', fX5_takeNumber lw_SC 3 lo hi c = some (v, c') ∧ fX12_takeNumber lw_SR 1 lo hi r = some (f, r') ∧ pu_cX c c' ∧ pu_rX r r' ∧ ((f = 0 ∧ r'.1 1 17 = v ∧ (lo.toInt ≤ v.toInt ∧ v.toInt ≤ hi.toInt) ∧ c'.1 3 5 = r'.1 1 18 ∧ ∃ j, i < j ∧ pu_Gd T n tx c' r' j) ∨ ((¬ f = 0 ∧ ¬ f ≤ 0) ∧ pu_Bd T n tx c' r' f)) := by
  obtain ⟨a, b, ⟨d1, d2, d3⟩, e1, e2, e3⟩ := G
  obtain ⟨c', y1, y2, y3, y4, y5, y6, y7⟩ := ev_numC lo hi a d3 d1 rfl rfl rfl
  obtain ⟨r', z1, z2, z3, z4⟩ := ev_numR lo hi b d3 d2 rfl rfl rfl
  refine ⟨_, _, c', r', y1, z1, y2, z2, ?_⟩
  obtain ⟨j0, hj0⟩ : ∃ j0, j0 = pu_sk tx (n - i) i := ⟨_, rfl⟩
  rw [← hj0] at y3 y4 y6 y7 z3 z4 ⊢
  obtain ⟨j, hj⟩ : ∃ j, j = pu_dg tx (n - j0) j0 := ⟨_, rfl⟩
  rw [← hj] at y3 y6 y7 z3 z4 ⊢
  obtain ⟨v, hv⟩ : ∃ v, v = pu_vC tx (n - j0) j0 0 := ⟨_, rfl⟩
  rw [← hv] at y6 y7 z3 z4 ⊢
  obtain ⟨s1, s2, -⟩ := pu_sk_in tx (n - i) i
  have s3 := pu_dg_in tx (n - j0) j0
  rw [← hj0] at s1 s2
  rw [← hj] at s3
  by_cases hK : pu_nk j0 j v lo hi = 0
  · left
    obtain ⟨w1, w2, w3, w4, w5, w6⟩ := z3 hK
    obtain ⟨x1, x2⟩ := y6 hK
    have hw : pu_w v lo hi = 1 := by
      rcases pu_w01 v lo hi with h | h
      · exfalso
        unfold pu_nk at hK
        rw [if_pos h] at hK
        split at hK
        · omega
        · split at hK <;> omega
      · exact h
    refine ⟨by rw [hK]; rfl, w2, pu_w_lit hw, by rw [y4, w3], j, w5, a.cX y2, b.rX z2, ⟨y3, w1, w6⟩, by rw [x1]; exact e1, by rw [x2]; exact e2, by rw [w4]; exact e3⟩
  · right
    have hK2 : pu_nk j0 j v lo hi ≤ 2 := by
      unfold pu_nk
      split
      · omega
      · split
        · omega
        · split <;> omega
    obtain ⟨x1, x2⟩ := y7 e1 hK
    refine ⟨⟨nI_ne0 (by omega) (by omega), fun z => ?_⟩, _, nI j0, ⟨a.cX y2, ⟨by omega, by omega⟩, x1, x2, j, by omega, y3⟩, rfl, z4 hK⟩
    have := (qn_le_iff (b := 0) (by omega) (by omega)).mp z
    omega
/-- the end of a clause, the reference's side -/
def pu_tail (r : pm_H) : Option (Int32 × pm_H) := Option.bind (fX12_here lw_SR 1 r) fun u7 => (if u7.1 = (59 : Int32) then pm_let (pm_si u7.2 1 16 ((u7.2.1 1 16) + (1 : Int32))) fun s8 => some ((0 : Int32), s8) else Option.bind (fX12_fails lw_SR 1 (1 : Int32) (u7.2.1 1 16) u7.2) fun u9 => some (u9.1, u9.2))
theorem ev_J82 {k f : Int32} {r r2 : pm_H} (hfull : fX12_isFull lw_SR 1 k r = some (0, r)) (hb : fX12_takeBody lw_SR 1 k (pm_si r 1 16 (r.1 1 16 + 1)) = some (f, r2)) : fX12_takeClause_J82 lw_SR 1 k r = if f = 0 then pu_tail r2 else some (f, pm_si r2 1 16 (r2.1 1 16 + 1)) := by
  rw [fX12_takeClause_J82, hfull, Option.bind_some]
  simp only [if_true, pm_let, hb, Option.bind_some]
  by_cases hf : f = 0
  · subst hf
    rw [if_pos rfl, if_pos rfl, pu_tail]
    rfl
  · rw [if_neg hf, if_neg hf]
theorem ev_J82f {k : Int32} {r : pm_H} (hfull : fX12_isFull lw_SR 1 k r = some (1, r)) : fX12_takeClause_J82 lw_SR 1 k r = some (3, pm_si r 1 15 (r.1 1 16)) := by
  have n10 : ¬ (1 : Int32) = 0 := by decide
  rw [fX12_takeClause_J82, hfull, Option.bind_some]
  simp only [if_neg n10, fX12_fails, pm_let, Option.bind_some]
theorem ev_end {T n : Nat} {tx : Nat → Int32} {c r : pm_H} {i : Nat} (G : pu_Gd T n tx c r i) : ∃ f c' r', fX5_takeEnd lw_SC 3 c = some c' ∧ pu_tail r = some (f, r') ∧ pu_cX c c' ∧ pu_rX r r' ∧ ((f = 0 ∧ ∃ j, i < j ∧ pu_Gd T n tx c' r' j) ∨ (¬ f = 0 ∧ pu_Bd T n tx c' r' f)) := by
  obtain ⟨a, b, ⟨d1, d2, d3⟩, e1, e2, e3⟩ := G
  obtain ⟨c', y1, y2, y3, y4⟩ := ev_sign (sg := 59) (by decide) a d3 d1
  obtain ⟨r', z1, z2, z3, z4⟩ := ev_here b d3 d2
  obtain ⟨s1, s2, -⟩ := pu_sk_in tx (n - i) i
  have n10 : ¬ (1 : Int32) = 0 := by decide
  have hn := a.2.1
  rw [fX5_takeEnd, y1, Option.bind_some, pu_tail, z1, Option.bind_some]
  obtain ⟨j, hj⟩ : ∃ j, j = pu_sk tx (n - i) i := ⟨_, rfl⟩
  rw [← hj] at y3 z3 s1 s2 ⊢
  by_cases hs : pu_hd tx n j = 59
  · have hlt : j < n := by
      by_cases hlt : j < n
      · exact hlt
      · rw [pu_hd, if_neg hlt] at hs; exact absurd hs (by decide)
    rw [if_pos hs] at y3
    refine ⟨0, c', pm_si r' 1 16 (nI (j + 1)), ?_, ?_, y2, z2.tr (pu_rX.si (by omega)), Or.inl ⟨rfl, j + 1, by omega, a.cX y2, (b.rX z2).rX (pu_rX.si (by omega)), ⟨y3, pm_si_same, by omega⟩, by rw [y4 0 (by omega)]; exact e1, by rw [y4 1 (by omega)]; exact e2, by rw [pm_si_ne (by omega), z4 15 (by omega)]; exact e3⟩⟩
    · simp only [if_pos hs, if_neg n10]
    · simp only [if_pos hs, pm_let, z3, (nL j).2.2.2.2.2.2]
  · rw [if_neg hs] at y3
    obtain ⟨c3, b1, b2, b3, b4, b5⟩ := ev_blame 1 (nI j) c'
    obtain ⟨b6, b7⟩ := b4 (by rw [y4 0 (by omega)]; exact e1)
    refine ⟨1, c3, pm_si r' 1 15 (nI j), ?_, ?_, y2.tr b2, z2.tr (pu_rX.si (by omega)), Or.inr ⟨n10, 1, nI j, ⟨(a.cX y2).cX b2, by omega, b6, b7, j, by omega, by rw [b3 4 (by omega)]; exact y3⟩, rfl, pm_si_same⟩⟩
    · simp only [if_neg hs, if_true, y3, b1, Option.bind_some]
    · simp only [if_neg hs, z3, fX12_fails, pm_let, Option.bind_some]
theorem ev_wfull {T n : Nat} {tx : Nat → Int32} {c r : pm_H} {i : Nat} (G : pu_Gd T n tx c r i) : ∃ c', fX5_takeWord lw_SC 3 0 c = some (0, c') ∧ pu_cX c c' ∧ pu_rX r (pm_si r 1 15 (r.1 1 16)) ∧ pu_Bd T n tx c' (pm_si r 1 15 (r.1 1 16)) 3 := by
  obtain ⟨a, b, ⟨d1, d2, d3⟩, e1, e2, e3⟩ := G
  obtain ⟨c3, b1, b2, b3, b4, b5⟩ := ev_blame 3 (nI i) c
  obtain ⟨b6, b7⟩ := b4 e1
  refine ⟨c3, ?_, b2, pu_rX.si (by omega), 3, nI i, ⟨a.cX b2, by omega, b6, b7, i, d3, by rw [b3 4 (by omega)]; exact d1⟩, rfl, by rw [pm_si_same, d2]⟩
  rw [fX5_takeWord, if_pos rfl, d1, b1, Option.bind_some]
theorem ev_wgo {T n : Nat} {tx : Nat → Int32} {c r : pm_H} {i : Nat} (G : pu_Gd T n tx c r i) (hi : i < n) : ∃ c' r', fX5_takeWord lw_SC 3 1 c = some (1, c') ∧ pm_si r 1 16 (r.1 1 16 + 1) = r' ∧ pu_cX c c' ∧ pu_rX r r' ∧ pu_Gd T n tx c' r' (i + 1) := by
  have n10 : ¬ (1 : Int32) = 0 := by decide
  obtain ⟨a, b, ⟨d1, d2, d3⟩, e1, e2, e3⟩ := G
  refine ⟨pm_si c 3 4 (nI (i + 1)), pm_si r 1 16 (nI (i + 1)), ?_, by rw [d2, (nL i).2.2.2.2.2.2], pu_cX.si (by omega), pu_rX.si (by omega), a.cX (pu_cX.si (by omega)), b.rX (pu_rX.si (by omega)), ⟨pm_si_same, pm_si_same, by omega⟩, by rw [pm_si_ne (by omega)]; exact e1, by rw [pm_si_ne (by omega)]; exact e2, by rw [pm_si_ne (by omega)]; exact e3⟩
  rw [fX5_takeWord, if_neg n10, d1, (nL i).2.2.2.2.2.2]
  rfl
/-! what is told so far: the class's draft at D, the reference's read rows -/
def pu_D0 (c r : pm_H) (D L : Nat) : Prop := (L = 0 ∨ 12 ≤ L) ∧ L ≤ 240 ∧ c.1 D 0 = nI L ∧ r.1 1 19 = nI L ∧ (12 ≤ L → ∃ w, w ≤ 9 ∧ c.1 D 1 = nI w ∧ r.1 1 20 = nI w)
def pu_D1 (c r : pm_H) (D k : Nat) : Prop := k ≤ 5 ∧ c.1 D 3 = nI k ∧ r.1 1 21 = nI k ∧ ∀ i, i < k → r.1 9 i = c.1 (D + 1) i ∧ 1 ≤ (c.1 (D + 1) i).toInt ∧ (c.1 (D + 1) i).toInt ≤ 239
def pu_D2 (c r : pm_H) (D k : Nat) : Prop := k ≤ 6 ∧ c.1 D 6 = nI k ∧ r.1 1 23 = nI k ∧ ∀ i, i < k → r.1 10 i = c.1 (D + 2) i ∧ r.1 11 i = c.1 (D + 3) i ∧ 1 ≤ (c.1 (D + 2) i).toInt ∧ (c.1 (D + 2) i).toInt ≤ 99 ∧ 1 ≤ (c.1 (D + 3) i).toInt ∧ (c.1 (D + 3) i).toInt ≤ 99
def pu_D3 (c r : pm_H) (D k : Nat) : Prop := k ≤ 6 ∧ c.1 D 8 = nI k ∧ r.1 1 26 = nI k ∧ ∀ i, i < k → r.1 12 i = c.1 (D + 4) i ∧ 1 ≤ (c.1 (D + 4) i).toInt ∧ (c.1 (D + 4) i).toInt ≤ 999
def pu_D4 (c r : pm_H) (D k : Nat) : Prop := k ≤ 12 ∧ c.1 D 10 = nI k ∧ r.1 1 28 = nI k ∧ ∀ i, i < k → r.1 13 i = c.1 (D + 5) i ∧ 0 ≤ (c.1 (D + 5) i).toInt ∧ (c.1 (D + 5) i).toInt ≤ 9
def pu_Dp (c r : pm_H) (D L kn ko np ks : Nat) : Prop := (12 ≤ L ∨ (L = 0 ∧ kn = 0 ∧ ko = 0 ∧ np = 0 ∧ ks = 0)) ∧ pu_D0 c r D L ∧ pu_D1 c r D kn ∧ pu_D2 c r D ko ∧ pu_D3 c r D np ∧ pu_D4 c r D ks
theorem pu_D0.cg {c r c' r' : pm_H} {D k : Nat} (H : pu_D0 c r D k) (h0 : c'.1 D 0 = c.1 D 0) (h1 : c'.1 D 1 = c.1 D 1) (h2 : r'.1 1 19 = r.1 1 19) (h3 : r'.1 1 20 = r.1 1 20) : pu_D0 c' r' D k := by
  unfold pu_D0; rw [h0, h1, h2, h3]; exact H
theorem pu_D1.cg {c r c' r' : pm_H} {D k : Nat} (H : pu_D1 c r D k) (h0 : c'.1 D 3 = c.1 D 3) (h1 : c'.1 (D + 1) = c.1 (D + 1)) (h2 : r'.1 1 21 = r.1 1 21) (h3 : r'.1 9 = r.1 9) : pu_D1 c' r' D k := by
  unfold pu_D1; rw [h0, h1, h2, h3]; exact H
theorem pu_D2.cg {c r c' r' : pm_H} {D k : Nat} (H : pu_D2 c r D k) (h0 : c'.1 D 6 = c.1 D 6) (h1 : c'.1 (D + 2) = c.1 (D + 2)) (h1' : c'.1 (D + 3) = c.1 (D + 3)) (h2 : r'.1 1 23 = r.1 1 23) (h3 : r'.1 10 = r.1 10) (h3' : r'.1 11 = r.1 11) : pu_D2 c' r' D k := by
  unfold pu_D2; rw [h0, h1, h1', h2, h3, h3']; exact H
theorem pu_D3.cg {c r c' r' : pm_H} {D k : Nat} (H : pu_D3 c r D k) (h0 : c'.1 D 8 = c.1 D 8) (h1 : c'.1 (D + 4) = c.1 (D + 4)) (h2 : r'.1 1 26 = r.1 1 26) (h3 : r'.1 12 = r.1 12) : pu_D3 c' r' D k := by
  unfold pu_D3; rw [h0, h1, h2, h3]; exact H
theorem pu_D4.cg {c r c' r' : pm_H} {D k : Nat} (H : pu_D4 c r D k) (h0 : c'.1 D 10 = c.1 D 10) (h1 : c'.1 (D + 5) = c.1 (D + 5)) (h2 : r'.1 1 28 = r.1 1 28) (h3 : r'.1 13 = r.1 13) : pu_D4 c' r' D k := by
  unfold pu_D4; rw [h0, h1, h2, h3]; exact H
/-- what a clause may change -/
def pu_F (D : Nat) (c r c' r' : pm_H) : Prop := c'.2 = c.2 ∧ (∀ q, q ≠ 3 → q < D ∨ D + 5 < q → c'.1 q = c.1 q) ∧ r'.2 = r.2 ∧ (∀ q, q ≠ 1 → q < 9 ∨ 13 < q → r'.1 q = r.1 q) ∧ ∀ k, k < 15 ∨ 29 < k → r'.1 1 k = r.1 1 k
theorem pu_F.tr {D : Nat} {c r c1 r1 c2 r2 : pm_H} (h : pu_F D c r c1 r1) (h' : pu_F D c1 r1 c2 r2) : pu_F D c r c2 r2 :=
  ⟨h'.1.trans h.1, fun q a b => (h'.2.1 q a b).trans (h.2.1 q a b), h'.2.2.1.trans h.2.2.1, fun q a b => (h'.2.2.2.1 q a b).trans (h.2.2.2.1 q a b), fun k a => (h'.2.2.2.2 k a).trans (h.2.2.2.2 k a)⟩
theorem pu_F.of {D : Nat} {c r c' r' : pm_H} (h : pu_cX c c') (h' : pu_rX r r') : pu_F D c r c' r' := ⟨h.1, fun q a _ => h.2.1 q a, h'.1, fun q a _ => h'.2.1 q a, fun k _ => h'.2.2 k (by omega)⟩
theorem pu_F.c {D q k : Nat} {c r c' r' : pm_H} {x : Int32} (h : pu_F D c r c' r') (hq : D ≤ q ∧ q ≤ D + 5) : pu_F D c r (pm_si c' q k x) r' := ⟨h.1, fun q' a b => by rw [pm_si_row (by omega)]; exact h.2.1 q' a b, h.2.2.1, h.2.2.2.1, h.2.2.2.2⟩
theorem pu_F.r {D q k : Nat} {c r c' r' : pm_H} {x : Int32} (h : pu_F D c r c' r') (hq : (9 ≤ q ∧ q ≤ 13) ∨ (q = 1 ∧ 15 ≤ k ∧ k ≤ 29)) : pu_F D c r c' (pm_si r' q k x) := ⟨h.1, h.2.1, h.2.2.1, fun q' a b => by rw [pm_si_row (by omega)]; exact h.2.2.2.1 q' a b, fun k' a => by rw [pm_si_ne (by omega)]; exact h.2.2.2.2 k' a⟩
theorem lgD {D : Nat} (hD : D = 5 ∨ D = 11) : lgC (16 - D) 2 D 2 = D + 1 ∧ lgC (16 - D) 2 D 4 = D + 2 ∧ lgC (16 - D) 2 D 5 = D + 3 ∧ lgC (16 - D) 2 D 7 = D + 4 ∧ lgC (16 - D) 2 D 9 = D + 5 := by
  rcases hD with rfl | rfl
  · exact ⟨(lgC_o (by decide) (by decide) (by decide)).trans (by decide +kernel), (lgC_o (by decide) (by decide) (by decide)).trans (by decide +kernel), (lgC_o (by decide) (by decide) (by decide)).trans (by decide +kernel), (lgC_o (by decide) (by decide) (by decide)).trans (by decide +kernel), (lgC_o (by decide) (by decide) (by decide)).trans (by decide +kernel)⟩
  · exact ⟨(lgC_o (by decide) (by decide) (by decide)).trans (by decide +kernel), (lgC_o (by decide) (by decide) (by decide)).trans (by decide +kernel), (lgC_o (by decide) (by decide) (by decide)).trans (by decide +kernel), (lgC_o (by decide) (by decide) (by decide)).trans (by decide +kernel), (lgC_o (by decide) (by decide) (by decide)).trans (by decide +kernel)⟩
