theorem e64 (o S : Nat) : nI o * (64 : Int32) + nI S = nI (64 * o + S) := by rw [show (64 : Int32) = nI 64 from rfl, qn_mul, qn_add, Nat.mul_comm]
theorem e64r (o S : Nat) : (64 : Int32) * nI o + nI S = nI (64 * o + S) := by rw [show (64 : Int32) = nI 64 from rfl, qn_mul, qn_add]
theorem e64s (o S : Nat) : (64 : Int32) * nI o + (64 : Int32) + nI S = nI (64 * (o + 1) + S) := by rw [show (64 : Int32) = nI 64 from rfl, qn_mul, qn_add, qn_add]; congr 1
theorem ev_most {T l o S : Nat} {c : pm_H} (g1 : c.2 = lgC T l) (ho : o ≤ 6) (hS : S < 64) : fX4_mostFrom lw_SC 217 (nI o) (nI S) c = some (c.1 219 (64 * o + S), c) := by
  have i1 : pm_ib (nI (64 * o + S)) 448 = true := pm_ib_nI (by omega) (by omega)
  have c1 : (nI (64 * o + S)).toNatClampNeg = 64 * o + S := nI_clamp (by omega)
  simp only [fX4_mostFrom, e64, g1, lgS, lenS, i1, c1, if_true]
theorem ev_filled {T l o S p : Nat} {g : Nat → Nat} {c : pm_H} (g1 : c.2 = lgC T l) (ho : o < 6) (hS : S < 64) (hp : p < 6) (hg : ∀ S, S < 64 → c.1 219 (64 * (o + 1) + S) = nI (g S)) : fX4_filledWith lw_SC 217 (nI o) (nI S) (nI p) c = some (nI (1 + g (S ||| 2 ^ p)), c) := by
  have hn := qn_nem1 (j := p) (by omega)
  have hlt := qn_orlt S hS p hp
  rw [fX4_filledWith, if_neg hn, qn_or S hS p hp, (nL o).2.2.2.2.2.2, ev_most g1 (by omega) hlt, Option.bind_some, hg _ hlt, (nL _).1]
theorem ev_filled0 {T l o S : Nat} {g : Nat → Nat} {c : pm_H} (g1 : c.2 = lgC T l) (ho : o < 6) (hS : S < 64) (hg : ∀ S, S < 64 → c.1 219 (64 * (o + 1) + S) = nI (g S)) : fX4_filledWith lw_SC 217 (nI o) (nI S) (-1) c = some (nI (g S), c) := by
  rw [fX4_filledWith, if_pos rfl, (nL o).2.2.2.2.2.2, ev_most g1 (by omega) hS, Option.bind_some, hg _ hS]
theorem ev_firstBest {T l o S F : Nat} {g : Nat → Nat} {c : pm_H} (g1 : c.2 = lgC T l) (ho : o < 6) (hF : F < 64) (hS : S < 64) (eF : c.1 218 o = nI F) (hg : ∀ S, S < 64 → c.1 219 (64 * (o + 1) + S) = nI (g S)) (hgb : ∀ S, g S ≤ 6) : ∃ w, fX4_firstBest lw_SC 217 (nI o) (nI S) c = some (w, c) ∧ pu_W F S g 6 w := by
  have n10 : ¬ (1 : Int32) = 0 := by decide
  have loop : ∀ k p m w, p + k = 6 → k < m → pu_W F S g p w → ∃ w', fX4_firstBest_L17 lw_SC 217 (nI o) (nI S) (nI F &&& (nI S ^^^ (-1 : Int32))) (fun w11 s12 => some (w11, s12)) m w (nI p) c = some (w', c) ∧ pu_W F S g 6 w' := by
    intro k
    induction k with
    | zero =>
      intro p m w hp hm hw
      obtain ⟨m, rfl⟩ : ∃ z, m = z + 1 := ⟨m - 1, by omega⟩
      have hp6 : p = 6 := by omega
      subst hp6
      exact ⟨w, by rw [fX4_firstBest_L17, if_pos (by decide)], hw⟩
    | succ k ih =>
      intro p m w hp hm hw
      obtain ⟨m, rfl⟩ : ∃ z, m = z + 1 := ⟨m - 1, by omega⟩
      have e0 : ¬ (6 : Int32) ≤ nI p := fun z => by have := (qn_le_iff (a := 6) (by omega) (by omega)).mp z; omega
      by_cases hf : pu_free F S p = true
      · have hb := (qn_free hF hS (show p < 6 by omega)).mpr hf
        rcases hw with ⟨rfl, h1⟩ | ⟨b, hb1, rfl, hb2, hb3, hb4⟩
        · obtain ⟨w', y1, y2⟩ := ih (p + 1) m (nI p) (by omega) (by omega) (Or.inr ⟨p, by omega, rfl, hf, fun p' hp' hf' => by
            by_cases e : p' = p
            · subst e; exact Nat.le_refl _
            · exact Bool.noConfusion ((h1 p' (by omega)).symm.trans hf'), fun p' hp' hf' => Bool.noConfusion ((h1 p' hp').symm.trans hf')⟩)
          refine ⟨w', ?_, y2⟩
          rw [fX4_firstBest_L17, if_neg e0, if_pos hb, fX4_firstBest_J39, if_neg n10, if_pos rfl, (nL p).2.2.2.2.2.2]
          exact y1
        · have hn := qn_nem1 (j := b) (by omega)
          by_cases hle : g (S ||| 2 ^ p) ≤ g (S ||| 2 ^ b)
          · have ec : nI (1 + g (S ||| 2 ^ p)) ≤ nI (1 + g (S ||| 2 ^ b)) := (qn_le_iff (by have := hgb (S ||| 2 ^ p); omega) (by have := hgb (S ||| 2 ^ b); omega)).mpr (by omega)
            obtain ⟨w', y1, y2⟩ := ih (p + 1) m (nI b) (by omega) (by omega) (Or.inr ⟨b, by omega, rfl, hb2, fun p' hp' hf' => by
              by_cases e : p' = p
              · subst e; exact hle
              · exact hb3 p' (by omega) hf', hb4⟩)
            refine ⟨w', ?_, y2⟩
            rw [fX4_firstBest_L17, if_neg e0, if_pos hb, fX4_firstBest_J39, if_neg n10, if_neg hn, ev_filled g1 ho hS (by omega) hg, Option.bind_some, ev_filled g1 ho hS (by omega) hg, Option.bind_some, if_pos ec, (nL p).2.2.2.2.2.2]
            exact y1
          · have ec : ¬ nI (1 + g (S ||| 2 ^ p)) ≤ nI (1 + g (S ||| 2 ^ b)) := fun z => by have := (qn_le_iff (by have := hgb (S ||| 2 ^ p); omega) (by have := hgb (S ||| 2 ^ b); omega)).mp z; omega
            obtain ⟨w', y1, y2⟩ := ih (p + 1) m (nI p) (by omega) (by omega) (Or.inr ⟨p, by omega, rfl, hf, fun p' hp' hf' => by
              by_cases e : p' = p
              · subst e; exact Nat.le_refl _
              · have := hb3 p' (by omega) hf'; omega, fun p' hp' hf' => by have := hb3 p' hp' hf'; omega⟩)
            refine ⟨w', ?_, y2⟩
            rw [fX4_firstBest_L17, if_neg e0, if_pos hb, fX4_firstBest_J39, if_neg n10, if_neg hn, ev_filled g1 ho hS (by omega) hg, Option.bind_some, ev_filled g1 ho hS (by omega) hg, Option.bind_some, if_neg ec, (nL p).2.2.2.2.2.2]
            exact y1
      · have hb : ¬ (((nI F &&& (nI S ^^^ (-1 : Int32))) >>> (nI p &&& 31)) &&& (1 : Int32)) = (1 : Int32) := fun z => hf ((qn_free hF hS (show p < 6 by omega)).mp z)
        have hf0 : pu_free F S p = false := by simpa using hf
        obtain ⟨w', y1, y2⟩ := ih (p + 1) m w (by omega) (by omega) (by
          rcases hw with ⟨h0, h1⟩ | ⟨b, hb1, h0, hb2, hb3, hb4⟩
          · refine Or.inl ⟨h0, fun p' hp' => ?_⟩
            by_cases e : p' = p
            · subst e; exact hf0
            · exact h1 p' (by omega)
          · refine Or.inr ⟨b, by omega, h0, hb2, fun p' hp' hf' => ?_, hb4⟩
            by_cases e : p' = p
            · subst e; exact absurd hf' hf
            · exact hb3 p' (by omega) hf')
        refine ⟨w', ?_, y2⟩
        rw [fX4_firstBest_L17, if_neg e0, if_neg hb, fX4_firstBest_J39, if_pos rfl, (nL p).2.2.2.2.2.2]
        exact y1
  have i1 : pm_ib (nI o) 6 = true := pm_ib_nI (by omega) (by omega)
  have c1 : (nI o).toNatClampNeg = o := nI_clamp (by omega)
  obtain ⟨w, y1, y2⟩ := loop 6 0 pm_fuel (-1) (by omega) (by unfold pm_fuel; omega) (Or.inl ⟨rfl, fun p hp => absurd hp (Nat.not_lt_zero _)⟩)
  refine ⟨w, ?_, y2⟩
  rw [fX4_firstBest]
  simp only [g1, lgS, lenS, i1, c1, if_true, pm_let, eF]
  exact y1
theorem ev_best {T l o S F : Nat} {g : Nat → Nat} {c : pm_H} {w : Int32} (g1 : c.2 = lgC T l) (ho : o < 6) (hS : S < 64) (hg : ∀ S, S < 64 → c.1 219 (64 * (o + 1) + S) = nI (g S)) (hw : pu_W F S g 6 w) {G : Nat} (hn : (∀ p, p < 6 → pu_free F S p = false) → G = g S) (hb : ∀ b, b < 6 → pu_free F S b = true → (∀ p, p < 6 → pu_free F S p = true → g (S ||| 2 ^ p) ≤ g (S ||| 2 ^ b)) → G = 1 + g (S ||| 2 ^ b)) : fX4_filledWith lw_SC 217 (nI o) (nI S) w c = some (nI G, c) := by
  rcases hw with ⟨rfl, h1⟩ | ⟨b, hb1, rfl, hb2, hb3, hb4⟩
  · rw [ev_filled0 g1 ho hS hg, hn h1]
  · rw [ev_filled g1 ho hS hb1 hg, hb b hb1 hb2 hb3]
/-- the class's tables when k of ko offices are weighed -/
def pu_PC (fit : Nat → Nat) (ko k : Nat) (c0 c : pm_H) : Prop := c.2 = c0.2 ∧ (∀ q, q ≠ 217 → q ≠ 218 → q ≠ 219 → c.1 q = c0.1 q) ∧ c.1 217 2 = nI ko ∧ (∀ o, ko - k ≤ o → o < ko → c.1 218 o = nI (fit o)) ∧ ∀ j, j ≤ k → ∀ S, S < 64 → c.1 219 (64 * (ko - j) + S) = nI (pu_G fit ko j S)
theorem ev_weigh1 {fit : Nat → Nat} {ko k T l : Nat} {c0 c : pm_H} (v1 v2 : Nat) (g1 : c0.2 = lgC T l) (hko : ko ≤ 6) (hk : k < ko) (hfit : ∀ o, o < ko → fit o < 64) (H : pu_PC fit ko k c0 c) (eF : c.1 218 (ko - (k + 1)) = nI (fit (ko - (k + 1)))) (kx : pm_H → Option pm_H) : ∃ c', fX4_weigh_L42 lw_SC 217 v1 v2 (nI (ko - (k + 1))) kx pm_fuel 0 c = kx c' ∧ pu_PC fit ko (k + 1) c0 c' := by
  obtain ⟨o, hoe⟩ : ∃ o, o = ko - (k + 1) := ⟨_, rfl⟩
  have hok : ko - k = o + 1 := by omega
  have loop : ∀ j S m (c : pm_H), S + j = 64 → j < m → pu_PC fit ko k c0 c → c.1 218 o = nI (fit o) → (∀ S', S' < S → c.1 219 (64 * o + S') = nI (pu_G fit ko (k + 1) S')) → ∃ c', fX4_weigh_L42 lw_SC 217 v1 v2 (nI o) kx m (nI S) c = kx c' ∧ pu_PC fit ko k c0 c' ∧ c'.1 218 o = nI (fit o) ∧ (∀ S', S' < 64 → c'.1 219 (64 * o + S') = nI (pu_G fit ko (k + 1) S')) := by
    intro j
    induction j with
    | zero =>
      intro S m c hS hm h1 h2 h3
      obtain ⟨m, rfl⟩ : ∃ z, m = z + 1 := ⟨m - 1, by omega⟩
      have hS64 : S = 64 := by omega
      subst hS64
      exact ⟨c, by rw [fX4_weigh_L42, if_pos (by decide)], h1, h2, h3⟩
    | succ j ih =>
      intro S m c hS hm h1 h2 h3
      obtain ⟨m, rfl⟩ : ∃ z, m = z + 1 := ⟨m - 1, by omega⟩
      obtain ⟨p1, p2, p3, p4, p5⟩ := id h1
      have p1' : c.2 = lgC T l := p1.trans g1
      have e0 : ¬ (64 : Int32) ≤ nI S := fun z => by have := (qn_le_iff (a := 64) (by omega) (by omega)).mp z; omega
      have hg : ∀ S, S < 64 → c.1 219 (64 * (o + 1) + S) = nI (pu_G fit ko k S) := fun S hS => by rw [← hok]; exact p5 k (Nat.le_refl _) S hS
      obtain ⟨w, w1, w2⟩ := ev_firstBest (F := fit o) p1' (show o < 6 by omega) (hfit o (by omega)) (show S < 64 by omega) h2 hg (fun S => by have := pu_G_le fit ko k S; omega)
      have w3 := ev_best (G := pu_G fit ko (k + 1) S) p1' (show o < 6 by omega) (show S < 64 by omega) hg w2 (fun h => pu_G_none (by rw [← hoe]; exact h)) (fun b hb hf h => pu_G_best hb (by rw [← hoe]; exact hf) (by rw [← hoe]; exact h))
      have i1 : pm_ib (nI (64 * o + S)) 448 = true := pm_ib_nI (by omega) (by omega)
      have c1 : (nI (64 * o + S)).toNatClampNeg = 64 * o + S := nI_clamp (by omega)
      obtain ⟨c', y1, y2⟩ := ih (S + 1) m (pm_si c 219 (64 * o + S) (nI (pu_G fit ko (k + 1) S))) (by omega) (by omega) ⟨p1, fun q q1 q2 q3 => by rw [pm_si_row q3]; exact p2 q q1 q2 q3, by rw [pm_si_row (by omega)]; exact p3, fun o' h1 h2 => by rw [pm_si_row (by omega)]; exact p4 o' h1 h2, fun j' hj' S' hS' => by rw [pm_si_ne (by omega)]; exact p5 j' hj' S' hS'⟩ (by rw [pm_si_row (by omega)]; exact h2) (fun S' hS' => by
        by_cases e : S' = S
        · subst e; rw [pm_si_same]
        · rw [pm_si_ne (by omega)]; exact h3 S' (by omega))
      refine ⟨c', ?_, y2⟩
      rw [← y1, fX4_weigh_L42, if_neg e0, w1, Option.bind_some, w3, Option.bind_some]
      simp only [e64, p1', lgS, lenS, i1, c1, if_true, pm_let, (nL S).2.2.2.2.2.2]
  rw [← hoe] at eF ⊢
  obtain ⟨c', y1, ⟨p1, p2, p3, p4, p5⟩, y3, y4⟩ := loop 64 0 pm_fuel c (by omega) (by unfold pm_fuel; omega) H eF (fun S' h => absurd h (Nat.not_lt_zero _))
  refine ⟨c', y1, p1, p2, p3, fun o' h1 h2 => ?_, fun j hj S hS => ?_⟩
  · by_cases e : o' = o
    · subst e; exact y3
    · exact p4 o' (by omega) h2
  · by_cases e : j = k + 1
    · subst e; rw [← hoe]; exact y4 S hS
    · exact p5 j (by omega) S hS
theorem ev_weigh {T l L np ko : Nat} {c : pm_H} (hT : T = 5 ∨ T = 11) (g1 : c.2 = lgC T l) (hL : c.1 18 0 = nI L) (h1 : 0 < np → 1 ≤ L) (h2 : L ≤ 240) (hn : c.1 T 8 = nI np) (hnp : np ≤ 6) (hko : ko ≤ 6) (eko : c.1 T 6 = nI ko) : ∃ c', fX4_weigh lw_SC 217 T 17 c = some c' ∧ pu_PC (fun o => pu_fN (pu_q c T L o) np) ko ko c c' := by
  obtain ⟨fit, hfit⟩ : ∃ fit, fit = fun o => pu_fN (pu_q c T L o) np := ⟨_, rfl⟩
  have hfl : ∀ o, o < ko → fit o < 64 := fun o _ => by rw [hfit]; exact pu_fN_lt _ _ hnp
  rw [← hfit]
  have loop : ∀ n k m (s : pm_H), k + n = ko → n < m → pu_PC fit ko k c s → ∃ c', fX4_weigh_L23 lw_SC 217 T 17 (fun s17 => some s17) m (nI n - 1) s = some c' ∧ pu_PC fit ko ko c c' := by
    intro n
    induction n with
    | zero =>
      intro k m s hk hm H
      obtain ⟨m, rfl⟩ : ∃ z, m = z + 1 := ⟨m - 1, by omega⟩
      have hkk : k = ko := by omega
      subst hkk
      exact ⟨s, by rw [fX4_weigh_L23, if_pos (by decide)], H⟩
    | succ n ih =>
      intro k m s hk hm H
      obtain ⟨m, rfl⟩ : ∃ z, m = z + 1 := ⟨m - 1, by omega⟩
      obtain ⟨p1, p2, p3, p4, p5⟩ := id H
      have p1' : s.2 = lgC T l := p1.trans g1
      have en : nI (n + 1) - 1 = nI n := by rw [show (1 : Int32) = nI 1 from rfl, qn_sub (by omega)]; congr 1
      have e0 := qn_notneg (j := n) (by omega)
      have eo : n = ko - (k + 1) := by omega
      have q18 : s.1 18 0 = nI L := by rw [p2 18 (by omega) (by omega) (by omega)]; exact hL
      have qT : s.1 T 8 = nI np := by rw [p2 T (by omega) (by omega) (by omega)]; exact hn
      have ft := ev_fitting (o := n) hT p1' q18 h1 h2 qT hnp (by omega)
      have efit : pu_fb (pu_q s T L n) np = nI (fit n) := by
        rw [pu_fN_fb _ _ hnp, hfit]
        have : pu_q s T L n = pu_q c T L n := by
          funext p
          unfold pu_q
          rw [p2 26 (by omega) (by omega) (by omega), p2 (T + 2) (by omega) (by omega) (by omega), p2 (T + 3) (by omega) (by omega) (by omega)]
        rw [this]
      have i1 : pm_ib (nI n) 6 = true := pm_ib_nI (by omega) (by omega)
      have c1 : (nI n).toNatClampNeg = n := nI_clamp (by omega)
      have H2 : pu_PC fit ko k c (pm_si s 218 n (nI (fit n))) := ⟨p1, fun q q1 q2 q3 => by rw [pm_si_row q2]; exact p2 q q1 q2 q3, by rw [pm_si_row (by omega)]; exact p3, fun o' h1 h2 => by rw [pm_si_ne (by omega)]; exact p4 o' h1 h2, fun j' hj' S' hS' => by rw [pm_si_row (by omega)]; exact p5 j' hj' S' hS'⟩
      obtain ⟨c1', y1, y2⟩ := ev_weigh1 T 17 g1 hko (show k < ko by omega) hfl H2 (by rw [← eo, pm_si_same]) (fun s15 => fX4_weigh_L23 lw_SC 217 T 17 (fun s17 => some s17) m (nI n + (-1 : Int32)) s15)
      rw [← eo] at y1
      obtain ⟨c', z1, z2⟩ := ih (k + 1) m c1' (by omega) (by omega) y2
      refine ⟨c', ?_, z2⟩
      have em : nI n + (-1 : Int32) = nI n - 1 := by rw [Int32.sub_eq_add_neg]
      rw [en, fX4_weigh_L23, if_neg e0, ft, Option.bind_some, efit]
      simp only [p1', lgS, lenS, i1, c1, if_true, pm_let]
      rw [y1, em]
      exact z1
  obtain ⟨s, f1, f2, f3, f4⟩ := ev_fill (q := 219) (len := 448) (0 : Int32) (c := pm_si c 217 2 (nI ko)) (by simp only [lenS]) (by omega)
  have H0 : pu_PC fit ko 0 c s := ⟨f2, fun q q1 q2 q3 => by rw [f3 q q3, pm_si_row q1], by rw [f3 217 (by omega), pm_si_same], fun o h1 h2 => by omega, fun j hj S hS => by
    have hj0 : j = 0 := by omega
    subst hj0
    rw [f4 _ (by omega)]; rfl⟩
  obtain ⟨c', z1, z2⟩ := loop ko 0 pm_fuel s (by omega) (by unfold pm_fuel; omega) H0
  refine ⟨c', ?_, z2⟩
  have f2' : (pm_si c 217 2 (nI ko)).2 217 1 = 219 := by show c.2 217 1 = 219; rw [g1]; simp only [lgS]
  rw [fX4_weigh]
  simp only [pm_let, eko, f2', f1, Option.bind_some]
  rw [H0.2.2.1]
  exact z1
