/-- the lengths that can be laid on -/
def pu_Bl (nk : Nat → Nat) (kn L x : Nat) : Prop := x = L ∨ ∃ i, i < kn ∧ nk i = x ∧ x < L
theorem ev_take {nk : Nat → Nat} {kn L T l : Nat} {c : pm_H} (hT : T = 5 ∨ T = 11) (g1 : c.2 = lgC T l) (hk : kn ≤ 5) (ek : c.1 T 3 = nI kn) (hnk : ∀ i, i < kn → c.1 (T + 1) i = nI (nk i) ∧ nk i ≤ 240) (hL : L ≤ 240) : ∃ (c' : pm_H) (K : Nat) (b : Nat → Nat), fX2_takeLengths lw_SC 213 T (nI L) c = some c' ∧ c'.2 = c.2 ∧ (∀ q, q ≠ 213 → q ≠ 216 → c'.1 q = c.1 q) ∧ K ≤ 6 ∧ c'.1 213 4 = nI K ∧ (∀ i, i < K → c'.1 216 i = nI (b i) ∧ b i ≤ 240 ∧ pu_Bl nk kn L (b i)) ∧ ∀ x, pu_Bl nk kn L x → ∃ i, i < K ∧ b i = x := by
  have loop : ∀ k j n (s : pm_H) (K : Nat) (b : Nat → Nat), j + k = kn → k < n → s.2 = c.2 → (∀ q, q ≠ 213 → q ≠ 216 → s.1 q = c.1 q) → K ≤ j + 1 → s.1 213 4 = nI K → (∀ i, i < K → s.1 216 i = nI (b i) ∧ b i ≤ 240 ∧ pu_Bl nk kn L (b i)) → (∀ x, pu_Bl nk j L x → ∃ i, i < K ∧ b i = x) → ∃ (c' : pm_H) (K : Nat) (b : Nat → Nat), fX2_takeLengths_L14 lw_SC 213 T (nI L) (fun s15 => some s15) n (nI j) s = some c' ∧ c'.2 = c.2 ∧ (∀ q, q ≠ 213 → q ≠ 216 → c'.1 q = c.1 q) ∧ K ≤ 6 ∧ c'.1 213 4 = nI K ∧ (∀ i, i < K → c'.1 216 i = nI (b i) ∧ b i ≤ 240 ∧ pu_Bl nk kn L (b i)) ∧ ∀ x, pu_Bl nk kn L x → ∃ i, i < K ∧ b i = x := by
    intro k
    induction k with
    | zero =>
      intro j n s K b hj hn a1 a2 a3 a4 a5 a6
      obtain ⟨n, rfl⟩ : ∃ z, n = z + 1 := ⟨n - 1, by omega⟩
      have hjk : j = kn := by omega
      subst hjk
      have e0 : nI j ≤ nI j := Int32.le_refl _
      exact ⟨s, K, b, by rw [fX2_takeLengths_L14, a2 T (by omega) (by omega), ek, if_pos e0], a1, a2, by omega, a4, a5, a6⟩
    | succ k ih =>
      intro j n s K b hj hn a1 a2 a3 a4 a5 a6
      obtain ⟨n, rfl⟩ : ∃ z, n = z + 1 := ⟨n - 1, by omega⟩
      have e0 : ¬ nI kn ≤ nI j := fun z => by have := (qn_le_iff (by omega) (by omega)).mp z; omega
      obtain ⟨b1, b2⟩ := hnk j (by omega)
      have i1 : pm_ib (nI j) 5 = true := pm_ib_nI (by omega) (by omega)
      have c1 : (nI j).toNatClampNeg = j := nI_clamp (by omega)
      have i2 : pm_ib (nI K) 6 = true := pm_ib_nI (by omega) (by omega)
      have c2 : (nI K).toNatClampNeg = K := nI_clamp (by omega)
      have a1' : s.2 = lgC T l := a1.trans g1
      have bs : s.1 (T + 1) j = nI (nk j) := by rw [a2 (T + 1) (by omega) (by omega)]; exact b1
      have hT3 : s.1 T 3 = nI kn := by rw [a2 T (by omega) (by omega)]; exact ek
      by_cases hlt : nk j < L
      · have e1 : ¬ nI L ≤ nI (nk j) := fun z => by have := (qn_le_iff (by omega) (by omega)).mp z; omega
        have f1 : (pm_si s 216 K (nI (nk j))).1 213 4 = nI K := by rw [pm_si_row (by omega)]; exact a4
        obtain ⟨c', K', b', y1, y2⟩ := ih (j + 1) n (pm_si (pm_si s 216 K (nI (nk j))) 213 4 (nI (K + 1))) (K + 1) (fun i => if i = K then nk j else b i) (by omega) (by omega) a1 (fun q q1 q2 => by rw [pm_si_row q1, pm_si_row q2]; exact a2 q q1 q2) (by omega) pm_si_same (fun i hi => by
          show (pm_si (pm_si s 216 K (nI (nk j))) 213 4 (nI (K + 1))).1 216 i = nI (if i = K then nk j else b i) ∧ (if i = K then nk j else b i) ≤ 240 ∧ pu_Bl nk kn L (if i = K then nk j else b i)
          by_cases hiK : i = K
          · subst hiK
            rw [if_pos rfl, pm_si_row (by omega), pm_si_same]
            exact ⟨rfl, b2, Or.inr ⟨j, by omega, rfl, hlt⟩⟩
          · rw [if_neg hiK, pm_si_row (by omega), pm_si_ne (by omega)]
            exact a5 i (by omega)) (fun x hx => by
          have old : pu_Bl nk j L x → ∃ i, i < K + 1 ∧ (if i = K then nk j else b i) = x := fun z => by
            obtain ⟨i, z1, z2⟩ := a6 x z
            exact ⟨i, by omega, by rw [if_neg (by omega)]; exact z2⟩
          rcases hx with z | ⟨i, z1, z2, z3⟩
          · exact old (Or.inl z)
          · by_cases hij : i = j
            · subst hij
              exact ⟨K, by omega, by rw [if_pos rfl]; exact z2⟩
            · exact old (Or.inr ⟨i, by omega, z2, z3⟩))
        refine ⟨c', K', b', ?_, y2⟩
        rw [fX2_takeLengths_L14, hT3, if_neg e0]
        simp only [a1', lgS, lgT l hT, lenS, lenT hT, i1, c1, if_true, bs, if_neg e1, a4, i2, c2, pm_let, f1, (nL K).2.2.2.2.2.2, (nL j).2.2.2.2.2.2, y1]
      · have e1 : nI L ≤ nI (nk j) := (qn_le_iff (by omega) (by omega)).mpr (by omega)
        obtain ⟨c', K', b', y1, y2⟩ := ih (j + 1) n s K b (by omega) (by omega) a1 a2 (by omega) a4 a5 (fun x hx => by
          rcases hx with z | ⟨i, z1, z2, z3⟩
          · exact a6 x (Or.inl z)
          · by_cases hij : i = j
            · subst hij; omega
            · exact a6 x (Or.inr ⟨i, by omega, z2, z3⟩))
        refine ⟨c', K', b', ?_, y2⟩
        rw [fX2_takeLengths_L14, hT3, if_neg e0]
        simp only [a1', lgT l hT, lenT hT, i1, c1, if_true, bs, if_pos e1, (nL j).2.2.2.2.2.2, y1]
  obtain ⟨c', K, b, y1, y2⟩ := loop kn 0 pm_fuel (pm_si (pm_si c 216 0 (nI L)) 213 4 1) 1 (fun _ => L) (by omega) (by unfold pm_fuel; omega) rfl (fun q q1 q2 => by rw [pm_si_row q1, pm_si_row q2]) (by omega) pm_si_same (fun i hi => by
    rw [show i = 0 by omega, pm_si_row (by omega), pm_si_same]
    exact ⟨rfl, hL, Or.inl rfl⟩) (fun x hx => by
    rcases hx with z | ⟨i, z1, z2, z3⟩
    · exact ⟨0, by omega, z.symm⟩
    · omega)
  have y1' : fX2_takeLengths_L14 lw_SC 213 T (nI L) (fun s15 => some s15) pm_fuel 0 (pm_si (pm_si c 216 0 (nI L)) 213 4 1) = some c' := y1
  refine ⟨c', K, b, ?_, y2⟩
  have i0 : pm_ib 0 6 = true := by decide
  rw [fX2_takeLengths]
  simp only [g1, lgS, lenS, i0, if_true, cl6, pm_let, y1']
/-! the reference's layers -/
def pu_I (B : Nat → Prop) (n : Nat) (D : Nat → Nat → Prop) (t : Nat → Int32) : Prop := ∀ x, x < 1000 → (∃ d, d ≤ n ∧ pu_lv B d x ∧ t x = nI d) ∨ (¬ pu_rd B n x ∧ pu_rd B (n + 1) x ∧ t x = nI (n + 1)) ∨ (¬ pu_rd B n x ∧ t x = nI 1000000 ∧ ∀ b y, D b y → pu_lv B n y → x ≠ y + b ∧ y ≠ x + b)
theorem pu_I.weak {B : Nat → Prop} {n : Nat} {D D' : Nat → Nat → Prop} {t : Nat → Int32} (H : pu_I B n D t) (h : ∀ b y, pu_lv B n y → D' b y → D b y) : pu_I B n D' t := by
  intro x hx
  rcases H x hx with z | z | ⟨z1, z2, z3⟩
  · exact Or.inl z
  · exact Or.inr (Or.inl z)
  · exact Or.inr (Or.inr ⟨z1, z2, fun b y hD hl => z3 b y (h b y hl hD) hl⟩)
theorem pu_I.ext {B : Nat → Prop} {n p b : Nat} {D : Nat → Nat → Prop} {t : Nat → Int32} (H : pu_I B n D t) (h : ∀ x, x < 1000 → t x = nI 1000000 → pu_lv B n p → x ≠ p + b ∧ p ≠ x + b) : pu_I B n (fun b' y => D b' y ∨ (b' = b ∧ y = p)) t := by
  intro x hx
  rcases H x hx with z | z | ⟨z1, z2, z3⟩
  · exact Or.inl z
  · exact Or.inr (Or.inl z)
  · refine Or.inr (Or.inr ⟨z1, z2, fun b' y hD hl => ?_⟩)
    rcases hD with hD | ⟨rfl, rfl⟩
    · exact z3 b' y hD hl
    · exact h x hx z2 hl
theorem pu_I.mark {B : Nat → Prop} {n p x : Nat} {D : Nat → Nat → Prop} {t t' : Nat → Int32} (H : pu_I B n D t) (hn : n ≤ 20) (hp : pu_lv B n p) (ha : pu_adj B p x) (hx : x < 1000) (ht : ¬ t x ≤ nI n) (h1 : t' x = nI (n + 1)) (h2 : ∀ i, i ≠ x → t' i = t i) : pu_I B n D t' := by
  intro i hi
  by_cases hix : i = x
  · subst hix
    have hnr : ¬ pu_rd B n i := by
      rcases H i hi with ⟨d, z1, z2, z3⟩ | z | z
      · exfalso; apply ht; rw [z3]; exact (qn_le_iff (by omega) (by omega)).mpr z1
      · exact z.1
      · exact z.1
    exact Or.inr (Or.inl ⟨hnr, (pu_lv_next hp ha hx hnr).1, h1⟩)
  · rw [h2 i hix]
    exact H i hi
theorem ev_layR {B : Nat → Prop} {n b : Nat} {D : Nat → Prop} {r : pm_H} (hn : n ≤ 19) (hb : b ≤ 240) (hB : B b) (g3 : r.2 = lw_R0.2) (H : pu_I B n (fun b' _ => D b') (r.1 15)) : ∃ r', fX12_layOn lw_SR 1 (nI b) (nI n) r = some r' ∧ r'.2 = r.2 ∧ (∀ q, q ≠ 15 → r'.1 q = r.1 q) ∧ pu_I B n (fun b' _ => D b' ∨ b' = b) (r'.1 15) := by
  have n1 : ¬ (1 : Int32) = 0 := by decide
  have big : ∀ x : Int32, x ≤ nI n → x ≠ nI 1000000 := fun x hx e => by
    rw [e] at hx
    have := (qn_le_iff (by omega) (by omega)).mp hx
    omega
  have loop : ∀ k p m (s : pm_H), p + k = 1000 → k < m → s.2 = r.2 → (∀ q, q ≠ 15 → s.1 q = r.1 q) → pu_I B n (fun b' y => D b' ∨ (b' = b ∧ y < p)) (s.1 15) → ∃ r', fX12_layOn_L2 lw_SR 1 (nI b) (nI n) (fun s21 => some s21) m (nI p) s = some r' ∧ r'.2 = r.2 ∧ (∀ q, q ≠ 15 → r'.1 q = r.1 q) ∧ pu_I B n (fun b' _ => D b' ∨ b' = b) (r'.1 15) := by
    intro k
    induction k with
    | zero =>
      intro p m s hp hm a1 a2 a3
      obtain ⟨m, rfl⟩ : ∃ z, m = z + 1 := ⟨m - 1, by omega⟩
      have e0 : (1000 : Int32) ≤ nI p := (qn_le_iff (a := 1000) (by omega) (by omega)).mpr (by omega)
      refine ⟨s, by rw [fX12_layOn_L2, if_pos e0], a1, a2, a3.weak (fun b' y hl h => ?_)⟩
      rcases h with h | h
      · exact Or.inl h
      · exact Or.inr ⟨h, by have := pu_rd_lt hl.1; omega⟩
    | succ k ih =>
      intro p m s hp hm a1 a2 a3
      obtain ⟨m, rfl⟩ : ∃ z, m = z + 1 := ⟨m - 1, by omega⟩
      have e0 : ¬ (1000 : Int32) ≤ nI p := fun z => by have := (qn_le_iff (a := 1000) (by omega) (by omega)).mp z; omega
      have i1 : pm_ib (nI p) 1000 = true := pm_ib_nI (by omega) (by omega)
      have c1 : (nI p).toNatClampNeg = p := nI_clamp (by omega)
      have a1' : s.2 = lw_R0.2 := a1.trans g3
      have step : ∀ s' : pm_H, s'.2 = r.2 → (∀ q, q ≠ 15 → s'.1 q = r.1 q) → pu_I B n (fun b' y => (D b' ∨ (b' = b ∧ y < p)) ∨ (b' = b ∧ y = p)) (s'.1 15) → ∃ r', fX12_layOn_L2 lw_SR 1 (nI b) (nI n) (fun s21 => some s21) m (nI (p + 1)) s' = some r' ∧ r'.2 = r.2 ∧ (∀ q, q ≠ 15 → r'.1 q = r.1 q) ∧ pu_I B n (fun b' _ => D b' ∨ b' = b) (r'.1 15) := fun s' z1 z2 z3 => ih (p + 1) m s' (by omega) (by omega) z1 z2 (z3.weak (fun b' y _ h => by
        rcases h with h | ⟨h1, h2⟩
        · exact Or.inl (Or.inl h)
        · by_cases hyp : y = p
          · exact Or.inr ⟨h1, hyp⟩
          · exact Or.inl (Or.inr ⟨h1, by omega⟩)))
      have J63z : ∀ ag (s' : pm_H), fX12_layOn_J63 lw_SR 1 (nI b) (nI n) (nI p) 0 ag s' = ag (nI (p + 1)) s' := fun ag s' => by
        rw [fX12_layOn_J63, if_pos rfl, (nL p).2.2.2.2.2.2]
      by_cases ht : s.1 15 p = nI n
      · have hlv : pu_lv B n p := by
          rcases a3 p (by omega) with ⟨d, z1, z2, z3⟩ | ⟨-, -, z⟩ | ⟨-, z, -⟩
          · have : n = d := (qn_inj (by omega) (by omega)).mp (ht.symm.trans z3)
            rw [this]; exact z2
          · have := (qn_inj (by omega) (by omega)).mp (ht.symm.trans z); omega
          · have := (qn_inj (by omega) (by omega)).mp (ht.symm.trans z); omega
        -- the second half, from any state
        have half : ∀ s' : pm_H, s'.2 = r.2 → (∀ q, q ≠ 15 → s'.1 q = r.1 q) → pu_I B n (fun b' y => D b' ∨ (b' = b ∧ y < p)) (s'.1 15) → (p + b < 1000 → s'.1 15 (p + b) ≠ nI 1000000) → ∃ r', fX12_layOn_J63 lw_SR 1 (nI b) (nI n) (nI p) 1 (fun w3 sw => fX12_layOn_L2 lw_SR 1 (nI b) (nI n) (fun s21 => some s21) m w3 sw) s' = some r' ∧ r'.2 = r.2 ∧ (∀ q, q ≠ 15 → r'.1 q = r.1 q) ∧ pu_I B n (fun b' _ => D b' ∨ b' = b) (r'.1 15) := by
          intro s' z1 z2 z3 z4
          have z1' : s'.2 = lw_R0.2 := z1.trans g3
          by_cases hpb : b ≤ p
          · have es : nI p - nI b = nI (p - b) := qn_sub hpb
            have e1 : ¬ nI (p - b) < 0 := qn_notneg (by omega)
            have i2 : pm_ib (nI (p - b)) 1000 = true := pm_ib_nI (by omega) (by omega)
            have c2 : (nI (p - b)).toNatClampNeg = p - b := nI_clamp (by omega)
            by_cases hle : s'.1 15 (p - b) ≤ nI n
            · obtain ⟨r', y1, y2⟩ := step s' z1 z2 (z3.ext (fun x hx hx2 _ => ⟨fun e => z4 (by omega) (by rw [← e]; exact hx2), fun e => big _ hle (by rw [show p - b = x by omega]; exact hx2)⟩))
              refine ⟨r', ?_, y2⟩
              rw [fX12_layOn_J63, if_neg n1, es, if_neg e1]
              simp only [z1', lgR, lenR, i2, c2, if_true, if_pos hle, (nL p).2.2.2.2.2.2, y1]
            · obtain ⟨r', y1, y2⟩ := step (pm_si s' 15 (p - b) (nI (n + 1))) z1 (fun q hq => by rw [pm_si_row hq]; exact z2 q hq) ((z3.mark (x := p - b) (t' := (pm_si s' 15 (p - b) (nI (n + 1))).1 15) (by omega) hlv ⟨b, hB, Or.inr (by omega)⟩ (by omega) hle pm_si_same (fun i hi => pm_si_ne (by omega))).ext (fun x hx hx2 _ => by
                have hxne : x ≠ p - b := fun e => by
                  rw [e, pm_si_same] at hx2
                  have := (qn_inj (by omega) (by omega)).mp hx2
                  omega
                rw [pm_si_ne (by omega)] at hx2
                exact ⟨fun e => z4 (by omega) (by rw [← e]; exact hx2), fun e => hxne (by omega)⟩))
              refine ⟨r', ?_, y2⟩
              rw [fX12_layOn_J63, if_neg n1, es, if_neg e1]
              simp only [z1', lgR, lenR, i2, c2, if_true, if_neg hle, (nL p).2.2.2.2.2.2, pm_let, (nL n).2.2.2.2.2.2, y1]
          · have e1 : nI p - nI b < 0 := Int32.lt_iff_toInt_lt.mpr (by rw [pk_sub_toInt (by omega) (by omega)]; simp; omega)
            obtain ⟨r', y1, y2⟩ := step s' z1 z2 (z3.ext (fun x hx hx2 _ => ⟨fun e => z4 (by omega) (by rw [← e]; exact hx2), fun e => by omega⟩))
            refine ⟨r', ?_, y2⟩
            rw [fX12_layOn_J63, if_neg n1, if_pos e1, (nL p).2.2.2.2.2.2, y1]
        have E : ∀ X, (fX12_layOn_J24 lw_SR 1 (nI b) (nI n) (nI p) 1 (fun w3 sw => fX12_layOn_L2 lw_SR 1 (nI b) (nI n) (fun s21 => some s21) m w3 sw) s = X) → fX12_layOn_L2 lw_SR 1 (nI b) (nI n) (fun s21 => some s21) (m + 1) (nI p) s = X := fun X hX => by
          rw [fX12_layOn_L2, if_neg e0]
          simp only [a1', lgR, lenR, i1, c1, if_true, if_pos ht, hX]
        by_cases hpb : p + b < 1000
        · have e1 : ¬ (1000 : Int32) ≤ nI (p + b) := fun z => by have := (qn_le_iff (a := 1000) (by omega) (by omega)).mp z; omega
          have i2 : pm_ib (nI (p + b)) 1000 = true := pm_ib_nI (by omega) (by omega)
          have c2 : (nI (p + b)).toNatClampNeg = p + b := nI_clamp (by omega)
          by_cases hle : s.1 15 (p + b) ≤ nI n
          · obtain ⟨r', y1, y2⟩ := half s a1 a2 a3 (fun _ => big _ hle)
            refine ⟨r', E _ ?_, y2⟩
            rw [fX12_layOn_J24, if_neg n1, qn_add, if_neg e1]
            simp only [a1', lgR, lenR, i2, c2, if_true, if_pos hle, y1]
          · obtain ⟨r', y1, y2⟩ := half (pm_si s 15 (p + b) (nI (n + 1))) a1 (fun q hq => by rw [pm_si_row hq]; exact a2 q hq) (a3.mark (x := p + b) (t' := (pm_si s 15 (p + b) (nI (n + 1))).1 15) (by omega) hlv ⟨b, hB, Or.inl rfl⟩ hpb hle pm_si_same (fun i hi => pm_si_ne (by omega))) (fun _ => by
              rw [pm_si_same]
              intro e
              have := (qn_inj (by omega) (by omega)).mp e
              omega)
            refine ⟨r', E _ ?_, y2⟩
            rw [fX12_layOn_J24, if_neg n1, qn_add, if_neg e1]
            simp only [a1', lgR, lenR, i2, c2, if_true, if_neg hle, pm_let, (nL n).2.2.2.2.2.2, y1]
        · have e1 : (1000 : Int32) ≤ nI (p + b) := (qn_le_iff (a := 1000) (by omega) (by omega)).mpr (by omega)
          obtain ⟨r', y1, y2⟩ := half s a1 a2 a3 (fun z => absurd z hpb)
          refine ⟨r', E _ ?_, y2⟩
          rw [fX12_layOn_J24, if_neg n1, qn_add, if_pos e1, y1]
      · have hnl : ¬ pu_lv B n p := fun hl => by
          rcases a3 p (by omega) with ⟨d, z1, z2, z3⟩ | ⟨z, -⟩ | ⟨z, -⟩
          · exact ht (by rw [z3, pu_lv_uniq z2 hl])
          · exact z hl.1
          · exact z hl.1
        obtain ⟨r', y1, y2⟩ := step s a1 a2 (a3.ext (fun x _ _ hl => absurd hl hnl))
        refine ⟨r', ?_, y2⟩
        rw [fX12_layOn_L2, if_neg e0]
        simp only [a1', lgR, lenR, i1, c1, if_true, if_neg ht, fX12_layOn_J24, J63z, y1]
  obtain ⟨r', y1, y2⟩ := loop 1000 0 pm_fuel r (by omega) (by unfold pm_fuel; omega) rfl (fun _ _ => rfl) (H.weak (fun b' y _ h => by
    rcases h with h | h
    · exact h
    · omega))
  exact ⟨r', y1, y2⟩
