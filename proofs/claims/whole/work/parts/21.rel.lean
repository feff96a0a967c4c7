/-! THE RELATION between the class's world and the reference's -/
def pu_Th (h : Nat → Nat → Int32) (b : Nat) (f : Nat → Int32) (i : Nat) : Prop :=
  ∃ fe tw yy : Nat, (fe ≤ 20 ∧ tw ≤ 11 ∧ yy ≤ 9060) ∧ (h (b + 4) i = nI fe ∧ h (b + 5) i = nI tw ∧ f (26 + i) = nI (12 * fe + tw)) ∧ (f (6 + i) = h (b + 3) i ∧ -9999 ≤ (h (b + 3) i).toInt ∧ (h (b + 3) i).toInt ≤ 9999) ∧ h (b + 6) i = nI yy ∧ f (46 + i) = nI yy
def pu_St (h : Nat → Nat → Int32) (b : Nat) (f : Nat → Int32) (lo np : Nat) : Prop :=
  ∃ L y nt nh : Nat, (lo ≤ L ∧ L ≤ 240 ∧ y ≤ 9060 ∧ nt ≤ 20 ∧ nh ≤ 8) ∧ (h (b + 1) 0 = nI L ∧ f 0 = nI L) ∧
    (-99 ≤ (h (b + 1) 1).toInt ∧ (h (b + 1) 1).toInt ≤ 99 ∧ f 1 = h (b + 1) 1) ∧ ((h (b + 1) 2 = 0 ∨ h (b + 1) 2 = 1) ∧ f 2 = h (b + 1) 2) ∧ (h (b + 1) 3 = nI y ∧ f 3 = nI y) ∧
    (h (b + 2) 4 = nI nt ∧ f 4 = nI nt) ∧ (h (b + 7) 1 = nI nh ∧ f 5 = nI nh) ∧ (∀ i, i < nt → pu_Th h b f i) ∧
    (∀ i, i < nh → f (66 + i) = h (b + 8) i ∧ 0 ≤ (h (b + 8) i).toInt ∧ (h (b + 8) i).toInt ≤ 260) ∧ (∀ p, p < np → f (74 + p) = h (b + 9) p ∧ 1 ≤ (h (b + 9) p).toInt ∧ (h (b + 9) p).toInt ≤ 999)
def pu_Text (c r : pm_H) : Prop := ∃ n : Nat, n ≤ 240 ∧ c.1 1 1 = nI n ∧ r.1 1 14 = nI n ∧ ∀ j, j < n → r.1 8 j = c.1 2 j ∧ 0 ≤ (c.1 2 j).toInt ∧ (c.1 2 j).toInt ≤ 255
def pu_Law (c r : pm_H) (T lo np : Nat) : Prop :=
  ∃ L kn ko ks : Nat, ((lo = 0 ∧ L = 0 ∧ kn = 0 ∧ ko = 0 ∧ ks = 0 ∧ np = 0) ∨ (lo = 1 ∧ 12 ≤ L)) ∧ (L ≤ 240 ∧ kn ≤ 5 ∧ ko ≤ 6 ∧ ks ≤ 12 ∧ np ≤ 6) ∧ (c.1 T 0 = nI L ∧ r.1 1 0 = nI L) ∧
    (lo = 1 → ∃ w : Nat, w ≤ 9 ∧ c.1 T 1 = nI w ∧ r.1 1 1 = nI w) ∧ (c.1 T 3 = nI kn ∧ r.1 1 2 = nI kn) ∧ (c.1 T 6 = nI ko ∧ r.1 1 4 = nI ko) ∧ (c.1 T 8 = nI np ∧ r.1 1 7 = nI np) ∧ (c.1 T 10 = nI ks ∧ r.1 1 9 = nI ks) ∧
    (∀ i, i < kn → r.1 2 i = c.1 (T + 1) i ∧ 1 ≤ (c.1 (T + 1) i).toInt ∧ (c.1 (T + 1) i).toInt ≤ 239) ∧
    (∀ i, i < ko → r.1 3 i = c.1 (T + 2) i ∧ r.1 4 i = c.1 (T + 3) i ∧ 1 ≤ (c.1 (T + 2) i).toInt ∧ (c.1 (T + 2) i).toInt ≤ 99 ∧ 1 ≤ (c.1 (T + 3) i).toInt ∧ (c.1 (T + 3) i).toInt ≤ 99) ∧
    (∀ i, i < ks → r.1 6 i = c.1 (T + 5) i ∧ 0 ≤ (c.1 (T + 5) i).toInt ∧ (c.1 (T + 5) i).toInt ≤ 9)
/-- the ring's place of the j-th of m that can be undone, the next place being x -/
def pu_rp (x m j : Nat) : Nat := 30 + 10 * ((x + 16 - m + j) % 16)
def pu_Past (c r : pm_H) (lo np : Nat) : Prop := ∃ x m : Nat, x < 16 ∧ m ≤ 16 ∧ c.1 28 1 = nI x ∧ c.1 28 2 = nI m ∧ r.1 1 30 = nI m ∧ ∀ j, j < m → pu_St c.1 (pu_rp x m j) (fun k => r.1 14 (80 * j + k)) lo np
def pu_Img (c r : pm_H) (lo np : Nat) : Prop := ∀ i, i < 2 → ((c.1 211 i = 0 ∧ r.1 23 i = 0) ∨ (c.1 211 i = 1 ∧ r.1 23 i = 1 ∧ pu_St c.1 (191 + 10 * i) (fun k => r.1 22 (81 * i + k)) lo np ∧ r.1 22 (81 * i + 80) = c.1 212 i ∧ 0 ≤ (c.1 212 i).toInt))
def pu_Sight (c r : pm_H) : Prop := ∃ n : Nat, n ≤ 6 ∧ c.1 220 2 = nI n ∧ r.1 1 34 = nI n ∧ ∀ j, j < n → r.1 17 j = c.1 221 j ∧ r.1 18 j = c.1 222 j ∧ 1 ≤ (c.1 221 j).toInt ∧ (c.1 221 j).toInt ≤ 9 ∧ 0 ≤ (c.1 222 j).toInt ∧ (c.1 222 j).toInt ≤ 9999
def pu_Book (c r : pm_H) (np : Nat) : Prop := ∃ n : Nat, n ≤ 15 ∧ c.1 226 2 = nI n ∧ r.1 1 38 = nI n ∧ ∀ j, j < n → ∃ p : Nat, p < np ∧ c.1 227 j = nI p ∧ r.1 20 j = nI p ∧ r.1 21 j = c.1 228 j
/-- all of it: T the law's place, l the letters' place, lo: a realm stands (1) or none (0), np persons -/
def pu_R (c r : pm_H) (T l lo np : Nat) : Prop :=
  (T = 5 ∨ T = 11) ∧ c.2 = lgC T l ∧ (l = 4 ∨ l = 2) ∧ r.2 = lw_R0.2 ∧ pu_Text c r ∧ r.1 1 15 = c.1 1 2 ∧ pu_Law c r T lo np ∧ pu_St c.1 17 (r.1 7) lo np ∧ pu_Past c r lo np ∧ pu_Img c r lo np ∧ (r.1 1 12 = c.1 1 12 ∧ 0 ≤ (c.1 1 12).toInt) ∧ pu_Sight c r ∧ pu_Book c r np
def pu_Rel (c r : pm_H) : Prop := ∃ T l lo np : Nat, pu_R c r T l lo np
set_option maxRecDepth 100000 in
theorem lw_C0_1 : lw_C0.1 = (pm_si (pm_si lw_z 1 2 (-1)) 3 1 (-1)).1 := rfl
set_option maxRecDepth 100000 in
theorem lw_R0_1 : lw_R0.1 = (pm_si (pm_si lw_z 1 15 (-1)) 1 0 0).1 := rfl
theorem pu_rel0 : pu_Rel lw_C0 lw_R0 := by
  have e : ∀ q k, lw_C0.1 q k = if q = 3 ∧ k = 1 then -1 else if q = 1 ∧ k = 2 then -1 else 0 := by
    intro q k
    rw [lw_C0_1, pm_si_1, pm_si_1]
    rfl
  have e' : ∀ q k, lw_R0.1 q k = if q = 1 ∧ k = 0 then 0 else if q = 1 ∧ k = 15 then -1 else 0 := by
    intro q k
    rw [lw_R0_1, pm_si_1, pm_si_1]
    rfl
  have z : nI 0 = 0 := rfl
  refine ⟨5, 4, 0, 0, Or.inl rfl, lgC_0, Or.inl rfl, rfl, ⟨0, by omega, by rw [e]; rfl, by rw [e']; rfl, fun j hj => absurd hj (Nat.not_lt_zero _)⟩, by rw [e, e']; rfl, ?_, ?_, ?_, ?_, ?_, ?_, ?_⟩
  · refine ⟨0, 0, 0, 0, Or.inl ⟨rfl, rfl, rfl, rfl, rfl, rfl⟩, by omega, ⟨by rw [e]; rfl, by rw [e']; rfl⟩, fun h => by omega, ⟨by rw [e]; rfl, by rw [e']; rfl⟩, ⟨by rw [e]; rfl, by rw [e']; rfl⟩, ⟨by rw [e]; rfl, by rw [e']; rfl⟩, ⟨by rw [e]; rfl, by rw [e']; rfl⟩, fun j hj => absurd hj (Nat.not_lt_zero _), fun j hj => absurd hj (Nat.not_lt_zero _), fun j hj => absurd hj (Nat.not_lt_zero _)⟩
  · refine ⟨0, 0, 0, 0, by omega, ⟨by rw [e]; rfl, by rw [e']; rfl⟩, ⟨by rw [e]; decide, by rw [e]; decide, by rw [e, e']; rfl⟩, ⟨Or.inl (by rw [e]; rfl), by rw [e, e']; rfl⟩, ⟨by rw [e]; rfl, by rw [e']; rfl⟩, ⟨by rw [e]; rfl, by rw [e']; rfl⟩, ⟨by rw [e]; rfl, by rw [e']; rfl⟩, fun j hj => absurd hj (Nat.not_lt_zero _), fun j hj => absurd hj (Nat.not_lt_zero _), fun j hj => absurd hj (Nat.not_lt_zero _)⟩
  · exact ⟨0, 0, by omega, by omega, by rw [e]; rfl, by rw [e]; rfl, by rw [e']; rfl, fun j hj => absurd hj (Nat.not_lt_zero _)⟩
  · intro i hi
    refine Or.inl ⟨?_, ?_⟩
    · rw [e]; simp
    · rw [e']; simp
  · exact ⟨by rw [e, e']; rfl, by rw [e]; decide⟩
  · exact ⟨0, by omega, by rw [e]; rfl, by rw [e']; rfl, fun j hj => absurd hj (Nat.not_lt_zero _)⟩
  · exact ⟨0, by omega, by rw [e]; rfl, by rw [e']; rfl, fun j hj => absurd hj (Nat.not_lt_zero _)⟩
/-! a call that changes nothing -/
theorem pu_ro {Rel : pm_H → pm_H → Prop} {c r : pm_H} {F G : Option (Int32 × pm_H)} (h : Rel c r) (v : Int32) (hf : F = some (v, c)) (hg : G = some (v, r)) : ∃ v c' r', F = some (v, c') ∧ G = some (v, r') ∧ Rel c' r' := ⟨v, c, r, hf, hg, h⟩
theorem pu_w01 (a b c : Int32) : pu_w a b c = 0 ∨ pu_w a b c = 1 := by
  unfold pu_w
  split
  · exact Or.inl rfl
  · split
    · exact Or.inl rfl
    · exact Or.inr rfl
theorem pu_fold : pu_1 pu_Rel fX11_fold fX12_fold := by
  intro c r h a
  rcases pu_w01 a 0 999 with hw | hw
  · exact pu_ro h (-1000000002) (by simp [fX11_fold, ev_within, hw]) (by simp [fX12_fold, evI, hw])
  · by_cases h2 : pm_rem a 2 = 0
    · exact pu_ro h (a / 2) (by simp [fX11_fold, ev_within, hw, h2]) (by simp [fX12_fold, evI, hw, h2])
    · exact pu_ro h (-1) (by simp [fX11_fold, ev_within, hw, h2]) (by simp [fX12_fold, evI, hw, h2])
theorem pu_tens : pu_3 pu_Rel fX11_tens fX12_tens := by
  intro c r h a a2 a3
  rcases pu_w01 a 0 999 with hw | hw
  · exact pu_ro h (-1000000002) (by simp [fX11_tens, ev_within, hw]) (by simp [fX12_tens, evI, hw])
  rcases pu_w01 a2 0 11 with hw2 | hw2
  · exact pu_ro h (-1000000002) (by simp [fX11_tens, ev_within, hw, hw2]) (by simp [fX12_tens, evI, hw, hw2])
  rcases pu_w01 a3 0 1 with hw3 | hw3
  · exact pu_ro h (-1000000002) (by simp [fX11_tens, ev_within, hw, hw2, hw3]) (by simp [fX12_tens, evI, hw, hw2, hw3])
  by_cases h3 : a3 = 0
  · exact pu_ro h (10 * (12 * a + a2) / 12) (by simp [fX11_tens, ev_within, hw, hw2, hw3, eq_true h3, pm_let]) (by simp [fX12_tens, evI, hw, hw2, hw3, eq_true h3, pm_let])
  · exact pu_ro h (pm_rem (10 * (12 * a + a2)) 12) (by simp [fX11_tens, ev_within, hw, hw2, hw3, h3, pm_let]) (by simp [fX12_tens, evI, hw, hw2, hw3, h3, pm_let])
theorem pu_fault : pu_0 pu_Rel fX11_fault fX12_fault := by
  intro c r h
  obtain ⟨T, l, lo, np, hT, hg, hl, hr, ht, hf, hrest⟩ := id h
  exact pu_ro h (c.1 1 2) rfl (by simp [fX12_fault, hf])
