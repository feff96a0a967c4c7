/-! THE PURE PART: where things lie -/
def lgC (T l : Nat) : Nat → Nat → Nat := fun q k => if q = 1 ∧ k = 4 then T else if q = 1 ∧ k = 5 then 16 - T else if q = 3 ∧ k = 2 then l else lw_C0.2 q k
theorem lgC_o {T l q k : Nat} (h1 : ¬ (q = 1 ∧ k = 4)) (h2 : ¬ (q = 1 ∧ k = 5)) (h3 : ¬ (q = 3 ∧ k = 2)) : lgC T l q k = lw_C0.2 q k := by simp [lgC, h1, h2, h3]
theorem lgC_0 : lw_C0.2 = lgC 5 4 := by
  funext q k
  by_cases h1 : q = 1 ∧ k = 4
  · obtain ⟨rfl, rfl⟩ := h1; decide +kernel
  by_cases h2 : q = 1 ∧ k = 5
  · obtain ⟨rfl, rfl⟩ := h2; decide +kernel
  by_cases h3 : q = 3 ∧ k = 2
  · obtain ⟨rfl, rfl⟩ := h3; decide +kernel
  exact (lgC_o h1 h2 h3).symm
theorem lgS (T l : Nat) : lgC T l 1 4 = T ∧ lgC T l 1 5 = 16 - T ∧ lgC T l 3 2 = l ∧ lgC T l 1 0 = 2 ∧ lgC T l 1 3 = 3 ∧ lgC T l 1 6 = 17 ∧ lgC T l 1 7 = 27 ∧ lgC T l 1 8 = 28 ∧ lgC T l 1 9 = 190 ∧ lgC T l 1 10 = 211 ∧ lgC T l 1 11 = 212 ∧ lgC T l 1 13 = 213 ∧ lgC T l 1 14 = 217 ∧ lgC T l 1 15 = 220 ∧ lgC T l 1 16 = 226 ∧ lgC T l 28 0 = 29 ∧ lgC T l 213 0 = 214 ∧ lgC T l 213 1 = 215 ∧ lgC T l 213 3 = 216 ∧ lgC T l 217 0 = 218 ∧ lgC T l 217 1 = 219 ∧ lgC T l 220 0 = 221 ∧ lgC T l 220 1 = 222 ∧ lgC T l 220 3 = 223 ∧ lgC T l 220 4 = 224 ∧ lgC T l 220 5 = 225 ∧ lgC T l 226 0 = 227 ∧ lgC T l 226 1 = 228 ∧ lgC T l 17 0 = 18 ∧ lgC T l 17 1 = 19 ∧ lgC T l 17 2 = 24 ∧ lgC T l 17 3 = 26 ∧ lgC T l 19 0 = 20 ∧ lgC T l 19 1 = 21 ∧ lgC T l 19 2 = 22 ∧ lgC T l 19 3 = 23 ∧ lgC T l 24 0 = 25 := by
  refine ⟨by simp [lgC], by simp [lgC], by simp [lgC], (lgC_o (by decide) (by decide) (by decide)).trans (by decide +kernel), (lgC_o (by decide) (by decide) (by decide)).trans (by decide +kernel), (lgC_o (by decide) (by decide) (by decide)).trans (by decide +kernel), (lgC_o (by decide) (by decide) (by decide)).trans (by decide +kernel), (lgC_o (by decide) (by decide) (by decide)).trans (by decide +kernel), (lgC_o (by decide) (by decide) (by decide)).trans (by decide +kernel), (lgC_o (by decide) (by decide) (by decide)).trans (by decide +kernel), (lgC_o (by decide) (by decide) (by decide)).trans (by decide +kernel), (lgC_o (by decide) (by decide) (by decide)).trans (by decide +kernel), (lgC_o (by decide) (by decide) (by decide)).trans (by decide +kernel), (lgC_o (by decide) (by decide) (by decide)).trans (by decide +kernel), (lgC_o (by decide) (by decide) (by decide)).trans (by decide +kernel), (lgC_o (by decide) (by decide) (by decide)).trans (by decide +kernel), (lgC_o (by decide) (by decide) (by decide)).trans (by decide +kernel), (lgC_o (by decide) (by decide) (by decide)).trans (by decide +kernel), (lgC_o (by decide) (by decide) (by decide)).trans (by decide +kernel), (lgC_o (by decide) (by decide) (by decide)).trans (by decide +kernel), (lgC_o (by decide) (by decide) (by decide)).trans (by decide +kernel), (lgC_o (by decide) (by decide) (by decide)).trans (by decide +kernel), (lgC_o (by decide) (by decide) (by decide)).trans (by decide +kernel), (lgC_o (by decide) (by decide) (by decide)).trans (by decide +kernel), (lgC_o (by decide) (by decide) (by decide)).trans (by decide +kernel), (lgC_o (by decide) (by decide) (by decide)).trans (by decide +kernel), (lgC_o (by decide) (by decide) (by decide)).trans (by decide +kernel), (lgC_o (by decide) (by decide) (by decide)).trans (by decide +kernel), (lgC_o (by decide) (by decide) (by decide)).trans (by decide +kernel), (lgC_o (by decide) (by decide) (by decide)).trans (by decide +kernel), (lgC_o (by decide) (by decide) (by decide)).trans (by decide +kernel), (lgC_o (by decide) (by decide) (by decide)).trans (by decide +kernel), (lgC_o (by decide) (by decide) (by decide)).trans (by decide +kernel), (lgC_o (by decide) (by decide) (by decide)).trans (by decide +kernel), (lgC_o (by decide) (by decide) (by decide)).trans (by decide +kernel), (lgC_o (by decide) (by decide) (by decide)).trans (by decide +kernel), (lgC_o (by decide) (by decide) (by decide)).trans (by decide +kernel)⟩
theorem lgT (l : Nat) {T : Nat} (hT : T = 5 ∨ T = 11) : lgC T l T 2 = T + 1 ∧ lgC T l T 4 = T + 2 ∧ lgC T l T 5 = T + 3 ∧ lgC T l T 7 = T + 4 ∧ lgC T l T 9 = T + 5 := by
  rcases hT with rfl | rfl
  · exact ⟨(lgC_o (by decide) (by decide) (by decide)).trans (by decide +kernel), (lgC_o (by decide) (by decide) (by decide)).trans (by decide +kernel), (lgC_o (by decide) (by decide) (by decide)).trans (by decide +kernel), (lgC_o (by decide) (by decide) (by decide)).trans (by decide +kernel), (lgC_o (by decide) (by decide) (by decide)).trans (by decide +kernel)⟩
  · exact ⟨(lgC_o (by decide) (by decide) (by decide)).trans (by decide +kernel), (lgC_o (by decide) (by decide) (by decide)).trans (by decide +kernel), (lgC_o (by decide) (by decide) (by decide)).trans (by decide +kernel), (lgC_o (by decide) (by decide) (by decide)).trans (by decide +kernel), (lgC_o (by decide) (by decide) (by decide)).trans (by decide +kernel)⟩
theorem lenS  : pm_len lw_SC 2 = 240 ∧ pm_len lw_SC 20 = 20 ∧ pm_len lw_SC 21 = 20 ∧ pm_len lw_SC 22 = 20 ∧ pm_len lw_SC 23 = 20 ∧ pm_len lw_SC 25 = 8 ∧ pm_len lw_SC 26 = 6 ∧ pm_len lw_SC 29 = 16 ∧ pm_len lw_SC 190 = 2 ∧ pm_len lw_SC 211 = 2 ∧ pm_len lw_SC 212 = 2 ∧ pm_len lw_SC 214 = 1000 ∧ pm_len lw_SC 215 = 1000 ∧ pm_len lw_SC 216 = 6 ∧ pm_len lw_SC 218 = 6 ∧ pm_len lw_SC 219 = 448 ∧ pm_len lw_SC 221 = 6 ∧ pm_len lw_SC 222 = 6 ∧ pm_len lw_SC 223 = 241 ∧ pm_len lw_SC 224 = 241 ∧ pm_len lw_SC 225 = 2179 ∧ pm_len lw_SC 227 = 15 ∧ pm_len lw_SC 228 = 15 := by
  refine ⟨by decide +kernel, by decide +kernel, by decide +kernel, by decide +kernel, by decide +kernel, by decide +kernel, by decide +kernel, by decide +kernel, by decide +kernel, by decide +kernel, by decide +kernel, by decide +kernel, by decide +kernel, by decide +kernel, by decide +kernel, by decide +kernel, by decide +kernel, by decide +kernel, by decide +kernel, by decide +kernel, by decide +kernel, by decide +kernel, by decide +kernel⟩
theorem lenT {T : Nat} (hT : T = 5 ∨ T = 11) : pm_len lw_SC (T + 1) = 5 ∧ pm_len lw_SC (T + 2) = 6 ∧ pm_len lw_SC (T + 3) = 6 ∧ pm_len lw_SC (T + 4) = 6 ∧ pm_len lw_SC (T + 5) = 12 := by
  rcases hT with rfl | rfl
  · exact ⟨by decide +kernel, by decide +kernel, by decide +kernel, by decide +kernel, by decide +kernel⟩
  · exact ⟨by decide +kernel, by decide +kernel, by decide +kernel, by decide +kernel, by decide +kernel⟩
theorem lgR  : lw_R0.2 1 3 = 2 ∧ lw_R0.2 1 5 = 3 ∧ lw_R0.2 1 6 = 4 ∧ lw_R0.2 1 8 = 5 ∧ lw_R0.2 1 10 = 6 ∧ lw_R0.2 1 11 = 7 ∧ lw_R0.2 1 13 = 8 ∧ lw_R0.2 1 22 = 9 ∧ lw_R0.2 1 24 = 10 ∧ lw_R0.2 1 25 = 11 ∧ lw_R0.2 1 27 = 12 ∧ lw_R0.2 1 29 = 13 ∧ lw_R0.2 1 31 = 14 ∧ lw_R0.2 1 32 = 15 ∧ lw_R0.2 1 33 = 16 ∧ lw_R0.2 1 35 = 17 ∧ lw_R0.2 1 36 = 18 ∧ lw_R0.2 1 37 = 19 ∧ lw_R0.2 1 39 = 20 ∧ lw_R0.2 1 40 = 21 ∧ lw_R0.2 1 41 = 22 ∧ lw_R0.2 1 42 = 23 := by
  refine ⟨by decide +kernel, by decide +kernel, by decide +kernel, by decide +kernel, by decide +kernel, by decide +kernel, by decide +kernel, by decide +kernel, by decide +kernel, by decide +kernel, by decide +kernel, by decide +kernel, by decide +kernel, by decide +kernel, by decide +kernel, by decide +kernel, by decide +kernel, by decide +kernel, by decide +kernel, by decide +kernel, by decide +kernel, by decide +kernel⟩
theorem lenR  : pm_len lw_SR 2 = 5 ∧ pm_len lw_SR 3 = 6 ∧ pm_len lw_SR 4 = 6 ∧ pm_len lw_SR 5 = 6 ∧ pm_len lw_SR 6 = 12 ∧ pm_len lw_SR 7 = 80 ∧ pm_len lw_SR 8 = 240 ∧ pm_len lw_SR 9 = 5 ∧ pm_len lw_SR 10 = 6 ∧ pm_len lw_SR 11 = 6 ∧ pm_len lw_SR 12 = 6 ∧ pm_len lw_SR 13 = 12 ∧ pm_len lw_SR 14 = 1280 ∧ pm_len lw_SR 15 = 1000 ∧ pm_len lw_SR 16 = 448 ∧ pm_len lw_SR 17 = 6 ∧ pm_len lw_SR 18 = 6 ∧ pm_len lw_SR 19 = 2200 ∧ pm_len lw_SR 20 = 15 ∧ pm_len lw_SR 21 = 15 ∧ pm_len lw_SR 22 = 162 ∧ pm_len lw_SR 23 = 2 := by
  refine ⟨by decide +kernel, by decide +kernel, by decide +kernel, by decide +kernel, by decide +kernel, by decide +kernel, by decide +kernel, by decide +kernel, by decide +kernel, by decide +kernel, by decide +kernel, by decide +kernel, by decide +kernel, by decide +kernel, by decide +kernel, by decide +kernel, by decide +kernel, by decide +kernel, by decide +kernel, by decide +kernel, by decide +kernel, by decide +kernel⟩
/-- where standings lie -/
def pu_sts : List Nat := [17, 30, 40, 50, 60, 70, 80, 90, 100, 110, 120, 130, 140, 150, 160, 170, 180, 191, 201]
theorem st_g {b : Nat} (h : b ∈ pu_sts) (T l : Nat) : lgC T l b 0 = b + 1 ∧ lgC T l b 1 = b + 2 ∧ lgC T l b 2 = b + 7 ∧ lgC T l b 3 = b + 9 ∧ lgC T l (b + 2) 0 = b + 3 ∧ lgC T l (b + 2) 1 = b + 4 ∧ lgC T l (b + 2) 2 = b + 5 ∧ lgC T l (b + 2) 3 = b + 6 ∧ lgC T l (b + 7) 0 = b + 8 := by
  have h1 : ∀ b ∈ pu_sts, 3 < b := by decide
  have h2 := h1 b h
  have hall : ∀ b ∈ pu_sts, lw_C0.2 b 0 = b + 1 ∧ lw_C0.2 b 1 = b + 2 ∧ lw_C0.2 b 2 = b + 7 ∧ lw_C0.2 b 3 = b + 9 ∧ lw_C0.2 (b + 2) 0 = b + 3 ∧ lw_C0.2 (b + 2) 1 = b + 4 ∧ lw_C0.2 (b + 2) 2 = b + 5 ∧ lw_C0.2 (b + 2) 3 = b + 6 ∧ lw_C0.2 (b + 7) 0 = b + 8 := by decide +kernel
  have e : ∀ q k, 3 < q → lgC T l q k = lw_C0.2 q k := fun q k hq => lgC_o (by omega) (by omega) (by omega)
  rw [e _ _ h2, e _ _ h2, e _ _ h2, e _ _ h2, e (b + 2) _ (by omega), e (b + 2) _ (by omega), e (b + 2) _ (by omega), e (b + 2) _ (by omega), e (b + 7) _ (by omega)]
  exact hall b h
theorem st_l {b : Nat} (h : b ∈ pu_sts) : pm_len lw_SC (b + 3) = 20 ∧ pm_len lw_SC (b + 4) = 20 ∧ pm_len lw_SC (b + 5) = 20 ∧ pm_len lw_SC (b + 6) = 20 ∧ pm_len lw_SC (b + 8) = 8 ∧ pm_len lw_SC (b + 9) = 6 := by
  have hall : ∀ b ∈ pu_sts, pm_len lw_SC (b + 3) = 20 ∧ pm_len lw_SC (b + 4) = 20 ∧ pm_len lw_SC (b + 5) = 20 ∧ pm_len lw_SC (b + 6) = 20 ∧ pm_len lw_SC (b + 8) = 8 ∧ pm_len lw_SC (b + 9) = 6 := by decide +kernel
  exact hall b h
theorem st_ring {j : Nat} (h : j < 16) (T l : Nat) : lgC T l 29 j = 30 + 10 * j ∧ 30 + 10 * j ∈ pu_sts := by
  have hall : ∀ j, j < 16 → lw_C0.2 29 j = 30 + 10 * j ∧ 30 + 10 * j ∈ pu_sts := by decide +kernel
  rw [lgC_o (by omega) (by omega) (by omega)]
  exact hall j h
theorem st_img {j : Nat} (h : j < 2) (T l : Nat) : lgC T l 190 j = 191 + 10 * j ∧ 191 + 10 * j ∈ pu_sts := by
  have hall : ∀ j, j < 2 → lw_C0.2 190 j = 191 + 10 * j ∧ 191 + 10 * j ∈ pu_sts := by decide +kernel
  rw [lgC_o (by omega) (by omega) (by omega)]
  exact hall j h
theorem c64  : (-99 : Int64) = Int32.toInt64 (-99 : Int32) ∧ (-20 : Int64) = Int32.toInt64 (-20 : Int32) ∧ (0 : Int64) = Int32.toInt64 (0 : Int32) ∧ (1 : Int64) = Int32.toInt64 (1 : Int32) ∧ (2 : Int64) = Int32.toInt64 (2 : Int32) ∧ (3 : Int64) = Int32.toInt64 (3 : Int32) ∧ (9 : Int64) = Int32.toInt64 (9 : Int32) ∧ (11 : Int64) = Int32.toInt64 (11 : Int32) ∧ (20 : Int64) = Int32.toInt64 (20 : Int32) ∧ (48 : Int64) = Int32.toInt64 (48 : Int32) ∧ (57 : Int64) = Int32.toInt64 (57 : Int32) ∧ (60 : Int64) = Int32.toInt64 (60 : Int32) ∧ (99 : Int64) = Int32.toInt64 (99 : Int32) ∧ (100 : Int64) = Int32.toInt64 (100 : Int32) ∧ (240 : Int64) = Int32.toInt64 (240 : Int32) ∧ (255 : Int64) = Int32.toInt64 (255 : Int32) ∧ (999 : Int64) = Int32.toInt64 (999 : Int32) ∧ (9999 : Int64) = Int32.toInt64 (9999 : Int32) ∧ (12345 : Int64) = Int32.toInt64 (12345 : Int32) ∧ (1000000000 : Int64) = Int32.toInt64 (1000000000 : Int32) ∧ (1103515245 : Int64) = Int32.toInt64 (1103515245 : Int32) ∧ (2147483647 : Int64) = Int32.toInt64 (2147483647 : Int32) := by
  refine ⟨by decide, by decide, by decide, by decide, by decide, by decide, by decide, by decide, by decide, by decide, by decide, by decide, by decide, by decide, by decide, by decide, by decide, by decide, by decide, by decide, by decide, by decide⟩
theorem ib80  : pm_ib (0 : Int32) 80 = true ∧ pm_ib (1 : Int32) 80 = true ∧ pm_ib (2 : Int32) 80 = true ∧ pm_ib (3 : Int32) 80 = true ∧ pm_ib (4 : Int32) 80 = true ∧ pm_ib (5 : Int32) 80 = true := by
  refine ⟨by decide, by decide, by decide, by decide, by decide, by decide⟩
theorem cl6  : Int32.toNatClampNeg (0 : Int32) = 0 ∧ Int32.toNatClampNeg (1 : Int32) = 1 ∧ Int32.toNatClampNeg (2 : Int32) = 2 ∧ Int32.toNatClampNeg (3 : Int32) = 3 ∧ Int32.toNatClampNeg (4 : Int32) = 4 ∧ Int32.toNatClampNeg (5 : Int32) = 5 ∧ Int32.toNatClampNeg (6 : Int32) = 6 ∧ Int32.toNatClampNeg (7 : Int32) = 7 ∧ Int32.toNatClampNeg (8 : Int32) = 8 ∧ Int32.toNatClampNeg (20 : Int32) = 20 := by
  refine ⟨by decide, by decide, by decide, by decide, by decide, by decide, by decide, by decide, by decide, by decide⟩
def pu_w (a b c : Int32) : Int32 := if a < b then 0 else if c < a then 0 else 1
theorem ev_within (S : pm_S) (a b c : Int32) (σ : pm_H) : fX11_within S a b c σ = some (pu_w a b c, σ) := by
  unfold fX11_within pu_w
  split
  · rfl
  · split <;> rfl
theorem lt64 (a b : Int32) : a.toInt64 < b.toInt64 ↔ a < b := by
  rw [Int64.lt_iff_toInt_lt, Int32.lt_iff_toInt_lt, Int32.toInt_toInt64, Int32.toInt_toInt64]
theorem ev_in (S : pm_S) (a b c : Int32) (σ : pm_H) : fX12_in S a.toInt64 b.toInt64 c.toInt64 σ = some (pu_w a b c, σ) := by
  unfold fX12_in pu_w
  simp only [lg_cmp_lt, lg_cmp_gt, lt64]
  split
  · rfl
  · split <;> rfl
