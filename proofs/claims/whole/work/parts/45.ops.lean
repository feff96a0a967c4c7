/-! posts: sets of persons as numbers, the most offices that can be filled -/
def pu_free (F S p : Nat) : Bool := Nat.testBit F p && !(Nat.testBit S p)
theorem qn_andnot : ∀ F, F < 64 → ∀ S, S < 64 → nI F &&& (nI S ^^^ (-1 : Int32)) = nI (F &&& (63 - S)) := by decide +kernel
theorem qn_bit : ∀ G, G < 64 → ∀ p, p < 6 → ((((nI G) >>> (nI p &&& 31)) &&& (1 : Int32)) = (1 : Int32) ↔ Nat.testBit G p = true) := by decide +kernel
theorem qn_cmpl : ∀ S, S < 64 → ∀ p, p < 6 → Nat.testBit (63 - S) p = !(Nat.testBit S p) := by decide +kernel
theorem qn_or : ∀ S, S < 64 → ∀ p, p < 6 → nI S ||| ((1 : Int32) <<< (nI p &&& 31)) = nI (S ||| 2 ^ p) := by decide +kernel
theorem qn_orlt : ∀ S, S < 64 → ∀ p, p < 6 → S ||| 2 ^ p < 64 := by decide +kernel
theorem qn_and64 : ∀ F, F < 64 → ∀ S, S < 64 → F &&& S < 64 := by decide +kernel
theorem qn_free {F S p : Nat} (hF : F < 64) (hS : S < 64) (hp : p < 6) : (((nI F &&& (nI S ^^^ (-1 : Int32))) >>> (nI p &&& 31)) &&& (1 : Int32)) = (1 : Int32) ↔ pu_free F S p = true := by
  rw [qn_andnot F hF S hS, qn_bit _ (qn_and64 F hF (63 - S) (by omega)) p hp, Nat.testBit_and, qn_cmpl S hS p hp]
  rfl
/-- the set of those that fit, as a number -/
def pu_fN (q : Nat → Bool) : Nat → Nat
  | 0 => 0
  | n + 1 => if q n then pu_fN q n ||| 2 ^ n else pu_fN q n
theorem pu_fN_lt (q : Nat → Bool) (n : Nat) (hn : n ≤ 6) : pu_fN q n < 64 := by
  induction n with
  | zero => exact (by decide : (0 : Nat) < 64)
  | succ n ih =>
    have h := ih (by omega)
    unfold pu_fN
    split
    · exact qn_orlt _ h n (by omega)
    · exact h
theorem pu_fN_fb (q : Nat → Bool) (n : Nat) (hn : n ≤ 6) : pu_fb q n = nI (pu_fN q n) := by
  induction n with
  | zero => rfl
  | succ n ih =>
    have h := ih (by omega)
    have h2 := pu_fN_lt q n (by omega)
    unfold pu_fN pu_fb
    split
    · rw [h, qn_or _ h2 n (by omega)]
    · exact h
theorem pu_fN_bit (q : Nat → Bool) (n p : Nat) : Nat.testBit (pu_fN q n) p = true → p < n := by
  induction n with
  | zero => intro h; simp [pu_fN] at h
  | succ n ih =>
    intro h
    unfold pu_fN at h
    split at h
    · rw [Nat.testBit_or, Nat.testBit_two_pow] at h
      rcases Bool.or_eq_true _ _ |>.mp h with h | h
      · have := ih h; omega
      · have := of_decide_eq_true h; omega
    · have := ih h; omega
/-- the greatest of b and v 0 .. v (n - 1) -/
def pu_mx (b : Nat) (v : Nat → Nat) : Nat → Nat
  | 0 => b
  | n + 1 => if v n ≤ pu_mx b v n then pu_mx b v n else v n
theorem pu_mx_b (b : Nat) (v : Nat → Nat) (n : Nat) : b ≤ pu_mx b v n := by
  induction n with
  | zero => exact Nat.le_refl _
  | succ n ih => unfold pu_mx; split <;> omega
theorem pu_mx_v (b : Nat) (v : Nat → Nat) (n p : Nat) (hp : p < n) : v p ≤ pu_mx b v n := by
  induction n with
  | zero => omega
  | succ n ih =>
    by_cases h : p = n
    · subst h; unfold pu_mx; split <;> omega
    · have := ih (by omega)
      unfold pu_mx; split <;> omega
theorem pu_mx_is (b : Nat) (v : Nat → Nat) (n : Nat) : pu_mx b v n = b ∨ ∃ p, p < n ∧ pu_mx b v n = v p := by
  induction n with
  | zero => exact Or.inl rfl
  | succ n ih =>
    by_cases h : v n ≤ pu_mx b v n
    · have e : pu_mx b v (n + 1) = pu_mx b v n := by rw [pu_mx, if_pos h]
      rcases ih with h1 | ⟨p, h1, h2⟩
      · exact Or.inl (e.trans h1)
      · exact Or.inr ⟨p, by omega, e.trans h2⟩
    · exact Or.inr ⟨n, by omega, by rw [pu_mx, if_neg h]⟩
theorem pu_mx_stop (b : Nat) (v : Nat → Nat) (n : Nat) (h : ∀ p, n ≤ p → v p = 0) (m : Nat) : pu_mx b v (n + m) = pu_mx b v n := by
  induction m with
  | zero => rfl
  | succ m ih =>
    rw [← Nat.add_assoc, pu_mx, h (n + m) (by omega), if_pos (Nat.zero_le _)]
    exact ih
/-- the most of the last k of ko offices, the persons of S being taken -/
def pu_G (fit : Nat → Nat) (ko : Nat) : Nat → Nat → Nat
  | 0, _ => 0
  | k + 1, S => pu_mx (pu_G fit ko k S) (fun p => if pu_free (fit (ko - (k + 1))) S p = true then 1 + pu_G fit ko k (S ||| 2 ^ p) else 0) 6
theorem pu_G_le (fit : Nat → Nat) (ko : Nat) (k S : Nat) : pu_G fit ko k S ≤ k := by
  induction k generalizing S with
  | zero => exact Nat.le_refl _
  | succ k ih =>
    unfold pu_G
    rcases pu_mx_is (pu_G fit ko k S) (fun p => if pu_free (fit (ko - (k + 1))) S p = true then 1 + pu_G fit ko k (S ||| 2 ^ p) else 0) 6 with h | ⟨p, _, h⟩
    · rw [h]; have := ih S; omega
    · rw [h]
      have := ih (S ||| 2 ^ p)
      show (if pu_free (fit (ko - (k + 1))) S p = true then 1 + pu_G fit ko k (S ||| 2 ^ p) else 0) ≤ k + 1
      split <;> omega
theorem pu_G_up {fit : Nat → Nat} {ko k S : Nat} : pu_G fit ko k S ≤ pu_G fit ko (k + 1) S := by
  rw [pu_G]; exact pu_mx_b _ _ _
theorem pu_G_take {fit : Nat → Nat} {ko k S p : Nat} (hp : p < 6) (h : pu_free (fit (ko - (k + 1))) S p = true) : 1 + pu_G fit ko k (S ||| 2 ^ p) ≤ pu_G fit ko (k + 1) S := by
  have := pu_mx_v (pu_G fit ko k S) (fun p => if pu_free (fit (ko - (k + 1))) S p = true then 1 + pu_G fit ko k (S ||| 2 ^ p) else 0) 6 p hp
  simp only [h, if_true] at this
  rw [pu_G]
  exact this
theorem pu_G_is {fit : Nat → Nat} {ko k S : Nat} : pu_G fit ko (k + 1) S = pu_G fit ko k S ∨ ∃ p, p < 6 ∧ pu_free (fit (ko - (k + 1))) S p = true ∧ pu_G fit ko (k + 1) S = 1 + pu_G fit ko k (S ||| 2 ^ p) := by
  rcases pu_mx_is (pu_G fit ko k S) (fun p => if pu_free (fit (ko - (k + 1))) S p = true then 1 + pu_G fit ko k (S ||| 2 ^ p) else 0) 6 with h | ⟨p, hp, h⟩
  · left; rw [pu_G]; exact h
  · by_cases hf : pu_free (fit (ko - (k + 1))) S p = true
    · right
      refine ⟨p, hp, hf, ?_⟩
      rw [pu_G, h]
      show (if pu_free (fit (ko - (k + 1))) S p = true then 1 + pu_G fit ko k (S ||| 2 ^ p) else 0) = _
      rw [if_pos hf]
    · left
      have hb := pu_G_up (fit := fit) (ko := ko) (k := k) (S := S)
      have h2 : pu_G fit ko (k + 1) S = 0 := by
        rw [pu_G, h]
        show (if pu_free (fit (ko - (k + 1))) S p = true then 1 + pu_G fit ko k (S ||| 2 ^ p) else 0) = _
        rw [if_neg hf]
      omega
theorem pu_G_cost (fit : Nat → Nat) (ko : Nat) (k : Nat) : ∀ S q, pu_G fit ko k S ≤ 1 + pu_G fit ko k (S ||| 2 ^ q) := by
  induction k with
  | zero => intro S q; simp [pu_G]
  | succ k ih =>
    intro S q
    rcases pu_G_is (fit := fit) (ko := ko) (k := k) (S := S) with h | ⟨p, hp, hf, h⟩
    · rw [h]
      have h1 := ih S q
      have h2 := pu_G_up (fit := fit) (ko := ko) (k := k) (S := S ||| 2 ^ q)
      omega
    · rw [h]
      by_cases hpq : p = q
      · subst hpq
        have h2 := pu_G_up (fit := fit) (ko := ko) (k := k) (S := S ||| 2 ^ p)
        omega
      · have hf2 : pu_free (fit (ko - (k + 1))) (S ||| 2 ^ q) p = true := by
          have hqp : decide (q = p) = false := decide_eq_false (fun z => hpq z.symm)
          unfold pu_free at hf ⊢
          rw [Nat.testBit_or, Nat.testBit_two_pow, hqp, Bool.or_false]
          exact hf
        have h2 := pu_G_take (fit := fit) (ko := ko) (k := k) (S := S ||| 2 ^ q) hp hf2
        have h3 := ih (S ||| 2 ^ p) q
        have e : S ||| 2 ^ q ||| 2 ^ p = S ||| 2 ^ p ||| 2 ^ q := by rw [Nat.or_assoc, Nat.or_assoc, Nat.or_comm (2 ^ q)]
        rw [e] at h2
        omega
/-- w is the least of the free ones below n (of F, not of S) with the most behind, or none -/
def pu_W (F S : Nat) (g : Nat → Nat) (n : Nat) (w : Int32) : Prop :=
  (w = -1 ∧ ∀ p, p < n → pu_free F S p = false) ∨ ∃ b, b < n ∧ w = nI b ∧ pu_free F S b = true ∧ (∀ p, p < n → pu_free F S p = true → g (S ||| 2 ^ p) ≤ g (S ||| 2 ^ b)) ∧ ∀ p, p < b → pu_free F S p = true → g (S ||| 2 ^ p) < g (S ||| 2 ^ b)
theorem pu_G_none {fit : Nat → Nat} {ko k S : Nat} (h : ∀ p, p < 6 → pu_free (fit (ko - (k + 1))) S p = false) : pu_G fit ko (k + 1) S = pu_G fit ko k S := by
  rcases pu_G_is (fit := fit) (ko := ko) (k := k) (S := S) with h1 | ⟨p, hp, hf, -⟩
  · exact h1
  · rw [h p hp] at hf; cases hf
theorem pu_G_best {fit : Nat → Nat} {ko k S b : Nat} (hb : b < 6) (hf : pu_free (fit (ko - (k + 1))) S b = true) (h : ∀ p, p < 6 → pu_free (fit (ko - (k + 1))) S p = true → pu_G fit ko k (S ||| 2 ^ p) ≤ pu_G fit ko k (S ||| 2 ^ b)) : pu_G fit ko (k + 1) S = 1 + pu_G fit ko k (S ||| 2 ^ b) := by
  have h1 := pu_G_take hb hf
  rcases pu_G_is (fit := fit) (ko := ko) (k := k) (S := S) with h2 | ⟨p, hp, hf2, h2⟩
  · have h3 := pu_G_cost fit ko k S b
    omega
  · have h3 := h p hp hf2
    omega
