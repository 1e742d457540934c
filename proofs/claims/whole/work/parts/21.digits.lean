/-! digits to the base 2^30 -/
abbrev BB : Nat := 1073741824
def dval (f : Nat → Nat) : Nat → Nat
  | 0 => 0
  | m + 1 => dval f m + f m * BB ^ m
theorem dval_congr {f g : Nat → Nat} : ∀ {m : Nat}, (∀ k, k < m → f k = g k) → dval f m = dval g m
  | 0, _ => rfl
  | m + 1, h => by
    simp only [dval]
    rw [dval_congr (fun k hk => h k (by omega)), h m (by omega)]
theorem BB_pos (m : Nat) : 0 < BB ^ m := Nat.pow_pos (by decide)
theorem BB_succ (m : Nat) : BB ^ (m + 1) = BB ^ m * BB := Nat.pow_succ ..
theorem dval_lt {f : Nat → Nat} : ∀ {m : Nat}, (∀ k, k < m → f k < BB) → dval f m < BB ^ m
  | 0, _ => by simp [dval]
  | m + 1, h => by
    have h1 := dval_lt (m := m) (fun k hk => h k (by omega))
    have h2 := h m (by omega)
    have h3 : f m * BB ^ m ≤ (BB - 1) * BB ^ m := Nat.mul_le_mul_right _ (by omega)
    have h4 : (BB - 1) * BB ^ m + BB ^ m = BB ^ (m + 1) := by
      rw [Nat.pow_succ, Nat.mul_comm (BB ^ m) BB, ← Nat.succ_mul]
      rfl
    simp only [dval]
    omega
theorem dval_top {f : Nat → Nat} {m : Nat} (h : f m ≠ 0) : BB ^ m ≤ dval f (m + 1) := by
  simp only [dval]
  have := Nat.le_mul_of_pos_left (BB ^ m) (Nat.pos_of_ne_zero h)
  omega
theorem dval_ext {f : Nat → Nat} {m : Nat} : ∀ {n : Nat}, m ≤ n → (∀ k, m ≤ k → k < n → f k = 0) → dval f n = dval f m
  | 0, hn, h => by
    have : m = 0 := by omega
    rw [this]
  | n + 1, hn, h => by
    by_cases e : m = n + 1
    · rw [e]
    · simp only [dval]
      rw [dval_ext (n := n) (by omega) (fun k h1 h2 => h k h1 (by omega)), h n (by omega) (by omega)]
      simp
theorem dval_digit {f : Nat → Nat} : ∀ {m : Nat} {k : Nat}, (∀ j, j < m → f j < BB) → k < m → dval f m / BB ^ k % BB = f k
  | 0, k, _, h => by omega
  | m + 1, k, hf, h => by
    simp only [dval]
    by_cases e : k = m
    · subst e
      have h1 := dval_lt (f := f) (m := k) (fun j hj => hf j (by omega))
      rw [Nat.add_mul_div_right _ _ (BB_pos k), Nat.div_eq_of_lt h1, Nat.zero_add]
      exact Nat.mod_eq_of_lt (hf k (by omega))
    · have ih := dval_digit (m := m) (k := k) (fun j hj => hf j (by omega)) (by omega)
      have e1 : BB ^ m = BB ^ k * (BB * BB ^ (m - k - 1)) := by
        rw [← Nat.mul_assoc, ← Nat.pow_succ, ← Nat.pow_add]
        congr 1
        omega
      have e2 : f m * BB ^ m = (f m * BB ^ (m - k - 1) * BB) * BB ^ k := by
        rw [e1]
        simp only [Nat.mul_comm, Nat.mul_left_comm, Nat.mul_assoc]
      rw [e2, Nat.add_mul_div_right _ _ (BB_pos k), Nat.add_mul_mod_self_right]
      exact ih
/-- f's first m digits are those of v, none too many -/
def Dg (f : Nat → Nat) (m v : Nat) : Prop := (∀ k, k < m → f k < BB) ∧ dval f m = v ∧ (m = 0 ∨ f (m - 1) ≠ 0)
theorem Dg.low {f : Nat → Nat} {m v : Nat} (h : Dg f m v) (hm : 0 < m) : BB ^ (m - 1) ≤ v := by
  obtain ⟨-, h2, h3⟩ := h
  rcases h3 with h3 | h3
  · omega
  · have := dval_top h3
    rw [show m - 1 + 1 = m by omega, h2] at this
    exact this
theorem Dg.high {f : Nat → Nat} {m v : Nat} (h : Dg f m v) : v < BB ^ m := by
  rw [← h.2.1]
  exact dval_lt h.1
theorem Dg.zero {f : Nat → Nat} {m v : Nat} (h : Dg f m v) : m = 0 ↔ v = 0 := by
  constructor
  · intro e
    subst e
    exact h.2.1.symm
  · intro e
    by_cases hm : m = 0
    · exact hm
    · have := h.low (by omega)
      have := BB_pos (m - 1)
      omega
theorem Dg.len {f g : Nat → Nat} {m n v : Nat} (h : Dg f m v) (h2 : Dg g n v) : m = n := by
  rcases Nat.lt_trichotomy m n with e | e | e
  · have a := h.high
    have b := h2.low (by omega)
    have c : BB ^ m ≤ BB ^ (n - 1) := Nat.pow_le_pow_right (by decide) (by omega)
    omega
  · exact e
  · have a := h2.high
    have b := h.low (by omega)
    have c : BB ^ n ≤ BB ^ (m - 1) := Nat.pow_le_pow_right (by decide) (by omega)
    omega
theorem Dg.dig {f : Nat → Nat} {m v k : Nat} (h : Dg f m v) (hk : k < m) : f k = v / BB ^ k % BB := by
  rw [← h.2.1, dval_digit h.1 hk]
/-- the length by the size: a bound -/
theorem Dg.le {f : Nat → Nat} {m v n : Nat} (h : Dg f m v) (hv : v < BB ^ n) : m ≤ n := by
  by_cases hm : m = 0
  · omega
  · have a := h.low (by omega)
    rcases Nat.lt_or_ge n m with e | e
    · have c : BB ^ n ≤ BB ^ (m - 1) := Nat.pow_le_pow_right (by decide) (by omega)
      omega
    · exact e
/-- trimmed: any digits, and a length behind which all are 0 -/
theorem Dg.trim {f : Nat → Nat} {m n v : Nat} (hf : ∀ k, k < n → f k < BB) (hv : dval f n = v) (hm : m ≤ n) (hz : ∀ k, m ≤ k → k < n → f k = 0) (ht : m = 0 ∨ f (m - 1) ≠ 0) : Dg f m v :=
  ⟨fun k hk => hf k (by omega), by rw [← hv, dval_ext hm hz], ht⟩
theorem Dg.congr {f g : Nat → Nat} {m v : Nat} (h : Dg f m v) (e : ∀ k, k < m → f k = g k) : Dg g m v := by
  obtain ⟨h1, h2, h3⟩ := h
  refine ⟨fun k hk => by rw [← e k hk]; exact h1 k hk, by rw [← h2]; exact (dval_congr e).symm, ?_⟩
  rcases h3 with h3 | h3
  · exact Or.inl h3
  · by_cases hm : m = 0
    · exact Or.inl hm
    · exact Or.inr (by rw [← e (m - 1) (by omega)]; exact h3)
