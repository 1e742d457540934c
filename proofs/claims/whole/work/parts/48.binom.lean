/-! ways to choose; chances by whole numbers -/
def ch : Nat → Nat → Nat
  | _, 0 => 1
  | 0, _ + 1 => 0
  | n + 1, k + 1 => ch n k + ch n (k + 1)
theorem ch_n0 (n : Nat) : ch n 0 = 1 := by cases n <;> rfl
theorem ch_0s (k : Nat) : ch 0 (k + 1) = 0 := rfl
theorem ch_ss (n k : Nat) : ch (n + 1) (k + 1) = ch n k + ch n (k + 1) := rfl
theorem ch_gt : ∀ {n k : Nat}, n < k → ch n k = 0
  | _, 0, h => by omega
  | 0, k + 1, _ => rfl
  | n + 1, k + 1, h => by rw [ch_ss, ch_gt (by omega), ch_gt (by omega)]
theorem ch_nn : ∀ n, ch n n = 1
  | 0 => rfl
  | n + 1 => by rw [ch_ss, ch_nn n, ch_gt (by omega)]
theorem ch_symm : ∀ {n a b : Nat}, a + b = n → ch n a = ch n b
  | 0, a, b, h => by
    have : a = 0 := by omega
    have : b = 0 := by omega
    subst a b
    rfl
  | n + 1, 0, b, h => by
    have : b = n + 1 := by omega
    subst this
    rw [ch_n0, ch_nn]
  | n + 1, a + 1, 0, h => by
    have : a = n := by omega
    subst this
    rw [ch_n0, ch_nn]
  | n + 1, a + 1, b + 1, h => by
    rw [ch_ss, ch_ss, ch_symm (n := n) (a := a) (b := b + 1) (by omega), ch_symm (n := n) (a := a + 1) (b := b) (by omega), Nat.add_comm]
theorem ch_abs : ∀ n k, (k + 1) * ch (n + 1) (k + 1) = (n + 1) * ch n k
  | 0, 0 => rfl
  | 0, k + 1 => by rw [ch_ss, ch_0s, ch_0s, Nat.mul_zero]
  | n + 1, 0 => by
    have := ch_abs n 0
    rw [ch_n0] at this ⊢
    rw [ch_ss, ch_n0]
    omega
  | n + 1, k + 1 => by
    have h1 := ch_abs n k
    have h2 := ch_abs n (k + 1)
    rw [ch_ss (n + 1) (k + 1), Nat.mul_add, h2]
    have e : (k + 1 + 1) * ch (n + 1) (k + 1) = (n + 1) * ch n k + ch (n + 1) (k + 1) := by rw [Nat.succ_mul, h1]
    rw [e]
    have e2 : (n + 1) * ch n k + (n + 1) * ch n (k + 1) = (n + 1) * ch (n + 1) (k + 1) := by rw [ch_ss, Nat.mul_add]
    rw [Nat.succ_mul (n + 1)]
    omega
theorem ch_le : ∀ n k, ch n k ≤ 2 ^ n
  | _, 0 => by rw [ch_n0]; exact Nat.pow_pos (by decide)
  | 0, k + 1 => by rw [ch_0s]; omega
  | n + 1, k + 1 => by
    have h1 := ch_le n k
    have h2 := ch_le n (k + 1)
    rw [ch_ss, Nat.pow_succ]
    omega
theorem ch_pos : ∀ {n k : Nat}, k ≤ n → 0 < ch n k
  | _, 0, _ => by rw [ch_n0]; omega
  | n + 1, k + 1, h => by
    rw [ch_ss]
    have := ch_pos (n := n) (k := k) (by omega)
    omega
/-- n throws with the weights h, r: a or more hits -/
def wgt (h r : Nat) : Nat → Nat → Nat
  | 0, 0 => 1
  | 0, _ + 1 => 0
  | n + 1, 0 => (h + r) * wgt h r n 0
  | n + 1, a + 1 => h * wgt h r n a + r * wgt h r n (a + 1)
theorem wgt_0 (h r : Nat) : ∀ n, wgt h r n 0 = (h + r) ^ n
  | 0 => rfl
  | n + 1 => by
    rw [Nat.pow_succ, Nat.mul_comm, ← wgt_0 h r n]
    rfl
theorem wgt_gt (h r : Nat) : ∀ {n a : Nat}, n < a → wgt h r n a = 0
  | _, 0, e => by omega
  | 0, a + 1, _ => rfl
  | n + 1, a + 1, e => by
    show h * wgt h r n a + r * wgt h r n (a + 1) = 0
    rw [wgt_gt h r (by omega), wgt_gt h r (by omega), Nat.mul_zero, Nat.mul_zero]
theorem wgt_le (h r : Nat) : ∀ n a, wgt h r n a ≤ (h + r) ^ n
  | n, 0 => by rw [wgt_0]; exact Nat.le_refl _
  | 0, a + 1 => by show 0 ≤ _; omega
  | n + 1, a + 1 => by
    have h1 := Nat.mul_le_mul_left h (wgt_le h r n a)
    have h2 := Nat.mul_le_mul_left r (wgt_le h r n (a + 1))
    show h * wgt h r n a + r * wgt h r n (a + 1) ≤ _
    have e : (h + r) ^ (n + 1) = h * (h + r) ^ n + r * (h + r) ^ n := by rw [Nat.pow_succ, Nat.mul_comm ((h + r) ^ n), Nat.add_mul]
    omega
/-- just a hits -/
def jst (h r n a : Nat) : Nat := ch n a * h ^ a * r ^ (n - a)
theorem jst_ss (h r n a : Nat) : jst h r (n + 1) (a + 1) = h * jst h r n a + r * jst h r n (a + 1) := by
  unfold jst
  rw [ch_ss, show n + 1 - (a + 1) = n - a by omega]
  by_cases e : a + 1 ≤ n
  · rw [show n - a = n - (a + 1) + 1 by omega, Nat.pow_succ, Nat.pow_succ, Nat.add_mul, Nat.add_mul]
    congr 1 <;> ac_rfl
  · rw [ch_gt (n := n) (k := a + 1) (by omega), Nat.add_zero, Nat.zero_mul, Nat.zero_mul, Nat.mul_zero, Nat.add_zero, Nat.pow_succ]
    ac_rfl
theorem wgt_jst (h r : Nat) : ∀ n a, wgt h r n a = jst h r n a + wgt h r n (a + 1)
  | 0, 0 => by simp [wgt, jst, ch]
  | 0, a + 1 => by simp [wgt, jst, ch]
  | n + 1, 0 => by
    have ih := wgt_jst h r n 0
    show (h + r) * wgt h r n 0 = jst h r (n + 1) 0 + (h * wgt h r n 0 + r * wgt h r n 1)
    have e : jst h r (n + 1) 0 = r * jst h r n 0 := by
      unfold jst
      rw [ch_n0, ch_n0, Nat.pow_zero, Nat.sub_zero, Nat.sub_zero, Nat.pow_succ]
      ac_rfl
    have e2 : r * wgt h r n 0 = r * jst h r n 0 + r * wgt h r n 1 := by
      rw [← Nat.mul_add, ← ih]
    rw [e, Nat.add_mul]
    omega
  | n + 1, a + 1 => by
    have i1 := wgt_jst h r n a
    have i2 := wgt_jst h r n (a + 1)
    show h * wgt h r n a + r * wgt h r n (a + 1) = jst h r (n + 1) (a + 1) + (h * wgt h r n (a + 1) + r * wgt h r n (a + 1 + 1))
    rw [jst_ss]
    have e1 : h * wgt h r n a = h * jst h r n a + h * wgt h r n (a + 1) := by rw [← Nat.mul_add, ← i1]
    have e2 : r * wgt h r n (a + 1) = r * jst h r n (a + 1) + r * wgt h r n (a + 1 + 1) := by rw [← Nat.mul_add, ← i2]
    omega
/-- the first g for which P, if there is one before the end -/
def gfst (P : Nat → Bool) : Nat → Nat → Nat
  | 0, g => g
  | u + 1, g => if P g = true then g else gfst P u (g + 1)
theorem gfst_le (P : Nat → Bool) : ∀ u g, gfst P u g ≤ g + u
  | 0, g => Nat.le_refl _
  | u + 1, g => by
    simp only [gfst]
    have := gfst_le P u (g + 1)
    split <;> omega
