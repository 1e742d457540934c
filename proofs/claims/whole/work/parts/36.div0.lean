/-! the slots of the reference: what division needs -/
theorem td_all (a b : Int) : (a.tdiv b).natAbs = a.natAbs / b.natAbs ∧ (a.tmod b).natAbs = a.natAbs % b.natAbs ∧ (a.tdiv b ≠ 0 → a.sign * b.sign = (a.tdiv b).sign) ∧ (a.tmod b ≠ 0 → a.sign = (a.tmod b).sign) := by
  have hA : a = (a.natAbs : Int) ∨ a = -(a.natAbs : Int) := by omega
  have hB : b = (b.natAbs : Int) ∨ b = -(b.natAbs : Int) := by omega
  generalize a.natAbs = A at *
  generalize b.natAbs = B at *
  have d0 : ((A : Int).tdiv (B : Int)) = ((A / B : Nat) : Int) := rfl
  have m0 : ((A : Int).tmod (B : Int)) = ((A % B : Nat) : Int) := rfl
  have k1 : A / B ≠ 0 → 0 < A ∧ 0 < B := fun h => by
    refine ⟨Nat.pos_of_ne_zero fun z => h (by rw [z, Nat.zero_div]), Nat.pos_of_ne_zero fun z => h (by rw [z, Nat.div_zero])⟩
  have k2 : A % B ≠ 0 → 0 < A := fun h => Nat.pos_of_ne_zero fun z => h (by rw [z, Nat.zero_mod])
  have sp : ∀ n : Nat, 0 < n → ((n : Int)).sign = 1 := fun n h => Int.sign_eq_one_of_pos (by omega)
  have sn : ∀ n : Nat, 0 < n → (-(n : Int)).sign = -1 := fun n h => Int.sign_eq_neg_one_of_neg (by omega)
  generalize A / B = q at *
  generalize A % B = r at *
  rcases hA with ha | ha <;> rcases hB with hb | hb <;> rw [ha, hb]
  · rw [d0, m0]
    refine ⟨by omega, by omega, fun h => ?_, fun h => ?_⟩
    · have := k1 (by omega)
      rw [sp A this.1, sp B this.2, sp _ (by omega)]
      rfl
    · have := k2 (by omega)
      rw [sp A this, sp _ (by omega)]
  · rw [Int.tdiv_neg, Int.tmod_neg, d0, m0]
    refine ⟨by omega, by omega, fun h => ?_, fun h => ?_⟩
    · have := k1 (by omega)
      rw [sp A this.1, sn B this.2, sn _ (by omega)]
      rfl
    · have := k2 (by omega)
      rw [sp A this, sp _ (by omega)]
  · rw [Int.neg_tdiv, Int.neg_tmod, d0, m0]
    refine ⟨by omega, by omega, fun h => ?_, fun h => ?_⟩
    · have := k1 (by omega)
      rw [sn A this.1, sp B this.2, sn _ (by omega)]
      rfl
    · have := k2 (by omega)
      rw [sn A this, sn _ (by omega)]
  · rw [Int.neg_tdiv, Int.neg_tmod, Int.tdiv_neg, Int.tmod_neg, d0, m0, Int.neg_neg]
    refine ⟨by omega, by omega, fun h => ?_, fun h => ?_⟩
    · have := k1 (by omega)
      rw [sn A this.1, sn B this.2, sp _ (by omega)]
      rfl
    · have := k2 (by omega)
      rw [sn A this, sn _ (by omega)]
theorem dval_split (f : Nat → Nat) (p : Nat) : ∀ q, dval f (p + q) = dval f p + BB ^ p * dval (fun k => f (p + k)) q
  | 0 => by simp [dval]
  | q + 1 => by
    show dval f (p + q) + f (p + q) * BB ^ (p + q) = dval f p + BB ^ p * (dval (fun k => f (p + k)) q + f (p + q) * BB ^ q)
    rw [dval_split f p q, Nat.mul_add, Nat.pow_add, Nat.add_assoc]
    congr 2
    ac_rfl
theorem i_shl : ∀ {x s : Int32} {k a : Nat}, x.toInt = (a : Int) → s.toInt = (k : Int) → k < 32 → a * 2 ^ k < 2147483648 → (x <<< (s &&& 31)).toInt = ((a * 2 ^ k : Nat) : Int) := by
  intro x s k a hx hs hk h2
  have hs' : s = nI k := Int32.toInt_inj.mp (by rw [hs, nI_toInt (by omega)])
  subst hs'
  have hD : ∀ k, k < 32 → (((nI k) &&& 31 : Int32).toBitVec.smod 32).toNat = k := by decide +kernel
  have e1 : (x <<< (nI k &&& 31)).toBitVec = x.toBitVec <<< (((nI k) &&& 31 : Int32).toBitVec.smod 32).toNat := rfl
  have hxn : x.toBitVec.toNat = a := by
    have h3 := i_bn x
    have h4 := x.toBitVec.isLt
    rw [hx] at h3
    split at h3 <;> omega
  have e2 : (x <<< (nI k &&& 31)).toBitVec.toNat = a * 2 ^ k := by
    rw [e1, hD k hk, BitVec.toNat_shiftLeft, hxn, Nat.shiftLeft_eq, Nat.mod_eq_of_lt (by omega)]
  rw [i_bn, e2, if_pos (by omega)]
theorem j_addN {x y : Int64} {a b : Nat} (hx : x.toInt = (a : Int)) (hy : y.toInt = (b : Int)) (h : a + b < 9223372036854775808) : (x + y).toInt = ((a + b : Nat) : Int) := by
  rw [j_add hx hy (by omega) (by omega)]
  omega
theorem j_mulN {x y : Int64} {a b : Nat} (hx : x.toInt = (a : Int)) (hy : y.toInt = (b : Int)) (h : a * b < 9223372036854775808) : (x * y).toInt = ((a * b : Nat) : Int) := by
  rw [j_mul hx hy (by rw [← Int.natCast_mul]; omega) (by rw [← Int.natCast_mul]; omega), ← Int.natCast_mul]
theorem j_narN {x : Int64} {a : Nat} (hx : x.toInt = (a : Int)) (h : a < 2147483648) : x.toInt32.toInt = (a : Int) := j_nar hx (by omega) (by omega)
theorem j_divN {x y : Int64} {a b : Nat} (hx : x.toInt = (a : Int)) (hy : y.toInt = (b : Int)) : (x / y).toInt = ((a / b : Nat) : Int) := by
  rw [j_div hx hy (Or.inr (by omega))]
  rfl
theorem j_shlN {x : Int64} {s : Int32} {k a : Nat} (hx : x.toInt = (a : Int)) (hs : s.toInt = (k : Int)) (hk : k < 64) (h2 : a * 2 ^ k < 9223372036854775808) : (x <<< (s.toInt64 &&& 63)).toInt = ((a * 2 ^ k : Nat) : Int) := by
  have e : (a : Int) * 2 ^ k = ((a * 2 ^ k : Nat) : Int) := by norm_cast
  rw [j_shl hx hs hk (by rw [e]; omega) (by rw [e]; omega), e]
