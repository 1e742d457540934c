/-! numbers of the machine, by toInt -/
theorem up_same {α : Type} (f : Nat → α) (k : Nat) (x : α) : up f k x k = x := if_pos rfl
theorem up_ne {α : Type} {f : Nat → α} {k j : Nat} {x : α} (h : j ≠ k) : up f k x j = f j := if_neg h
theorem i_lt (a b : Int32) : a < b ↔ a.toInt < b.toInt := Int32.lt_iff_toInt_lt
theorem i_le (a b : Int32) : a ≤ b ↔ a.toInt ≤ b.toInt := Int32.le_iff_toInt_le
theorem i_eq (a b : Int32) : a = b ↔ a.toInt = b.toInt := Int32.toInt_inj.symm
theorem j_lt (a b : Int64) : a < b ↔ a.toInt < b.toInt := Int64.lt_iff_toInt_lt
theorem j_le (a b : Int64) : a ≤ b ↔ a.toInt ≤ b.toInt := Int64.le_iff_toInt_le
theorem j_eq (a b : Int64) : a = b ↔ a.toInt = b.toInt := Int64.toInt_inj.symm
theorem i_hi (a : Int32) : a.toInt < 2147483648 := Int32.toInt_lt a
theorem i_lo (a : Int32) : -2147483648 ≤ a.toInt := Int32.le_toInt a
theorem j_hi (a : Int64) : a.toInt < 9223372036854775808 := Int64.toInt_lt a
theorem j_lo (a : Int64) : -9223372036854775808 ≤ a.toInt := Int64.le_toInt a
theorem bm32 {a : Int} (h1 : -2147483648 ≤ a) (h2 : a < 2147483648) : a.bmod (2 ^ 32) = a := by
  rw [Int.bmod_def]
  split <;> omega
theorem bm64 {a : Int} (h1 : -9223372036854775808 ≤ a) (h2 : a < 9223372036854775808) : a.bmod (2 ^ 64) = a := by
  rw [Int.bmod_def]
  split <;> omega
section IOPS
variable {x y : Int32} {a b : Int}
theorem i_add (hx : x.toInt = a) (hy : y.toInt = b) (h1 : -2147483648 ≤ a + b) (h2 : a + b < 2147483648) : (x + y).toInt = a + b := by rw [Int32.toInt_add, hx, hy, bm32 h1 h2]
theorem i_sub (hx : x.toInt = a) (hy : y.toInt = b) (h1 : -2147483648 ≤ a - b) (h2 : a - b < 2147483648) : (x - y).toInt = a - b := by rw [Int32.toInt_sub, hx, hy, bm32 h1 h2]
theorem i_mul (hx : x.toInt = a) (hy : y.toInt = b) (h1 : -2147483648 ≤ a * b) (h2 : a * b < 2147483648) : (x * y).toInt = a * b := by rw [Int32.toInt_mul, hx, hy, bm32 h1 h2]
theorem i_wide (hx : x.toInt = a) : x.toInt64.toInt = a := by rw [Int32.toInt_toInt64, hx]
theorem i_nat {k : Nat} (hx : x.toInt = (k : Int)) : x.toNatClampNeg = k := by
  show x.toInt.toNat = k
  rw [hx]
  rfl
theorem i_in {k n : Nat} (hx : x.toInt = (k : Int)) (h : k < n) : vp_in x n := vp_in_iff.mpr ⟨by omega, by omega⟩
theorem i_ext (hx : x.toInt = a) (hy : y.toInt = a) : x = y := Int32.toInt_inj.mp (hx.trans hy.symm)
theorem i_nn (hx : 0 ≤ x.toInt) : x.toInt = (x.toInt.toNat : Int) := by omega
end IOPS
section JOPS
variable {x y : Int64} {a b : Int}
theorem j_add (hx : x.toInt = a) (hy : y.toInt = b) (h1 : -9223372036854775808 ≤ a + b) (h2 : a + b < 9223372036854775808) : (x + y).toInt = a + b := by rw [Int64.toInt_add, hx, hy, bm64 h1 h2]
theorem j_sub (hx : x.toInt = a) (hy : y.toInt = b) (h1 : -9223372036854775808 ≤ a - b) (h2 : a - b < 9223372036854775808) : (x - y).toInt = a - b := by rw [Int64.toInt_sub, hx, hy, bm64 h1 h2]
theorem j_mul (hx : x.toInt = a) (hy : y.toInt = b) (h1 : -9223372036854775808 ≤ a * b) (h2 : a * b < 9223372036854775808) : (x * y).toInt = a * b := by rw [Int64.toInt_mul, hx, hy, bm64 h1 h2]
theorem j_neg (hx : x.toInt = a) (h1 : -9223372036854775808 < a) : (-x).toInt = -a := by
  have := j_hi x
  rw [Int64.toInt_neg, hx, bm64 (by omega) (by omega)]
theorem j_nar (hx : x.toInt = a) (h1 : -2147483648 ≤ a) (h2 : a < 2147483648) : x.toInt32.toInt = a := by rw [Int64.toInt_toInt32, hx, bm32 h1 h2]
theorem j_ext (hx : x.toInt = a) (hy : y.toInt = a) : x = y := Int64.toInt_inj.mp (hx.trans hy.symm)
theorem j_div (hx : x.toInt = a) (hy : y.toInt = b) (h : -9223372036854775808 < a ∨ b ≠ -1) : (x / y).toInt = a.tdiv b := by
  rcases h with h | h
  · rw [Int64.toInt_div_of_ne_left _ _ (fun e => by rw [e] at hx; rw [← hx] at h; exact absurd h (by decide)), hx, hy]
  · rw [Int64.toInt_div_of_ne_right _ _ (fun e => h (by rw [← hy, e]; decide)), hx, hy]
end JOPS
theorem i_div {x y : Int32} {a b : Int} (hx : x.toInt = a) (hy : y.toInt = b) (h : -2147483648 < a ∨ b ≠ -1) : (x / y).toInt = a.tdiv b := by
  rcases h with h | h
  · rw [Int32.toInt_div_of_ne_left _ _ (fun e => by rw [e] at hx; rw [← hx] at h; exact absurd h (by decide)), hx, hy]
  · rw [Int32.toInt_div_of_ne_right _ _ (fun e => h (by rw [← hy, e]; decide)), hx, hy]
theorem td_abs (a b : Int) : (a.tdiv b).natAbs = a.natAbs / b.natAbs := Int.natAbs_tdiv a b
/-- the remainder as it is worked -/
theorem j_rem {x y : Int64} {a b : Int} (hx : x.toInt = a) (hy : y.toInt = b) (hb : 0 < b) : (x - x / y * y).toInt = a.tmod b := by
  have hd : (x / y).toInt = a.tdiv b := j_div hx hy (Or.inr (by omega))
  have h1 := Int.tmod_add_mul_tdiv a b
  have hxl := j_lo x
  have hxh := j_hi x
  rw [hx] at hxl hxh
  have h2 : a.tdiv b * b = a - a.tmod b := by rw [Int.mul_comm]; omega
  have h3 : a.tmod b < b ∧ -b < a.tmod b := ⟨Int.tmod_lt_of_pos a hb, by
    have := Int.lt_tmod_of_pos a hb
    omega⟩
  have h4 : 0 ≤ a → 0 ≤ a.tmod b ∧ a.tmod b ≤ a := fun h => ⟨Int.tmod_nonneg b h, by
    have := Int.tdiv_nonneg h (Int.le_of_lt hb)
    have := Int.mul_nonneg this (Int.le_of_lt hb)
    omega⟩
  have h5 : a ≤ 0 → a.tmod b ≤ 0 ∧ a ≤ a.tmod b := fun h => by
    have e1 : (-a).tmod b = -(a.tmod b) := Int.neg_tmod a b
    have e2 : 0 ≤ (-a).tmod b := Int.tmod_nonneg b (by omega)
    have e3 : (-a).tdiv b = -(a.tdiv b) := Int.neg_tdiv a b
    have e4 := Int.mul_nonneg (Int.tdiv_nonneg (show 0 ≤ -a by omega) (Int.le_of_lt hb)) (Int.le_of_lt hb)
    rw [e3, Int.neg_mul] at e4
    omega
  have hm : (x / y * y).toInt = a.tdiv b * b := j_mul hd hy (by omega) (by omega)
  rw [j_sub hx hm (by omega) (by omega)]
  omega
theorem i_rem {x y : Int32} {a b : Int} (hx : x.toInt = a) (hy : y.toInt = b) (hb : 0 < b) : (x - x / y * y).toInt = a.tmod b := by
  have hd : (x / y).toInt = a.tdiv b := i_div hx hy (Or.inr (by omega))
  have h1 := Int.tmod_add_mul_tdiv a b
  have hxl := i_lo x
  have hxh := i_hi x
  rw [hx] at hxl hxh
  have h2 : a.tdiv b * b = a - a.tmod b := by rw [Int.mul_comm]; omega
  have h4 : 0 ≤ a → 0 ≤ a.tmod b ∧ a.tmod b ≤ a := fun h => ⟨Int.tmod_nonneg b h, by
    have := Int.tdiv_nonneg h (Int.le_of_lt hb)
    have := Int.mul_nonneg this (Int.le_of_lt hb)
    omega⟩
  have h5 : a ≤ 0 → a.tmod b ≤ 0 ∧ a ≤ a.tmod b := fun h => by
    have e1 : (-a).tmod b = -(a.tmod b) := Int.neg_tmod a b
    have e2 : 0 ≤ (-a).tmod b := Int.tmod_nonneg b (by omega)
    have e3 : (-a).tdiv b = -(a.tdiv b) := Int.neg_tdiv a b
    have e4 := Int.mul_nonneg (Int.tdiv_nonneg (show 0 ≤ -a by omega) (Int.le_of_lt hb)) (Int.le_of_lt hb)
    rw [e3, Int.neg_mul] at e4
    omega
  have hm : (x / y * y).toInt = a.tdiv b * b := i_mul hd hy (by omega) (by omega)
  rw [i_sub hx hm (by omega) (by omega)]
  omega
theorem i_bn (x : Int32) : x.toInt = if 2 * x.toBitVec.toNat < 4294967296 then (x.toBitVec.toNat : Int) else (x.toBitVec.toNat : Int) - 4294967296 := BitVec.toInt_eq_toNat_cond _
theorem j_bn (x : Int64) : x.toInt = if 2 * x.toBitVec.toNat < 18446744073709551616 then (x.toBitVec.toNat : Int) else (x.toBitVec.toNat : Int) - 18446744073709551616 := BitVec.toInt_eq_toNat_cond _
theorem i_mask (x : Int32) : (x &&& 1073741823).toInt = x.toInt % 1073741824 := by
  have h1 : (x &&& 1073741823).toBitVec.toNat = x.toBitVec.toNat % 1073741824 := by
    rw [Int32.toBitVec_and, BitVec.toNat_and]
    exact Nat.and_two_pow_sub_one_eq_mod x.toBitVec.toNat 30
  have h2 := i_bn (x &&& 1073741823)
  have h3 := i_bn x
  rw [h1] at h2
  rw [h2, h3]
  split <;> split <;> omega
theorem j_mask (x : Int64) : (x &&& 1073741823).toInt = x.toInt % 1073741824 := by
  have h1 : (x &&& 1073741823).toBitVec.toNat = x.toBitVec.toNat % 1073741824 := by
    rw [Int64.toBitVec_and, BitVec.toNat_and]
    exact Nat.and_two_pow_sub_one_eq_mod x.toBitVec.toNat 30
  have h2 := j_bn (x &&& 1073741823)
  have h3 := j_bn x
  rw [h1] at h2
  rw [h2, h3]
  split <;> split <;> omega
theorem ji_mask (x : Int64) : (x.toInt32 &&& 1073741823).toInt = x.toInt % 1073741824 := by
  rw [i_mask, Int64.toInt_toInt32, Int.bmod_def]
  split <;> omega
theorem jm_nar (x : Int64) : (x &&& 1073741823).toInt32.toInt = x.toInt % 1073741824 := j_nar (j_mask x) (by omega) (by omega)
theorem j_shr30 (x : Int64) : (x >>> ((30 : Int32).toInt64 &&& 63)).toInt = x.toInt / 1073741824 := by
  have e : (x >>> ((30 : Int32).toInt64 &&& 63)).toInt = x.toInt >>> 30 := by
    have hD : ((((30 : Int32).toInt64 &&& 63) : Int64).toBitVec.smod 64).toNat = 30 := by decide
    have : (x >>> ((30 : Int32).toInt64 &&& 63)).toInt = x.toInt >>> ((((30 : Int32).toInt64 &&& 63) : Int64).toBitVec.smod 64).toNat := BitVec.toInt_sshiftRight ..
    rw [this, hD]
  rw [e, Int.shiftRight_eq_div_pow]
  rfl
theorem j_shr {x : Int64} {s : Int32} {k : Nat} (hs : s.toInt = (k : Int)) (hk : k < 64) : (x >>> (s.toInt64 &&& 63)).toInt = x.toInt / 2 ^ k := by
  have hs' : s = nI k := Int32.toInt_inj.mp (by rw [hs, nI_toInt (by omega)])
  subst hs'
  have hD : ∀ k, k < 64 → ((((nI k).toInt64 &&& 63) : Int64).toBitVec.smod 64).toNat = k := by decide +kernel
  have : (x >>> ((nI k).toInt64 &&& 63)).toInt = x.toInt >>> ((((nI k).toInt64 &&& 63) : Int64).toBitVec.smod 64).toNat := BitVec.toInt_sshiftRight ..
  rw [this, hD k hk, Int.shiftRight_eq_div_pow]
  norm_cast
theorem j_shl {x : Int64} {s : Int32} {k : Nat} {a : Int} (hx : x.toInt = a) (hs : s.toInt = (k : Int)) (hk : k < 64) (h1 : -9223372036854775808 ≤ a * 2 ^ k) (h2 : a * 2 ^ k < 9223372036854775808) : (x <<< (s.toInt64 &&& 63)).toInt = a * 2 ^ k := by
  have hs' : s = nI k := Int32.toInt_inj.mp (by rw [hs, nI_toInt (by omega)])
  subst hs'
  have hD : ∀ k, k < 64 → (((nI k).toInt64 &&& 63) : Int64).toBitVec.smod 64 = BitVec.ofNat 64 k := by decide +kernel
  have e : (x <<< ((nI k).toInt64 &&& 63)).toBitVec = x.toBitVec <<< k := by
    rw [Int64.toBitVec_shiftLeft, hD k hk, BitVec.shiftLeft_eq', BitVec.toNat_ofNat, Nat.mod_eq_of_lt (by omega)]
  have e2 : (x <<< ((nI k).toInt64 &&& 63)).toInt = ((x.toBitVec.toNat : Int) * 2 ^ k).bmod (2 ^ 64) := by
    show (x <<< ((nI k).toInt64 &&& 63)).toBitVec.toInt = _
    rw [e, BitVec.toInt_shiftLeft, Nat.shiftLeft_eq]
    norm_cast
  have e3 : ((x.toBitVec.toNat : Int) * 2 ^ k).bmod (2 ^ 64) = (a * 2 ^ k).bmod (2 ^ 64) := by
    have h : a = (x.toBitVec.toNat : Int).bmod (2 ^ 64) := by rw [← hx]; exact BitVec.toInt_eq_toNat_bmod _
    rw [h, Int.bmod_mul_bmod]
  rw [e2, e3, bm64 h1 h2]
theorem vz0 : vp_nar .boolean 0 = 0 := by decide
theorem vz1 : vp_nar .boolean 1 = 1 := by decide
theorem lg_lt0 (x y : Int64) : lg_cmp x y < 0 ↔ x.toInt < y.toInt := by
  unfold lg_cmp
  have h0 : (0 : Int32).toInt = 0 := by decide
  have h1 : (1 : Int32).toInt = 1 := by decide
  have h2 : (-1 : Int32).toInt = -1 := by decide
  split
  · rename_i h
    have := (j_lt y x).mp h
    rw [i_lt, h0, h1]
    omega
  · rename_i h
    have := mt (j_lt y x).mpr h
    split
    · rename_i e
      subst e
      rw [i_lt, h0]
      omega
    · rename_i e
      have := mt (j_eq x y).mpr e
      rw [i_lt, h0, h2]
      omega
theorem lg_gt0 (x y : Int64) : 0 < lg_cmp x y ↔ y.toInt < x.toInt := by
  unfold lg_cmp
  have h0 : (0 : Int32).toInt = 0 := by decide
  have h1 : (1 : Int32).toInt = 1 := by decide
  have h2 : (-1 : Int32).toInt = -1 := by decide
  split
  · rename_i h
    have := (j_lt y x).mp h
    rw [i_lt, h0, h1]
    omega
  · rename_i h
    have := mt (j_lt y x).mpr h
    split
    · rename_i e
      subst e
      rw [i_lt, h0]
      omega
    · rename_i e
      have := mt (j_eq x y).mpr e
      rw [i_lt, h0, h2]
      omega
theorem lg_eq0 (x y : Int64) : lg_cmp x y = 0 ↔ x.toInt = y.toInt := by
  have h1 := lg_lt0 x y
  have h2 := lg_gt0 x y
  rw [i_lt] at h1 h2
  have h0 : (0 : Int32).toInt = 0 := by decide
  rw [i_eq]
  rw [h0] at h1 h2 ⊢
  omega
theorem lg_le0 (x y : Int64) : lg_cmp x y ≤ 0 ↔ x.toInt ≤ y.toInt := by
  have h2 := lg_gt0 x y
  rw [i_lt] at h2
  have h0 : (0 : Int32).toInt = 0 := by decide
  rw [i_le]
  rw [h0] at h2 ⊢
  omega
theorem lg_ge0 (x y : Int64) : 0 ≤ lg_cmp x y ↔ y.toInt ≤ x.toInt := by
  have h2 := lg_lt0 x y
  rw [i_lt] at h2
  have h0 : (0 : Int32).toInt = 0 := by decide
  rw [i_le]
  rw [h0] at h2 ⊢
  omega
