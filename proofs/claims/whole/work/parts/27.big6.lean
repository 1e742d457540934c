/-! whole numbers of the class: division -/
theorem i_shr {x s : Int32} {k : Nat} (hs : s.toInt = (k : Int)) (hk : k < 32) : (x >>> (s &&& 31)).toInt = x.toInt / 2 ^ k := by
  have hs' : s = nI k := Int32.toInt_inj.mp (by rw [hs, nI_toInt (by omega)])
  subst hs'
  have hD : ∀ k, k < 32 → (((nI k) &&& 31 : Int32).toBitVec.smod 32).toNat = k := by decide +kernel
  have : (x >>> (nI k &&& 31)).toInt = x.toInt >>> (((nI k) &&& 31 : Int32).toBitVec.smod 32).toNat := BitVec.toInt_sshiftRight ..
  rw [this, hD k hk, Int.shiftRight_eq_div_pow]
  norm_cast
theorem i_and1 (x : Int32) : (x &&& 1).toInt = x.toInt % 2 := by
  have h1 : (x &&& 1).toBitVec.toNat = x.toBitVec.toNat % 2 := by
    rw [Int32.toBitVec_and, BitVec.toNat_and]
    exact Nat.and_two_pow_sub_one_eq_mod x.toBitVec.toNat 1
  have h2 := i_bn (x &&& 1)
  have h3 := i_bn x
  rw [h1] at h2
  rw [h2, h3]
  split <;> split <;> omega
theorem i_one_shl : ∀ s, s < 31 → ((1 : Int32) <<< (nI s &&& 31)).toInt = ((2 ^ s : Nat) : Int) := by decide +kernel
theorem halves_step (N : Nat) {b : Nat} (hb : 0 < b) : N % b = (2 * (N / 2 % b) + N % 2) % b ∧ N / b = 2 * (N / 2 / b) + (2 * (N / 2 % b) + N % 2) / b := by
  have h1 : b * (N / 2 / b) + N / 2 % b = N / 2 := Nat.div_add_mod _ _
  have h2 : N = (2 * (N / 2 % b) + N % 2) + b * (2 * (N / 2 / b)) := by
    have : b * (2 * (N / 2 / b)) = 2 * (b * (N / 2 / b)) := by ac_rfl
    rw [this]
    generalize b * (N / 2 / b) = Z at h1 ⊢
    omega
  constructor
  · have e := congrArg (· % b) h2
    refine e.trans ?_
    exact Nat.add_mul_mod_self_left _ _ _
  · have e := congrArg (· / b) h2
    refine e.trans ?_
    show (2 * (N / 2 % b) + N % 2 + b * (2 * (N / 2 / b))) / b = _
    rw [Nat.add_mul_div_left _ _ hb, Nat.add_comm]
theorem pow_mod_step (q e m : Nat) (he : e ≤ 1) : (2 * q + e) % 2 ^ (m + 1) = 2 * (q % 2 ^ m) + e := by
  rw [Nat.pow_succ, Nat.mul_comm (2 ^ m) 2, Nat.mod_mul, show (2 * q + e) / 2 = q by omega]
  omega
theorem S_Big_divide {d0 d1 d2 : Nat → Int32} {n0 n1 n2 : Int32} {a b : Nat} {Q : (Nat → Int32) → Int32 → (Nat → Int32) → Int32 → Prop} (h0 : BR d0 n0 a) (h1 : BR d1 n1 b) (hb : 0 < b) (hbB : b < BB ^ 15) (hq : ∀ d' n' e' k', BR d' n' (a / b) → BR e' k' (a % b) → Q d' n' e' k') : P_Big_divide d0 n0 d1 n1 d2 n2 Q := by
  obtain ⟨m0, hn0, hu0, ht0⟩ := id h0
  obtain ⟨m1, hn1, hu1, ht1⟩ := id h1
  have hm0 := hu0.1
  have l0 := hu0.lt
  refine T_Big_divide (R_Big_divide_0 ⟨fun c => R_Big_divide_23 fun x7 e7 => ?_, fun c => ?_⟩)
  · have inner : ∀ (i : Nat) (D : Nat → Int32) (y : Int32), i < m0 → y.toInt = (i : Int) → (D i = d0 i) → (∀ (R : Nat → Int32) (rn v4 : Int32), BR R rn (a / BB ^ i % b) → v4.toInt = ((a / BB ^ i / b % BB : Nat) : Int) → E_Big_divide_99 D n0 d1 n1 R rn y v4 Q) → ∀ (s : Nat) (R : Nat → Int32) (rn v4 v5 : Int32), s ≤ 30 → v5.toInt = (s : Int) - 1 → BR R rn (a / 2 ^ (30 * i + s) % b) → v4.toInt = ((2 ^ s * (a / 2 ^ (30 * i + s) / b % 2 ^ (30 - s)) : Nat) : Int) → E_Big_divide_46 D n0 d1 n1 R rn y v4 v5 Q := by
      intro i D y hi hy hDi hend s
      induction s with
      | zero =>
        intro R rn v4 v5 hs hv5 hR hv4
        refine R_Big_divide_46 ⟨fun _ => hend R rn v4 ?_ ?_, fun e => absurd (by rw [i_lt, z_0]; omega) e⟩
        · rw [Nat.add_zero, show (2 ^ (30 * i) : Nat) = BB ^ i by rw [Nat.pow_mul]] at hR
          exact hR
        · rw [Nat.add_zero, show (2 ^ (30 * i) : Nat) = BB ^ i by rw [Nat.pow_mul], Nat.pow_zero, Nat.one_mul] at hv4
          exact hv4
      | succ s ih =>
        intro R rn v4 v5 hs hv5 hR hv4
        have hv5' : v5.toInt = (s : Int) := by omega
        have hN : a / 2 ^ (30 * i + (s + 1)) = a / 2 ^ (30 * i + s) / 2 := by rw [← Nat.add_assoc, Nat.pow_succ, Nat.div_div_eq_div_mul]
        have hst := halves_step (a / 2 ^ (30 * i + s)) hb
        rw [hN] at hR hv4
        -- the bit that comes in
        have hbit : ((D y.toNatClampNeg >>> (v5 &&& 31)) &&& 1).toInt = ((a / 2 ^ (30 * i + s) % 2 : Nat) : Int) := by
          have q0 := h0.rd hn0 (r := D i) (i := i) (fun _ => hDi) (fun z => by omega)
          rw [i_nat hy, i_and1, i_shr hv5' (by omega), q0, ← cpow, ← cdiv]
          have e1 : a / 2 ^ (30 * i + s) = a / BB ^ i / 2 ^ s := by rw [Nat.pow_add, ← Nat.div_div_eq_div_mul, show (2 ^ (30 * i) : Nat) = BB ^ i by rw [Nat.pow_mul]]
          rw [e1]
          generalize a / BB ^ i = M
          have e2 : M % BB / 2 ^ s % 2 = M / 2 ^ s % 2 := by
            have e3 : BB = 2 ^ s * (2 * 2 ^ (29 - s)) := by rw [← Nat.pow_succ', ← Nat.pow_add, show s + (29 - s + 1) = 30 by omega]
            rw [e3, Nat.mod_mul_right_div_self, Nat.mod_mul_right_mod]
          exact_mod_cast e2
        generalize hNN : a / 2 ^ (30 * i + s) = N at hR hv4 hst hbit ih
        have hRlt : N / 2 % b < b := Nat.mod_lt _ hb
        have hN2 : N % 2 < 2 := Nat.mod_lt _ (by decide)
        have z2 : (2 : Int32).toInt = ((2 : Nat) : Int) := by decide
        have hp16 : (BB ^ 15 : Nat) * 2 ≤ BB ^ 16 := by rw [BB_succ 15]; exact Nat.mul_le_mul_left _ (by decide)
        refine R_Big_divide_46 ⟨fun e => absurd e (by rw [i_lt, z_0]; omega), fun _ => S_Big_multiply (v := 2) hR z2 (by decide) (by omega) fun c9 c10 h9 => ⟨i_in hy (by omega), ?_⟩⟩
        rw [Nat.mul_comm] at h9
        refine S_Big_addBit h9 hbit (by omega) fun c11 c12 h11 => S_Big_against h11 h1 fun r13 e13 => ⟨fun c => R_Big_divide_93 fun x17 e17 => ?_, fun c => ?_⟩
        · -- less than b: the bit is 0
          rw [i_lt, z_0, e13] at c
          have hlt : 2 * (N / 2 % b) + N % 2 < b := by
            unfold cmpN at c
            split at c
            · assumption
            · split at c <;> omega
          rw [Nat.mod_eq_of_lt hlt, Nat.div_eq_of_lt hlt] at hst
          refine ih c11 c12 v4 x17 (by omega) (by rw [e17]; exact i_add hv5' z_m1 (by omega) (by omega)) (by rw [hst.1]; exact h11) ?_
          rw [hv4, hst.2, show 30 - s = 30 - (s + 1) + 1 by omega, pow_mod_step _ _ _ (by omega), Nat.pow_succ]
          congr 1
          rw [Nat.mul_assoc]
          rfl
        · rw [i_lt, z_0, e13] at c
          have hge : b ≤ 2 * (N / 2 % b) + N % 2 := by
            unfold cmpN at c
            split at c
            · exact absurd (by decide) c
            · omega
          refine S_Big_take h11 h1 hge fun c14 c15 h14 => R_Big_divide_84 fun x18 e18 => R_Big_divide_93 fun x17 e17 => ?_
          have hq1 : (2 * (N / 2 % b) + N % 2) / b = 1 := by
            rw [Nat.div_eq_sub_div hb hge, Nat.div_eq_of_lt (by omega)]
          have hr1 : (2 * (N / 2 % b) + N % 2) % b = 2 * (N / 2 % b) + N % 2 - b := by
            rw [Nat.mod_eq_sub_mod hge, Nat.mod_eq_of_lt (by omega)]
          rw [hq1, hr1] at hst
          refine ih c14 c15 x18 x17 (by omega) (by rw [e17]; exact i_add hv5' z_m1 (by omega) (by omega)) (by rw [hst.1]; exact h14) ?_
          have hv5n : v5 = nI s := Int32.toInt_inj.mp (by rw [hv5', nI_toInt (by omega)])
          have h1s : ((1 : Int32) <<< (v5 &&& 31)).toInt = ((2 ^ s : Nat) : Int) := by rw [hv5n]; exact i_one_shl s (by omega)
          have hps : 2 ^ s < 2 ^ (s + 1) := Nat.pow_lt_pow_right (by decide) (by omega)
          have hqm : N / 2 / b % 2 ^ (30 - (s + 1)) < 2 ^ (30 - (s + 1)) := Nat.mod_lt _ (Nat.two_pow_pos _)
          have htot : 2 ^ (s + 1) * (N / 2 / b % 2 ^ (30 - (s + 1))) + 2 ^ (s + 1) ≤ 2 ^ 30 := by
            have e1 : 2 ^ (s + 1) * (N / 2 / b % 2 ^ (30 - (s + 1)) + 1) ≤ 2 ^ (s + 1) * 2 ^ (30 - (s + 1)) := Nat.mul_le_mul_left _ hqm
            rw [← Nat.pow_add, show s + 1 + (30 - (s + 1)) = 30 by omega, Nat.mul_add, Nat.mul_one] at e1
            exact e1
          rw [e18, i_or hv4 h1s hps (by omega), hst.2, show 30 - s = 30 - (s + 1) + 1 by omega, pow_mod_step _ _ _ (by omega), Nat.pow_succ]
          congr 1
          rw [Nat.mul_add, Nat.mul_one, Nat.mul_assoc]
    have outer : ∀ (j : Nat) (D R : Nat → Int32) (rn y : Int32), j ≤ m0 → y.toInt = (j : Int) - 1 → (∀ k, k < j → D k = d0 k) → (∀ k, j ≤ k → k < m0 → (D k).toInt = ((a / b / BB ^ k % BB : Nat) : Int)) → BR R rn (a / BB ^ j % b) → E_Big_divide_35 D n0 d1 n1 R rn y Q := by
      intro j
      induction j with
      | zero =>
        intro D R rn y hj hy hD hok hR
        refine R_Big_divide_35 ⟨fun _ => R_Big_divide_113 (S_Big_trim (v := a / b) hn0 (BU_of hm0 (fun k hk => hok k (Nat.zero_le k) hk) ?_) (fun n' h' => hq _ _ _ _ h' ?_)), fun e => absurd (by rw [i_lt, z_0]; omega) e⟩
        · have := Nat.div_le_self a b
          omega
        · rw [Nat.pow_zero, Nat.div_one] at hR
          exact hR
      | succ j ih =>
        intro D R rn y hj hy hD hok hR
        have hy' : y.toInt = (j : Int) := by omega
        have z29 : (29 : Int32).toInt = ((30 : Nat) : Int) - 1 := by decide
        refine R_Big_divide_35 ⟨fun e => absurd e (by rw [i_lt, z_0]; omega), fun _ => inner j D y (by omega) hy' (hD j (by omega)) (fun R' rn' v4 h4 h5 => R_Big_divide_99 ⟨i_in hy' (by omega), fun x16 e16 => ?_⟩) 30 R rn 0 29 (Nat.le_refl _) z29 ?_ ?_⟩
        · rw [i_nat hy']
          refine ih _ R' rn' x16 (by omega) (by rw [e16]; exact i_add hy' z_m1 (by omega) (by omega)) (fun k hk => by rw [up_ne (by omega)]; exact hD k (by omega)) (fun k k1 k2 => ?_) h4
          by_cases e : k = j
          · rw [e, up_same, h5, Nat.div_div_eq_div_mul, Nat.mul_comm, ← Nat.div_div_eq_div_mul]
          · rw [up_ne e]; exact hok k (by omega) k2
        · rw [show 30 * j + 30 = 30 * (j + 1) by omega, show (2 ^ (30 * (j + 1)) : Nat) = BB ^ (j + 1) by rw [Nat.pow_mul]]
          exact hR
        · rw [Nat.sub_self, Nat.pow_zero, Nat.mod_one, Nat.mul_zero]
          exact z_0
    refine outer m0 d0 d2 0 x7 (Nat.le_refl _) (by rw [e7]; exact i_sub hn0 z_1 (by omega) (by omega)) (fun _ _ => rfl) (fun k k1 k2 => by omega) ?_
    rw [Nat.div_eq_of_lt l0, Nat.zero_mod]
    exact ⟨0, z_0, ⟨by omega, fun k hk => by omega, rfl⟩, Or.inl rfl⟩
  · rw [i_eq, z_1, hn1] at c
    have hm1 : m1 = 1 := by omega
    subst hm1
    have hbl : b < BB := by have := hu1.lt; rw [Nat.pow_one] at this; exact this
    refine S_Big_digit (i := 0) h1 z_0 fun r1 e1 => ?_
    rw [Nat.pow_zero, Nat.div_one, Nat.mod_eq_of_lt hbl] at e1
    refine S_Big_shorten h0 e1 hb fun r2 c3 c4 e2 h3 => S_Big_become fun c5 c6 h5 => hq _ _ _ _ h3 ?_
    rw [uJ_of (i_wide e2)] at h5
    exact h5
