/-! whole numbers of the class: halve, halvings, products, division -/
theorem cdiv (a m : Nat) : ((a / m : Nat) : Int) = (a : Int) / (m : Int) := rfl
theorem cpow (p : Nat) : ((2 ^ p : Nat) : Int) = 2 ^ p := by norm_cast
theorem S_Ja_fill {af : Nat → Int32} {n : Nat} {x : Int32} {Q : (Nat → Int32) → Prop} (hn : n < 2147483648) (hq : ∀ f', (∀ k, k < n → f' k = x) → Q f') : P_Ja_fill af n x Q := by
  refine T_Ja_fill (R_Ja_fill_0 fun x1 e1 => ?_)
  have h1 : x1.toInt = (n : Int) := by rw [e1]; exact Int32.toInt_ofNat_of_lt hn
  have loop : ∀ (t i : Nat) (f : Nat → Int32) (y : Int32), i + t = n → y.toInt = (i : Int) → (∀ k, k < i → f k = x) → E_Ja_fill_5 f n x y x1 Q := by
    intro t
    induction t with
    | zero =>
      intro i f y hi hy hf
      exact R_Ja_fill_5 ⟨fun _ => R_Ja_fill_20 (hq f (fun k hk => hf k (by omega))), fun e => absurd (by rw [i_le]; omega) e⟩
    | succ t ih =>
      intro i f y hi hy hf
      refine R_Ja_fill_5 ⟨fun e => absurd e (by rw [i_le]; omega), fun _ => ⟨i_in hy (by omega), fun x2 e2 => ih (i + 1) _ x2 (by omega) (by rw [e2]; exact i_add hy z_1 (by omega) (by omega)) (fun k hk => ?_)⟩⟩
      rw [i_nat hy]
      by_cases e : k = i
      · rw [e, up_same]
      · rw [up_ne e]; exact hf k (by omega)
  exact loop n 0 af 0 (by omega) z_0 (fun k hk => by omega)
theorem S_Ja_fillL {af : Nat → Int64} {n : Nat} {x : Int64} {Q : (Nat → Int64) → Prop} (hn : n < 2147483648) (hq : ∀ f', (∀ k, k < n → f' k = x) → Q f') : P_Ja_fillL af n x Q := by
  refine T_Ja_fillL (R_Ja_fillL_0 fun x1 e1 => ?_)
  have h1 : x1.toInt = (n : Int) := by rw [e1]; exact Int32.toInt_ofNat_of_lt hn
  have loop : ∀ (t i : Nat) (f : Nat → Int64) (y : Int32), i + t = n → y.toInt = (i : Int) → (∀ k, k < i → f k = x) → E_Ja_fillL_6 f n x y x1 Q := by
    intro t
    induction t with
    | zero =>
      intro i f y hi hy hf
      exact R_Ja_fillL_6 ⟨fun _ => R_Ja_fillL_22 (hq f (fun k hk => hf k (by omega))), fun e => absurd (by rw [i_le]; omega) e⟩
    | succ t ih =>
      intro i f y hi hy hf
      refine R_Ja_fillL_6 ⟨fun e => absurd e (by rw [i_le]; omega), fun _ => ⟨i_in hy (by omega), fun x2 e2 => ih (i + 1) _ x2 (by omega) (by rw [e2]; exact i_add hy z_1 (by omega) (by omega)) (fun k hk => ?_)⟩⟩
      rw [i_nat hy]
      by_cases e : k = i
      · rw [e, up_same]
      · rw [up_ne e]; exact hf k (by omega)
  exact loop n 0 af 0 (by omega) z_0 (fun k hk => by omega)
theorem S_Big_toLong {d0 : Nat → Int32} {n0 : Int32} {a : Nat} {Q : Int64 → Prop} (h0 : BR d0 n0 a) (ha : a < BB * BB) (hq : ∀ r : Int64, r.toInt = (a : Int) → Q r) : P_Big_toLong d0 n0 Q := by
  have z30 : (30 : Int32).toInt = ((30 : Nat) : Int) := by decide
  refine T_Big_toLong (R_Big_toLong_0 (S_Big_digit (i := 1) h0 z_1 fun r1 e1 => S_Big_digit (i := 0) h0 z_0 fun r2 e2 => hq _ ?_))
  have ha' : a < 1073741824 * 1073741824 := ha
  rw [Nat.pow_one] at e1
  rw [Nat.pow_zero, Nat.div_one] at e2
  have e1' : r1.toInt = ((a / 1073741824 % 1073741824 : Nat) : Int) := e1
  have e2' : r2.toInt = ((a % 1073741824 : Nat) : Int) := e2
  have hs := j_shl (k := 30) (i_wide e1') z30 (by omega) (by omega) (by omega)
  rw [j_add hs (i_wide e2') (by omega) (by omega)]
  omega
/-- the digits of a quotient by a power of 2, out of two digits -/
theorem two_digits (v i w p : Nat) (hp : p < 30) : ((v / BB ^ (i + w + 1) % BB) * BB + v / BB ^ (i + w) % BB) / 2 ^ p % BB = v / 2 ^ (30 * w + p) / BB ^ i % BB := by
  have h1 : v / 2 ^ (30 * w + p) / BB ^ i = v / BB ^ (i + w) / 2 ^ p := by
    rw [Nat.div_div_eq_div_mul, Nat.div_div_eq_div_mul]
    congr 1
    rw [Nat.pow_add, Nat.pow_add, show (2 ^ (30 * w) : Nat) = BB ^ w by rw [Nat.pow_mul]]
    ac_rfl
  have h2 : v / BB ^ (i + w + 1) = v / BB ^ (i + w) / BB := by rw [Nat.pow_succ, Nat.div_div_eq_div_mul]
  rw [h1, h2]
  generalize v / BB ^ (i + w) = N
  have h3 : (N / BB % BB) * BB + N % BB = N % (BB * BB) := by
    rw [Nat.mod_mul, Nat.mul_comm, Nat.add_comm]
  rw [h3]
  have h4 : N % (BB * BB) + BB * BB * (N / (BB * BB)) = N := Nat.mod_add_div _ _
  have e5 : BB = 2 ^ p * 2 ^ (30 - p) := by rw [← Nat.pow_add, show p + (30 - p) = 30 by omega]
  have h5 : N / 2 ^ p = N % (BB * BB) / 2 ^ p + (2 ^ (30 - p) * (N / (BB * BB))) * BB := by
    have e6 : N = N % (BB * BB) + 2 ^ p * ((2 ^ (30 - p) * (N / (BB * BB))) * BB) := by
      have e7 : BB * BB * (N / (BB * BB)) = 2 ^ p * ((2 ^ (30 - p) * (N / (BB * BB))) * BB) := by
        generalize N / (BB * BB) = Z
        calc BB * BB * Z = (2 ^ p * 2 ^ (30 - p)) * BB * Z := by rw [← e5]
          _ = _ := by ac_rfl
      omega
    have e8 : N / 2 ^ p = (N % (BB * BB) + 2 ^ p * ((2 ^ (30 - p) * (N / (BB * BB))) * BB)) / 2 ^ p := congrArg (· / 2 ^ p) e6
    rw [e8, Nat.add_mul_div_left _ _ (Nat.two_pow_pos p)]
  rw [h5, Nat.add_mul_mod_self_right]
theorem S_Big_halve {d0 : Nat → Int32} {n0 x : Int32} {a t : Nat} {Q : (Nat → Int32) → Int32 → Prop} (h0 : BR d0 n0 a) (hx : x.toInt = (t : Int)) (ht : t < 1000) (hq : ∀ d' n', BR d' n' (a / 2 ^ t) → Q d' n') : P_Big_halve d0 n0 x Q := by
  obtain ⟨m0, hn0, hu0, ht0⟩ := id h0
  have hm0 := hu0.1
  have l0 := hu0.lt
  have z30 : (30 : Int32).toInt = 30 := by decide
  have z30' : (30 : Int32).toInt = ((30 : Nat) : Int) := by decide
  have hne : ¬ (30 : Int32) = 0 := by decide
  refine T_Big_halve (R_Big_halve_0 ⟨hne, fun x1 e1 => ⟨hne, fun x2 e2 => ?_⟩⟩)
  have h1 : x1.toInt = ((t / 30 : Nat) : Int) := by rw [e1]; exact i_div hx z30' (Or.inr (by decide))
  have h2 : x2.toInt = ((t % 30 : Nat) : Int) := by rw [e2]; exact i_rem hx z30' (by decide)
  have hsplit : 30 * (t / 30) + t % 30 = t := Nat.div_add_mod t 30
  have hp : t % 30 < 30 := Nat.mod_lt _ (by decide)
  generalize t / 30 = W at h1 hsplit
  generalize t % 30 = p at h2 hsplit hp
  have loop : ∀ (s i : Nat) (D : Nat → Int32) (y : Int32), i + s = m0 → y.toInt = (i : Int) → (∀ k, i ≤ k → D k = d0 k) → (∀ k, k < i → (D k).toInt = ((a / 2 ^ t / BB ^ k % BB : Nat) : Int)) → E_Big_halve_13 D n0 x1 x2 y Q := by
    intro s
    induction s with
    | zero =>
      intro i D y hi hy hD hok
      refine R_Big_halve_13 ⟨fun _ => R_Big_halve_69 (S_Big_trim (v := a / 2 ^ t) hn0 (BU_of hm0 (fun k hk => hok k (by omega)) ?_) (fun n' h' => hq _ _ h')), fun e => absurd (by rw [i_le]; omega) e⟩
      have := Nat.div_le_self a (2 ^ t)
      omega
    | succ s ih =>
      intro i D y hi hy hD hok
      have hyw : (y + x1).toInt = ((i + W : Nat) : Int) := by rw [i_add hy h1 (by omega) (by omega)]; omega
      have hyw1 : (y + x1 + 1).toInt = ((i + W + 1 : Nat) : Int) := by rw [i_add hyw z_1 (by omega) (by omega)]; omega
      refine R_Big_halve_13 ⟨fun e => absurd e (by rw [i_le]; omega), fun _ => S_Big_digitR hn0 hm0 hyw1 fun r3 f3 g3 => S_Big_digitR hn0 hm0 hyw fun r4 f4 g4 => ?_⟩
      have q3 := h0.rd hn0 (r := r3) (i := i + W + 1) (fun z => by rw [f3 z, hD _ (by omega)]) g3
      have q4 := h0.rd hn0 (r := r4) (i := i + W) (fun z => by rw [f4 z, hD _ (by omega)]) g4
      have b3 : a / BB ^ (i + W + 1) % BB < 1073741824 := Nat.mod_lt _ (by decide)
      have b4 : a / BB ^ (i + W) % BB < 1073741824 := Nat.mod_lt _ (by decide)
      have td := two_digits a i W p hp
      rw [hsplit] at td
      intro x5 e5
      have h5 : x5.toInt = (((a / BB ^ (i + W + 1) % BB) * BB + a / BB ^ (i + W) % BB : Nat) : Int) := by
        have hs := j_shl (k := 30) (i_wide q3) z30' (by omega) (by omega) (by omega)
        rw [e5, j_add hs (i_wide q4) (by omega) (by omega)]
        show _ = (((a / BB ^ (i + W + 1) % BB) * 1073741824 + a / BB ^ (i + W) % BB : Nat) : Int)
        omega
      refine ⟨i_in hy (by omega), fun x6 e6 => ?_⟩
      rw [i_nat hy]
      refine ih (i + 1) _ x6 (by omega) (by rw [e6]; exact i_add hy z_1 (by omega) (by omega)) (fun k hk => by rw [up_ne (by omega)]; exact hD k (by omega)) (fun k hk => ?_)
      by_cases e : k = i
      · rw [e, up_same, ji_mask, j_shr h2 (by omega), h5, ← td]
        generalize (a / BB ^ (i + W + 1) % BB) * BB + a / BB ^ (i + W) % BB = X
        rw [cmod, cdiv, cpow]
        rfl
      · rw [up_ne e]; exact hok k (by omega)
  exact loop m0 0 d0 0 (by omega) z_0 (fun _ _ => rfl) (fun k hk => by omega)
/-- trailing zeros, as the JDK counts them -/
def ntA (x n : Int32) : Int32 := n + (x.toUInt32 >>> ((1 : Int32).toUInt32 &&& Int32.toUInt32 31)).toInt32
def ntB (x n : Int32) : Int32 := if x ≤ 4 then ntA x n else ntA (x.toUInt32 >>> ((2 : Int32).toUInt32 &&& Int32.toUInt32 31)).toInt32 (n + 2)
def ntC (x n : Int32) : Int32 := if x ≤ 16 then ntB x n else ntB (x.toUInt32 >>> ((4 : Int32).toUInt32 &&& Int32.toUInt32 31)).toInt32 (n + 4)
def ntD (x n : Int32) : Int32 := if x ≤ 256 then ntC x n else ntC (x.toUInt32 >>> ((8 : Int32).toUInt32 &&& Int32.toUInt32 31)).toInt32 (n + 8)
def ntE (x : Int32) : Int32 := if x ≤ 65536 then ntD x 1 else ntD (x.toUInt32 >>> ((16 : Int32).toUInt32 &&& Int32.toUInt32 31)).toInt32 (1 + 16)
def ntF (v : Int32) : Int32 := if 0 < ((v ^^^ (-1)) &&& (v - 1)) then ntE ((v ^^^ (-1)) &&& (v - 1)) else ((v ^^^ (-1)) &&& (v - 1)) &&& 32
theorem S_ntz {v : Int32} {Q : Int32 → Prop} (hq : Q (ntF v)) : P_Ji_numberOfTrailingZeros v Q := by
  have hA : ∀ x n, Q (ntA x n) → E_Ji_numberOfTrailingZeros_74 x n Q := fun x n h => R_Ji_numberOfTrailingZeros_74 h
  have hB : ∀ x n, Q (ntB x n) → E_Ji_numberOfTrailingZeros_62 x n Q := fun x n h => R_Ji_numberOfTrailingZeros_62 ⟨fun c => hA _ _ (by unfold ntB at h; rw [if_pos c] at h; exact h), fun c x8 e8 x9 e9 => hA _ _ (by unfold ntB at h; rw [if_neg c] at h; rw [e8, e9]; exact h)⟩
  have hC : ∀ x n, Q (ntC x n) → E_Ji_numberOfTrailingZeros_49 x n Q := fun x n h => R_Ji_numberOfTrailingZeros_49 ⟨fun c => hB _ _ (by unfold ntC at h; rw [if_pos c] at h; exact h), fun c x8 e8 x9 e9 => hB _ _ (by unfold ntC at h; rw [if_neg c] at h; rw [e8, e9]; exact h)⟩
  have hD : ∀ x n, Q (ntD x n) → E_Ji_numberOfTrailingZeros_34 x n Q := fun x n h => R_Ji_numberOfTrailingZeros_34 ⟨fun c => hC _ _ (by unfold ntD at h; rw [if_pos c] at h; exact h), fun c x8 e8 x9 e9 => hC _ _ (by unfold ntD at h; rw [if_neg c] at h; rw [e8, e9]; exact h)⟩
  have hE : ∀ x, Q (ntE x) → E_Ji_numberOfTrailingZeros_17 x Q := fun x h => R_Ji_numberOfTrailingZeros_17 ⟨fun c => hD _ _ (by unfold ntE at h; rw [if_pos c] at h; exact h), fun c x8 e8 x9 e9 => hD _ _ (by unfold ntE at h; rw [if_neg c] at h; rw [e8, e9]; exact h)⟩
  refine T_Ji_numberOfTrailingZeros (R_Ji_numberOfTrailingZeros_0 fun x1 e1 => ⟨fun c => hE _ ?_, fun c => ?_⟩)
  · unfold ntF at hq
    rw [← e1, if_pos c] at hq
    exact hq
  · unfold ntF at hq
    rw [← e1, if_neg c] at hq
    exact hq
theorem nt_pow : ∀ t, t < 31 → (if 0 < nI (2 ^ t - 1) then ntE (nI (2 ^ t - 1)) else nI (2 ^ t - 1) &&& 32) = nI t := by decide +kernel
/-- t is how often v can be halved -/
def Tz (v t : Nat) : Prop := ∃ k, v = 2 ^ t * (2 * k + 1)
theorem nt_low {t k : Nat} (h : 2 ^ t * (2 * k + 1) < 1073741824) : ((nI (2 ^ t * (2 * k + 1)) ^^^ (-1)) &&& (nI (2 ^ t * (2 * k + 1)) - 1)) = nI (2 ^ t - 1) := by
  have hpos := Nat.two_pow_pos t
  have ht : t < 30 := by
    rcases Nat.lt_or_ge t 30 with z | z
    · exact z
    · have : 2 ^ 30 ≤ 2 ^ t := Nat.pow_le_pow_right (by decide) z
      have : 2 ^ t * 1 ≤ 2 ^ t * (2 * k + 1) := Nat.mul_le_mul_left _ (by omega)
      omega
  apply Int32.toBitVec_inj.mp
  apply BitVec.eq_of_getLsbD_eq
  intro i hi
  rw [Int32.toBitVec_and, BitVec.getLsbD_and, Int32.toBitVec_xor, BitVec.getLsbD_xor]
  have e1 : (nI (2 ^ t * (2 * k + 1)) - 1) = nI (2 ^ t * (2 * k + 1) - 1) := by
    have : nI (2 ^ t * (2 * k + 1)) = nI (2 ^ t * (2 * k + 1) - 1 + 1) := by
      congr 1
      have : 2 ^ t * 1 ≤ 2 ^ t * (2 * k + 1) := Nat.mul_le_mul_left _ (by omega)
      omega
    rw [this, nI_pred]
  have hm1 : (-1 : Int32).toBitVec.getLsbD i = true := by
    have : ∀ i, i < 32 → (-1 : Int32).toBitVec.getLsbD i = true := by decide +kernel
    exact this i hi
  have hbit : ∀ n : Nat, (nI n).toBitVec.getLsbD i = n.testBit i := by
    intro n
    show (BitVec.ofNat 32 n).getLsbD i = _
    rw [BitVec.getLsbD_ofNat]
    simp [hi]
  rw [e1, hm1, hbit, hbit, hbit]
  have e2 : 2 ^ t * (2 * k + 1) - 1 = 2 ^ (t + 1) * k + (2 ^ t - 1) := by
    rw [Nat.pow_succ, Nat.mul_add, Nat.mul_one, Nat.mul_assoc]
    omega
  have e3 : 2 ^ t * (2 * k + 1) = 2 ^ (t + 1) * k + 2 ^ t := by
    rw [Nat.pow_succ, Nat.mul_add, Nat.mul_one, Nat.mul_assoc]
  have p1 : 2 ^ t < 2 ^ (t + 1) := Nat.pow_lt_pow_right (by decide) (by omega)
  rw [e2, e3, Nat.testBit_two_pow_mul_add _ (show 2 ^ t - 1 < 2 ^ (t + 1) by omega), Nat.testBit_two_pow_mul_add _ p1, Nat.testBit_two_pow_sub_one, Nat.testBit_two_pow]
  by_cases c : i < t + 1
  · rw [if_pos c, if_pos c]
    by_cases c2 : t = i
    · subst c2
      simp
    · simp [c2]
  · rw [if_neg c, if_neg c]
    have : ¬ i < t := by omega
    simp [this]
theorem S_ntz' {x : Int32} {v t : Nat} {Q : Int32 → Prop} (hx : x.toInt = (v : Int)) (hv : v < 1073741824) (ht : Tz v t) (hq : ∀ r : Int32, r.toInt = (t : Int) → Q r) : P_Ji_numberOfTrailingZeros x Q := by
  obtain ⟨k, rfl⟩ := ht
  have hpos := Nat.two_pow_pos t
  have h31 : t < 31 := by
    rcases Nat.lt_or_ge t 31 with z | z
    · exact z
    · have : 2 ^ 31 ≤ 2 ^ t := Nat.pow_le_pow_right (by decide) z
      have : 2 ^ t * 1 ≤ 2 ^ t * (2 * k + 1) := Nat.mul_le_mul_left _ (by omega)
      omega
  have hx' : x = nI (2 ^ t * (2 * k + 1)) := Int32.toInt_inj.mp (by rw [hx, nI_toInt (by omega)])
  refine S_ntz (hq _ ?_)
  unfold ntF
  rw [hx', nt_low hv, nt_pow t h31, nI_toInt (by omega)]
