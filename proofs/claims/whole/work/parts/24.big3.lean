/-! whole numbers of the class: take, multiply, shorten, copy, become -/
theorem cmod (a m : Nat) : ((a % m : Nat) : Int) = (a : Int) % (m : Int) := by norm_cast
theorem S_Big_take {d0 d1 : Nat → Int32} {n0 n1 : Int32} {a b : Nat} {Q : (Nat → Int32) → Int32 → Prop} (h0 : BR d0 n0 a) (h1 : BR d1 n1 b) (hr : b ≤ a) (hq : ∀ d' n', BR d' n' (a - b) → Q d' n') : P_Big_take d0 n0 d1 n1 Q := by
  obtain ⟨m0, hn0, hu0, ht0⟩ := id h0
  obtain ⟨m1, hn1, hu1, ht1⟩ := id h1
  have hm0 := hu0.1
  have hm1 := hu1.1
  have l0 := hu0.lt
  have loop : ∀ (t i : Nat) (D : Nat → Int32) (c : Int64) (x : Int32) (cn : Int), i + t = m0 → x.toInt = (i : Int) → c.toInt = cn → -1 ≤ cn → cn ≤ 0 → (∀ k, i ≤ k → D k = d0 k) → (∀ k, k < i → dok (D k)) → ((dval (dn D) i : Nat) : Int) + cn * ((BB ^ i : Nat) : Int) = ((a % BB ^ i : Nat) : Int) - ((b % BB ^ i : Nat) : Int) → E_Big_take_5 D n0 d1 n1 c x Q := by
    intro t
    induction t with
    | zero =>
      intro i D c x cn hi hx hc hc1 hc2 hD hok hv
      have hiM : i = m0 := by omega
      subst hiM
      refine R_Big_take_5 ⟨fun _ => R_Big_take_56 ?_, fun e => absurd (by rw [i_le]; omega) e⟩
      rw [Nat.mod_eq_of_lt l0, Nat.mod_eq_of_lt (show b < BB ^ i by omega)] at hv
      have hlt := dval_lt (f := dn D) (m := i) (fun k hk => (hok k hk).to.2)
      have hc0 : cn = 0 := by
        rcases (show cn = 0 ∨ cn = -1 by omega) with z | z
        · exact z
        · rw [z] at hv
          omega
      rw [hc0] at hv
      refine S_Big_trim (v := a - b) hn0 ⟨hm0, hok, by omega⟩ (fun n' h' => hq _ _ h')
    | succ t ih =>
      intro i D c x cn hi hx hc hc1 hc2 hD hok hv
      refine R_Big_take_5 ⟨fun e => absurd e (by rw [i_le]; omega), fun _ => ⟨i_in hx (by omega), S_Big_digitR hn1 hm1 hx fun r1 f1 g1 => ?_⟩⟩
      have q1 := h1.rd hn1 (r := r1) (i := i) f1 g1
      have q0 := h0.rd hn0 (r := D i) (i := i) (fun _ => hD i (Nat.le_refl i)) (fun z => by omega)
      have b2 : a / BB ^ i % BB < 1073741824 := Nat.mod_lt _ (by decide)
      have b3 : b / BB ^ i % BB < 1073741824 := Nat.mod_lt _ (by decide)
      generalize ea : a / BB ^ i % BB = A at q0 b2
      generalize eb : b / BB ^ i % BB = B at q1 b3
      intro x2 e2
      rw [i_nat hx] at e2
      have h2 : x2.toInt = cn + ((A : Int) - (B : Int)) := by
        rw [e2, j_add hc (j_sub (i_wide q0) (i_wide q1) (by omega) (by omega)) (by omega) (by omega)]
      have hdig : (x2.toInt32 &&& 1073741823).toInt = (((cn + ((A : Int) - (B : Int))) % 1073741824).toNat : Int) := by rw [ji_mask, h2]; omega
      refine ⟨i_in hx (by omega), fun x3 e3 x4 e4 => ?_⟩
      rw [i_nat hx]
      refine ih (i + 1) _ x3 x4 ((cn + ((A : Int) - (B : Int))) / 1073741824) (by omega) (by rw [e4]; exact i_add hx z_1 (by omega) (by omega)) (by rw [e3, j_shr30, h2]) (by omega) (by omega) (fun k hk => by rw [up_ne (by omega)]; exact hD k (by omega)) (fun k hk => ?_) ?_
      · by_cases e : k = i
        · rw [e, up_same]; exact dok.of hdig (show _ < 1073741824 by omega)
        · rw [up_ne e]; exact hok k (by omega)
      · simp only [dval]
        rw [dn_up_same D i hdig, dval_congr (g := dn D) (fun k hk => dn_up_ne (by omega)), Nat.mod_pow_succ, Nat.mod_pow_succ, ea, eb, BB_succ]
        have hz : (((cn + ((A : Int) - (B : Int))) % 1073741824).toNat : Int) = (cn + ((A : Int) - (B : Int))) % 1073741824 := by omega
        have hs : (cn + ((A : Int) - (B : Int))) % 1073741824 + 1073741824 * ((cn + ((A : Int) - (B : Int))) / 1073741824) = cn + ((A : Int) - (B : Int)) := Int.emod_add_mul_ediv _ _
        generalize (cn + ((A : Int) - (B : Int))) / 1073741824 = dv at hs ⊢
        generalize (cn + ((A : Int) - (B : Int))) % 1073741824 = md at hs hz ⊢
        rw [Int.natCast_add, Int.natCast_mul, hz, Int.natCast_add, Int.natCast_mul, Int.natCast_add, Int.natCast_mul, Int.natCast_mul]
        have hmd : md = cn + ((A : Int) - (B : Int)) - 1073741824 * dv := by omega
        rw [hmd]
        generalize ((BB ^ i : Nat) : Int) = P at hv ⊢
        have e5 : (cn + ((A : Int) - (B : Int)) - 1073741824 * dv) * P = cn * P + (A : Int) * P - (B : Int) * P - 1073741824 * dv * P := by
          rw [Int.sub_mul, Int.add_mul, Int.sub_mul]
          omega
        have e6 : dv * (P * ((BB : Nat) : Int)) = 1073741824 * dv * P := by
          show dv * (P * 1073741824) = _
          rw [Int.mul_comm P, ← Int.mul_assoc, Int.mul_comm dv]
        rw [e5, e6, Int.mul_comm P (A : Int), Int.mul_comm P (B : Int)]
        omega
  exact T_Big_take (R_Big_take_0 (loop m0 0 d0 0 0 0 (by omega) z_0 zL0 (by omega) (by omega) (fun _ _ => rfl) (fun k hk => by omega) (by simp [dval, Nat.mod_one])))
theorem S_Big_multiply {d0 : Nat → Int32} {n0 x : Int32} {a v : Nat} {Q : (Nat → Int32) → Int32 → Prop} (h0 : BR d0 n0 a) (hx : x.toInt = (v : Int)) (hv : v ≤ BB) (hr : a * v < BB ^ 16) (hq : ∀ d' n', BR d' n' (a * v) → Q d' n') : P_Big_multiply d0 n0 x Q := by
  obtain ⟨m0, hn0, hu0, ht0⟩ := id h0
  have hm0 := hu0.1
  have l0 := hu0.lt
  have hvB : v ≤ 1073741824 := hv
  have loop : ∀ (t i : Nat) (D : Nat → Int32) (c : Int64) (y : Int32) (cn : Nat), i + t = m0 → y.toInt = (i : Int) → c.toInt = (cn : Int) → cn < BB → (∀ k, i ≤ k → D k = d0 k) → (∀ k, k < i → dok (D k)) → dval (dn D) i + cn * BB ^ i = a % BB ^ i * v → E_Big_multiply_5 D n0 x c y Q := by
    intro t
    induction t with
    | zero =>
      intro i D c y cn hi hy hc hc1 hD hok hv
      have hiM : i = m0 := by omega
      subst hiM
      refine R_Big_multiply_5 ⟨fun _ => R_Big_multiply_51 ?_, fun e => absurd (by rw [i_le]; omega) e⟩
      rw [Nat.mod_eq_of_lt l0] at hv
      have hbu : BU D i (dval (dn D) i) := ⟨hm0, hok, rfl⟩
      have hroom : cn = 0 ∨ i < 16 := by
        by_cases e : i = 16
        · left
          subst e
          by_cases z : cn = 0
          · exact z
          · have := Nat.le_mul_of_pos_left (BB ^ 16) (Nat.pos_of_ne_zero z)
            omega
        · right; omega
      refine S_Big_pushU hn0 hbu hc hc1 hroom (fun d' n' m' e1 e2 e3 => ?_)
      rw [hv] at e2
      exact S_Big_trim e1 e2 (fun n2 h2 => hq _ _ h2)
    | succ t ih =>
      intro i D c y cn hi hy hc hc1 hD hok hv
      have hc1' : cn < 1073741824 := hc1
      have q0 := h0.rd hn0 (r := D i) (i := i) (fun _ => hD i (Nat.le_refl i)) (fun z => by omega)
      have b2 : a / BB ^ i % BB < 1073741824 := Nat.mod_lt _ (by decide)
      refine R_Big_multiply_5 ⟨fun e => absurd e (by rw [i_le]; omega), fun _ => ⟨i_in hy (by omega), fun x1 e1 => ⟨i_in hy (by omega), fun x2 e2 x3 e3 => ?_⟩⟩⟩
      rw [i_nat hy] at e1 ⊢
      generalize ea : a / BB ^ i % BB = A at q0 b2
      have hAv : A * v ≤ 1073741823 * 1073741824 := Nat.mul_le_mul (by omega) hvB
      have h1 : x1.toInt = ((cn + A * v : Nat) : Int) := by
        have hm := j_mul (i_wide q0) (i_wide hx) (by rw [← Int.natCast_mul]; omega) (by rw [← Int.natCast_mul]; omega)
        rw [← Int.natCast_mul] at hm
        rw [e1, j_add hc hm (by omega) (by omega)]
        omega
      have hdig : (x1.toInt32 &&& 1073741823).toInt = (((cn + A * v) % BB : Nat) : Int) := by rw [ji_mask, h1]; rfl
      refine ih (i + 1) _ x2 x3 ((cn + A * v) / BB) (by omega) (by rw [e3]; exact i_add hy z_1 (by omega) (by omega)) (by rw [e2, j_shr30, h1]; rfl) ?_ (fun k hk => by rw [up_ne (by omega)]; exact hD k (by omega)) (fun k hk => ?_) ?_
      · show (cn + A * v) / 1073741824 < 1073741824
        omega
      · by_cases e : k = i
        · rw [e, up_same]; exact dok.of hdig (Nat.mod_lt _ (by decide))
        · rw [up_ne e]; exact hok k (by omega)
      · simp only [dval]
        rw [dn_up_same D i hdig, dval_congr (g := dn D) (fun k hk => dn_up_ne (by omega)), Nat.mod_pow_succ, ea, BB_succ]
        have cs := carry_step (cn + A * v) (BB ^ i)
        rw [Nat.add_mul] at cs
        rw [Nat.add_mul, show BB ^ i * A * v = A * v * BB ^ i by ac_rfl]
        omega
  exact T_Big_multiply (R_Big_multiply_0 (loop m0 0 d0 0 0 0 (by omega) z_0 zL0 (by decide) (fun _ _ => rfl) (fun k hk => by omega) (by simp [dval, Nat.mod_one])))
theorem S_Big_copy {d0 d1 : Nat → Int32} {n0 n1 : Int32} {b : Nat} {Q : (Nat → Int32) → Int32 → Prop} (h1 : BR d1 n1 b) (hq : ∀ d' n', BR d' n' b → Q d' n') : P_Big_copy d0 n0 d1 n1 Q := by
  refine T_Big_copy (R_Big_copy_0 ⟨⟨by decide, by decide, by decide, by decide, by decide⟩, hq _ _ ?_⟩)
  obtain ⟨m, hn, hu, ht⟩ := h1
  have hm := hu.1
  have e : ∀ k, k < 16 → va_cpy d1 d0 (0 : Int32).toNatClampNeg (0 : Int32).toNatClampNeg (16 : Int32).toNatClampNeg k = d1 k := by
    intro k hk
    unfold va_cpy
    rw [if_pos ⟨Nat.zero_le k, hk⟩]
    show d1 (0 + (k - 0)) = d1 k
    rw [Nat.zero_add, Nat.sub_zero]
  have e2 : ∀ k, k < 16 → dn (va_cpy d1 d0 (0 : Int32).toNatClampNeg (0 : Int32).toNatClampNeg (16 : Int32).toNatClampNeg) k = dn d1 k := fun k hk => by unfold dn; rw [e k hk]
  refine ⟨m, hn, ⟨hm, fun k hk => by rw [e k (by omega)]; exact hu.2.1 k hk, by rw [← hu.2.2]; exact dval_congr (fun k hk => e2 k (by omega))⟩, ?_⟩
  rcases ht with ht | ht
  · exact Or.inl ht
  · by_cases z : m = 0
    · exact Or.inl z
    · exact Or.inr (by rw [e2 _ (by omega)]; exact ht)
/-- a long as it is taken without its sign -/
def uJ (x : Int64) : Nat := x.toBitVec.toNat
theorem uJ_of {x : Int64} {v : Nat} (h : x.toInt = (v : Int)) : uJ x = v := by
  have h1 := j_bn x
  have h2 := x.toBitVec.isLt
  unfold uJ
  split at h1 <;> omega
theorem uJ_lt (x : Int64) : uJ x < 18446744073709551616 := x.toBitVec.isLt
theorem j_ushr {x : Int64} {s : Int32} {k : Nat} (hs : s.toInt = (k : Int)) (hk : k < 64) : uJ ((x.toUInt64 >>> (s.toInt64.toUInt64 &&& Int64.toUInt64 63)).toInt64) = uJ x / 2 ^ k := by
  have hs' : s = nI k := Int32.toInt_inj.mp (by rw [hs, nI_toInt (by omega)])
  subst hs'
  have hD : ∀ k, k < 64 → ((nI k).toInt64.toUInt64 &&& Int64.toUInt64 63).toNat % 64 = k := by decide +kernel
  show (x.toUInt64 >>> ((nI k).toInt64.toUInt64 &&& Int64.toUInt64 63)).toNat = _
  rw [UInt64.toNat_shiftRight, hD k hk, Nat.shiftRight_eq_div_pow]
  rfl
theorem uJ_mask (x : Int64) : (x.toInt32 &&& 1073741823).toInt = ((uJ x % BB : Nat) : Int) := by
  rw [ji_mask, j_bn x]
  show _ = ((x.toBitVec.toNat % 1073741824 : Nat) : Int)
  split <;> omega
theorem S_Big_become {d0 : Nat → Int32} {n0 : Int32} {x : Int64} {Q : (Nat → Int32) → Int32 → Prop} (hq : ∀ d' n', BR d' n' (uJ x) → Q d' n') : P_Big_become d0 n0 x Q := by
  have z3 : (3 : Int32).toInt = 3 := by decide
  have z30 : (30 : Int32).toInt = 30 := by decide
  have loop : ∀ (t i : Nat) (D : Nat → Int32) (y : Int32), i + t = 3 → y.toInt = (i : Int) → (∀ k, k < i → (D k).toInt = ((uJ x / BB ^ k % BB : Nat) : Int)) → E_Big_become_2 D n0 x y Q := by
    intro t
    induction t with
    | zero =>
      intro i D y hi hy hD
      have hi3 : i = 3 := by omega
      subst hi3
      have hlt := uJ_lt x
      refine R_Big_become_2 ⟨fun _ => R_Big_become_29 (S_Big_trim (m := 3) z3 (BU_of (by omega) hD ?_) (fun n' h' => hq _ _ h')), fun e => absurd (by rw [i_le, z3, hy]; omega) e⟩
      show uJ x < 1073741824 ^ 3
      omega
    | succ t ih =>
      intro i D y hi hy hD
      refine R_Big_become_2 ⟨fun e => absurd e (by rw [i_le, z3]; omega), fun _ => ⟨i_in hy (by omega), fun x1 e1 => ?_⟩⟩
      rw [i_nat hy]
      refine ih (i + 1) _ x1 (by omega) (by rw [e1]; exact i_add hy z_1 (by omega) (by omega)) (fun k hk => ?_)
      by_cases e : k = i
      · rw [e, up_same, uJ_mask, j_ushr (k := 30 * i) (by rw [i_mul z30 hy (by omega) (by omega)]; omega) (by omega), show BB ^ i = 2 ^ (30 * i) by rw [Nat.pow_mul]]
      · rw [up_ne e]; exact hD k (by omega)
  exact T_Big_become (R_Big_become_0 (loop 3 0 d0 0 (by omega) z_0 (fun k hk => by omega)))
theorem quo_step (N : Nat) {v : Nat} (hv : 0 < v) : (N / BB % v * BB + N % BB) % v = N % v ∧ (N / BB % v * BB + N % BB) / v = N / v % BB := by
  have h1 : v * (N / BB / v) + N / BB % v = N / BB := Nat.div_add_mod _ _
  have h2 : BB * (N / BB) + N % BB = N := Nat.div_add_mod _ _
  have hr : N / BB % v < v := Nat.mod_lt _ hv
  have hA : N % BB < BB := Nat.mod_lt _ (by decide)
  have h3 : N = (N / BB % v * BB + N % BB) + v * (N / BB / v * BB) := by
    have e1 : BB * (N / BB) = N / BB % v * BB + v * (N / BB / v * BB) := by
      calc BB * (N / BB) = BB * (v * (N / BB / v) + N / BB % v) := by rw [h1]
        _ = N / BB % v * BB + v * (N / BB / v * BB) := by rw [Nat.mul_add, Nat.add_comm, Nat.mul_comm BB]; congr 1; ac_rfl
    omega
  generalize N / BB % v = r at h3 hr ⊢
  generalize N / BB / v = q at h3
  generalize N % BB = A at h3 hA ⊢
  have hx : (r * BB + A) / v < BB := by
    rw [Nat.div_lt_iff_lt_mul hv]
    have : (r + 1) * BB ≤ v * BB := Nat.mul_le_mul_right _ hr
    rw [Nat.succ_mul] at this
    rw [Nat.mul_comm BB v]
    omega
  constructor
  · rw [h3, Nat.add_mul_mod_self_left]
  · rw [h3, Nat.add_mul_div_left _ _ hv, Nat.add_mul_mod_self_right, Nat.mod_eq_of_lt hx]
theorem S_Big_shorten {d0 : Nat → Int32} {n0 x : Int32} {a v : Nat} {Q : Int32 → (Nat → Int32) → Int32 → Prop} (h0 : BR d0 n0 a) (hx : x.toInt = (v : Int)) (hv : 0 < v) (hq : ∀ r d' n', r.toInt = ((a % v : Nat) : Int) → BR d' n' (a / v) → Q r d' n') : P_Big_shorten d0 n0 x Q := by
  obtain ⟨m0, hn0, hu0, ht0⟩ := id h0
  have hm0 := hu0.1
  have l0 := hu0.lt
  have hvh := i_hi x
  rw [hx] at hvh
  have z30 : (30 : Int32).toInt = ((30 : Nat) : Int) := by decide
  have hxw := i_wide hx
  have hne : ¬ x.toInt64 = 0 := by rw [j_eq, hxw, zL0]; omega
  have loop : ∀ (j : Nat) (D : Nat → Int32) (c : Int64) (y : Int32), j ≤ m0 → y.toInt = (j : Int) - 1 → c.toInt = ((a / BB ^ j % v : Nat) : Int) → (∀ k, k < j → D k = d0 k) → (∀ k, j ≤ k → k < m0 → (D k).toInt = ((a / v / BB ^ k % BB : Nat) : Int)) → E_Big_shorten_16 D n0 x c y Q := by
    intro j
    induction j with
    | zero =>
      intro D c y hj hy hc hD hok
      refine R_Big_shorten_16 ⟨fun _ => R_Big_shorten_58 (S_Big_trim (v := a / v) hn0 (BU_of hm0 (fun k hk => hok k (Nat.zero_le k) hk) ?_) (fun n' h' => hq _ _ _ ?_ h')), fun e => absurd (by rw [i_lt, z_0]; omega) e⟩
      · have := Nat.div_le_self a v
        omega
      · rw [Nat.pow_zero, Nat.div_one] at hc
        have := Nat.mod_lt a hv
        exact j_nar hc (by omega) (by omega)
    | succ j ih =>
      intro D c y hj hy hc hD hok
      have hy' : y.toInt = (j : Int) := by omega
      have q0 := h0.rd hn0 (r := D j) (i := j) (fun _ => hD j (by omega)) (fun z => by omega)
      have b2 : a / BB ^ j % BB < 1073741824 := Nat.mod_lt _ (by decide)
      have ea : a / BB ^ (j + 1) = a / BB ^ j / BB := by rw [Nat.pow_succ, Nat.div_div_eq_div_mul]
      have hrv : a / BB ^ (j + 1) % v < v := Nat.mod_lt _ hv
      refine R_Big_shorten_16 ⟨fun e => absurd e (by rw [i_lt, z_0]; omega), fun _ => ⟨i_in hy' (by omega), fun x2 e2 => ⟨hne, i_in hy' (by omega), hne, fun x3 e3 x4 e4 => ?_⟩⟩⟩
      rw [i_nat hy'] at e2 ⊢
      have key := quo_step (a / BB ^ j) hv
      rw [← ea] at key
      have hX : x2.toInt = ((a / BB ^ (j + 1) % v * BB + a / BB ^ j % BB : Nat) : Int) := by
        have hs := j_shl (k := 30) hc z30 (by omega) (by omega) (by omega)
        rw [e2, j_add hs (i_wide q0) (by omega) (by omega)]
        show _ = ((a / BB ^ (j + 1) % v * 1073741824 + a / BB ^ j % BB : Nat) : Int)
        omega
      generalize a / BB ^ (j + 1) % v * BB + a / BB ^ j % BB = X at key hX
      have hd : (x2 / x.toInt64).toInt = ((X / v : Nat) : Int) := j_div hX hxw (Or.inr (by omega))
      have hdB : X / v < 1073741824 := by rw [key.2]; exact Nat.mod_lt _ (by decide)
      have hdig : (x2 / x.toInt64).toInt32.toInt = ((X / v : Nat) : Int) := j_nar hd (by omega) (by omega)
      have hm : x3.toInt = ((X % v : Nat) : Int) := by rw [e3]; exact j_rem hX hxw (by omega)
      refine ih _ x3 x4 (by omega) (by rw [e4]; exact i_add hy' z_m1 (by omega) (by omega)) (by rw [hm, key.1]) (fun k hk => by rw [up_ne (by omega)]; exact hD k (by omega)) (fun k k1 k2 => ?_)
      by_cases e : k = j
      · rw [e, up_same, hdig, key.2, Nat.div_div_eq_div_mul a v, Nat.mul_comm v, ← Nat.div_div_eq_div_mul]
      · rw [up_ne e]; exact hok k (by omega) k2
  refine T_Big_shorten (R_Big_shorten_0 ⟨fun _ => R_Big_shorten_6 fun x1 e1 => loop m0 d0 0 x1 (Nat.le_refl _) (by rw [e1]; exact i_sub hn0 z_1 (by omega) (by omega)) ?_ (fun _ _ => rfl) (fun k k1 k2 => by omega), fun e => absurd (by rw [i_lt, z_0]; omega) e⟩)
  rw [Nat.div_eq_of_lt l0, Nat.zero_mod, zL0]
  rfl
