/-! whole numbers of the class, on -/
theorem carry_step (x P : Nat) : x % BB * P + x / BB * (P * BB) = x * P := by
  have h := Nat.mod_add_div x BB
  calc x % BB * P + x / BB * (P * BB) = (x % BB + BB * (x / BB)) * P := by
        rw [Nat.add_mul]
        congr 1
        simp only [Nat.mul_comm, Nat.mul_left_comm]
    _ = x * P := by rw [h]
theorem dval_mod (a : Nat) : ∀ i, dval (fun k => a / BB ^ k % BB) i = a % BB ^ i
  | 0 => by simp [dval, Nat.mod_one]
  | i + 1 => by
    simp only [dval]
    rw [dval_mod a i, Nat.mod_pow_succ, Nat.mul_comm]
theorem Dg.mod {f : Nat → Nat} {m v i : Nat} (h : Dg f m v) (hi : i ≤ m) : dval f i = v % BB ^ i := by
  rw [← dval_mod]
  exact dval_congr (fun k hk => h.dig (by omega))
/-- digits that are those of v -/
theorem dval_of {f : Nat → Nat} {m v : Nat} (h : ∀ k, k < m → f k = v / BB ^ k % BB) (hv : v < BB ^ m) : dval f m = v := by
  rw [dval_congr h, dval_mod, Nat.mod_eq_of_lt hv]
theorem BU_of {d : Nat → Int32} {m v : Nat} (hm : m ≤ 16) (h : ∀ k, k < m → (d k).toInt = ((v / BB ^ k % BB : Nat) : Int)) (hv : v < BB ^ m) : BU d m v := by
  refine ⟨hm, fun k hk => dok.of (h k hk) (Nat.mod_lt _ (by decide)), dval_of (fun k hk => ?_) hv⟩
  unfold dn
  rw [h k hk]
  rfl
theorem S_Big_digitR {d : Nat → Int32} {n x : Int32} {m i : Nat} {Q : Int32 → Prop} (hn : n.toInt = (m : Int)) (hm : m ≤ 16) (hx : x.toInt = (i : Int)) (hq : ∀ r : Int32, (i < m → r = d i) → (m ≤ i → r = 0) → Q r) : P_Big_digit d n x Q := by
  refine T_Big_digit (R_Big_digit_0 ⟨fun c => absurd c (by rw [i_lt, z_0]; omega), fun _ => ⟨fun c => R_Big_digit_21 (R_Big_digit_22 (hq _ ?_ (fun _ => rfl))), fun c => ⟨i_in hx ?_, R_Big_digit_22 (hq _ ?_ ?_)⟩⟩⟩)
  · rw [i_le, hn, hx] at c
    intro h; omega
  · rw [i_le, hn, hx] at c
    omega
  · intro _
    rw [i_nat hx]
  · rw [i_le, hn, hx] at c
    intro h; omega
/-- push: the cases -/
theorem S_Big_pushU {d : Nat → Int32} {n : Int32} {m v c : Nat} {x : Int64} {Q : (Nat → Int32) → Int32 → Prop} (hn : n.toInt = (m : Int)) (h : BU d m v) (hx : x.toInt = (c : Int)) (hc : c < BB) (hroom : c = 0 ∨ m < 16) (hq : ∀ d' n' (m' : Nat), n'.toInt = (m' : Int) → BU d' m' (v + c * BB ^ m) → (c = 0 ∧ m' = m ∧ d' = d) ∨ (0 < c ∧ m' = m + 1 ∧ dn d' m ≠ 0) → Q d' n') : P_Big_push d n x Q := by
  have hc' : c < 1073741824 := hc
  refine T_Big_push (R_Big_push_0 ⟨fun e => R_Big_push_39 (hq _ _ m hn ?_ ?_), fun e => ⟨fun e2 => ?_, fun e2 => ⟨i_in hn ?_, fun x1 e1 => R_Big_push_39 (hq _ _ (m + 1) ?_ ?_ ?_)⟩⟩⟩)
  · rw [lg_le0, hx, zL0] at e
    have hc0 : c = 0 := by omega
    rw [hc0, Nat.zero_mul, Nat.add_zero]
    exact h
  · rw [lg_le0, hx, zL0] at e
    exact Or.inl ⟨by omega, rfl, rfl⟩
  · rw [lg_le0, hx, zL0] at e
    rw [i_le, hn, z_16] at e2
    omega
  · rw [i_le, hn, z_16] at e2
    omega
  · rw [i_le, hn, z_16] at e2
    rw [e1]
    exact i_add hn z_1 (by omega) (by omega)
  · rw [i_le, hn, z_16] at e2
    have hv : (x.toInt32 &&& 1073741823).toInt = (c : Int) := by rw [ji_mask, hx]; omega
    rw [i_nat hn]
    refine ⟨by omega, fun k hk => ?_, ?_⟩
    · by_cases e3 : k = m
      · rw [e3, up_same]; exact dok.of hv hc
      · rw [up_ne (by omega)]; exact h.2.1 k (by omega)
    · simp only [dval]
      rw [dn_up_same d m hv, dval_congr (g := dn d) (fun k hk => dn_up_ne (by omega)), h.2.2]
  · rw [lg_le0, hx, zL0] at e
    have hv : (x.toInt32 &&& 1073741823).toInt = (c : Int) := by rw [ji_mask, hx]; omega
    refine Or.inr ⟨by omega, rfl, ?_⟩
    rw [i_nat hn, dn_up_same d m hv]
    omega
def cmpN (a b : Nat) : Int := if a < b then -1 else if a = b then 0 else 1
theorem S_Big_against {d0 d1 : Nat → Int32} {n0 n1 : Int32} {a b : Nat} {Q : Int32 → Prop} (h0 : BR d0 n0 a) (h1 : BR d1 n1 b) (hq : ∀ r : Int32, r.toInt = cmpN a b → Q r) : P_Big_against d0 n0 d1 n1 Q := by
  have loop : ∀ (j : Nat) (x : Int32), j ≤ 16 → x.toInt = (j : Int) - 1 → a / BB ^ j = b / BB ^ j → E_Big_against_14 d0 n0 d1 n1 x Q := by
    intro j
    induction j with
    | zero =>
      intro x _ hx he
      refine R_Big_against_14 ⟨fun _ => R_Big_against_56 (hq _ ?_), fun c => absurd (by rw [i_lt, z_0]; omega) c⟩
      rw [Nat.pow_zero, Nat.div_one, Nat.div_one] at he
      unfold cmpN
      rw [if_neg (by omega), if_pos he]
      rfl
    | succ j ih =>
      intro x hj hx he
      have hx' : x.toInt = (j : Int) := by omega
      have ea : a / BB ^ (j + 1) = a / BB ^ j / BB := by rw [Nat.pow_succ, Nat.div_div_eq_div_mul]
      have eb : b / BB ^ (j + 1) = b / BB ^ j / BB := by rw [Nat.pow_succ, Nat.div_div_eq_div_mul]
      rw [ea, eb] at he
      refine R_Big_against_14 ⟨fun c => absurd c (by rw [i_lt, z_0]; omega), fun _ => S_Big_digit h0 hx' fun r3 e3 => S_Big_digit h1 hx' fun r4 e4 => ⟨fun c => R_Big_against_50 fun x7 e7 => ih x7 (by omega) ?_ ?_, fun c => S_Big_digit h0 hx' fun r5 e5 => S_Big_digit h1 hx' fun r6 e6 => R_Big_against_41 ⟨fun c2 => R_Big_against_48 (R_Big_against_49 (hq _ ?_)), fun c2 => R_Big_against_49 (hq _ ?_)⟩⟩⟩
      · rw [e7]; exact i_add hx' z_m1 (by omega) (by omega)
      · rw [i_eq, e3, e4] at c
        have hh : a / BB ^ j % 1073741824 = b / BB ^ j % 1073741824 := by exact_mod_cast c
        have he' : a / BB ^ j / 1073741824 = b / BB ^ j / 1073741824 := he
        omega
      · rw [i_eq, e3, e4] at c
        rw [i_le, e5, e6] at c2
        have c' : ¬ (a / BB ^ j % 1073741824 = b / BB ^ j % 1073741824) := fun z => c (by exact_mod_cast z)
        have c2' : b / BB ^ j % 1073741824 ≤ a / BB ^ j % 1073741824 := by exact_mod_cast c2
        have he' : a / BB ^ j / 1073741824 = b / BB ^ j / 1073741824 := he
        have hlt : b / BB ^ j < a / BB ^ j := by omega
        have : b < a := Nat.lt_of_not_le fun z => absurd (Nat.div_le_div_right (c := BB ^ j) z) (by omega)
        unfold cmpN
        rw [if_neg (by omega), if_neg (by omega)]
        rfl
      · rw [i_le, e5, e6] at c2
        have c2' : ¬ (b / BB ^ j % 1073741824 ≤ a / BB ^ j % 1073741824) := fun z => c2 (by exact_mod_cast z)
        have he' : a / BB ^ j / 1073741824 = b / BB ^ j / 1073741824 := he
        have hlt : a / BB ^ j < b / BB ^ j := by omega
        have : a < b := Nat.lt_of_not_le fun z => absurd (Nat.div_le_div_right (c := BB ^ j) z) (by omega)
        unfold cmpN
        rw [if_pos this]
        rfl
  obtain ⟨m0, hn0, hu0, ht0⟩ := id h0
  obtain ⟨m1, hn1, hu1, ht1⟩ := id h1
  have hm0 := hu0.1
  have hm1 := hu1.1
  have key : ∀ M : Nat, m0 ≤ M → m1 ≤ M → a / BB ^ M = b / BB ^ M := fun M g0 g1 => by
    have l0 := hu0.lt
    have l1 := hu1.lt
    have p0 : BB ^ m0 ≤ BB ^ M := Nat.pow_le_pow_right (by decide) g0
    have p1 : BB ^ m1 ≤ BB ^ M := Nat.pow_le_pow_right (by decide) g1
    rw [Nat.div_eq_of_lt (by omega), Nat.div_eq_of_lt (by omega)]
  refine T_Big_against (R_Big_against_0 fun x1 e1 x2 e2 => ?_)
  split at e1
  · rename_i c
    rw [i_lt, hn0, hn1] at c
    exact loop m1 x2 hm1 (by rw [e2, e1]; exact i_sub hn1 z_1 (by omega) (by omega)) (key m1 (by omega) (Nat.le_refl _))
  · rename_i c
    rw [i_lt, hn0, hn1] at c
    exact loop m0 x2 hm0 (by rw [e2, e1]; exact i_sub hn0 z_1 (by omega) (by omega)) (key m0 (Nat.le_refl _) (by omega))
/-- the digit of a number as it stands in its row, or 0 behind it -/
theorem BR.rd {d : Nat → Int32} {n r : Int32} {v m i : Nat} (h : BR d n v) (hn : n.toInt = (m : Int)) (h1 : i < m → r = d i) (h2 : m ≤ i → r = 0) : r.toInt = ((v / BB ^ i % BB : Nat) : Int) := by
  obtain ⟨hu, hd⟩ := h.dg hn
  by_cases c : i < m
  · rw [h1 c, (hu.2.1 i c).to.1, hd.dig c]
  · have h3 := hd.high
    have h4 : BB ^ m ≤ BB ^ i := Nat.pow_le_pow_right (by decide) (by omega)
    rw [h2 (by omega), Nat.div_eq_of_lt (by omega), z_0]
    rfl
theorem S_Big_add {d0 d1 : Nat → Int32} {n0 n1 : Int32} {a b : Nat} {Q : (Nat → Int32) → Int32 → Prop} (h0 : BR d0 n0 a) (h1 : BR d1 n1 b) (hr : a + b < BB ^ 16) (hq : ∀ d' n', BR d' n' (a + b) → Q d' n') : P_Big_add d0 n0 d1 n1 Q := by
  obtain ⟨m0, hn0, hu0, ht0⟩ := id h0
  obtain ⟨m1, hn1, hu1, ht1⟩ := id h1
  have hm0 := hu0.1
  have hm1 := hu1.1
  have key : ∀ (M : Nat) (x : Int32), m0 ≤ M → m1 ≤ M → M ≤ 16 → (M = m0 ∨ M = m1) → x.toInt = (M : Int) → E_Big_add_17 d0 n0 d1 n1 x 0 0 Q := by
    intro M xM g0 g1 hM hMe hxM
    have l0 := hu0.lt
    have l1 := hu1.lt
    have p0 : BB ^ m0 ≤ BB ^ M := Nat.pow_le_pow_right (by decide) g0
    have p1 : BB ^ m1 ≤ BB ^ M := Nat.pow_le_pow_right (by decide) g1
    have loop : ∀ (t i : Nat) (D : Nat → Int32) (c : Int64) (x : Int32) (cn : Nat), i + t = M → x.toInt = (i : Int) → c.toInt = (cn : Int) → cn ≤ 1 → (∀ k, i ≤ k → D k = d0 k) → (∀ k, k < i → dok (D k)) → dval (dn D) i + cn * BB ^ i = a % BB ^ i + b % BB ^ i → E_Big_add_17 D n0 d1 n1 xM c x Q := by
      intro t
      induction t with
      | zero =>
        intro i D c x cn hi hx hc hc1 hD hok hv
        have hiM : i = M := by omega
        subst hiM
        refine R_Big_add_17 ⟨fun _ => R_Big_add_64 ?_, fun e => absurd (by rw [i_le]; omega) e⟩
        rw [Nat.mod_eq_of_lt (show a < BB ^ i by omega), Nat.mod_eq_of_lt (show b < BB ^ i by omega)] at hv
        have hbu : BU D i (dval (dn D) i) := ⟨hM, hok, rfl⟩
        have hroom : cn = 0 ∨ i < 16 := by
          by_cases e : i = 16
          · left
            subst e
            rcases (show cn = 0 ∨ cn = 1 by omega) with z | z
            · exact z
            · rw [z, Nat.one_mul] at hv
              omega
          · right; omega
        refine S_Big_pushU hxM hbu hc (show cn < 1073741824 by omega) hroom (fun d' n' m' e1 e2 e3 => hq d' n' ?_)
        rw [hv] at e2
        refine ⟨m', e1, e2, ?_⟩
        rcases e3 with ⟨q1, q2, q3⟩ | ⟨q1, q2, q3⟩
        · -- no carry: the sum is as long as the longer one
          by_cases hz : m' = 0
          · exact Or.inl hz
          · right
            intro hzero
            have hlow : BB ^ (m' - 1) ≤ a + b := by
              rcases hMe with e | e
              · have := (h0.dg hn0).2.low (by omega)
                rw [← e, ← q2] at this
                omega
              · have := (h1.dg hn1).2.low (by omega)
                rw [← e, ← q2] at this
                omega
            have hval := e2.2.2
            have hs : dval (dn d') m' = dval (dn d') (m' - 1) := dval_ext (by omega) (fun k k1 k2 => by rw [show k = m' - 1 by omega]; exact hzero)
            have := dval_lt (f := dn d') (m := m' - 1) (fun k hk => e2.dg k (by omega))
            omega
        · right
          rw [q2, Nat.add_sub_cancel]
          exact q3
      | succ t ih =>
        intro i D c x cn hi hx hc hc1 hD hok hv
        refine R_Big_add_17 ⟨fun e => absurd e (by rw [i_le]; omega), fun _ => S_Big_digitR hn0 hm0 hx fun r2 f2 g2 => S_Big_digitR hn1 hm1 hx fun r3 f3 g3 => ?_⟩
        have q2 := h0.rd hn0 (r := r2) (i := i) (fun z => by rw [f2 z, hD i (Nat.le_refl i)]) g2
        have q3 := h1.rd hn1 (r := r3) (i := i) f3 g3
        have b2 : a / BB ^ i % BB < 1073741824 := Nat.mod_lt _ (by decide)
        have b3 : b / BB ^ i % BB < 1073741824 := Nat.mod_lt _ (by decide)
        generalize ea : a / BB ^ i % BB = A at q2 b2
        generalize eb : b / BB ^ i % BB = B at q3 b3
        intro x4 e4
        have h4 : x4.toInt = ((cn + A + B : Nat) : Int) := by
          rw [e4, j_add hc (j_add (i_wide q2) (i_wide q3) (by omega) (by omega)) (by omega) (by omega)]
          omega
        have hdig : (x4.toInt32 &&& 1073741823).toInt = (((cn + A + B) % BB : Nat) : Int) := by rw [ji_mask, h4]; rfl
        refine ⟨i_in hx (by omega), fun x5 e5 x6 e6 => ?_⟩
        rw [i_nat hx]
        refine ih (i + 1) _ x5 x6 ((cn + A + B) / BB) (by omega) (by rw [e6]; exact i_add hx z_1 (by omega) (by omega)) (by rw [e5, j_shr30, h4]; rfl) ?_ (fun k hk => by rw [up_ne (by omega)]; exact hD k (by omega)) (fun k hk => ?_) ?_
        · show (cn + A + B) / 1073741824 ≤ 1
          omega
        · by_cases e : k = i
          · rw [e, up_same]; exact dok.of hdig (Nat.mod_lt _ (by decide))
          · rw [up_ne e]; exact hok k (by omega)
        · simp only [dval]
          rw [dn_up_same D i hdig, dval_congr (g := dn D) (fun k hk => dn_up_ne (by omega)), Nat.mod_pow_succ, Nat.mod_pow_succ, ea, eb, BB_succ]
          have cs := carry_step (cn + A + B) (BB ^ i)
          rw [Nat.add_mul, Nat.add_mul] at cs
          rw [Nat.mul_comm (BB ^ i) A, Nat.mul_comm (BB ^ i) B]
          omega
    exact loop M 0 d0 0 0 0 (by omega) z_0 zL0 (by omega) (fun _ _ => rfl) (fun k hk => by omega) (by simp [dval, Nat.mod_one])
  refine T_Big_add (R_Big_add_0 fun x1 e1 => ?_)
  split at e1
  · rename_i c
    rw [i_lt, hn0, hn1] at c
    exact key m1 x1 (by omega) (Nat.le_refl _) hm1 (Or.inr rfl) (by rw [e1]; exact hn1)
  · rename_i c
    rw [i_lt, hn0, hn1] at c
    exact key m0 x1 (Nat.le_refl _) (by omega) hm0 (Or.inl rfl) (by rw [e1]; exact hn0)
