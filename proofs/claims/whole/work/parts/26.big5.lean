/-! whole numbers of the class: halvings, a bit, products -/
theorem tz_ex : ∀ n : Nat, 0 < n → ∃ t, Tz n t := by
  intro n
  induction n using Nat.strongRecOn with
  | _ n ih =>
    intro hn
    by_cases h : n % 2 = 1
    · exact ⟨0, n / 2, by rw [Nat.pow_zero, Nat.one_mul]; omega⟩
    · obtain ⟨t, k, hk⟩ := ih (n / 2) (by omega) (by omega)
      refine ⟨t + 1, k, ?_⟩
      rw [Nat.pow_succ, Nat.mul_comm (2 ^ t) 2, Nat.mul_assoc, ← hk]
      omega
theorem S_Big_halvings {d0 : Nat → Int32} {n0 : Int32} {a : Nat} {Q : Int32 → Prop} (h0 : BR d0 n0 a) (ha : 0 < a) (hq : ∀ (r : Int32) (t : Nat), r.toInt = (t : Int) → Tz a t → t < 480 → Q r) : P_Big_halvings d0 n0 Q := by
  obtain ⟨m0, hn0, hu0, ht0⟩ := id h0
  have hm0 := hu0.1
  have l0 := hu0.lt
  have z30 : (30 : Int32).toInt = 30 := by decide
  have loop : ∀ (s i : Nat) (y : Int32), i + s = m0 → y.toInt = (i : Int) → a = BB ^ i * (a / BB ^ i) → E_Big_halvings_2 d0 n0 y Q := by
    intro s
    induction s with
    | zero =>
      intro i y hi hy hz
      exfalso
      have : i = m0 := by omega
      subst this
      rw [Nat.div_eq_of_lt l0] at hz
      omega
    | succ s ih =>
      intro i y hi hy hz
      have q0 := h0.rd hn0 (r := d0 i) (i := i) (fun _ => rfl) (fun z => by omega)
      have b0 : a / BB ^ i % BB < 1073741824 := Nat.mod_lt _ (by decide)
      refine R_Big_halvings_2 ⟨fun e => absurd e (by rw [i_le]; omega), fun _ => ⟨i_in hy (by omega), fun c => R_Big_halvings_34 fun x2 e2 => ih (i + 1) x2 (by omega) (by rw [e2]; exact i_add hy z_1 (by omega) (by omega)) ?_, fun c => ⟨i_in hy (by omega), ?_⟩⟩⟩
      · rw [i_nat hy, i_eq, z_0, q0] at c
        have c' : a / BB ^ i % BB = 0 := by omega
        have e1 : a / BB ^ (i + 1) = a / BB ^ i / BB := by rw [Nat.pow_succ, Nat.div_div_eq_div_mul]
        have e2 : BB * (a / BB ^ i / BB) + a / BB ^ i % BB = a / BB ^ i := Nat.div_add_mod _ _
        rw [e1, Nat.pow_succ, Nat.mul_assoc]
        rw [c', Nat.add_zero] at e2
        rw [e2]
        exact hz
      · rw [i_nat hy]
        rw [i_nat hy, i_eq, z_0, q0] at c
        have hpos : 0 < a / BB ^ i % BB := by omega
        obtain ⟨t, ht⟩ := tz_ex _ hpos
        have ht30 : t < 30 := by
          rcases Nat.lt_or_ge t 30 with z | z
          · exact z
          · obtain ⟨k, hk⟩ := ht
            have : 2 ^ 30 ≤ 2 ^ t := Nat.pow_le_pow_right (by decide) z
            have : 2 ^ t * 1 ≤ 2 ^ t * (2 * k + 1) := Nat.mul_le_mul_left _ (by omega)
            omega
        refine S_ntz' q0 b0 ht (fun r hr => hq _ (30 * i + t) ?_ ?_ (by omega))
        · rw [i_add (i_mul z30 hy (by omega) (by omega)) hr (by omega) (by omega)]
          omega
        · obtain ⟨k, hk⟩ := ht
          have e2 : BB * (a / BB ^ i / BB) + a / BB ^ i % BB = a / BB ^ i := Nat.div_add_mod _ _
          refine ⟨k + 2 ^ (29 - t) * (a / BB ^ i / BB), ?_⟩
          rw [Nat.pow_add, show (2 ^ (30 * i) : Nat) = BB ^ i by rw [Nat.pow_mul], Nat.mul_assoc]
          refine hz.trans ?_
          congr 1
          generalize a / BB ^ i = N at e2 hk ⊢
          have e4 : N = BB * (N / BB) + 2 ^ t * (2 * k + 1) := by rw [← hk]; exact e2.symm
          generalize N / BB = Z at e4 ⊢
          have e3 : BB = 2 ^ t * (2 * 2 ^ (29 - t)) := by
            rw [← Nat.pow_succ', ← Nat.pow_add, show t + (29 - t + 1) = 30 by omega]
          calc N = BB * Z + 2 ^ t * (2 * k + 1) := e4
            _ = 2 ^ t * (2 * 2 ^ (29 - t)) * Z + 2 ^ t * (2 * k + 1) := by rw [← e3]
            _ = 2 ^ t * (2 * (k + 2 ^ (29 - t) * Z) + 1) := by
              rw [Nat.mul_assoc (2 ^ t), ← Nat.mul_add]
              congr 1
              rw [Nat.mul_add, Nat.mul_assoc]
              omega
  exact T_Big_halvings (R_Big_halvings_0 (loop m0 0 0 (by omega) z_0 (by rw [Nat.pow_zero, Nat.one_mul, Nat.div_one])))
theorem nI_or (a b : Nat) : nI a ||| nI b = nI (a ||| b) := by
  apply Int32.toBitVec_inj.mp
  rw [Int32.toBitVec_or]
  show BitVec.ofNat 32 a ||| BitVec.ofNat 32 b = BitVec.ofNat 32 (a ||| b)
  apply BitVec.eq_of_toNat_eq
  rw [BitVec.toNat_or, BitVec.toNat_ofNat, BitVec.toNat_ofNat, BitVec.toNat_ofNat, Nat.or_mod_two_pow]
/-- two numbers that share no bit: or is plus -/
theorem i_or {x y : Int32} {a b k : Nat} (hx : x.toInt = ((2 ^ k * a : Nat) : Int)) (hy : y.toInt = (b : Int)) (hb : b < 2 ^ k) (h : 2 ^ k * a + b < 2147483648) : (x ||| y).toInt = ((2 ^ k * a + b : Nat) : Int) := by
  have ex : x = nI (2 ^ k * a) := Int32.toInt_inj.mp (by rw [hx, nI_toInt (by omega)])
  have ey : y = nI b := Int32.toInt_inj.mp (by rw [hy, nI_toInt (by omega)])
  rw [ex, ey, nI_or, ← Nat.two_pow_add_eq_or_of_lt hb, nI_toInt (by omega)]
theorem dval_up {D : Nat → Int32} {k : Nat} {x : Int32} {v : Nat} (hx : x.toInt = (v : Int)) : ∀ {m : Nat}, k < m → dval (dn (up D k x)) m + dn D k * BB ^ k = dval (dn D) m + v * BB ^ k
  | 0, h => by omega
  | m + 1, h => by
    simp only [dval]
    by_cases e : k = m
    · subst e
      rw [dn_up_same D k hx, dval_congr (g := dn D) (fun j hj => dn_up_ne (by omega))]
      omega
    · rw [dn_up_ne (by omega)]
      have := dval_up (D := D) hx (m := m) (k := k) (by omega)
      omega
theorem S_Big_addBit {d0 : Nat → Int32} {n0 x : Int32} {a b : Nat} {Q : (Nat → Int32) → Int32 → Prop} (h0 : BR d0 n0 (2 * a)) (hx : x.toInt = (b : Int)) (hb : b ≤ 1) (hq : ∀ d' n', BR d' n' (2 * a + b) → Q d' n') : P_Big_addBit d0 n0 x Q := by
  obtain ⟨m0, hn0, hu0, ht0⟩ := id h0
  have hm0 := hu0.1
  refine T_Big_addBit (R_Big_addBit_0 ⟨fun c => R_Big_addBit_16 ?_, fun c => ?_⟩)
  · rw [i_eq, z_0, hn0] at c
    have hN0 : (0 : Int32).toNatClampNeg = 0 := rfl
    refine ⟨i_in (k := 0) z_0 (by omega), i_in (k := 0) z_0 (by omega), R_Big_addBit_26 (hq _ _ ?_)⟩
    rw [hN0]
    have q0 := h0.rd hn0 (r := d0 0) (i := 0) (fun _ => rfl) (fun z => by omega)
    rw [Nat.pow_zero, Nat.div_one] at q0
    have q0' : (d0 0).toInt = ((2 ^ 1 * (a % 536870912) : Nat) : Int) := by
      rw [q0]
      show ((2 * a % 1073741824 : Nat) : Int) = _
      omega
    have hor := i_or q0' hx (show b < 2 ^ 1 by omega) (by omega)
    have hlt : 2 ^ 1 * (a % 536870912) + b < 1073741824 := by omega
    have hd0 : dn d0 0 = 2 ^ 1 * (a % 536870912) := by unfold dn; rw [q0']; rfl
    have hup := dval_up (D := d0) hor (k := 0) (m := m0) (by omega)
    rw [hd0, hu0.2.2] at hup
    refine ⟨m0, hn0, ⟨hm0, fun k hk => ?_, ?_⟩, ?_⟩
    · by_cases e : k = 0
      · rw [e, up_same]; exact dok.of hor hlt
      · rw [up_ne e]; exact hu0.2.1 k hk
    · rw [Nat.pow_zero] at hup
      omega
    · rcases ht0 with z | z
      · exact Or.inl z
      · right
        by_cases e : m0 - 1 = 0
        · rw [e, dn_up_same _ _ hor]
          rw [e, hd0] at z
          omega
        · rw [dn_up_ne e]; exact z
  · rw [i_eq, z_0, hn0] at c
    have hm : m0 = 0 := by omega
    subst hm
    have hv : 2 * a = 0 := hu0.2.2.symm
    have hb' : b < BB := Nat.lt_of_le_of_lt hb (by decide)
    refine S_Big_push (m := 0) hn0 hu0 (i_wide hx) hb' (Or.inr (by omega)) (fun _ => Or.inl rfl) (fun d' n' h' => R_Big_addBit_26 (hq _ _ ?_))
    rw [Nat.pow_zero, Nat.mul_one] at h'
    exact h'
theorem S_Big_becomeProduct {d0 d1 d2 : Nat → Int32} {n0 n1 n2 : Int32} {a b : Nat} {Q : (Nat → Int32) → Int32 → Prop} (h1 : BR d1 n1 a) (h2 : BR d2 n2 b) (ha : a < BB ^ 7) (hb : b < BB ^ 7) (hq : ∀ d' n', BR d' n' (a * b) → Q d' n') : P_Big_becomeProduct d0 n0 d1 n1 d2 n2 Q := by
  obtain ⟨m1, hn1, hu1, ht1⟩ := id h1
  obtain ⟨m2, hn2, hu2, ht2⟩ := id h2
  have hm1 : m1 ≤ 7 := (h1.dg hn1).2.le ha
  have hm2 : m2 ≤ 7 := (h2.dg hn2).2.le hb
  have la := hu1.lt
  have lb := hu2.lt
  have z16 : (16 : Int32).toInt = ((16 : Nat) : Int) := by decide
  obtain ⟨w, hw⟩ : ∃ w : Nat, w = 16 := ⟨16, rfl⟩
  have z16w : (16 : Int32).toInt = (w : Int) := by rw [hw]; exact z16
  have outer : ∀ (s i : Nat) (D : Nat → Int32) (y : Int32), i + s = m1 → y.toInt = (i : Int) → (∀ k, k < w → dok (D k)) → dval (dn D) w = a % BB ^ i * b → E_Big_becomeProduct_10 D n0 d1 n1 d2 n2 y Q := by
    intro s
    induction s with
    | zero =>
      intro i D y hi hy hok hv
      have : i = m1 := by omega
      subst this
      rw [Nat.mod_eq_of_lt la] at hv
      exact R_Big_becomeProduct_10 ⟨fun _ => R_Big_becomeProduct_107 (S_Big_trim (m := w) z16w ⟨by omega, hok, hv⟩ (fun n' h' => hq _ _ h')), fun e => absurd (by rw [i_le]; omega) e⟩
    | succ s ih =>
      intro i D y hi hy hok hv
      refine R_Big_becomeProduct_10 ⟨fun e => absurd e (by rw [i_le]; omega), fun _ => ?_⟩
      have qa := h1.rd hn1 (r := d1 i) (i := i) (fun _ => rfl) (fun z => by omega)
      have bA : a / BB ^ i % BB < 1073741824 := Nat.mod_lt _ (by decide)
      have hmod : a % BB ^ (i + 1) = a % BB ^ i + BB ^ i * (a / BB ^ i % BB) := Nat.mod_pow_succ
      have hV0 : dval (dn D) w < BB ^ (i + m2) := by
        rw [hv, Nat.pow_add]
        have e1 : a % BB ^ i < BB ^ i := Nat.mod_lt _ (BB_pos i)
        by_cases hb0 : b = 0
        · rw [hb0, Nat.mul_zero]; exact Nat.mul_pos (BB_pos i) (BB_pos m2)
        · exact Nat.mul_lt_mul_of_lt_of_lt e1 lb
      generalize hA : a / BB ^ i % BB = Ai at qa bA hmod
      have inner : ∀ (u j : Nat) (F : Nat → Int32) (c : Int64) (cn : Nat) (z : Int32), j + u = m2 + 1 → z.toInt = (j : Int) → c.toInt = (cn : Int) → cn < BB → (∀ k, k < w → dok (F k)) → (∀ k, i + j ≤ k → F k = D k) → dval (dn F) w + cn * BB ^ (i + j) = dval (dn D) w + Ai * (b % BB ^ j) * BB ^ i → (j = m2 + 1 → cn = 0) → E_Big_becomeProduct_24 F n0 d1 n1 d2 n2 y c z Q := by
        intro u
        induction u with
        | zero =>
          intro j F c cn z hj hz hc hcn hokF hF hval hlast
          have hj' : j = m2 + 1 := by omega
          refine R_Big_becomeProduct_24 ⟨fun _ => R_Big_becomeProduct_101 fun x7 e7 => ih (i + 1) F x7 (by omega) (by rw [e7]; exact i_add hy z_1 (by omega) (by omega)) hokF ?_, fun e => absurd (by rw [i_lt]; omega) e⟩
          have p2 : BB ^ m2 ≤ BB ^ j := Nat.pow_le_pow_right (by decide) (by omega)
          rw [hlast hj', Nat.zero_mul, Nat.add_zero, Nat.mod_eq_of_lt (show b < BB ^ j by omega), hv] at hval
          rw [hval, hmod, Nat.add_mul]
          congr 1
          ac_rfl
        | succ u ihu =>
          intro j F c cn z hj hz hc hcn hokF hF hval hlast
          have hcn' : cn < 1073741824 := hcn
          have hyz : (y + z).toInt = ((i + j : Nat) : Int) := by rw [i_add hy hz (by omega) (by omega)]; omega
          refine R_Big_becomeProduct_24 ⟨fun e => absurd e (by rw [i_lt]; omega), fun _ => ⟨fun e => absurd e (by rw [i_le, hyz, z16]; omega), fun _ => ⟨i_in hyz (by omega), i_in hy (by omega), S_Big_digit h2 hz fun r3 e3 => ?_⟩⟩⟩
          have bB : b / BB ^ j % BB < 1073741824 := Nat.mod_lt _ (by decide)
          have hmodb : b % BB ^ (j + 1) = b % BB ^ j + BB ^ j * (b / BB ^ j % BB) := Nat.mod_pow_succ
          have qD := (hokF (i + j) (by omega)).to
          have bD : dn F (i + j) < 1073741824 := qD.2
          -- at the last place the row so far holds 0
          have hlz : j = m2 → dn F (i + j) = 0 ∧ b / BB ^ j % BB = 0 := by
            intro e
            constructor
            · have e1 : dn F (i + j) = dn D (i + j) := by unfold dn; rw [hF (i + j) (Nat.le_refl _)]
              rw [e1, ← dval_digit (f := dn D) (m := w) (k := i + j) (fun k hk => (hok k hk).to.2) (by omega), Nat.div_eq_of_lt (by rw [e]; exact hV0)]
              rfl
            · rw [Nat.div_eq_of_lt (by rw [e]; exact lb)]
              rfl
          generalize hB : b / BB ^ j % BB = Bj at e3 bB hmodb hlz
          generalize hDv : dn F (i + j) = Dv at qD bD hlz
          rw [i_nat hy, i_nat hyz]
          intro x4 e4
          have hprod : Ai * Bj ≤ 1073741823 * 1073741823 := Nat.mul_le_mul (by omega) (by omega)
          have h4 : x4.toInt = ((cn + (Dv + Ai * Bj) : Nat) : Int) := by
            have hm := j_mul (i_wide qa) (i_wide e3) (by rw [← Int.natCast_mul]; omega) (by rw [← Int.natCast_mul]; omega)
            rw [← Int.natCast_mul] at hm
            rw [e4, j_add hc (j_add (i_wide qD.1) hm (by omega) (by omega)) (by omega) (by omega)]
            omega
          have hdig : (x4.toInt32 &&& 1073741823).toInt = (((cn + (Dv + Ai * Bj)) % BB : Nat) : Int) := by rw [ji_mask, h4]; rfl
          refine ⟨i_in hyz (by omega), fun x5 e5 x6 e6 => ?_⟩
          refine ihu (j + 1) _ x5 ((cn + (Dv + Ai * Bj)) / BB) x6 (by omega) (by rw [e6]; exact i_add hz z_1 (by omega) (by omega)) (by rw [e5, j_shr30, h4]; rfl) ?_ (fun k hk => ?_) (fun k hk => by rw [up_ne (by omega)]; exact hF k (by omega)) ?_ ?_
          · show (cn + (Dv + Ai * Bj)) / 1073741824 < 1073741824
            omega
          · by_cases e : k = i + j
            · rw [e, up_same]; exact dok.of hdig (Nat.mod_lt _ (by decide))
            · rw [up_ne e]; exact hokF k hk
          · have hup := dval_up (D := F) hdig (k := i + j) (m := w) (by omega)
            have cs := carry_step (cn + (Dv + Ai * Bj)) (BB ^ (i + j))
            rw [hDv] at hup
            rw [Nat.add_mul, Nat.add_mul] at cs
            rw [hmodb, show i + (j + 1) = i + j + 1 by omega, BB_succ (i + j), Nat.mul_add, Nat.add_mul, show Ai * (BB ^ j * Bj) * BB ^ i = Ai * Bj * BB ^ (i + j) by rw [Nat.pow_add]; ac_rfl]
            omega
          · intro e
            obtain ⟨g1, g2⟩ := hlz (by omega)
            rw [g1, g2]
            show (cn + (0 + Ai * 0)) / 1073741824 = 0
            omega
      exact inner (m2 + 1) 0 D 0 0 0 (by omega) z_0 zL0 (by decide) hok (fun _ _ => rfl) (by simp [Nat.mod_one]) (by omega)
  refine T_Big_becomeProduct (R_Big_becomeProduct_0 (S_Ja_fill (by omega) fun f' hf => outer m1 0 f' 0 (by omega) z_0 (fun k hk => by rw [hf k (by omega)]; exact dok.of (v := 0) z_0 (by decide)) ?_))
  rw [Nat.pow_zero, Nat.mod_one, Nat.zero_mul]
  exact (dval_ext (Nat.zero_le w) (fun k _ hk => by unfold dn; rw [hf k (by omega)]; rfl)).trans rfl
