/-! the slots of the reference: a digit of a quotient, on -/
theorem three_dig {A x P r W : Nat} (h : W = A * (P * BB) + (r + x * P)) : W = (A * 1073741824 + x) * P + r := by
  have : A * (P * BB) = A * 1073741824 * P := by
    show A * (P * 1073741824) = _
    ac_rfl
  rw [h, this, Nat.add_mul]
  omega
theorem S_Mo_digit {vv0 : Nat → Value} {tp un : Nat → Int64} {v1 v2 : Int32} {n0 j W D : Nat} {Q : Int64 → (Nat → Int64) → Prop} (h1 : v1.toInt = ((n0 + 1 : Nat) : Int)) (h2 : v2.toInt = (j : Int)) (hn : n0 + 1 ≤ 64) (hj : j ≤ 64) (hu : ∀ k, k < n0 + 1 → okL (un k)) (ht : ∀ k, k ≤ n0 + 1 → okL (tp (j + k))) (hv0 : 0 < nL un n0) (hW : dval (lL tp j) (n0 + 1 + 1) = W) (hD : dval (lL un 0) (n0 + 1) = D) (hlt : W < D * BB) (hq : ∀ (r : Int64) tp', r.toInt = ((W / D : Nat) : Int) → (∀ k, k ≤ n0 + 1 → okL (tp' (j + k))) → dval (lL tp' j) (n0 + 1 + 1) = W % D → (∀ i, (i < j ∨ j + (n0 + 1) < i) → tp' i = tp i) → Q r tp') : P_Mo_digit vv0 tp un v1 v2 Q := by
  have z30 : (30 : Int32).toInt = ((30 : Nat) : Int) := by decide
  have z_2 : (2 : Int32).toInt = 2 := by decide
  have zM : (1073741823 : Int64).toInt = 1073741823 := by decide
  have hjn : (v2 + v1).toInt = ((j + (n0 + 1) : Nat) : Int) := by rw [i_add h2 h1 (by omega) (by omega)]; omega
  have hjn1 : (v2 + v1 - 1).toInt = ((j + n0 : Nat) : Int) := by rw [i_sub hjn z_1 (by omega) (by omega)]; omega
  have hn1 : (v1 - 1).toInt = (n0 : Int) := by rw [i_sub h1 z_1 (by omega) (by omega)]; omega
  have q1 := (ht (n0 + 1) (Nat.le_refl _)).to
  have q0 := (ht n0 (by omega)).to
  have qv := (hu n0 (by omega)).to
  have hX := BB_pos n0
  have hwl := dval_lt (f := lL tp j) (m := n0) (fun k hk => (ht k (by omega)).to.2)
  have hdl := dval_lt (f := lL un 0) (m := n0) (fun k hk => by
    have := (hu k (by omega)).to.2
    show nL un (0 + k) < 1073741824
    rw [Nat.zero_add]
    exact this)
  have fW : W = (nL tp (j + (n0 + 1)) * 1073741824 + nL tp (j + n0)) * BB ^ n0 + dval (lL tp j) n0 := by
    rw [← hW]
    show dval (lL tp j) n0 + nL tp (j + n0) * BB ^ n0 + nL tp (j + (n0 + 1)) * BB ^ (n0 + 1) = _
    rw [BB_succ, Nat.add_mul]
    have : nL tp (j + (n0 + 1)) * (BB ^ n0 * BB) = nL tp (j + (n0 + 1)) * 1073741824 * BB ^ n0 := by
      show nL tp (j + (n0 + 1)) * (BB ^ n0 * 1073741824) = _
      ac_rfl
    omega
  have fD : D = nL un n0 * BB ^ n0 + dval (lL un 0) n0 := by
    rw [← hD]
    show dval (lL un 0) n0 + nL un (0 + n0) * BB ^ n0 = _
    rw [Nat.zero_add, Nat.add_comm]
  have hD0 : 0 < D := by
    have := Nat.mul_pos hv0 hX
    omega
  have hqt : W / D < BB := by
    rw [Nat.div_lt_iff_lt_mul hD0, Nat.mul_comm]
    exact hlt
  have hT1 : nL tp (j + (n0 + 1)) ≤ nL un n0 := by
    have e1 : nL tp (j + (n0 + 1)) * 1073741824 * BB ^ n0 ≤ W := by
      rw [fW, Nat.add_mul]
      omega
    have e2 : D * BB < (nL un n0 + 1) * 1073741824 * BB ^ n0 := by
      have : D < (nL un n0 + 1) * BB ^ n0 := by rw [fD, Nat.add_mul]; omega
      have e3 : (nL un n0 + 1) * 1073741824 * BB ^ n0 = (nL un n0 + 1) * BB ^ n0 * BB := by
        show _ = (nL un n0 + 1) * BB ^ n0 * 1073741824
        ac_rfl
      rw [e3]
      exact Nat.mul_lt_mul_of_pos_right this (by decide)
    have e4 : nL tp (j + (n0 + 1)) * 1073741824 * BB ^ n0 < (nL un n0 + 1) * 1073741824 * BB ^ n0 := by omega
    have := Nat.lt_of_mul_lt_mul_right e4
    omega
  have hq0 : W / D ≤ (nL tp (j + (n0 + 1)) * 1073741824 + nL tp (j + n0)) / nL un n0 := by
    rw [fW, fD]
    exact kn1 hX hwl hv0
  -- with the two digits below
  have two3 : ∀ n1, n0 = n1 + 1 → dval (lL tp j) n1 < BB ^ n1 ∧ dval (lL un 0) n1 < BB ^ n1 ∧ W = ((nL tp (j + (n0 + 1)) * 1073741824 + nL tp (j + n0)) * 1073741824 + nL tp (j + n1)) * BB ^ n1 + dval (lL tp j) n1 ∧ D = (nL un n0 * 1073741824 + nL un n1) * BB ^ n1 + dval (lL un 0) n1 := by
    intro n1 e
    refine ⟨dval_lt (fun k hk => (ht k (by omega)).to.2), dval_lt (fun k hk => ?_), ?_, ?_⟩
    · have := (hu k (by omega)).to.2
      show nL un (0 + k) < 1073741824
      rw [Nat.zero_add]
      exact this
    · have e3 : dval (lL tp j) (n1 + 1) = dval (lL tp j) n1 + nL tp (j + n1) * BB ^ n1 := rfl
      refine three_dig ?_
      rw [← BB_succ, ← e3, ← e]
      exact fW
    · have e3 : dval (lL un 0) (n1 + 1) = dval (lL un 0) n1 + nL un (0 + n1) * BB ^ n1 := rfl
      rw [Nat.zero_add] at e3
      refine three_dig ?_
      rw [← BB_succ, ← e3, ← e]
      exact fD
  generalize hT : nL tp (j + (n0 + 1)) * 1073741824 + nL tp (j + n0) = two at *
  generalize hv : nL un n0 = v at *
  have htwo : two ≤ v * 1073741824 + 1073741823 := by omega
  have fin : ∀ (v5 : Int64) (qn rn : Nat), v5.toInt = (qn : Int) → qn < 1073741824 → W / D ≤ qn → qn * v + rn = two → (∀ n1, n0 = n1 + 1 → qn * nL un n1 ≤ rn * 1073741824 + nL tp (j + n1)) → E_Mo_digit_138 vv0 tp un v1 v2 v5 Q := by
    intro v5 qn rn g5 gq g0 gt g3
    refine S_Mo_digit_take h1 h2 g5 hn hj hu ht hW hD hD0 hlt g0 ?_ gq hq
    rcases Nat.eq_zero_or_pos n0 with z | z
    · have : qn ≤ W / D := by
        rw [Nat.le_div_iff_mul_le hD0, fD, fW, z, Nat.pow_zero, Nat.mul_one, Nat.mul_one]
        show qn * (v + 0) ≤ two + 0
        rw [Nat.add_zero]
        omega
      omega
    · obtain ⟨n1, e⟩ : ∃ n1, n0 = n1 + 1 := ⟨n0 - 1, by omega⟩
      obtain ⟨w1, w2, w3, w4⟩ := two3 n1 e
      have g4 := g3 n1 e
      rw [w3, w4]
      refine kn3 w2 ?_ (Nat.le_of_lt gq) ?_
      · rw [Nat.mul_add, ← gt, Nat.add_mul, ← Nat.mul_assoc]
        omega
      · show 1073741824 ≤ _
        omega
  have loop : ∀ (fuel : Nat) (v5 v7 : Int64) (v9 : Int32) (qn rn : Nat), 1073741824 ≤ rn + fuel → v5.toInt = (qn : Int) → v7.toInt = (rn : Int) → qn * v + rn = two → W / D ≤ qn → (v9 = 1 ∧ rn < 1073741824) ∨ (v9 = 0 ∧ 1073741824 ≤ rn ∧ qn < 1073741824) → E_Mo_digit_50 vv0 tp un v1 v2 v5 v7 v9 Q := by
    intro fuel
    have done : ∀ (v5 v7 : Int64) (v9 : Int32) (qn rn : Nat), v5.toInt = (qn : Int) → qn * v + rn = two → W / D ≤ qn → (v9 = 0 ∧ 1073741824 ≤ rn ∧ qn < 1073741824) → E_Mo_digit_50 vv0 tp un v1 v2 v5 v7 v9 Q := by
      intro v5 v7 v9 qn rn g5 gt g0 g
      refine R_Mo_digit_50 ⟨fun _ => fin v5 qn rn g5 g.2.2 g0 gt fun n1 e => ?_, fun e => absurd g.1 e⟩
      have : qn * nL un n1 ≤ 1073741824 * 1073741824 := Nat.mul_le_mul (by omega) (by have := (hu n1 (by omega)).to.2; omega)
      have : 1073741824 * 1073741824 ≤ rn * 1073741824 := Nat.mul_le_mul_right _ g.2.1
      omega
    induction fuel with
    | zero =>
      intro v5 v7 v9 qn rn hf g5 g7 gt g0 g
      refine done v5 v7 v9 qn rn g5 gt g0 ?_
      rcases g with g | g
      · omega
      · exact g
    | succ fuel ih =>
      intro v5 v7 v9 qn rn hf g5 g7 gt g0 g
      rcases g with g | g
      · have again : W / D < qn → E_Mo_digit_100 vv0 tp un v1 v2 v5 v7 Q := by
          intro glt
          have hq1 : 1 ≤ qn := Nat.lt_of_le_of_lt (Nat.zero_le _) glt
          have gt' : (qn - 1) * v + (rn + v) = two := by
            rw [Nat.sub_mul, Nat.one_mul]
            have : 1 * v ≤ qn * v := Nat.mul_le_mul_right _ hq1
            omega
          refine R_Mo_digit_100 fun x4 e4 => ⟨i_in hn1 (by omega), fun x5 e5 => ?_⟩
          rw [i_nat hn1] at e5
          have g4 : x4.toInt = ((qn - 1 : Nat) : Int) := by
            have := j_hi v5
            rw [e4, j_sub g5 zL1 (by omega) (by omega)]
            omega
          have g5' : x5.toInt = ((rn + v : Nat) : Int) := by
            rw [e5, j_add g7 qv.1 (by omega) (by omega)]
            omega
          refine ⟨fun c => R_Mo_digit_132 (R_Mo_digit_133 (ih x4 x5 0 (qn - 1) (rn + v) (by omega) g4 g5' gt' (by omega) (Or.inr ⟨rfl, ?_, ?_⟩))), fun c => R_Mo_digit_133 (ih x4 x5 1 (qn - 1) (rn + v) (by omega) g4 g5' gt' (by omega) (Or.inl ⟨rfl, ?_⟩))⟩
          · rw [lg_gt0, g5', zM] at c
            omega
          · rw [lg_gt0, g5', zM] at c
            rcases Nat.lt_or_ge (qn - 1) 1073741824 with y | y
            · exact y
            · exfalso
              have : 1073741824 * v ≤ (qn - 1) * v := Nat.mul_le_mul_right _ y
              omega
          · rw [lg_gt0, g5', zM] at c
            omega
        have gq31 : qn * 1 ≤ qn * v := Nat.mul_le_mul_left _ hv0
        refine R_Mo_digit_50 ⟨fun e => absurd (e.symm.trans g.1) (by decide), fun _ => ⟨fun c => again ?_, fun c => ⟨fun c2 => fin v5 qn rn g5 ?_ g0 gt fun n1 e => ?_, fun c2 => ?_⟩⟩⟩
        · rw [lg_gt0, g5, zM] at c
          have : W / D < 1073741824 := hqt
          omega
        · rw [lg_gt0, g5, zM] at c
          omega
        · rw [i_le, h1, z_1] at c2
          omega
        · rw [lg_gt0, g5, zM] at c
          rw [i_le, h1, z_1] at c2
          obtain ⟨n1, e⟩ : ∃ n1, n0 = n1 + 1 := ⟨n0 - 1, by omega⟩
          have i1 : (v1 - 2).toInt = (n1 : Int) := by rw [i_sub h1 z_2 (by omega) (by omega)]; omega
          have i2 : (v2 + v1 - 2).toInt = ((j + n1 : Nat) : Int) := by rw [i_sub hjn z_2 (by omega) (by omega)]; omega
          have qu := (hu n1 (by omega)).to
          have qt := (ht n1 (by omega)).to
          have hprod : qn * nL un n1 ≤ 1073741823 * 1073741823 := Nat.mul_le_mul (by omega) (by omega)
          have hm := j_mul g5 qu.1 (by rw [← Int.natCast_mul]; omega) (by rw [← Int.natCast_mul]; omega)
          rw [← Int.natCast_mul] at hm
          have hsh := j_shl (k := 30) g7 z30 (by omega) (by omega) (by omega)
          have hr : (v7 <<< ((30 : Int32).toInt64 &&& 63) + tp (j + n1)).toInt = ((rn * 1073741824 + nL tp (j + n1) : Nat) : Int) := by
            rw [j_add hsh qt.1 (by omega) (by omega)]
            omega
          refine ⟨i_in i1 (by omega), i_in i2 (by omega), fun c3 => ?_, fun c3 => again ?_⟩
          · rw [i_nat i1, i_nat i2, lg_le0, hm, hr] at c3
            refine fin v5 qn rn g5 (by omega) g0 gt fun n2 e2 => ?_
            have : n2 = n1 := by omega
            rw [this]
            omega
          · rw [i_nat i1, i_nat i2, lg_le0, hm, hr] at c3
            obtain ⟨w1, w2, w3, w4⟩ := two3 n1 e
            rw [w3, w4]
            refine kn2 (by rw [← w4]; exact hD0) w1 ?_
            rw [Nat.mul_add, ← gt, Nat.add_mul, ← Nat.mul_assoc]
            omega
      · exact done v5 v7 v9 qn rn g5 gt g0 g
  have hne : ¬ un n0 = 0 := by rw [j_eq, qv.1, zL0]; omega
  refine T_Mo_digit (R_Mo_digit_0 ⟨i_in hjn (by omega), i_in hjn1 (by omega), fun x1 e1 => ⟨i_in hn1 (by omega), by rw [i_nat hn1]; exact hne, fun x2 e2 => ⟨i_in hn1 (by omega), by rw [i_nat hn1]; exact hne, fun x3 e3 => ?_⟩⟩⟩)
  rw [i_nat hjn, i_nat hjn1] at e1
  rw [i_nat hn1] at e2 e3
  have hsh := j_shl (k := 30) q1.1 z30 (by omega) (by omega) (by omega)
  have g1 : x1.toInt = (two : Int) := by
    rw [e1, j_add hsh q0.1 (by omega) (by omega)]
    omega
  have g2 : x2.toInt = ((two / v : Nat) : Int) := by rw [e2]; exact j_div g1 qv.1 (Or.inr (by omega))
  have g3 : x3.toInt = ((two % v : Nat) : Int) := by rw [e3]; exact j_rem g1 qv.1 (by omega)
  have hrl := Nat.mod_lt two hv0
  refine loop 1073741824 x2 x3 1 (two / v) (two % v) (by omega) g2 g3 ?_ hq0 (Or.inl ⟨rfl, by omega⟩)
  rw [Nat.mul_comm]
  exact Nat.div_add_mod two v
