/-! THE FRACTION of the class: from sizes; millionths -/
theorem BR.zero {d : Nat → Int32} {n : Int32} {v : Nat} (h : BR d n v) : n = 0 ↔ v = 0 := by
  obtain ⟨m, hm, _⟩ := id h
  have := (h.dg hm).2.zero
  rw [i_eq, hm, z_0]
  omega
theorem BR.high {d : Nat → Int32} {n : Int32} {v m : Nat} (h : BR d n v) (hn : n.toInt ≤ (m : Int)) : v < BB ^ m := by
  obtain ⟨k, hk, _⟩ := id h
  have h1 := (h.dg hk).2.high
  exact Nat.lt_of_lt_of_le h1 (Nat.pow_le_pow_right (by decide) (by omega))
theorem BR.low {d : Nat → Int32} {n : Int32} {v m : Nat} (h : BR d n v) (hn : ((m : Nat) : Int) < n.toInt) : BB ^ m ≤ v := by
  obtain ⟨k, hk, _⟩ := id h
  have h1 := (h.dg hk).2.low (by omega)
  exact Nat.le_trans (Nat.pow_le_pow_right (by decide) (by omega)) h1
theorem tz_div {a s m : Nat} (h : Tz a s) (hm : m ≤ s) : a = 2 ^ m * (a / 2 ^ m) ∧ (m = s → a / 2 ^ m % 2 = 1) := by
  obtain ⟨k, hk⟩ := h
  have e : a = 2 ^ m * (2 ^ (s - m) * (2 * k + 1)) := by
    rw [← Nat.mul_assoc, ← Nat.pow_add, show m + (s - m) = s by omega]
    exact hk
  have e2 : a / 2 ^ m = 2 ^ (s - m) * (2 * k + 1) := by
    rw [e, Nat.mul_div_cancel_left _ (Nat.two_pow_pos m)]
  refine ⟨by rw [e2]; exact e, fun hms => ?_⟩
  rw [e2, hms, Nat.sub_self, Nat.pow_zero, Nat.one_mul]
  omega
theorem S_Frac_reduce {sg an bn cn sn n0 n1 v1 : Int32} {ad bd cd sd d0 d1 : Nat → Int32} {p : Int} {q : Nat} {Q : Int32 → Int32 → (Nat → Int32) → Int32 → (Nat → Int32) → Int32 → (Nat → Int32) → Int32 → (Nat → Int32) → Prop} (h0 : BR d0 n0 p.natAbs) (h1 : BR d1 n1 q) (hq : 0 < q) (hs : p ≠ 0 → v1.toInt = p.sign) (ha' : p.natAbs < BB ^ 15) (hb' : q < BB ^ 15) (hk : ∀ sg' an' ad' bn' bd' cn' cd' sn' sd', FS sg' an' ad' bn' bd' p q → Q sg' an' ad' bn' bd' cn' cd' sn' sd') : P_Frac_reduce sg an ad bn bd cn cd sn sd d0 n0 d1 n1 v1 Q := by
  have hq3 : 0 < q ∧ qa p q < BB ^ 15 ∧ qb p q < BB ^ 15 := ⟨hq, Nat.lt_of_le_of_lt (Nat.div_le_self _ _) ha', Nat.lt_of_le_of_lt (Nat.div_le_self _ _) hb'⟩
  refine T_Frac_reduce (R_Frac_reduce_0 (S_Big_copy h0 fun c1 c2 g1 => S_Big_copy h1 fun c3 c4 g3 => ⟨fun c => ?_, fun c => S_Big_become fun c5 c6 g5 => hk _ _ _ _ _ _ _ _ _ ?_⟩))
  · have hp : p.natAbs ≠ 0 := fun e => c (g1.zero.mpr e)
    refine R_Frac_reduce_40 (S_Big_halvings g1 (by omega) fun r7 s e7 hs7 hs4 => S_Big_halvings g3 hq fun r8 t e8 ht8 ht4 x9 e9 => ?_)
    have h9 : x9.toInt = ((min s t : Nat) : Int) := by
      split at e9
      · rename_i c
        rw [i_lt, e7, e8] at c
        rw [e9, e8]
        omega
      · rename_i c
        rw [i_lt, e7, e8] at c
        rw [e9, e7]
        omega
    refine S_Big_halve g1 h9 (by omega) fun c10 c11 g10 => S_Big_halve g3 h9 (by omega) fun c12 c13 g12 => R_Frac_reduce_82 ?_
    generalize hmm : min s t = m at *
    obtain ⟨ea, oa⟩ := tz_div hs7 (show m ≤ s by omega)
    obtain ⟨eb, ob⟩ := tz_div ht8 (show m ≤ t by omega)
    generalize hA : p.natAbs / 2 ^ m = a at *
    generalize hB : q / 2 ^ m = b at *
    have ha0 : 0 < a := by
      rcases Nat.eq_zero_or_pos a with z | z
      · rw [z, Nat.mul_zero] at ea; omega
      · exact z
    have hb0 : 0 < b := by
      rcases Nat.eq_zero_or_pos b with z | z
      · rw [z, Nat.mul_zero] at eb; omega
      · exact z
    have hal : a ≤ p.natAbs := by rw [← hA]; exact Nat.div_le_self _ _
    have hbl : b ≤ q := by rw [← hB]; exact Nat.div_le_self _ _
    have hodd : a % 2 = 1 ∨ b % 2 = 1 := by
      rcases (show m = s ∨ m = t by omega) with z | z
      · exact Or.inl (oa z)
      · exact Or.inr (ob z)
    have hg : Nat.gcd p.natAbs q = 2 ^ m * Nat.gcd a b := by rw [ea, eb, Nat.gcd_mul_left]
    have eqa : qa p q = a / Nat.gcd a b := by
      unfold qa
      rw [hg, ea, Nat.mul_div_mul_left _ _ (Nat.two_pow_pos m)]
    have eqb : qb p q = b / Nat.gcd a b := by
      unfold qb
      rw [hg]
      conv => lhs; rw [eb]
      rw [Nat.mul_div_mul_left _ _ (Nat.two_pow_pos m)]
    have hgl : Nat.gcd a b ≤ b := Nat.gcd_le_right _ hb0
    have hgp : 0 < Nat.gcd a b := Nat.gcd_pos_of_pos_left _ ha0
    have big : ∀ c14 c15 c16 c17, BR c15 c14 (Nat.gcd a b) → E_Frac_reduce_109 v1 c11 c10 c13 c12 c14 c15 c16 c17 d0 n0 d1 n1 Q := by
      intro c14 c15 c16 c17 g
      refine R_Frac_reduce_109 (S_Big_divide g10 g hgp (by omega) fun c19 c20 c21 c22 g19 _ => S_Big_divide g12 g hgp (by omega) fun c23 c24 c25 c26 g23 _ => R_Frac_reduce_139 (hk _ _ _ _ _ _ _ _ _ ⟨hq3, ?_, ?_, hs (by omega)⟩))
      · rw [eqa]; exact g19
      · rw [eqb]; exact g23
    refine S_Frac_findCommon g10 g12 ha0 hb0 (by omega) (by omega) hodd fun c14 c15 c16 c17 g14 _ => ⟨fun _ => big _ _ _ _ g14, fun c1 => S_Big_digit (i := 0) g14 z_0 fun r18 e18 => ⟨fun c2 => ?_, fun _ => big _ _ _ _ g14⟩⟩
    have hlt : Nat.gcd a b < BB ^ 1 := g14.high (by rw [i_lt, z_1] at c1; omega)
    rw [Nat.pow_one] at hlt
    rw [Nat.pow_zero, Nat.div_one, Nat.mod_eq_of_lt hlt] at e18
    rw [i_le, z_1, e18] at c2
    have h1 : Nat.gcd a b = 1 := by omega
    rw [h1, Nat.div_one] at eqa eqb
    exact R_Frac_reduce_139 (hk _ _ _ _ _ _ _ _ _ ⟨hq3, by rw [eqa]; exact g10, by rw [eqb]; exact g12, hs (by omega)⟩)
  · have hp : p.natAbs = 0 := g1.zero.mp c
    have hp0 : p = 0 := by omega
    refine ⟨hq3, ?_, ?_, ?_⟩
    · unfold qa
      rw [hp, Nat.zero_div]
      rw [hp] at g1
      exact g1
    · unfold qb
      rw [hp, Nat.gcd_zero_left, Nat.div_self hq]
      exact g5
    · rw [hp0]
      exact z_0
/-- millionths of p by q, floored, between -10^12 and 10^12 -/
def mill (p : Int) (q : Nat) : Int := max (-1000000000000) (min 1000000000000 (p * 1000000 / (q : Int)))
theorem neg_div_nat (N b : Nat) (hb : 0 < b) : (-(N : Int)) / (b : Int) = if N % b = 0 then -((N / b : Nat) : Int) else -((N / b : Nat) : Int) - 1 := by
  have h := Nat.div_add_mod N b
  have hl := Nat.mod_lt N hb
  have hb' : (0 : Int) < (b : Int) := by omega
  have hc : ((b : Nat) : Int) * ((N / b : Nat) : Int) + ((N % b : Nat) : Int) = (N : Int) := by
    have := congrArg (fun x : Nat => (x : Int)) h
    simpa only [Int.natCast_add, Int.natCast_mul] using this
  generalize N / b = k at *
  generalize N % b = r at *
  split
  · rename_i h0
    refine ((Int.ediv_emod_unique (r := 0) hb').mpr ⟨?_, by omega, hb'⟩).1
    rw [Int.mul_neg]
    omega
  · rename_i h0
    refine ((Int.ediv_emod_unique (r := (b : Int) - r) hb').mpr ⟨?_, by omega, by omega⟩).1
    rw [Int.mul_sub, Int.mul_neg, Int.mul_one]
    omega
theorem mill_of {p : Int} {q : Nat} (hq : 0 < q) : mill p q = if p.sign < 0 then - min 1000000000000 (((qa p q * 1000000 / qb p q : Nat) : Int) + if qa p q * 1000000 % qb p q = 0 then 0 else 1) else min 1000000000000 ((qa p q * 1000000 / qb p q : Nat) : Int) := by
  have hg : 0 < Nat.gcd p.natAbs q := Nat.gcd_pos_of_pos_right _ hq
  have ha : p.natAbs = qa p q * Nat.gcd p.natAbs q := (Nat.div_mul_cancel (Nat.gcd_dvd_left _ _)).symm
  have hb : q = qb p q * Nat.gcd p.natAbs q := (Nat.div_mul_cancel (Nat.gcd_dvd_right _ _)).symm
  have hb0 : 0 < qb p q := by
    rcases Nat.eq_zero_or_pos (qb p q) with z | z
    · rw [z, Nat.zero_mul] at hb; omega
    · exact z
  unfold mill
  generalize Nat.gcd p.natAbs q = g at *
  generalize qa p q = a at *
  generalize qb p q = b at *
  have hgi : (0 : Int) < (g : Int) := by omega
  subst hb
  split
  · rename_i hs
    have hp : p < 0 := Int.sign_neg_iff.mp hs
    have e : p * 1000000 = (-((a * 1000000 : Nat) : Int)) * (g : Int) := by
      rw [show p = -((a * g : Nat) : Int) by omega, Int.natCast_mul, Int.natCast_mul, Int.neg_mul, Int.neg_mul]
      congr 1
      ac_rfl
    rw [e, Int.natCast_mul b g, Int.mul_ediv_mul_of_pos_left _ _ hgi, neg_div_nat _ _ hb0]
    generalize a * 1000000 / b = k
    split <;> omega
  · rename_i hs
    have hp : 0 ≤ p := by
      rcases Int.lt_or_le p 0 with z | z
      · exact absurd (by rw [Int.sign_eq_neg_one_of_neg z]; omega) hs
      · exact z
    have e : p * 1000000 = ((a * 1000000 : Nat) : Int) * (g : Int) := by
      rw [show p = ((a * g : Nat) : Int) by omega, Int.natCast_mul, Int.natCast_mul]
      ac_rfl
    rw [e, Int.natCast_mul b g, Int.mul_ediv_mul_of_pos_left _ _ hgi, ← Int.natCast_ediv]
    generalize a * 1000000 / b = k
    omega
theorem S_Frac_floorMillionths {sg an bn cn sn : Int32} {ad bd cd sd : Nat → Int32} {p : Int} {q : Nat} {Q : Int64 → Int32 → (Nat → Int32) → Int32 → (Nat → Int32) → Prop} (h : FS sg an ad bn bd p q) (ha' : qa p q < BB ^ 15) (hb' : qb p q < BB ^ 15) (hk : ∀ (r : Int64) cn' cd' sn' sd', r.toInt = mill p q → Q r cn' cd' sn' sd') : P_Frac_floorMillionths sg an ad bn bd cn cd sn sd Q := by
  obtain ⟨⟨hq, -, -⟩, h0, h1, hs⟩ := h
  have zM : (1000000 : Int32).toInt = ((1000000 : Nat) : Int) := by decide
  have zT : (1000000000000 : Int64).toInt = 1000000000000 := by decide
  have z_2 : (2 : Int32).toInt = 2 := by decide
  have hb0 : 0 < qb p q := by
    rcases Nat.eq_zero_or_pos (qb p q) with z | z
    · have hb : q = qb p q * Nat.gcd p.natAbs q := (Nat.div_mul_cancel (Nat.gcd_dvd_right _ _)).symm
      rw [z, Nat.zero_mul] at hb; omega
    · exact z
  have hM := mill_of (p := p) hq
  have hprod : qa p q * 1000000 < BB ^ 16 := by
    have e : BB ^ 16 = BB ^ 15 * BB := Nat.pow_succ ..
    rw [e]
    exact Nat.mul_lt_mul_of_lt_of_le ha' (by decide) (by decide)
  generalize qa p q = a at *
  generalize qb p q = b at *
  have last : ∀ (k r : Nat) (c5 c7 : Nat → Int32) (c6 c8 : Int32) (s : Int64), BR c7 c8 r → (p.sign < 0 → r = 0 → mill p q = - min 1000000000000 (k : Int)) → (p.sign < 0 → r ≠ 0 → mill p q = - min 1000000000000 ((k : Int) + 1)) → (¬ p.sign < 0 → mill p q = min 1000000000000 (k : Int)) → (s.toInt = (k : Int) ∨ (s.toInt = 1000000000000 ∧ 1000000000000 ≤ k)) → s.toInt < 9223372036854775807 → E_Frac_floorMillionths_59 sg an ad bn bd c6 c5 c8 c7 s Q := by
    clear hM hprod ha' hb' h0 h1 hb0
    intro k r c5 c7 c6 c8 s g7 m1 m2 m3 hsv hsl
    have fin : ∀ (w : Int64), 0 ≤ w.toInt → (p.sign < 0 → -(min 1000000000000 w.toInt) = mill p q) → (¬ p.sign < 0 → min 1000000000000 w.toInt = mill p q) → E_Frac_floorMillionths_81 sg an ad bn bd c6 c5 c8 c7 w Q := by
      intro w hw0 hw1 hw2
      refine R_Frac_floorMillionths_81 fun x11 e11 => ?_
      have h11 : x11.toInt = min 1000000000000 w.toInt := by
        split at e11
        · rename_i c
          rw [j_lt, zT] at c
          rw [e11, zT]
          omega
        · rename_i c
          rw [j_lt, zT] at c
          rw [e11]
          omega
      refine ⟨fun c => R_Frac_floorMillionths_101 (R_Frac_floorMillionths_102 (hk _ _ _ _ _ ?_)), fun c => R_Frac_floorMillionths_102 (hk _ _ _ _ _ ?_)⟩
      · rw [i_le, z_0, hs] at c
        rw [h11]
        exact hw2 (by omega)
      · rw [i_le, z_0, hs] at c
        rw [j_neg h11 (by omega)]
        exact hw1 (by omega)
    obtain ⟨k8, hk8, _⟩ := id g7
    have hz := g7.zero
    rw [i_eq, z_0] at hz
    have hs0 : 0 ≤ s.toInt := by omega
    refine R_Frac_floorMillionths_59 ⟨fun c => fin s hs0 ?_ ?_, fun c => ⟨fun c2 => fin s hs0 ?_ ?_, fun c2 x10 e10 => ?_⟩⟩
    · rw [i_le, z_0, hs] at c
      omega
    · intro hn
      rw [m3 hn]
      omega
    · intro hn
      rw [i_le, z_0] at c2
      rw [m1 hn (by omega)]
      omega
    · rw [i_le, z_0, hs] at c
      omega
    · have h10 : x10.toInt = s.toInt + 1 := by
        rw [e10]
        exact j_add rfl zL1 (by omega) (by omega)
      rw [i_le, z_0, hs] at c
      rw [i_le, z_0] at c2
      refine fin x10 (by omega) ?_ ?_
      · intro hn
        rw [m2 hn (by omega)]
        omega
      · omega
  have m1 : p.sign < 0 → a * 1000000 % b = 0 → mill p q = - min 1000000000000 ((a * 1000000 / b : Nat) : Int) := fun e1 e2 => by rw [hM, if_pos e1, if_pos e2, Int.add_zero]
  have m2 : p.sign < 0 → a * 1000000 % b ≠ 0 → mill p q = - min 1000000000000 (((a * 1000000 / b : Nat) : Int) + 1) := fun e1 e2 => by rw [hM, if_pos e1, if_neg e2]
  have m3 : ¬ p.sign < 0 → mill p q = min 1000000000000 ((a * 1000000 / b : Nat) : Int) := fun e1 => by rw [hM, if_neg e1]
  refine T_Frac_floorMillionths (R_Frac_floorMillionths_0 (S_Big_copy h0 fun c1 c2 g1 => S_Big_multiply g1 zM (by decide) hprod fun c3 c4 g3 => S_Big_divide g3 h1 hb0 hb' fun c5 c6 c7 c8 g5 g7 => ⟨fun c => R_Frac_floorMillionths_52 ?_, fun c => last _ _ _ _ _ _ _ g7 m1 m2 m3 (Or.inr ⟨zT, ?_⟩) (by rw [zT]; omega)⟩))
  · rw [i_le, z_2] at c
    have hlt : a * 1000000 / b < BB ^ 2 := g5.high (by omega)
    rw [Nat.pow_succ, Nat.pow_one] at hlt
    have hlt' : a * 1000000 / b < 1073741824 * 1073741824 := hlt
    refine S_Big_toLong g5 hlt fun r9 e9 => last _ _ _ _ _ _ _ g7 m1 m2 m3 (Or.inl e9) ?_
    rw [e9]
    generalize a * 1000000 / b = k at hlt' ⊢
    omega
  · rw [i_le, z_2] at c
    have hle : BB ^ 2 ≤ a * 1000000 / b := g5.low (by omega)
    rw [Nat.pow_succ, Nat.pow_one] at hle
    have hle' : 1073741824 * 1073741824 ≤ a * 1000000 / b := hle
    generalize a * 1000000 / b = k at hle' ⊢
    omega
