/-! THE FRACTION of the class -/
theorem gcd_step (a b : Nat) : Nat.gcd a b = Nat.gcd b (a % b) := by rw [Nat.gcd_comm a b, Nat.gcd_rec, Nat.gcd_comm]
theorem S_Frac_commonOf {v0 v2 : Int64} {a b : Nat} {Q : Int64 → Prop} (ha : v0.toInt = (a : Int)) (hb : v2.toInt = (b : Int)) (hq : ∀ r : Int64, r.toInt = ((Nat.gcd a b : Nat) : Int) → Q r) : P_Frac_commonOf v0 v2 Q := by
  have z1000 : (1000 : Int32).toInt = 1000 := by decide
  have stop : ∀ (x y : Int64) (a b : Nat) (n : Int32) (i : Nat), x.toInt = (a : Int) → y.toInt = (b : Int) → n.toInt = (i : Int) → i < 1000 → b = 0 → (∀ r : Int64, r.toInt = ((Nat.gcd a b : Nat) : Int) → Q r) → E_Frac_commonOf_9 x y n Q := by
    intro x y a b n i hx hy hn hi hb0 hq
    refine R_Frac_commonOf_9 ⟨fun e => absurd e (by rw [i_le, z1000]; omega), fun _ => ⟨fun e => R_Frac_commonOf_45 (hq _ ?_), fun e => absurd ((lg_eq0 y 0).mpr (by rw [hy, zL0]; omega)) e⟩⟩
    rw [hb0, Nat.gcd_zero_right, hx]
  have loop : ∀ (k : Nat) (x y : Int64) (a b : Nat) (n : Int32) (i : Nat), b < 2 ^ k → x.toInt = (a : Int) → y.toInt = (b : Int) → n.toInt = (i : Int) → i + 2 * k + 1 ≤ 1000 → (∀ r : Int64, r.toInt = ((Nat.gcd a b : Nat) : Int) → Q r) → E_Frac_commonOf_9 x y n Q := by
    intro k
    induction k with
    | zero =>
      intro x y a b n i hb hx hy hn hi hq
      exact stop x y a b n i hx hy hn (by omega) (by rw [Nat.pow_zero] at hb; omega) hq
    | succ k ih =>
      intro x y a b n i hb hx hy hn hi hq
      by_cases hb0 : b = 0
      · exact stop x y a b n i hx hy hn (by omega) hb0 hq
      · refine R_Frac_commonOf_9 ⟨fun e => absurd e (by rw [i_le, z1000]; omega), fun _ => ⟨fun e => absurd ((lg_eq0 y 0).mp e) (by rw [hy, zL0]; omega), fun _ => ⟨by rw [j_eq, hy, zL0]; omega, fun x1 e1 x2 e2 => ?_⟩⟩⟩
        have h1 : x1.toInt = ((a % b : Nat) : Int) := by rw [e1]; exact j_rem hx hy (by omega)
        have h2 : x2.toInt = ((i + 1 : Nat) : Int) := by rw [e2, i_add hn z_1 (by omega) (by omega)]; omega
        have hr : a % b < b := Nat.mod_lt _ (by omega)
        have hq1 : ∀ r : Int64, r.toInt = ((Nat.gcd b (a % b) : Nat) : Int) → Q r := fun r hr => hq r (by rw [gcd_step a b]; exact hr)
        by_cases hr0 : a % b = 0
        · exact stop y x1 b (a % b) x2 (i + 1) hy h1 h2 (by omega) hr0 hq1
        · refine R_Frac_commonOf_9 ⟨fun e => absurd e (by rw [i_le, z1000]; omega), fun _ => ⟨fun e => absurd ((lg_eq0 x1 0).mp e) (by rw [h1, zL0]; omega), fun _ => ⟨by rw [j_eq, h1, zL0]; omega, fun x3 e3 x4 e4 => ?_⟩⟩⟩
          have h3 : x3.toInt = ((b % (a % b) : Nat) : Int) := by rw [e3]; exact j_rem hy h1 (by omega)
          have h4 : x4.toInt = ((i + 1 + 1 : Nat) : Int) := by rw [e4, i_add h2 z_1 (by omega) (by omega)]; omega
          have hlt : b % (a % b) < 2 ^ k := by
            have g1 : b % (a % b) < a % b := Nat.mod_lt _ (by omega)
            have g2 : a % b + b % (a % b) ≤ b := by
              have := Nat.mod_add_div b (a % b)
              have : a % b * 1 ≤ a % b * (b / (a % b)) := Nat.mul_le_mul_left _ (Nat.div_pos (by omega) (by omega))
              omega
            rw [Nat.pow_succ] at hb
            omega
          exact ih x1 x3 (a % b) (b % (a % b)) x4 (i + 1 + 1) hlt h1 h3 h4 (by omega) (fun r hr => hq1 r (by rw [gcd_step b (a % b)]; exact hr))
  have hbl := j_hi v2
  exact T_Frac_commonOf (R_Frac_commonOf_0 (loop 63 v0 v2 a b 0 0 (by rw [hb] at hbl; omega) ha hb z_0 (by omega) hq))
/-- the ratio p by q in lowest terms: sizes -/
def qa (p : Int) (q : Nat) : Nat := p.natAbs / Nat.gcd p.natAbs q
def qb (p : Int) (q : Nat) : Nat := q / Nat.gcd p.natAbs q
/-- THE FRACTION is p by q -/
def FS (sg an : Int32) (ad : Nat → Int32) (bn : Int32) (bd : Nat → Int32) (p : Int) (q : Nat) : Prop := (0 < q ∧ qa p q < BB ^ 15 ∧ qb p q < BB ^ 15) ∧ BR ad an (qa p q) ∧ BR bd bn (qb p q) ∧ sg.toInt = p.sign
theorem S_Jl_compare0 {v : Int64} {p : Int} {Q : Int32 → Prop} (hv : v.toInt = p) (hq : ∀ r : Int32, r.toInt = p.sign → Q r) : P_Jl_compare v 0 Q := by
  refine T_Jl_compare (R_Jl_compare_0 ⟨fun c => R_Jl_compare_10 ⟨fun c2 => R_Jl_compare_20 (R_Jl_compare_21 (hq _ ?_)), fun c2 => R_Jl_compare_21 (hq _ ?_)⟩, fun c => R_Jl_compare_21 (hq _ ?_)⟩)
  · rw [lg_ge0, hv, zL0] at c
    rw [lg_eq0, hv, zL0] at c2
    rw [Int.sign_eq_one_of_pos (by omega), z_1]
  · rw [lg_eq0, hv, zL0] at c2
    rw [c2]
    rfl
  · rw [lg_ge0, hv, zL0] at c
    rw [Int.sign_eq_neg_one_of_neg (by omega), z_m1]
theorem small15 : 9223372036854775808 < BB ^ 15 := by decide +kernel
theorem S_Frac_become {sg an bn cn sn : Int32} {ad bd cd sd : Nat → Int32} {v1 v3 : Int64} {p : Int} {q : Nat} {Q : Int32 → Int32 → (Nat → Int32) → Int32 → (Nat → Int32) → Prop} (h1 : v1.toInt = p) (h3 : v3.toInt = (q : Int)) (hq : 0 < q) (hp : -9223372036854775808 < p) (hk : ∀ sg' an' ad' bn' bd', FS sg' an' ad' bn' bd' p q → Q sg' an' ad' bn' bd') : P_Frac_become sg an ad bn bd cn cd sn sd v1 v3 Q := by
  refine T_Frac_become (R_Frac_become_0 fun x1 e1 => ?_)
  have hx1 : x1.toInt = (p.natAbs : Int) := by
    split at e1
    · rename_i c
      rw [j_lt, zL0, h1] at c
      rw [e1, h1]
      omega
    · rename_i c
      rw [j_lt, zL0, h1] at c
      rw [e1, j_neg h1 hp]
      omega
  have hg : 0 < Nat.gcd p.natAbs q := Nat.gcd_pos_of_pos_right _ hq
  refine S_Frac_commonOf hx1 h3 fun r2 e2 x3 e3 => ?_
  have hx3 : x3.toInt = ((Nat.gcd p.natAbs q : Nat) : Int) := by
    split at e3
    · rename_i c
      rw [j_lt, zL1, e2] at c
      omega
    · rw [e3, e2]
  have hne : ¬ x3 = 0 := by rw [j_eq, hx3, zL0]; omega
  refine ⟨hne, S_Big_become fun c4 c5 h4 => ⟨hne, S_Big_become fun c6 c7 h6 => S_Jl_compare0 h1 fun r8 e8 => R_Frac_become_47 (hk _ _ _ _ _ ⟨⟨hq, ?_, ?_⟩, ?_, ?_, e8⟩)⟩⟩
  · have hh := j_hi x1
    rw [hx1] at hh
    exact Nat.lt_of_le_of_lt (Nat.div_le_self _ _) (Nat.lt_trans (show p.natAbs < 9223372036854775808 by omega) small15)
  · have hh := j_hi v3
    rw [h3] at hh
    exact Nat.lt_of_le_of_lt (Nat.div_le_self _ _) (Nat.lt_trans (show q < 9223372036854775808 by omega) small15)
  · rw [uJ_of (v := qa p q) (j_div hx1 hx3 (Or.inr (by omega)))] at h4
    exact h4
  · rw [uJ_of (v := qb p q) (j_div h3 hx3 (Or.inr (by omega)))] at h6
    exact h6
theorem odd_cop {v : Nat} (h : v % 2 = 1) (k : Nat) : Nat.Coprime (2 ^ k) v := by
  refine Nat.Coprime.pow_left k ?_
  show Nat.gcd 2 v = 1
  rw [Nat.gcd_rec, h]
  rfl
/-- the greatest odd number that divides both -/
theorem S_Frac_findCommon {sg an bn cn sn : Int32} {ad bd cd sd : Nat → Int32} {a b : Nat} {Q : Int32 → (Nat → Int32) → Int32 → (Nat → Int32) → Prop} (h1 : BR ad an a) (h2 : BR bd bn b) (ha : 0 < a) (hb : 0 < b) (ha' : a < BB ^ 15) (hb' : b < BB ^ 15) (hodd : a % 2 = 1 ∨ b % 2 = 1) (hk : ∀ cn' cd' sn' sd', BR cd' cn' (Nat.gcd a b) → (∃ z, BR sd' sn' z) → Q cn' cd' sn' sd') : P_Frac_findCommon sg an ad bn bd cn cd sn sd Q := by
  have z10000 : (10000 : Int32).toInt = 10000 := by decide
  have loop : ∀ (k : Nat) (u v : Nat) (cn sn x : Int32) (cd sd : Nat → Int32) (i : Nat), u * v < 2 ^ k → u % 2 = 1 → v % 2 = 1 → BR cd cn u → BR sd sn v → x.toInt = (i : Int) → i + k < 10000 → Nat.gcd u v = Nat.gcd a b → E_Frac_findCommon_52 sg an ad bn bd cn cd sn sd x Q := by
    intro k
    induction k with
    | zero =>
      intro u v cn sn x cd sd i huv hu hv _ _ _ _ _
      have : 0 < u * v := Nat.mul_pos (by omega) (by omega)
      rw [Nat.pow_zero] at huv
      omega
    | succ k ih =>
      intro u v cn sn x cd sd i huv hu hv hU hV hx hi hg
      have hx1 : ∀ x22 : Int32, x22 = x + 1 → x22.toInt = ((i + 1 : Nat) : Int) := fun x22 e => by rw [e, i_add hx z_1 (by omega) (by omega)]; omega
      refine R_Frac_findCommon_52 ⟨fun e => absurd e (by rw [i_le, z10000]; omega), fun _ => S_Big_against hU hV fun r11 e11 => ⟨fun c => R_Frac_findCommon_78 ⟨fun c2 => R_Frac_findCommon_110 ?_, fun c2 => ?_⟩, fun c => R_Frac_findCommon_141 (hk _ _ _ _ ?_ ⟨_, hV⟩)⟩⟩
      · rw [i_eq, z_0, e11] at c
        rw [i_le, z_0, e11] at c2
        have hlt : u < v := by
          unfold cmpN at c c2
          split at c
          · assumption
          · split at c <;> split at c2 <;> omega
        refine S_Big_take hV hU (by omega) fun c17 c18 h17 => S_Big_halvings h17 (by omega) fun r19 t e19 ht ht4 => S_Big_halve h17 e19 (by omega) fun c20 c21 h20 => R_Frac_findCommon_135 fun x22 e22 => ?_
        obtain ⟨w, hw⟩ := ht
        have hdiv : (v - u) / 2 ^ t = 2 * w + 1 := by rw [hw, Nat.mul_div_cancel_left _ (Nat.two_pow_pos t)]
        rw [hdiv] at h20
        have ht1 : 1 ≤ t := by
          rcases Nat.eq_zero_or_pos t with z | z
          · rw [z, Nat.pow_zero, Nat.one_mul] at hw
            omega
          · exact z
        have hle : 2 * (2 * w + 1) ≤ v - u := by
          rw [hw]
          refine Nat.mul_le_mul_right _ ?_
          have : 2 ^ 1 ≤ 2 ^ t := Nat.pow_le_pow_right (by decide) ht1
          omega
        refine ih u (2 * w + 1) cn c21 x22 cd c20 (i + 1) ?_ hu (by omega) hU h20 (hx1 x22 e22) (by omega) ?_
        · have e1 : u * (2 * (2 * w + 1)) ≤ u * v := Nat.mul_le_mul_left _ (by omega)
          rw [Nat.mul_left_comm, Nat.pow_succ] at *
          omega
        · rw [← hg, ← Nat.gcd_sub_self_right (show u ≤ v by omega), hw, Nat.gcd_comm u (2 ^ t * _), Nat.Coprime.gcd_mul_left_cancel _ (odd_cop hu t), Nat.gcd_comm]
      · rw [i_le, z_0, e11] at c2
        have hlt : v < u := by
          unfold cmpN at c2
          split at c2
          · omega
          · split at c2 <;> omega
        refine S_Big_take hU hV (by omega) fun c12 c13 h12 => S_Big_halvings h12 (by omega) fun r14 t e14 ht ht4 => S_Big_halve h12 e14 (by omega) fun c15 c16 h15 => R_Frac_findCommon_135 fun x22 e22 => ?_
        obtain ⟨w, hw⟩ := ht
        have hdiv : (u - v) / 2 ^ t = 2 * w + 1 := by rw [hw, Nat.mul_div_cancel_left _ (Nat.two_pow_pos t)]
        rw [hdiv] at h15
        have ht1 : 1 ≤ t := by
          rcases Nat.eq_zero_or_pos t with z | z
          · rw [z, Nat.pow_zero, Nat.one_mul] at hw
            omega
          · exact z
        have hle : 2 * (2 * w + 1) ≤ u - v := by
          rw [hw]
          refine Nat.mul_le_mul_right _ ?_
          have : 2 ^ 1 ≤ 2 ^ t := Nat.pow_le_pow_right (by decide) ht1
          omega
        refine ih (2 * w + 1) v c16 sn x22 c15 sd (i + 1) ?_ (by omega) hv h15 hV (hx1 x22 e22) (by omega) ?_
        · have e1 : (2 * (2 * w + 1)) * v ≤ u * v := Nat.mul_le_mul_right _ (by omega)
          rw [Nat.mul_assoc, Nat.pow_succ] at *
          omega
        · rw [← hg, ← Nat.gcd_sub_self_left (show v ≤ u by omega), hw, Nat.Coprime.gcd_mul_left_cancel _ (odd_cop hv t)]
      · rw [i_eq, z_0, e11] at c
        have he : u = v := by
          unfold cmpN at c
          split at c
          · omega
          · split at c
            · assumption
            · omega
        rw [← hg, ← he, Nat.gcd_self]
        exact hU
  refine T_Frac_findCommon (R_Frac_findCommon_0 (S_Big_copy h1 fun c1 c2 g1 => S_Big_halvings g1 ha fun r3 s e3 hs hs4 => S_Big_halve g1 e3 (by omega) fun c4 c5 g4 => S_Big_copy h2 fun c6 c7 g6 => R_Frac_findCommon_36 (S_Big_halvings g6 hb fun r8 t e8 ht ht4 => S_Big_halve g6 e8 (by omega) fun c9 c10 g9 => ?_)))
  obtain ⟨u, hu⟩ := hs
  obtain ⟨v, hv⟩ := ht
  have du : a / 2 ^ s = 2 * u + 1 := by rw [hu, Nat.mul_div_cancel_left _ (Nat.two_pow_pos s)]
  have dv : b / 2 ^ t = 2 * v + 1 := by rw [hv, Nat.mul_div_cancel_left _ (Nat.two_pow_pos t)]
  rw [du] at g4
  rw [dv] at g9
  have hua : 2 * u + 1 ≤ a := by rw [← du]; exact Nat.div_le_self _ _
  have hvb : 2 * v + 1 ≤ b := by rw [← dv]; exact Nat.div_le_self _ _
  have hprod : (2 * u + 1) * (2 * v + 1) < 2 ^ 900 := by
    have e1 : (2 * u + 1) * (2 * v + 1) < BB ^ 15 * BB ^ 15 := Nat.mul_lt_mul_of_lt_of_lt (by omega) (by omega)
    have e2 : (BB ^ 15 * BB ^ 15 : Nat) = 2 ^ 900 := by
      rw [← Nat.pow_add, show BB = 2 ^ 30 from rfl, ← Nat.pow_mul]
    rw [e2] at e1
    exact e1
  refine loop 900 (2 * u + 1) (2 * v + 1) c5 c10 0 c4 c9 0 hprod (by omega) (by omega) g4 g9 z_0 (by omega) ?_
  rw [hu, hv]
  rcases hodd with ho | ho
  · have hs0 : s = 0 := by
      rcases Nat.eq_zero_or_pos s with z | z
      · exact z
      · exfalso
        rw [hu, show s = s - 1 + 1 by omega, Nat.pow_succ, Nat.mul_comm (2 ^ (s - 1)) 2, Nat.mul_assoc] at ho
        omega
    rw [hs0, Nat.pow_zero, Nat.one_mul, Nat.gcd_comm (2 * u + 1) (2 ^ t * _), Nat.Coprime.gcd_mul_left_cancel _ (odd_cop (by omega) t), Nat.gcd_comm]
  · have ht0 : t = 0 := by
      rcases Nat.eq_zero_or_pos t with z | z
      · exact z
      · exfalso
        rw [hv, show t = t - 1 + 1 by omega, Nat.pow_succ, Nat.mul_comm (2 ^ (t - 1)) 2, Nat.mul_assoc] at ho
        omega
    rw [ht0, Nat.pow_zero, Nat.one_mul, Nat.Coprime.gcd_mul_left_cancel _ (odd_cop (by omega) s)]
