/-! A LEAGUE in the reference -/
section LEAGM
variable {vv vv' : Nat → Value} {ga op rc : Int32} {pt on ot rs dr : Nat → Int32} {G O C : Nat} {P A B R : Nat → Nat}
theorem zL5 : (5 : Int64).toInt = 5 := by decide
theorem zL100 : (100 : Int64).toInt = 100 := by decide
theorem S_Mo_isGame {v w : Int32} {Q : Int32 → Prop} (hq : ∀ r : Int32, (r = 1 ∧ okGm v.toInt w.toInt) ∨ (r = 0 ∧ ¬ okGm v.toInt w.toInt) → Q r) : P_Mo_isGame v w Q := by
  have no : ¬ okGm v.toInt w.toInt → E_Mo_isGame_33 Q := fun e => R_Mo_isGame_33 (R_Mo_isGame_34 ⟨rb0, hq _ (Or.inr ⟨rfl, e⟩)⟩)
  refine T_Mo_isGame (R_Mo_isGame_0 (S_Mo_in32 zL0 zL5 fun r1 h1 => ⟨fun e => no fun z => (bz h1).mp e z.1, fun e => S_Mo_in32 zL0 zL5 fun r2 h2 => R_Mo_isGame_21 ⟨fun e2 => no fun z => (bz h2).mp e2 z.2.1, fun e2 => ⟨fun e3 => no fun z => z.2.2 (by rw [e3]), fun e3 => R_Mo_isGame_34 ⟨rb1, hq _ (Or.inl ⟨rfl, Classical.not_not.mp (mt (bz h1).mpr e), Classical.not_not.mp (mt (bz h2).mpr e2), fun z => e3 ((i_eq _ _).mpr z)⟩)⟩⟩⟩⟩))
theorem S_Mo_isPoints {v w : Int32} {Q : Int32 → Prop} (hq : ∀ r : Int32, (r = 1 ∧ okPt v.toInt w.toInt) ∨ (r = 0 ∧ ¬ okPt v.toInt w.toInt) → Q r) : P_Mo_isPoints v w Q := by
  have no : ¬ okPt v.toInt w.toInt → E_Mo_isPoints_28 Q := fun e => R_Mo_isPoints_28 (R_Mo_isPoints_29 ⟨rb0, hq _ (Or.inr ⟨rfl, e⟩)⟩)
  exact T_Mo_isPoints (R_Mo_isPoints_0 (S_Mo_in32 zL0 zL100 fun r1 h1 => ⟨fun e => no fun z => (bz h1).mp e z.1, fun e => S_Mo_in32 zL0 zL100 fun r2 h2 => R_Mo_isPoints_21 ⟨fun e2 => no fun z => (bz h2).mp e2 z.2, fun e2 => R_Mo_isPoints_29 ⟨rb1, hq _ (Or.inl ⟨rfl, Classical.not_not.mp (mt (bz h1).mpr e), Classical.not_not.mp (mt (bz h2).mpr e2)⟩)⟩⟩⟩))
theorem S_Mo_note {v1 v2 v3 v4 : Int32} {a b : Nat} {Q : Int32 → (Nat → Int32) → Prop} (h : LgR ga op pt on ot rc rs G O P A B C R) (hG : G < 100) (h1 : v1.toInt = (a : Int)) (ha : a < 6) (h2 : v2.toInt = (b : Int)) (hb : b < 6) (hab : a ≠ b) (hq : ∀ (ga' : Int32) pt', LgR ga' op pt' on ot rc rs (G + 1) O (noteL P a b v3.toInt v4.toInt) A B C R → Q ga' pt') : P_Mo_note vv ga pt v1 v2 v3 v4 Q := by
  have hga := h.2.2.2.1
  have hpa := h.2.2.2.2.2.1 a ha
  have hpb := h.2.2.2.2.2.1 b hb
  have fin : ∀ (va s3 : Int32), va.toInt = ((P a + gpA v3.toInt v4.toInt : Nat) : Int) → s3.toInt = (gpA v4.toInt v3.toInt : Int) → E_Mo_note_58 vv ga (up pt a va) v2 (pt b) s3 Q := by
    intro va s3 hva hs3
    have g2 := gpA_le v4.toInt v3.toInt
    refine R_Mo_note_58 ⟨i_in h2 hb, fun x1 e1 => ?_⟩
    rw [i_nat h2]
    exact hq _ _ (h.note hG hab ha hb (by rw [e1]; exact i_suc hga (by omega)) hva (i_addN hpb.1 hs3 (by omega)) rfl)
  have mid : ∀ s3 : Int32, s3.toInt = (gpA v3.toInt v4.toInt : Int) → E_Mo_note_28 vv ga pt v2 v3 v4 v1 (pt a) s3 Q := by
    intro s3 hs3
    have g1 := gpA_le v3.toInt v4.toInt
    have k1 := i_addN hpa.1 hs3 (by omega)
    refine R_Mo_note_28 ⟨i_in h1 ha, i_in h2 hb, ?_⟩
    rw [i_nat h1, i_nat h2, up_ne (f := pt) (Ne.symm hab)]
    unfold gpA at fin
    refine ⟨fun y => R_Mo_note_47 ⟨fun y2 => R_Mo_note_57 (fin _ 0 k1 ?_), fun y2 => fin _ 1 k1 ?_⟩, fun y => fin _ 2 k1 ?_⟩
    · rw [i_le] at y
      rw [i_eq] at y2
      rw [if_neg (by omega), if_neg (by omega)]
      exact i_0
    · rw [i_eq] at y2
      rw [if_neg (by omega), if_pos y2.symm]
      exact i_1
    · rw [i_le] at y
      rw [if_pos (by omega)]
      exact i_2
  refine T_Mo_note (R_Mo_note_0 ⟨i_in h1 ha, ?_⟩)
  rw [i_nat h1]
  unfold gpA at mid
  refine ⟨fun y => R_Mo_note_17 ⟨fun y2 => R_Mo_note_27 (mid 0 ?_), fun y2 => mid 1 ?_⟩, fun y => mid 2 ?_⟩
  · rw [i_le] at y
    rw [i_eq] at y2
    rw [if_neg (by omega), if_neg (by omega)]
    exact i_0
  · rw [i_eq] at y2
    rw [if_neg (by omega), if_pos y2]
    exact i_1
  · rw [i_le] at y
    rw [if_pos (by omega)]
    exact i_2
theorem S_Mo_played {v1 v2 v3 v4 : Int32} {Q : Int32 → Int32 → (Nat → Int32) → Prop} (h : LgR ga op pt on ot rc rs G O P A B C R) (hq0 : ¬ (okGm v1.toInt v2.toInt ∧ okPt v3.toInt v4.toInt) → Q (-2) ga pt) (hqF : (okGm v1.toInt v2.toInt ∧ okPt v3.toInt v4.toInt) → G = 100 → Q (-4) ga pt) (hq : (okGm v1.toInt v2.toInt ∧ okPt v3.toInt v4.toInt) → G < 100 → ∀ (r ga' : Int32) pt', r.toInt = 1 → LgR ga' op pt' on ot rc rs (G + 1) O (noteL P v1.toInt.toNat v2.toInt.toNat v3.toInt v4.toInt) A B C R → Q r ga' pt') : P_Mo_played vv ga pt v1 v2 v3 v4 Q := by
  have hga := h.2.2.2.1
  have hG := h.1
  refine T_Mo_played (R_Mo_played_0 (S_Mo_isGame fun r1 h1 => ⟨fun e => R_Mo_played_17 (hq0 fun z => (bz h1).mp e z.1), fun e => S_Mo_isPoints fun r2 h2 => R_Mo_played_14 ⟨fun e2 => R_Mo_played_20 ?_, fun e2 => R_Mo_played_17 (hq0 fun z => (bz h2).mp e2 z.2)⟩⟩))
  have e' := Classical.not_not.mp (mt (bz h1).mpr e)
  have e2' := Classical.not_not.mp (mt (bz h2).mpr e2)
  refine ⟨fun y => R_Mo_played_32 ?_, fun y => hqF ⟨e', e2'⟩ ?_⟩
  · rw [i_eq, hga, z_100] at y
    exact S_Mo_note (a := v1.toInt.toNat) (b := v2.toInt.toNat) h (by omega) (by omega) (by omega) (by omega) (by omega) (by omega) fun ga' pt' hL => hq ⟨e', e2'⟩ (by omega) _ _ _ z_1 hL
  · rw [i_eq, hga, z_100] at y
    omega
theorem S_Mo_left {v1 v2 : Int32} {Q : Int32 → Int32 → (Nat → Int32) → (Nat → Int32) → Prop} (h : LgR ga op pt on ot rc rs G O P A B C R) (hq0 : ¬ okGm v1.toInt v2.toInt → Q (-2) op on ot) (hqF : okGm v1.toInt v2.toInt → O = 9 → Q (-4) op on ot) (hq : okGm v1.toInt v2.toInt → O < 9 → ∀ (r op' : Int32) on' ot', r.toInt = ((O + 1 : Nat) : Int) → LgR ga op' pt on' ot' rc rs G (O + 1) P (up A O v1.toInt.toNat) (up B O v2.toInt.toNat) C R → Q r op' on' ot') : P_Mo_left vv op on ot v1 v2 Q := by
  have hop := h.2.2.2.2.1
  have hO := h.2.1
  refine T_Mo_left (R_Mo_left_0 (S_Mo_isGame fun r1 h1 => ⟨fun e => R_Mo_left_11 ?_, fun e => hq0 ((bz h1).mp e)⟩))
  have e' := Classical.not_not.mp (mt (bz h1).mpr e)
  refine ⟨fun y => R_Mo_left_23 ?_, fun y => hqF e' ?_⟩
  · rw [i_eq, hop, z_9] at y
    refine ⟨i_in hop (by omega), i_in hop (by omega), fun x1 e1 => ?_⟩
    have hx1 : x1.toInt = ((O + 1 : Nat) : Int) := by rw [e1]; exact i_suc hop (by omega)
    rw [i_nat hop]
    exact hq e' (by omega) _ _ _ _ hx1 (h.leave (by omega) e' hx1 rfl rfl)
  · rw [i_eq, hop, z_9] at y
    omega
theorem S_Mo_next {v1 v2 : Int32} {Q : Int32 → Int32 → Int32 → (Nat → Int32) → (Nat → Int32) → (Nat → Int32) → Prop} (h : LgR ga op pt on ot rc rs G O P A B C R) (hq0 : ¬ okPt v1.toInt v2.toInt → Q (-2) ga op pt on ot) (hqN : okPt v1.toInt v2.toInt → O = 0 → Q (-3) ga op pt on ot) (hqF : okPt v1.toInt v2.toInt → 0 < O → G = 100 → Q (-4) ga op pt on ot) (hq : okPt v1.toInt v2.toInt → 0 < O → G < 100 → ∀ (r ga' op' : Int32) pt' on' ot', r.toInt = ((O - 1 : Nat) : Int) → LgR ga' op' pt' on' ot' rc rs (G + 1) (O - 1) (noteL P (A 0) (B 0) v1.toInt v2.toInt) (fun i => A (i + 1)) (fun i => B (i + 1)) C R → Q r ga' op' pt' on' ot') : P_Mo_next vv ga op pt on ot v1 v2 Q := by
  have hop := h.2.2.2.2.1
  have hO := h.2.1
  have hga := h.2.2.2.1
  have hG := h.1
  refine T_Mo_next (R_Mo_next_0 (S_Mo_isPoints fun r1 h1 => ⟨fun e => R_Mo_next_11 ?_, fun e => hq0 ((bz h1).mp e)⟩))
  have e' := Classical.not_not.mp (mt (bz h1).mpr e)
  refine ⟨fun y => R_Mo_next_21 ⟨fun y2 => R_Mo_next_33 ?_, fun y2 => hqF e' ?_ ?_⟩, fun y => hqN e' ?_⟩
  · rw [i_lit0 hop] at y
    rw [i_eq, hga, z_100] at y2
    obtain ⟨k1, k2, k3, k4, k5⟩ := h.2.2.2.2.2.2.1 0 (by omega)
    refine ⟨i_in i_0 (by omega), i_in i_0 (by omega), ?_⟩
    rw [i_nat i_0]
    refine S_Mo_note h (by omega) k1 k3 k2 k4 k5 fun ga' pt' hL x4 e4 => ?_
    have hx4 : x4.toInt = ((O - 1 : Nat) : Int) := by rw [e4]; exact i_subN hop i_1 (by omega)
    have loop : ∀ (u i : Nat) (on' ot' : Nat → Int32) (v3 : Int32), i + u = O - 1 → v3.toInt = (i : Int) → (∀ j, j < i → on' j = on (j + 1) ∧ ot' j = ot (j + 1)) → (∀ j, i ≤ j → on' j = on j ∧ ot' j = ot j) → E_Mo_next_63 vv ga' x4 pt' on' ot' v3 Q := by
      intro u
      induction u with
      | zero =>
        intro i on' ot' v3 hu h3 hd _
        refine R_Mo_next_63 ⟨fun _ => R_Mo_next_105 (hq e' (by omega) (by omega) _ _ _ _ _ _ hx4 (hL.shift (by omega) hx4 (fun j hj => (hd j (by omega)).1) (fun j hj => (hd j (by omega)).2))), fun y => absurd (by rw [i_le]; omega) y⟩
      | succ u ih =>
        intro i on' ot' v3 hu h3 hd hr'
        have h31 := i_suc h3 (by omega)
        refine R_Mo_next_63 ⟨fun y => absurd y (by rw [i_le]; omega), fun _ => ⟨i_in h31 (by omega), i_in h3 (by omega), i_in h31 (by omega), i_in h3 (by omega), fun x5 e5 => ?_⟩⟩
        rw [i_nat h31, i_nat h3]
        refine ih (i + 1) _ _ x5 (by omega) (by rw [e5]; exact h31) (fun j hj => ?_) (fun j hj => ?_)
        · by_cases ej : j = i
          · rw [ej, up_same, up_same]
            exact hr' (i + 1) (by omega)
          · rw [up_ne ej, up_ne ej]
            exact hd j (by omega)
        · rw [up_ne (by omega), up_ne (by omega)]
          exact hr' j (by omega)
    exact loop (O - 1) 0 on ot 0 (by omega) i_0 (fun j hj => by omega) (fun _ _ => ⟨rfl, rfl⟩)
  · rw [i_lit0 hop] at y
    omega
  · rw [i_eq, hga, z_100] at y2
    omega
  · rw [i_lit0 hop] at y
    exact y
theorem S_Mo_has {v1 : Int32} {Q : Int32 → Prop} (h : LgR ga op pt on ot rc rs G O P A B C R) (hq : ∀ r : Int32, r.toInt = hasZ P v1.toInt → Q r) : P_Mo_has vv pt v1 Q := by
  unfold hasZ at hq
  refine T_Mo_has (R_Mo_has_0 (S_Mo_in32 zL0 zL5 fun r1 h1 => ⟨fun e => R_Mo_has_21 (R_Mo_has_23 (hq _ (by rw [if_neg ((bz h1).mp e), z_m2]))), fun e => ?_⟩))
  have e' := Classical.not_not.mp (mt (bz h1).mpr e)
  have hv : v1.toInt = (v1.toInt.toNat : Int) := by omega
  refine ⟨i_in hv (by omega), R_Mo_has_23 (hq _ ?_)⟩
  rw [if_pos e', i_nat hv]
  exact (h.2.2.2.2.2.1 _ (by omega)).1
theorem S_Mo_how {v1 : Int32} {Q : Int32 → Prop} (h : LgR ga op pt on ot rc rs G O P A B C R) (hq : ∀ r : Int32, r.toInt = howZ C R v1.toInt → Q r) : P_Mo_how vv rc rs v1 Q := by
  obtain ⟨h1, h2, h3, h4, h5, h6, h7, h8, h9⟩ := h
  unfold howZ at hq
  refine T_Mo_how (R_Mo_how_0 (S_Mo_in32 zL0 (i_wide (i_sub h8 z_1 (by omega) (by omega))) fun r1 hr => ⟨fun e => R_Mo_how_25 (R_Mo_how_26 (hq _ ?_)), fun e => ?_⟩))
  · have := (bz hr).mp e
    rw [if_neg (by omega), z_m1]
  · have e' := Classical.not_not.mp (mt (bz hr).mpr e)
    have hv : v1.toInt = (v1.toInt.toNat : Int) := by omega
    refine ⟨i_in hv (by omega), R_Mo_how_26 (hq _ ?_)⟩
    rw [if_pos (by omega), i_nat hv]
    exact (h9 _ (by omega)).1
theorem S_Mo_resultOf {v1 v2 : Int32} {x g : Nat} {Q : Int32 → Prop} (hop : op.toInt = (O : Int)) (hO : O ≤ 9) (h1 : v1.toInt = (x : Int)) (h2 : v2.toInt = (g : Int)) (hg : g < O) (hq : ∀ r : Int32, r.toInt = ((x / 3 ^ (O - 1 - g) % 3 : Nat) : Int) → Q r) : P_Mo_resultOf vv op v1 v2 Q := by
  have i_3 : (3 : Int32).toInt = ((3 : Nat) : Int) := by decide
  have loop : ∀ (w j : Nat) (v3 v4 : Int32), j + w = O - 1 - g → v4.toInt = ((O - 1 - j : Nat) : Int) → v3.toInt = ((x / 3 ^ j : Nat) : Int) → E_Mo_resultOf_10 vv op v2 v3 v4 Q := by
    intro w
    induction w with
    | zero =>
      intro j v3 v4 hw h4 h3
      have : j = O - 1 - g := by omega
      subst this
      exact R_Mo_resultOf_10 ⟨fun _ => R_Mo_resultOf_26 ⟨by decide, hq _ (i_remN h3 i_3 (by omega))⟩, fun y => absurd (by rw [i_le]; omega) y⟩
    | succ w ih =>
      intro j v3 v4 hw h4 h3
      refine R_Mo_resultOf_10 ⟨fun y => absurd y (by rw [i_le]; omega), fun _ => ⟨by decide, fun x2 e2 x3 e3 => ih (j + 1) x2 x3 (by omega) (by rw [e3, i_add h4 z_m1 (by omega) (by omega)]; omega) ?_⟩⟩
      rw [e2, i_divN h3 i_3 (by omega), Nat.div_div_eq_div_mul, Nat.pow_succ]
  exact T_Mo_resultOf (R_Mo_resultOf_0 fun x1 e1 => loop (O - 1 - g) 0 v1 x1 (by omega) (by rw [e1, i_subN hop i_1 (by omega)]; rfl) (by rw [Nat.pow_zero, Nat.div_one]; exact h1))
/-- as far as d games -/
def prfL (A B : Nat → Nat) (O : Nat) (P : Nat → Nat) (x : Nat) : Nat → (Nat → Nat)
  | 0 => P
  | d + 1 => appL A B (prfL A B O P x d) d (x / 3 ^ (O - 1 - d) % 3)
theorem prf_fin (A B : Nat → Nat) (O : Nat) (P : Nat → Nat) (x : Nat) : ∀ u d, d + u = O → finL A B u d (prfL A B O P x d) x = prfL A B O P x O
  | 0, d, h => by rw [show d = O by omega]; rfl
  | u + 1, d, h => by
    simp only [finL]
    have := prf_fin A B O P x u (d + 1) (by omega)
    simp only [prfL] at this
    rw [show O - 1 - d = u by omega] at this
    exact this
theorem S_Mo_isFirst {v1 v2 : Int32} {team x : Nat} {Q : Int32 → (Nat → Int32) → Prop} (h : LgR ga op pt on ot rc rs G O P A B C R) (h1 : v1.toInt = (team : Int)) (ht : team < 6) (h2 : v2.toInt = (x : Int)) (hq : ∀ (r : Int32) dr', (r = 0 ↔ okL6 (finL A B O 0 P x) team = false) → Q r dr') : P_Mo_isFirst vv op pt on ot dr v1 v2 Q := by
  obtain ⟨l1, l2, l3, l4, l5, l6, l7, l8, l9⟩ := h
  have hfin := prf_fin A B O P x O 0 (by omega)
  have hfin' : finL A B O 0 P x = prfL A B O P x O := hfin
  rw [hfin'] at hq
  have tests : ∀ (w t : Nat) (D : Nat → Int32) (v3 v4 : Int32), t + w = 6 → v4.toInt = (t : Int) → rx_bool v3 → (∀ t, t < 6 → (D t).toInt = (prfL A B O P x O t : Int)) → (v3 = 0 ↔ allL (prfL A B O P x O) team t = false) → E_Mo_isFirst_89 vv op pt on ot D v1 v3 v4 Q := by
    intro w
    induction w with
    | zero =>
      intro t D v3 v4 hw h4 hb hD h3
      have : t = 6 := by omega
      subst this
      exact R_Mo_isFirst_89 ⟨fun _ => R_Mo_isFirst_128 ⟨hb, hq _ _ h3⟩, fun y => absurd (by rw [i_le, z_6]; omega) y⟩
    | succ w ih =>
      intro t D v3 v4 hw h4 hb hD h3
      have no : allL (prfL A B O P x O) team (t + 1) = false → E_Mo_isFirst_120 vv op pt on ot D v1 v4 Q := fun z => R_Mo_isFirst_120 (R_Mo_isFirst_121 fun x4 e4 => ih (t + 1) D 0 x4 (by omega) (by rw [e4]; exact i_suc h4 (by omega)) rb0 hD ⟨fun _ => z, fun _ => rfl⟩)
      refine R_Mo_isFirst_89 ⟨fun y => absurd y (by rw [i_le, z_6]; omega), fun _ => ⟨fun y => no ?_, fun y => ⟨i_in h4 (by omega), i_in h1 ht, fun y2 => no ?_, fun y2 => R_Mo_isFirst_121 fun x4 e4 => ih (t + 1) D 1 x4 (by omega) (by rw [e4]; exact i_suc h4 (by omega)) rb1 hD ⟨fun z => absurd z (by decide), fun z => ?_⟩⟩⟩⟩
      · simp only [allL, h3.mp y, Bool.false_and]
      · rw [i_nat h4, i_nat h1, i_lt, hD _ ht, hD _ (by omega)] at y2
        simp only [allL]
        rw [decide_eq_false (by omega), Bool.and_false]
      · rw [i_nat h4, i_nat h1, i_lt, hD _ ht, hD _ (by omega)] at y2
        have ha : allL (prfL A B O P x O) team t = true := by
          cases e : allL (prfL A B O P x O) team t with
          | true => rfl
          | false => exact absurd (h3.mpr e) y
        simp only [allL, ha, Bool.true_and] at z
        exact absurd (of_decide_eq_false z) (by omega)
  have pb : ∀ d t, d ≤ O → t < 6 → prfL A B O P x d t ≤ 200 + 2 * d := fun d t => by
    induction d with
    | zero =>
      intro _ ht6
      have := (l6 t ht6).2
      show P t ≤ _
      omega
    | succ d ih =>
      intro hd ht6
      have h1 := ih (by omega) ht6
      have hr : x / 3 ^ (O - 1 - d) % 3 ≤ 2 := by
        have := Nat.mod_lt (x / 3 ^ (O - 1 - d)) (show 0 < 3 by decide)
        omega
      have h2 := app_le (P := prfL A B O P x d) (r := x / 3 ^ (O - 1 - d) % 3) hr (l7 d (by omega)).2.2.2.2 t
      simp only [prfL]
      split at h2 <;> omega
  have games : ∀ (w d : Nat) (D : Nat → Int32) (v3 : Int32), d + w = O → v3.toInt = (d : Int) → (∀ t, t < 6 → (D t).toInt = (prfL A B O P x d t : Int)) → E_Mo_isFirst_28 vv op pt on ot D v1 v2 v3 Q := by
    intro w
    induction w with
    | zero =>
      intro d D v3 hw h3 hD
      have : d = O := by omega
      subst this
      exact R_Mo_isFirst_28 ⟨fun _ => R_Mo_isFirst_84 (tests 6 0 D 1 0 (by omega) i_0 rb1 hD ⟨fun z => absurd z (by decide), fun z => absurd (show true = false from z) (by decide)⟩), fun y => absurd (by rw [i_le]; omega) y⟩
    | succ w ih =>
      intro d D v3 hw h3 hD
      obtain ⟨k1, k2, k3, k4, k5⟩ := l7 d (by omega)
      refine R_Mo_isFirst_28 ⟨fun y => absurd y (by rw [i_le]; omega), fun _ => S_Mo_resultOf l5 l2 h2 h3 (by omega) fun r2 e2 => ?_⟩
      rw [i_nat h3]
      refine ⟨i_in h3 (by omega), i_in k1 k3, i_in k1 k3, i_in h3 (by omega), i_in k2 k4, i_in k2 k4, fun x3 e3 => ?_⟩
      rw [i_nat k1, i_nat k2, up_ne (f := D) (Ne.symm k5)]
      have hr : x / 3 ^ (O - 1 - d) % 3 ≤ 2 := by
        have := Nat.mod_lt (x / 3 ^ (O - 1 - d)) (show 0 < 3 by decide)
        omega
      generalize hrr : x / 3 ^ (O - 1 - d) % 3 = r at *
      have pa := pb d (A d) (by omega) k3
      have pbb := pb d (B d) (by omega) k4
      refine ih (d + 1) _ x3 (by omega) (by rw [e3]; exact i_suc h3 (by omega)) fun t ht6 => ?_
      simp only [prfL]
      rw [hrr]
      unfold appL
      rw [up_ne (f := prfL A B O P x d) (Ne.symm k5)]
      by_cases e : t = B d
      · rw [e, up_same, up_same]
        exact i_addN (hD _ k4) e2 (by omega)
      · rw [up_ne e, up_ne e]
        by_cases e' : t = A d
        · rw [e', up_same, up_same]
          exact i_addN (hD _ k3) (i_subN i_2 e2 hr) (by omega)
        · rw [up_ne e', up_ne e']
          exact hD t ht6
  have lay : ∀ (w t : Nat) (D : Nat → Int32) (v3 : Int32), t + w = 6 → v3.toInt = (t : Int) → (∀ t', t' < t → D t' = pt t') → E_Mo_isFirst_2 vv op pt on ot D v1 v2 v3 Q := by
    intro w
    induction w with
    | zero =>
      intro t D v3 hw h3 hD
      exact R_Mo_isFirst_2 ⟨fun _ => R_Mo_isFirst_26 (games O 0 D 0 (by omega) i_0 fun t' ht' => by rw [hD t' (by omega)]; exact (l6 t' ht').1), fun y => absurd (by rw [i_le, z_6]; omega) y⟩
    | succ w ih =>
      intro t D v3 hw h3 hD
      refine R_Mo_isFirst_2 ⟨fun y => absurd y (by rw [i_le, z_6]; omega), fun _ => ⟨i_in h3 (by omega), i_in h3 (by omega), fun x1 e1 => ?_⟩⟩
      rw [i_nat h3]
      refine ih (t + 1) _ x1 (by omega) (by rw [e1]; exact i_suc h3 (by omega)) fun t' ht' => ?_
      by_cases e : t' = t
      · rw [e, up_same]
      · rw [up_ne e]; exact hD t' (by omega)
  exact T_Mo_isFirst (R_Mo_isFirst_0 (lay 6 0 dr 0 (by omega) i_0 fun t' ht' => by omega))
theorem S_Mo_can {v1 : Int32} {Q : Int32 → Int32 → (Nat → Int32) → (Nat → Int32) → Prop} (h : LgR ga op pt on ot rc rs G O P A B C R) (hq0 : ¬ okTm v1.toInt → Q (-2) rc rs dr) (hqN : okTm v1.toInt → canL A B P O v1.toInt.toNat = none → ∀ dr', Q 0 rc rs dr') (hq : okTm v1.toInt → ∀ z, canL A B P O v1.toInt.toNat = some z → ∀ (rc' : Int32) rs' dr', LgR ga op pt on ot rc' rs' G O P A B O (resL O z) → Q 1 rc' rs' dr') : P_Mo_can vv op rc pt on ot rs dr v1 Q := by
  have i_3 : (3 : Int32).toInt = ((3 : Nat) : Int) := by decide
  refine T_Mo_can (R_Mo_can_0 (S_Mo_in32 zL0 zL5 fun r1 h1 => ⟨fun e => R_Mo_can_15 ?_, fun e => hq0 ((bz h1).mp e)⟩))
  have e' := Classical.not_not.mp (mt (bz h1).mpr e)
  have hqN := hqN e'
  have hq := hq e'
  unfold canL at hqN hq
  rw [sr_fz] at hqN hq
  have p9 : ∀ i, i ≤ 9 → 3 ^ i ≤ 19683 := fun i hi => Nat.pow_le_pow_right (n := 3) (by decide) hi
  have l2 := h.2.1
  have l5 := h.2.2.2.2.1
  have hv1 : v1.toInt = (v1.toInt.toNat : Int) := by omega
  have hv6 : v1.toInt.toNat < 6 := by omega
  generalize v1.toInt.toNat = team at *
  have told : ∀ (z : Nat), fzL (fun x => okL6 (finL A B O 0 P x) team) (3 ^ O) 0 = some z → ∀ (w i : Nat) (RS D : Nat → Int32) (v3 v4 : Int32), v3.toInt = (z : Int) → i + w = O → v4.toInt = (i : Int) → (∀ j, j < i → (RS j).toInt = (resL O z j : Int)) → E_Mo_can_64 vv op op pt on ot RS D v3 v4 Q := by
    intro z hz w
    induction w with
    | zero =>
      intro i RS D v3 v4 h3 hw h4 hRS
      refine R_Mo_can_64 ⟨fun _ => R_Mo_can_93 (hq z hz _ _ _ ?_), fun y => absurd (by rw [i_le]; omega) y⟩
      obtain ⟨m1, m2, m3, m4, m5, m6, m7, m8, m9⟩ := h
      refine ⟨m1, m2, m2, m4, m5, m6, m7, m5, fun j hj => ⟨hRS j (by omega), ?_⟩⟩
      unfold resL
      have := Nat.mod_lt (z / 3 ^ (O - 1 - j)) (show 0 < 3 by decide)
      omega
    | succ w ih =>
      intro i RS D v3 v4 h3 hw h4 hRS
      refine R_Mo_can_64 ⟨fun y => absurd y (by rw [i_le]; omega), fun _ => S_Mo_resultOf l5 l2 h3 h4 (by omega) fun r7 e7 => ⟨i_in h4 (by omega), fun x8 e8 => ?_⟩⟩
      rw [i_nat h4]
      refine ih (i + 1) _ D v3 x8 h3 (by omega) (by rw [e8]; exact i_suc h4 (by omega)) fun j hj => ?_
      by_cases ej : j = i
      · rw [ej, up_same]; exact e7
      · rw [up_ne ej]; exact hRS j (by omega)
  have search : ∀ (w x : Nat) (D : Nat → Int32) (v2 v3 : Int32), v2.toInt = ((3 ^ O : Nat) : Int) → x + w = 3 ^ O → v3.toInt = (x : Int) → fzL (fun x => okL6 (finL A B O 0 P x) team) (3 ^ O) 0 = fzL (fun x => okL6 (finL A B O 0 P x) team) w x → E_Mo_can_39 vv op rc pt on ot rs D v1 v2 v3 Q := by
    intro w
    induction w with
    | zero =>
      intro x D v2 v3 h2 hw h3 hf
      exact R_Mo_can_39 ⟨fun _ => R_Mo_can_101 (hqN (by rw [hf]; rfl) _), fun y => absurd (by rw [i_le]; omega) y⟩
    | succ w ih =>
      intro x D v2 v3 h2 hw h3 hf
      have h9 := p9 O l2
      refine R_Mo_can_39 ⟨fun y => absurd y (by rw [i_le]; omega), fun _ => S_Mo_isFirst h hv1 hv6 h3 fun r4 D' hr => ⟨fun y => R_Mo_can_95 fun x6 e6 => ih (x + 1) D' v2 x6 h2 (by omega) (by rw [e6]; exact i_suc h3 (by omega)) ?_, fun y => told x ?_ O 0 rs D' v3 0 h3 (by omega) i_0 (fun j hj => by omega)⟩⟩
      · rw [hf]
        simp only [fzL]
        rw [if_neg (by rw [hr.mp y]; decide)]
      · have ht : okL6 (finL A B O 0 P x) team = true := by
          cases e : okL6 (finL A B O 0 P x) team with
          | true => rfl
          | false => exact absurd (hr.mpr e) y
        rw [hf]
        simp only [fzL]
        rw [if_pos ht]
  have many : ∀ (w i : Nat) (v2 v3 : Int32), i + w = O → v3.toInt = (i : Int) → v2.toInt = ((3 ^ i : Nat) : Int) → E_Mo_can_19 vv op rc pt on ot rs dr v1 v2 v3 Q := by
    intro w
    induction w with
    | zero =>
      intro i v2 v3 hw h3 h2
      have : i = O := by omega
      subst this
      exact R_Mo_can_19 ⟨fun _ => R_Mo_can_37 (search (3 ^ i) 0 dr v2 0 h2 (by omega) i_0 rfl), fun y => absurd (by rw [i_le]; omega) y⟩
    | succ w ih =>
      intro i v2 v3 hw h3 h2
      have h9 := p9 i (by omega)
      refine R_Mo_can_19 ⟨fun y => absurd y (by rw [i_le]; omega), fun _ x2 e2 x3 e3 => ih (i + 1) x2 x3 (by omega) (by rw [e3]; exact i_suc h3 (by omega)) ?_⟩
      rw [e2, Nat.pow_succ]
      exact i_mulN h2 i_3 (by omega)
  exact many O 0 1 0 (by omega) i_0 (by rw [Nat.pow_zero]; exact i_1)
end LEAGM
