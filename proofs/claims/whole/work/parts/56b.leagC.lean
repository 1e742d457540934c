/-! A LEAGUE in the class -/
theorem z_100 : (100 : Int32).toInt = 100 := by decide
theorem z_6 : (6 : Int32).toInt = 6 := by decide
theorem z_9 : (9 : Int32).toInt = 9 := by decide
abbrev okTm (v : Int) : Prop := 0 ≤ v ∧ v ≤ 5
abbrev okGm (a b : Int) : Prop := okTm a ∧ okTm b ∧ a ≠ b
abbrev okPt (x y : Int) : Prop := (0 ≤ x ∧ x ≤ 100) ∧ (0 ≤ y ∧ y ≤ 100)
section LEAGC
variable {vv vv' : Nat → Value} {ga op rc : Int32} {pt on ot rs af tr : Nat → Int32} {G O C : Nat} {P A B R : Nat → Nat}
theorem S_Leag_isTeam {v : Int32} {Q : Int32 → Prop} (hq : ∀ r : Int32, (r = 1 ∧ okTm v.toInt) ∨ (r = 0 ∧ ¬ okTm v.toInt) → Q r) : P_Leag_isTeam v Q := by
  refine T_Leag_isTeam (R_Leag_isTeam_0 (S_F_isWithin fun r h => ?_))
  rw [z_0, z_5] at h
  refine ⟨?_, hq r h⟩
  rcases h with h | h
  · exact Or.inr h.1
  · exact Or.inl h.1
theorem S_Leag_isGame {v w : Int32} {Q : Int32 → Prop} (hq : ∀ r : Int32, (r = 1 ∧ okGm v.toInt w.toInt) ∨ (r = 0 ∧ ¬ okGm v.toInt w.toInt) → Q r) : P_Leag_isGame v w Q := by
  have no : ¬ okGm v.toInt w.toInt → E_Leag_isGame_23 Q := fun e => R_Leag_isGame_23 (R_Leag_isGame_24 ⟨rb0, hq _ (Or.inr ⟨rfl, e⟩)⟩)
  refine T_Leag_isGame (R_Leag_isGame_0 (S_Leag_isTeam fun r1 h1 => ⟨fun e => no fun z => (bz h1).mp e z.1, fun e => S_Leag_isTeam fun r2 h2 => ⟨fun e2 => no fun z => (bz h2).mp e2 z.2.1, fun e2 => ⟨fun e3 => no fun z => z.2.2 (by rw [e3]), fun e3 => R_Leag_isGame_24 ⟨rb1, hq _ (Or.inl ⟨rfl, Classical.not_not.mp (mt (bz h1).mpr e), Classical.not_not.mp (mt (bz h2).mpr e2), fun z => e3 ((i_eq _ _).mpr z)⟩)⟩⟩⟩⟩))
theorem S_Leag_arePoints {v w : Int32} {Q : Int32 → Prop} (hq : ∀ r : Int32, (r = 1 ∧ okPt v.toInt w.toInt) ∨ (r = 0 ∧ ¬ okPt v.toInt w.toInt) → Q r) : P_Leag_arePoints v w Q := by
  have no : ¬ okPt v.toInt w.toInt → E_Leag_arePoints_24 Q := fun e => R_Leag_arePoints_24 (R_Leag_arePoints_25 ⟨rb0, hq _ (Or.inr ⟨rfl, e⟩)⟩)
  refine T_Leag_arePoints (R_Leag_arePoints_0 (S_F_isWithin fun r1 h1 => ?_))
  rw [z_0, z_100] at h1
  refine ⟨fun e => no fun z => (bz h1).mp e z.1, fun e => S_F_isWithin fun r2 h2 => ?_⟩
  rw [z_0, z_100] at h2
  exact ⟨fun e2 => no fun z => (bz h2).mp e2 z.2, fun e2 => R_Leag_arePoints_25 ⟨rb1, hq _ (Or.inl ⟨rfl, Classical.not_not.mp (mt (bz h1).mpr e), Classical.not_not.mp (mt (bz h2).mpr e2)⟩)⟩⟩
theorem S_Ji_compare {v w : Int32} {Q : Int32 → Prop} (hq : ∀ r : Int32, r.toInt = (gpA v.toInt w.toInt : Int) - 1 → Q r) : P_Ji_compare v w Q := by
  unfold gpA at hq
  refine T_Ji_compare (R_Ji_compare_0 ⟨fun c => R_Ji_compare_9 ⟨fun c2 => R_Ji_compare_18 (R_Ji_compare_19 (hq _ ?_)), fun c2 => R_Ji_compare_19 (hq _ ?_)⟩, fun c => R_Ji_compare_19 (hq _ ?_)⟩)
  · rw [i_le] at c
    rw [i_eq] at c2
    rw [if_pos (by omega), z_1]
    rfl
  · rw [i_eq] at c2
    rw [if_neg (by omega), if_pos c2, z_0]
    rfl
  · rw [i_le] at c
    rw [if_neg (by omega), if_neg (by omega), z_m1]
    rfl
theorem gpA_le (x y : Int) : gpA x y ≤ 2 := by
  unfold gpA
  split
  · omega
  · split <;> omega
theorem LgR.note {pt' : Nat → Int32} {ga' : Int32} {a b : Nat} {x y : Int} {va vb : Int32} (h : LgR ga op pt on ot rc rs G O P A B C R) (hG : G < 100) (hab : a ≠ b) (ha : a < 6) (hb : b < 6) (hg : ga'.toInt = ((G + 1 : Nat) : Int)) (hva : va.toInt = ((P a + gpA x y : Nat) : Int)) (hvb : vb.toInt = ((P b + gpA y x : Nat) : Int)) (hp : pt' = up (up pt a va) b vb) : LgR ga' op pt' on ot rc rs (G + 1) O (noteL P a b x y) A B C R := by
  obtain ⟨h1, h2, h3, h4, h5, h6, h7⟩ := h
  refine ⟨by omega, h2, h3, hg, h5, fun t ht => ?_, h7⟩
  have g1 := gpA_le x y
  have g2 := gpA_le y x
  unfold noteL
  rw [hp, up_ne (f := P) (Ne.symm hab)]
  by_cases e : t = b
  · rw [e, up_same, up_same]
    have := (h6 b hb).2
    exact ⟨hvb, by omega⟩
  · rw [up_ne e, up_ne e]
    by_cases e2 : t = a
    · rw [e2, up_same, up_same]
      have := (h6 a ha).2
      exact ⟨hva, by omega⟩
    · rw [up_ne e2, up_ne e2]
      have := h6 t ht
      exact ⟨this.1, by omega⟩
theorem S_Leag_play {v1 v2 v3 v4 : Int32} {a b : Nat} {Q : Int32 → Int32 → (Nat → Int32) → Prop} (h : LgR ga op pt on ot rc rs G O P A B C R) (h1 : v1.toInt = (a : Int)) (ha : a < 6) (h2 : v2.toInt = (b : Int)) (hb : b < 6) (hab : a ≠ b) (hqF : G = 100 → Q (-4) ga pt) (hq : G < 100 → ∀ (r ga' : Int32) pt', r = 1 → LgR ga' op pt' on ot rc rs (G + 1) O (noteL P a b v3.toInt v4.toInt) A B C R → Q r ga' pt') : P_Leag_play vv ga pt v1 v2 v3 v4 Q := by
  have hG := h.1
  have hga := h.2.2.2.1
  have hpa := h.2.2.2.2.2.1 a ha
  have hpb := h.2.2.2.2.2.1 b hb
  refine T_Leag_play (R_Leag_play_0 ⟨fun y => R_Leag_play_12 fun x1 e1 => ⟨i_in h1 ha, S_Ji_compare fun r2 e2 => ⟨i_in h1 ha, i_in h2 hb, S_Ji_compare fun r3 e3 => ⟨i_in h2 hb, ?_⟩⟩⟩, fun y => hqF ?_⟩)
  · rw [i_lt, hga, z_100] at y
    have g1 := gpA_le v3.toInt v4.toInt
    have g2 := gpA_le v4.toInt v3.toInt
    rw [i_nat h1, i_nat h2, up_ne (f := pt) (Ne.symm hab)]
    have k1 : (pt a + ((1 : Int32) + r2)).toInt = ((P a + gpA v3.toInt v4.toInt : Nat) : Int) := by
      rw [i_add hpa.1 (i_add z_1 e2 (by omega) (by omega)) (by omega) (by omega)]
      omega
    have k2 : (pt b + ((1 : Int32) + r3)).toInt = ((P b + gpA v4.toInt v3.toInt : Nat) : Int) := by
      rw [i_add hpb.1 (i_add z_1 e3 (by omega) (by omega)) (by omega) (by omega)]
      omega
    exact hq (by omega) _ _ _ rfl (h.note (by omega) hab ha hb (by rw [e1]; exact i_suc hga (by omega)) k1 k2 rfl)
  · rw [i_lt, hga, z_100] at y
    omega
theorem S_F_played {v1 v2 v3 v4 : Int32} {Q : Int32 → Int32 → (Nat → Int32) → Prop} (h : LgR ga op pt on ot rc rs G O P A B C R) (hq0 : ¬ (okGm v1.toInt v2.toInt ∧ okPt v3.toInt v4.toInt) → Q (-2) ga pt) (hqF : (okGm v1.toInt v2.toInt ∧ okPt v3.toInt v4.toInt) → G = 100 → Q (-4) ga pt) (hq : (okGm v1.toInt v2.toInt ∧ okPt v3.toInt v4.toInt) → G < 100 → ∀ (r ga' : Int32) pt', r.toInt = 1 → LgR ga' op pt' on ot rc rs (G + 1) O (noteL P v1.toInt.toNat v2.toInt.toNat v3.toInt v4.toInt) A B C R → Q r ga' pt') : P_F_played vv vv' ga pt v1 v2 v3 v4 Q := by
  refine T_F_played (R_F_played_0 (S_Leag_isGame fun r1 h1 => ⟨fun e => R_F_played_17 (hq0 fun z => (bz h1).mp e z.1), fun e => S_Leag_arePoints fun r2 h2 => ⟨fun e2 => R_F_played_20 ?_, fun e2 => R_F_played_17 (hq0 fun z => (bz h2).mp e2 z.2)⟩⟩))
  have e' := Classical.not_not.mp (mt (bz h1).mpr e)
  have e2' := Classical.not_not.mp (mt (bz h2).mpr e2)
  exact S_Leag_play (a := v1.toInt.toNat) (b := v2.toInt.toNat) h (by omega) (by omega) (by omega) (by omega) (by omega) (fun z => hqF ⟨e', e2'⟩ z) fun z r ga' pt' hr hL => hq ⟨e', e2'⟩ z _ _ _ (by rw [hr, z_1]) hL
theorem LgR.leave {on' ot' : Nat → Int32} {op' v1 v2 : Int32} (h : LgR ga op pt on ot rc rs G O P A B C R) (hO : O < 9) (hg : okGm v1.toInt v2.toInt) (ho : op'.toInt = ((O + 1 : Nat) : Int)) (e1 : on' = up on O v1) (e2 : ot' = up ot O v2) : LgR ga op' pt on' ot' rc rs G (O + 1) P (up A O v1.toInt.toNat) (up B O v2.toInt.toNat) C R := by
  obtain ⟨h1, h2, h3, h4, h5, h6, h7, h8⟩ := h
  refine ⟨h1, by omega, h3, h4, ho, h6, fun i hi => ?_, h8⟩
  by_cases e : i = O
  · rw [e1, e2, e, up_same, up_same, up_same, up_same]
    omega
  · rw [e1, e2, up_ne e, up_ne e, up_ne e, up_ne e]
    exact h7 i (by omega)
theorem S_F_left {v1 v2 : Int32} {Q : Int32 → Int32 → (Nat → Int32) → (Nat → Int32) → Prop} (h : LgR ga op pt on ot rc rs G O P A B C R) (hq0 : ¬ okGm v1.toInt v2.toInt → Q (-2) op on ot) (hqF : okGm v1.toInt v2.toInt → O = 9 → Q (-4) op on ot) (hq : okGm v1.toInt v2.toInt → O < 9 → ∀ (r op' : Int32) on' ot', r.toInt = ((O + 1 : Nat) : Int) → LgR ga op' pt on' ot' rc rs G (O + 1) P (up A O v1.toInt.toNat) (up B O v2.toInt.toNat) C R → Q r op' on' ot') : P_F_left vv vv' op on ot v1 v2 Q := by
  have hop := h.2.2.2.2.1
  have hO := h.2.1
  refine T_F_left (R_F_left_0 (S_Leag_isGame fun r1 h1 => ⟨fun e => R_F_left_20 (R_F_left_22 (hq0 ((bz h1).mp e))), fun e => ?_⟩))
  have e' := Classical.not_not.mp (mt (bz h1).mpr e)
  refine T_Leag_leave (R_Leag_leave_0 ⟨fun y => R_Leag_leave_12 ?_, fun y => R_F_left_22 (hqF e' ?_)⟩)
  · rw [i_lt, hop, z_9] at y
    refine ⟨i_in hop (by omega), i_in hop (by omega), fun x1 e1 => R_F_left_22 ?_⟩
    have hx1 : x1.toInt = ((O + 1 : Nat) : Int) := by rw [e1]; exact i_suc hop (by omega)
    rw [i_nat hop]
    exact hq e' (by omega) _ _ _ _ hx1 (h.leave (by omega) e' hx1 rfl rfl)
  · rw [i_lt, hop, z_9] at y
    omega
theorem LgR.shift {on' ot' : Nat → Int32} {op' : Int32} (h : LgR ga op pt on ot rc rs G O P A B C R) (hO : 0 < O) (ho : op'.toInt = ((O - 1 : Nat) : Int)) (e1 : ∀ i, i < O - 1 → on' i = on (i + 1)) (e2 : ∀ i, i < O - 1 → ot' i = ot (i + 1)) : LgR ga op' pt on' ot' rc rs G (O - 1) P (fun i => A (i + 1)) (fun i => B (i + 1)) C R := by
  obtain ⟨h1, h2, h3, h4, h5, h6, h7, h8⟩ := h
  refine ⟨h1, by omega, h3, h4, ho, h6, fun i hi => ?_, h8⟩
  rw [e1 i hi, e2 i hi]
  exact h7 (i + 1) (by omega)
theorem S_F_next {v1 v2 : Int32} {Q : Int32 → Int32 → Int32 → (Nat → Int32) → (Nat → Int32) → (Nat → Int32) → Prop} (h : LgR ga op pt on ot rc rs G O P A B C R) (hq0 : ¬ okPt v1.toInt v2.toInt → Q (-2) ga op pt on ot) (hqN : okPt v1.toInt v2.toInt → O = 0 → Q (-3) ga op pt on ot) (hqF : okPt v1.toInt v2.toInt → 0 < O → G = 100 → Q (-4) ga op pt on ot) (hq : okPt v1.toInt v2.toInt → 0 < O → G < 100 → ∀ (r ga' op' : Int32) pt' on' ot', r.toInt = ((O - 1 : Nat) : Int) → LgR ga' op' pt' on' ot' rc rs (G + 1) (O - 1) (noteL P (A 0) (B 0) v1.toInt v2.toInt) (fun i => A (i + 1)) (fun i => B (i + 1)) C R → Q r ga' op' pt' on' ot') : P_F_next vv vv' ga op pt on ot v1 v2 Q := by
  have hop := h.2.2.2.2.1
  have hO := h.2.1
  refine T_F_next (R_F_next_0 (S_Leag_arePoints fun r1 h1 => ⟨fun e => R_F_next_20 (R_F_next_22 (hq0 ((bz h1).mp e))), fun e => ?_⟩))
  have e' := Classical.not_not.mp (mt (bz h1).mpr e)
  refine T_Leag_playFirst (R_Leag_playFirst_0 ⟨fun y => R_Leag_playFirst_10 ?_, fun y => R_F_next_22 (hqN e' ?_)⟩)
  · rw [i_lit0 hop] at y
    obtain ⟨k1, k2, k3, k4, k5⟩ := h.2.2.2.2.2.2.1 0 (by omega)
    refine ⟨i_in i_0 (by omega), i_in i_0 (by omega), ?_⟩
    rw [i_nat i_0]
    refine S_Leag_play h k1 k3 k2 k4 k5 (fun z => ⟨fun y2 => absurd rfl y2, fun _ => R_F_next_22 (hqF e' (by omega) z)⟩) fun z r ga' pt' hr hL => ⟨fun _ => R_Leag_playFirst_36 fun x4 e4 => ?_, fun y2 => absurd (hr.symm.trans y2) (by decide)⟩
    have hx4 : x4.toInt = ((O - 1 : Nat) : Int) := by rw [e4]; exact i_subN hop i_1 (by omega)
    have loop : ∀ (u i : Nat) (on' ot' : Nat → Int32) (v3 : Int32), i + u = O - 1 → v3.toInt = (i : Int) → (∀ j, j < i → on' j = on (j + 1) ∧ ot' j = ot (j + 1)) → (∀ j, i ≤ j → on' j = on j ∧ ot' j = ot j) → E_Leag_playFirst_48 vv' ga' x4 pt' on' ot' v3 (fun r2 c3 c4 c5 c6 c7 => E_F_next_22 vv vv' c3 c4 c5 c6 c7 r2 Q) := by
      intro u
      induction u with
      | zero =>
        intro i on' ot' v3 hu h3 hd _
        refine R_Leag_playFirst_48 ⟨fun _ => R_Leag_playFirst_90 (R_F_next_22 (hq e' (by omega) z _ _ _ _ _ _ hx4 (hL.shift (by omega) hx4 (fun j hj => (hd j (by omega)).1) (fun j hj => (hd j (by omega)).2)))), fun y => absurd (by rw [i_le]; omega) y⟩
      | succ u ih =>
        intro i on' ot' v3 hu h3 hd hr'
        have h31 := i_suc h3 (by omega)
        refine R_Leag_playFirst_48 ⟨fun y => absurd y (by rw [i_le]; omega), fun _ => ⟨i_in h31 (by omega), i_in h3 (by omega), i_in h31 (by omega), i_in h3 (by omega), fun x5 e5 => ?_⟩⟩
        rw [i_nat h31, i_nat h3]
        refine ih (i + 1) _ _ x5 (by omega) (by rw [e5]; exact h31) (fun j hj => ?_) (fun j hj => ?_)
        · by_cases ej : j = i
          · rw [ej, up_same, up_same]
            exact hr' (i + 1) (by omega)
          · rw [up_ne ej, up_ne ej]
            exact hd j (by omega)
        · rw [up_ne (by omega), up_ne (by omega)]
          exact hr' j (by omega)
    exact loop (O - 1) 0 on ot 0 (by omega) i_0 (fun j hj => by omega) (fun _ _ => ⟨rfl, rfl⟩)
  · rw [i_lit0 hop] at y
    exact y
def hasZ (P : Nat → Nat) (v : Int) : Int := if okTm v then (P v.toNat : Int) else -2
theorem S_F_has {v1 : Int32} {Q : Int32 → Prop} (h : LgR ga op pt on ot rc rs G O P A B C R) (hq : ∀ r : Int32, r.toInt = hasZ P v1.toInt → Q r) : P_F_has vv vv' pt v1 Q := by
  unfold hasZ at hq
  refine T_F_has (R_F_has_0 (S_Leag_isTeam fun r1 h1 => ⟨fun e => R_F_has_19 (R_F_has_21 (hq _ (by rw [if_neg ((bz h1).mp e), z_m2]))), fun e => ?_⟩))
  have e' := Classical.not_not.mp (mt (bz h1).mpr e)
  have hv : v1.toInt = (v1.toInt.toNat : Int) := by omega
  refine ⟨i_in hv (by omega), R_F_has_21 (hq _ ?_)⟩
  rw [if_pos e', i_nat hv]
  exact (h.2.2.2.2.2.1 _ (by omega)).1
def howZ (C : Nat) (R : Nat → Nat) (i : Int) : Int := if 0 ≤ i ∧ i < (C : Int) then (R i.toNat : Int) else -1
theorem S_F_how {v1 : Int32} {Q : Int32 → Prop} (h : LgR ga op pt on ot rc rs G O P A B C R) (hq : ∀ r : Int32, r.toInt = howZ C R v1.toInt → Q r) : P_F_how vv vv' rc rs v1 Q := by
  obtain ⟨h1, h2, h3, h4, h5, h6, h7, h8, h9⟩ := h
  unfold howZ at hq
  refine T_F_how (R_F_how_0 (T_Leag_resultAt (R_Leag_resultAt_0 ⟨fun e => R_Leag_resultAt_21 (R_Leag_resultAt_22 (hq _ ?_)), fun e => ⟨fun e2 => R_Leag_resultAt_21 (R_Leag_resultAt_22 (hq _ ?_)), fun e2 => ?_⟩⟩)))
  · rw [i_lt, z_0] at e
    rw [if_neg (by omega), z_m1]
  · rw [i_le, h8] at e2
    rw [if_neg (by omega), z_m1]
  · rw [i_lt, z_0] at e
    rw [i_le, h8] at e2
    have hv : v1.toInt = (v1.toInt.toNat : Int) := by omega
    refine ⟨i_in hv (by omega), R_Leag_resultAt_22 (hq _ ?_)⟩
    rw [if_pos (by omega), i_nat hv]
    exact (h9 _ (by omega)).1
theorem S_Leag_isBeaten {v1 v2 : Int32} {team d u : Nat} {Q : Int32 → Prop} (hop : op.toInt = (O : Int)) (hO : O ≤ 9) (hAB : ∀ i, i < O → (on i).toInt = (A i : Int) ∧ (ot i).toInt = (B i : Int) ∧ A i < 6 ∧ B i < 6 ∧ A i ≠ B i) (h1 : v1.toInt = (team : Int)) (ht : team < 6) (h2 : v2.toInt = (d : Int)) (hd : d + u = O) (hP : ∀ t, t < 6 → (af t).toInt = (P t : Int) ∧ P t ≤ 1000) (hq : ∀ r : Int32, (r = 0 ∧ ∀ t, t < 6 → P t ≤ P team + 2 * gmL A B team d u) ∨ (r = 1 ∧ ∃ t, t < 6 ∧ P team + 2 * gmL A B team d u < P t) → Q r) : P_Leag_isBeaten vv op af on ot v1 v2 Q := by
  have gb : ∀ w, w ≤ u → gmL A B team d w ≤ w := fun w => by
    induction w with
    | zero => intro _; exact Nat.le_refl _
    | succ w ih =>
      intro hw
      have := ih (by omega)
      simp only [gmL]
      split <;> omega
  have teams : ∀ (w t : Nat) (v3 v4 : Int32), t + w = 6 → v4.toInt = (t : Int) → v3.toInt = ((P team + 2 * gmL A B team d u : Nat) : Int) → (∀ t', t' < t → P t' ≤ P team + 2 * gmL A B team d u) → E_Leag_isBeaten_58 vv op af on ot v3 v4 Q := by
    intro w
    induction w with
    | zero =>
      intro t v3 v4 hw h4 h3 hall
      have : t = 6 := by omega
      subst this
      exact R_Leag_isBeaten_58 ⟨fun _ => R_Leag_isBeaten_84 ⟨rb0, hq _ (Or.inl ⟨rfl, hall⟩)⟩, fun y => absurd (by rw [i_le, z_6]; omega) y⟩
    | succ w ih =>
      intro t v3 v4 hw h4 h3 hall
      have hpt := hP t (by omega)
      refine R_Leag_isBeaten_58 ⟨fun y => absurd y (by rw [i_le, z_6]; omega), fun _ => ⟨i_in h4 (by omega), fun y => R_Leag_isBeaten_78 fun x4 e4 => ih (t + 1) v3 x4 (by omega) (by rw [e4]; exact i_suc h4 (by omega)) h3 fun t' ht' => ?_, fun y => ⟨rb1, hq _ (Or.inr ⟨rfl, t, by omega, ?_⟩)⟩⟩⟩
      · rw [i_nat h4, i_le, hpt.1, h3] at y
        by_cases e : t' = t
        · rw [e]; omega
        · exact hall t' (by omega)
      · rw [i_nat h4, i_le, hpt.1, h3] at y
        omega
  have loop : ∀ (w i : Nat) (v3 v4 : Int32), i + w = u → v4.toInt = ((d + i : Nat) : Int) → v3.toInt = ((P team + 2 * gmL A B team d i : Nat) : Int) → E_Leag_isBeaten_10 vv op af on ot v1 v3 v4 Q := by
    intro w
    induction w with
    | zero =>
      intro i v3 v4 hw h4 h3
      have : i = u := by omega
      subst this
      exact R_Leag_isBeaten_10 ⟨fun _ => R_Leag_isBeaten_55 (teams 6 0 v3 0 (by omega) i_0 h3 fun t' ht' => by omega), fun y => absurd (by rw [i_le]; omega) y⟩
    | succ w ih =>
      intro i v3 v4 hw h4 h3
      obtain ⟨k1, k2, k3, k4, k5⟩ := hAB (d + i) (by omega)
      have hpt := hP team ht
      have gi := gb i (by omega)
      have next : ∀ (s1 : Int32) (b : Nat), s1.toInt = ((2 * b : Nat) : Int) → b = (if A (d + i) = team ∨ B (d + i) = team then 1 else 0) → E_Leag_isBeaten_47 vv op af on ot v1 v4 v3 s1 Q := by
        intro s1 b hs1 hb
        have hb1 : b ≤ 1 := by rw [hb]; split <;> omega
        refine R_Leag_isBeaten_47 fun x2 e2 x3 e3 => ih (i + 1) x2 x3 (by omega) (by rw [e3, i_suc h4 (by omega)]; omega) ?_
        rw [e2, i_addN h3 hs1 (by omega)]
        simp only [gmL]
        rw [← hb]
        congr 1
        omega
      refine R_Leag_isBeaten_10 ⟨fun y => absurd y (by rw [i_le]; omega), fun _ => ⟨i_in h4 (by omega), fun y => R_Leag_isBeaten_42 (next 2 1 i_2 ?_), fun y => ⟨i_in h4 (by omega), fun y2 => R_Leag_isBeaten_46 (next 0 0 i_0 ?_), fun y2 => R_Leag_isBeaten_42 (next 2 1 i_2 ?_)⟩⟩⟩
      · rw [i_nat h4, i_eq, k1, h1] at y
        rw [if_pos (Or.inl (by omega))]
      · rw [i_nat h4, i_eq, k1, h1] at y
        rw [i_nat h4, i_eq, k2, h1] at y2
        rw [if_neg (by omega)]
      · rw [i_nat h4, i_eq, k2, h1] at y2
        rw [if_pos (Or.inr (by omega))]
  refine T_Leag_isBeaten (R_Leag_isBeaten_0 ⟨i_in h1 ht, fun x1 e1 => loop u 0 x1 v2 (by omega) h2 ?_⟩)
  rw [e1, i_nat h1]
  exact (hP team ht).1
end LEAGC
