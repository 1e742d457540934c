/-! A LEAGUE in the class: who can be first -/
section LEAGC2
variable {vv vv' : Nat → Value} {ga op rc : Int32} {pt on ot rs af tr : Nat → Int32} {G O C : Nat} {P A B R : Nat → Nat}
theorem S_Leag_isFirst {v1 : Int32} {team : Nat} (hop : op.toInt = (O : Int)) (hO : O ≤ 9) (hAB : ∀ i, i < O → (on i).toInt = (A i : Int) ∧ (ot i).toInt = (B i : Int) ∧ A i < 6 ∧ B i < 6 ∧ A i ≠ B i) (h1 : v1.toInt = (team : Int)) (ht : team < 6) : ∀ (u d δ : Nat) (vv : Nat → Value) (af tr : Nat → Int32) (P : Nat → Nat) (v2 : Int32) (Q : Int32 → (Nat → Int32) → (Nat → Int32) → Prop), d + u = O → u + 2 ≤ δ → v2.toInt = (d : Int) → (∀ t, t < 6 → (af t).toInt = (P t : Int) ∧ P t + 2 * u ≤ 1000) → (∀ (r : Int32) af' tr', (∀ t, t < 6 → (af' t).toInt = (P t : Int)) → (∀ j, j < d → tr' j = tr j) → ((r = 0 ∧ srL A B team u d P = none) ∨ (r = 1 ∧ ∃ z, srL A B team u d P = some z ∧ ∀ i, i < u → (tr' (d + i)).toInt = ((z / 3 ^ (u - 1 - i) % 3 : Nat) : Int))) → Q r af' tr') → P_Leag_isFirst δ vv op af on ot tr v1 v2 Q := by
  intro u
  induction u with
  | zero =>
    intro d δ vv af tr P v2 Q hdu hδ h2 hP hq
    have hPt : ∀ t, t < 6 → (af t).toInt = (P t : Int) ∧ P t ≤ 1000 := fun t ht => ⟨(hP t ht).1, by have := (hP t ht).2; omega⟩
    refine T_Leag_isFirst (by omega) (R_Leag_isFirst_0 (S_Leag_isBeaten (u := 0) (d := d) hop hO hAB h1 ht h2 hdu hPt fun r1 hr => ⟨fun y => R_Leag_isFirst_11 ⟨fun _ => R_Leag_isFirst_25 ⟨rb1, hq _ _ _ (fun t ht => (hP t ht).1) (fun _ _ => rfl) (Or.inr ⟨rfl, 0, ?_, fun i hi => by omega⟩)⟩, fun y2 => absurd (by rw [i_le]; omega) y2⟩, fun y => ⟨rb0, hq _ _ _ (fun t ht => (hP t ht).1) (fun _ _ => rfl) (Or.inl ⟨rfl, ?_⟩)⟩⟩))
    · rcases hr with hr | hr
      · simp only [srL]
        rw [if_pos]
        unfold okL6
        rw [allL_iff]
        exact fun t ht => hr.2 t ht
      · exact absurd (hr.1.symm.trans y) (by decide)
    · rcases hr with hr | hr
      · exact absurd hr.1 y
      · obtain ⟨-, t, ht6, hlt⟩ := hr
        exact sr_beaten (fun i h1 h2 => by omega) ht6 hlt
  | succ u ih =>
    intro d δ vv af tr P v2 Q hdu hδ h2 hP hq
    have hPt : ∀ t, t < 6 → (af t).toInt = (P t : Int) ∧ P t ≤ 1000 := fun t ht => ⟨(hP t ht).1, by have := (hP t ht).2; omega⟩
    obtain ⟨k1, k2, k3, k4, k5⟩ := hAB d (by omega)
    have hd9 : d < 9 := by omega
    refine T_Leag_isFirst (by omega) (R_Leag_isFirst_0 (S_Leag_isBeaten (u := u + 1) (d := d) hop hO hAB h1 ht h2 hdu hPt fun r1 hr => ⟨fun y => R_Leag_isFirst_11 ⟨fun y2 => absurd y2 (by rw [i_le]; omega), fun _ => ⟨fun _ => R_Leag_isFirst_27 ⟨i_in h2 hd9, fun x2 e2 => ⟨i_in h2 hd9, fun x3 e3 => ?_⟩⟩, fun y2 => absurd (by rw [i_lt, z_9]; omega) y2⟩⟩, fun y => ⟨rb0, hq _ _ _ (fun t ht => (hP t ht).1) (fun _ _ => rfl) (Or.inl ⟨rfl, ?_⟩)⟩⟩))
    · rw [i_nat h2] at e2 e3
      have ha : x2.toInt = (A d : Int) := by rw [e2]; exact k1
      have hb : x3.toInt = (B d : Int) := by rw [e3]; exact k2
      have hpa := hP (A d) k3
      have hpb := hP (B d) k4
      have loop : ∀ (w r : Nat) (af' tr' : Nat → Int32) (v5 : Int32), r + w = 3 → v5.toInt = (r : Int) → (∀ t, t < 6 → (af' t).toInt = (P t : Int)) → (∀ j, j < d → tr' j = tr j) → (∀ r', r' < r → srL A B team u (d + 1) (appL A B P d r') = none) → E_Leag_isFirst_45 δ vv op af' on ot tr' v1 v2 x2 x3 v5 Q := by
        intro w
        induction w with
        | zero =>
          intro r af' tr' v5 hw h5 haf htr hnone
          have hr3 : r = 3 := by omega
          subst hr3
          refine R_Leag_isFirst_45 ⟨fun _ => R_Leag_isFirst_132 ⟨rb0, hq _ _ _ haf htr (Or.inl ⟨rfl, ?_⟩)⟩, fun y => absurd (by rw [i_lt, z_2]; omega) y⟩
          simp only [srL, hnone 0 (by omega), hnone 1 (by omega), hnone 2 (by omega)]
        | succ w ihw =>
          intro r af' tr' v5 hw h5 haf htr hnone
          have h2r : ((2 : Int32) - v5).toInt = ((2 - r : Nat) : Int) := i_subN i_2 h5 (by omega)
          have hdp := i_suc h2 (by omega)
          have q1 : (af' (A d) + ((2 : Int32) - v5)).toInt = ((P (A d) + (2 - r) : Nat) : Int) := i_addN (haf _ k3) h2r (by omega)
          have q2 : (af' (B d) + v5).toInt = ((P (B d) + r : Nat) : Int) := i_addN (haf _ k4) h5 (by omega)
          refine R_Leag_isFirst_45 ⟨fun y => absurd y (by rw [i_lt, z_2]; omega), fun _ => ⟨i_in h2 hd9, i_in ha k3, i_in ha k3, i_in hb k4, i_in hb k4, ?_⟩⟩
          rw [i_nat ha, i_nat hb, i_nat h2, up_ne (f := af') (Ne.symm k5)]
          have happ : ∀ t, appL A B P d r t = up (up P (A d) (P (A d) + (2 - r))) (B d) (P (B d) + r) t := fun t => by
            unfold appL
            rw [up_ne (f := P) (Ne.symm k5)]
          refine ih (d + 1) (δ - 1) _ _ _ (appL A B P d r) _ _ (by omega) (by omega) hdp (fun t ht6 => ?_) fun r4 c5 c6 g1 g2 g3 => ⟨i_in ha k3, i_in ha k3, i_in hb k4, i_in hb k4, ?_⟩
          · rw [happ t]
            have hpt := hP t ht6
            by_cases e : t = B d
            · rw [e, up_same, up_same]
              rw [e] at hpt
              exact ⟨q2, by omega⟩
            · rw [up_ne e, up_ne e]
              by_cases e2 : t = A d
              · rw [e2, up_same, up_same]
                rw [e2] at hpt
                exact ⟨q1, by omega⟩
              · rw [up_ne e2, up_ne e2]
                exact ⟨haf t ht6, by omega⟩
          · rw [up_ne (f := c5) (Ne.symm k5)]
            have ga : (c5 (A d)).toInt = ((P (A d) + (2 - r) : Nat) : Int) := by rw [g1 _ k3, happ, up_ne k5, up_same]
            have gb : (c5 (B d)).toInt = ((P (B d) + r : Nat) : Int) := by rw [g1 _ k4, happ, up_same]
            have back : ∀ t, t < 6 → (up (up c5 (A d) (c5 (A d) - ((2 : Int32) - v5))) (B d) (c5 (B d) - v5) t).toInt = (P t : Int) := fun t ht6 => by
              by_cases e : t = B d
              · rw [e, up_same, i_subN gb h5 (by omega)]
                omega
              · rw [up_ne e]
                by_cases e2 : t = A d
                · rw [e2, up_same, i_subN ga h2r (by omega)]
                  omega
                · rw [up_ne e2, g1 t ht6, happ, up_ne e, up_ne e2]
            have trd : ∀ j, j < d → c6 j = tr j := fun j hj => by
              rw [g2 j (by omega), up_ne (by omega)]
              exact htr j hj
            refine ⟨fun y => R_Leag_isFirst_126 fun x7 e7 => ihw (r + 1) _ c6 x7 (by omega) (by rw [e7]; exact i_suc h5 (by omega)) back trd fun r' hr' => ?_, fun y => ⟨rb1, hq _ _ _ back trd (Or.inr ⟨rfl, ?_⟩)⟩⟩
            · rcases g3 with g3 | g3
              · by_cases e : r' = r
                · rw [e]; exact g3.2
                · exact hnone r' (by omega)
              · exact absurd (g3.1.symm.trans y) (by decide)
            · rcases g3 with g3 | g3
              · exact absurd g3.1 y
              · obtain ⟨-, z, hz, hdig⟩ := g3
                have hzl := sr_lt hz
                refine ⟨r * 3 ^ u + z, ?_, fun i hi => ?_⟩
                · rcases (show r = 0 ∨ r = 1 ∨ r = 2 by omega) with e | e | e
                  · subst e
                    simp only [srL, hz]
                    rw [Nat.zero_mul, Nat.zero_add]
                  · subst e
                    simp only [srL, hnone 0 (by omega), hz]
                    rw [Nat.one_mul]
                  · subst e
                    simp only [srL, hnone 0 (by omega), hnone 1 (by omega), hz]
                · by_cases ei : i = 0
                  · subst ei
                    rw [Nat.add_zero, g2 d (by omega), up_same, h5, show u + 1 - 1 - 0 = u by omega, Nat.add_comm, Nat.add_mul_div_right _ _ (Nat.pow_pos (by decide)), Nat.div_eq_of_lt hzl, Nat.zero_add, Nat.mod_eq_of_lt (by omega)]
                  · have hdi := hdig (i - 1) (by omega)
                    rw [show d + 1 + (i - 1) = d + i by omega, show u - 1 - (i - 1) = u - i by omega] at hdi
                    rw [hdi, show u + 1 - 1 - i = u - i by omega, dig_low r hzl (by omega)]
      exact loop 3 0 af tr 0 (by omega) i_0 (fun t ht => (hP t ht).1) (fun _ _ => rfl) (fun r' hr' => by omega)
    · rcases hr with hr | hr
      · exact absurd hr.1 y
      · obtain ⟨-, t, ht6, hlt⟩ := hr
        exact sr_beaten (fun i h1 h2 => (hAB i (by omega)).2.2.2.2) ht6 hlt
theorem S_F_can {v1 : Int32} {Q : Int32 → Int32 → (Nat → Int32) → (Nat → Int32) → (Nat → Int32) → Prop} (h : LgR ga op pt on ot rc rs G O P A B C R) (hq0 : ¬ okTm v1.toInt → Q (-2) rc af tr rs) (hqN : okTm v1.toInt → canL A B P O v1.toInt.toNat = none → ∀ af' tr', Q 0 rc af' tr' rs) (hq : okTm v1.toInt → ∀ z, canL A B P O v1.toInt.toNat = some z → ∀ (rc' : Int32) af' tr' rs', LgR ga op pt on ot rc' rs' G O P A B O (resL O z) → Q 1 rc' af' tr' rs') : P_F_can vv vv' rc op pt af on ot tr rs v1 Q := by
  refine T_F_can (R_F_can_0 (S_Leag_isTeam fun r1 h1 => ⟨fun e => R_F_can_18 (R_F_can_20 (hq0 ((bz h1).mp e))), fun e => ?_⟩))
  have e' := Classical.not_not.mp (mt (bz h1).mpr e)
  obtain ⟨l1, l2, l3, l4, l5, l6, l7, l8, l9⟩ := h
  have n0 := i_nat i_0
  have n6 : (6 : Int32).toNatClampNeg = 6 := i_nat (k := 6) (by decide)
  refine T_Leag_seek (R_Leag_seek_0 ⟨⟨by decide, by decide, by decide, by decide, by decide⟩, ?_⟩)
  refine S_Leag_isFirst (team := v1.toInt.toNat) l5 l2 l7 (by omega) (by omega) O 0 13 _ _ _ P 0 _ (by omega) (by omega) i_0 (fun t ht => ?_) fun r1' af' tr' _ _ hr => ⟨fun y => R_Leag_seek_26 ?_, fun y => R_F_can_20 (hqN e' ?_ _ _)⟩
  · rw [n0, n6]
    unfold va_cpy
    rw [if_pos (by omega), Nat.zero_add, Nat.sub_zero]
    have := l6 t ht
    exact ⟨this.1, by omega⟩
  · rcases hr with hr | hr
    · exact absurd hr.1 y
    · obtain ⟨-, z, hz, hdig⟩ := hr
      have nO := i_nat l5
      rw [n0, nO]
      refine ⟨⟨by decide, by decide, by rw [i_lt, l5, z_0]; omega, by omega, by omega⟩, R_F_can_20 (hq e' z hz _ _ _ _ ⟨l1, l2, l2, l4, l5, l6, l7, l5, fun i hi => ?_⟩)⟩
      unfold va_cpy resL
      rw [if_pos (by omega), Nat.zero_add, Nat.sub_zero]
      have hd := hdig i hi
      rw [Nat.zero_add] at hd
      exact ⟨hd, by have := Nat.mod_lt (z / 3 ^ (O - 1 - i)) (show 0 < 3 by decide); omega⟩
  · rcases hr with hr | hr
    · exact hr.2
    · exact absurd (hr.1.symm.trans y) (by decide)
end LEAGC2
