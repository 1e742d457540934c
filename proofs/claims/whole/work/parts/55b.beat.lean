/-! HEARD ROUNDS on both sides -/
theorem z_1000 : (1000 : Int32).toInt = 1000 := by decide
theorem zL1000 : (1000 : Int64).toInt = 1000 := by decide
theorem z_60 : (60 : Int32).toInt = 60 := by decide
theorem BtR.add {size : Int32} {at' sc : Nat → Int32} {hm : Nat} {bt : Nat → Nat} {sb : Nat → Int} {v1 v2 v3 w : Int32} (h : BtR size at' sc hm bt sb) (hm60 : hm < 60) (h1 : 0 ≤ v1.toInt ∧ v1.toInt ≤ 1000) (h2 : 0 ≤ v2.toInt ∧ v2.toInt ≤ 1000) (h3 : -1 ≤ v3.toInt ∧ v3.toInt ≤ 1) (hw : w.toInt = ((hm + 1 : Nat) : Int)) : BtR w (up (up at' (2 * hm) v1) (2 * hm + 1) v2) (up sc hm v3) (hm + 1) (up (up bt (2 * hm) v1.toInt.toNat) (2 * hm + 1) v2.toInt.toNat) (up sb hm v3.toInt) := by
  obtain ⟨a1, a2, a3, a4⟩ := h
  refine ⟨by omega, hw, fun i hi => ?_, fun r hr => ?_⟩
  · by_cases e : i = 2 * hm + 1
    · rw [e, up_same, up_same]; omega
    · rw [up_ne e, up_ne e]
      by_cases e2 : i = 2 * hm
      · rw [e2, up_same, up_same]; omega
      · rw [up_ne e2, up_ne e2]; exact a3 i (by omega)
  · by_cases e : r = hm
    · rw [e, up_same, up_same]; exact ⟨rfl, h3⟩
    · rw [up_ne e, up_ne e]; exact a4 r (by omega)
section BEAT
variable {vv vv' : Nat → Value} {size slack : Int32} {at' sc : Nat → Int32} {hm sl : Nat} {bt : Nat → Nat} {sb : Nat → Int} {above below : Int64}
  {fl ll gl wk : Nat → Int32} {tp un : Nat → Int64} {V : Nat → Int} {oa ol ow ob mo xo : Int32} {odds : Nat}
  {sg an bn cn en : Int32} {ad bd cd ed : Nat → Int32}
abbrev okHd (a b c : Int) : Prop := (0 ≤ a ∧ a ≤ 1000) ∧ (0 ≤ b ∧ b ≤ 1000) ∧ (-1 ≤ c ∧ c ≤ 1)
theorem S_F_heard {v1 v2 v3 : Int32} {Q : Int32 → Int32 → (Nat → Int32) → (Nat → Int32) → Prop} (h : BtR size at' sc hm bt sb) (hq0 : ¬ okHd v1.toInt v2.toInt v3.toInt → Q (-2) size at' sc) (hqF : okHd v1.toInt v2.toInt v3.toInt → hm = 60 → Q (-4) size at' sc) (hq : okHd v1.toInt v2.toInt v3.toInt → hm < 60 → ∀ (r size' : Int32) at2 sc2, r.toInt = ((hm + 1 : Nat) : Int) → BtR size' at2 sc2 (hm + 1) (up (up bt (2 * hm) v1.toInt.toNat) (2 * hm + 1) v2.toInt.toNat) (up sb hm v3.toInt) → Q r size' at2 sc2) : P_F_heard vv vv' size at' sc v1 v2 v3 Q := by
  refine T_F_heard (R_F_heard_0 (S_F_isWithin fun r1 h1 => ?_))
  rw [z_0, z_1000] at h1
  refine ⟨fun e => R_F_heard_31 (hq0 fun z => (bz h1).mp e z.1), fun e => S_F_isWithin fun r2 h2 => ?_⟩
  rw [z_0, z_1000] at h2
  refine ⟨fun e2 => R_F_heard_31 (hq0 fun z => (bz h2).mp e2 z.2.1), fun e2 => S_F_isWithin fun r3 h3 => ?_⟩
  rw [z_m1, z_1] at h3
  refine ⟨fun e3 => R_F_heard_34 ?_, fun e3 => R_F_heard_31 (hq0 fun z => (bz h3).mp e3 z.2.2)⟩
  rw [bz h1] at e
  rw [bz h2] at e2
  rw [bz h3] at e3
  have e' := Classical.not_not.mp e
  have e2' := Classical.not_not.mp e2
  have e3' := Classical.not_not.mp e3
  have hs := h.2.1
  have h60 := h.1
  refine T_Beats_add (R_Beats_add_0 ⟨fun y => R_Beats_add_12 ?_, fun y => hqF ⟨e', e2', e3'⟩ ?_⟩)
  · rw [i_lt, hs, z_60] at y
    have i1 := i_two hs (by omega)
    have i2 := i_suc i1 (by omega)
    refine ⟨i_in i1 (by omega), i_in i2 (by omega), i_in hs (by omega), fun x1 e1 => ?_⟩
    rw [i_nat i1, i_nat i2, i_nat hs]
    have hx1 : x1.toInt = ((hm + 1 : Nat) : Int) := by rw [e1]; exact i_suc hs (by omega)
    exact hq ⟨e', e2', e3'⟩ (by omega) _ _ _ _ hx1 (h.add (by omega) e' e2' e3' hx1)
  · rw [i_lt, hs, z_60] at y
    omega
theorem S_Mo_isBeat {v : Int32} {Q : Int32 → Prop} (hq : ∀ r : Int32, (r = 1 ∧ (0 ≤ v.toInt ∧ v.toInt ≤ 1000)) ∨ (r = 0 ∧ ¬ (0 ≤ v.toInt ∧ v.toInt ≤ 1000)) → Q r) : P_Mo_isBeat v Q := by
  refine T_Mo_isBeat (R_Mo_isBeat_0 (S_Mo_in32 zL0 zL1000 fun r h => ⟨?_, hq r h⟩))
  rcases h with h | h
  · exact Or.inr h.1
  · exact Or.inl h.1
theorem S_Mo_heard {v1 v2 v3 : Int32} {Q : Int32 → Int32 → (Nat → Int32) → (Nat → Int32) → Prop} (h : BtR size at' sc hm bt sb) (hq0 : ¬ okHd v1.toInt v2.toInt v3.toInt → Q (-2) size at' sc) (hqF : okHd v1.toInt v2.toInt v3.toInt → hm = 60 → Q (-4) size at' sc) (hq : okHd v1.toInt v2.toInt v3.toInt → hm < 60 → ∀ (r size' : Int32) at2 sc2, r.toInt = ((hm + 1 : Nat) : Int) → BtR size' at2 sc2 (hm + 1) (up (up bt (2 * hm) v1.toInt.toNat) (2 * hm + 1) v2.toInt.toNat) (up sb hm v3.toInt) → Q r size' at2 sc2) : P_Mo_heard vv size at' sc v1 v2 v3 Q := by
  have zLm1 : (-1 : Int64).toInt = -1 := by decide
  refine T_Mo_heard (R_Mo_heard_0 (S_Mo_isBeat fun r1 h1 => ⟨fun e => R_Mo_heard_26 (hq0 fun z => (bz h1).mp e z.1), fun e => S_Mo_isBeat fun r2 h2 => R_Mo_heard_11 ⟨fun e2 => R_Mo_heard_26 (hq0 fun z => (bz h2).mp e2 z.2.1), fun e2 => S_Mo_in32 zLm1 zL1 fun r3 h3 => ⟨fun e3 => R_Mo_heard_29 ?_, fun e3 => R_Mo_heard_26 (hq0 fun z => (bz h3).mp e3 z.2.2)⟩⟩⟩))
  rw [bz h1] at e
  rw [bz h2] at e2
  rw [bz h3] at e3
  have e' := Classical.not_not.mp e
  have e2' := Classical.not_not.mp e2
  have e3' := Classical.not_not.mp e3
  have hs := h.2.1
  have h60 := h.1
  refine ⟨fun y => R_Mo_heard_41 ?_, fun y => hqF ⟨e', e2', e3'⟩ ?_⟩
  · rw [i_eq, hs, z_60] at y
    have i1 := i_two hs (by omega)
    have i2 := i_suc i1 (by omega)
    refine ⟨i_in i1 (by omega), i_in i2 (by omega), i_in hs (by omega), fun x1 e1 => ?_⟩
    rw [i_nat i1, i_nat i2, i_nat hs]
    have hx1 : x1.toInt = ((hm + 1 : Nat) : Int) := by rw [e1]; exact i_suc hs (by omega)
    exact hq ⟨e', e2', e3'⟩ (by omega) _ _ _ _ hx1 (h.add (by omega) e' e2' e3' hx1)
  · rw [i_eq, hs, z_60] at y
    omega
theorem S_F_beat {v1 : Int32} {Q : Int32 → Int32 → Prop} (hq0 : ¬ (0 ≤ v1.toInt ∧ v1.toInt ≤ 1000) → Q (-2) slack) (hq : (0 ≤ v1.toInt ∧ v1.toInt ≤ 1000) → Q slack v1) : P_F_beat vv vv' slack v1 Q := by
  refine T_F_beat (R_F_beat_0 (S_F_isWithin fun r1 h1 => ?_))
  rw [z_0, z_1000] at h1
  exact ⟨fun e => R_F_beat_14 (hq (Classical.not_not.mp (mt (bz h1).mpr e))), fun e => hq0 ((bz h1).mp e)⟩
theorem S_Mo_beat {v1 : Int32} {Q : Int32 → Int32 → Prop} (hq0 : ¬ (0 ≤ v1.toInt ∧ v1.toInt ≤ 1000) → Q (-2) slack) (hq : (0 ≤ v1.toInt ∧ v1.toInt ≤ 1000) → Q slack v1) : P_Mo_beat vv slack v1 Q :=
  T_Mo_beat (R_Mo_beat_0 (S_Mo_isBeat fun r1 h1 => ⟨fun e => R_Mo_beat_10 (hq (Classical.not_not.mp (mt (bz h1).mpr e))), fun e => hq0 ((bz h1).mp e)⟩))
theorem S_Beats_tally {v1 v2 : Int32} {p what : Nat} {Q : Int32 → Prop} (h : BtR size at' sc hm bt sb) (hsl : slack.toInt = (sl : Int)) (hsl' : sl ≤ 1000) (h1 : v1.toInt = (p : Int)) (hp : p ≤ 1) (h2 : v2.toInt = (what : Int)) (hw : what ≤ 3) (hq : ∀ r : Int32, r.toInt = (btN bt sb sl p what hm : Int) → Q r) : P_Beats_tally vv size slack at' sc v1 v2 Q := by
  obtain ⟨h60, hs, ha, hsc⟩ := h
  have loop : ∀ (u r : Nat) (v3 v4 : Int32), r + u = hm → v4.toInt = (r : Int) → v3.toInt = (cntB (btP bt sb sl p what) r : Int) → E_Beats_tally_5 vv size slack at' sc v1 v2 v3 v4 Q := by
    intro u
    induction u with
    | zero =>
      intro r v3 v4 hu h4 h3
      have : r = hm := by omega
      subst this
      exact R_Beats_tally_5 ⟨fun _ => R_Beats_tally_136 (hq _ h3), fun y => absurd (by rw [i_le]; omega) y⟩
    | succ u ih =>
      intro r v3 v4 hu h4 h3
      have i1 : ((2 : Int32) * v4 + v1).toInt = ((2 * r + p : Nat) : Int) := i_addN (i_two h4 (by omega)) h1 (by omega)
      have i2 : ((2 : Int32) * v4 + 1 - v1).toInt = ((2 * r + 1 - p : Nat) : Int) := i_subN (i_suc (i_two h4 (by omega)) (by omega)) h1 (by omega)
      obtain ⟨b1, b1'⟩ := ha (2 * r + p) (by omega)
      obtain ⟨b2, b2'⟩ := ha (2 * r + 1 - p) (by omega)
      obtain ⟨s1, s2⟩ := hsc r (by omega)
      have hcb := cntB_le (btP bt sb sl p what) r
      have fin : ∀ (s : Int32) (b : Bool), s.toInt = (if b = true then 1 else 0) → btP bt sb sl p what r = b → E_Beats_tally_128 vv size slack at' sc v1 v2 v4 v3 s Q := by
        intro s b hs' hb
        refine R_Beats_tally_128 fun x1 e1 x2 e2 => ih (r + 1) x1 x2 (by omega) (by rw [e2]; exact i_suc h4 (by omega)) ?_
        simp only [cntB]
        rw [hb, e1]
        cases b
        · rw [i_add h3 hs' (by simp <;> omega) (by simp <;> omega)]
          simp
        · rw [i_add h3 hs' (by simp <;> omega) (by simp <;> omega)]
          simp
      have sfit : ∀ (v6 s0 : Int32) (a b : Bool), (v6 = 0 ↔ a = false) → (s0 = 0 ↔ b = false) → btP bt sb sl p what r = (decide (sb r ≠ -1) && (a && b)) → E_Beats_tally_99 vv size slack at' sc v1 v2 v3 v4 v6 s0 Q := by
        intro v6 s0 a b ha' hb' hP
        have no : btP bt sb sl p what r = false → E_Beats_tally_127 vv size slack at' sc v1 v2 v4 v3 Q := fun z => R_Beats_tally_127 (fin 0 false (by rw [z_0]; rfl) z)
        refine R_Beats_tally_99 ⟨i_in h4 (by omega), fun y => no ?_, fun y => ⟨fun y2 => no ?_, fun y2 => ⟨fun y3 => no ?_, fun y3 => fin 1 true (by rw [z_1]; rfl) ?_⟩⟩⟩
        · rw [i_nat h4, i_eq, s1, z_m1] at y
          rw [hP, decide_eq_false (by omega), Bool.false_and]
        · rw [hP, ha'.mp y2, Bool.false_and, Bool.and_false]
        · rw [hP, hb'.mp y3, Bool.and_false, Bool.and_false]
        · rw [i_nat h4, i_eq, s1, z_m1] at y
          have a1 : a = true := by
            cases a
            · exact absurd (ha'.mpr rfl) y2
            · rfl
          have b1 : b = true := by
            cases b
            · exact absurd (hb'.mpr rfl) y3
            · rfl
          rw [hP, a1, b1, decide_eq_true y]
          rfl
      have lfit : ∀ (v6 : Int32) (a : Bool), (v6 = 0 ↔ a = false) → a = (decide (bt (2 * r + 1 - p) + sl < bt (2 * r + p)) || (decide (what = 0) || decide (what = 2))) → E_Beats_tally_72 vv size slack at' sc v1 v2 v3 v4 v6 Q := by
        intro v6 a ha' hae
        have yes : (sb r = (p : Int) ∨ what = 0 ∨ what = 1) → E_Beats_tally_94 vv size slack at' sc v1 v2 v3 v4 v6 Q := fun z => R_Beats_tally_94 (sfit v6 1 a true ha' ⟨fun e => absurd e (by decide), fun e => absurd e (by decide)⟩ (by
          unfold btP
          rw [← hae]
          have : (decide (sb r = (p : Int)) || (decide (what = 0) || decide (what = 1))) = true := by simp; exact z
          rw [this]))
        refine R_Beats_tally_72 ⟨i_in h4 (by omega), fun y => yes (Or.inl ?_), fun y => ⟨fun y2 => yes (Or.inr (Or.inl ?_)), fun y2 => ⟨fun y3 => R_Beats_tally_98 (sfit v6 0 a false ha' ⟨fun _ => rfl, fun _ => rfl⟩ ?_), fun y3 => yes (Or.inr (Or.inr ?_))⟩⟩⟩
        · rw [i_nat h4, i_eq, s1, h1] at y; exact y
        · rw [i_lit0 h2] at y2; exact y2
        · rw [i_nat h4, i_eq, s1, h1] at y
          rw [i_lit0 h2] at y2
          rw [i_lit1 h2] at y3
          unfold btP
          rw [← hae, decide_eq_false y, decide_eq_false y2, decide_eq_false y3]
          rfl
        · rw [i_lit1 h2] at y3; exact y3
      have late : ∀ (s0 : Int32) (b : Bool), (s0 = 0 ↔ b = false) → b = decide (bt (2 * r + 1 - p) + sl < bt (2 * r + p)) → E_Beats_tally_51 vv size slack at' sc v1 v2 v3 v4 s0 Q := by
        intro s0 b hb hbe
        have yes : (b = true ∨ what = 0 ∨ what = 2) → E_Beats_tally_67 vv size slack at' sc v1 v2 v3 v4 Q := fun z => R_Beats_tally_67 (lfit 1 true ⟨fun e => absurd e (by decide), fun e => absurd e (by decide)⟩ (by
          rw [← hbe]
          have : (b || (decide (what = 0) || decide (what = 2))) = true := by simp; exact z
          rw [this]))
        refine R_Beats_tally_51 ⟨fun y => yes (Or.inl ?_), fun y => ⟨fun y2 => yes (Or.inr (Or.inl ?_)), fun y2 => ⟨fun y3 => R_Beats_tally_71 (lfit 0 false ⟨fun _ => rfl, fun _ => rfl⟩ ?_), fun y3 => yes (Or.inr (Or.inr ?_))⟩⟩⟩
        · cases b
          · exact absurd (hb.mpr rfl) y
          · rfl
        · rw [i_lit0 h2] at y2; exact y2
        · rw [i_lit0 h2] at y2
          rw [i_lit2 h2] at y3
          rw [← hbe, hb.mp y, decide_eq_false y2, decide_eq_false y3]
          rfl
        · rw [i_lit2 h2] at y3; exact y3
      refine R_Beats_tally_5 ⟨fun y => absurd y (by rw [i_le]; omega), fun _ => ⟨i_in i1 (by omega), i_in i2 (by omega), fun y => R_Beats_tally_50 (late 0 false ⟨fun _ => rfl, fun _ => rfl⟩ ?_), fun y => late 1 true ⟨fun e => absurd e (by decide), fun e => absurd e (by decide)⟩ ?_⟩⟩
      · rw [i_nat i1, i_nat i2, i_le, i_sub b1 b2 (by omega) (by omega), hsl] at y
        rw [decide_eq_false (by omega)]
      · rw [i_nat i1, i_nat i2, i_le, i_sub b1 b2 (by omega) (by omega), hsl] at y
        rw [decide_eq_true (by omega)]
  exact T_Beats_tally (R_Beats_tally_0 (loop hm 0 0 0 (by omega) i_0 i_0))
theorem S_Mo_findLates {v1 : Int32} {p : Nat} {Q : Int32 → Int32 → Int32 → Int32 → Prop} (h : BtR size at' sc hm bt sb) (hsl : slack.toInt = (sl : Int)) (hsl' : sl ≤ 1000) (h1 : v1.toInt = (p : Int)) (hp : p ≤ 1) (hq : ∀ a b c d : Int32, a.toInt = (btN bt sb sl p 0 hm : Int) → b.toInt = (btN bt sb sl p 1 hm : Int) → c.toInt = (btN bt sb sl p 2 hm : Int) → d.toInt = (btN bt sb sl p 3 hm : Int) → Q a b c d) : P_Mo_findLates vv size slack oa ol ow ob at' sc v1 Q := by
  obtain ⟨h60, hs, ha, hsc⟩ := h
  have loop : ∀ (u r : Nat) (a b c d v2 : Int32), r + u = hm → v2.toInt = (r : Int) → a.toInt = (cntB (btP bt sb sl p 0) r : Int) → b.toInt = (cntB (btP bt sb sl p 1) r : Int) → c.toInt = (cntB (btP bt sb sl p 2) r : Int) → d.toInt = (cntB (btP bt sb sl p 3) r : Int) → E_Mo_findLates_22 vv size slack a b c d at' sc v1 v2 Q := by
    intro u
    induction u with
    | zero =>
      intro r a b c d v2 hu h2 ea eb ec ed
      have : r = hm := by omega
      subst this
      exact R_Mo_findLates_22 ⟨fun _ => R_Mo_findLates_142 (hq _ _ _ _ ea eb ec ed), fun y => absurd (by rw [i_le]; omega) y⟩
    | succ u ih =>
      intro r a b c d v2 hu h2 ea eb ec ed
      have i1 : ((2 : Int32) * v2 + v1).toInt = ((2 * r + p : Nat) : Int) := i_addN (i_two h2 (by omega)) h1 (by omega)
      have i2 : ((2 : Int32) * v2 + 1 - v1).toInt = ((2 * r + 1 - p : Nat) : Int) := i_subN (i_suc (i_two h2 (by omega)) (by omega)) h1 (by omega)
      obtain ⟨b1, b1'⟩ := ha (2 * r + p) (by omega)
      obtain ⟨b2, b2'⟩ := ha (2 * r + 1 - p) (by omega)
      obtain ⟨s1, s2⟩ := hsc r (by omega)
      have cb := fun w => cntB_le (btP bt sb sl p w) r
      have c0 := cb 0
      have c1 := cb 1
      have c2 := cb 2
      have c3 := cb 3
      have next : ∀ a b c d : Int32, a.toInt = (cntB (btP bt sb sl p 0) (r + 1) : Int) → b.toInt = (cntB (btP bt sb sl p 1) (r + 1) : Int) → c.toInt = (cntB (btP bt sb sl p 2) (r + 1) : Int) → d.toInt = (cntB (btP bt sb sl p 3) (r + 1) : Int) → E_Mo_findLates_136 vv size slack a b c d at' sc v1 v2 Q := fun a b c d ea eb ec ed => R_Mo_findLates_136 fun x1 e1 => ih (r + 1) a b c d x1 (by omega) (by rw [e1]; exact i_suc h2 (by omega)) ea eb ec ed
      have won : ∀ (v3 s0 : Int32) (x y : Nat), v3.toInt = (x : Int) → s0.toInt = (y : Int) → x = (if bt (2 * r + 1 - p) + sl < bt (2 * r + p) then 1 else 0) → y = (if sb r = (p : Int) then 1 else 0) → sb r ≠ -1 → E_Mo_findLates_90 vv size slack a b c d at' sc v1 v2 v3 s0 Q := by
        intro v3 s0 x y hx hy ex ey hne
        have hx1 : x ≤ 1 := by rw [ex]; split <;> omega
        have hy1 : y ≤ 1 := by rw [ey]; split <;> omega
        have hxy : x * y ≤ 1 := Nat.mul_le_mul hx1 hy1
        refine R_Mo_findLates_90 fun x2 e2 x3 e3 x4 e4 x5 e5 => next _ _ _ _ ?_ ?_ ?_ ?_
        · rw [e2, i_addN ea i_1 (by omega)]
          simp only [cntB]
          rw [if_pos (by simp [btP, hne])]
        · rw [e3, i_addN eb hx (by omega)]
          simp only [cntB]
          congr 2
          rw [ex]
          by_cases e : bt (2 * r + 1 - p) + sl < bt (2 * r + p)
          · rw [if_pos e, if_pos (by simp [btP, hne, e])]
          · rw [if_neg e, if_neg (by simp [btP, hne, e])]
        · rw [e4, i_addN ec hy (by omega)]
          simp only [cntB]
          congr 2
          rw [ey]
          by_cases e : sb r = (p : Int)
          · rw [if_pos e, if_pos (by simp [btP, hne, e])]
            
          · rw [if_neg e, if_neg (by simp [btP, hne, e])]
        · rw [e5, i_addN ed (i_mulN hx hy (by omega)) (by omega)]
          simp only [cntB]
          congr 2
          rw [ex, ey]
          by_cases e : bt (2 * r + 1 - p) + sl < bt (2 * r + p)
          · by_cases e' : sb r = (p : Int)
            · rw [if_pos e, if_pos e', if_pos (by simp [btP, hne, e, e'])]
            · rw [if_pos e, if_neg e', if_neg (by simp [btP, hne, e, e'])]
          · rw [if_neg e, Nat.zero_mul, if_neg (by simp [btP, hne, e])]
      have late : ∀ (s0 : Int32) (x : Nat), s0.toInt = (x : Int) → x = (if bt (2 * r + 1 - p) + sl < bt (2 * r + p) then 1 else 0) → sb r ≠ -1 → E_Mo_findLates_74 vv size slack a b c d at' sc v1 v2 s0 Q := by
        intro s0 x hx ex hne
        refine R_Mo_findLates_74 ⟨i_in h2 (by omega), fun y => R_Mo_findLates_89 (won s0 0 x 0 hx i_0 ex ?_ hne), fun y => won s0 1 x 1 hx i_1 ex ?_ hne⟩
        · rw [i_nat h2, i_eq, s1, h1] at y
          rw [if_neg y]
        · rw [i_nat h2, i_eq, s1, h1] at y
          rw [if_pos y]
      refine R_Mo_findLates_22 ⟨fun y => absurd y (by rw [i_le]; omega), fun _ => ⟨i_in h2 (by omega), fun y => ?_, fun y => ⟨i_in i1 (by omega), i_in i2 (by omega), fun y2 => R_Mo_findLates_73 (late 0 0 i_0 ?_ ?_), fun y2 => late 1 1 i_1 ?_ ?_⟩⟩⟩
      · rw [i_nat h2, i_lt, s1, z_0] at y
        have hf : ∀ w, btP bt sb sl p w r = false := fun w => by
          unfold btP
          rw [decide_eq_false (by omega), Bool.false_and]
        refine next a b c d ?_ ?_ ?_ ?_ <;> simp only [cntB, hf] <;> simpa using by assumption
      · rw [i_nat i1, i_nat i2, i_le, b1, i_add b2 hsl (by omega) (by omega)] at y2
        rw [if_neg (by omega)]
      · rw [i_nat h2, i_lt, s1, z_0] at y; omega
      · rw [i_nat i1, i_nat i2, i_le, b1, i_add b2 hsl (by omega) (by omega)] at y2
        rw [if_pos (by omega)]
      · rw [i_nat h2, i_lt, s1, z_0] at y; omega
  exact T_Mo_findLates (R_Mo_findLates_0 (loop hm 0 0 0 0 0 0 (by omega) i_0 i_0 i_0 i_0 i_0))
def latZ (bt : Nat → Nat) (sb : Nat → Int) (sl hm : Nat) (a b : Int) : Int := if (a = 0 ∨ a = 1) ∧ (0 ≤ b ∧ b ≤ 3) then (btN bt sb sl a.toNat b.toNat hm : Int) else -2
theorem S_F_lates {v1 v2 : Int32} {Q : Int32 → Prop} (h : BtR size at' sc hm bt sb) (hsl : slack.toInt = (sl : Int)) (hsl' : sl ≤ 1000) (hq : ∀ r : Int32, r.toInt = latZ bt sb sl hm v1.toInt v2.toInt → Q r) : P_F_lates vv vv' size slack at' sc v1 v2 Q := by
  unfold latZ at hq
  have bad : ¬ ((v1.toInt = 0 ∨ v1.toInt = 1) ∧ (0 ≤ v2.toInt ∧ v2.toInt ≤ 3)) → E_F_lates_16 vv vv' size slack at' sc Q := fun e => R_F_lates_16 (hq _ (by rw [if_neg e, z_m2]))
  refine T_F_lates (R_F_lates_0 (S_F_either fun r1 h1 => ⟨fun e => bad fun z => (bz h1).mp e z.1, fun e => S_F_isWithin fun r2 h2 => ?_⟩))
  rw [z_0, z_3] at h2
  refine ⟨fun e2 => R_F_lates_19 ?_, fun e2 => bad fun z => (bz h2).mp e2 z.2⟩
  have e' := Classical.not_not.mp (mt (bz h1).mpr e)
  have e2' := Classical.not_not.mp (mt (bz h2).mpr e2)
  rw [if_pos ⟨e', e2'⟩] at hq
  exact S_Beats_tally (p := v1.toInt.toNat) (what := v2.toInt.toNat) h hsl hsl' (by omega) (by omega) (by omega) (by omega) hq
theorem S_Mo_lates {v1 v2 : Int32} {Q : Int32 → Int32 → Int32 → Int32 → Int32 → Prop} (h : BtR size at' sc hm bt sb) (hsl : slack.toInt = (sl : Int)) (hsl' : sl ≤ 1000) (hq : ∀ r a b c d : Int32, r.toInt = latZ bt sb sl hm v1.toInt v2.toInt → Q r a b c d) : P_Mo_lates vv size slack oa ol ow ob at' sc v1 v2 Q := by
  unfold latZ at hq
  have bad : ¬ ((v1.toInt = 0 ∨ v1.toInt = 1) ∧ (0 ≤ v2.toInt ∧ v2.toInt ≤ 3)) → E_Mo_lates_22 vv size slack oa ol ow ob at' sc Q := fun e => R_Mo_lates_22 (hq _ _ _ _ _ (by rw [if_neg e, z_m2]))
  refine T_Mo_lates (R_Mo_lates_0 (S_Mo_in32 zL0 zL1 fun r1 h1 => ⟨fun e => bad fun z => (bz h1).mp e (by omega), fun e => S_Mo_in32 zL0 zL3 fun r2 h2 => R_Mo_lates_19 ⟨fun e2 => R_Mo_lates_25 ?_, fun e2 => bad fun z => (bz h2).mp e2 z.2⟩⟩))
  have e' := Classical.not_not.mp (mt (bz h1).mpr e)
  have e2' := Classical.not_not.mp (mt (bz h2).mpr e2)
  rw [if_pos ⟨by omega, e2'⟩] at hq
  have hv2 : v2.toInt = (v2.toInt.toNat : Int) := by omega
  refine S_Mo_findLates (p := v1.toInt.toNat) h hsl hsl' (by omega) (by omega) fun a b c d ea eb ec ed => ⟨fun y => R_Mo_lates_41 ⟨fun y2 => R_Mo_lates_53 ⟨fun y3 => R_Mo_lates_65 (R_Mo_lates_69 (hq _ _ _ _ _ ?_)), fun y3 => R_Mo_lates_69 (hq _ _ _ _ _ ?_)⟩, fun y2 => R_Mo_lates_69 (hq _ _ _ _ _ ?_)⟩, fun y => R_Mo_lates_69 (hq _ _ _ _ _ ?_)⟩
  · rw [i_lit0 hv2] at y
    rw [i_lit1 hv2] at y2
    rw [i_lit2 hv2] at y3
    rw [show v2.toInt.toNat = 3 by omega]
    exact ed
  · rw [i_lit2 hv2] at y3
    rw [y3]
    exact ec
  · rw [i_lit1 hv2] at y2
    rw [y2]
    exact eb
  · rw [i_lit0 hv2] at y
    rw [y]
    exact ea
theorem S_Beats_choose {v0 v1 : Int32} {n k : Nat} {Q : Int64 → Prop} (h0 : v0.toInt = (n : Int)) (hn : n ≤ 60) (h1 : v1.toInt = (k : Int)) (hk : k ≤ 60) (hq : ∀ r : Int64, r.toInt = (ch n k : Int) → Q r) : P_Beats_choose v0 v1 Q := by
  have loop : ∀ (u i : Nat) (v2 : Int64) (v4 : Int32), i + u = k → k ≤ n → v4.toInt = (i : Int) → v2.toInt = (ch n i : Int) → E_Beats_choose_14 v0 v1 v2 v4 Q := by
    intro u
    induction u with
    | zero =>
      intro i v2 v4 hu hkn h4 h2
      have : i = k := by omega
      subst this
      exact R_Beats_choose_14 ⟨fun _ => R_Beats_choose_46 (hq _ h2), fun y => absurd (by rw [i_le]; omega) y⟩
    | succ u ih =>
      intro i v2 v4 hu hkn h4 h2
      have hpos := ch_pos (n := n) (k := i) (by omega)
      have hb := ch_bd (n := n) (k := i + 1) hn
      have hnx := ch_next n i
      have hi1 : (v4 + 1).toInt64.toInt = ((i + 1 : Nat) : Int) := i_wide (i_suc h4 (by omega))
      have hm : (i + 1) * ch n (i + 1) ≤ 60 * 118264581564861424 := Nat.mul_le_mul (by omega) hb
      refine R_Beats_choose_14 ⟨fun y => absurd y (by rw [i_le]; omega), fun _ => ⟨fun y => absurd y (by rw [lg_le0, h2, zL0]; omega), fun _ => ⟨by rw [j_eq, hi1, zL0]; omega, fun x1 e1 x2 e2 => ih (i + 1) x1 x2 (by omega) hkn (by rw [e2]; exact i_suc h4 (by omega)) ?_⟩⟩⟩
      have hmul : ch n i * (n - i) = (i + 1) * ch n (i + 1) := by rw [hnx, Nat.mul_comm]
      rw [e1, j_divN (j_mulN h2 (i_wide (i_subN h0 h4 (by omega))) (by omega)) hi1]
      congr 1
      apply Nat.div_eq_of_eq_mul_right (by omega)
      exact hmul
  refine T_Beats_choose (R_Beats_choose_0 ⟨fun e => R_Beats_choose_9 (R_Beats_choose_10 (loop k 0 1 0 (by omega) ?_ i_0 (by rw [ch_n0]; exact j_1))), fun e => R_Beats_choose_10 ?_⟩)
  · rw [i_le, h0, h1] at e
    omega
  · rw [i_le, h0, h1] at e
    have hz : (0 : Int64).toInt = (ch n k : Int) := by rw [ch_gt (by omega)]; exact j_0
    exact R_Beats_choose_14 ⟨fun _ => R_Beats_choose_46 (hq _ hz), fun _ => ⟨fun _ => R_Beats_choose_46 (hq _ hz), fun y => absurd (by rw [lg_le0]; omega) y⟩⟩
/-- the four numbers -/
abbrev bN (bt : Nat → Nat) (sb : Nat → Int) (sl hm p : Nat) : Nat := btN bt sb sl p 0 hm
abbrev bK (bt : Nat → Nat) (sb : Nat → Int) (sl hm p : Nat) : Nat := btN bt sb sl p 1 hm
abbrev bW (bt : Nat → Nat) (sb : Nat → Int) (sl hm p : Nat) : Nat := btN bt sb sl p 2 hm
abbrev bB (bt : Nat → Nat) (sb : Nat → Int) (sl hm p : Nat) : Nat := btN bt sb sl p 3 hm
theorem S_Beats_work {v1 : Int32} {p : Nat} {Q : Int64 → Int64 → Prop} (h : BtR size at' sc hm bt sb) (hsl : slack.toInt = (sl : Int)) (hsl' : sl ≤ 1000) (h1 : v1.toInt = (p : Int)) (hp : p ≤ 1) (hq : ∀ a b : Int64, a.toInt = (laA (bN bt sb sl hm p) (bK bt sb sl hm p) (bW bt sb sl hm p) (bB bt sb sl hm p) : Int) → b.toInt = (ch (bN bt sb sl hm p) (bK bt sb sl hm p) : Int) → Q a b) : P_Beats_work size slack above below at' sc v1 Q := by
  have hr := btN_rel bt sb sl p hm
  have hN := btN_le bt sb sl p 0 hm
  have h60 := h.1
  have i_3 : (3 : Int32).toInt = ((3 : Nat) : Int) := by decide
  refine T_Beats_work (R_Beats_work_0 (S_Beats_tally h hsl hsl' h1 hp i_0 (by omega) fun r1 e1 => S_Beats_tally h hsl hsl' h1 hp i_1 (by omega) fun r2 e2 => S_Beats_tally h hsl hsl' h1 hp i_2 (by omega) fun r3 e3 => S_Beats_tally h hsl hsl' h1 hp i_3 (by omega) fun r4 e4 => R_Beats_work_33 ?_))
  unfold bN bK bW bB at hq
  generalize btN bt sb sl p 0 hm = N at *
  generalize btN bt sb sl p 1 hm = K at *
  generalize btN bt sb sl p 2 hm = W at *
  generalize btN bt sb sl p 3 hm = w at *
  have hle := laA_le (N := N) (K := K) (W := W) (w := w) hr.1 hr.2.1 hr.2.2.2
  have hcb := ch_bd (n := N) (k := K) (by omega)
  have fin : ∀ (A : Int64), A.toInt = (laA N K W w : Int) → E_Beats_work_82 size slack A below at' sc r1 r2 Q := by
    intro A hA
    refine R_Beats_work_82 (S_Beats_choose e1 (by omega) e2 (by omega) fun r9 e9 x10 e10 => hq _ _ hA ?_)
    have hpos := ch_pos (n := N) (k := K) hr.2.2.1
    rw [if_neg (by rw [j_lt, e9, zL1]; omega)] at e10
    rw [e10]
    exact e9
  have loop : ∀ (u t : Nat) (A : Int64) (v5 : Int32), t + u = min K W + 1 - w → v5.toInt = ((w + t : Nat) : Int) → A.toInt = (sumN (fun t => ch W (w + t) * ch (N - W) (K - (w + t))) t : Int) → E_Beats_work_35 size slack A below at' sc r1 r2 r3 v5 Q := by
    intro u
    induction u with
    | zero =>
      intro t A v5 hu h5 hA
      have ht : t = min K W + 1 - w := by omega
      subst ht
      refine R_Beats_work_35 ⟨fun _ => fin A hA, fun y => ⟨fun _ => fin A hA, fun y2 => ?_⟩⟩
      rw [i_lt] at y y2
      omega
    | succ u ih =>
      intro t A v5 hu h5 hA
      have hs1 := sumN_le (g := fun t => ch W (w + t) * ch (N - W) (K - (w + t))) (m := t + 1) (n := min K W + 1 - w) (by omega)
      have hs2 : sumN (fun t => ch W (w + t) * ch (N - W) (K - (w + t))) (t + 1) = sumN (fun t => ch W (w + t) * ch (N - W) (K - (w + t))) t + ch W (w + t) * ch (N - W) (K - (w + t)) := rfl
      have hla : laA N K W w = sumN (fun t => ch W (w + t) * ch (N - W) (K - (w + t))) (min K W + 1 - w) := rfl
      refine R_Beats_work_35 ⟨fun y => absurd y (by rw [i_lt]; omega), fun _ => ⟨fun y => absurd y (by rw [i_lt]; omega), fun _ => S_Beats_choose e3 (by omega) h5 (by omega) fun r5 e5 => S_Beats_choose (i_subN e1 e3 (by omega)) (by omega) (i_subN e2 h5 (by omega)) (by omega) fun r6 e6 x7 e7 x8 e8 => ih (t + 1) x7 x8 (by omega) (by rw [e8, i_suc h5 (by omega)]; omega) ?_⟩⟩
      rw [e7, hs2]
      exact j_addN hA (j_mulN e5 e6 (by omega)) (by omega)
  exact loop (min K W + 1 - w) 0 0 r4 (by omega) e4 zL0
end BEAT
