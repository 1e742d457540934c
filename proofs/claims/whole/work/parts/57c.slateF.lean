/-! SLATE in the class: FILLS -/
section SLATEF
variable {vv vv' : Nat → Value} {c : SlC} {n : Nat} {rk rl rf rm rtc rwc fil sg sr : Int32} {rth rca : Nat → Int32} {vvr : Nat → Value} {nt ds rc : Nat → Int32} {nw bh : Nat → Int64}
theorem S_Sla_highestBit {v : Int32} {P : Nat → Prop} {Q : Int32 → Prop} (h : Bi v P) (hP : ∀ y, 29 ≤ y → ¬ P y) (hq : ∀ r : Int32, LeM P True r.toInt → Q r) : P_Sla_highestBit v Q := by
  have loop : ∀ (i : Nat) (x : Int32), i ≤ 29 → x.toInt = (i : Int) - 1 → (∀ u, i ≤ u → ¬ P u) → E_Sla_highestBit_3 v x Q := by
    intro i
    induction i with
    | zero =>
      intro x hw hx hu
      exact R_Sla_highestBit_3 ⟨fun _ => R_Sla_highestBit_23 (hq _ (Or.inl ⟨by decide, fun u z => hu u (by omega) z⟩)), fun z => absurd (by rw [i_lt, hx, z_0]; omega) z⟩
    | succ i ih =>
      intro x hw hx hu
      have hx' : x.toInt = (i : Int) := by omega
      refine R_Sla_highestBit_3 ⟨fun z => absurd z (by rw [i_lt, hx', z_0]; omega), fun _ => ⟨fun z => R_Sla_highestBit_17 fun x1 e1 => ?_, fun z => ?_⟩⟩
      · rw [bi_bit h (hP 31 (by omega)) hx' (by omega)] at z
        refine ih x1 (by omega) ?_ fun u hu' => ?_
        · rw [e1, i_add hx' (show (-1 : Int32).toInt = -1 by decide) (by omega) (by omega)]
          omega
        · by_cases q : u = i
          · rw [q]
            exact z
          · exact hu u (by omega)
      · rw [bi_bit h (hP 31 (by omega)) hx' (by omega), Classical.not_not] at z
        refine hq x (Or.inr ⟨i, hx', z, fun u hu' => ⟨fun _ => ?_, fun q => absurd trivial q⟩⟩)
        refine Classical.byContradiction fun q => hu u (by omega) hu'
  exact T_Sla_highestBit (R_Sla_highestBit_0 (loop 29 28 (by omega) (by decide) fun u hu => hP u hu))
/-- B, and g more where W is -/
def BV (bh : Nat → Int64) (B : Nat → Nat → Nat) (g : Nat) (W : Nat → Nat → Prop) : Prop := ∀ x y, x < 29 → y < 29 → (W x y → (bh (29 * x + y)).toInt = (sat (B x y + g) : Int)) ∧ (¬ W x y → (bh (29 * x + y)).toInt = (B x y : Int))
theorem BV_congr {B : Nat → Nat → Nat} {g : Nat} {W W' : Nat → Nat → Prop} (h : BV bh B g W) (e : ∀ x y, x < 29 → y < 29 → (W x y ↔ W' x y)) : BV bh B g W' := fun x y hx hy => ⟨fun z => (h x y hx hy).1 ((e x y hx hy).mpr z), fun z => (h x y hx hy).2 fun q => z ((e x y hx hy).mp q)⟩
theorem BV_up {B : Nat → Nat → Nat} {g x0 y0 : Nat} {W : Nat → Nat → Prop} {v : Int64} (h : BV bh B g W) (hy0 : y0 < 29) (hv : v.toInt = (sat (B x0 y0 + g) : Int)) : BV (up bh (29 * x0 + y0) v) B g (fun x y => W x y ∨ (x = x0 ∧ y = y0)) := by
  intro x y hx hy
  by_cases e : x = x0 ∧ y = y0
  · obtain ⟨e1, e2⟩ := e
    subst e1
    subst e2
    exact ⟨fun _ => by rw [up_same]; exact hv, fun z => absurd (Or.inr ⟨rfl, rfl⟩) z⟩
  · rw [up_ne (by omega)]
    refine ⟨fun z => (h x y hx hy).1 ?_, fun z => (h x y hx hy).2 fun q => z (Or.inl q)⟩
    rcases z with z | z
    · exact z
    · exact absurd z e
theorem S_Sla_addFills {v1 : Int32} {v2 : Int64} {B : Nat → Nat → Nat} {g x0 y0 : Nat} {W : Nat → Nat → Prop} {Q : (Nat → Int64) → Prop} (h : BV bh B g W) (hB : ∀ x y, x < 29 → y < 29 → B x y ≤ 1000000000000000000) (hg : v2.toInt = (g : Int)) (hg2 : g ≤ 1000000000000000000) (hx0 : x0 < 29) (hy0 : y0 < 29) (h1 : v1.toInt = ((29 * x0 + y0 : Nat) : Int)) (hW : ¬ W x0 y0) (hq : ∀ bh', BV bh' B g (fun x y => W x y ∨ (x = x0 ∧ y = y0)) → Q bh') : P_Sla_addFills rk rl rf rm rtc rwc rth rca fil sg sr nt ds rc nw bh v1 v2 Q := by
  have hb := (h x0 y0 hx0 hy0).2 hW
  have hB0 := hB x0 y0 hx0 hy0
  have z841 : (841 : Int32).toInt = 841 := by decide
  have zmf : (1000000000000000000 : Int64).toInt = 1000000000000000000 := by decide
  refine T_Sla_addFills (R_Sla_addFills_0 ⟨fun z => absurd z (by rw [i_lt, h1, z_0]; omega), fun _ => ⟨fun z => absurd z (by rw [i_le, h1, z841]; omega), fun _ => ⟨i_in h1 (by omega), fun x1 e1 => ?_⟩⟩⟩)
  rw [i_nat h1] at e1
  have hx1 : x1.toInt = ((B x0 y0 + g : Nat) : Int) := by rw [e1]; exact j_addN hb hg (by omega)
  have key : ∀ s2 : Int64, s2.toInt = (sat (B x0 y0 + g) : Int) → E_Sla_addFills_43 rk rl rf rm rtc rwc rth rca fil sg sr nt ds rc nw bh v1 s2 Q := by
    intro s2 hs
    refine R_Sla_addFills_43 ⟨i_in h1 (by omega), R_Sla_addFills_44 ?_⟩
    rw [i_nat h1]
    exact hq _ (BV_up h hy0 hs)
  refine ⟨fun z => R_Sla_addFills_41 (key _ ?_), fun z => key _ ?_⟩
  · rw [lg_le0, hx1, zmf] at z
    rw [hx1]
    unfold sat
    rw [if_pos (by omega)]
  · rw [lg_le0, hx1, zmf] at z
    rw [zmf]
    unfold sat
    rw [if_neg (by omega)]
    rfl
theorem S_Sla_fillFrom {v1 v2 v3 v4 : Int32} {i a b g : Nat} {B : Nat → Nat → Nat} {Q : (Nat → Int64) → Prop} (hK : KlR c rk rl rf sg) (h1 : v1.toInt = (a : Int)) (h2 : v2.toInt = (b : Int)) (ha : a < c.G) (hb : b < c.G) (h3 : Bi v3 (fun v => v < 29 ∧ ftB c i 0 v)) (h4 : Bi v4 (fun v => v < 29 ∧ ftB c i 1 v)) (hg : (nw (29 * a + b)).toInt = (g : Int)) (hg2 : g ≤ 1000000000000000000) (hB : ∀ x y, x < 29 → y < 29 → B x y ≤ 1000000000000000000 ∧ (bh (29 * x + y)).toInt = (B x y : Int)) (hq : ∀ bh', BV bh' B g (fun x y => goB c a b x y ∧ ftB c i 0 x ∧ ftB c i 1 y) → Q bh') : P_Sla_fillFrom rk rl rf rm rtc rwc rth rca fil sg sr nt ds rc nw bh v1 v2 v3 v4 Q := by
  have hc := hK.1
  have hG : c.G ≤ 21 := hc.2.2.2.2.2
  obtain ⟨l1, l2, l3, l4⟩ := ls_ms hc
  have z29 : (29 : Int32).toInt = ((29 : Nat) : Int) := by decide
  have hat : (v1 * 29 + v2).toInt = ((29 * a + b : Nat) : Int) := by
    rw [i_addN (i_mulN h1 z29 (by omega)) h2 (by omega), Nat.mul_comm a 29]
  have hB' : ∀ x y, x < 29 → y < 29 → B x y ≤ 1000000000000000000 := fun x y hx hy => (hB x y hx hy).1
  refine T_Sla_fillFrom (R_Sla_fillFrom_0 fun x1 e1 => ?_)
  rw [← e1] at hat
  refine ⟨i_in hat (by omega), fun x2 e2 => ?_⟩
  rw [i_nat hat] at e2
  have hx2 : x2.toInt = (g : Int) := by rw [e2, hg]
  have t3 : ∀ {v : Int32} {m : Nat}, v.toInt = (m : Int) → m < 29 → (((v3 >>> (v &&& 31)) &&& (1 : Int32)) = 0 ↔ ¬ ftB c i 0 m) := by
    intro v m hv hm
    rw [bi_bit h3 (fun z => absurd z.1 (by omega)) hv (by omega)]
    exact not_congr ⟨fun z => z.2, fun z => ⟨hm, z⟩⟩
  have t4 : ∀ {v : Int32} {m : Nat}, v.toInt = (m : Int) → m < 29 → (((v4 >>> (v &&& 31)) &&& (1 : Int32)) = 0 ↔ ¬ ftB c i 1 m) := by
    intro v m hv hm
    rw [bi_bit h4 (fun z => absurd z.1 (by omega)) hv (by omega)]
    exact not_congr ⟨fun z => z.2, fun z => ⟨hm, z⟩⟩
  -- the scores
  have loop : ∀ (w s : Nat) (bh : Nat → Int64) (v8 v9 v10 v11 : Int32), lsS c ≤ s → s + w = (if lsS c ≤ msS c then msS c + 1 else lsS c) → v10.toInt = (msS c : Int) → v11.toInt = (s : Int) → (v8 = 0 ↔ ¬ ftB c i 0 a) → (v9 = 0 ↔ ¬ ftB c i 1 b) → BV bh B g (fun x y => ftB c i 0 x ∧ ftB c i 1 y ∧ ((a ≤ x ∧ y = b ∧ ltB c (x - a) ∧ x - a < s) ∨ (a = x ∧ b < y ∧ ltB c (y - b) ∧ y - b < s))) → E_Sla_fillFrom_88 rk rl rf rm rtc rwc rth rca fil sg sr nt ds rc nw bh v1 v2 v3 v4 x1 x2 v8 v9 v10 v11 Q := by
    intro w
    induction w with
    | zero =>
      intro s bh v8 v9 v10 v11 hls hw h10 h11 h8 h9 hv
      have hms : msS c < s := by
        split at hw <;> omega
      refine R_Sla_fillFrom_88 ⟨fun _ => R_Sla_fillFrom_159 (hq _ (BV_congr hv fun x y hx hy => ?_)), fun z => absurd (by rw [i_lt, h10, h11]; omega) z⟩
      unfold goB
      constructor
      · rintro ⟨q1, q2, q3 | q3⟩
        · exact ⟨⟨ha, hb, Or.inl ⟨q3.1, q3.2.1, q3.2.2.1⟩⟩, q1, q2⟩
        · exact ⟨⟨ha, hb, Or.inr ⟨q3.1, q3.2.1, q3.2.2.1⟩⟩, q1, q2⟩
      · rintro ⟨⟨_, _, q3 | q3⟩, q1, q2⟩
        · refine ⟨q1, q2, Or.inl ⟨q3.1, q3.2.1, q3.2.2, ?_⟩⟩
          by_cases q : 0 < x - a
          · have := ((l4 _ q).mp q3.2.2).2
            omega
          · omega
        · refine ⟨q1, q2, Or.inr ⟨q3.1, q3.2.1, q3.2.2, ?_⟩⟩
          have := ((l4 _ (by omega)).mp q3.2.2).2
          omega
    | succ w ih =>
      intro s bh v8 v9 v10 v11 hls hw h10 h11 h8 h9 hv
      have hms : s ≤ msS c := by
        split at hw <;> omega
      have hlt : ltB c s := (l4 s (by omega)).mpr ⟨hls, hms⟩
      have hbs : (v2 + v11).toInt = ((b + s : Nat) : Int) := i_addN h2 h11 (by omega)
      have has : (v1 + v11).toInt = ((a + s : Nat) : Int) := i_addN h1 h11 (by omega)
      have ha1 : (x1 + v11).toInt = ((29 * a + (b + s) : Nat) : Int) := by
        rw [i_addN hat h11 (by omega)]
        omega
      have ha2 : (x1 + v11 * 29).toInt = ((29 * (a + s) + b : Nat) : Int) := by
        rw [i_addN hat (i_mulN h11 z29 (by omega)) (by omega)]
        omega
      -- behind both
      have fin : ∀ bh', BV bh' B g (fun x y => ftB c i 0 x ∧ ftB c i 1 y ∧ ((a ≤ x ∧ y = b ∧ ltB c (x - a) ∧ x - a < s + 1) ∨ (a = x ∧ b < y ∧ ltB c (y - b) ∧ y - b < s + 1))) → E_Sla_fillFrom_153 rk rl rf rm rtc rwc rth rca fil sg sr nt ds rc nw bh' v1 v2 v3 v4 x1 x2 v8 v9 v10 v11 Q := by
        intro bh' hv'
        exact R_Sla_fillFrom_153 fun x8 e8 => ih (s + 1) bh' v8 v9 v10 x8 (by omega) (by omega) h10 (by rw [e8]; exact i_suc h11 (by omega)) h8 h9 hv'
      have mid : ∀ bh', BV bh' B g (fun x y => ftB c i 0 x ∧ ftB c i 1 y ∧ ((a ≤ x ∧ y = b ∧ ltB c (x - a) ∧ x - a < s) ∨ (a = x ∧ b < y ∧ ltB c (y - b) ∧ y - b < s + 1))) → E_Sla_fillFrom_123 rk rl rf rm rtc rwc rth rca fil sg sr nt ds rc nw bh' v1 v2 v3 v4 x1 x2 v8 v9 v10 v11 Q := by
        intro bh' hv'
        have noadd : ¬ (ftB c i 1 b ∧ ftB c i 0 (a + s)) → E_Sla_fillFrom_153 rk rl rf rm rtc rwc rth rca fil sg sr nt ds rc nw bh' v1 v2 v3 v4 x1 x2 v8 v9 v10 v11 Q := by
          intro hno
          refine fin bh' (BV_congr hv' fun x y hx hy => ?_)
          constructor
          · rintro ⟨q1, q2, q3 | q3⟩
            · exact ⟨q1, q2, Or.inl ⟨q3.1, q3.2.1, q3.2.2.1, by omega⟩⟩
            · exact ⟨q1, q2, Or.inr q3⟩
          · rintro ⟨q1, q2, q3 | q3⟩
            · refine ⟨q1, q2, Or.inl ⟨q3.1, q3.2.1, q3.2.2.1, ?_⟩⟩
              refine Classical.byContradiction fun z => hno ?_
              have ex : x = a + s := by omega
              rw [← ex, ← q3.2.1]
              exact ⟨q2, q1⟩
            · exact ⟨q1, q2, Or.inr q3⟩
        refine R_Sla_fillFrom_123 ⟨fun z => noadd fun q => h9.mp z q.1, fun z => ⟨fun y => noadd fun q => (t3 has (by omega)).mp y q.2, fun y => ?_⟩⟩
        have y1 : ftB c i 1 b := Classical.not_not.mp (mt h9.mpr z)
        have y2 : ftB c i 0 (a + s) := Classical.not_not.mp (mt (t3 has (by omega)).mpr y)
        refine S_Sla_addFills (x0 := a + s) (y0 := b) hv' hB' hx2 hg2 (by omega) (by omega) ha2 (fun q => by omega) fun bh2 hv2 => fin bh2 (BV_congr hv2 fun x y hx hy => ?_)
        constructor
        · rintro (⟨q1, q2, q3 | q3⟩ | ⟨q1, q2⟩)
          · exact ⟨q1, q2, Or.inl ⟨q3.1, q3.2.1, q3.2.2.1, by omega⟩⟩
          · exact ⟨q1, q2, Or.inr q3⟩
          · subst q1
            subst q2
            refine ⟨y2, y1, Or.inl ⟨by omega, rfl, ?_, by omega⟩⟩
            rw [show a + s - a = s by omega]
            exact hlt
        · rintro ⟨q1, q2, q3 | q3⟩
          · by_cases e : x - a < s
            · exact Or.inl ⟨q1, q2, Or.inl ⟨q3.1, q3.2.1, q3.2.2.1, e⟩⟩
            · exact Or.inr ⟨by omega, q3.2.1⟩
          · exact Or.inl ⟨q1, q2, Or.inr q3⟩
      have noadd : ¬ (ftB c i 0 a ∧ ftB c i 1 (b + s)) → E_Sla_fillFrom_123 rk rl rf rm rtc rwc rth rca fil sg sr nt ds rc nw bh v1 v2 v3 v4 x1 x2 v8 v9 v10 v11 Q := by
        intro hno
        refine mid bh (BV_congr hv fun x y hx hy => ?_)
        constructor
        · rintro ⟨q1, q2, q3 | q3⟩
          · exact ⟨q1, q2, Or.inl q3⟩
          · exact ⟨q1, q2, Or.inr ⟨q3.1, q3.2.1, q3.2.2.1, by omega⟩⟩
        · rintro ⟨q1, q2, q3 | q3⟩
          · exact ⟨q1, q2, Or.inl q3⟩
          · refine ⟨q1, q2, Or.inr ⟨q3.1, q3.2.1, q3.2.2.1, ?_⟩⟩
            refine Classical.byContradiction fun z => hno ?_
            have ey : y = b + s := by omega
            rw [← ey, q3.1]
            exact ⟨q1, q2⟩
      refine R_Sla_fillFrom_88 ⟨fun z => absurd z (by rw [i_lt, h10, h11]; omega), fun _ => ⟨fun z => noadd fun q => h8.mp z q.1, fun z => ⟨fun y => noadd fun q => (t4 hbs (by omega)).mp y q.2, fun y => ?_⟩⟩⟩
      have y1 : ftB c i 0 a := Classical.not_not.mp (mt h8.mpr z)
      have y2 : ftB c i 1 (b + s) := Classical.not_not.mp (mt (t4 hbs (by omega)).mpr y)
      refine S_Sla_addFills (x0 := a) (y0 := b + s) hv hB' hx2 hg2 (by omega) (by omega) ha1 (fun q => by omega) fun bh2 hv2 => mid bh2 (BV_congr hv2 fun x y hx hy => ?_)
      constructor
      · rintro (⟨q1, q2, q3 | q3⟩ | ⟨q1, q2⟩)
        · exact ⟨q1, q2, Or.inl q3⟩
        · exact ⟨q1, q2, Or.inr ⟨q3.1, q3.2.1, q3.2.2.1, by omega⟩⟩
        · subst q1
          subst q2
          refine ⟨y1, y2, Or.inr ⟨rfl, by omega, ?_, by omega⟩⟩
          rw [show b + s - b = s by omega]
          exact hlt
      · rintro ⟨q1, q2, q3 | q3⟩
        · exact Or.inl ⟨q1, q2, Or.inl q3⟩
        · by_cases e : y - b < s
          · exact Or.inl ⟨q1, q2, Or.inr ⟨q3.1, q3.2.1, q3.2.2.1, e⟩⟩
          · exact Or.inr ⟨q3.1.symm, by omega⟩
  have start : ∀ (bh : Nat → Int64) (v8 v9 : Int32), (v8 = 0 ↔ ¬ ftB c i 0 a) → (v9 = 0 ↔ ¬ ftB c i 1 b) → BV bh B g (fun x y => (ftB c i 0 a ∧ ftB c i 1 b ∧ c.k ≠ 0) ∧ x = a ∧ y = b) → E_Sla_fillFrom_76 rk rl rf rm rtc rwc rth rca fil sg sr nt ds rc nw bh v1 v2 v3 v4 x1 x2 v8 v9 Q := by
    intro bh v8 v9 h8 h9 hv
    refine R_Sla_fillFrom_76 (S_Sla_mostScore_loc hK fun r4 e4 => S_Sla_leastScore_loc hK fun r5 e5 => ?_)
    refine loop ((if lsS c ≤ msS c then msS c + 1 else lsS c) - lsS c) (lsS c) bh v8 v9 r4 r5 (Nat.le_refl _) (by split <;> omega) e4 e5 h8 h9 (BV_congr hv fun x y hx hy => ?_)
    constructor
    · rintro ⟨⟨q1, q2, q3⟩, q4, q5⟩
      subst q4
      subst q5
      refine ⟨q1, q2, Or.inl ⟨by omega, rfl, ?_, by omega⟩⟩
      rw [Nat.sub_self]
      exact (ltS_0 hc).mpr q3
    · rintro ⟨q1, q2, q3 | q3⟩
      · have e : x - a = 0 := by
          refine Classical.byContradiction fun z => ?_
          have := ((l4 (x - a) (by omega)).mp q3.2.2.1).1
          omega
        have ex : x = a := by omega
        have h0 := q3.2.2.1
        rw [e] at h0
        rw [ex] at q1
        rw [q3.2.1] at q2
        exact ⟨⟨q1, q2, (ltS_0 hc).mp h0⟩, ex, q3.2.1⟩
      · have := ((l4 (y - b) (by omega)).mp q3.2.2.1).1
        omega
  have h46 : ∀ (v8 v9 : Int32), (v8 = 0 ↔ ¬ ftB c i 0 a) → (v9 = 0 ↔ ¬ ftB c i 1 b) → E_Sla_fillFrom_46 rk rl rf rm rtc rwc rth rca fil sg sr nt ds rc nw bh v1 v2 v3 v4 x1 x2 v8 v9 Q := by
    intro v8 v9 h8 h9
    have b0 : BV bh B g (fun _ _ => False) := fun x y hx hy => ⟨False.elim, fun _ => (hB x y hx hy).2⟩
    have noadd : ¬ (ftB c i 0 a ∧ ftB c i 1 b ∧ c.k ≠ 0) → E_Sla_fillFrom_76 rk rl rf rm rtc rwc rth rca fil sg sr nt ds rc nw bh v1 v2 v3 v4 x1 x2 v8 v9 Q := fun hno => start bh v8 v9 h8 h9 (BV_congr b0 fun x y _ _ => ⟨False.elim, fun z => hno z.1⟩)
    refine R_Sla_fillFrom_46 ⟨fun z => noadd fun q => h8.mp z q.1, fun z => ⟨fun y => noadd fun q => h9.mp y q.2.1, fun y => ⟨fun x => noadd fun q => q.2.2 ((i_lit0 hK.2.1).mp x), fun x => ?_⟩⟩⟩
    refine S_Sla_addFills (x0 := a) (y0 := b) b0 hB' hx2 hg2 (by omega) (by omega) hat id fun bh2 hv2 => start bh2 v8 v9 h8 h9 (BV_congr hv2 fun u v _ _ => ?_)
    constructor
    · rintro (q | q)
      · exact q.elim
      · exact ⟨⟨Classical.not_not.mp (mt h8.mpr z), Classical.not_not.mp (mt h9.mpr y), fun q => x ((i_lit0 hK.2.1).mpr q)⟩, q⟩
    · exact fun q => Or.inr q.2
  have h30 : ∀ v8 : Int32, (v8 = 0 ↔ ¬ ftB c i 0 a) → E_Sla_fillFrom_30 rk rl rf rm rtc rwc rth rca fil sg sr nt ds rc nw bh v1 v2 v3 v4 x1 x2 v8 Q := by
    intro v8 h8
    refine R_Sla_fillFrom_30 ⟨fun z => R_Sla_fillFrom_45 (h46 v8 0 h8 ⟨fun _ => (t4 h2 (by omega)).mp z, fun _ => rfl⟩), fun z => h46 v8 1 h8 ⟨fun q => absurd q (by decide), fun q => absurd ((t4 h2 (by omega)).mpr q) z⟩⟩
  exact ⟨fun z => R_Sla_fillFrom_29 (h30 0 ⟨fun _ => (t3 h1 (by omega)).mp z, fun _ => rfl⟩), fun z => h30 1 ⟨fun q => absurd q (by decide), fun q => absurd ((t3 h1 (by omega)).mpr q) z⟩⟩
end SLATEF
