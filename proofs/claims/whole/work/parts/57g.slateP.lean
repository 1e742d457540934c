/-! SLATE in the class: the methods from outside; the reference's small ones -/
section SLATEP
variable {vv vv' vv2 : Nat → Value} {c : SlC} {n : Nat} {rk rl rf rm rtc rwc fil sg sr : Int32} {rth rca : Nat → Int32} {vvr : Nat → Value} {nt ds rc : Nat → Int32}
def okM (z : Int) : Prop := -1 ≤ z ∧ z ≤ 60
def okD (n : Nat) (a b : Int) : Prop := 0 ≤ a ∧ a < n ∧ (b = 0 ∨ b = 1)
theorem S_F_slate {v1 : Int32} {Q : Int32 → Int32 → Int32 → Int32 → Prop} (hq0 : ¬ (1 ≤ v1.toInt ∧ v1.toInt ≤ 21) → Q (-2) fil sg sr) (hq : 1 ≤ v1.toInt ∧ v1.toInt ≤ 21 → Q 1 (-1) v1 0) : P_F_slate vv vv' fil sg sr v1 Q := by
  refine T_F_slate (R_F_slate_0 (S_F_isWithin fun r1 e1 => ?_))
  rw [z_1, show (21 : Int32).toInt = 21 by decide] at e1
  exact ⟨fun z => R_F_slate_13 (T_Sla_begin (R_Sla_begin_0 (S_Sla_startAgain (hq (Classical.not_not.mp (mt (bz e1).mpr z)))))), fun z => hq0 ((bz e1).mp z)⟩
theorem S_F_round {v1 v2 : Int32} {Q : Int32 → Int32 → (Nat → Int32) → (Nat → Int32) → Prop} (hr : sr.toInt = (n : Int)) (hn : n ≤ 40) (hq0 : ¬ (okM v1.toInt ∧ okM v2.toInt) → Q (-2) sr nt ds) (hqF : okM v1.toInt ∧ okM v2.toInt → n = 40 → Q (-4) sr nt ds) (hq : okM v1.toInt ∧ okM v2.toInt → n < 40 → ∀ r : Int32, r.toInt = ((n + 1 : Nat) : Int) → Q r r (up (up nt (2 * n) v1) (2 * n + 1) v2) (up (up ds (2 * n) 0) (2 * n + 1) 0)) : P_F_round vv vv' sr nt ds v1 v2 Q := by
  have zm : (-1 : Int32).toInt = -1 := by decide
  have z60 : (60 : Int32).toInt = 60 := by decide
  refine T_F_round (R_F_round_0 (S_F_isWithin fun r1 e1 => ?_))
  rw [zm, z60] at e1
  refine ⟨fun z => R_F_round_20 (hq0 fun q => (bz e1).mp z q.1), fun z => S_F_isWithin fun r2 e2 => ?_⟩
  rw [zm, z60] at e2
  refine ⟨fun y => R_F_round_23 ?_, fun y => R_F_round_20 (hq0 fun q => (bz e2).mp y q.2)⟩
  have ok : okM v1.toInt ∧ okM v2.toInt := ⟨Classical.not_not.mp (mt (bz e1).mpr z), Classical.not_not.mp (mt (bz e2).mpr y)⟩
  have z40 : (40 : Int32).toInt = 40 := by decide
  refine T_Sla_add (R_Sla_add_0 ⟨fun q => R_Sla_add_12 ?_, fun q => hqF ok ?_⟩)
  · rw [i_lt, hr, z40] at q
    have j0 := i_mulN i_2 hr (by omega)
    have j1 : (2 * sr + 1).toInt = ((2 * n + 1 : Nat) : Int) := i_suc j0 (by omega)
    refine ⟨i_in j0 (by omega), i_in j1 (by omega), i_in j0 (by omega), i_in j1 (by omega), fun x1 e1 => ?_⟩
    rw [i_nat j0, i_nat j1, vz0]
    exact hq ok (by omega) x1 (by rw [e1]; exact i_suc hr (by omega))
  · rw [i_lt, hr, z40] at q
    omega
theorem S_F_dispute {v1 v2 v3 : Int32} {Q : Int32 → Int32 → (Nat → Int32) → Prop} (hr : sr.toInt = (n : Int)) (hM : MkR c n nt ds) (hb : v3 = 0 ∨ v3 = 1) (hq0 : ¬ okD n v1.toInt v2.toInt → Q (-2) fil ds) (hqN : okD n v1.toInt v2.toInt → c.mk (2 * v1.toInt.toNat + v2.toInt.toNat) < 0 → Q (-3) fil ds) (hq : okD n v1.toInt v2.toInt → ¬ c.mk (2 * v1.toInt.toNat + v2.toInt.toNat) < 0 → Q 1 (-1) (up ds (2 * v1.toInt.toNat + v2.toInt.toNat) v3)) : P_F_dispute vv vv' fil sr nt ds v1 v2 v3 Q := by
  obtain ⟨hn, hm⟩ := hM
  refine T_F_dispute (R_F_dispute_0 (S_Sla_hasMark hr fun r1 e1 => ⟨fun z => R_F_dispute_15 ?_, fun z => hq0 ((bz e1).mp z)⟩))
  have ok : okD n v1.toInt v2.toInt := Classical.not_not.mp (mt (bz e1).mpr z)
  have ok' := ok
  unfold okD at ok'
  have h1 : v1.toInt = (v1.toInt.toNat : Int) := by omega
  have h2 : v2.toInt = (v2.toInt.toNat : Int) := by omega
  generalize hi : v1.toInt.toNat = i at *
  generalize hp : v2.toInt.toNat = p at *
  have hj := i_addN (i_mulN i_2 h1 (by omega)) h2 (by omega)
  obtain ⟨m1, m2, m3, m4⟩ := hm (2 * i + p) (by omega)
  have hv3 : vp_nar .boolean v3 = v3 := by
    rcases hb with e | e
    · rw [e]; exact vz0
    · rw [e]; exact vz1
  refine T_Sla_setDisputed (R_Sla_setDisputed_0 ⟨i_in hj (by omega), ?_⟩)
  rw [i_nat hj]
  refine ⟨fun y => R_Sla_setDisputed_17 ⟨i_in hj (by omega), S_Sla_startAgain ?_⟩, fun y => hqN ok ?_⟩
  · rw [i_nat hj, hv3]
    refine hq ok fun q => y ?_
    rw [i_eq, m1, show (-1 : Int32).toInt = -1 by decide]
    omega
  · rw [i_eq, m1, show (-1 : Int32).toInt = -1 by decide] at y
    omega
theorem S_F_had {v1 v2 v3 : Int32} {Q : Int32 → (Nat → Int32) → Prop} (hK : KlR c rk rl rf sg) (hM : MkR c n nt ds) (hr : sr.toInt = (n : Int)) (hq0 : ¬ okD n v1.toInt v2.toInt → Q (-2) rc) (hq : okD n v1.toInt v2.toInt → ∀ (r : Int32) rc', LeM (hdP c n v1.toInt.toNat v2.toInt.toNat) (v3 ≠ 0) r.toInt → Q r rc') : P_F_had vv vv' vv2 rk rl rf sg sr nt ds rc v1 v2 v3 Q := by
  refine T_F_had (R_F_had_0 (S_Sla_hasMark hr fun r1 e1 => ⟨fun z => R_F_had_15 ?_, fun z => hq0 ((bz e1).mp z)⟩))
  have ok : okD n v1.toInt v2.toInt := Classical.not_not.mp (mt (bz e1).mpr z)
  have ok' := ok
  unfold okD at ok'
  exact S_Sla_findHad hK hM hr (by omega) (by omega) (by omega) (by omega) fun r rc' h => hq ok r rc' h
theorem S_F_wrong {Q : Int32 → (Nat → Int32) → Prop} (hK : KlR c rk rl rf sg) (hM : MkR c n nt ds) (hr : sr.toInt = (n : Int)) (hq : ∀ (r : Int32) rc', WrS c n r.toInt → Q r rc') : P_F_wrong vv vv' vv2 rk rl rf sg sr nt ds rc Q := T_F_wrong (R_F_wrong_0 (S_Sla_reachAll hK hM hr fun r rc' h _ => hq r rc' h))
/-! the reference -/
theorem S_Mo_slate {mg mr v1 : Int32} {Q : Int32 → Int32 → Int32 → Prop} (hq0 : ¬ (1 ≤ v1.toInt ∧ v1.toInt ≤ 21) → Q (-2) mg mr) (hq : 1 ≤ v1.toInt ∧ v1.toInt ≤ 21 → Q 1 v1 0) : P_Mo_slate vv mg mr v1 Q := by
  refine T_Mo_slate (R_Mo_slate_0 (S_Mo_in fun r1 e1 => ?_))
  rw [Int32.toInt_toInt64, show (1 : Int64).toInt = 1 by decide, show (21 : Int64).toInt = 21 by decide] at e1
  exact ⟨fun z => R_Mo_slate_15 (hq (Classical.not_not.mp (mt (bz e1).mpr z))), fun z => hq0 ((bz e1).mp z)⟩
theorem S_Mo_isMark {v : Int32} {Q : Int32 → Prop} (hq : ∀ r : Int32, (r = 1 ∧ okM v.toInt) ∨ (r = 0 ∧ ¬ okM v.toInt) → Q r) : P_Mo_isMark v Q := by
  refine T_Mo_isMark (R_Mo_isMark_0 (S_Mo_in fun r1 e1 => ?_))
  rw [Int32.toInt_toInt64, show (-1 : Int64).toInt = -1 by decide, show (60 : Int64).toInt = 60 by decide] at e1
  refine ⟨?_, hq r1 e1⟩
  rcases e1 with e | e
  · rw [e.1]; exact rb1
  · rw [e.1]; exact rb0
theorem S_Mo_round {v1 v2 : Int32} {Q : Int32 → Int32 → (Nat → Int32) → (Nat → Int32) → Prop} (hr : sr.toInt = (n : Int)) (hn : n ≤ 40) (hq0 : ¬ (okM v1.toInt ∧ okM v2.toInt) → Q (-2) sr nt ds) (hqF : okM v1.toInt ∧ okM v2.toInt → n = 40 → Q (-4) sr nt ds) (hq : okM v1.toInt ∧ okM v2.toInt → n < 40 → ∀ r : Int32, r.toInt = ((n + 1 : Nat) : Int) → Q r r (up (up nt (2 * n) v1) (2 * n + 1) v2) (up (up ds (2 * n) 0) (2 * n + 1) 0)) : P_Mo_round vv sr nt ds v1 v2 Q := by
  refine T_Mo_round (R_Mo_round_0 (S_Mo_isMark fun r1 e1 => ⟨fun z => R_Mo_round_14 (hq0 fun q => (bz e1).mp z q.1), fun z => S_Mo_isMark fun r2 e2 => R_Mo_round_11 ⟨fun y => R_Mo_round_17 ?_, fun y => R_Mo_round_14 (hq0 fun q => (bz e2).mp y q.2)⟩⟩))
  have ok : okM v1.toInt ∧ okM v2.toInt := ⟨Classical.not_not.mp (mt (bz e1).mpr z), Classical.not_not.mp (mt (bz e2).mpr y)⟩
  have z40 : (40 : Int32).toInt = 40 := by decide
  refine ⟨fun q => R_Mo_round_29 ?_, fun q => hqF ok ?_⟩
  · rw [i_eq, hr, z40] at q
    have j0 := i_mulN i_2 hr (by omega)
    have j1 : (2 * sr + 1).toInt = ((2 * n + 1 : Nat) : Int) := i_suc j0 (by omega)
    refine ⟨i_in j0 (by omega), i_in j1 (by omega), i_in j0 (by omega), i_in j1 (by omega), fun x1 e1 => ?_⟩
    rw [i_nat j0, i_nat j1, vz0]
    exact hq ok (by omega) x1 (by rw [e1]; exact i_suc hr (by omega))
  · rw [i_eq, hr, z40] at q
    omega
theorem S_Mo_dispute {v1 v2 v3 : Int32} {Q : Int32 → (Nat → Int32) → Prop} (hr : sr.toInt = (n : Int)) (hM : MkR c n nt ds) (hb : v3 = 0 ∨ v3 = 1) (hq0 : ¬ okD n v1.toInt v2.toInt → Q (-2) ds) (hqN : okD n v1.toInt v2.toInt → c.mk (2 * v1.toInt.toNat + v2.toInt.toNat) < 0 → Q (-3) ds) (hq : okD n v1.toInt v2.toInt → ¬ c.mk (2 * v1.toInt.toNat + v2.toInt.toNat) < 0 → Q 1 (up ds (2 * v1.toInt.toNat + v2.toInt.toNat) v3)) : P_Mo_dispute vv sr nt ds v1 v2 v3 Q := by
  obtain ⟨hn, hm⟩ := hM
  have hs : (sr - 1).toInt = (n : Int) - 1 := i_sub hr z_1 (by omega) (by omega)
  refine T_Mo_dispute (R_Mo_dispute_0 (S_Mo_in fun r1 e1 => ?_))
  rw [Int32.toInt_toInt64, Int32.toInt_toInt64, hs, show (0 : Int64).toInt = 0 by decide] at e1
  refine ⟨fun z => R_Mo_dispute_26 (hq0 fun q => (bz e1).mp z ⟨q.1, by have := q.2.1; omega⟩), fun z => S_Mo_in fun r2 e2 => ?_⟩
  rw [Int32.toInt_toInt64, show (0 : Int64).toInt = 0 by decide, show (1 : Int64).toInt = 1 by decide] at e2
  refine R_Mo_dispute_23 ⟨fun y => R_Mo_dispute_29 ?_, fun y => R_Mo_dispute_26 (hq0 fun q => (bz e2).mp y (by have := q.2.2; omega))⟩
  have p1 := Classical.not_not.mp (mt (bz e1).mpr z)
  have p2 := Classical.not_not.mp (mt (bz e2).mpr y)
  have ok : okD n v1.toInt v2.toInt := ⟨p1.1, by omega, by omega⟩
  have h1 : v1.toInt = (v1.toInt.toNat : Int) := by omega
  have h2 : v2.toInt = (v2.toInt.toNat : Int) := by omega
  generalize hi : v1.toInt.toNat = i at *
  generalize hp : v2.toInt.toNat = p at *
  have hj := i_addN (i_mulN i_2 h1 (by omega)) h2 (by omega)
  obtain ⟨m1, m2, m3, m4⟩ := hm (2 * i + p) (by omega)
  have hv3 : vp_nar .boolean v3 = v3 := by
    rcases hb with e | e
    · rw [e]; exact vz0
    · rw [e]; exact vz1
  refine ⟨i_in hj (by omega), ?_⟩
  rw [i_nat hj]
  refine ⟨fun q => R_Mo_dispute_45 ⟨i_in hj (by omega), ?_⟩, fun q => hqN ok ?_⟩
  · rw [i_nat hj, hv3]
    rw [i_le, z_0, m1] at q
    exact hq ok (by omega)
  · rw [i_le, z_0, m1] at q
    omega
theorem S_Mo_at {v0 v1 v2 : Int32} {i x y : Nat} {Q : Int32 → Prop} (h0 : v0.toInt = (i : Int)) (h1 : v1.toInt = (x : Int)) (h2 : v2.toInt = (y : Int)) (hi : i ≤ 40) (hx : x < 30) (hy : y < 30) (hq : ∀ r : Int32, r.toInt = ((900 * i + 30 * x + y : Nat) : Int) → Q r) : P_Mo_at v0 v1 v2 Q := T_Mo_at (R_Mo_at_0 (hq _ (i_addN (i_addN (i_mulN (show (900 : Int32).toInt = ((900 : Nat) : Int) by decide) h0 (by omega)) (i_mulN (show (30 : Int32).toInt = ((30 : Nat) : Int) by decide) h1 (by omega)) (by omega)) h2 (by omega))))
theorem S_Mo_cut {v : Int64} {a b : Nat} {x y : Int64} {Q : Int64 → Prop} (hx : x.toInt = (sat a : Int)) (hy : y.toInt = (sat b : Int)) (hv : v = x + y) (hq : ∀ r : Int64, r.toInt = (sat (a + b) : Int) → Q r) : P_Mo_cut v Q := by
  have zmf : (1000000000000000000 : Int64).toInt = 1000000000000000000 := by decide
  have hs : v.toInt = ((sat a + sat b : Nat) : Int) := by
    rw [hv]
    exact j_addN hx hy (by have := sat_le a; have := sat_le b; omega)
  refine T_Mo_cut (R_Mo_cut_0 ⟨fun z => R_Mo_cut_14 (R_Mo_cut_15 (hq v ?_)), fun z => R_Mo_cut_15 (hq _ ?_)⟩)
  · rw [lg_le0, hs, zmf] at z
    rw [hs, ← sat_add]
    generalize sat a + sat b = t at *
    unfold sat
    rw [if_pos (by omega)]
  · rw [lg_le0, hs, zmf] at z
    rw [zmf, ← sat_add]
    generalize sat a + sat b = t at *
    unfold sat
    rw [if_neg (by omega)]
    rfl
theorem S_Mo_lets {v1 : Int32} {s : Nat} {Q : Int32 → Prop} (hK : KlR c rk rl rf sg) (h1 : v1.toInt = (s : Int)) (hq : ∀ r : Int32, (r = 1 ∧ ltB c s) ∨ (r = 0 ∧ ¬ ltB c s) → Q r) : P_Mo_lets vv rk rl rf v1 Q := by
  obtain ⟨hc, k1, k2, k3, k4⟩ := hK
  have hl : c.lo ≤ 5 ∧ c.hi ≤ 5 := by
    have := hc.2.1
    have := hc.2.2.1
    omega
  have m1 := i_mulN i_2 k2 (by omega)
  have m2 := i_mulN i_2 k3 (by omega)
  have yes : ltB c s → E_Mo_lets_62 vv rk rl rf 1 Q := fun q => R_Mo_lets_62 ⟨rb1, hq 1 (Or.inl ⟨rfl, q⟩)⟩
  have no : ¬ ltB c s → E_Mo_lets_62 vv rk rl rf 0 Q := fun q => R_Mo_lets_62 ⟨rb0, hq 0 (Or.inr ⟨rfl, q⟩)⟩
  unfold ltB at yes no
  refine T_Mo_lets (R_Mo_lets_0 ?_)
  rw [i_lit2 k1, i_lit0 h1, i_lt, i_lt, m1, m2, h1]
  refine ⟨fun e => R_Mo_lets_40 ?_, fun e => ?_⟩
  · rw [if_neg e] at yes no
    rw [i_lit1 h1, i_lit0 h1, i_lit1 k1]
    exact ⟨fun q => R_Mo_lets_57 (yes (by omega)), fun q => ⟨fun p => R_Mo_lets_61 (no (by omega)), fun p => ⟨fun o => R_Mo_lets_61 (no (by omega)), fun o => R_Mo_lets_57 (yes (by omega))⟩⟩⟩
  · rw [if_pos e] at yes no
    exact ⟨fun q => R_Mo_lets_32 (yes (by omega)), fun q => ⟨fun p => R_Mo_lets_36 (no (by omega)), fun p => ⟨fun o => R_Mo_lets_36 (no (by omega)), fun o => R_Mo_lets_32 (yes (by omega))⟩⟩⟩
theorem S_Mo_goes {v1 v2 v3 v4 : Int32} {a b x y : Nat} {Q : Int32 → Prop} (hK : KlR c rk rl rf sg) (h1 : v1.toInt = (a : Int)) (h2 : v2.toInt = (b : Int)) (h3 : v3.toInt = (x : Int)) (h4 : v4.toInt = (y : Int)) (ha : a < 40) (hb : b < 40) (hx : x < 40) (hy : y < 40) (hq : ∀ r : Int32, (r = 1 ∧ goB c a b x y) ∨ (r = 0 ∧ ¬ goB c a b x y) → Q r) : P_Mo_goes vv rk rl rf sg v1 v2 v3 v4 Q := by
  have k4 := hK.2.2.2.2
  refine T_Mo_goes (R_Mo_goes_0 fun x1 e1 x2 e2 => ?_)
  have g1 : x1.toInt = (x : Int) - a := by rw [e1]; exact i_sub h3 h1 (by omega) (by omega)
  have g2 : x2.toInt = (y : Int) - b := by rw [e2]; exact i_sub h4 h2 (by omega) (by omega)
  have yes : goB c a b x y → E_Mo_goes_64 vv rk rl rf sg 1 Q := fun q => R_Mo_goes_64 ⟨rb1, hq 1 (Or.inl ⟨rfl, q⟩)⟩
  have no : ¬ goB c a b x y → E_Mo_goes_63 vv rk rl rf sg Q := fun q => R_Mo_goes_63 (R_Mo_goes_64 ⟨rb0, hq 0 (Or.inr ⟨rfl, q⟩)⟩)
  have lets : a < c.G → b < c.G → a ≤ x → b ≤ y → (x = a ∨ y = b) → E_Mo_goes_47 vv rk rl rf sg x1 x2 Q := by
    intro q1 q2 q3 q4 q5
    have hs : (x1 + x2).toInt = (((x - a) + (y - b) : Nat) : Int) := by
      rw [i_add g1 g2 (by omega) (by omega)]
      omega
    refine R_Mo_goes_47 (S_Mo_lets hK hs fun r3 e3 => ⟨fun z => no fun q => (bz e3).mp z ?_, fun z => yes ?_⟩)
    · rcases q.2.2 with ⟨o1, o2, o3⟩ | ⟨o1, o2, o3⟩
      · rw [show x - a + (y - b) = x - a by omega]
        exact o3
      · rw [show x - a + (y - b) = y - b by omega]
        exact o3
    · have := Classical.not_not.mp (mt (bz e3).mpr z)
      by_cases e : y = b
      · rw [show x - a + (y - b) = x - a by omega] at this
        exact ⟨q1, q2, Or.inl ⟨q3, e, this⟩⟩
      · rw [show x - a + (y - b) = y - b by omega] at this
        exact ⟨q1, q2, Or.inr ⟨by omega, by omega, this⟩⟩
  rw [i_le, i_le, i_lt, i_lt, i_eq x1, i_eq x2, k4, h1, h2, g1, g2, z_0]
  have n1 : ¬ (a < c.G ∧ b < c.G ∧ a ≤ x ∧ b ≤ y ∧ (x = a ∨ y = b)) → ¬ goB c a b x y := by
    intro z q
    rcases q with ⟨o1, o2, o3 | o3⟩
    · exact z ⟨o1, o2, o3.1, by omega, Or.inr o3.2.1⟩
    · exact z ⟨o1, o2, by omega, by omega, Or.inl o3.1.symm⟩
  refine ⟨fun z => no (n1 (by omega)), fun z1 => ⟨fun z => no (n1 (by omega)), fun z2 => ⟨fun z => no (n1 (by omega)), fun z3 => ⟨fun z => no (n1 (by omega)), fun z4 => ⟨fun z => lets (by omega) (by omega) (by omega) (by omega) (by omega), fun z5 => ⟨fun z => no (n1 (by omega)), fun z => lets (by omega) (by omega) (by omega) (by omega) (by omega)⟩⟩⟩⟩⟩⟩
theorem S_Mo_fits {v1 v2 v3 : Int32} {i p v : Nat} {Q : Int32 → Prop} (hM : MkR c n nt ds) (h1 : v1.toInt = (i : Int)) (hi : i < n) (h2 : v2.toInt = (p : Int)) (hp : p ≤ 1) (h3 : v3.toInt = (v : Int)) (hq : ∀ r : Int32, (r = 1 ∧ ftB c i p v) ∨ (r = 0 ∧ ¬ ftB c i p v) → Q r) : P_Mo_fits vv nt ds v1 v2 v3 Q := by
  obtain ⟨hn, hm⟩ := hM
  have hj := i_addN (i_mulN i_2 h1 (by omega)) h2 (by omega)
  obtain ⟨m1, m2, m3, m4⟩ := hm (2 * i + p) (by omega)
  have yes : ftB c i p v → E_Mo_fits_51 vv nt ds Q := fun q => R_Mo_fits_51 (R_Mo_fits_56 ⟨rb1, hq 1 (Or.inl ⟨rfl, q⟩)⟩)
  have no : ¬ ftB c i p v → E_Mo_fits_55 vv nt ds Q := fun q => R_Mo_fits_55 (R_Mo_fits_56 ⟨rb0, hq 0 (Or.inr ⟨rfl, q⟩)⟩)
  refine T_Mo_fits (R_Mo_fits_0 fun x1 e1 => ?_)
  rw [← e1] at hj
  have hin : vp_in x1 80 := i_in hj (by omega)
  have hsum : (nt (2 * i + p) + 1).toInt = c.mk (2 * i + p) + 1 := i_add m1 z_1 (by omega) (by omega)
  have hd : ds (2 * i + p) = 0 ↔ ¬ c.dp (2 * i + p) = true := by
    rw [m4]
    split
    · rename_i q
      exact ⟨fun z => absurd z (by decide), fun z => absurd q z⟩
    · rename_i q
      exact ⟨fun _ => q, fun _ => rfl⟩
  rw [i_nat hj, i_lt, i_eq (nt (2 * i + p)) v3, i_eq (nt (2 * i + p) + 1) v3, m1, hsum, h3, z_0, hd]
  unfold ftB at yes no
  refine ⟨hin, fun z => yes (Or.inl z), fun z1 => ⟨hin, fun z => yes (Or.inr (Or.inl z)), fun z2 => ⟨hin, fun z => no ?_, fun z3 => ⟨hin, fun z => no ?_, fun z => yes (Or.inr (Or.inr ⟨Classical.not_not.mp z3, z⟩))⟩⟩⟩⟩
  · rintro (q | q | q)
    · exact z1 q
    · exact z2 q
    · exact z q.1
  · rintro (q | q | q)
    · exact z1 q
    · exact z2 q
    · exact z q.2
end SLATEP
