/-! SLATE in the class: bits, marks, small methods -/
def Bi (v : Int32) (P : Nat → Prop) : Prop := ∀ y, y < 32 → (v.toBitVec.getLsbD y = true ↔ P y)
theorem bi_congr {v : Int32} {P P' : Nat → Prop} (h : Bi v P) (e : ∀ y, y < 32 → (P y ↔ P' y)) : Bi v P' := fun y hy => (h y hy).trans (e y hy)
theorem bi_or {a b : Int32} {P P' : Nat → Prop} (h : Bi a P) (h' : Bi b P') : Bi (a ||| b) (fun y => P y ∨ P' y) := fun y hy => by
  rw [Int32.toBitVec_or, BitVec.getLsbD_or, Bool.or_eq_true, h y hy, h' y hy]
theorem bi_and {a b : Int32} {P P' : Nat → Prop} (h : Bi a P) (h' : Bi b P') : Bi (a &&& b) (fun y => P y ∧ P' y) := fun y hy => by
  rw [Int32.toBitVec_and, BitVec.getLsbD_and, Bool.and_eq_true, h y hy, h' y hy]
theorem bi_sm : ∀ n : Nat, n < 32 → ((nI n &&& 31).toBitVec.smod 32).toNat = n := by decide +kernel
theorem bi_nI {s : Int32} {n : Nat} (hs : s.toInt = (n : Int)) (hn : n < 32) : s = nI n := Int32.toInt_inj.mp (by rw [hs, nI_toInt (by omega)])
theorem bi_shl {a s : Int32} {n : Nat} {P : Nat → Prop} (h : Bi a P) (hs : s.toInt = (n : Int)) (hn : n < 32) : Bi (a <<< (s &&& 31)) (fun y => n ≤ y ∧ P (y - n)) := fun y hy => by
  have e : (a <<< (s &&& 31)).toBitVec = a.toBitVec <<< n := by
    rw [bi_nI hs hn]
    show a.toBitVec <<< ((nI n &&& 31).toBitVec.smod 32).toNat = _
    rw [bi_sm n hn]
  rw [e, BitVec.getLsbD_shiftLeft]
  by_cases q : y < n
  · rw [decide_eq_true q]
    simp
    omega
  · rw [decide_eq_false q, decide_eq_true hy, Bool.true_and, Bool.not_false, Bool.true_and, h _ (by omega)]
    exact ⟨fun z => ⟨by omega, z⟩, fun z => z.2⟩
theorem bi_shr {a s : Int32} {n : Nat} {P : Nat → Prop} (h : Bi a P) (h31 : ¬ P 31) (hs : s.toInt = (n : Int)) (hn : n < 32) : Bi (a >>> (s &&& 31)) (fun y => y + n < 32 ∧ P (y + n)) := fun y hy => by
  have e : (a >>> (s &&& 31)).toBitVec = a.toBitVec.sshiftRight n := by
    rw [bi_nI hs hn]
    show a.toBitVec.sshiftRight ((nI n &&& 31).toBitVec.smod 32).toNat = _
    rw [bi_sm n hn]
  have em : a.toBitVec.msb = false := by
    rw [BitVec.msb_eq_getLsbD_last]
    exact Bool.eq_false_iff.mpr fun z => h31 ((h 31 (by omega)).mp z)
  rw [e, BitVec.getLsbD_sshiftRight, em]
  by_cases q : n + y < 32
  · rw [if_pos q, decide_eq_false (by omega : ¬ 32 ≤ y), Bool.not_false, Bool.true_and, h _ q, Nat.add_comm n y]
    exact ⟨fun z => ⟨by omega, z⟩, fun z => z.2⟩
  · rw [if_neg q, Bool.and_false]
    exact ⟨fun z => absurd z (by decide), fun z => absurd z.1 (by omega)⟩
theorem bi_zero : Bi 0 (fun _ => False) := fun y hy => by
  have : ∀ y, y < 32 → (0 : Int32).toBitVec.getLsbD y = false := by decide +kernel
  rw [this y hy]
  simp
theorem bi_one : Bi 1 (fun y => y = 0) := fun y hy => by
  have : ∀ y, y < 32 → (1 : Int32).toBitVec.getLsbD y = decide (y = 0) := by decide +kernel
  rw [this y hy, decide_eq_true_iff]
theorem bi_all : Bi 536870911 (fun y => y < 29) := fun y hy => by
  have : ∀ y, y < 32 → (536870911 : Int32).toBitVec.getLsbD y = decide (y < 29) := by decide +kernel
  rw [this y hy, decide_eq_true_iff]
theorem bi_mask {g : Int32} {n : Nat} (hg : g.toInt = (n : Int)) (hn : n < 30) : Bi (((1 : Int32) <<< (g &&& 31)) - 1) (fun y => y < n) := fun y hy => by
  have : ∀ n, n < 30 → ∀ y, y < 32 → (((1 : Int32) <<< (nI n &&& 31)) - 1).toBitVec.getLsbD y = decide (y < n) := by decide +kernel
  rw [bi_nI hg (by omega), this n hn y hy, decide_eq_true_iff]
theorem bi_eq0 {v : Int32} {P : Nat → Prop} (h : Bi v P) : v = 0 ↔ ∀ y, y < 32 → ¬ P y := by
  constructor
  · intro e y hy z
    rw [e] at h
    exact (bi_zero y hy).mp ((h y hy).mpr z)
  · intro hn
    apply Int32.toBitVec_inj.mp
    apply BitVec.eq_of_getLsbD_eq
    intro y hy
    have a1 : v.toBitVec.getLsbD y = false := Bool.eq_false_iff.mpr fun z => hn y hy ((h y hy).mp z)
    have a2 : (0 : Int32).toBitVec.getLsbD y = false := Bool.eq_false_iff.mpr fun z => (bi_zero y hy).mp z
    rw [a1, a2]
theorem bi_bit {v y : Int32} {n : Nat} {P : Nat → Prop} (h : Bi v P) (h31 : ¬ P 31) (hy : y.toInt = (n : Int)) (hn : n < 32) : ((v >>> (y &&& 31)) &&& (1 : Int32)) = 0 ↔ ¬ P n := by
  rw [bi_eq0 (bi_and (bi_shr h h31 hy hn) bi_one)]
  constructor
  · intro z q
    refine z 0 (by omega) ⟨⟨by omega, ?_⟩, rfl⟩
    rw [Nat.zero_add]
    exact q
  · intro z y hy q
    obtain ⟨⟨q1, q2⟩, q3⟩ := q
    rw [q3, Nat.zero_add] at q2
    exact z q2
section SLATE
/-- the marks -/
def MkR (c : SlC) (n : Nat) (nt ds : Nat → Int32) : Prop := n ≤ 40 ∧ ∀ j, j < 2 * n → (nt j).toInt = c.mk j ∧ -1 ≤ c.mk j ∧ c.mk j ≤ 60 ∧ ds j = if c.dp j = true then 1 else 0
/-- the RULE and the goal -/
def KlR (c : SlC) (rk rl rf sg : Int32) : Prop := c.ok ∧ rk.toInt = (c.k : Int) ∧ rl.toInt = (c.lo : Int) ∧ rf.toInt = (c.hi : Int) ∧ sg.toInt = (c.G : Int)
variable {vv vv' : Nat → Value} {c : SlC} {n : Nat} {rk rl rf rm rtc rwc fil sg sr : Int32} {rth rca : Nat → Int32} {vvr : Nat → Value} {nt ds rc : Nat → Int32} {nw bh : Nat → Int64}
def lsS (c : SlC) : Nat := if c.k = 2 then (if 1 < 2 * c.lo then 2 * c.lo else 1) else 1
def msS (c : SlC) : Nat := if c.k = 2 then 2 * c.hi else 1
theorem ls_ms {c : SlC} (hc : c.ok) : 1 ≤ lsS c ∧ lsS c ≤ 10 ∧ msS c ≤ 8 ∧ ∀ s, 0 < s → (ltB c s ↔ lsS c ≤ s ∧ s ≤ msS c) := by
  obtain ⟨h1, h2, h3, h4, h5, h6⟩ := hc
  unfold lsS msS ltB
  by_cases e : c.k = 2
  · have := h4 e
    simp only [if_pos e]
    refine ⟨?_, ?_, by omega, fun s hs => ?_⟩
    · split <;> omega
    · split <;> omega
    · split <;> omega
  · simp only [if_neg e]
    exact ⟨by omega, by omega, by omega, fun s hs => by omega⟩
theorem ltS_0 {c : SlC} (hc : c.ok) : ltB c 0 ↔ c.k ≠ 0 := by
  have := hc.1
  unfold ltB
  split <;> omega
theorem S_Sla_leastScore {Q : Int32 → Prop} (h : KlR c rk rl rf sg) (hq : ∀ r : Int32, r.toInt = (lsS c : Int) → Q r) : P_Sla_leastScore vv vv' rk rl Q := by
  obtain ⟨hc, h1, h2, h3, h4⟩ := h
  have hl : c.lo ≤ 5 := by
    have := hc.2.1
    have := hc.2.2.1
    omega
  refine T_Sla_leastScore (R_Sla_leastScore_0 ⟨fun e => R_Sla_leastScore_27 (R_Sla_leastScore_28 (hq 1 ?_)), fun e x1 e1 => R_Sla_leastScore_28 (hq x1 ?_)⟩)
  · rw [i_lit2 h1] at e
    unfold lsS
    rw [if_neg e]
    exact z_1
  · rw [i_lit2 h1] at e
    unfold lsS
    rw [if_pos e]
    have hm := i_mulN i_2 h2 (by omega)
    rw [e1]
    by_cases q : 1 < 2 * c.lo
    · rw [if_pos q, if_pos (by rw [i_lt, z_1, hm]; omega), hm]
    · rw [if_neg q, if_neg (by rw [i_lt, z_1, hm]; omega)]
      exact z_1
theorem S_Sla_mostScore {Q : Int32 → Prop} (h : KlR c rk rl rf sg) (hq : ∀ r : Int32, r.toInt = (msS c : Int) → Q r) : P_Sla_mostScore vv vv' rk rf Q := by
  obtain ⟨hc, h1, h2, h3, h4⟩ := h
  have hl : c.hi ≤ 5 := hc.2.2.1
  refine T_Sla_mostScore (R_Sla_mostScore_0 ⟨fun e => R_Sla_mostScore_23 (R_Sla_mostScore_24 (hq 1 ?_)), fun e => R_Sla_mostScore_24 (hq _ ?_)⟩)
  · rw [i_lit2 h1] at e
    unfold msS
    rw [if_neg e]
    exact z_1
  · rw [i_lit2 h1] at e
    unfold msS
    rw [if_pos e]
    exact i_mulN i_2 h3 (by omega)
theorem S_Sla_toldBy {v1 v2 : Int32} {i p : Nat} {Q : Int32 → Prop} (h : MkR c n nt ds) (h1 : v1.toInt = (i : Int)) (hi : i < n) (h2 : v2.toInt = (p : Int)) (hp : p ≤ 1) (hq : ∀ r : Int32, Bi r (fun v => v < 29 ∧ ftB c i p v) → Q r) : P_Sla_toldBy vv' nt ds v1 v2 Q := by
  obtain ⟨hn, hm⟩ := h
  have hj := i_addN (i_mulN i_2 h1 (by omega)) h2 (by omega)
  obtain ⟨m1, m2, m3, m4⟩ := hm (2 * i + p) (by omega)
  have hin : vp_in (2 * v1 + v2) 80 := i_in hj (by omega)
  refine T_Sla_toldBy (R_Sla_toldBy_0 ⟨hin, fun x1 e1 => ?_⟩)
  rw [i_nat hj] at e1
  refine ⟨fun e => R_Sla_toldBy_19 ?_, fun e => hq _ (bi_congr bi_all fun y hy => ?_)⟩
  · have e' : c.mk (2 * i + p) ≠ -1 := fun z => e (by rw [i_eq, e1, m1, z]; decide)
    obtain ⟨m, em⟩ : ∃ m : Nat, c.mk (2 * i + p) = (m : Int) := ⟨(c.mk (2 * i + p)).toNat, by omega⟩
    have hx : x1.toInt = (m : Int) := by rw [e1, m1, em]
    have key : ∀ s0 : Int32, Bi s0 (fun y => y = m ∧ m < 29) → E_Sla_toldBy_32 vv' nt ds v1 v2 s0 Q := by
      intro s0 hs
      refine R_Sla_toldBy_32 ⟨hin, ?_⟩
      rw [i_nat hj, m4]
      refine ⟨fun z => R_Sla_toldBy_57 (R_Sla_toldBy_59 (hq _ (bi_congr (bi_and hs bi_all) fun y hy => ?_))), fun z => R_Sla_toldBy_59 (hq _ (bi_congr (bi_and (bi_or hs (bi_shl hs i_1 (by omega))) bi_all) fun y hy => ?_))⟩
      · have zd : c.dp (2 * i + p) = false := by
          cases q : c.dp (2 * i + p)
          · rfl
          · rw [q] at z
            exact absurd z (by decide)
        unfold ftB
        rw [em, zd]
        constructor
        · intro q
          exact ⟨q.2, Or.inr (Or.inl (by omega))⟩
        · rintro ⟨q1, q2 | q2 | q2⟩
          · omega
          · omega
          · exact absurd q2.1 (by decide)
      · have zd : c.dp (2 * i + p) = true := by
          cases q : c.dp (2 * i + p)
          · rw [q] at z
            exact absurd rfl z
          · rfl
        unfold ftB
        rw [em, zd]
        constructor
        · rintro ⟨q | q, q2⟩
          · exact ⟨q2, Or.inr (Or.inl (by omega))⟩
          · exact ⟨q2, Or.inr (Or.inr ⟨rfl, by omega⟩)⟩
        · rintro ⟨q1, q2 | q2 | q2⟩
          · omega
          · exact ⟨Or.inl (by omega), q1⟩
          · exact ⟨Or.inr (by omega), q1⟩
    refine ⟨fun z => R_Sla_toldBy_31 (key 0 (bi_congr bi_zero fun y hy => ?_)), fun z => key _ (bi_congr (bi_shl bi_one hx ?_) fun y hy => ?_)⟩
    · rw [i_le, hx, show (29 : Int32).toInt = 29 by decide] at z
      constructor
      · exact False.elim
      · omega
    · rw [i_le, hx, show (29 : Int32).toInt = 29 by decide] at z
      omega
    · rw [i_le, hx, show (29 : Int32).toInt = 29 by decide] at z
      omega
  · have e' : c.mk (2 * i + p) = -1 := by
      rw [← m1, ← e1, e]
      decide
    unfold ftB
    exact ⟨fun z => ⟨z, Or.inl (by omega)⟩, fun z => z.1⟩
theorem S_Sla_leastScore_loc {Q : Int32 → Prop} (h : KlR c rk rl rf sg) (hq : ∀ r : Int32, r.toInt = (lsS c : Int) → Q r) : P_Sla_leastScore_loc rk rl rf rm rtc rwc rth rca fil sg sr nt ds rc nw bh Q := by
  obtain ⟨hc, h1, h2, h3, h4⟩ := h
  have hl : c.lo ≤ 5 := by
    have := hc.2.1
    have := hc.2.2.1
    omega
  refine T_Sla_leastScore_loc (R_Sla_leastScore_loc_0 ⟨fun e => R_Sla_leastScore_loc_27 (R_Sla_leastScore_loc_28 (hq 1 ?_)), fun e x1 e1 => R_Sla_leastScore_loc_28 (hq x1 ?_)⟩)
  · rw [i_lit2 h1] at e
    unfold lsS
    rw [if_neg e]
    exact z_1
  · rw [i_lit2 h1] at e
    unfold lsS
    rw [if_pos e]
    have hm := i_mulN i_2 h2 (by omega)
    rw [e1]
    by_cases q : 1 < 2 * c.lo
    · rw [if_pos q, if_pos (by rw [i_lt, z_1, hm]; omega), hm]
    · rw [if_neg q, if_neg (by rw [i_lt, z_1, hm]; omega)]
      exact z_1
theorem S_Sla_mostScore_loc {Q : Int32 → Prop} (h : KlR c rk rl rf sg) (hq : ∀ r : Int32, r.toInt = (msS c : Int) → Q r) : P_Sla_mostScore_loc rk rl rf rm rtc rwc rth rca fil sg sr nt ds rc nw bh Q := by
  obtain ⟨hc, h1, h2, h3, h4⟩ := h
  have hl : c.hi ≤ 5 := hc.2.2.1
  refine T_Sla_mostScore_loc (R_Sla_mostScore_loc_0 ⟨fun e => R_Sla_mostScore_loc_23 (R_Sla_mostScore_loc_24 (hq 1 ?_)), fun e => R_Sla_mostScore_loc_24 (hq _ ?_)⟩)
  · rw [i_lit2 h1] at e
    unfold msS
    rw [if_neg e]
    exact z_1
  · rw [i_lit2 h1] at e
    unfold msS
    rw [if_pos e]
    exact i_mulN i_2 h3 (by omega)
theorem S_Sla_toldBy_loc {v1 v2 : Int32} {i p : Nat} {Q : Int32 → Prop} (h : MkR c n nt ds) (h1 : v1.toInt = (i : Int)) (hi : i < n) (h2 : v2.toInt = (p : Int)) (hp : p ≤ 1) (hq : ∀ r : Int32, Bi r (fun v => v < 29 ∧ ftB c i p v) → Q r) : P_Sla_toldBy_loc rk rl rf rm rtc rwc rth rca fil sg sr nt ds rc nw bh v1 v2 Q := by
  obtain ⟨hn, hm⟩ := h
  have hj := i_addN (i_mulN i_2 h1 (by omega)) h2 (by omega)
  obtain ⟨m1, m2, m3, m4⟩ := hm (2 * i + p) (by omega)
  have hin : vp_in (2 * v1 + v2) 80 := i_in hj (by omega)
  refine T_Sla_toldBy_loc (R_Sla_toldBy_loc_0 ⟨hin, fun x1 e1 => ?_⟩)
  rw [i_nat hj] at e1
  refine ⟨fun e => R_Sla_toldBy_loc_19 ?_, fun e => hq _ (bi_congr bi_all fun y hy => ?_)⟩
  · have e' : c.mk (2 * i + p) ≠ -1 := fun z => e (by rw [i_eq, e1, m1, z]; decide)
    obtain ⟨m, em⟩ : ∃ m : Nat, c.mk (2 * i + p) = (m : Int) := ⟨(c.mk (2 * i + p)).toNat, by omega⟩
    have hx : x1.toInt = (m : Int) := by rw [e1, m1, em]
    have key : ∀ s0 : Int32, Bi s0 (fun y => y = m ∧ m < 29) → E_Sla_toldBy_loc_32 rk rl rf rm rtc rwc rth rca fil sg sr nt ds rc nw bh v1 v2 s0 Q := by
      intro s0 hs
      refine R_Sla_toldBy_loc_32 ⟨hin, ?_⟩
      rw [i_nat hj, m4]
      refine ⟨fun z => R_Sla_toldBy_loc_57 (R_Sla_toldBy_loc_59 (hq _ (bi_congr (bi_and hs bi_all) fun y hy => ?_))), fun z => R_Sla_toldBy_loc_59 (hq _ (bi_congr (bi_and (bi_or hs (bi_shl hs i_1 (by omega))) bi_all) fun y hy => ?_))⟩
      · have zd : c.dp (2 * i + p) = false := by
          cases q : c.dp (2 * i + p)
          · rfl
          · rw [q] at z
            exact absurd z (by decide)
        unfold ftB
        rw [em, zd]
        constructor
        · intro q
          exact ⟨q.2, Or.inr (Or.inl (by omega))⟩
        · rintro ⟨q1, q2 | q2 | q2⟩
          · omega
          · omega
          · exact absurd q2.1 (by decide)
      · have zd : c.dp (2 * i + p) = true := by
          cases q : c.dp (2 * i + p)
          · rw [q] at z
            exact absurd rfl z
          · rfl
        unfold ftB
        rw [em, zd]
        constructor
        · rintro ⟨q | q, q2⟩
          · exact ⟨q2, Or.inr (Or.inl (by omega))⟩
          · exact ⟨q2, Or.inr (Or.inr ⟨rfl, by omega⟩)⟩
        · rintro ⟨q1, q2 | q2 | q2⟩
          · omega
          · exact ⟨Or.inl (by omega), q1⟩
          · exact ⟨Or.inr (by omega), q1⟩
    refine ⟨fun z => R_Sla_toldBy_loc_31 (key 0 (bi_congr bi_zero fun y hy => ?_)), fun z => key _ (bi_congr (bi_shl bi_one hx ?_) fun y hy => ?_)⟩
    · rw [i_le, hx, show (29 : Int32).toInt = 29 by decide] at z
      constructor
      · exact False.elim
      · omega
    · rw [i_le, hx, show (29 : Int32).toInt = 29 by decide] at z
      omega
    · rw [i_le, hx, show (29 : Int32).toInt = 29 by decide] at z
      omega
  · have e' : c.mk (2 * i + p) = -1 := by
      rw [← m1, ← e1, e]
      decide
    unfold ftB
    exact ⟨fun z => ⟨z, Or.inl (by omega)⟩, fun z => z.1⟩
theorem S_Sla_hasMark {v1 v2 : Int32} {Q : Int32 → Prop} (hr : sr.toInt = (n : Int)) (hq : ∀ r : Int32, (r = 1 ∧ (0 ≤ v1.toInt ∧ v1.toInt < n ∧ (v2.toInt = 0 ∨ v2.toInt = 1))) ∨ (r = 0 ∧ ¬ (0 ≤ v1.toInt ∧ v1.toInt < n ∧ (v2.toInt = 0 ∨ v2.toInt = 1))) → Q r) : P_Sla_hasMark vv' sr v1 v2 Q := by
  have h1 : (sr - 1).toInt = (n : Int) - 1 := by
    have := i_hi sr
    exact i_sub hr z_1 (by omega) (by omega)
  refine T_Sla_hasMark (R_Sla_hasMark_0 (S_F_isWithin fun r1 e1 => ?_))
  rw [z_0, h1] at e1
  refine ⟨fun e => R_Sla_hasMark_25 (R_Sla_hasMark_26 ⟨rb0, hq 0 (Or.inr ⟨rfl, fun z => (bz e1).mp e ⟨z.1, by omega⟩⟩)⟩), fun e => S_F_either fun r2 e2 => ?_⟩
  have p1 := Classical.not_not.mp (mt (bz e1).mpr e)
  refine ⟨fun q => R_Sla_hasMark_25 (R_Sla_hasMark_26 ⟨rb0, hq 0 (Or.inr ⟨rfl, fun z => (bz e2).mp q z.2.2⟩)⟩), fun q => R_Sla_hasMark_26 ⟨rb1, hq 1 (Or.inl ⟨rfl, p1.1, by omega, Classical.not_not.mp (mt (bz e2).mpr q)⟩)⟩⟩
theorem S_Sla_startAgain {Q : Int32 → Prop} (hq : Q (-1)) : P_Sla_startAgain vv' fil Q := T_Sla_startAgain (R_Sla_startAgain_0 hq)
theorem S_Sla_lowestBit {v : Int32} {P : Nat → Prop} {Q : Int32 → Prop} (h : Bi v P) (hP : ∀ y, 29 ≤ y → ¬ P y) (hq : ∀ r : Int32, LeM P False r.toInt → Q r) : P_Sla_lowestBit v Q := by
  have loop : ∀ (w i : Nat) (x : Int32), i + w = 29 → x.toInt = (i : Int) → (∀ u, u < i → ¬ P u) → E_Sla_lowestBit_2 v x Q := by
    intro w
    induction w with
    | zero =>
      intro i x hw hx hu
      refine R_Sla_lowestBit_2 ⟨fun _ => R_Sla_lowestBit_24 (hq _ (Or.inl ⟨by decide, fun u z => ?_⟩)), fun z => absurd (by rw [i_le, hx, show (29 : Int32).toInt = 29 by decide]; omega) z⟩
      by_cases q : u < i
      · exact hu u q z
      · exact hP u (by omega) z
    | succ w ih =>
      intro i x hw hx hu
      refine R_Sla_lowestBit_2 ⟨fun z => absurd z (by rw [i_le, hx, show (29 : Int32).toInt = 29 by decide]; omega), fun _ => ⟨fun z => R_Sla_lowestBit_18 fun x1 e1 => ?_, fun z => ?_⟩⟩
      · rw [bi_bit h (hP 31 (by omega)) hx (by omega)] at z
        refine ih (i + 1) x1 (by omega) (by rw [e1]; exact i_suc hx (by omega)) fun u hu' => ?_
        by_cases q : u = i
        · rw [q]
          exact z
        · exact hu u (by omega)
      · rw [bi_bit h (hP 31 (by omega)) hx (by omega), Classical.not_not] at z
        refine hq x (Or.inr ⟨i, hx, z, fun u hu' => ⟨False.elim, fun _ => ?_⟩⟩)
        refine Classical.byContradiction fun q => hu u (by omega) hu'
  exact T_Sla_lowestBit (R_Sla_lowestBit_0 (loop 29 0 0 (by omega) i_0 fun u hu => by omega))
end SLATE
