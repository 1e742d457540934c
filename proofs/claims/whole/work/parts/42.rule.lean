/-! RULES: throws, calls, pays -/
theorem z_2 : (2 : Int32).toInt = 2 := by decide
theorem z_51 : (51 : Int32).toInt = ((51 : Nat) : Int) := by decide
theorem i_lit0 {x : Int32} {a : Nat} (h : x.toInt = (a : Int)) : x = 0 ↔ a = 0 := by
  rw [i_eq, h, z_0]
  omega
theorem i_lit1 {x : Int32} {a : Nat} (h : x.toInt = (a : Int)) : x = 1 ↔ a = 1 := by
  rw [i_eq, h, z_1]
  omega
theorem i_lit2 {x : Int32} {a : Nat} (h : x.toInt = (a : Int)) : x = 2 ↔ a = 2 := by
  rw [i_eq, h, z_2]
  omega
theorem i_divN {x y : Int32} {a b : Nat} (hx : x.toInt = (a : Int)) (hy : y.toInt = (b : Int)) (hb : 0 < b) : (x / y).toInt = ((a / b : Nat) : Int) := by
  rw [i_div hx hy (Or.inr (by omega))]
  rfl
theorem i_remN {x y : Int32} {a b : Nat} (hx : x.toInt = (a : Int)) (hy : y.toInt = (b : Int)) (hb : 0 < b) : (x - x / y * y).toInt = ((a % b : Nat) : Int) := by
  rw [i_rem hx hy (by omega)]
  rfl
theorem i_addN {x y : Int32} {a b : Nat} (hx : x.toInt = (a : Int)) (hy : y.toInt = (b : Int)) (h : a + b < 2147483648) : (x + y).toInt = ((a + b : Nat) : Int) := by
  rw [i_add hx hy (by omega) (by omega)]
  omega
theorem i_mulN {x y : Int32} {a b : Nat} (hx : x.toInt = (a : Int)) (hy : y.toInt = (b : Int)) (h : a * b < 2147483648) : (x * y).toInt = ((a * b : Nat) : Int) := by
  rw [i_mul hx hy (by rw [← Int.natCast_mul]; omega) (by rw [← Int.natCast_mul]; omega), ← Int.natCast_mul]
theorem i_subN {x y : Int32} {a b : Nat} (hx : x.toInt = (a : Int)) (hy : y.toInt = (b : Int)) (h : b ≤ a) : (x - y).toInt = ((a - b : Nat) : Int) := by
  have := i_hi x
  rw [i_sub hx hy (by omega) (by omega)]
  omega
theorem i_suc {x : Int32} {a : Nat} (hx : x.toInt = (a : Int)) (h : a < 2147483647) : (x + 1).toInt = ((a + 1 : Nat) : Int) := i_addN hx z_1 (by omega)
theorem i_1 : (1 : Int32).toInt = ((1 : Nat) : Int) := by decide
theorem i_0 : (0 : Int32).toInt = ((0 : Nat) : Int) := by decide
theorem i_2 : (2 : Int32).toInt = ((2 : Nat) : Int) := by decide
section RULE
/-- the class holds a RULE -/
def CR (k l f m : Nat) (rk rl rf rm : Int32) : Prop := RuleOK k l f m ∧ rk.toInt = (k : Int) ∧ rl.toInt = (l : Int) ∧ rf.toInt = (f : Int) ∧ rm.toInt = (m : Int)
theorem gn_le {k l f m : Nat} (h : RuleOK k l f m) : 2 ≤ gn l f ∧ gn l f ≤ 5 ∧ gn l f = f - l + 1 := by
  unfold RuleOK at h
  unfold gn
  omega
theorem gw_le {k l f m : Nat} (h : RuleOK k l f m) : 2 ≤ gw k l f ∧ gw k l f ≤ 25 := by
  have h1 := gn_le h
  unfold gw
  split
  · omega
  · exact ⟨Nat.le_trans (by omega : 2 ≤ 2 * 2) (Nat.mul_le_mul h1.1 h1.1), Nat.mul_le_mul h1.2.1 h1.2.1⟩
theorem thr_le {k l f m i : Nat} (h : RuleOK k l f m) (hi : i < gw k l f) : l ≤ thr k l f i ∧ thr k l f i ≤ f := by
  have h1 := gn_le h
  unfold RuleOK at h
  unfold gw at hi
  unfold thr
  split
  · rename_i e
    rw [if_pos e] at hi
    omega
  · rename_i e
    rw [if_neg e] at hi
    have : i / gn l f < gn l f := (Nat.div_lt_iff_lt_mul (by omega)).mpr hi
    generalize i / gn l f = y at *
    omega
variable {vv : Nat → Value} {k l f m : Nat} {rk rl rf rm : Int32} {Q : Int32 → Prop}
theorem S_Rule_bound (h : CR k l f m rk rl rf rm) (hq : ∀ r : Int32, r.toInt = (bnd k f : Int) → Q r) : P_Rule_bound vv rk rf Q := by
  obtain ⟨h0, h1, h2, h3, h4⟩ := h
  unfold RuleOK at h0
  unfold bnd at hq
  refine T_Rule_bound (R_Rule_bound_0 ⟨fun e => R_Rule_bound_19 (R_Rule_bound_20 (hq _ ?_)), fun e => R_Rule_bound_20 (hq _ ?_)⟩)
  · rw [i_lit2 h1] at e
    rw [if_neg e]
    exact i_2
  · rw [i_lit2 h1] at e
    rw [if_pos e]
    exact i_addN (i_mulN i_2 h3 (by omega)) i_1 (by omega)
theorem S_Rule_throwCount (h : CR k l f m rk rl rf rm) (hq : ∀ r : Int32, r.toInt = (gn l f : Int) → Q r) : P_Rule_throwCount vv rl rf Q := by
  obtain ⟨h0, h1, h2, h3, h4⟩ := h
  have hg := gn_le h0
  unfold RuleOK at h0
  refine T_Rule_throwCount (R_Rule_throwCount_0 (hq _ ?_))
  rw [hg.2.2]
  exact i_addN (i_subN h3 h2 (by omega)) i_1 (by omega)
def gc (k l f : Nat) : Nat := if k = 0 then 1 else gn l f
theorem S_Rule_callCount (h : CR k l f m rk rl rf rm) (hq : ∀ r : Int32, r.toInt = (gc k l f : Int) → Q r) : P_Rule_callCount vv rk rl rf Q := by
  unfold gc at hq
  refine T_Rule_callCount (R_Rule_callCount_0 ⟨fun e => R_Rule_callCount_11 (S_Rule_throwCount h fun r hr => R_Rule_callCount_15 (hq _ ?_)), fun e => R_Rule_callCount_15 (hq _ ?_)⟩)
  · rw [i_lit0 h.2.1] at e
    rw [if_neg e]
    exact hr
  · rw [i_lit0 h.2.1] at e
    rw [if_pos e]
    exact i_1
theorem gc_le (h : RuleOK k l f m) : 1 ≤ gc k l f ∧ gc k l f ≤ 5 ∧ gw k l f = gn l f * gc k l f := by
  have h1 := gn_le h
  unfold gc gw
  split
  · rw [Nat.mul_one]
    omega
  · exact ⟨by omega, by omega, rfl⟩
theorem S_Rule_wayCount (h : CR k l f m rk rl rf rm) (hq : ∀ r : Int32, r.toInt = (gw k l f : Int) → Q r) : P_Rule_wayCount vv rk rl rf Q := by
  have hc := gc_le h.1
  have hw := gw_le h.1
  refine T_Rule_wayCount (R_Rule_wayCount_0 (S_Rule_throwCount h fun r1 e1 => S_Rule_callCount h fun r2 e2 => hq _ ?_))
  rw [hc.2.2]
  exact i_mulN e1 e2 (by omega)
theorem i_max1 {x : Int32} {a : Nat} (h : x.toInt = (a : Int)) (ha : 1 ≤ a) : (if (1 : Int32) < x then x else 1).toInt = (a : Int) := by
  split
  · exact h
  · rename_i c
    rw [i_lt, z_1, h] at c
    rw [z_1]
    omega
theorem S_Rule_throwOf {v1 : Int32} {i : Nat} (h : CR k l f m rk rl rf rm) (h1 : v1.toInt = (i : Int)) (hi : i < gw k l f) (hq : ∀ r : Int32, r.toInt = (thr k l f i : Int) → Q r) : P_Rule_throwOf vv rk rl rf v1 Q := by
  have hc := gc_le h.1
  have ht := thr_le h.1 hi
  have hw := gw_le h.1
  refine T_Rule_throwOf (R_Rule_throwOf_0 (S_Rule_callCount h fun r1 e1 x2 e2 => ?_))
  have hx2 : x2.toInt = (gc k l f : Int) := by rw [e2]; exact i_max1 e1 hc.1
  have h0 := h.1
  unfold RuleOK at h0
  have hd : i / gc k l f ≤ i := Nat.div_le_self _ _
  refine ⟨by rw [i_lit0 hx2]; omega, hq _ ?_⟩
  rw [i_addN h.2.2.1 (i_divN h1 hx2 (by omega)) (by omega)]
  unfold thr gc
  split
  · rw [Nat.div_one]
  · rfl
theorem S_Rule_callOf {v1 : Int32} {i : Nat} (h : CR k l f m rk rl rf rm) (h1 : v1.toInt = (i : Int)) (hi : i < gw k l f) (hq : ∀ r : Int32, r.toInt = (if k = 0 then -1 else ((thr k l f i + l + i % gn l f : Nat) : Int)) → Q r) : P_Rule_callOf vv rk rl rf v1 Q := by
  have hc := gc_le h.1
  have ht := thr_le h.1 hi
  have hn := gn_le h.1
  have h0 := h.1
  unfold RuleOK at h0
  refine T_Rule_callOf (R_Rule_callOf_0 ⟨fun e => R_Rule_callOf_11 (S_Rule_throwOf h h1 hi fun r1 e1 => S_Rule_callCount h fun r2 e2 x3 e3 => ?_), fun e => R_Rule_callOf_32 (hq _ ?_)⟩)
  · rw [i_lit0 h.2.1] at e
    have hx3 : x3.toInt = (gc k l f : Int) := by rw [e3]; exact i_max1 e2 hc.1
    have hgc : gc k l f = gn l f := if_neg e
    rw [hgc] at hx3
    have hm := Nat.mod_lt i (show 0 < gn l f by omega)
    refine ⟨by rw [i_lit0 hx3]; omega, R_Rule_callOf_32 (hq _ ?_)⟩
    rw [if_neg e]
    exact i_addN (i_addN e1 h.2.2.1 (by omega)) (i_remN h1 hx3 (by omega)) (by omega)
  · rw [i_lit0 h.2.1] at e
    rw [if_pos e]
    exact z_m1
theorem hit1_01 (k l f i s : Nat) : hit1 k l f i s = 0 ∨ hit1 k l f i s = 1 := by
  unfold hit1
  split
  · exact Or.inr rfl
  · exact Or.inl rfl
theorem S_Rule_payOf {v1 v2 : Int32} {i j : Nat} (h : CR k l f m rk rl rf rm) (h1 : v1.toInt = (i : Int)) (hi : i < gw k l f) (h2 : v2.toInt = (j : Int)) (hj : j < gw k l f) (hq : ∀ r : Int32, r.toInt = payI k l f m i j → Q r) : P_Rule_payOf rk rl rf rm v1 v2 Q := by
  have hti := thr_le h.1 hi
  have htj := thr_le h.1 hj
  have h0 := h.1
  unfold RuleOK at h0
  unfold payI at hq
  refine T_Rule_payOf (R_Rule_payOf_0 (S_Rule_throwOf h h1 hi fun r1 e1 => S_Rule_throwOf h h2 hj fun r2 e2 x3 e3 => ?_))
  have hx3 : x3.toInt = ((thr k l f i + thr k l f j : Nat) : Int) := by rw [e3]; exact i_addN e1 e2 (by omega)
  generalize hs : thr k l f i + thr k l f j = s at *
  refine ⟨fun e => R_Rule_payOf_38 ?_, fun e x4 e4 => ?_⟩
  · rw [i_lit0 h.2.1] at e
    rw [if_neg e] at hq
    have last : ∀ (s0 s1 : Int32), s0.toInt = hit1 k l f i s → s1.toInt = hit1 k l f j s → E_Rule_payOf_66 rk rl rf rm x3 s0 s1 Q := by
      intro s0 s1 g0 g1
      have q0 := hit1_01 k l f i s
      have q1 := hit1_01 k l f j s
      have hsub := i_sub g0 g1 (by omega) (by omega)
      refine R_Rule_payOf_66 fun x7 e7 => ⟨fun c => R_Rule_payOf_82 (R_Rule_payOf_86 (hq _ ?_)), fun c => R_Rule_payOf_86 (hq _ ?_)⟩
      · rw [i_lit1 h.2.1] at c
        rw [if_neg c, e7]
        refine i_mul hsub hx3 ?_ ?_
        · rcases q0 with q | q <;> rcases q1 with q' | q' <;> rw [q, q'] <;> omega
        · rcases q0 with q | q <;> rcases q1 with q' | q' <;> rw [q, q'] <;> omega
      · rw [i_lit1 h.2.1] at c
        rw [if_pos c, e7]
        exact hsub
    have mid : ∀ s0 : Int32, s0.toInt = hit1 k l f i s → E_Rule_payOf_52 rk rl rf rm v2 x3 s0 Q := by
      intro s0 g0
      refine R_Rule_payOf_52 (S_Rule_callOf h h2 hj fun r6 e6 => ?_)
      rw [if_neg e] at e6
      refine ⟨fun c => R_Rule_payOf_65 (last _ _ g0 ?_), fun c => last _ _ g0 ?_⟩
      · rw [i_eq, e6, hx3] at c
        unfold hit1
        rw [if_neg (by omega), z_0]
      · rw [i_eq, e6, hx3] at c
        unfold hit1
        rw [if_pos (by omega), z_1]
    refine S_Rule_callOf h h1 hi fun r5 e5 => ?_
    rw [if_neg e] at e5
    refine ⟨fun c => R_Rule_payOf_51 (mid _ ?_), fun c => mid _ ?_⟩
    · rw [i_eq, e5, hx3] at c
      unfold hit1
      rw [if_neg (by omega), z_0]
    · rw [i_eq, e5, hx3] at c
      unfold hit1
      rw [if_pos (by omega), z_1]
  · rw [i_lit0 h.2.1] at e
    rw [if_pos e] at hq
    have hm := h0.2.2.2.2.1 e
    have hx4 : x4.toInt = (m : Int) := by rw [e4]; exact i_max1 h.2.2.2.2 (by omega)
    have hr := i_remN hx3 hx4 (by omega)
    refine ⟨by rw [i_lit0 hx4]; omega, fun c => R_Rule_payOf_36 (R_Rule_payOf_37 (hq _ ?_)), fun c => R_Rule_payOf_37 (hq _ ?_)⟩
    · rw [i_lit0 hr] at c
      rw [if_neg c]
      exact z_m1
    · rw [i_lit0 hr] at c
      rw [if_pos c]
      exact z_1
theorem pay_bd (h : RuleOK k l f m) {i j : Nat} (hi : i < gw k l f) (hj : j < gw k l f) : -8 ≤ payI k l f m i j ∧ payI k l f m i j ≤ 8 := by
  have hti := thr_le h hi
  have htj := thr_le h hj
  unfold RuleOK at h
  have q0 := hit1_01 k l f i (thr k l f i + thr k l f j)
  have q1 := hit1_01 k l f j (thr k l f i + thr k l f j)
  unfold payI
  split
  · split <;> omega
  · split
    · omega
    · rcases q0 with q | q <;> rcases q1 with q' | q' <;> rw [q, q'] <;> omega
/-- the reference holds a RULE -/
def MRu (k l f m : Nat) (rk rl rm rn : Int32) : Prop := RuleOK k l f m ∧ rk.toInt = (k : Int) ∧ rl.toInt = (l : Int) ∧ rm.toInt = (m : Int) ∧ rn.toInt = (gn l f : Int)
variable {rn : Int32}
theorem S_Mo_throwOf {v1 : Int32} {i : Nat} (h : MRu k l f m rk rl rm rn) (h1 : v1.toInt = (i : Int)) (hi : i < gw k l f) (hq : ∀ r : Int32, r.toInt = (thr k l f i : Int) → Q r) : P_Mo_throwOf vv rk rl rn v1 Q := by
  have hn := gn_le h.1
  have ht := thr_le h.1 hi
  have hw := gw_le h.1
  have h0 := h.1
  unfold RuleOK at h0
  have hd : i / gn l f ≤ i := Nat.div_le_self _ _
  refine T_Mo_throwOf (R_Mo_throwOf_0 ⟨fun e => R_Mo_throwOf_16 ⟨by rw [i_lit0 h.2.2.2.2]; omega, R_Mo_throwOf_27 (hq _ ?_)⟩, fun e => R_Mo_throwOf_27 (hq _ ?_)⟩)
  · rw [i_lit0 h.2.1] at e
    rw [i_addN h.2.2.1 (i_divN h1 h.2.2.2.2 (by omega)) (by omega)]
    unfold thr
    rw [if_neg e]
  · rw [i_lit0 h.2.1] at e
    rw [i_addN h.2.2.1 h1 (by omega)]
    unfold thr
    rw [if_pos e]
theorem S_Mo_callOf {v1 : Int32} {i : Nat} (h : MRu k l f m rk rl rm rn) (h1 : v1.toInt = (i : Int)) (hi : i < gw k l f) (hq : ∀ r : Int32, r.toInt = (if k = 0 then -1 else ((thr k l f i + l + i % gn l f : Nat) : Int)) → Q r) : P_Mo_callOf vv rk rl rn v1 Q := by
  have ht := thr_le h.1 hi
  have hn := gn_le h.1
  have h0 := h.1
  unfold RuleOK at h0
  refine T_Mo_callOf (R_Mo_callOf_0 ⟨fun e => R_Mo_callOf_11 (S_Mo_throwOf h h1 hi fun r1 e1 => ⟨by rw [i_lit0 h.2.2.2.2]; omega, R_Mo_callOf_28 (hq _ ?_)⟩), fun e => R_Mo_callOf_28 (hq _ ?_)⟩)
  · rw [i_lit0 h.2.1] at e
    have hm := Nat.mod_lt i (show 0 < gn l f by omega)
    rw [if_neg e]
    exact i_addN (i_addN e1 h.2.2.1 (by omega)) (i_remN h1 h.2.2.2.2 (by omega)) (by omega)
  · rw [i_lit0 h.2.1] at e
    rw [if_pos e]
    exact z_m1
theorem S_Mo_payOf {v1 v2 : Int32} {i j : Nat} (h : MRu k l f m rk rl rm rn) (h1 : v1.toInt = (i : Int)) (hi : i < gw k l f) (h2 : v2.toInt = (j : Int)) (hj : j < gw k l f) (hq : ∀ r : Int32, r.toInt = payI k l f m i j → Q r) : P_Mo_payOf vv rk rl rm rn v1 v2 Q := by
  have hti := thr_le h.1 hi
  have htj := thr_le h.1 hj
  have h0 := h.1
  unfold RuleOK at h0
  unfold payI at hq
  refine T_Mo_payOf (R_Mo_payOf_0 (S_Mo_throwOf h h1 hi fun r1 e1 => S_Mo_throwOf h h2 hj fun r2 e2 => R_Mo_payOf_10 fun x3 e3 => ?_))
  have hx3 : x3.toInt = ((thr k l f i + thr k l f j : Nat) : Int) := by rw [e3]; exact i_addN e1 e2 (by omega)
  generalize hs : thr k l f i + thr k l f j = s at *
  refine ⟨fun e => R_Mo_payOf_34 ?_, fun e => ?_⟩
  · rw [i_lit0 h.2.1] at e
    rw [if_neg e] at hq
    have last : ∀ (s0 s1 : Int32), s0.toInt = hit1 k l f i s → s1.toInt = hit1 k l f j s → E_Mo_payOf_64 vv rk rl rm rn x3 s0 s1 Q := by
      intro s0 s1 g0 g1
      have q0 := hit1_01 k l f i s
      have q1 := hit1_01 k l f j s
      have fin : ∀ (o : Int32) (on : Nat), o.toInt = (on : Int) → on < 100 → (∀ r : Int32, r.toInt = (hit1 k l f i s - hit1 k l f j s) * (on : Int) → Q r) → E_Mo_payOf_79 vv rk rl rm rn s0 s1 o Q := by
        intro o on ho hon hq'
        refine R_Mo_payOf_79 ⟨fun c => R_Mo_payOf_92 ⟨fun c2 => R_Mo_payOf_102 (R_Mo_payOf_106 (hq' _ ?_)), fun c2 => R_Mo_payOf_106 (hq' _ ?_)⟩, fun c => R_Mo_payOf_106 (hq' _ ?_)⟩
        · rw [i_eq, g0, g1] at c
          rw [i_eq, g0, z_0] at c2
          rw [i_sub z_0 ho (by omega) (by omega), c2, show hit1 k l f j s = 1 by omega]
          omega
        · rw [i_eq, g0, g1] at c
          rw [i_eq, g0, z_0] at c2
          rw [ho, show hit1 k l f i s = 1 by omega, show hit1 k l f j s = 0 by omega]
          omega
        · rw [i_eq, g0, g1] at c
          rw [c, Int.sub_self, Int.zero_mul]
          exact z_0
      refine R_Mo_payOf_64 ⟨fun c => R_Mo_payOf_78 (fin x3 s hx3 (by omega) ?_), fun c => fin 1 1 i_1 (by omega) ?_⟩
      · rw [i_lit1 h.2.1] at c
        rw [if_neg c] at hq
        exact hq
      · rw [i_lit1 h.2.1] at c
        rw [if_pos c] at hq
        intro r hr
        refine hq r ?_
        rw [hr]
        omega
    have mid : ∀ s0 : Int32, s0.toInt = hit1 k l f i s → E_Mo_payOf_48 vv rk rl rm rn v2 x3 s0 Q := by
      intro s0 g0
      refine R_Mo_payOf_48 (S_Mo_callOf h h2 hj fun r6 e6 => ?_)
      rw [if_neg e] at e6
      refine ⟨fun c => R_Mo_payOf_63 (last _ _ g0 ?_), fun c => last _ _ g0 ?_⟩
      · rw [i_eq, e6, hx3] at c
        unfold hit1
        rw [if_neg (by omega), z_0]
      · rw [i_eq, e6, hx3] at c
        unfold hit1
        rw [if_pos (by omega), z_1]
    refine S_Mo_callOf h h1 hi fun r5 e5 => ?_
    rw [if_neg e] at e5
    refine ⟨fun c => R_Mo_payOf_47 (mid _ ?_), fun c => mid _ ?_⟩
    · rw [i_eq, e5, hx3] at c
      unfold hit1
      rw [if_neg (by omega), z_0]
    · rw [i_eq, e5, hx3] at c
      unfold hit1
      rw [if_pos (by omega), z_1]
  · rw [i_lit0 h.2.1] at e
    rw [if_pos e] at hq
    have hm := h0.2.2.2.2.1 e
    have hr := i_remN hx3 h.2.2.2.1 (by omega)
    refine ⟨by rw [i_lit0 h.2.2.2.1]; omega, fun c => R_Mo_payOf_32 (R_Mo_payOf_33 (hq _ ?_)), fun c => R_Mo_payOf_33 (hq _ ?_)⟩
    · rw [i_lit0 hr] at c
      rw [if_neg c]
      exact z_m1
    · rw [i_lit0 hr] at c
      rw [if_pos c]
      exact z_1
end RULE
theorem rb1 : rx_bool 1 := Or.inr rfl
theorem rb0 : rx_bool 0 := Or.inl rfl
