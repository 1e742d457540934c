/-! RULES: throws, calls, pays -/
theorem z_2 : (2 : Int32).toInt = 2 := by decide
theorem z_51 : (51 : Int32).toInt = ((51 : Nat) : Int) := by decide
theorem i_lit0 {x : Int32} {a : Nat} (h : x.toInt = (a : Int)) : x = 0 ↔ a = 0 := by
  rw [i_eq, h, z_0]
  omega
theorem i_lit1 {x : Int32} {a : Nat} (h : x.toInt = (a : Int)) : x = 1 ↔ a = 1 := by
  rw [i_eq, h, z_1]
  omega
theorem i_lit2 {x : Int32} {a : Nat} (h : x.toInt = (a : Int)) : x = 2 ↔ a = 2 := by
  rw [i_eq, h, z_2]
  omega
theorem i_divN {x y : Int32} {a b : Nat} (hx : x.toInt = (a : Int)) (hy : y.toInt = (b : Int)) (hb : 0 < b) : (x / y).toInt = ((a / b : Nat) : Int) := by
  rw [i_div hx hy (Or.inr (by omega))]
  rfl
theorem i_remN {x y : Int32} {a b : Nat} (hx : x.toInt = (a : Int)) (hy : y.toInt = (b : Int)) (hb : 0 < b) : (x - x / y * y).toInt = ((a % b : Nat) : Int) := by
  rw [i_rem hx hy (by omega)]
  rfl
theorem i_addN {x y : Int32} {a b : Nat} (hx : x.toInt = (a : Int)) (hy : y.toInt = (b : Int)) (h : a + b < 2147483648) : (x + y).toInt = ((a + b : Nat) : Int) := by
  rw [i_add hx hy (by omega) (by omega)]
  omega
theorem i_mulN {x y : Int32} {a b : Nat} (hx : x.toInt = (a : Int)) (hy : y.toInt = (b : Int)) (h : a * b < 2147483648) : (x * y).toInt = ((a * b : Nat) : Int) := by
  rw [i_mul hx hy (by rw [← Int.natCast_mul]; omega) (by rw [← Int.natCast_mul]; omega), ← Int.natCast_mul]
theorem i_subN {x y : Int32} {a b : Nat} (hx : x.toInt = (a : Int)) (hy : y.toInt = (b : Int)) (h : b ≤ a) : (x - y).toInt = ((a - b : Nat) : Int) := by
  have := i_hi x
  rw [i_sub hx hy (by omega) (by omega)]
  omega
theorem i_suc {x : Int32} {a : Nat} (hx : x.toInt = (a : Int)) (h : a < 2147483647) : (x + 1).toInt = ((a + 1 : Nat) : Int) := i_addN hx z_1 (by omega)
theorem i_1 : (1 : Int32).toInt = ((1 : Nat) : Int) := by decide
theorem i_0 : (0 : Int32).toInt = ((0 : Nat) : Int) := by decide
theorem i_2 : (2 : Int32).toInt = ((2 : Nat) : Int) := by decide
section RULE
/-- the call of a WAY -/
def cll (k l f i : Nat) : Int := if k = 0 then -1 else ((thr k l f i + l + i % gn l f : Nat) : Int)
/-- the first n WAYS stand in the rows -/
def Rows (k l f n : Nat) (th ca : Nat → Int32) : Prop := ∀ i, i < n → (th i).toInt = (thr k l f i : Int) ∧ (ca i).toInt = cll k l f i
/-- the class holds a RULE -/
def CR (k l f m : Nat) (rk rl rf rm rtc rwc : Int32) (rth rca : Nat → Int32) : Prop := RuleOK k l f m ∧ rk.toInt = (k : Int) ∧ rl.toInt = (l : Int) ∧ rf.toInt = (f : Int) ∧ rm.toInt = (m : Int) ∧ rtc.toInt = (gn l f : Int) ∧ rwc.toInt = (gw k l f : Int) ∧ Rows k l f (gw k l f) rth rca
theorem gn_le {k l f m : Nat} (h : RuleOK k l f m) : 2 ≤ gn l f ∧ gn l f ≤ 5 ∧ gn l f = f - l + 1 := by
  unfold RuleOK at h
  unfold gn
  omega
theorem gw_le {k l f m : Nat} (h : RuleOK k l f m) : 2 ≤ gw k l f ∧ gw k l f ≤ 25 := by
  have h1 := gn_le h
  unfold gw
  split
  · omega
  · exact ⟨Nat.le_trans (by omega : 2 ≤ 2 * 2) (Nat.mul_le_mul h1.1 h1.1), Nat.mul_le_mul h1.2.1 h1.2.1⟩
theorem thr_le {k l f m i : Nat} (h : RuleOK k l f m) (hi : i < gw k l f) : l ≤ thr k l f i ∧ thr k l f i ≤ f := by
  have h1 := gn_le h
  unfold RuleOK at h
  unfold gw at hi
  unfold thr
  split
  · rename_i e
    rw [if_pos e] at hi
    omega
  · rename_i e
    rw [if_neg e] at hi
    have : i / gn l f < gn l f := (Nat.div_lt_iff_lt_mul (by omega)).mpr hi
    generalize i / gn l f = y at *
    omega
variable {vv : Nat → Value} {k l f m : Nat} {rk rl rf rm rtc rwc : Int32} {rth rca : Nat → Int32} {Q : Int32 → Prop}
theorem CR.tc (h : CR k l f m rk rl rf rm rtc rwc rth rca) : rtc.toInt = (gn l f : Int) := h.2.2.2.2.2.1
theorem CR.wc (h : CR k l f m rk rl rf rm rtc rwc rth rca) : rwc.toInt = (gw k l f : Int) := h.2.2.2.2.2.2.1
theorem CR.mu (h : CR k l f m rk rl rf rm rtc rwc rth rca) : rm.toInt = (m : Int) := h.2.2.2.2.1
theorem CR.rows (h : CR k l f m rk rl rf rm rtc rwc rth rca) : Rows k l f (gw k l f) rth rca := h.2.2.2.2.2.2.2
theorem S_Rule_bound (h : CR k l f m rk rl rf rm rtc rwc rth rca) (hq : ∀ r : Int32, r.toInt = (bnd k f : Int) → Q r) : P_Rule_bound vv rk rf Q := by
  obtain ⟨h0, h1, h2, h3, h4⟩ := h
  unfold RuleOK at h0
  unfold bnd at hq
  refine T_Rule_bound (R_Rule_bound_0 ⟨fun e => R_Rule_bound_19 (R_Rule_bound_20 (hq _ ?_)), fun e => R_Rule_bound_20 (hq _ ?_)⟩)
  · rw [i_lit2 h1] at e
    rw [if_neg e]
    exact i_2
  · rw [i_lit2 h1] at e
    rw [if_pos e]
    exact i_addN (i_mulN i_2 h3 (by omega)) i_1 (by omega)
theorem i_max1 {x : Int32} {a : Nat} (h : x.toInt = (a : Int)) (ha : 1 ≤ a) : (if (1 : Int32) < x then x else 1).toInt = (a : Int) := by
  split
  · exact h
  · rename_i c
    rw [i_lt, z_1, h] at c
    rw [z_1]
    omega
theorem S_Rule_throwOf {v1 : Int32} {i : Nat} (h : CR k l f m rk rl rf rm rtc rwc rth rca) (h1 : v1.toInt = (i : Int)) (hi : i < gw k l f) (hq : ∀ r : Int32, r.toInt = (thr k l f i : Int) → Q r) : P_Rule_throwOf vv rth v1 Q := by
  have hw := gw_le h.1
  refine T_Rule_throwOf (R_Rule_throwOf_0 ⟨i_in h1 (by omega), hq _ ?_⟩)
  rw [i_nat h1]
  exact (h.rows i hi).1
theorem S_Rule_callOf {v1 : Int32} {i : Nat} (h : CR k l f m rk rl rf rm rtc rwc rth rca) (h1 : v1.toInt = (i : Int)) (hi : i < gw k l f) (hq : ∀ r : Int32, r.toInt = (if k = 0 then -1 else ((thr k l f i + l + i % gn l f : Nat) : Int)) → Q r) : P_Rule_callOf vv rca v1 Q := by
  have hw := gw_le h.1
  refine T_Rule_callOf (R_Rule_callOf_0 ⟨i_in h1 (by omega), hq _ ?_⟩)
  rw [i_nat h1]
  exact (h.rows i hi).2
theorem hit1_01 (k l f i s : Nat) : hit1 k l f i s = 0 ∨ hit1 k l f i s = 1 := by
  unfold hit1
  split
  · exact Or.inr rfl
  · exact Or.inl rfl
theorem S_Rule_payOf {v1 v2 : Int32} {i j : Nat} (h : CR k l f m rk rl rf rm rtc rwc rth rca) (h1 : v1.toInt = (i : Int)) (hi : i < gw k l f) (h2 : v2.toInt = (j : Int)) (hj : j < gw k l f) (hq : ∀ r : Int32, r.toInt = payI k l f m i j → Q r) : P_Rule_payOf vv rk rm rth rca v1 v2 Q := by
  have hti := thr_le h.1 hi
  have htj := thr_le h.1 hj
  have hw := gw_le h.1
  have h0 := h.1
  unfold RuleOK at h0
  unfold payI at hq
  refine T_Rule_payOf (R_Rule_payOf_0 ⟨i_in h1 (by omega), i_in h2 (by omega), fun x3 e3 => ?_⟩)
  rw [i_nat h1, i_nat h2] at e3
  have hx3 : x3.toInt = ((thr k l f i + thr k l f j : Nat) : Int) := by rw [e3]; exact i_addN (h.rows i hi).1 (h.rows j hj).1 (by omega)
  have ci := (h.rows i hi).2
  have cj := (h.rows j hj).2
  unfold cll at ci cj
  generalize hs : thr k l f i + thr k l f j = s at *
  refine ⟨fun e => R_Rule_payOf_43 ?_, fun e => ?_⟩
  · rw [i_lit0 h.2.1] at e
    rw [if_neg e] at hq ci cj
    have last : ∀ (s0 s1 : Int32), s0.toInt = hit1 k l f i s → s1.toInt = hit1 k l f j s → E_Rule_payOf_73 vv rk rm rth rca x3 s0 s1 Q := by
      intro s0 s1 g0 g1
      have q0 := hit1_01 k l f i s
      have q1 := hit1_01 k l f j s
      have hsub := i_sub g0 g1 (by omega) (by omega)
      refine R_Rule_payOf_73 fun x7 e7 => ⟨fun c => R_Rule_payOf_89 (R_Rule_payOf_93 (hq _ ?_)), fun c => R_Rule_payOf_93 (hq _ ?_)⟩
      · rw [i_lit1 h.2.1] at c
        rw [if_neg c, e7]
        refine i_mul hsub hx3 ?_ ?_
        · rcases q0 with q | q <;> rcases q1 with q' | q' <;> rw [q, q'] <;> omega
        · rcases q0 with q | q <;> rcases q1 with q' | q' <;> rw [q, q'] <;> omega
      · rw [i_lit1 h.2.1] at c
        rw [if_pos c, e7]
        exact hsub
    have mid : ∀ s0 : Int32, s0.toInt = hit1 k l f i s → E_Rule_payOf_58 vv rk rm rth rca v2 x3 s0 Q := by
      intro s0 g0
      refine R_Rule_payOf_58 ⟨i_in h2 (by omega), fun c => R_Rule_payOf_72 (last _ _ g0 ?_), fun c => last _ _ g0 ?_⟩
      · rw [i_nat h2, i_eq, cj, hx3] at c
        unfold hit1
        rw [if_neg (by omega), z_0]
      · rw [i_nat h2, i_eq, cj, hx3] at c
        unfold hit1
        rw [if_pos (by omega), z_1]
    refine ⟨i_in h1 (by omega), fun c => R_Rule_payOf_57 (mid _ ?_), fun c => mid _ ?_⟩
    · rw [i_nat h1, i_eq, ci, hx3] at c
      unfold hit1
      rw [if_neg (by omega), z_0]
    · rw [i_nat h1, i_eq, ci, hx3] at c
      unfold hit1
      rw [if_pos (by omega), z_1]
  · rw [i_lit0 h.2.1] at e
    rw [if_pos e] at hq
    have hm := h0.2.2.2.2.1 e
    have hr := i_remN hx3 h.mu (by omega)
    refine ⟨fun c => absurd c (by rw [i_le, h.mu, z_0]; omega), fun _ => ⟨by rw [i_lit0 h.mu]; omega, fun c => R_Rule_payOf_41 (R_Rule_payOf_42 (hq _ ?_)), fun c => R_Rule_payOf_42 (hq _ ?_)⟩⟩
    · rw [i_lit0 hr] at c
      rw [if_neg c]
      exact z_m1
    · rw [i_lit0 hr] at c
      rw [if_pos c]
      exact z_1
theorem pay_bd (h : RuleOK k l f m) {i j : Nat} (hi : i < gw k l f) (hj : j < gw k l f) : -8 ≤ payI k l f m i j ∧ payI k l f m i j ≤ 8 := by
  have hti := thr_le h hi
  have htj := thr_le h hj
  unfold RuleOK at h
  have q0 := hit1_01 k l f i (thr k l f i + thr k l f j)
  have q1 := hit1_01 k l f j (thr k l f i + thr k l f j)
  unfold payI
  split
  · split <;> omega
  · split
    · omega
    · rcases q0 with q | q <;> rcases q1 with q' | q' <;> rw [q, q'] <;> omega
theorem Rows.add {n : Nat} {th ca : Nat → Int32} {x y : Int32} (h : Rows k l f n th ca) (hx : x.toInt = (thr k l f n : Int)) (hy : y.toInt = cll k l f n) : Rows k l f (n + 1) (up th n x) (up ca n y) := by
  intro i hi
  by_cases e : i = n
  · rw [e, up_same, up_same]
    exact ⟨hx, hy⟩
  · rw [up_ne e, up_ne e]
    exact h i (by omega)
theorem S_Rule_addWay {n : Nat} {th ca : Nat → Int32} {wc v1 v2 : Int32} {Q : Int32 → (Nat → Int32) → (Nat → Int32) → Prop} (hn : wc.toInt = (n : Int)) (hw : n < 25) (h : Rows k l f n th ca) (hx : v1.toInt = (thr k l f n : Int)) (hy : v2.toInt = cll k l f n) (hq : ∀ (wc' : Int32) th' ca', wc'.toInt = ((n + 1 : Nat) : Int) → Rows k l f (n + 1) th' ca' → Q wc' th' ca') : P_Rule_addWay vv wc th ca v1 v2 Q := by
  have z25 : (25 : Int32).toInt = 25 := by decide
  refine T_Rule_addWay (R_Rule_addWay_0 ⟨fun y => absurd y (by rw [i_le, z25, hn]; omega), fun _ => ⟨i_in hn hw, i_in hn hw, fun x1 e1 => R_Rule_addWay_39 (hq _ _ _ (by rw [e1]; exact i_suc hn (by omega)) ?_)⟩⟩)
  rw [i_nat hn]
  exact h.add hx hy
theorem S_Rule_become {v1 v2 v3 v4 : Int32} {Q : Int32 → Int32 → Int32 → Int32 → Int32 → Int32 → (Nat → Int32) → (Nat → Int32) → Prop} (hr : RuleOK k l f m) (h1 : v1.toInt = (k : Int)) (h2 : v2.toInt = (l : Int)) (h3 : v3.toInt = (f : Int)) (h4 : k = 0 → v4.toInt = (m : Int)) (hq : ∀ (rk' rl' rf' rm' rtc' rwc' : Int32) rth' rca', CR k l f m rk' rl' rf' rm' rtc' rwc' rth' rca' → Q rk' rl' rf' rm' rtc' rwc' rth' rca') : P_Rule_become rk rl rf rm rtc rwc rth rca v1 v2 v3 v4 Q := by
  have hn := gn_le hr
  have hw := gw_le hr
  have h0 := hr
  unfold RuleOK at h0
  have main : ∀ mm : Int32, mm.toInt = (m : Int) → E_Rule_become_26 v1 v2 v3 rm rtc rwc rth rca v1 v2 v3 mm Q := by
    intro mm hm
    refine R_Rule_become_26 fun tc etc => ?_
    have htc : tc.toInt = (gn l f : Int) := by
      rw [etc, hn.2.2]
      exact i_addN (i_subN h3 h2 (by omega)) i_1 (by omega)
    have fin : ∀ (wc : Int32) (th ca : Nat → Int32), wc.toInt = (gw k l f : Int) → Rows k l f (gw k l f) th ca → E_Rule_become_99 v1 v2 v3 mm tc wc th ca Q := fun wc th ca hc hR => R_Rule_become_99 (hq _ _ _ _ _ _ _ _ ⟨hr, h1, h2, h3, hm, htc, hc, hR⟩)
    by_cases ek : k = 0
    · have egw : gw k l f = gn l f := if_pos ek
      have outer : ∀ (u a : Nat) (wc v5 : Int32) (th ca : Nat → Int32), a + u = gn l f → wc.toInt = (a : Int) → v5.toInt = ((l + a : Nat) : Int) → Rows k l f a th ca → E_Rule_become_46 v1 v2 v3 mm tc wc th ca v1 v2 v3 v5 Q := by
        intro u
        induction u with
        | zero =>
          intro a wc v5 th ca hu hc h5 hR
          have ea : a = gw k l f := by omega
          rw [ea] at hc hR
          exact R_Rule_become_46 ⟨fun _ => fin _ _ _ hc hR, fun y => absurd (by rw [i_lt, h3, h5]; omega) y⟩
        | succ u ih =>
          intro a wc v5 th ca hu hc h5 hR
          refine R_Rule_become_46 ⟨fun y => absurd y (by rw [i_lt, h3, h5]; omega), fun _ => ⟨fun y => absurd (by rw [i_lit0 h1]; exact ek) y, fun _ => ?_⟩⟩
          refine S_Rule_addWay (k := k) (l := l) (f := f) hc (by omega) hR ?_ ?_ fun wc' th' ca' hc' hR' => ?_
          · unfold thr
            rw [if_pos ek]
            exact h5
          · unfold cll
            rw [if_pos ek]
            exact z_m1
          · have hx : ∀ x9 : Int32, x9 = v5 + 1 → x9.toInt = ((l + (a + 1) : Nat) : Int) := fun x9 e9 => by
              rw [e9]
              exact i_suc (a := l + a) h5 (by omega)
            refine R_Rule_become_63 (R_Rule_become_66 ⟨fun _ => R_Rule_become_93 fun x9 e9 => ih (a + 1) wc' x9 th' ca' (by omega) hc' (hx x9 e9) hR', fun _ => ⟨fun _ => R_Rule_become_93 fun x9 e9 => ih (a + 1) wc' x9 th' ca' (by omega) hc' (hx x9 e9) hR', fun y => absurd (by rw [i_lit0 h1]; exact ek) y⟩⟩)
      exact outer (gn l f) 0 0 v2 rth rca (by omega) i_0 (by rw [h2, Nat.add_zero]) fun i hi => by omega
    · have egw : gw k l f = gn l f * gn l f := if_neg ek
      have outer : ∀ (u a : Nat) (wc v5 : Int32) (th ca : Nat → Int32), a + u = gn l f → wc.toInt = ((a * gn l f : Nat) : Int) → v5.toInt = ((l + a : Nat) : Int) → Rows k l f (a * gn l f) th ca → E_Rule_become_46 v1 v2 v3 mm tc wc th ca v1 v2 v3 v5 Q := by
        intro u
        induction u with
        | zero =>
          intro a wc v5 th ca hu hc h5 hR
          have ea : a = gn l f := by omega
          rw [ea, ← egw] at hc hR
          exact R_Rule_become_46 ⟨fun _ => fin _ _ _ hc hR, fun y => absurd (by rw [i_lt, h3, h5]; omega) y⟩
        | succ u ih =>
          intro a wc v5 th ca hu hc h5 hR
          have inner : ∀ (u2 b : Nat) (wc v6 : Int32) (th ca : Nat → Int32), b + u2 = gn l f → wc.toInt = ((a * gn l f + b : Nat) : Int) → v6.toInt = ((l + b : Nat) : Int) → Rows k l f (a * gn l f + b) th ca → E_Rule_become_66 v1 v2 v3 mm tc wc th ca v1 v2 v3 v5 v6 Q := by
            intro u2
            induction u2 with
            | zero =>
              intro b wc v6 th ca hu2 hc h6 hR
              have eb : a * gn l f + b = (a + 1) * gn l f := by rw [Nat.add_mul, Nat.one_mul]; omega
              rw [eb] at hc hR
              exact R_Rule_become_66 ⟨fun _ => R_Rule_become_93 fun x9 e9 => ih (a + 1) wc x9 th ca (by omega) hc (by rw [e9]; exact i_suc (a := l + a) h5 (by omega)) hR, fun y => absurd (by rw [i_lt, h3, h6]; omega) y⟩
            | succ u2 ih2 =>
              intro b wc v6 th ca hu2 hc h6 hR
              have hab : a * gn l f + b < gn l f * gn l f := by
                have q : (a + 1) * gn l f ≤ gn l f * gn l f := Nat.mul_le_mul_right _ (by omega)
                rw [Nat.add_mul, Nat.one_mul] at q
                omega
              have hdv : (a * gn l f + b) / gn l f = a := by
                rw [Nat.mul_comm, Nat.mul_add_div (by omega), Nat.div_eq_of_lt (by omega), Nat.add_zero]
              have hmd : (a * gn l f + b) % gn l f = b := by
                rw [Nat.mul_comm, Nat.mul_add_mod, Nat.mod_eq_of_lt (by omega)]
              have ht : thr k l f (a * gn l f + b) = l + a := by
                unfold thr
                rw [if_neg ek, hdv]
              refine R_Rule_become_66 ⟨fun y => absurd y (by rw [i_lt, h3, h6]; omega), fun _ => ⟨fun y => absurd y (by rw [i_lit0 h1]; exact ek), fun _ => ?_⟩⟩
              refine S_Rule_addWay (k := k) (l := l) (f := f) hc (by omega) hR (by rw [ht]; exact h5) ?_ fun wc' th' ca' hc' hR' x8 e8 => ih2 (b + 1) wc' x8 th' ca' (by omega) hc' (by rw [e8]; exact i_suc (a := l + b) h6 (by omega)) hR'
              unfold cll
              rw [if_neg ek, ht, hmd, i_addN h5 h6 (by omega), Nat.add_assoc (l + a) l b]
          exact R_Rule_become_46 ⟨fun y => absurd y (by rw [i_lt, h3, h5]; omega), fun _ => ⟨fun _ => R_Rule_become_63 (inner (gn l f) 0 wc v2 th ca (by omega) hc (by rw [h2, Nat.add_zero]) hR), fun y => absurd y (by rw [i_lit0 h1]; exact ek)⟩⟩
      exact outer (gn l f) 0 0 v2 rth rca (by omega) (i_0.trans (by rw [Nat.zero_mul])) (by rw [h2, Nat.add_zero]) fun i hi => by rw [Nat.zero_mul] at hi; omega
  refine T_Rule_become (R_Rule_become_0 ⟨fun e => R_Rule_become_25 (main 0 ?_), fun e => main v4 (h4 ?_)⟩)
  · rw [i_lit0 h1] at e
    rw [h0.2.2.2.2.2 e]
    exact i_0
  · rw [i_lit0 h1] at e
    exact e
/-- the reference holds a RULE -/
def MRu (k l f m : Nat) (rk rl rm rn : Int32) : Prop := RuleOK k l f m ∧ rk.toInt = (k : Int) ∧ rl.toInt = (l : Int) ∧ rm.toInt = (m : Int) ∧ rn.toInt = (gn l f : Int)
variable {rn : Int32}
theorem S_Mo_throwOf {v1 : Int32} {i : Nat} (h : MRu k l f m rk rl rm rn) (h1 : v1.toInt = (i : Int)) (hi : i < gw k l f) (hq : ∀ r : Int32, r.toInt = (thr k l f i : Int) → Q r) : P_Mo_throwOf vv rk rl rn v1 Q := by
  have hn := gn_le h.1
  have ht := thr_le h.1 hi
  have hw := gw_le h.1
  have h0 := h.1
  unfold RuleOK at h0
  have hd : i / gn l f ≤ i := Nat.div_le_self _ _
  refine T_Mo_throwOf (R_Mo_throwOf_0 ⟨fun e => R_Mo_throwOf_16 ⟨by rw [i_lit0 h.2.2.2.2]; omega, R_Mo_throwOf_27 (hq _ ?_)⟩, fun e => R_Mo_throwOf_27 (hq _ ?_)⟩)
  · rw [i_lit0 h.2.1] at e
    rw [i_addN h.2.2.1 (i_divN h1 h.2.2.2.2 (by omega)) (by omega)]
    unfold thr
    rw [if_neg e]
  · rw [i_lit0 h.2.1] at e
    rw [i_addN h.2.2.1 h1 (by omega)]
    unfold thr
    rw [if_pos e]
theorem S_Mo_callOf {v1 : Int32} {i : Nat} (h : MRu k l f m rk rl rm rn) (h1 : v1.toInt = (i : Int)) (hi : i < gw k l f) (hq : ∀ r : Int32, r.toInt = (if k = 0 then -1 else ((thr k l f i + l + i % gn l f : Nat) : Int)) → Q r) : P_Mo_callOf vv rk rl rn v1 Q := by
  have ht := thr_le h.1 hi
  have hn := gn_le h.1
  have h0 := h.1
  unfold RuleOK at h0
  refine T_Mo_callOf (R_Mo_callOf_0 ⟨fun e => R_Mo_callOf_11 (S_Mo_throwOf h h1 hi fun r1 e1 => ⟨by rw [i_lit0 h.2.2.2.2]; omega, R_Mo_callOf_28 (hq _ ?_)⟩), fun e => R_Mo_callOf_28 (hq _ ?_)⟩)
  · rw [i_lit0 h.2.1] at e
    have hm := Nat.mod_lt i (show 0 < gn l f by omega)
    rw [if_neg e]
    exact i_addN (i_addN e1 h.2.2.1 (by omega)) (i_remN h1 h.2.2.2.2 (by omega)) (by omega)
  · rw [i_lit0 h.2.1] at e
    rw [if_pos e]
    exact z_m1
theorem S_Mo_payOf {v1 v2 : Int32} {i j : Nat} (h : MRu k l f m rk rl rm rn) (h1 : v1.toInt = (i : Int)) (hi : i < gw k l f) (h2 : v2.toInt = (j : Int)) (hj : j < gw k l f) (hq : ∀ r : Int32, r.toInt = payI k l f m i j → Q r) : P_Mo_payOf vv rk rl rm rn v1 v2 Q := by
  have hti := thr_le h.1 hi
  have htj := thr_le h.1 hj
  have h0 := h.1
  unfold RuleOK at h0
  unfold payI at hq
  refine T_Mo_payOf (R_Mo_payOf_0 (S_Mo_throwOf h h1 hi fun r1 e1 => S_Mo_throwOf h h2 hj fun r2 e2 => R_Mo_payOf_10 fun x3 e3 => ?_))
  have hx3 : x3.toInt = ((thr k l f i + thr k l f j : Nat) : Int) := by rw [e3]; exact i_addN e1 e2 (by omega)
  generalize hs : thr k l f i + thr k l f j = s at *
  refine ⟨fun e => R_Mo_payOf_34 ?_, fun e => ?_⟩
  · rw [i_lit0 h.2.1] at e
    rw [if_neg e] at hq
    have last : ∀ (s0 s1 : Int32), s0.toInt = hit1 k l f i s → s1.toInt = hit1 k l f j s → E_Mo_payOf_64 vv rk rl rm rn x3 s0 s1 Q := by
      intro s0 s1 g0 g1
      have q0 := hit1_01 k l f i s
      have q1 := hit1_01 k l f j s
      have fin : ∀ (o : Int32) (on : Nat), o.toInt = (on : Int) → on < 100 → (∀ r : Int32, r.toInt = (hit1 k l f i s - hit1 k l f j s) * (on : Int) → Q r) → E_Mo_payOf_79 vv rk rl rm rn s0 s1 o Q := by
        intro o on ho hon hq'
        refine R_Mo_payOf_79 ⟨fun c => R_Mo_payOf_92 ⟨fun c2 => R_Mo_payOf_102 (R_Mo_payOf_106 (hq' _ ?_)), fun c2 => R_Mo_payOf_106 (hq' _ ?_)⟩, fun c => R_Mo_payOf_106 (hq' _ ?_)⟩
        · rw [i_eq, g0, g1] at c
          rw [i_eq, g0, z_0] at c2
          rw [i_sub z_0 ho (by omega) (by omega), c2, show hit1 k l f j s = 1 by omega]
          omega
        · rw [i_eq, g0, g1] at c
          rw [i_eq, g0, z_0] at c2
          rw [ho, show hit1 k l f i s = 1 by omega, show hit1 k l f j s = 0 by omega]
          omega
        · rw [i_eq, g0, g1] at c
          rw [c, Int.sub_self, Int.zero_mul]
          exact z_0
      refine R_Mo_payOf_64 ⟨fun c => R_Mo_payOf_78 (fin x3 s hx3 (by omega) ?_), fun c => fin 1 1 i_1 (by omega) ?_⟩
      · rw [i_lit1 h.2.1] at c
        rw [if_neg c] at hq
        exact hq
      · rw [i_lit1 h.2.1] at c
        rw [if_pos c] at hq
        intro r hr
        refine hq r ?_
        rw [hr]
        omega
    have mid : ∀ s0 : Int32, s0.toInt = hit1 k l f i s → E_Mo_payOf_48 vv rk rl rm rn v2 x3 s0 Q := by
      intro s0 g0
      refine R_Mo_payOf_48 (S_Mo_callOf h h2 hj fun r6 e6 => ?_)
      rw [if_neg e] at e6
      refine ⟨fun c => R_Mo_payOf_63 (last _ _ g0 ?_), fun c => last _ _ g0 ?_⟩
      · rw [i_eq, e6, hx3] at c
        unfold hit1
        rw [if_neg (by omega), z_0]
      · rw [i_eq, e6, hx3] at c
        unfold hit1
        rw [if_pos (by omega), z_1]
    refine S_Mo_callOf h h1 hi fun r5 e5 => ?_
    rw [if_neg e] at e5
    refine ⟨fun c => R_Mo_payOf_47 (mid _ ?_), fun c => mid _ ?_⟩
    · rw [i_eq, e5, hx3] at c
      unfold hit1
      rw [if_neg (by omega), z_0]
    · rw [i_eq, e5, hx3] at c
      unfold hit1
      rw [if_pos (by omega), z_1]
  · rw [i_lit0 h.2.1] at e
    rw [if_pos e] at hq
    have hm := h0.2.2.2.2.1 e
    have hr := i_remN hx3 h.2.2.2.1 (by omega)
    refine ⟨by rw [i_lit0 h.2.2.2.1]; omega, fun c => R_Mo_payOf_32 (R_Mo_payOf_33 (hq _ ?_)), fun c => R_Mo_payOf_33 (hq _ ?_)⟩
    · rw [i_lit0 hr] at c
      rw [if_neg c]
      exact z_m1
    · rw [i_lit0 hr] at c
      rw [if_pos c]
      exact z_1
end RULE
theorem rb1 : rx_bool 1 := Or.inr rfl
theorem rb0 : rx_bool 0 := Or.inl rfl
