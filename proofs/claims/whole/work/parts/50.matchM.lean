/-! MATCHES in the reference -/
theorem powN {x n : Nat} {z : Int} (hz : z = (x : Int)) (h : x < 1237940039285380274899124224) (hn : 3 ≤ n) : z.natAbs < BB ^ n := by
  refine Nat.lt_of_lt_of_le ?_ (Nat.pow_le_pow_right (by decide) hn)
  rw [hz, Int.natAbs_natCast]
  show x < 1237940039285380274899124224
  exact h
theorem j_1 : (1 : Int64).toInt = ((1 : Nat) : Int) := by decide
theorem j_0 : (0 : Int64).toInt = ((0 : Nat) : Int) := by decide
section MATM
variable {vv vv' : Nat → Value} {k l f m : Nat} {T : Nat → Nat → Int} {d : Int} {ins : Nat → Nat} {n : Nat} {fl ll gl wk gin : Nat → Int32} {tp un : Nat → Int64} {V : Nat → Int}
  {mk ml mh mm mn mw mg mc : Int32}
theorem S_Mo_findScore {Q : (Nat → Int32) → (Nat → Int32) → (Nat → Int32) → (Nat → Int32) → (Nat → Int64) → (Nat → Int64) → Prop} (hr : RuleOK k l f m) (hk : k ≠ 2) (hG : GameOf k l f m T d ins n) (hM : MGd k l f m T d ins n mk ml mh mm mn mw mg mc gin V) (hR : MR fl ll gl V) (hq : ∀ fl' ll' gl' wk' tp' un' V', MR fl' ll' gl' V' → V' 1348 = (hitN k l f T d : Int) → V' 1349 = (basN k l f T d : Int) → Off (1348 :: 1349 :: SCR) V V' → Q fl' ll' gl' wk' tp' un') : P_Mo_findScore vv mk mg fl ll gl wk tp un Q := by
  have hz := zN_eq hG hr
  have hv := vaZ_bd hG hr
  obtain ⟨g1, g2, g3, g4, g5, g6, g7, g8, g9⟩ := hM
  unfold hitN basN at hq
  refine T_Mo_findScore (R_Mo_findScore_0 ⟨fun e => R_Mo_findScore_29 ?_, fun e => ?_⟩)
  · rw [i_lit1 g1.2.1] at e
    have hk0 : k = 0 := by
      have := hr.1
      omega
    rw [if_pos hk0, if_pos hk0] at hq
    have hf := (hG.fct hr).2.2.2.2 hk0
    have hb2 : bnd k f = 2 := by unfold bnd; rw [if_neg (by omega)]
    have hd := hG.bd.2.1
    rw [hz.1] at hf hq
    obtain ⟨f1, f2, f3⟩ := hf
    refine S_Mo_valueTimes hr hG g4 g8 g9 hR c1348 (by omega) (by omega) fun F1 L1 G1 W1 V1 hR1 e1 hO1 => ?_
    rw [hb2, hz.1] at e1
    have z1 : V1 1358 = (zN k l f T : Int) := by rw [hO1 _ (by simp), g9, hz.1]
    refine S_Mo_add hR1 c1348 (by omega) c1358 (by omega) c1348 (by omega) (by rw [e1]; exact powB (pow2 (by omega) (by omega)) (by omega)) (by rw [z1]; exact powB (pow2 (by omega) (by omega)) (by omega)) fun F2 L2 G2 hR2 => R_Mo_findScore_49 ?_
    rw [e1, z1] at hR2
    have hO2 := (hO1.mono (L' := 1348 :: 1349 :: SCR) (by simp)).up (t := 1348) (d - ((2 : Nat) : Int) * (zN k l f T : Int) + (zN k l f T : Int)) (by simp)
    have p2 : up V1 1348 (d - ((2 : Nat) : Int) * (zN k l f T : Int) + (zN k l f T : Int)) 1348 = d - (zN k l f T : Int) := by rw [up_same]; omega
    have z2 : up V1 1348 (d - ((2 : Nat) : Int) * (zN k l f T : Int) + (zN k l f T : Int)) 1358 = (zN k l f T : Int) := by rw [up_ne (by omega), z1]
    generalize up V1 1348 (d - ((2 : Nat) : Int) * (zN k l f T : Int) + (zN k l f T : Int)) = V2 at *
    refine S_Mo_timesSmall 1 1 hR2 c1358 (by omega) zL2 (by omega) c1349 (by omega) (by rw [z2]; exact pow1 (by omega)) (by decide) (by omega) fun F3 L3 G3 W3 hR3 => ?_
    rw [z2] at hR3
    have hO3 := (hO2.up (t := 1370) ((2 : Nat) : Int) (by simp)).up (t := 1349) ((zN k l f T : Int) * ((2 : Nat) : Int)) (by simp)
    have p3 : up (up V2 1370 ((2 : Nat) : Int)) 1349 ((zN k l f T : Int) * ((2 : Nat) : Int)) 1348 = d - (zN k l f T : Int) := by rw [up_ne (by omega), up_ne (by omega), p2]
    have q3 : up (up V2 1370 ((2 : Nat) : Int)) 1349 ((zN k l f T : Int) * ((2 : Nat) : Int)) 1349 = ((2 * zN k l f T : Nat) : Int) := by rw [up_same]; omega
    generalize up (up V2 1370 ((2 : Nat) : Int)) 1349 ((zN k l f T : Int) * ((2 : Nat) : Int)) = V3 at *
    refine S_Mo_lowest hR3 c1348 (by omega) c1349 (by omega) (by omega) (by decide) (by decide) (by rw [q3]; omega) (by rw [p3]; exact powB (pow2 (by omega) (by omega)) (by omega)) (by rw [q3]; exact powB (pow2 (by omega) (by omega)) (by omega)) fun F4 L4 G4 W4 T4 U4 V4 hR4 hO4 n4 d4 => R_Mo_findScore_72 (hq _ _ _ _ _ _ V4 hR4 ?_ ?_ (hO3.trans hO4))
    · rw [n4, p3, q3, (low_eq (p := d - (zN k l f T : Int)) (q := 2 * zN k l f T) (by omega)).1]
      by_cases e0 : d - (zN k l f T : Int) = 0
      · rw [e0]
        unfold qa
        simp
      · rw [Int.sign_eq_one_of_pos (by omega), Int.one_mul]
    · rw [d4, p3, q3, (low_eq (p := d - (zN k l f T : Int)) (q := 2 * zN k l f T) (by omega)).2]
  · rw [i_lit1 g1.2.1] at e
    rw [if_neg (by omega), if_neg (by omega)] at hq
    refine S_Mo_set hR c1348 (by omega) zL1 (by omega) fun F1 L1 G1 hR1 => S_Mo_set hR1 c1349 (by omega) zL2 (by omega) fun F2 L2 G2 hR2 => R_Mo_findScore_72 (hq _ _ _ _ _ _ _ hR2 ?_ (up_same ..) (((Off.refl _ V).up _ (by simp)).up _ (by simp)))
    rw [up_ne (by omega), up_same]
    rfl
abbrev CHL : List Nat := [1350, 1351, 1352, 1360, 1366, 1367, 1368, 1370]
theorem S_Mo_findChance {v1 v2 : Int32} {a b h c : Nat} {Q : (Nat → Int32) → (Nat → Int32) → (Nat → Int32) → (Nat → Int32) → (Nat → Int64) → (Nat → Int64) → Prop} (hR : MR fl ll gl V) (h1 : v1.toInt = (a : Int)) (ha : 1 ≤ a ∧ a ≤ 12) (h2 : v2.toInt = (b : Int)) (hb : 1 ≤ b ∧ b ≤ 12) (hP : V 1348 = (h : Int)) (hQ : V 1349 = (c : Int)) (hc : 1 ≤ c ∧ c ≤ 5 ∧ h ≤ c) (hq : ∀ fl' ll' gl' wk' tp' un' V', MR fl' ll' gl' V' → V' 1367 = (wgt h (c - h) (a + b - 1) a : Int) → V' 1368 = ((c ^ (a + b - 1) : Nat) : Int) → Off CHL V V' → Q fl' ll' gl' wk' tp' un') : P_Mo_findChance vv fl ll gl wk tp un v1 v2 Q := by
  obtain ⟨N, hN⟩ : ∃ N, N = a + b - 1 := ⟨_, rfl⟩
  rw [← hN] at hq
  obtain ⟨r, hr⟩ : ∃ r, r = c - h := ⟨_, rfl⟩
  rw [← hr] at hq
  have hsum : h + r = c := by omega
  have small : ∀ x : Nat, x ≤ 5 → ∀ z : Int, z = (x : Int) → z.natAbs < BB ^ 1 := fun x hx z hz => pow1 (by omega)
  have wb : ∀ n' a', n' ≤ 24 → wgt h r n' a' ≤ 59604644775390625 := fun n' a' hn' => by
    have := wgt_le h r n' a'
    rw [hsum] at this
    exact Nat.le_trans this (pow5 hc.2.1 hn')
  have chb : ∀ n' k', n' ≤ 23 → ch n' k' ≤ 8388608 := fun n' k' hn' => Nat.le_trans (ch_le n' k') (Nat.pow_le_pow_right (by decide) hn' : 2 ^ n' ≤ 2 ^ 23)
  refine T_Mo_findChance (R_Mo_findChance_0 fun x1 e1 => ?_)
  have hx1 : x1.toInt = (N : Int) := by
    rw [e1, i_sub (i_addN h1 h2 (by omega)) z_1 (by omega) (by omega)]
    omega
  refine S_Mo_less hR c1349 (by omega) c1348 (by omega) c1350 (by omega) (by rw [hQ]; exact powB (pow2 (by omega) (by omega)) (by omega)) (by rw [hP]; exact powB (pow2 (by omega) (by omega)) (by omega)) fun F1 L1 G1 hR1 => S_Mo_set hR1 c1367 (by omega) zL0 (by omega) fun F2 L2 G2 hR2 => R_Mo_findChance_27 (S_Mo_set hR2 c1368 (by omega) zL1 (by omega) fun F3 L3 G3 hR3 => ?_)
  rw [hP, hQ] at hR3
  have hO3 := (((Off.refl CHL V).up (t := 1350) ((c : Int) - (h : Int)) (by simp)).up (t := 1367) 0 (by simp)).up (t := 1368) 1 (by simp)
  have r3 : up (up (up V 1350 ((c : Int) - (h : Int))) 1367 0) 1368 1 1350 = (r : Int) := by rw [up_ne (by omega), up_ne (by omega), up_same]; omega
  have s3 : up (up (up V 1350 ((c : Int) - (h : Int))) 1367 0) 1368 1 1367 = 0 := by rw [up_ne (by omega), up_same]
  have d3 : up (up (up V 1350 ((c : Int) - (h : Int))) 1367 0) 1368 1 1368 = 1 := up_same ..
  generalize up (up (up V 1350 ((c : Int) - (h : Int))) 1367 0) 1368 1 = V3 at *
  -- SUM, term by term
  have sums : ∀ (u j s : Nat) (F L G W : Nat → Int32) (TP U : Nat → Int64) (V' : Nat → Int) (v4 : Int32), j + u = N + 1 → v4.toInt = (j : Int) → MR F L G V' → Off CHL V V' → V' 1350 = (r : Int) → V' 1368 = ((c ^ N : Nat) : Int) → V' 1367 = (s : Int) → s + wgt h r N j = wgt h r N a → E_Mo_findChance_66 vv F L G W TP U x1 v4 Q := by
    intro u
    induction u with
    | zero =>
      intro j s F L G W TP U V' v4 hu h4 hR' hO hr' hd hs hinv
      rw [wgt_gt h r (by omega), Nat.add_zero] at hinv
      exact R_Mo_findChance_66 ⟨fun _ => R_Mo_findChance_214 (hq _ _ _ _ _ _ V' hR' (by rw [hs, hinv]) hd hO), fun y => absurd (by rw [i_lt]; omega) y⟩
    | succ u ih =>
      intro j s F L G W TP U V' v4 hu h4 hR' hO hr' hd hs hinv
      have hx14 : (x1 - v4).toInt = ((N - j : Nat) : Int) := i_subN hx1 h4 (by omega)
      -- the powers
      have pows : ∀ (u' i : Nat) (F L G W : Nat → Int32) (V' : Nat → Int) (TP U : Nat → Int64) (v5 : Int32), i + u' = N → v5.toInt = (i : Int) → MR F L G V' → Off CHL V V' → V' 1350 = (r : Int) → V' 1368 = ((c ^ N : Nat) : Int) → V' 1367 = (s : Int) → V' 1366 = ((ch N (N - j) * (h ^ min i j * r ^ (i - j)) : Nat) : Int) → E_Mo_findChance_157 vv F L G W TP U x1 v4 v5 Q := by
        intro u'
        induction u' with
        | zero =>
          intro i F L G W V' TP U v5 hu' h5 hR' hO hr' hd hs ht
          have : i = N := by omega
          subst this
          have hj : ch i (i - j) * (h ^ min i j * r ^ (i - j)) = jst h r i j := by
            unfold jst
            rw [ch_symm (n := i) (a := i - j) (b := j) (by omega), show min i j = j by omega, Nat.mul_assoc]
          rw [hj] at ht
          have hw := wgt_jst h r i j
          have hb1 := wb i j (by omega)
          have hb2 := wb i a (by omega)
          refine R_Mo_findChance_157 ⟨fun _ => R_Mo_findChance_195 (S_Mo_add hR' c1367 (by omega) c1366 (by omega) c1367 (by omega) (powN hs (by omega) (by omega)) (powN ht (by omega) (by omega)) fun F4 L4 G4 hR4 x39 e39 => ?_), fun y => absurd (by rw [i_le]; omega) y⟩
          rw [hs, ht] at hR4
          refine ih (j + 1) (s + jst h r i j) F4 L4 G4 W TP U _ x39 (by omega) (by rw [e39]; exact i_suc h4 (by omega)) hR4 (hO.up _ (by simp)) (by rw [up_ne (by omega)]; exact hr') (by rw [up_ne (by omega)]; exact hd) (by rw [up_same]; omega) (by omega)
        | succ u' ih' =>
          intro i F L G W V' TP U v5 hu' h5 hR' hO hr' hd hs ht
          have hpp : h ^ min i j * r ^ (i - j) ≤ 5 ^ 23 := by
            have e1 : h ^ min i j ≤ 5 ^ min i j := Nat.pow_le_pow_left (by omega) _
            have e2 : r ^ (i - j) ≤ 5 ^ (i - j) := Nat.pow_le_pow_left (by omega) _
            have e3 := Nat.mul_le_mul e1 e2
            rw [← Nat.pow_add] at e3
            exact Nat.le_trans e3 (Nat.pow_le_pow_right (by decide) (by omega))
          have hcb := chb N (N - j) (by omega)
          have htb : ch N (N - j) * (h ^ min i j * r ^ (i - j)) ≤ 8388608 * 5 ^ 23 := Nat.mul_le_mul hcb hpp
          have ht3 : (V' 1366).natAbs < BB ^ 3 := powN ht (Nat.lt_of_le_of_lt htb (by decide)) (by omega)
          have go : ∀ (s2 : Int32) (q : Nat) (w : Nat), s2.toInt = (q : Int) → q < 1371 → V' q = (w : Int) → w ≤ 5 → w * (h ^ min i j * r ^ (i - j)) = h ^ min (i + 1) j * r ^ (i + 1 - j) → E_Mo_findChance_183 vv F L G W TP U x1 v4 v5 1366 s2 Q := by
            intro s2 q w hs2 hq1 hVq hw hmul
            refine R_Mo_findChance_183 (S_Mo_times 3 1 hR' c1366 (by omega) hs2 hq1 c1366 (by omega) ht3 (small w hw _ hVq) (by omega) fun F4 L4 G4 W4 hR4 x44 e44 => ?_)
            rw [ht, hVq] at hR4
            refine ih' (i + 1) F4 L4 G4 W4 _ TP U x44 (by omega) (by rw [e44]; exact i_suc h5 (by omega)) hR4 (hO.up _ (by simp)) (by rw [up_ne (by omega)]; exact hr') (by rw [up_ne (by omega)]; exact hd) (by rw [up_ne (by omega)]; exact hs) ?_
            rw [up_same, ← Int.natCast_mul, ← hmul]
            congr 1
            ac_rfl
          refine R_Mo_findChance_157 ⟨fun y => absurd y (by rw [i_le]; omega), fun _ => ⟨fun y => R_Mo_findChance_180 (go 1350 1350 r c1350 (by omega) hr' (by omega) ?_), fun y => go 1348 1348 h c1348 (by omega) (by rw [hO _ (by simp)]; exact hP) (by omega) ?_⟩⟩
          · rw [i_le, h4, h5] at y
            rw [show min (i + 1) j = min i j by omega, show i + 1 - j = i - j + 1 by omega, Nat.pow_succ]
            ac_rfl
          · rw [i_le, h4, h5] at y
            rw [show min (i + 1) j = min i j + 1 by omega, show i + 1 - j = 0 by omega, show i - j = 0 by omega, Nat.pow_succ]
            ac_rfl
      -- the ways to choose
      have chs : ∀ (u' i : Nat) (F L G W : Nat → Int32) (V' : Nat → Int) (TP U : Nat → Int64) (v5 : Int32), i + u' = N - j → v5.toInt = (i : Int) → MR F L G V' → Off CHL V V' → V' 1350 = (r : Int) → V' 1368 = ((c ^ N : Nat) : Int) → V' 1367 = (s : Int) → V' 1366 = ((ch (j + i) i : Nat) : Int) → E_Mo_findChance_83 vv F L G W TP U x1 v4 v5 Q := by
        intro u'
        induction u' with
        | zero =>
          intro i F L G W V' TP U v5 hu' h5 hR' hO hr' hd hs ht
          refine R_Mo_findChance_83 ⟨fun _ => R_Mo_findChance_154 (pows N 0 F L G W V' TP U 0 (by omega) i_0 hR' hO hr' hd hs ?_), fun y => absurd (by rw [i_le]; omega) y⟩
          have hij : i = N - j := by omega
          have hji : j + i = N := by omega
          rw [hji] at ht
          rw [ht, hij, Nat.zero_min, Nat.zero_sub, Nat.pow_zero, Nat.pow_zero, Nat.mul_one]
        | succ u' ih' =>
          intro i F L G W V' TP U v5 hu' h5 hR' hO hr' hd hs ht
          have hcb := chb (j + i) i (by omega)
          have habs := ch_abs (j + i) i
          have hz : ((v4 + 1) + v5).toInt64.toInt = ((j + 1 + i : Nat) : Int) := i_wide (i_addN (i_suc h4 (by omega)) h5 (by omega))
          have hm : ch (j + i) i * (j + 1 + i) ≤ 8388608 * 24 := Nat.mul_le_mul hcb (by omega)
          refine R_Mo_findChance_83 ⟨fun y => absurd y (by rw [i_le]; omega), fun _ => S_Mo_timesSmall 3 1 hR' c1366 (by omega) hz (by omega) c1366 (by omega) (powN ht (by omega) (by omega)) (pow1 (by omega)) (by omega) fun F4 L4 G4 W4 hR4 => S_Mo_set hR4 c1351 (by omega) (j_addN (i_wide h5) j_1 (by omega)) (by omega) fun F5 L5 G5 hR5 => R_Mo_findChance_122 ?_⟩
          rw [ht, ← Int.natCast_mul] at hR5
          have hO5 := ((hO.up (t := 1370) ((j + 1 + i : Nat) : Int) (by simp)).up (t := 1366) ((ch (j + i) i * (j + 1 + i) : Nat) : Int) (by simp)).up (t := 1351) ((i + 1 : Nat) : Int) (by simp)
          have t5 : up (up (up V' 1370 ((j + 1 + i : Nat) : Int)) 1366 ((ch (j + i) i * (j + 1 + i) : Nat) : Int)) 1351 ((i + 1 : Nat) : Int) 1366 = ((ch (j + i) i * (j + 1 + i) : Nat) : Int) := by rw [up_ne (by omega), up_same]
          have s5 : up (up (up V' 1370 ((j + 1 + i : Nat) : Int)) 1366 ((ch (j + i) i * (j + 1 + i) : Nat) : Int)) 1351 ((i + 1 : Nat) : Int) 1351 = ((i + 1 : Nat) : Int) := up_same ..
          have o5 : ∀ q, q ≠ 1370 → q ≠ 1366 → q ≠ 1351 → up (up (up V' 1370 ((j + 1 + i : Nat) : Int)) 1366 ((ch (j + i) i * (j + 1 + i) : Nat) : Int)) 1351 ((i + 1 : Nat) : Int) q = V' q := fun q q1 q2 q3 => by rw [up_ne q3, up_ne q2, up_ne q1]
          generalize up (up (up V' 1370 ((j + 1 + i : Nat) : Int)) 1366 ((ch (j + i) i * (j + 1 + i) : Nat) : Int)) 1351 ((i + 1 : Nat) : Int) = V5 at *
          refine S_Mo_divide hR5 c1366 (by omega) c1351 (by omega) c1352 (by omega) c1360 (by omega) (by omega) (by rw [s5]; omega) (powN t5 (by omega) (by omega)) fun F6 L6 G6 W6 T6 U6 hR6 => S_Mo_copy hR6 c1352 (by omega) c1366 (by omega) fun F7 L7 G7 hR7 => R_Mo_findChance_148 fun x35 e35 => ?_
          have hq6 : (V5 1366).tdiv (V5 1351) = ((ch (j + (i + 1)) (i + 1) : Nat) : Int) := by
            rw [t5, s5]
            show ((ch (j + i) i * (j + 1 + i) / (i + 1) : Nat) : Int) = _
            congr 1
            apply Nat.div_eq_of_eq_mul_right (by omega)
            rw [show j + (i + 1) = j + i + 1 by omega, habs, show j + 1 + i = j + i + 1 by omega, Nat.mul_comm]
          rw [up_ne (f := up V5 1352 _) (show 1352 ≠ 1360 by omega), up_same, hq6] at hR7
          refine ih' (i + 1) F7 L7 G7 W6 _ T6 U6 x35 (by omega) (by rw [e35]; exact i_suc h5 (by omega)) hR7 (((hO5.up _ (by simp)).up _ (by simp)).up _ (by simp)) ?_ ?_ ?_ (up_same ..)
          · rw [up_ne (by omega), up_ne (by omega), up_ne (by omega), o5 _ (by omega) (by omega) (by omega), hr']
          · rw [up_ne (by omega), up_ne (by omega), up_ne (by omega), o5 _ (by omega) (by omega) (by omega), hd]
          · rw [up_ne (by omega), up_ne (by omega), up_ne (by omega), o5 _ (by omega) (by omega) (by omega), hs]
      refine R_Mo_findChance_66 ⟨fun y => absurd y (by rw [i_lt]; omega), fun _ => S_Mo_set hR' c1366 (by omega) zL1 (by omega) fun F4 L4 G4 hR4 => ?_⟩
      exact chs (N - j) 0 F4 L4 G4 W _ TP U 0 (by omega) i_0 hR4 (hO.up _ (by simp)) (by rw [up_ne (by omega)]; exact hr') (by rw [up_ne (by omega)]; exact hd) (by rw [up_ne (by omega)]; exact hs) (by rw [up_same, ch_n0]; rfl)
  have dens : ∀ (u i : Nat) (F L G W : Nat → Int32) (V' : Nat → Int) (v4 : Int32), i + u = N → v4.toInt = (i : Int) → MR F L G V' → Off CHL V V' → V' 1350 = (r : Int) → V' 1367 = 0 → V' 1368 = ((c ^ i : Nat) : Int) → E_Mo_findChance_38 vv F L G W tp un v1 x1 v4 Q := by
    intro u
    induction u with
    | zero =>
      intro i F L G W V' v4 hu h4 hR' hO hr' hs hd
      have : i = N := by omega
      subst this
      exact R_Mo_findChance_38 ⟨fun _ => R_Mo_findChance_63 (sums (i + 1 - a) a 0 F L G W tp un V' v1 (by omega) h1 hR' hO hr' hd (by rw [hs]; rfl) (by omega)), fun y => absurd (by rw [i_le]; omega) y⟩
    | succ u ih =>
      intro i F L G W V' v4 hu h4 hR' hO hr' hs hd
      have hp := pow5 (b := c) (i := i) hc.2.1 (by omega)
      have hQ' : V' 1349 = (c : Int) := by rw [hO _ (by simp)]; exact hQ
      refine R_Mo_findChance_38 ⟨fun y => absurd y (by rw [i_le]; omega), fun _ => S_Mo_times 3 1 hR' c1368 (by omega) c1349 (by omega) c1368 (by omega) (powN hd (by omega) (by omega)) (small c (by omega) _ hQ') (by omega) fun F4 L4 G4 W4 hR4 x15 e15 => ?_⟩
      rw [hd, hQ', ← Int.natCast_mul] at hR4
      refine ih (i + 1) F4 L4 G4 W4 _ x15 (by omega) (by rw [e15]; exact i_suc h4 (by omega)) hR4 (hO.up _ (by simp)) (by rw [up_ne (by omega)]; exact hr') (by rw [up_ne (by omega)]; exact hs) (by rw [up_same, Nat.pow_succ])
  exact dens N 0 F3 L3 G3 wk V3 0 (by omega) i_0 hR3 hO3 r3 s3 (by rw [d3]; rfl)
end MATM
