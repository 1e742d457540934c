/-! MATCHES in the reference: the public calls -/
section MATM2
variable {vv vv' : Nat → Value} {k l f m : Nat} {T : Nat → Nat → Int} {d : Int} {ins : Nat → Nat} {n : Nat} {fl ll gl wk gin : Nat → Int32} {tp un : Nat → Int64} {V : Nat → Int}
  {mk ml mh mm mn mw mg mc : Int32}
theorem S_Mo_heldByHalf {v1 v2 : Int32} {a b h c : Nat} {Q : Int32 → (Nat → Int32) → (Nat → Int32) → (Nat → Int32) → (Nat → Int32) → (Nat → Int64) → (Nat → Int64) → Prop} (hR : MR fl ll gl V) (h1 : v1.toInt = (a : Int)) (ha : 1 ≤ a ∧ a ≤ 12) (h2 : v2.toInt = (b : Int)) (hb : 1 ≤ b ∧ b ≤ 12) (hP : V 1348 = (h : Int)) (hQ : V 1349 = (c : Int)) (hc : 1 ≤ c ∧ c ≤ 5 ∧ h ≤ c) (hq : ∀ (r : Int32) fl' ll' gl' wk' tp' un' V', r.toInt = cmpI ((2 * wgt h (c - h) (a + b - 1) a : Nat) : Int) ((c ^ (a + b - 1) : Nat) : Int) → MR fl' ll' gl' V' → Off (1340 :: CHL) V V' → Q r fl' ll' gl' wk' tp' un') : P_Mo_heldByHalf vv fl ll gl wk tp un v1 v2 Q := by
  have wb : wgt h (c - h) (a + b - 1) a ≤ 59604644775390625 := by
    have := wgt_le h (c - h) (a + b - 1) a
    rw [show h + (c - h) = c by omega] at this
    exact Nat.le_trans this (pow5 hc.2.1 (by omega))
  refine T_Mo_heldByHalf (R_Mo_heldByHalf_0 (S_Mo_findChance hR h1 ha h2 hb hP hQ hc fun F1 L1 G1 W1 T1 U1 V1 hR1 s1 d1 hO1 => S_Mo_timesSmall 3 1 hR1 c1367 (by omega) zL2 (by omega) c1340 (by omega) (powN s1 (by omega) (by omega)) (by decide) (by omega) fun F2 L2 G2 W2 hR2 => R_Mo_heldByHalf_19 ?_))
  rw [s1] at hR2
  refine S_Mo_compare hR2 c1340 (by omega) c1368 (by omega) fun r11 e11 => hq _ _ _ _ _ _ _ _ ?_ hR2 (((hO1.mono (L' := 1340 :: CHL) (by simp)).up _ (by simp)).up _ (by simp))
  rw [up_same, up_ne (by omega), up_ne (by omega), d1, ← Int.natCast_mul, Nat.mul_comm] at e11
  exact e11
theorem S_Mo_chance {v1 v2 : Int32} {Q : Int32 → (Nat → Int32) → (Nat → Int32) → (Nat → Int32) → (Nat → Int32) → (Nat → Int64) → (Nat → Int64) → Prop} (hr : RuleOK k l f m) (hG : GameOf k l f m T d ins n) (hM : MGd k l f m T d ins n mk ml mh mm mn mw mg mc gin V) (hR : MR fl ll gl V) (hq0 : ¬ okC v1.toInt v2.toInt → Q (-2) fl ll gl wk tp un) (hq2 : okC v1.toInt v2.toInt → k = 2 → Q (-3) fl ll gl wk tp un) (hq : okC v1.toInt v2.toInt → k ≠ 2 → ∀ (r : Int32) fl' ll' gl' wk' tp' un' V', r.toInt = 1 → MR fl' ll' gl' V' → Off (1344 :: 1345 :: 1348 :: 1349 :: (CHL ++ SCR)) V V' → FM V' (wgt (hitN k l f T d) (basN k l f T d - hitN k l f T d) (v1.toInt.toNat + v2.toInt.toNat - 1) v1.toInt.toNat) (basN k l f T d ^ (v1.toInt.toNat + v2.toInt.toNat - 1)) → Q r fl' ll' gl' wk' tp' un') : P_Mo_chance vv mk mg fl ll gl wk tp un v1 v2 Q := by
  have hbd := hit_bd hG hr
  have g1 := hM.1
  have zL12 : (12 : Int64).toInt = 12 := by decide
  refine T_Mo_chance (R_Mo_chance_0 (S_Mo_in32 zL1 zL12 fun r1 h1 => ⟨fun e => R_Mo_chance_24 (hq0 fun z => ?_), fun e => S_Mo_in32 zL1 zL12 fun r2 h2 => R_Mo_chance_21 ⟨fun e2 => R_Mo_chance_27 ⟨fun e3 => R_Mo_chance_38 ?_, fun e3 => hq2 ?_ ?_⟩, fun e2 => R_Mo_chance_24 (hq0 fun z => ?_)⟩⟩))
  · rw [bz h1] at e
    exact e z.1
  · rw [bz h1] at e
    rw [bz h2] at e2
    have e' := Classical.not_not.mp e
    have e2' := Classical.not_not.mp e2
    rw [i_lit2 g1.2.1] at e3
    have hpos : 0 < basN k l f T d ^ (v1.toInt.toNat + v2.toInt.toNat - 1) := Nat.pow_pos (by omega)
    have hpb := pow5 (b := basN k l f T d) (i := v1.toInt.toNat + v2.toInt.toNat - 1) hbd.2.1 (by omega)
    have wb : wgt (hitN k l f T d) (basN k l f T d - hitN k l f T d) (v1.toInt.toNat + v2.toInt.toNat - 1) v1.toInt.toNat ≤ 59604644775390625 := by
      have := wgt_le (hitN k l f T d) (basN k l f T d - hitN k l f T d) (v1.toInt.toNat + v2.toInt.toNat - 1) v1.toInt.toNat
      rw [show hitN k l f T d + (basN k l f T d - hitN k l f T d) = basN k l f T d by omega] at this
      omega
    refine S_Mo_findScore hr e3 hG hM hR fun F1 L1 G1 W1 T1 U1 V1 hR1 p1 q1 hO1 => S_Mo_findChance (a := v1.toInt.toNat) (b := v2.toInt.toNat) hR1 (by omega) (by omega) (by omega) (by omega) p1 q1 hbd fun F2 L2 G2 W2 T2 U2 V2 hR2 s2 d2 hO2 => R_Mo_chance_48 ?_
    refine S_Mo_tell hR2 c1367 (by omega) c1368 (by omega) (by omega) (by rw [d2]; omega) (powN s2 (by omega) (by omega)) (powN d2 (by omega) (by omega)) fun F3 L3 G3 W3 T3 U3 V3 hR3 hO3 n3 d3 => ?_
    rw [s2, d2] at n3 d3
    exact hq ⟨e', e2'⟩ e3 _ _ _ _ _ _ _ V3 z_1 hR3 (((hO1.mono (by simp)).trans (hO2.mono (by simp))).trans (hO3.mono (by simp))) (FM.told rfl hpos n3 d3)
  · rw [bz h1] at e
    rw [bz h2] at e2
    exact ⟨Classical.not_not.mp e, Classical.not_not.mp e2⟩
  · rw [i_lit2 g1.2.1] at e3
    exact e3
  · rw [bz h2] at e2
    exact e2 z.2
theorem S_Mo_given {v1 : Int32} {Q : Int32 → (Nat → Int32) → (Nat → Int32) → (Nat → Int32) → (Nat → Int32) → (Nat → Int64) → (Nat → Int64) → Prop} (hr : RuleOK k l f m) (hG : GameOf k l f m T d ins n) (hM : MGd k l f m T d ins n mk ml mh mm mn mw mg mc gin V) (hR : MR fl ll gl V) (hq : ∀ (r : Int32) fl' ll' gl' wk' tp' un' V', r.toInt = (if 1 ≤ v1.toInt ∧ v1.toInt ≤ 12 then (if k = 2 then -200 else gvZ (hitN k l f T d) (basN k l f T d) v1.toInt.toNat) else -100) → MR fl' ll' gl' V' → Off (1340 :: 1348 :: 1349 :: (CHL ++ SCR)) V V' → Q r fl' ll' gl' wk' tp' un') : P_Mo_given vv mk mg fl ll gl wk tp un v1 Q := by
  have hbd := hit_bd hG hr
  have g1 := hM.1
  have zL12 : (12 : Int64).toInt = 12 := by decide
  refine T_Mo_given (R_Mo_given_0 (S_Mo_in32 zL1 zL12 fun r1 h1 => ⟨fun e => R_Mo_given_15 ⟨fun e2 => R_Mo_given_27 ?_, fun e2 => hq _ _ _ _ _ _ _ V ?_ hR (Off.refl _ V)⟩, fun e => hq _ _ _ _ _ _ _ V ?_ hR (Off.refl _ V)⟩))
  · rw [bz h1] at e
    rw [i_lit2 g1.2.1] at e2
    have e' := Classical.not_not.mp e
    rw [if_pos e', if_neg e2] at hq
    refine S_Mo_findScore hr e2 hG hM hR fun F1 L1 G1 W1 T1 U1 V1 hR1 p1 q1 hO1 => S_Mo_timesSmall 1 1 hR1 c1348 (by omega) zL2 (by omega) c1340 (by omega) (by rw [p1]; exact pow1 (by omega)) (by decide) (by omega) fun F2 L2 G2 W2 hR2 => R_Mo_given_44 ?_
    rw [p1] at hR2
    have hO2 := ((hO1.mono (L' := 1340 :: 1348 :: 1349 :: (CHL ++ SCR)) (by simp)).up (t := 1370) ((2 : Nat) : Int) (by simp)).up (t := 1340) ((hitN k l f T d : Int) * ((2 : Nat) : Int)) (by simp)
    refine S_Mo_compare hR2 c1340 (by omega) c1349 (by omega) fun r12 e12 => ?_
    rw [up_same, up_ne (by omega), up_ne (by omega), q1] at e12
    have p2 : up (up V1 1370 ((2 : Nat) : Int)) 1340 ((hitN k l f T d : Int) * ((2 : Nat) : Int)) 1348 = (hitN k l f T d : Int) := by rw [up_ne (by omega), up_ne (by omega), p1]
    have q2 : up (up V1 1370 ((2 : Nat) : Int)) 1340 ((hitN k l f T d : Int) * ((2 : Nat) : Int)) 1349 = (basN k l f T d : Int) := by rw [up_ne (by omega), up_ne (by omega), q1]
    generalize up (up V1 1370 ((2 : Nat) : Int)) 1340 ((hitN k l f T d : Int) * ((2 : Nat) : Int)) = V2 at *
    unfold cmpI at e12
    unfold gvZ at hq
    refine ⟨fun y => R_Mo_given_61 ?_, fun y => hq _ _ _ _ _ _ _ V2 ?_ hR2 hO2⟩
    · rw [i_eq, z_0] at y
      have hne : ¬ 2 * hitN k l f T d = basN k l f T d := fun z => by
        rw [if_neg (by omega), if_pos (by omega)] at e12
        exact y e12
      rw [if_neg hne] at hq
      have side : (basN k l f T d < 2 * hitN k l f T d ∧ r12.toInt = 1) ∨ (¬ basN k l f T d < 2 * hitN k l f T d ∧ r12.toInt = -1) := by
        split at e12
        · right; exact ⟨by omega, e12⟩
        · split at e12
          · omega
          · left; exact ⟨by omega, e12⟩
      have hp1 : v1.toInt = (v1.toInt.toNat : Int) := by omega
      have hv11 : (v1 - 1).toInt = v1.toInt - 1 := i_sub rfl z_1 (by omega) (by omega)
      generalize v1.toInt.toNat = p at *
      have fin : ∀ (g : Nat) (F L G W : Nat → Int32) (TP U : Nat → Int64) (V' : Nat → Int) (v3 : Int32), v3.toInt = (g : Int) → g < p → MR F L G V' → Off (1340 :: 1348 :: 1349 :: (CHL ++ SCR)) V V' → gfst (evn (hitN k l f T d) (basN k l f T d) p (decide (0 < r12.toInt))) (p - 1) 0 = g → E_Mo_given_105 vv mk mg F L G W TP U r12 v3 Q := by
        intro g F L G W TP U V' v3 h3 hgp hR' hO hg
        refine R_Mo_given_105 ⟨fun z => R_Mo_given_113 (R_Mo_given_116 (hq _ _ _ _ _ _ _ V' ?_ hR' hO)), fun z => R_Mo_given_116 (hq _ _ _ _ _ _ _ V' ?_ hR' hO)⟩
        · rw [i_le, z_0] at z
          rcases side with ⟨s1, s2⟩ | ⟨s1, s2⟩
          · omega
          · rw [s2, show decide (0 < (-1 : Int)) = false by decide] at hg
            rw [if_neg s1, hg, i_sub z_0 h3 (by omega) (by omega)]
            omega
        · rw [i_le, z_0] at z
          rcases side with ⟨s1, s2⟩ | ⟨s1, s2⟩
          · rw [s2, show decide (0 < (1 : Int)) = true by decide] at hg
            rw [if_pos s1, hg, h3]
          · omega
      have loop : ∀ (u g : Nat) (F L G W : Nat → Int32) (TP U : Nat → Int64) (V' : Nat → Int) (v3 : Int32), g + u = p - 1 → v3.toInt = (g : Int) → MR F L G V' → Off (1340 :: 1348 :: 1349 :: (CHL ++ SCR)) V V' → V' 1348 = (hitN k l f T d : Int) → V' 1349 = (basN k l f T d : Int) → gfst (evn (hitN k l f T d) (basN k l f T d) p (decide (0 < r12.toInt))) (p - 1) 0 = gfst (evn (hitN k l f T d) (basN k l f T d) p (decide (0 < r12.toInt))) u g → E_Mo_given_63 vv mk mg F L G W TP U v1 r12 v3 Q := by
        intro u
        induction u with
        | zero =>
          intro g F L G W TP U V' v3 hu h3 hR' hO hp' hq' hg
          exact R_Mo_given_63 ⟨fun _ => fin g F L G W TP U V' v3 h3 (by omega) hR' hO hg, fun z => absurd (by rw [i_le]; omega) z⟩
        | succ u ih =>
          intro g F L G W TP U V' v3 hu h3 hR' hO hp' hq' hg
          have hsub := i_subN hp1 h3 (by omega)
          have stop : ∀ (F L G W : Nat → Int32) (TP U : Nat → Int64) (V'' : Nat → Int), MR F L G V'' → Off (1340 :: CHL) V' V'' → evn (hitN k l f T d) (basN k l f T d) p (decide (0 < r12.toInt)) g = true → E_Mo_given_105 vv mk mg F L G W TP U r12 v3 Q := fun F L G W TP U V'' hR'' hO'' ht => fin g F L G W TP U V'' v3 h3 (by omega) hR'' (hO.trans (hO''.mono (by simp))) (by
            rw [hg]
            simp only [gfst]
            rw [if_pos ht])
          have go : ∀ (F L G W : Nat → Int32) (TP U : Nat → Int64) (V'' : Nat → Int), MR F L G V'' → Off (1340 :: CHL) V' V'' → evn (hitN k l f T d) (basN k l f T d) p (decide (0 < r12.toInt)) g = false → E_Mo_given_99 vv mk mg F L G W TP U v1 r12 v3 Q := fun F L G W TP U V'' hR'' hO'' ht => R_Mo_given_99 fun x27 e27 => ih (g + 1) F L G W TP U V'' x27 (by omega) (by rw [e27]; exact i_suc h3 (by omega)) hR'' (hO.trans (hO''.mono (by simp))) (by rw [hO'' _ (by simp)]; exact hp') (by rw [hO'' _ (by simp)]; exact hq') (by
            rw [hg]
            simp only [gfst]
            rw [ht]
            rfl)
          refine R_Mo_given_63 ⟨fun z => absurd z (by rw [i_le]; omega), fun _ => ⟨fun z => R_Mo_given_88 ?_, fun z => ?_⟩⟩
          · rw [i_le, z_0] at z
            have s2 : r12.toInt = -1 := by
              rcases side with ⟨s1, s2⟩ | ⟨s1, s2⟩
              · omega
              · exact s2
            rw [s2, show decide (0 < (-1 : Int)) = false by decide] at stop go
            refine S_Mo_heldByHalf hR' hsub (by omega) hp1 (by omega) hp' hq' hbd fun r20 F3 L3 G3 W3 T3 U3 V3 e20 hR3 hO3 => ?_
            unfold cmpI at e20
            unfold evn at stop go
            rw [i_le, z_0, e20]
            refine ⟨fun y2 => stop _ _ _ _ _ _ V3 hR3 hO3 (decide_eq_true ?_), fun y2 => go _ _ _ _ _ _ V3 hR3 hO3 (decide_eq_false ?_)⟩
            · split at y2
              · omega
              · omega
            · split at y2
              · omega
              · split at y2 <;> omega
          · rw [i_le, z_0] at z
            have s2 : r12.toInt = 1 := by
              rcases side with ⟨s1, s2⟩ | ⟨s1, s2⟩
              · exact s2
              · omega
            rw [s2, show decide (0 < (1 : Int)) = true by decide] at stop go
            refine S_Mo_heldByHalf hR' hp1 (by omega) hsub (by omega) hp' hq' hbd fun r13 F3 L3 G3 W3 T3 U3 V3 e20 hR3 hO3 => ?_
            unfold cmpI at e20
            unfold evn at stop go
            rw [i_le, z_0, e20]
            refine ⟨fun y2 => stop _ _ _ _ _ _ V3 hR3 hO3 (decide_eq_true ?_), fun y2 => go _ _ _ _ _ _ V3 hR3 hO3 (decide_eq_false ?_)⟩
            · split at y2
              · omega
              · split at y2 <;> omega
            · split at y2
              · omega
              · split at y2 <;> omega
      exact loop (p - 1) 0 _ _ _ _ _ _ V2 0 (by omega) i_0 hR2 hO2 p2 q2 rfl
    · rw [i_eq, z_0] at y
      have : 2 * hitN k l f T d = basN k l f T d := by
        rw [y] at e12
        split at e12
        · omega
        · split at e12 <;> omega
      rw [if_pos this, z_0]
  · rw [bz h1] at e
    rw [i_lit2 g1.2.1] at e2
    rw [if_pos (Classical.not_not.mp e), if_pos e2, z_m200]
  · rw [bz h1] at e
    rw [if_neg e, z_m100]
end MATM2
