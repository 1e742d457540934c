/-! games: what the public calls answer -/
theorem bz {r : Int32} {P : Prop} (h : (r = 1 ∧ P) ∨ (r = 0 ∧ ¬ P)) : (r = 0 ↔ ¬ P) := by
  rcases h with h | h
  · exact ⟨fun e => absurd (h.1.symm.trans e) (by decide), fun e => absurd h.2 e⟩
  · exact ⟨fun _ => h.2, fun _ => h.1⟩
theorem S_F_either {v : Int32} {Q : Int32 → Prop} (hq : ∀ r : Int32, (r = 1 ∧ (v.toInt = 0 ∨ v.toInt = 1)) ∨ (r = 0 ∧ ¬ (v.toInt = 0 ∨ v.toInt = 1)) → Q r) : P_F_isEither v Q := S_F_isEither fun r h => hq r (by
  rcases h with h | h
  · exact Or.inl h
  · exact Or.inr ⟨h.1, by omega⟩)
theorem z_m100 : (-100 : Int32).toInt = -100 := by decide
section MIX
variable {vv vv' vv2 vv3 : Nat → Value} {k l f m : Nat} {rk rl rf rm rtc rwc : Int32} {rth rca : Nat → Int32} {vvr : Nat → Value} {T : Nat → Nat → Int} {d : Int} {ins : Nat → Nat} {n : Nat} {fl ll gl wk gin : Nat → Int32} {tp un : Nat → Int64} {V : Nat → Int}
/-- a WAY -/
abbrev isW (k l f : Nat) (v : Int) : Prop := 0 ≤ v ∧ v < (gw k l f : Int)
theorem S_Rule_hasWay {v : Int32} {Q : Int32 → Prop} (h : CR k l f m rk rl rf rm rtc rwc rth rca) (hq : ∀ r : Int32, (r = 1 ∧ isW k l f v.toInt) ∨ (r = 0 ∧ ¬ isW k l f v.toInt) → Q r) : P_Rule_hasWay vv rwc v Q := by
  have hw := gw_le h.1
  refine T_Rule_hasWay (R_Rule_hasWay_0 (S_F_isWithin fun r2 h2 => ?_))
  rw [z_0, i_sub h.wc z_1 (by omega) (by omega)] at h2
  refine ⟨?_, hq r2 ?_⟩
  · rcases h2 with h2 | h2
    · exact Or.inr h2.1
    · exact Or.inl h2.1
  · rcases h2 with h2 | h2
    · exact Or.inl ⟨h2.1, by omega⟩
    · exact Or.inr ⟨h2.1, by omega⟩
theorem S_Mo_noWay {ways v : Int32} {w : Nat} {Q : Int32 → Prop} (hw : ways.toInt = (w : Int)) (hw25 : 2 ≤ w ∧ w ≤ 25) (hq : ∀ r : Int32, (r = 1 ∧ ¬ (0 ≤ v.toInt ∧ v.toInt < (w : Int))) ∨ (r = 0 ∧ (0 ≤ v.toInt ∧ v.toInt < (w : Int))) → Q r) : P_Mo_noWay vv ways v Q := by
  refine T_Mo_noWay (R_Mo_noWay_0 (S_Mo_in32 zL0 (i_wide (i_sub hw z_1 (by omega) (by omega))) fun r1 h1 => ⟨fun e => R_Mo_noWay_20 (R_Mo_noWay_21 ⟨rb0, hq _ (Or.inr ⟨rfl, ?_⟩)⟩), fun e => R_Mo_noWay_21 ⟨rb1, hq _ (Or.inl ⟨rfl, ?_⟩)⟩⟩))
  · rw [bz h1] at e; omega
  · rw [bz h1] at e; omega
def wayZ (k l f : Nat) (a b : Int) : Int := if isW k l f a ∧ (b = 0 ∨ b = 1) then (if b = 0 then (thr k l f a.toNat : Int) else if k = 0 then -1 else ((thr k l f a.toNat + l + a.toNat % gn l f : Nat) : Int)) else -100
theorem S_F_way {v1 v2 : Int32} {Q : Int32 → Prop} (h : CR k l f m rk rl rf rm rtc rwc rth rca) (hq : ∀ r : Int32, r.toInt = wayZ k l f v1.toInt v2.toInt → Q r) : P_F_way vv vv' rwc rth rca v1 v2 Q := by
  unfold wayZ at hq
  have bad : ¬ (isW k l f v1.toInt ∧ (v2.toInt = 0 ∨ v2.toInt = 1)) → E_F_way_18 vv vv' rwc rth rca Q := fun e => R_F_way_18 (hq _ (by rw [if_neg e]; exact z_m100))
  refine T_F_way (R_F_way_0 (S_Rule_hasWay h fun r1 h1 => ⟨fun e => bad fun z => ?_, fun e => S_F_either fun r2 h2 => ⟨fun e2 => R_F_way_21 ?_, fun e2 => bad fun z => ?_⟩⟩))
  · rw [bz h1] at e; exact e z.1
  · rw [bz h1] at e
    rw [bz h2] at e2
    have e' : isW k l f v1.toInt := Classical.not_not.mp e
    have e2' := Classical.not_not.mp e2
    rw [if_pos ⟨e', e2'⟩] at hq
    have hi : v1.toInt = (v1.toInt.toNat : Int) := by omega
    have hi' : v1.toInt.toNat < gw k l f := by omega
    refine ⟨fun e3 => R_F_way_36 (S_Rule_callOf h hi hi' fun r4 e4 => R_F_way_44 (hq _ ?_)), fun e3 => S_Rule_throwOf h hi hi' fun r3 e4 => R_F_way_44 (hq _ ?_)⟩
    · rw [i_eq, z_0] at e3
      rw [if_neg e3, e4]
    · rw [i_eq, z_0] at e3
      rw [if_pos e3, e4]
  · rw [bz h2] at e2; exact e2 z.2
theorem S_Mo_way {mk ml mm mn mw v1 v2 : Int32} {Q : Int32 → Prop} (h : MRu k l f m mk ml mm mn) (hw : mw.toInt = (gw k l f : Int)) (hq : ∀ r : Int32, r.toInt = wayZ k l f v1.toInt v2.toInt → Q r) : P_Mo_way vv mk ml mn mw v1 v2 Q := by
  unfold wayZ at hq
  have hw25 := gw_le h.1
  have bad : ¬ (isW k l f v1.toInt ∧ (v2.toInt = 0 ∨ v2.toInt = 1)) → E_Mo_way_18 vv mk ml mn mw Q := fun e => R_Mo_way_18 (hq _ (by rw [if_neg e]; exact z_m100))
  refine T_Mo_way (R_Mo_way_0 (S_Mo_noWay hw hw25 fun r1 h1 => ⟨fun e => bad fun z => ?_, fun e => S_Mo_in32 zL0 zL1 fun r2 h2 => R_Mo_way_15 ⟨fun e2 => R_Mo_way_21 ?_, fun e2 => bad fun z => ?_⟩⟩))
  · rcases h1 with h1 | h1
    · exact h1.2 z.1
    · exact e h1.1
  · have e' : isW k l f v1.toInt := by
      rcases h1 with h1 | h1
      · exact absurd (h1.1.symm.trans e) (by decide)
      · exact h1.2
    rw [bz h2] at e2
    have e2' : v2.toInt = 0 ∨ v2.toInt = 1 := by omega
    rw [if_pos ⟨e', e2'⟩] at hq
    have hi : v1.toInt = (v1.toInt.toNat : Int) := by omega
    have hi' : v1.toInt.toNat < gw k l f := by omega
    refine ⟨fun e3 => R_Mo_way_33 (S_Mo_callOf h hi hi' fun r4 e4 => R_Mo_way_38 (hq _ ?_)), fun e3 => S_Mo_throwOf h hi hi' fun r3 e4 => R_Mo_way_38 (hq _ ?_)⟩
    · rw [i_eq, z_0] at e3
      rw [if_neg e3, e4]
    · rw [i_eq, z_0] at e3
      rw [if_pos e3, e4]
  · rw [bz h2] at e2
    omega
def payZ (k l f m : Nat) (a b : Int) : Int := if isW k l f a ∧ isW k l f b then payI k l f m a.toNat b.toNat else -100
theorem isW.nat {v : Int} (h : isW k l f v) : v = (v.toNat : Int) ∧ v.toNat < gw k l f := by
  omega
theorem S_F_pay {v1 v2 : Int32} {Q : Int32 → Prop} (h : CR k l f m rk rl rf rm rtc rwc rth rca) (hq : ∀ r : Int32, r.toInt = payZ k l f m v1.toInt v2.toInt → Q r) : P_F_pay vv vvr rk rm rwc rth rca v1 v2 Q := by
  unfold payZ at hq
  have bad : ¬ (isW k l f v1.toInt ∧ isW k l f v2.toInt) → E_F_pay_22 vv vvr rk rm rwc rth rca Q := fun e => R_F_pay_22 (hq _ (by rw [if_neg e]; exact z_m100))
  refine T_F_pay (R_F_pay_0 (S_Rule_hasWay h fun r1 h1 => ⟨fun e => bad fun z => ?_, fun e => S_Rule_hasWay h fun r2 h2 => ⟨fun e2 => R_F_pay_25 ?_, fun e2 => bad fun z => ?_⟩⟩))
  · rw [bz h1] at e; exact e z.1
  · rw [bz h1] at e
    rw [bz h2] at e2
    have e' := Classical.not_not.mp e
    have e2' := Classical.not_not.mp e2
    rw [if_pos ⟨e', e2'⟩] at hq
    exact S_Rule_payOf h e'.nat.1 e'.nat.2 e2'.nat.1 e2'.nat.2 fun r3 e3 => hq _ e3
  · rw [bz h2] at e2; exact e2 z.2
theorem S_Mo_pay {mk ml mm mn mw v1 v2 : Int32} {Q : Int32 → Prop} (h : MRu k l f m mk ml mm mn) (hw : mw.toInt = (gw k l f : Int)) (hq : ∀ r : Int32, r.toInt = payZ k l f m v1.toInt v2.toInt → Q r) : P_Mo_pay vv mk ml mm mn mw v1 v2 Q := by
  unfold payZ at hq
  have hw25 := gw_le h.1
  have bad : ¬ (isW k l f v1.toInt ∧ isW k l f v2.toInt) → E_Mo_pay_16 vv mk ml mm mn mw Q := fun e => R_Mo_pay_16 (R_Mo_pay_27 (hq _ (by rw [if_neg e]; exact z_m100)))
  refine T_Mo_pay (R_Mo_pay_0 (S_Mo_noWay hw hw25 fun r1 h1 => ⟨fun e => bad fun z => ?_, fun e => S_Mo_noWay hw hw25 fun r2 h2 => R_Mo_pay_13 ⟨fun e2 => R_Mo_pay_21 ?_, fun e2 => bad fun z => ?_⟩⟩))
  · rcases h1 with h1 | h1
    · exact h1.2 z.1
    · exact e h1.1
  · have e' : isW k l f v1.toInt := by
      rcases h1 with h1 | h1
      · exact absurd (h1.1.symm.trans e) (by decide)
      · exact h1.2
    have e2' : isW k l f v2.toInt := by
      rcases h2 with h1 | h1
      · exact absurd (h1.1.symm.trans e2) (by decide)
      · exact h1.2
    rw [if_pos ⟨e', e2'⟩] at hq
    exact S_Mo_payOf h e'.nat.1 e'.nat.2 e2'.nat.1 e2'.nat.2 fun r3 e3 => R_Mo_pay_27 (hq _ e3)
  · rcases h2 with h1 | h1
    · exact h1.2 z.2
    · exact e2 h1.1
/-! the game's numbers -/
/-- Z -/
def zN (k l f : Nat) (T : Nat → Nat → Int) : Nat := (T (gw k l f) (2 * gw k l f)).toNat
theorem zN_eq (hG : GameOf k l f m T d ins n) (hr : RuleOK k l f m) : T (gw k l f) (2 * gw k l f) = (zN k l f T : Int) ∧ 0 < zN k l f T ∧ zN k l f T ≤ 2097151 := by
  have := hG.fct hr
  have h1 := this.1
  have h2 := this.2.1
  unfold zN
  omega
theorem S_Mo_valueTimes {mg v1 : Int32} {t : Nat} {Q : (Nat → Int32) → (Nat → Int32) → (Nat → Int32) → (Nat → Int32) → Prop} (hr : RuleOK k l f m) (hG : GameOf k l f m T d ins n) (hg : mg.toInt = (bnd k f : Int)) (hD : V 1343 = d) (hZ : V 1358 = T (gw k l f) (2 * gw k l f)) (hR : MR fl ll gl V) (h1 : v1.toInt = (t : Int)) (ht : t < 1370) (ht' : t ≠ 1343) (hq : ∀ fl' ll' gl' wk' V', MR fl' ll' gl' V' → V' t = d - bnd k f * T (gw k l f) (2 * gw k l f) → Off [t, 1370] V V' → Q fl' ll' gl' wk') : P_Mo_valueTimes vv mg fl ll gl wk v1 Q := by
  have hb : bnd k f ≤ 9 := by
    have h0 := hr
    unfold RuleOK at h0
    unfold bnd
    split <;> omega
  have hbd := hG.bd
  have hz := zN_eq hG hr
  have hzb : -67108864 < T (gw k l f) (2 * gw k l f) ∧ T (gw k l f) (2 * gw k l f) < 67108864 := by omega
  generalize T (gw k l f) (2 * gw k l f) = z at *
  have mb := mul_bd (a := z) (b := (bnd k f : Int)) hzb (by omega)
  refine T_Mo_valueTimes (R_Mo_valueTimes_0 (S_Mo_timesSmall 1 1 hR c1358 (by omega) (i_wide hg) (by omega) h1 (by omega) (by rw [hZ]; exact pow1 hzb) (pow1 (by omega)) (by omega) fun F1 L1 G1 W1 hR1 => ?_))
  rw [hZ] at hR1
  have w1 : up (up V 1370 (bnd k f : Int)) t (z * (bnd k f : Int)) 1343 = d := by rw [up_ne (Ne.symm ht'), up_ne (by omega), hD]
  have w2 : up (up V 1370 (bnd k f : Int)) t (z * (bnd k f : Int)) t = z * (bnd k f : Int) := up_same ..
  refine S_Mo_less hR1 c1343 (by omega) h1 (by omega) h1 (by omega) (by rw [w1]; exact powB (pow2 (by omega) (by omega)) (by omega)) (by rw [w2]; exact powB (pow2 (by omega) (by omega)) (by omega)) fun F2 L2 G2 hR2 => hq _ _ _ _ _ hR2 ?_ ?_
  · rw [up_same, w1, w2, Int.mul_comm]
  · exact (((Off.refl [t, 1370] V).up _ (by simp)).up _ (by simp)).up _ (by simp)
theorem S_Mo_mixTimes {mw v1 v2 v3 : Int32} {p i t : Nat} {Q : (Nat → Int32) → (Nat → Int32) → (Nat → Int32) → Prop} (hr : RuleOK k l f m) (hw : mw.toInt = (gw k l f : Int)) (hI : IR gin ins (gw k l f)) (hM : GM V T (gw k l f)) (hR : MR fl ll gl V) (h1 : v1.toInt = (p : Int)) (h2 : v2.toInt = (i : Int)) (hi : i < gw k l f) (h3 : v3.toInt = (t : Int)) (ht : t < 1371) (ht' : 1326 ≤ t) (hq : ∀ fl' ll' gl', MR fl' ll' gl' (up V t (shr T ins (gw k l f) p i)) → Q fl' ll' gl') : P_Mo_mixTimes vv mw fl ll gl gin v1 v2 v3 Q := by
  have hw25 := gw_le hr
  unfold shr at hq
  refine T_Mo_mixTimes (R_Mo_mixTimes_0 ⟨fun e => R_Mo_mixTimes_24 (S_Mo_set hR h3 ht zL0 (by omega) fun F1 L1 G1 hR1 => ?_), fun e => S_Mo_cellAt hw (i_addN hw h2 (by omega)) (by omega) (by omega) fun r1 e1 => S_Mo_copy hR e1 (by omega) h3 ht fun F L G hR1 => hq _ _ _ ?_⟩)
  · rw [i_lit0 h1] at e
    rw [if_neg e] at hq
    have loop : ∀ (u r : Nat) (F L G : Nat → Int32) (v4 : Int32), r + u = gw k l f → v4.toInt = (r : Int) → MR F L G (up V t (secZ T ins (gw k l f) i r)) → E_Mo_mixTimes_33 vv mw F L G gin v2 v3 v4 Q := by
      intro u
      induction u with
      | zero =>
        intro r F L G v4 hu h4 hR'
        have : r = gw k l f := by omega
        subst this
        exact R_Mo_mixTimes_33 ⟨fun _ => R_Mo_mixTimes_74 (hq _ _ _ hR'), fun y => absurd (by rw [i_le]; omega) y⟩
      | succ u ih =>
        intro r F L G v4 hu h4 hR'
        have hir := hI r (by omega)
        refine R_Mo_mixTimes_33 ⟨fun y => absurd y (by rw [i_le]; omega), fun _ => ⟨i_in h4 (by omega), fun y => R_Mo_mixTimes_68 fun x10 e10 => ?_, fun y => ?_⟩⟩
        · rw [i_nat h4, i_eq, hir, h2] at y
          refine ih (r + 1) F L G x10 (by omega) (by rw [e10]; exact i_suc h4 (by omega)) ?_
          simp only [secZ]
          rw [if_neg (by omega)]
          exact hR'
        · rw [i_nat h4, i_eq, hir, h2] at y
          refine S_Mo_end hw hw25.2 fun r8 e8 => S_Mo_cellAt h4 e8 (by omega) (by omega) fun r9 e9 => R_Mo_mixTimes_64 (S_Mo_copy hR' e9 (by omega) h3 ht fun F2 L2 G2 hR2 => R_Mo_mixTimes_68 fun x10 e10 => ?_)
          rw [up_up, up_ne (f := V) (by omega), hM r _ (by omega) (by omega)] at hR2
          refine ih (r + 1) F2 L2 G2 x10 (by omega) (by rw [e10]; exact i_suc h4 (by omega)) ?_
          simp only [secZ]
          rw [if_pos (by omega)]
          exact hR2
    exact loop (gw k l f) 0 F1 L1 G1 0 (by omega) i_0 hR1
  · rw [i_lit0 h1] at e
    rw [if_pos e, ← hM _ _ (by omega) (by omega)]
    exact hR1
theorem GM.off {V V' : Nat → Int} {w : Nat} {L : List Nat} (h : GM V T w) (hO : Off L V V') (hw : w ≤ 25) (hL : ∀ s, s ∈ L → 1326 ≤ s) : GM V' T w := fun r j hr hj => by
  rw [hO _ (fun z => absurd (hL _ z) (by omega))]
  exact h r j hr hj
theorem S_Mo_bringsTimes {mk ml mm mn mw v1 v2 v3 : Int32} {p i t : Nat} {Q : (Nat → Int32) → (Nat → Int32) → (Nat → Int32) → (Nat → Int32) → Prop} (h : MRu k l f m mk ml mm mn) (hG : GameOf k l f m T d ins n) (hw : mw.toInt = (gw k l f : Int)) (hI : IR gin ins (gw k l f)) (hM : GM V T (gw k l f)) (hR : MR fl ll gl V) (h1 : v1.toInt = (p : Int)) (h2 : v2.toInt = (i : Int)) (hi : i < gw k l f) (h3 : v3.toInt = (t : Int)) (ht : t < 1370) (ht' : 1326 ≤ t) (ht2 : t ≠ 1361) (hq : ∀ fl' ll' gl' wk' V', MR fl' ll' gl' V' → V' t = erng k l f m T ins p i → Off [t, 1361, 1370] V V' → Q fl' ll' gl' wk') : P_Mo_bringsTimes vv mk ml mm mn mw fl ll gl wk gin v1 v2 v3 Q := by
  have hw25 := gw_le h.1
  have hB := hG.bd.1
  unfold erng at hq
  have loop : ∀ (u q : Nat) (F L G WK : Nat → Int32) (V' : Nat → Int) (v4 : Int32), q + u = gw k l f → v4.toInt = (q : Int) → MR F L G V' → Off [t, 1361, 1370] V V' → V' t = sumZ (fun q => shr T ins (gw k l f) p q * (if p = 0 then payI k l f m q i else payI k l f m i q)) q → -(536870912 * (q : Int)) ≤ V' t → V' t ≤ 536870912 * (q : Int) → E_Mo_bringsTimes_9 vv mk ml mm mn mw F L G WK gin v1 v2 v3 v4 Q := by
    intro u
    induction u with
    | zero =>
      intro q F L G WK V' v4 hu h4 hR' hO hv _ _
      have : q = gw k l f := by omega
      subst this
      exact R_Mo_bringsTimes_9 ⟨fun _ => R_Mo_bringsTimes_76 (hq _ _ _ _ V' hR' hv hO), fun y => absurd (by rw [i_le]; omega) y⟩
    | succ u ih =>
      intro q F L G WK V' v4 hu h4 hR' hO hv hlo hhi
      have hM' : GM V' T (gw k l f) := hM.off hO hw25.2 (by simp; omega)
      have hp : -8 ≤ (if p = 0 then payI k l f m q i else payI k l f m i q) ∧ (if p = 0 then payI k l f m q i else payI k l f m i q) ≤ 8 := by
        split
        · exact pay_bd h.1 (by omega) hi
        · exact pay_bd h.1 hi (by omega)
      have hsb := shr_bd (ins := ins) (p := p) (i := q) hB (by omega)
      refine R_Mo_bringsTimes_9 ⟨fun y => absurd y (by rw [i_le]; omega), fun _ => S_Mo_mixTimes h.1 hw hI hM' hR' h1 h4 (by omega) c1361 (by omega) (by omega) fun F1 L1 G1 hR1 => ?_⟩
      have go : ∀ s2 : Int64, s2.toInt = (if p = 0 then payI k l f m q i else payI k l f m i q) → E_Mo_bringsTimes_55 vv mk ml mm mn mw F1 L1 G1 WK gin v1 v2 v3 v4 1361 s2 Q := by
        intro s2 hs2
        have hm := small_mul hsb hp
        generalize hy : (if p = 0 then payI k l f m q i else payI k l f m i q) = y at *
        refine R_Mo_bringsTimes_55 (S_Mo_timesSmall 1 1 hR1 c1361 (by omega) hs2 (by omega) c1361 (by omega) (by rw [up_same]; exact pow1 hsb) (pow1 (by omega)) (by omega) fun F2 L2 G2 W2 hR2 => ?_)
        rw [up_same] at hR2
        have w1 : up (up (up V' 1361 (shr T ins (gw k l f) p q)) 1370 y) 1361 (shr T ins (gw k l f) p q * y) t = V' t := by rw [up_ne (by omega), up_ne (by omega), up_ne (by omega)]
        have w2 : up (up (up V' 1361 (shr T ins (gw k l f) p q)) 1370 y) 1361 (shr T ins (gw k l f) p q * y) 1361 = shr T ins (gw k l f) p q * y := up_same ..
        refine S_Mo_add hR2 h3 (by omega) c1361 (by omega) h3 (by omega) (by rw [w1]; exact powB (pow2 (by omega) (by omega)) (by omega)) (by rw [w2]; exact powB (pow2 (by omega) (by omega)) (by omega)) fun F3 L3 G3 hR3 => R_Mo_bringsTimes_70 fun x16 e16 => ?_
        rw [w1, w2] at hR3
        refine ih (q + 1) F3 L3 G3 W2 _ x16 (by omega) (by rw [e16]; exact i_suc h4 (by omega)) hR3 ((((hO.up _ (by simp)).up _ (by simp)).up _ (by simp)).up _ (by simp)) ?_ ?_ ?_
        · rw [up_same, hv]
          show _ = sumZ _ q + shr T ins (gw k l f) p q * (if p = 0 then payI k l f m q i else payI k l f m i q)
          rw [hy]
        · rw [up_same]; omega
        · rw [up_same]; omega
      refine ⟨fun e => R_Mo_bringsTimes_47 (S_Mo_payOf h h2 hi h4 (by omega) fun r8 e8 => go _ ?_), fun e => S_Mo_payOf h h4 (by omega) h2 hi fun r7 e7 => R_Mo_bringsTimes_43 (go _ ?_)⟩
      · rw [i_lit0 h1] at e
        rw [if_neg e]
        exact i_wide e8
      · rw [i_lit0 h1] at e
        rw [if_pos e]
        exact i_wide e7
  refine T_Mo_bringsTimes (R_Mo_bringsTimes_0 (S_Mo_set hR h3 (by omega) zL0 (by omega) fun F1 L1 G1 hR1 => ?_))
  exact loop (gw k l f) 0 F1 L1 G1 wk _ 0 (by omega) i_0 hR1 ((Off.refl _ V).up _ (by simp)) (up_same ..) (by rw [up_same]; omega) (by rw [up_same]; omega)
end MIX
