/-! AN ANSWER in the reference: the search -/
section REPA
variable {vv : Nat → Value} {k l f m : Nat} {T : Nat → Nat → Int} {d : Int} {ins : Nat → Nat} {n : Nat} {mk ml mm mn mw mg each all : Int32} {fl ll gl wk gin counts : Nat → Int32} {tp un mean : Nat → Int64} {V : Nat → Int}
theorem pow3 {z : Int} {n : Nat} (h1 : -1237940039285380274899124224 < z) (h2 : z < 1237940039285380274899124224) (hn : 3 ≤ n) : z.natAbs < BB ^ n := powN (x := z.natAbs) (z := (z.natAbs : Int)) rfl (by omega) hn
/-- the reference holds the best so far -/
def RpM (ga : Nat → Int) (ob : Option (Nat × Int × Int)) (v2 : Int32) (V : Nat → Int) : Prop := match ob with
  | none => v2.toInt = -1
  | some (b, t, lw) => v2.toInt = (b : Int) ∧ V 1350 = V 1353 * ga b ∧ V 1351 = V 1354 ∧ (0 ≤ V 1353 ∧ V 1353 ≤ 52428775000) ∧ (0 < V 1354 ∧ V 1354 ≤ 33554416000) ∧ V 1353 * (1000 * lw) = t * V 1354 ∧ 0 < lw ∧ 0 < ga b ∧ ga b ≤ 40331318400000
def ANL : List Nat := 1350 :: 1351 :: 1353 :: 1354 :: 1355 :: 1356 :: 1357 :: SHL
theorem ANL_hi : ∀ s, s ∈ ANL → 1326 ≤ s := by decide
theorem cross {N D t lw N' D' t' lw' g g' : Int} (h : N * (1000 * lw) = t * D) (h' : N' * (1000 * lw') = t' * D') (hl : 0 < lw) (hl' : 0 < lw') (hD : 0 < D) (hD' : 0 < D') : N * g * D' < N' * g' * D ↔ t * lw' * g < t' * lw * g' := by
  have k1 : (N * g * D' < N' * g' * D) ↔ (N * g * D' * (1000 * lw * (1000 * lw')) < N' * g' * D * (1000 * lw * (1000 * lw'))) := (Int.mul_lt_mul_right (Int.mul_pos (by omega) (by omega))).symm
  have k2 : (t * lw' * g < t' * lw * g') ↔ (t * lw' * g * (1000 * (D * D')) < t' * lw * g' * (1000 * (D * D'))) := (Int.mul_lt_mul_right (Int.mul_pos (by omega) (Int.mul_pos hD hD'))).symm
  have e1 : N * g * D' * (1000 * lw * (1000 * lw')) = t * lw' * g * (1000 * (D * D')) := by
    have : N * g * D' * (1000 * lw * (1000 * lw')) = (N * (1000 * lw)) * (g * D' * (1000 * lw')) := by ac_rfl
    rw [this, h]
    ac_rfl
  have e2 : N' * g' * D * (1000 * lw * (1000 * lw')) = t' * lw * g' * (1000 * (D * D')) := by
    have : N' * g' * D * (1000 * lw * (1000 * lw')) = (N' * (1000 * lw')) * (g' * D * (1000 * lw)) := by ac_rfl
    rw [this, h']
    ac_rfl
  rw [k1, k2, e1, e2]
theorem S_Mo_findAnswer {v1 : Int32} {e : Int} {cf : Nat → Nat} {Q : Int32 → Int32 → Int32 → (Nat → Int32) → (Nat → Int32) → (Nat → Int32) → (Nat → Int32) → (Nat → Int64) → (Nat → Int64) → (Nat → Int64) → Prop} (h : MRu k l f m mk ml mm mn) (hG : GameOf k l f m T d ins n) (hw : mw.toInt = (gw k l f : Int)) (hg : mg.toInt = (bnd k f : Int)) (hI : IR gin ins (gw k l f)) (hM : GM V T (gw k l f)) (hD : V 1343 = d) (hZ : V 1358 = T (gw k l f) (2 * gw k l f)) (hR : MR fl ll gl V) (hC : ∀ x, x < gn l f → (counts x).toInt = (cf x : Int)) (hcf : ∀ x, cf x ≤ 120) (h1 : v1.toInt = e) (he : 0 ≤ e ∧ e ≤ 9000) (hq : ∀ (r each' all' : Int32) fl' ll' gl' wk' tp' un' (mean' : Nat → Int64) V', all'.toInt = alR k l f cf → MR fl' ll' gl' V' → Off ANL V V' → V' 1356 = mmR k l f m T ins cf → (∀ i, i < gw k l f → (mean' i).toInt = meR k l f m cf i) → RpM (gaR k l f m T ins cf) (bsI (gaR k l f m T ins cf) (stR k l f m T d ins e) (gw k l f)) r V' → Q r each' all' fl' ll' gl' wk' tp' un' mean') : P_Mo_findAnswer vv mk ml mm mn mw mg each all fl ll gl wk tp un gin counts mean v1 Q := by
  have hr := h.1
  have hw25 := gw_le hr
  obtain ⟨f1, f2, f3, f4, _⟩ := hG.fct hr
  refine T_Mo_findAnswer (R_Mo_findAnswer_0 (S_Mo_findMeans h hG hw hI hM hR hC hcf fun each' all' F0 L0 G0 W0 mean' V0 hal hR0 hO0 hmm0 hme => ?_))
  have loop : ∀ (w i : Nat) (F L G WK : Nat → Int32) (TP UN : Nat → Int64) (V' : Nat → Int) (v2 v3 : Int32), i + w = gw k l f → v3.toInt = (i : Int) → MR F L G V' → Off ANL V V' → V' 1356 = mmR k l f m T ins cf → RpM (gaR k l f m T ins cf) (bsI (gaR k l f m T ins cf) (stR k l f m T d ins e) i) v2 V' → E_Mo_findAnswer_8 vv mk ml mm mn mw mg each' all' F L G WK TP UN gin counts mean' v1 v2 v3 Q := by
    intro w
    induction w with
    | zero =>
      intro i F L G WK TP UN V' v2 v3 hi h3 hR' hO hmm hS
      have : i = gw k l f := by omega
      subst this
      exact R_Mo_findAnswer_8 ⟨fun _ => R_Mo_findAnswer_181 (hq v2 each' all' F L G WK TP UN mean' V' hal hR' hO hmm hme hS), fun z => absurd (by rw [i_le, hw, h3]; omega) z⟩
    | succ w ih =>
      intro i F L G WK TP UN V' v2 v3 hi h3 hR' hO hmm hS
      have gb := ga_bd hr hG hcf (show i < gw k l f by omega)
      have mb : -40265318400000 ≤ mmR k l f m T ins cf ∧ mmR k l f m T ins cf ≤ 40265318400000 := mm_bd hr hG hcf (Nat.le_refl (gw k l f))
      have meb : -24000 ≤ meR k l f m cf i ∧ meR k l f m cf i ≤ 24000 := me_bd hr hcf (show i < gw k l f by omega) (Nat.le_refl (gw k l f))
      have sb := stI_bd (er := erng k l f m T ins 0) (py := payI k l f m i) (z := T (gw k l f) (2 * gw k l f)) (va := vaZ k l f T d) f1 he f3 (n := gw k l f) (fun j hj => ⟨(f4 j hj).1, (f4 j hj).2, pay_bd hr (by omega) hj⟩)
      have sb2 : 0 < (stR k l f m T d ins e i).2 := sb.2.2.1
      have z0 : V' 1358 = T (gw k l f) (2 * gw k l f) := by rw [hO _ (by decide), hZ]
      have hge : gaR k l f m T ins cf i = meR k l f m cf i * T (gw k l f) (2 * gw k l f) - mmR k l f m T ins cf := rfl
      have next : ∀ (F L G WK : Nat → Int32) (TP UN : Nat → Int64) (V' : Nat → Int) (v2 : Int32), MR F L G V' → Off ANL V V' → V' 1356 = mmR k l f m T ins cf → RpM (gaR k l f m T ins cf) (bsI (gaR k l f m T ins cf) (stR k l f m T d ins e) (i + 1)) v2 V' → E_Mo_findAnswer_175 vv mk ml mm mn mw mg each' all' F L G WK TP UN gin counts mean' v1 v2 v3 Q := fun F L G WK TP UN V' v2 a b c d' => R_Mo_findAnswer_175 fun x25 e25 => ih (i + 1) F L G WK TP UN V' v2 x25 (by omega) (by rw [e25]; exact i_suc h3 (by omega)) a b c d'
      clear ih
      -- what the best holds lies in five slots
      have mv : ∀ V2 : Nat → Int, V2 1350 = V' 1350 → V2 1351 = V' 1351 → V2 1353 = V' 1353 → V2 1354 = V' 1354 → RpM (gaR k l f m T ins cf) (bsI (gaR k l f m T ins cf) (stR k l f m T d ins e) i) v2 V2 := by
        intro V2 a1 a2 a3 a4
        cases hb : bsI (gaR k l f m T ins cf) (stR k l f m T d ins e) i with
        | none =>
          rw [hb] at hS
          exact hS
        | some o =>
          obtain ⟨b, t, lw⟩ := o
          rw [hb] at hS
          unfold RpM at hS ⊢
          rw [a1, a2, a3, a4]
          exact hS
      refine R_Mo_findAnswer_8 ⟨fun z => absurd z (by rw [i_le, hw, h3]; omega), fun _ => ⟨i_in h3 (by omega), ?_⟩⟩
      rw [i_nat h3]
      refine S_Mo_timesSmall 1 1 hR' c1358 (by omega) (hme i (by omega)) (by omega) c1355 (by omega) (by rw [z0]; exact pow1 (by omega)) (pow1 (by omega)) (by omega) fun F1 L1 G1 W1 hR1 => ?_
      rw [z0, Int.mul_comm] at hR1
      have hmb := mulR_bd (a := meR k l f m cf i) (b := T (gw k l f) (2 * gw k l f)) (A := 24000) (B := 2097151) meb ⟨by omega, f2⟩ (by omega)
      have w1 : up (up V' 1370 (meR k l f m cf i)) 1355 (meR k l f m cf i * T (gw k l f) (2 * gw k l f)) 1355 = meR k l f m cf i * T (gw k l f) (2 * gw k l f) := up_same ..
      have w2 : up (up V' 1370 (meR k l f m cf i)) 1355 (meR k l f m cf i * T (gw k l f) (2 * gw k l f)) 1356 = mmR k l f m T ins cf := by rw [up_ne (by decide), up_ne (by decide), hmm]
      refine S_Mo_less hR1 c1355 (by omega) c1356 (by omega) c1355 (by omega) (by rw [w1]; exact powB (pow2 (by omega) (by omega)) (by omega)) (by rw [w2]; exact powB (pow2 (by omega) (by omega)) (by omega)) fun F2 L2 G2 hR2 => R_Mo_findAnswer_45 ⟨i_in c1355 (by omega), ?_⟩
      rw [w1, w2, ← hge] at hR2
      have hsg := hR2.sgn (s := 1355) (by omega)
      have g2 : up (up (up V' 1370 (meR k l f m cf i)) 1355 (meR k l f m cf i * T (gw k l f) (2 * gw k l f))) 1355 (gaR k l f m T ins cf i) 1355 = gaR k l f m T ins cf i := up_same ..
      rw [g2] at hsg
      have hO2 : Off ANL V (up (up (up V' 1370 (meR k l f m cf i)) 1355 (meR k l f m cf i * T (gw k l f) (2 * gw k l f))) 1355 (gaR k l f m T ins cf i)) := ((hO.up _ (by decide)).up _ (by decide)).up _ (by decide)
      have u2 : ∀ s, s ≠ 1370 → s ≠ 1355 → up (up (up V' 1370 (meR k l f m cf i)) 1355 (meR k l f m cf i * T (gw k l f) (2 * gw k l f))) 1355 (gaR k l f m T ins cf i) s = V' s := fun s a b => by rw [up_ne b, up_ne b, up_ne a]
      generalize up (up (up V' 1370 (meR k l f m cf i)) 1355 (meR k l f m cf i * T (gw k l f) (2 * gw k l f))) 1355 (gaR k l f m T ins cf i) = V2 at *
      rw [i_nat c1355, i_le, hsg, z_0]
      have hsc := sgn_cases (gaR k l f m T ins cf i)
      refine ⟨fun y => next F2 L2 G2 W1 TP UN V2 v2 hR2 hO2 (by rw [u2 _ (by decide) (by decide)]; exact hmm) ?_, fun y => ?_⟩
      · have hs' := mv V2 (u2 _ (by decide) (by decide)) (u2 _ (by decide) (by decide)) (u2 _ (by decide) (by decide)) (u2 _ (by decide) (by decide))
        have : bsI (gaR k l f m T ins cf) (stR k l f m T d ins e) (i + 1) = bsI (gaR k l f m T ins cf) (stR k l f m T d ins e) i := by
          simp only [bsI]
          split
          · rename_i q
            rw [if_neg (by omega), q]
          · rename_i b t lw q
            rw [if_neg (fun o => by omega), q]
        rw [this]
        exact hs'
      · have gpos : 0 < gaR k l f m T ins cf i := by omega
        have hM2 : GM V2 T (gw k l f) := hM.off hO2 hw25.2 ANL_hi
        refine S_Mo_findShare h hG hw hg hI hM2 (by rw [hO2 _ (by decide), hD]) (by rw [hO2 _ (by decide), hZ]) hR2 h3 (by omega) h1 he fun F3 L3 G3 W3 T3 U3 V3 hR3 hO3 n3 d3 q3 => ?_
        have hO3' : Off ANL V V3 := hO2.trans (hO3.mono (by decide))
        have g3 : V3 1355 = gaR k l f m T ins cf i := by rw [hO3 _ (by decide), g2]
        have pb := mulR_bd (a := V3 1363) (b := gaR k l f m T ins cf i) (A := 52428775000) (B := 40331318400000) ⟨by omega, n3.2⟩ gb (by omega)
        refine S_Mo_times 2 2 hR3 c1363 (by omega) c1355 (by omega) c1357 (by omega) (pow2 (by omega) (by omega)) (by rw [g3]; exact pow2 (by omega) (by omega)) (by omega) fun F4 L4 G4 W4 hR4 => R_Mo_findAnswer_75 ?_
        rw [g3] at hR4
        have u4 : ∀ s, s ≠ 1357 → up V3 1357 (V3 1363 * gaR k l f m T ins cf i) s = V3 s := fun s a => up_ne a
        have p4 : up V3 1357 (V3 1363 * gaR k l f m T ins cf i) 1357 = V3 1363 * gaR k l f m T ins cf i := up_same ..
        have hO4 : Off ANL V (up V3 1357 (V3 1363 * gaR k l f m T ins cf i)) := hO3'.up _ (by decide)
        generalize up V3 1357 (V3 1363 * gaR k l f m T ins cf i) = V4 at *
        have o4 : ∀ s, s ∉ SHL → s ≠ 1355 → s ≠ 1357 → s ≠ 1370 → V4 s = V' s := fun s a b c' d' => by rw [u4 s c', hO3 s a, u2 s d' b]
        -- it is taken
        have take : ∀ (F L G WK : Nat → Int32) (V5 : Nat → Int) (v4 : Int32), MR F L G V5 → Off ANL V V5 → V5 1356 = mmR k l f m T ins cf → V5 1357 = V3 1363 * gaR k l f m T ins cf i → V5 1363 = V3 1363 → V5 1364 = V3 1364 → ¬ v4 = 0 → bsI (gaR k l f m T ins cf) (stR k l f m T d ins e) (i + 1) = some (i, stR k l f m T d ins e i) → E_Mo_findAnswer_128 vv mk ml mm mn mw mg each' all' F L G WK T3 U3 gin counts mean' v1 v2 v3 v4 Q := by
          intro F L G WK V5 v4 hR5 hO5 m5 p5 n5 d5 hv4 hbs
          refine R_Mo_findAnswer_128 ⟨fun o => absurd o hv4, fun _ => S_Mo_copy hR5 c1363 (by omega) c1353 (by omega) fun F6 L6 G6 hR6 => S_Mo_copy hR6 c1364 (by omega) c1354 (by omega) fun F7 L7 G7 hR7 => R_Mo_findAnswer_155 (S_Mo_copy hR7 c1357 (by omega) c1350 (by omega) fun F8 L8 G8 hR8 => S_Mo_copy hR8 c1364 (by omega) c1351 (by omega) fun F9 L9 G9 hR9 => next F9 L9 G9 WK T3 U3 _ v3 hR9 ((((hO5.up _ (by decide)).up _ (by decide)).up _ (by decide)).up _ (by decide)) ?_ ?_)⟩
          · rw [up_ne (by decide), up_ne (by decide), up_ne (by decide), up_ne (by decide), m5]
          · rw [hbs]
            have x1 : up V5 1353 (V5 1363) 1364 = V3 1364 := by rw [up_ne (by decide), d5]
            rw [n5] at x1 ⊢
            rw [x1]
            have x2 : up (up V5 1353 (V3 1363)) 1354 (V3 1364) 1357 = V3 1363 * gaR k l f m T ins cf i := by rw [up_ne (by decide), up_ne (by decide), p5]
            rw [x2]
            have x3 : up (up (up V5 1353 (V3 1363)) 1354 (V3 1364)) 1350 (V3 1363 * gaR k l f m T ins cf i) 1364 = V3 1364 := by rw [up_ne (by decide), up_ne (by decide), up_ne (by decide), d5]
            rw [x3]
            show v3.toInt = (i : Int) ∧ _
            rw [up_same, up_ne (show (1350 : Nat) ≠ 1351 by decide), up_same, up_ne (show (1353 : Nat) ≠ 1351 by decide), up_ne (show (1353 : Nat) ≠ 1350 by decide), up_ne (show (1353 : Nat) ≠ 1354 by decide), up_same, up_ne (show (1354 : Nat) ≠ 1351 by decide), up_ne (show (1354 : Nat) ≠ 1350 by decide), up_same]
            exact ⟨h3, rfl, rfl, n3, d3, q3, sb2, gpos, gb.2⟩
        have m4' : V4 1356 = mmR k l f m T ins cf := by rw [o4 _ (by decide) (by decide) (by decide) (by decide), hmm]
        cases hb : bsI (gaR k l f m T ins cf) (stR k l f m T d ins e) i with
        | none =>
          rw [hb] at hS
          have hv2 : v2.toInt = -1 := hS
          refine ⟨fun _ => take F4 L4 G4 W4 V4 1 hR4 hO4 m4' p4 (u4 _ (by decide)) (u4 _ (by decide)) (by decide) ?_, fun o => absurd (by rw [i_lt, z_0]; omega) o⟩
          simp only [bsI, hb]
          rw [if_pos gpos]
        | some o =>
          obtain ⟨b, t, lw⟩ := o
          have mv' := mv
          rw [hb] at hS mv'
          obtain ⟨s1, s2, s3, s4, s5, s6, s7, s8, s9⟩ := hS
          have k1350 : V4 1350 = V' 1353 * gaR k l f m T ins cf b := by rw [o4 _ (by decide) (by decide) (by decide) (by decide), s2]
          have k1351 : V4 1351 = V' 1354 := by rw [o4 _ (by decide) (by decide) (by decide) (by decide), s3]
          have kb := mulR_bd (a := V' 1353) (b := gaR k l f m T ins cf b) (A := 52428775000) (B := 40331318400000) ⟨by omega, s4.2⟩ ⟨by omega, s9⟩ (by omega)
          refine ⟨fun o => absurd o (by rw [i_lt, z_0, s1]; omega), fun _ => S_Mo_times 3 2 hR4 c1357 (by omega) c1351 (by omega) c1340 (by omega) (by rw [p4]; exact pow3 (by omega) (by omega) (by omega)) (by rw [k1351]; exact pow2 (by omega) (by omega)) (by omega) fun F5 L5 G5 W5 hR5 => S_Mo_times 3 2 hR5 c1350 (by omega) c1364 (by omega) c1341 (by omega) (by rw [up_ne (by decide), k1350]; exact pow3 (by omega) (by omega) (by omega)) (by rw [up_ne (by decide), u4 _ (by decide)]; exact pow2 (by omega) (by omega)) (by omega) fun F6 L6 G6 W6 hR6 => R_Mo_findAnswer_108 (S_Mo_compare hR6 c1340 (by omega) c1341 (by omega) fun r40 e40 => ?_)⟩
          rw [up_ne (show (1340 : Nat) ≠ 1341 by decide), up_same, up_same, up_ne (show (1350 : Nat) ≠ 1340 by decide), up_ne (show (1364 : Nat) ≠ 1340 by decide), p4, k1351, k1350, u4 1364 (by decide)] at e40
          have cr := cross (N := V' 1353) (D := V' 1354) (t := t) (lw := lw) (N' := V3 1363) (D' := V3 1364) (t' := (stR k l f m T d ins e i).1) (lw' := (stR k l f m T d ins e i).2) (g := gaR k l f m T ins cf b) (g' := gaR k l f m T ins cf i) s6 q3 s7 sb2 s5.1 d3.1
          have hcmp : r40 ≤ 0 ↔ ¬ V' 1353 * gaR k l f m T ins cf b * V3 1364 < V3 1363 * gaR k l f m T ins cf i * V' 1354 := by
            rw [i_le, z_0, e40]
            generalize V' 1353 * gaR k l f m T ins cf b * V3 1364 = A
            generalize V3 1363 * gaR k l f m T ins cf i * V' 1354 = B
            unfold cmpI
            split
            · omega
            · split <;> omega
          rw [hcmp, cr]
          have hO6 : Off ANL V (up (up V4 1340 (V4 1357 * V4 1351)) 1341 (up V4 1340 (V4 1357 * V4 1351) 1350 * up V4 1340 (V4 1357 * V4 1351) 1364)) := (hO4.up _ (by decide)).up _ (by decide)
          have u6 : ∀ s, s ≠ 1340 → s ≠ 1341 → up (up V4 1340 (V4 1357 * V4 1351)) 1341 (up V4 1340 (V4 1357 * V4 1351) 1350 * up V4 1340 (V4 1357 * V4 1351) 1364) s = V4 s := fun s a c' => by rw [up_ne c', up_ne a]
          generalize up (up V4 1340 (V4 1357 * V4 1351)) 1341 (up V4 1340 (V4 1357 * V4 1351) 1350 * up V4 1340 (V4 1357 * V4 1351) 1364) = V6 at *
          refine ⟨fun o => R_Mo_findAnswer_125 (R_Mo_findAnswer_126 (R_Mo_findAnswer_128 ⟨fun _ => next F6 L6 G6 W6 T3 U3 V6 v2 hR6 hO6 (by rw [u6 _ (by decide) (by decide)]; exact m4') ?_, fun j => absurd rfl j⟩)), fun o => R_Mo_findAnswer_126 (take F6 L6 G6 W6 V6 1 hR6 hO6 (by rw [u6 _ (by decide) (by decide)]; exact m4') (by rw [u6 _ (by decide) (by decide)]; exact p4) (by rw [u6 _ (by decide) (by decide)]; exact u4 _ (by decide)) (by rw [u6 _ (by decide) (by decide)]; exact u4 _ (by decide)) (by decide) ?_)⟩
          · simp only [bsI, hb]
            rw [if_neg (fun q => o q.2)]
            have hh := fun s (a : s ∉ SHL) (b' : s ≠ 1355) (c' : s ≠ 1357) (d' : s ≠ 1370) (e1 : s ≠ 1340) (e2 : s ≠ 1341) => (u6 s e1 e2).trans (o4 s a b' c' d')
            exact mv' V6 (hh _ (by decide) (by decide) (by decide) (by decide) (by decide) (by decide)) (hh _ (by decide) (by decide) (by decide) (by decide) (by decide) (by decide)) (hh _ (by decide) (by decide) (by decide) (by decide) (by decide) (by decide)) (hh _ (by decide) (by decide) (by decide) (by decide) (by decide) (by decide))
          · simp only [bsI, hb]
            rw [if_pos ⟨gpos, Classical.not_not.mp o⟩]
  exact loop (gw k l f) 0 F0 L0 G0 W0 tp un V0 (-1) 0 (by omega) i_0 hR0 (hO0.mono (by decide)) hmm0 (show (-1 : Int32).toInt = -1 by decide)
end REPA
