/-! AN ANSWER in the reference: answers -/
section REPY
variable {vv : Nat → Value} {k l f m odds : Nat} {T : Nat → Nat → Int} {d : Int} {ins : Nat → Nat} {n : Nat} {mk ml mh mm mn mw mg mc mo each all : Int32} {fl ll gl wk gin counts lens rows : Nat → Int32} {tp un mean : Nat → Int64} {V : Nat → Int} {tt : Nat → Nat → Nat} {len : Nat → Nat}
theorem lsI_bd {g : Nat → Int} {B : Int} (hB : 0 ≤ B) : ∀ {w : Nat}, (∀ j, j < w → -B ≤ g j ∧ g j ≤ B) → -B ≤ lsI g w ∧ lsI g w ≤ B
  | 0, _ => by simp only [lsI]; omega
  | w + 1, h => by
    have h1 := lsI_bd hB (w := w) (fun j hj => h j (by omega))
    have h2 := h w (by omega)
    have h0 := h 0 (by omega)
    simp only [lsI]
    split
    · exact h0
    · split
      · exact h2
      · exact h1
theorem lsI_scale {g g' : Nat → Int} {A B : Int} (hA : 0 < A) (hB : 0 < B) : ∀ {w : Nat}, (∀ j, j < w → g j * A = g' j * B) → lsI g w * A = lsI g' w * B
  | 0, _ => by simp only [lsI]; omega
  | w + 1, h => by
    have h1 := lsI_scale hA hB (w := w) (fun j hj => h j (by omega))
    have h2 := h w (by omega)
    have h0 := h 0 (by omega)
    have hc : g w < lsI g w ↔ g' w < lsI g' w := by
      have a1 : g w < lsI g w ↔ g w * A < lsI g w * A := (Int.mul_lt_mul_right hA).symm
      have a2 : g' w < lsI g' w ↔ g' w * B < lsI g' w * B := (Int.mul_lt_mul_right hB).symm
      rw [a1, a2, h1, h2]
    simp only [lsI]
    split
    · exact h0
    · by_cases q : g w < lsI g w
      · rw [if_pos q, if_pos (hc.mp q)]
        exact h2
      · rw [if_neg q, if_neg (fun o => q (hc.mpr o))]
        exact h1
theorem S_Mo_answers {v1 v2 v3 : Int32} {Q : Int32 → Int32 → Int32 → (Nat → Int32) → (Nat → Int32) → (Nat → Int32) → (Nat → Int32) → (Nat → Int64) → (Nat → Int64) → (Nat → Int32) → (Nat → Int64) → Prop} (hr : RuleOK k l f m) (hG : GameOf k l f m T d ins n) (hDd : MGd k l f m T d ins n mk ml mh mm mn mw mg mc gin V) (hR : MR fl ll gl V) (hM : MenR l f rows lens tt len) (hx : mo.toInt = (odds : Int)) (ho : 1 ≤ odds ∧ odds ≤ 100000) (hq0 : ¬ (v3.toInt = 0 ∨ v3.toInt = 1) → Q (-100) each all fl ll gl wk tp un counts mean) (hqN : v3.toInt = 0 ∨ v3.toInt = 1 → ∀ (r : Int32) (y : Int), anN k l f tt len odds v1.toInt v2.toInt y → (okA k f v1.toInt v2.toInt → anZ k l f m T d ins tt len odds v1.toInt v2.toInt = none) → (y = -2 → r.toInt = -100) → (y = -3 → r.toInt = -200) → (y = -1 → r.toInt = -300) → ∀ each' all' fl' ll' gl' wk' tp' un' counts' mean' V', MR fl' ll' gl' V' → Off AML V V' → Q r each' all' fl' ll' gl' wk' tp' un' counts' mean') (hq : v3.toInt = 0 ∨ v3.toInt = 1 → okA k f v1.toInt v2.toInt → ∀ K b t lw, anZ k l f m T d ins tt len odds v1.toInt v2.toInt = some (K, b, t, lw) → ∀ (r : Int32) each' all' fl' ll' gl' wk' tp' un' counts' mean' V', r.toInt = (awP k l f m T ins (cfA l f tt len v1.toInt K) b t lw v3.toInt).sign → MR fl' ll' gl' V' → Off (1344 :: 1345 :: AML) V V' → FM V' (awP k l f m T ins (cfA l f tt len v1.toInt K) b t lw v3.toInt) (awQ k l f T (cfA l f tt len v1.toInt K) lw v3.toInt) → Q r each' all' fl' ll' gl' wk' tp' un' counts' mean') : P_Mo_answers vv mk ml mm mn mw mg mo each all fl ll gl wk tp un gin lens rows counts mean v1 v2 v3 Q := by
  have hb9 := bnd_9 hr
  obtain ⟨g1, g2, g3, g4, g5, g6, g7, g8, g9⟩ := hDd
  have bad : ¬ (okA k f v1.toInt v2.toInt ∧ (v3.toInt = 0 ∨ v3.toInt = 1)) → E_Mo_answers_25 vv mk ml mm mn mw mg mo each all fl ll gl wk tp un gin lens rows counts mean Q := by
    intro z
    refine R_Mo_answers_25 ?_
    by_cases q : v3.toInt = 0 ∨ v3.toInt = 1
    · have z' : ¬ okA k f v1.toInt v2.toInt := fun o => z ⟨o, q⟩
      exact hqN q _ (-2) (Or.inl ⟨rfl, z'⟩) (fun o => absurd o z') (fun _ => by decide) (fun o => by omega) (fun o => by omega) _ _ _ _ _ _ _ _ _ _ V hR (Off.refl _ V)
    · exact hq0 q
  refine T_Mo_answers (R_Mo_answers_0 (S_Mo_isMan fun r1 e1 => ⟨fun z => bad fun q => (bz e1).mp z q.1.1, fun z => S_Mo_isLoss hr g4 fun r2 e2 => R_Mo_answers_12 ⟨fun y => bad fun q => (bz e2).mp y q.1.2, fun y => S_Mo_in fun r3 e3 => ?_⟩⟩))
  rw [Int32.toInt_toInt64, show (0 : Int64).toInt = 0 by decide, show (1 : Int64).toInt = 1 by decide] at e3
  refine ⟨fun x => R_Mo_answers_28 ?_, fun x => bad fun q => (bz e3).mp x (by have := q.2; omega)⟩
  have ok : okA k f v1.toInt v2.toInt := ⟨Classical.not_not.mp (mt (bz e1).mpr z), Classical.not_not.mp (mt (bz e2).mpr y)⟩
  have hv3 : v3.toInt = 0 ∨ v3.toInt = 1 := by
    have := Classical.not_not.mp (mt (bz e3).mpr x)
    omega
  have ok1 := ok.1
  have ok2 := ok.2
  have hlen := (hM v1.toInt.toNat (by omega)).2.1
  refine S_Mo_findForeseen (man := v1.toInt.toNat) g1 hM hR (by omega) (by omega) hx ho fun r4 F1 L1 G1 W1 T1 U1 C1 V1 e4 hC hR1 hO1 => ?_
  have hO1' : Off AML V V1 := hO1.mono (by decide)
  cases hf : frs (gn l f) (tt v1.toInt.toNat) (len v1.toInt.toNat) odds 4 with
  | none =>
    rw [hf] at e4
    have e4' : r4.toInt = -1 := e4
    exact ⟨fun q => absurd q (by rw [i_le, z_0, e4']; omega), fun _ => hqN hv3 _ (-3) (Or.inr (Or.inl ⟨rfl, ok, hf⟩)) (fun _ => by unfold anZ; rw [hf]) (fun o => by omega) (fun _ => by decide) (fun o => by omega) _ _ _ _ _ _ _ _ _ _ V1 hR1 hO1'⟩
  | some K =>
    rw [hf] at e4
    have e4' : r4.toInt = (K : Int) := e4
    have hcf := cf_bd (l := l) (f := f) (t := tt v1.toInt.toNat) (K := K) (c := cxt (gn l f) (tt v1.toInt.toNat) K (len v1.toInt.toNat)) hlen
    have hw25 := gw_le hr
    refine ⟨fun _ => R_Mo_answers_40 (S_Mo_findAnswer (cf := cfA l f tt len v1.toInt K) g1 hG g3 g4 g6 (g7.off hO1' hw25.2 AML_hi) (by rw [hO1' _ (by decide), g8]) (by rw [hO1' _ (by decide), g9]) hR1 (hC K hf) hcf rfl ⟨ok2.1, by omega⟩ fun r12 each' all' F2 L2 G2 W2 T2 U2 mean' V2 hal hR2 hO2 hmm hme hS => ?_), fun q => absurd (by rw [i_le, z_0, e4']; omega) q⟩
    have hO2' : Off AML V V2 := hO1'.trans (hO2.mono (by decide))
    cases hb : bsI (gaR k l f m T ins (cfA l f tt len v1.toInt K)) (stR k l f m T d ins v2.toInt) (gw k l f) with
    | none =>
      rw [hb] at hS
      have hS' : r12.toInt = -1 := hS
      refine ⟨fun q => absurd q (by rw [i_le, z_0, hS']; omega), fun _ => hqN hv3 _ (-1) (Or.inr (Or.inr ⟨rfl, ok, K, hf⟩)) (fun _ => ?_) (fun o => by omega) (fun o => by omega) (fun _ => by decide) _ _ _ _ _ _ _ _ _ _ V2 hR2 hO2'⟩
      unfold anZ
      rw [hf]
      dsimp only
      rw [hb]
    | some o =>
      obtain ⟨b, t, lw⟩ := o
      have hin := bsI_in hb
      rw [hb] at hS
      obtain ⟨s1, s2, s3, s4, s5, s6, s7, s8, s9⟩ := hS
      have han : anZ k l f m T d ins tt len odds v1.toInt v2.toInt = some (K, b, t, lw) := by
        unfold anZ
        rw [hf]
        dsimp only
        rw [hb]
      have fin := hq hv3 ok K b t lw han
      have hzN := zN_eq hG hr
      obtain ⟨f1, f2, f3, f4, _⟩ := hG.fct hr
      have zz : V2 1358 = T (gw k l f) (2 * gw k l f) := by rw [hO2' _ (by decide), g9]
      have hlw : ((lw.toNat : Nat) : Int) = lw := by omega
      have t0 : 0 ≤ t := by
        refine Classical.byContradiction fun q => ?_
        have q1 : t * V2 1354 < 0 := Int.mul_neg_of_neg_of_pos (by omega) s5.1
        have q2 : 0 ≤ V2 1353 * (1000 * lw) := Int.mul_nonneg s4.1 (by omega)
        omega
      -- the telling
      have tell : ∀ (F L G WK : Nat → Int32) (V5 : Nat → Int) (p : Int) (q : Nat), MR F L G V5 → Off AML V V5 → V5 1362 = p → V5 1365 = (q : Int) → 0 < q → p.natAbs < BB ^ 63 → q < BB ^ 63 → 0 < awQ k l f T (cfA l f tt len v1.toInt K) lw v3.toInt → p * (awQ k l f T (cfA l f tt len v1.toInt K) lw v3.toInt : Int) = awP k l f m T ins (cfA l f tt len v1.toInt K) b t lw v3.toInt * (q : Int) → E_Mo_answers_217 vv mk ml mm mn mw mg mo each' all' F L G WK T2 U2 gin lens rows C1 mean' Q := by
        intro F L G WK V5 p q hR5 hO5 hp hq5 q0 bp bq aq hcr
        refine R_Mo_answers_217 (S_Mo_tell hR5 c1362 (by omega) c1365 (by omega) (by omega) (by rw [hq5]; omega) (by rw [hp]; exact bp) (by rw [hq5, Int.natAbs_natCast]; exact bq) fun F6 L6 G6 W6 T6 U6 V6 hR6 hO6 n6 d6 => ⟨i_in c1344 (by omega), ?_⟩)
        rw [hp, hq5] at n6 d6
        have hF : FM V6 (awP k l f m T ins (cfA l f tt len v1.toInt K) b t lw v3.toInt) (awQ k l f T (cfA l f tt len v1.toInt K) lw v3.toInt) := (FM.told rfl q0 n6 d6).congr aq hcr
        exact fin _ _ _ _ _ _ _ _ _ _ _ V6 (by rw [i_nat c1344, hR6.sgn (by omega), hF.sgn.1]) hR6 ((hO5.mono (fun s q => List.mem_cons_of_mem _ (List.mem_cons_of_mem _ q))).trans (hO6.mono (by decide))) hF
      refine ⟨fun _ => R_Mo_answers_56 ?_, fun q => absurd (by rw [i_le, z_0, s1]; omega) q⟩
      refine S_Mo_times 2 2 hR2 c1358 (by omega) c1354 (by omega) c1365 (by omega) (by rw [zz]; exact pow2 (by omega) (by omega)) (pow2 (by omega) (by omega)) (by omega) fun F3 L3 G3 W3 hR3 => ?_
      rw [zz] at hR3
      have hO3 : Off AML V (up V2 1365 (T (gw k l f) (2 * gw k l f) * V2 1354)) := hO2'.up _ (by decide)
      have q3 : up V2 1365 (T (gw k l f) (2 * gw k l f) * V2 1354) 1365 = T (gw k l f) (2 * gw k l f) * V2 1354 := up_same ..
      have u3 : ∀ s, s ≠ 1365 → up V2 1365 (T (gw k l f) (2 * gw k l f) * V2 1354) s = V2 s := fun s a => up_ne a
      have zD : 0 < T (gw k l f) (2 * gw k l f) * V2 1354 := Int.mul_pos f1 s5.1
      have zDb := mulR_bd (a := T (gw k l f) (2 * gw k l f)) (b := V2 1354) (A := 2097151) (B := 33554416000) ⟨by omega, f2⟩ ⟨by omega, s5.2⟩ (by omega)
      generalize up V2 1365 (T (gw k l f) (2 * gw k l f) * V2 1354) = V3 at *
      refine ⟨fun q => R_Mo_answers_160 ?_, fun q => ?_⟩
      · have q' : ¬ v3.toInt = 0 := fun o => q (by rw [i_eq, o, z_0])
        have gbd : ∀ j, j < gw k l f → -2000000000000000000 ≤ erng k l f m T ins 0 j * (V2 1354 - V2 1353) + T (gw k l f) (2 * gw k l f) * payI k l f m b j * V2 1353 ∧ erng k l f m T ins 0 j * (V2 1354 - V2 1353) + T (gw k l f) (2 * gw k l f) * payI k l f m b j * V2 1353 ≤ 2000000000000000000 := by
          intro j hj
          have hp := pay_bd hr hin.1 hj
          have hej := f4 j hj
          have k1 := mulR_bd (a := erng k l f m T ins 0 j) (b := V2 1354 - V2 1353) (A := 16777208) (B := 52428775000) ⟨by omega, by omega⟩ ⟨by omega, by omega⟩ (by omega)
          have k2 := mulR_bd (a := T (gw k l f) (2 * gw k l f)) (b := payI k l f m b j) (A := 2097151) (B := 8) ⟨by omega, f2⟩ hp (by omega)
          have k3 := mulR_bd (a := T (gw k l f) (2 * gw k l f) * payI k l f m b j) (b := V2 1353) (A := 16777208) (B := 52428775000) ⟨by omega, by omega⟩ ⟨by omega, s4.2⟩ (by omega)
          omega
        have loop : ∀ (w j : Nat) (F L G WK : Nat → Int32) (V' : Nat → Int) (v5 : Int32), j + w = gw k l f → v5.toInt = (j : Int) → MR F L G V' → Off [1340, 1341, 1357, 1361, 1362, 1370] V3 V' → (0 < j → V' 1362 = lsI (fun j => erng k l f m T ins 0 j * (V2 1354 - V2 1353) + T (gw k l f) (2 * gw k l f) * payI k l f m b j * V2 1353) j) → E_Mo_answers_163 vv mk ml mm mn mw mg mo each' all' F L G WK T2 U2 gin lens rows C1 mean' r12 v5 Q := by
          intro w
          induction w with
          | zero =>
            intro j F L G WK V' v5 hj h5 hR' hO' hls
            have : j = gw k l f := by omega
            subst this
            have hb2 := lsI_bd (g := fun j => erng k l f m T ins 0 j * (V2 1354 - V2 1353) + T (gw k l f) (2 * gw k l f) * payI k l f m b j * V2 1353) (B := 2000000000000000000) (by omega) (w := gw k l f) gbd
            have hzt : ((T (gw k l f) (2 * gw k l f) * V2 1354).toNat : Int) = T (gw k l f) (2 * gw k l f) * V2 1354 := by omega
            refine R_Mo_answers_163 ⟨fun _ => tell F L G WK V' _ (T (gw k l f) (2 * gw k l f) * V2 1354).toNat hR' (hO3.trans (hO'.mono (by decide))) (hls (by omega)) (by rw [hO' _ (by decide), q3, hzt]) (by omega) (pow3 (by omega) (by omega) (by omega)) (Nat.lt_of_lt_of_le (show _ < 1237940039285380274899124224 by omega) (by decide)) ?_ ?_, fun o => absurd (by rw [i_le, g3, h5]; omega) o⟩
            · unfold awQ
              rw [if_neg q']
              exact Nat.mul_pos (by omega) hzN.2.1
            · unfold awP awQ
              rw [if_neg q', if_neg q', hzt, hlw]
              have sc := lsI_scale (g := fun j => erng k l f m T ins 0 j * (V2 1354 - V2 1353) + T (gw k l f) (2 * gw k l f) * payI k l f m b j * V2 1353) (g' := fun j => erng k l f m T ins 0 j * 1000 * lw + t * (payI k l f m b j * T (gw k l f) (2 * gw k l f) - erng k l f m T ins 0 j)) (A := 1000 * lw) (B := V2 1354) (by omega) s5.1 (w := gw k l f) fun j _ => by grind
              rw [show ((1000 * lw.toNat * zN k l f T : Nat) : Int) = 1000 * lw * T (gw k l f) (2 * gw k l f) by rw [Int.natCast_mul, Int.natCast_mul, hlw, hzN.1]; rfl]
              rw [← Int.mul_assoc, sc, Int.mul_assoc, Int.mul_comm (V2 1354)]
          | succ w ih =>
            intro j F L G WK V' v5 hj h5 hR' hO' hls
            have n' : V' 1353 = V2 1353 := by rw [hO' _ (by decide), u3 _ (by decide)]
            have d' : V' 1354 = V2 1354 := by rw [hO' _ (by decide), u3 _ (by decide)]
            have z' : V' 1358 = T (gw k l f) (2 * gw k l f) := by rw [hO' _ (by decide), u3 _ (by decide), zz]
            have hOV : Off AML V V' := hO3.trans (hO'.mono (by decide))
            refine R_Mo_answers_163 ⟨fun o => absurd o (by rw [i_le, g3, h5]; omega), fun _ => S_Mo_mixedTimes g1 hG g3 g6 (g7.off hOV hw25.2 AML_hi) z' hR' s1 hin.1 h5 (by omega) (by rw [n']; exact s4) (by rw [d']; exact s5) fun F5 L5 G5 W5 V5 hR5 hO5 p5 => ?_⟩
            rw [n', d'] at p5
            have hO5' : Off [1340, 1341, 1357, 1361, 1362, 1370] V3 V5 := hO'.trans (hO5.mono (by decide))
            have next : ∀ (F L G WK : Nat → Int32) (V' : Nat → Int), MR F L G V' → Off [1340, 1341, 1357, 1361, 1362, 1370] V3 V' → V' 1362 = lsI (fun j => erng k l f m T ins 0 j * (V2 1354 - V2 1353) + T (gw k l f) (2 * gw k l f) * payI k l f m b j * V2 1353) (j + 1) → E_Mo_answers_211 vv mk ml mm mn mw mg mo each' all' F L G WK T2 U2 gin lens rows C1 mean' r12 v5 Q := fun F L G WK V' a b' c' => R_Mo_answers_211 fun x62 e62 => ih (j + 1) F L G WK V' x62 (by omega) (by rw [e62]; exact i_suc h5 (by omega)) a b' fun _ => c'
            have put : lsI (fun j => erng k l f m T ins 0 j * (V2 1354 - V2 1353) + T (gw k l f) (2 * gw k l f) * payI k l f m b j * V2 1353) (j + 1) = V5 1357 → E_Mo_answers_201 vv mk ml mm mn mw mg mo each' all' F5 L5 G5 W5 T2 U2 gin lens rows C1 mean' r12 v5 Q := fun hh => R_Mo_answers_201 (S_Mo_copy hR5 c1357 (by omega) c1362 (by omega) fun F6 L6 G6 hR6 => next F6 L6 G6 W5 _ hR6 (hO5'.up _ (by decide)) (by rw [up_same, hh]))
            rw [i_lit0 h5]
            refine ⟨fun j0 => put ?_, fun j0 => S_Mo_compare hR5 c1357 (by omega) c1362 (by omega) fun r41 e41 => R_Mo_answers_198 ?_⟩
            · simp only [lsI]
              rw [if_pos j0, p5, j0]
            · have l5 : V5 1362 = lsI (fun j => erng k l f m T ins 0 j * (V2 1354 - V2 1353) + T (gw k l f) (2 * gw k l f) * payI k l f m b j * V2 1353) j := by rw [hO5 _ (by decide)]; exact hls (by omega)
              have hcmp : 0 ≤ r41 ↔ ¬ V5 1357 < V5 1362 := by
                rw [i_le, z_0, e41]
                unfold cmpI
                split
                · omega
                · split <;> omega
              rw [hcmp]
              refine ⟨fun o => next F5 L5 G5 W5 V5 hR5 hO5' ?_, fun o => put ?_⟩
              · simp only [lsI]
                rw [if_neg j0, if_neg (by rw [← p5, ← l5]; exact o), l5]
              · simp only [lsI]
                rw [if_neg j0, if_pos (by rw [← p5, ← l5]; exact Classical.not_not.mp o), p5]
        exact loop (gw k l f) 0 F3 L3 G3 W3 V3 0 (by omega) i_0 hR3 (Off.refl _ V3) fun o => by omega
      · have q' : v3.toInt = 0 := by rw [q]; exact z_0
        have mb : -40265318400000 ≤ mmR k l f m T ins (cfA l f tt len v1.toInt K) ∧ mmR k l f m T ins (cfA l f tt len v1.toInt K) ≤ 40265318400000 := mm_bd hr hG hcf (Nat.le_refl (gw k l f))
        have meb : -24000 ≤ meR k l f m (cfA l f tt len v1.toInt K) b ∧ meR k l f m (cfA l f tt len v1.toInt K) b ≤ 24000 := me_bd hr hcf hin.1 (Nat.le_refl (gw k l f))
        have al0 := al_pos hin.2.1
        have hge : gaR k l f m T ins (cfA l f tt len v1.toInt K) b = meR k l f m (cfA l f tt len v1.toInt K) b * T (gw k l f) (2 * gw k l f) - mmR k l f m T ins (cfA l f tt len v1.toInt K) := rfl
        have alb : alR k l f (cfA l f tt len v1.toInt K) ≤ 3000 := by
          rw [al_each hr]
          have h1 := cf_sum (cf := cfA l f tt len v1.toInt K) hcf (gn l f)
          have h2 := gn_le hr
          have h3 : (if k = 0 then 1 else gn l f) ≤ 5 := by split <;> omega
          have h4 : sumN (cfA l f tt len v1.toInt K) (gn l f) * (if k = 0 then 1 else gn l f) ≤ 600 * 5 := Nat.mul_le_mul (by omega) h3
          omega
        have n3 : V3 1353 = V2 1353 := u3 _ (by decide)
        have d3 : V3 1354 = V2 1354 := u3 _ (by decide)
        have z3 : V3 1358 = T (gw k l f) (2 * gw k l f) := by rw [u3 _ (by decide), zz]
        have m3 : V3 1356 = mmR k l f m T ins (cfA l f tt len v1.toInt K) := by rw [u3 _ (by decide), hmm]
        have hmeb := hme b hin.1
        unfold awP awQ at tell
        rw [if_pos q', if_pos q'] at tell
        generalize hMM : mmR k l f m T ins (cfA l f tt len v1.toInt K) = M at *
        generalize hME : meR k l f m (cfA l f tt len v1.toInt K) b = E at *
        generalize hAL : alR k l f (cfA l f tt len v1.toInt K) = A at *
        generalize hGA : gaR k l f m T ins (cfA l f tt len v1.toInt K) b = GA at *
        generalize hNN : V2 1353 = N at *
        generalize hDN : V2 1354 = D at *
        have k1 := mulR_bd (a := D - N) (b := M) (A := 52428775000) (B := 40265318400000) ⟨by omega, by omega⟩ mb (by omega)
        have k2 := mulR_bd (a := T (gw k l f) (2 * gw k l f)) (b := E) (A := 2097151) (B := 24000) ⟨by omega, f2⟩ meb (by omega)
        have k3 := mulR_bd (a := T (gw k l f) (2 * gw k l f) * E) (b := N) (A := 50331624000) (B := 52428775000) ⟨by omega, by omega⟩ ⟨by omega, s4.2⟩ (by omega)
        have k4 := mulR_bd (a := T (gw k l f) (2 * gw k l f) * D) (b := A) (A := 70368677068816000) (B := 3000) ⟨by omega, by omega⟩ ⟨by omega, alb⟩ (by omega)
        have k5 : 0 < T (gw k l f) (2 * gw k l f) * D * A := Int.mul_pos zD al0
        refine S_Mo_less hR3 c1354 (by omega) c1353 (by omega) c1340 (by omega) (by rw [d3]; exact powB (pow2 (by omega) (by omega)) (by omega)) (by rw [n3]; exact powB (pow2 (by omega) (by omega)) (by omega)) fun F4 L4 G4 hR4 => R_Mo_answers_86 ?_
        rw [d3, n3] at hR4
        refine S_Mo_times 2 2 hR4 c1340 (by omega) c1356 (by omega) c1340 (by omega) (by rw [up_same]; exact pow2 (by omega) (by omega)) (by rw [up_ne (by decide), m3]; exact pow2 (by omega) (by omega)) (by omega) fun F5 L5 G5 W5 hR5 => ⟨i_in s1 (by omega), ?_⟩
        rw [up_same, up_ne (show (1356 : Nat) ≠ 1340 by decide), m3] at hR5
        rw [i_nat s1]
        refine S_Mo_timesSmall 1 1 hR5 c1358 (by omega) hmeb (by omega) c1341 (by omega) (by rw [up_ne (by decide), up_ne (by decide), z3]; exact pow1 (by omega)) (pow1 (by omega)) (by omega) fun F6 L6 G6 W6 hR6 => R_Mo_answers_116 ?_
        rw [up_ne (show (1358 : Nat) ≠ 1340 by decide), up_ne (show (1358 : Nat) ≠ 1340 by decide), z3] at hR6
        have n6 : up (up (up (up V3 1340 (D - N)) 1340 ((D - N) * M)) 1370 E) 1341 (T (gw k l f) (2 * gw k l f) * E) 1353 = N := by rw [up_ne (by decide), up_ne (by decide), up_ne (by decide), up_ne (by decide), n3]
        refine S_Mo_times 2 2 hR6 c1341 (by omega) c1353 (by omega) c1341 (by omega) (by rw [up_same]; exact pow2 (by omega) (by omega)) (by rw [n6]; exact pow2 (by omega) (by omega)) (by omega) fun F7 L7 G7 W7 hR7 => ?_
        rw [n6, up_same] at hR7
        have a7 : up (up (up (up (up V3 1340 (D - N)) 1340 ((D - N) * M)) 1370 E) 1341 (T (gw k l f) (2 * gw k l f) * E)) 1341 (T (gw k l f) (2 * gw k l f) * E * N) 1340 = (D - N) * M := by rw [up_ne (by decide), up_ne (by decide), up_ne (by decide), up_same]
        have b7 : up (up (up (up (up V3 1340 (D - N)) 1340 ((D - N) * M)) 1370 E) 1341 (T (gw k l f) (2 * gw k l f) * E)) 1341 (T (gw k l f) (2 * gw k l f) * E * N) 1341 = T (gw k l f) (2 * gw k l f) * E * N := up_same ..
        have q7 : up (up (up (up (up V3 1340 (D - N)) 1340 ((D - N) * M)) 1370 E) 1341 (T (gw k l f) (2 * gw k l f) * E)) 1341 (T (gw k l f) (2 * gw k l f) * E * N) 1365 = T (gw k l f) (2 * gw k l f) * D := by rw [up_ne (by decide), up_ne (by decide), up_ne (by decide), up_ne (by decide), up_ne (by decide), q3]
        have hO7 : Off AML V (up (up (up (up (up V3 1340 (D - N)) 1340 ((D - N) * M)) 1370 E) 1341 (T (gw k l f) (2 * gw k l f) * E)) 1341 (T (gw k l f) (2 * gw k l f) * E * N)) := ((((hO3.up _ (by decide)).up _ (by decide)).up _ (by decide)).up _ (by decide)).up _ (by decide)
        generalize up (up (up (up (up V3 1340 (D - N)) 1340 ((D - N) * M)) 1370 E) 1341 (T (gw k l f) (2 * gw k l f) * E)) 1341 (T (gw k l f) (2 * gw k l f) * E * N) = V7 at *
        refine S_Mo_add hR7 c1340 (by omega) c1341 (by omega) c1362 (by omega) (by rw [a7]; exact pow3 (by omega) (by omega) (by omega)) (by rw [b7]; exact pow3 (by omega) (by omega) (by omega)) fun F8 L8 G8 hR8 => R_Mo_answers_142 ?_
        rw [a7, b7] at hR8
        refine S_Mo_timesSmall 2 1 hR8 c1365 (by omega) (i_wide hal) (by omega) c1365 (by omega) (by rw [up_ne (by decide), q7]; exact pow2 (by omega) (by omega)) (pow1 (by omega)) (by omega) fun F9 L9 G9 W9 hR9 => ?_
        rw [up_ne (show (1365 : Nat) ≠ 1362 by decide), q7] at hR9
        have hzt : ((T (gw k l f) (2 * gw k l f) * D * A).toNat : Int) = T (gw k l f) (2 * gw k l f) * D * A := by omega
        refine tell F9 L9 G9 W9 _ ((D - N) * M + T (gw k l f) (2 * gw k l f) * E * N) (T (gw k l f) (2 * gw k l f) * D * A).toNat hR9 (((hO7.up _ (by decide)).up _ (by decide)).up _ (by decide)) (by rw [up_ne (by decide), up_ne (by decide), up_same]) (by rw [up_same, hzt]) (by omega) (pow3 (by omega) (by omega) (by omega)) (Nat.lt_of_lt_of_le (show _ < 1237940039285380274899124224 by omega) (by decide)) (Nat.mul_pos (by omega) (Nat.mul_pos hzN.2.1 (by omega))) ?_
        rw [hzt, show ((1000 * lw.toNat : Nat) : Int) = 1000 * lw by omega, show ((1000 * lw.toNat * (zN k l f T * A.toNat) : Nat) : Int) = 1000 * lw * (T (gw k l f) (2 * gw k l f) * A) by rw [Int.natCast_mul, Int.natCast_mul, Int.natCast_mul, hlw, ← hzN.1, Int.toNat_of_nonneg (by omega)]; rfl, show ((t.toNat * GA.toNat : Nat) : Int) = t * GA by rw [Int.natCast_mul, Int.toNat_of_nonneg t0, Int.toNat_of_nonneg (by omega)], hge]
        generalize T (gw k l f) (2 * gw k l f) = z at *
        have e1 : ((D - N) * M + z * E * N) * (1000 * lw * (z * A)) = (D * M * (1000 * lw) + N * (1000 * lw) * (E * z - M)) * (z * A) := by grind
        rw [e1, s6]
        grind
end REPY
