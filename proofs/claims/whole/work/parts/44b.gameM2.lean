/-! THE STEPS in the reference: coming in, the whole work, the RULE -/
section GAMEM2
variable {vv : Nat → Value} {k l f m : Nat}
theorem S_Mo_comeIn {ways came v1 v2 : Int32} {w c row : Nat} {n : Nat} {d : Int} {fl ll gl wk gin : Nat → Int32} {tp un : Nat → Int64} {V : Nat → Int} {T : Nat → Nat → Int} {ins : Nat → Nat} {Q : Int32 → (Nat → Int32) → (Nat → Int32) → (Nat → Int32) → (Nat → Int32) → (Nat → Int64) → (Nat → Int64) → (Nat → Int32) → Prop} (hw : ways.toInt = (w : Int)) (hw25 : w ≤ 25) (hn : came.toInt = (n : Int)) (hn' : n < 1000) (hR : MR fl ll gl V) (hM : GM V T w) (hi : IR gin ins w) (hB : Bd T w) (hd : V 1343 = d) (hd0 : 0 < d) (h1 : v1.toInt = (row : Int)) (hrow : row < w) (h2 : v2.toInt = (c : Int)) (hc : c < 2 * w) (hq : ∀ came' fl' ll' gl' wk' tp' un' gin' V', came'.toInt = ((n + 1 : Nat) : Int) → MR fl' ll' gl' V' → GM V' (piv T d row c) w → V' 1343 = T row c → V' 1344 = V 1344 → V' 1345 = V 1345 → IR gin' (up ins row c) w → Q came' fl' ll' gl' wk' tp' un' gin') : P_Mo_comeIn vv ways came fl ll gl wk tp un gin v1 v2 Q := by
  have pvr : ∀ j, piv T d row c row j = T row j := fun j => by unfold piv; rw [if_pos rfl]
  have pvn : ∀ r j, r ≠ row → piv T d row c r j = (T r j * T row c - T r c * T row j).tdiv d := fun r j h => by unfold piv; rw [if_neg h]
  have loop : ∀ (u r : Nat) (F L G WK : Nat → Int32) (TP UN : Nat → Int64) (V' : Nat → Int) (v3 : Int32), r + u = w + 1 → v3.toInt = (r : Int) → MR F L G V' → GM V' (fun r' j => if r' < r then piv T d row c r' j else T r' j) w → V' 1343 = d → V' 1348 = T row c → V' 1344 = V 1344 → V' 1345 = V 1345 → E_Mo_comeIn_15 vv ways came F L G WK TP UN gin v1 v2 v3 Q := by
    intro u
    induction u with
    | zero =>
      intro r F L G WK TP UN V' v3 hu h3 hR' hM' hD hP hU hW
      refine R_Mo_comeIn_15 ⟨fun _ => R_Mo_comeIn_132 (S_Mo_copy hR' c1348 (by omega) c1343 (by omega) fun F' L' G' hR2 => ⟨i_in h1 (by omega), fun x12 e12 => ?_⟩), fun y => absurd (by rw [i_lt]; omega) y⟩
      rw [hP] at hR2
      refine hq _ _ _ _ _ _ _ _ _ (by rw [e12]; exact i_suc hn (by omega)) hR2 ((hM'.congr fun r' j hr hj => by rw [if_pos (by omega)]).high hw25 (by omega)) (up_same ..) (by rw [up_ne (by omega)]; exact hU) (by rw [up_ne (by omega)]; exact hW) fun i' hi' => ?_
      rw [i_nat h1]
      by_cases e : i' = row
      · rw [e, up_same, up_same]; exact h2
      · rw [up_ne e, up_ne e]; exact hi i' hi'
    | succ u ih =>
      intro r F L G WK TP UN V' v3 hu h3 hR' hM' hD hP hU hW
      refine R_Mo_comeIn_15 ⟨fun y => absurd y (by rw [i_lt]; omega), fun _ => ⟨fun y => R_Mo_comeIn_126 fun x13 e13 => ?_, fun y => ?_⟩⟩
      · rw [i_eq, h3, h1] at y
        have er : r = row := by omega
        refine ih (r + 1) F L G WK TP UN V' x13 (by omega) (by rw [e13]; exact i_suc h3 (by omega)) hR' (hM'.congr fun r' j hr hj => ?_) hD hP hU hW
        by_cases e : r' < r
        · rw [if_pos e, if_pos (by omega)]
        · rw [if_neg e]
          by_cases e2 : r' < r + 1
          · have : r' = row := by omega
            rw [if_pos e2, this, pvr]
          · rw [if_neg e2]
      · rw [i_eq, h3, h1] at y
        have er : r ≠ row := by omega
        have hrc : V' (51 * r + c) = if r < r then piv T d row c r c else T r c := hM' r c (by omega) (by omega)
        rw [if_neg (by omega)] at hrc
        have inner : ∀ (u' j : Nat) (F L G WK : Nat → Int32) (TP UN : Nat → Int64) (V' : Nat → Int) (v4 : Int32), j + u' = 2 * w + 1 → v4.toInt = (j : Int) → MR F L G V' → GM V' (fun r' j' => if r' < r ∨ (r' = r ∧ j' < j) then piv T d row c r' j' else T r' j') w → V' 1343 = d → V' 1348 = T row c → V' 1349 = T r c → V' 1344 = V 1344 → V' 1345 = V 1345 → E_Mo_comeIn_44 vv ways came F L G WK TP UN gin v1 v2 v3 v4 Q := by
          intro u'
          induction u' with
          | zero =>
            intro j F L G WK TP UN V' v4 hu' h4 hR' hM' hD hP hQ hU hW
            refine R_Mo_comeIn_44 (S_Mo_end hw hw25 fun r14 e14 => ⟨fun _ => R_Mo_comeIn_126 fun x13 e13 => ?_, fun y => absurd (by rw [i_lt]; omega) y⟩)
            refine ih (r + 1) F L G WK TP UN V' x13 (by omega) (by rw [e13]; exact i_suc h3 (by omega)) hR' (hM'.congr fun r' j' hr hj => ?_) hD hP hU hW
            by_cases e : r' < r ∨ (r' = r ∧ j' < j)
            · rw [if_pos e, if_pos (by omega)]
            · rw [if_neg e, if_neg (by omega)]
          | succ u' ih' =>
            intro j F L G WK TP UN V' v4 hu' h4 hR' hM' hD hP hQ hU hW
            refine R_Mo_comeIn_44 (S_Mo_end hw hw25 fun r14 e14 => ⟨fun y => absurd y (by rw [i_lt]; omega), fun _ => S_Mo_cellAt h3 h4 (by omega) (by omega) fun r15 e15 => R_Mo_comeIn_61 ?_⟩)
            have k1 : V' (51 * r + j) = if r < r ∨ (r = r ∧ j < j) then piv T d row c r j else T r j := hM' r j (by omega) (by omega)
            rw [if_neg (by omega)] at k1
            have k2 : V' (51 * row + j) = T row j := by
              have k2 : V' (51 * row + j) = if row < r ∨ (row = r ∧ j < j) then piv T d row c row j else T row j := hM' row j (by omega) (by omega)
              by_cases e : row < r
              · rw [if_pos (Or.inl e), pvr] at k2
                exact k2
              · rw [if_neg (by omega)] at k2
                exact k2
            have m1 := mul_bd (hB r j (by omega) (by omega)) (hB row c (by omega) (by omega))
            have m2 := mul_bd (hB r c (by omega) (by omega)) (hB row j (by omega) (by omega))
            refine S_Mo_times 1 1 hR' e15 (by omega) c1348 (by omega) c1340 (by omega) (by rw [k1]; exact pow1 (hB r j (by omega) (by omega))) (by rw [hP]; exact pow1 (hB row c (by omega) (by omega))) (by omega) fun F1 L1 G1 WK1 hR1 => S_Mo_cellAt h1 h4 (by omega) (by omega) fun r20 e20 => R_Mo_comeIn_81 ?_
            rw [k1, hP] at hR1
            refine S_Mo_times 1 1 hR1 c1349 (by omega) e20 (by omega) c1341 (by omega) (by rw [up_ne (by omega), hQ]; exact pow1 (hB r c (by omega) (by omega))) (by rw [up_ne (by omega), k2]; exact pow1 (hB row j (by omega) (by omega))) (by omega) fun F2 L2 G2 WK2 hR2 => ?_
            rw [up_ne (f := V') (show 1349 ≠ 1340 by omega), up_ne (f := V') (show 51 * row + j ≠ 1340 by omega), hQ, k2] at hR2
            have w1 : up (up V' 1340 (T r j * T row c)) 1341 (T r c * T row j) 1340 = T r j * T row c := by rw [up_ne (by omega), up_same]
            have w2 : up (up V' 1340 (T r j * T row c)) 1341 (T r c * T row j) 1341 = T r c * T row j := up_same ..
            refine S_Mo_less hR2 c1340 (by omega) c1341 (by omega) c1342 (by omega) (by rw [w1]; exact powB (pow2 (by omega) (by omega)) (by omega)) (by rw [w2]; exact powB (pow2 (by omega) (by omega)) (by omega)) fun F3 L3 G3 hR3 => R_Mo_comeIn_100 (S_Mo_cellAt h3 h4 (by omega) (by omega) fun r28 e28 => ?_)
            rw [w1, w2] at hR3
            have w3 : up (up (up V' 1340 (T r j * T row c)) 1341 (T r c * T row j)) 1342 (T r j * T row c - T r c * T row j) 1342 = T r j * T row c - T r c * T row j := up_same ..
            have w4 : up (up (up V' 1340 (T r j * T row c)) 1341 (T r c * T row j)) 1342 (T r j * T row c - T r c * T row j) 1343 = d := by rw [up_ne (by omega), up_ne (by omega), up_ne (by omega), hD]
            refine S_Mo_divide hR3 c1342 (by omega) c1343 (by omega) e28 (by omega) c1360 (by omega) (by omega) (by rw [w4]; omega) (by rw [w3]; exact powB (pow2 (by omega) (by omega)) (by omega)) fun F4 L4 G4 WK4 TP4 UN4 hR4 => R_Mo_comeIn_120 fun x35 e35 => ?_
            rw [w3, w4, ← pvn r j er] at hR4
            refine ih' (j + 1) F4 L4 G4 WK4 TP4 UN4 _ x35 (by omega) (by rw [e35]; exact i_suc h4 (by omega)) hR4 ((((((hM'.high (s := 1340) hw25 (by omega)).high (s := 1341) hw25 (by omega)).high (s := 1342) hw25 (by omega)).put (a := r) (b := j) hw25 (by omega)).high (s := 1360) hw25 (by omega)).congr fun r' j' hr hj => ?_) ?_ ?_ ?_ ?_ ?_
            · by_cases e : r' = r ∧ j' = j
              · rw [if_pos e, if_pos (by omega), e.1, e.2]
              · rw [if_neg e]
                by_cases e2 : r' < r ∨ (r' = r ∧ j' < j)
                · rw [if_pos e2, if_pos (by omega)]
                · rw [if_neg e2, if_neg (by omega)]
            · rw [up_ne (by omega), up_ne (by omega), w4]
            · rw [up_ne (by omega), up_ne (by omega), up_ne (by omega), up_ne (by omega), up_ne (by omega), hP]
            · rw [up_ne (by omega), up_ne (by omega), up_ne (by omega), up_ne (by omega), up_ne (by omega), hQ]
            · rw [up_ne (by omega), up_ne (by omega), up_ne (by omega), up_ne (by omega), up_ne (by omega), hU]
            · rw [up_ne (by omega), up_ne (by omega), up_ne (by omega), up_ne (by omega), up_ne (by omega), hW]
        refine S_Mo_cellAt h3 h2 (by omega) (by omega) fun r5 e5 => S_Mo_copy hR' e5 (by omega) c1349 (by omega) fun F1 L1 G1 hR1 => R_Mo_comeIn_41 ?_
        rw [hrc] at hR1
        refine inner (2 * w + 1) 0 F1 L1 G1 WK TP UN _ 0 (by omega) i_0 hR1 ((hM'.high (s := 1349) hw25 (by omega)).congr fun r' j' hr hj => ?_) (by rw [up_ne (by omega)]; exact hD) (by rw [up_ne (by omega)]; exact hP) (up_same ..) (by rw [up_ne (by omega)]; exact hU) (by rw [up_ne (by omega)]; exact hW)
        by_cases e : r' < r
        · rw [if_pos e, if_pos (Or.inl e)]
        · rw [if_neg e, if_neg (by omega)]
  refine T_Mo_comeIn (R_Mo_comeIn_0 (S_Mo_cellAt h1 h2 (by omega) (by omega) fun r1 e1 => S_Mo_copy hR e1 (by omega) c1348 (by omega) fun F1 L1 G1 hR1 => R_Mo_comeIn_13 ?_))
  rw [hM row c (by omega) (by omega)] at hR1
  exact loop (w + 1) 0 F1 L1 G1 wk tp un _ 0 (by omega) i_0 hR1 ((hM.high (s := 1348) hw25 (by omega)).congr fun r' j' hr hj => by rw [if_neg (by omega)]) (by rw [up_ne (by omega)]; exact hd) (up_same ..) (up_ne (by omega)) (up_ne (by omega))
/-- the reference's game is worked -/
def MGd (k l f m : Nat) (T : Nat → Nat → Int) (d : Int) (ins : Nat → Nat) (n : Nat) (mk ml mh mm mn mw mg mc : Int32) (mi : Nat → Int32) (V : Nat → Int) : Prop := MRu k l f m mk ml mm mn ∧ mh.toInt = (f : Int) ∧ mw.toInt = (gw k l f : Int) ∧ mg.toInt = (bnd k f : Int) ∧ mc.toInt = (n : Int) ∧ IR mi ins (gw k l f) ∧ GM V T (gw k l f) ∧ V 1343 = d ∧ V 1358 = T (gw k l f) (2 * gw k l f)
theorem S_Mo_work {rk rl rm rn ways gr came : Int32} {fl ll gl wk gin : Nat → Int32} {tp un : Nat → Int64} {V : Nat → Int} {T : Nat → Nat → Int} {d : Int} {ins : Nat → Nat} {n : Nat} {Q : Int32 → (Nat → Int32) → (Nat → Int32) → (Nat → Int32) → (Nat → Int32) → (Nat → Int64) → (Nat → Int64) → (Nat → Int32) → Prop} (h : MRu k l f m rk rl rm rn) (hw : ways.toInt = (gw k l f : Int)) (hg : gr.toInt = (bnd k f : Int)) (hG : GameOf k l f m T d ins n) (hR : MR fl ll gl V) (hq : ∀ came' fl' ll' gl' wk' tp' un' gin' V', came'.toInt = (n : Int) → MR fl' ll' gl' V' → GM V' T (gw k l f) → V' 1343 = d → V' 1358 = T (gw k l f) (2 * gw k l f) → V' 1344 = V 1344 → V' 1345 = V 1345 → IR gin' ins (gw k l f) → Q came' fl' ll' gl' wk' tp' un' gin') : P_Mo_work vv rk rl rm rn ways gr came fl ll gl wk tp un gin Q := by
  have hw25 := gw_le h.1
  have loop : ∀ (u t : Nat) (F L G WK I : Nat → Int32) (TP UN : Nat → Int64) (V' : Nat → Int) (cm v1 : Int32) (T1 : Nat → Nat → Int) (d1 : Int) (ins1 : Nat → Nat), MR F L G V' → GM V' T1 (gw k l f) → V' 1343 = d1 → V' 1344 = V 1344 → V' 1345 = V 1345 → IR I ins1 (gw k l f) → cm.toInt = (t : Int) → t + u < 1000 → optR (fstC T1 (gw k l f) (2 * gw k l f) 0) v1 → Trace (gw k l f) u T1 d1 ins1 t T d ins n → E_Mo_work_9 vv rk rl rm rn ways gr cm F L G WK TP UN I v1 Q := by
    intro u
    induction u with
    | zero =>
      intro t F L G WK I TP UN V' cm v1 T1 d1 ins1 _ _ _ _ _ _ _ _ _ hT
      exact False.elim hT
    | succ u ih =>
      intro t F L G WK I TP UN V' cm v1 T1 d1 ins1 hR' hM hD hU hW hI hcm ht h1 hT
      obtain ⟨hB, hd1, hT⟩ := hT
      rcases hT with ⟨hT, e1, e2, e3, e4⟩ | ⟨c, r, hc, hr, hT⟩
      · rw [hT] at h1
        have h1' : v1.toInt = -1 := h1
        subst e1 e2 e3 e4
        refine R_Mo_work_9 ⟨fun _ => R_Mo_work_31 (S_Mo_end hw hw25.2 fun r20 e20 => S_Mo_cellAt hw e20 hw25.2 (by omega) fun r21 e21 => R_Mo_work_44 (S_Mo_copy hR' e21 (by omega) c1358 (by omega) fun F2 L2 G2 hR2 => ?_)), fun y => absurd (by rw [i_lt, z_0]; omega) y⟩
        rw [hM _ _ (by omega) (by omega)] at hR2
        exact hq _ _ _ _ _ _ _ _ _ hcm hR2 (hM.high hw25.2 (by omega)) (by rw [up_ne (by omega)]; exact hD) (up_same ..) (by rw [up_ne (by omega)]; exact hU) (by rw [up_ne (by omega)]; exact hW) hI
      · rw [hc] at h1
        have h1' : v1.toInt = (c : Int) := h1
        have hc' := fstC_some hc
        refine R_Mo_work_9 ⟨fun y => absurd y (by rw [i_lt, z_0]; omega), fun _ => S_Mo_rowFor hw hw25.2 hR' hM hI hB h1' (by omega) fun r7 F2 L2 G2 WK2 V2 e7 hR2 hO2 => ?_⟩
        rw [hr] at e7
        have e7' : r7.toInt = (r : Int) := e7
        have hr' := bstR_lt hr
        have hM2 : GM V2 T1 (gw k l f) := fun r' j hr hj => by
          rw [hO2 _ (by simp; omega)]
          exact hM r' j hr hj
        refine S_Mo_comeIn hw hw25.2 hcm (by omega) hR2 hM2 hI hB (d := d1) (by rw [hO2 _ (by simp)]; exact hD) hd1.1 e7' hr'.1 h1' (by omega) fun cm3 F3 L3 G3 WK3 TP3 UN3 I3 V3 g1 g2 g3 g4 g5 g6 g7 => R_Mo_work_23 (S_Mo_firstBelow hw hw25.2 g2 g3 fun r22 e22 => ?_)
        exact ih (t + 1) F3 L3 G3 WK3 I3 TP3 UN3 V3 cm3 r22 _ _ _ g2 g3 g4 (by rw [g5, hO2 _ (by simp)]; exact hU) (by rw [g6, hO2 _ (by simp)]; exact hW) g7 g1 (by omega) e22 hT
  refine T_Mo_work (R_Mo_work_0 (S_Mo_layTable h hw hg hR fun cm1 F1 L1 G1 I1 V1 g1 g2 g3 g4 g5 g6 => S_Mo_firstBelow hw hw25.2 g2 g3 fun r6 e6 => R_Mo_work_8 ?_))
  exact loop 40 0 F1 L1 G1 wk I1 tp un V1 cm1 r6 _ _ _ g2 g3 g4 (g5 _ (by omega) (by omega)) (g5 _ (by omega) (by omega)) g6 g1 (by omega) e6 hG.trace
def mst (a p : Int) : Int := if a < p then p else if a < -p then -p else a
def mxJ (k l f m i : Nat) (a : Int) : Nat → Int
  | 0 => a
  | j + 1 => mst (mxJ k l f m i a j) (payI k l f m i j)
def mxI (k l f m : Nat) : Nat → Int
  | 0 => 0
  | i + 1 => mxJ k l f m i (mxI k l f m i) (gw k l f)
theorem mx0 : ∀ l, l < 2 → ∀ f, f < 5 → l < f → ∀ m, m < 6 → 2 ≤ m → mxI 0 l f m (gw 0 l f) + 1 = bnd 0 f := by decide +kernel
theorem mx1 : ∀ l, l < 2 → ∀ f, f < 5 → l < f → mxI 1 l f 0 (gw 1 l f) + 1 = bnd 1 f := by decide +kernel
theorem mx2 : ∀ l, l < 2 → ∀ f, f < 5 → l < f → mxI 2 l f 0 (gw 2 l f) + 1 = bnd 2 f := by decide +kernel
theorem mx_all (h : RuleOK k l f m) : mxI k l f m (gw k l f) + 1 = bnd k f := by
  obtain ⟨h1, h2, h3, h4, h5, h6⟩ := h
  by_cases e0 : k = 0
  · subst e0
    have := h5 rfl
    exact mx0 l (by omega) f (by omega) (by omega) m (by omega) (by omega)
  · have hm := h6 e0
    subst hm
    by_cases e1 : k = 1
    · subst e1
      exact mx1 l (by omega) f (by omega) (by omega)
    · have e2 : k = 2 := by omega
      subst e2
      exact mx2 l (by omega) f (by omega) (by omega)
theorem mst_bd {a p : Int} (ha : 0 ≤ a ∧ a ≤ 8) (hp : -8 ≤ p ∧ p ≤ 8) : 0 ≤ mst a p ∧ mst a p ≤ 8 := by
  unfold mst
  split
  · omega
  · split <;> omega
theorem S_Mo_layRule {mk ml mh mm mn mw mg mc v1 v2 v3 v4 : Int32} {fl ll gl wk gin : Nat → Int32} {tp un : Nat → Int64} {V : Nat → Int} {T : Nat → Nat → Int} {d : Int} {ins : Nat → Nat} {n : Nat} {Q : Int32 → Int32 → Int32 → Int32 → Int32 → Int32 → Int32 → Int32 → (Nat → Int32) → (Nat → Int32) → (Nat → Int32) → (Nat → Int32) → (Nat → Int64) → (Nat → Int64) → (Nat → Int32) → Prop} (hr : RuleOK k l f m) (h1 : v1.toInt = (k : Int)) (h2 : v2.toInt = (l : Int)) (h3 : v3.toInt = (f : Int)) (h4 : k = 0 → v4.toInt = (m : Int)) (hG : GameOf k l f m T d ins n) (hR : MR fl ll gl V) (hq : ∀ mk' ml' mh' mm' mn' mw' mg' mc' fl' ll' gl' wk' tp' un' gin' V', MR fl' ll' gl' V' → MGd k l f m T d ins n mk' ml' mh' mm' mn' mw' mg' mc' gin' V' → V' 1344 = V 1344 → V' 1345 = V 1345 → Q mk' ml' mh' mm' mn' mw' mg' mc' fl' ll' gl' wk' tp' un' gin') : P_Mo_layRule vv mk ml mh mm mn mw mg mc fl ll gl wk tp un gin v1 v2 v3 v4 Q := by
  have hw := gw_le hr
  have hn := gn_le hr
  have hr' := hr
  unfold RuleOK at hr'
  have mid : ∀ s1 : Int32, s1.toInt = (m : Int) → E_Mo_layRule_26 vv v1 v2 v3 mm mn mw mg mc fl ll gl wk tp un gin v1 v2 v3 s1 Q := by
    intro s1 hs1
    refine R_Mo_layRule_26 fun x1 e1 => ?_
    have hx1 : x1.toInt = (gn l f : Int) := by
      rw [e1, hn.2.2]
      exact i_addN (i_subN h3 h2 (by omega)) i_1 (by omega)
    have hM : MRu k l f m v1 v2 s1 x1 := ⟨hr, h1, h2, hs1, hx1⟩
    have main : ∀ W : Int32, W.toInt = (gw k l f : Int) → E_Mo_layRule_59 vv v1 v2 v3 s1 x1 mw mg mc fl ll gl wk tp un gin W Q := by
      intro W hW
      have loop : ∀ (u i : Nat) (v5 v6 : Int32), i + u = gw k l f → v6.toInt = (i : Int) → v5.toInt = mxI k l f m i → (0 ≤ v5.toInt ∧ v5.toInt ≤ 8) → E_Mo_layRule_68 vv v1 v2 v3 s1 x1 W mg mc fl ll gl wk tp un gin v5 v6 Q := by
        intro u
        induction u with
        | zero =>
          intro i v5 v6 hu h6 h5 hb
          have : i = gw k l f := by omega
          subst this
          refine R_Mo_layRule_68 ⟨fun _ => R_Mo_layRule_143 fun x2 e2 => ?_, fun y => absurd (by rw [i_le]; omega) y⟩
          have hx2 : x2.toInt = (bnd k f : Int) := by rw [e2, i_add rfl z_1 (by omega) (by omega), h5]; exact mx_all hr
          refine S_Mo_work hM hW hx2 hG hR fun c3 F L G WK TP UN I V' g1 g2 g3 g4 g5 g6 g7 g8 => hq _ _ _ _ _ _ _ _ _ _ _ _ _ _ _ V' g2 ⟨hM, h3, hW, hx2, g1, g8, g3, g4, g5⟩ g6 g7
        | succ u ih =>
          intro i v5 v6 hu h6 h5 hb
          have inner : ∀ (u' j : Nat) (v5 v7 : Int32), j + u' = gw k l f → v7.toInt = (j : Int) → v5.toInt = mxJ k l f m i (mxI k l f m i) j → (0 ≤ v5.toInt ∧ v5.toInt ≤ 8) → E_Mo_layRule_80 vv v1 v2 v3 s1 x1 W mg mc fl ll gl wk tp un gin v5 v6 v7 Q := by
            intro u'
            induction u' with
            | zero =>
              intro j v5 v7 hu' h7 h5 hb
              have : j = gw k l f := by omega
              subst this
              refine R_Mo_layRule_80 ⟨fun _ => R_Mo_layRule_137 fun x12 e12 => ih (i + 1) v5 x12 (by omega) (by rw [e12]; exact i_suc h6 (by omega)) h5 hb, fun y => absurd (by rw [i_le]; omega) y⟩
            | succ u' ih' =>
              intro j v5 v7 hu' h7 h5 hb
              have hp := pay_bd hr (i := i) (j := j) (by omega) (by omega)
              have next : ∀ s0 : Int32, s0.toInt = mst v5.toInt (payI k l f m i j) → E_Mo_layRule_129 vv v1 v2 v3 s1 x1 W mg mc fl ll gl wk tp un gin v6 v7 s0 Q := by
                intro s0 hs0
                have hb' := mst_bd hb hp
                refine R_Mo_layRule_129 fun x13 e13 => ih' (j + 1) s0 x13 (by omega) (by rw [e13]; exact i_suc h7 (by omega)) ?_ (by omega)
                rw [hs0, h5]
                rfl
              refine R_Mo_layRule_80 ⟨fun y => absurd y (by rw [i_le]; omega), fun _ => S_Mo_payOf hM h6 (by omega) h7 (by omega) fun r11 e11 => ?_⟩
              have hneg := i_sub z_0 e11 (by omega) (by omega)
              unfold mst at next
              refine ⟨fun y => R_Mo_layRule_111 ⟨fun y2 => R_Mo_layRule_127 (next _ ?_), fun y2 => next _ ?_⟩, fun y => next _ ?_⟩
              · rw [i_le, e11] at y
                rw [i_le, hneg] at y2
                rw [if_neg (by omega), if_neg (by omega)]
              · rw [i_le, e11] at y
                rw [i_le, hneg] at y2
                rw [if_neg (by omega), if_pos (by omega), hneg]
                omega
              · rw [i_le, e11] at y
                rw [if_pos (by omega), e11]
          exact R_Mo_layRule_68 ⟨fun y => absurd y (by rw [i_le]; omega), fun _ => inner (gw k l f) 0 v5 0 (by omega) i_0 h5 hb⟩
      exact R_Mo_layRule_59 (loop (gw k l f) 0 0 0 (by omega) i_0 z_0 (by rw [z_0]; omega))
    refine ⟨fun e => R_Mo_layRule_50 (main _ ?_), fun e => main _ ?_⟩
    · rw [i_lit0 h1] at e
      have e2 : gw k l f = gn l f * gn l f := if_neg e
      rw [e2]
      exact i_mulN hx1 hx1 (by omega)
    · rw [i_lit0 h1] at e
      have e2 : gw k l f = gn l f := if_pos e
      rw [e2]
      exact hx1
  refine T_Mo_layRule (R_Mo_layRule_0 ⟨fun e => R_Mo_layRule_25 (mid 0 ?_), fun e => mid v4 ?_⟩)
  · rw [i_lit0 h1] at e
    rw [hr'.2.2.2.2.2 e]
    exact i_0
  · rw [i_lit0 h1] at e
    exact h4 e
end GAMEM2
