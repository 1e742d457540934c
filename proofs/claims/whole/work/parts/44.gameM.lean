/-! THE STEPS in the reference -/
def GM (V : Nat → Int) (T : Nat → Nat → Int) (w : Nat) : Prop := ∀ r j, r ≤ w → j ≤ 2 * w → V (51 * r + j) = T r j
theorem GM.congr {V : Nat → Int} {T T' : Nat → Nat → Int} {w : Nat} (h : GM V T w) (e : ∀ r j, r ≤ w → j ≤ 2 * w → T r j = T' r j) : GM V T' w := fun r j hr hj => by rw [h r j hr hj, e r j hr hj]
theorem GM.put {V : Nat → Int} {T : Nat → Nat → Int} {w a b : Nat} {z : Int} (h : GM V T w) (hw : w ≤ 25) (hb : b ≤ 2 * w) : GM (up V (51 * a + b) z) (fun r j => if r = a ∧ j = b then z else T r j) w := fun r j hr hj => by
  show _ = if r = a ∧ j = b then z else T r j
  by_cases e : r = a ∧ j = b
  · rw [if_pos e, e.1, e.2, up_same]
  · rw [if_neg e, up_ne (by omega)]
    exact h r j hr hj
theorem GM.high {V : Nat → Int} {T : Nat → Nat → Int} {w s : Nat} {z : Int} (h : GM V T w) (hw : w ≤ 25) (hs : 1326 ≤ s) : GM (up V s z) T w := fun r j hr hj => by
  rw [up_ne (by omega)]
  exact h r j hr hj
theorem ixm {x y : Int32} {r j : Nat} (hx : x.toInt = (r : Int)) (hy : y.toInt = (j : Int)) (hr : r ≤ 25) (hj : j ≤ 50) : ((51 : Int32) * x + y).toInt = ((51 * r + j : Nat) : Int) := i_addN (i_mulN z_51 hx (by omega)) hy (by omega)
section GAMEM
variable {vv : Nat → Value} {k l f m : Nat}
theorem S_Mo_cellAt {v1 v2 : Int32} {r j : Nat} {Q : Int32 → Prop} (h1 : v1.toInt = (r : Int)) (h2 : v2.toInt = (j : Int)) (hr : r ≤ 25) (hj : j ≤ 50) (hq : ∀ x : Int32, x.toInt = ((51 * r + j : Nat) : Int) → Q x) : P_Mo_cellAt vv v1 v2 Q := T_Mo_cellAt (R_Mo_cellAt_0 (hq _ (ixm h1 h2 hr hj)))
theorem S_Mo_end {ways : Int32} {w : Nat} {Q : Int32 → Prop} (h : ways.toInt = (w : Int)) (hw : w ≤ 25) (hq : ∀ x : Int32, x.toInt = ((2 * w : Nat) : Int) → Q x) : P_Mo_end vv ways Q := T_Mo_end (R_Mo_end_0 (hq _ (i_two h (by omega))))
theorem pow1 {z : Int} (h : -67108864 < z ∧ z < 67108864) : z.natAbs < BB ^ 1 := by
  rw [Nat.pow_one]
  show _ < 1073741824
  omega
theorem powB {z : Int} {n : Nat} (h : z.natAbs < BB ^ 2) (hn : 2 ≤ n) : z.natAbs < BB ^ n := Nat.lt_of_lt_of_le h (Nat.pow_le_pow_right (by decide) hn)
theorem pow2 {z : Int} (h1 : -1152921504606846976 < z) (h2 : z < 1152921504606846976) : z.natAbs < BB ^ 2 := by
  show _ < 1152921504606846976
  omega
theorem S_Mo_layTable {rk rl rm rn ways gr came : Int32} {fl ll gl ins : Nat → Int32} {V : Nat → Int} {Q : Int32 → (Nat → Int32) → (Nat → Int32) → (Nat → Int32) → (Nat → Int32) → Prop} (h : MRu k l f m rk rl rm rn) (hw : ways.toInt = (gw k l f : Int)) (hg : gr.toInt = (bnd k f : Int)) (hR : MR fl ll gl V) (hq : ∀ came' fl' ll' gl' ins' V', came'.toInt = 0 → MR fl' ll' gl' V' → GM V' (T0 k l f m) (gw k l f) → V' 1343 = 1 → (∀ s, 1340 ≤ s → s ≠ 1343 → V' s = V s) → IR ins' (I0 k l f) (gw k l f) → Q came' fl' ll' gl' ins') : P_Mo_layTable vv rk rl rm rn ways gr came fl ll gl ins Q := by
  have hw25 := gw_le h.1
  have hI : ∀ i, i < gw k l f → I0 k l f i = gw k l f + i := fun i hi => I0_eq hi
  have hT : ∀ r j, r ≤ gw k l f → j ≤ 2 * gw k l f → T0 k l f m r j = tab0 k l f m r j := fun r j hr hj => T0_eq hr hj
  have hbnd : (bnd k f : Int) ≤ 9 := by
    have h0 := h.1
    unfold RuleOK at h0
    unfold bnd
    split <;> omega
  have hlast : ∀ (u i : Nat) (F L G I : Nat → Int32) (V' : Nat → Int) (v1 : Int32), i + u = gw k l f → v1.toInt = (i : Int) → MR F L G V' → GM V' (T0 k l f m) (gw k l f) → (∀ s, 1340 ≤ s → V' s = V s) → (∀ i', i' < i → (I i').toInt = ((gw k l f + i' : Nat) : Int)) → E_Mo_layTable_122 vv rk rl rm rn ways gr came F L G I v1 Q := by
    intro u
    induction u with
    | zero =>
      intro i F L G I V' v1 hu h1 hR' hM hV hI'
      refine R_Mo_layTable_122 ⟨fun _ => R_Mo_layTable_148 (S_Mo_set hR' c1343 (by omega) zL1 (by omega) fun F' L' G' hR2 => hq _ _ _ _ _ _ z_0 hR2 (hM.high hw25.2 (by omega)) (up_same ..) (fun s hs hs2 => by rw [up_ne hs2]; exact hV s hs) fun i' hi' => by rw [hI i' hi']; exact hI' i' (by omega)), fun y => absurd (by rw [i_le]; omega) y⟩
    | succ u ih =>
      intro i F L G I V' v1 hu h1 hR' hM hV hI'
      refine R_Mo_layTable_122 ⟨fun y => absurd y (by rw [i_le]; omega), fun _ => ⟨i_in h1 (by omega), fun x2 e2 => ?_⟩⟩
      rw [i_nat h1]
      refine ih (i + 1) F L G _ V' x2 (by omega) (by rw [e2]; exact i_suc h1 (by omega)) hR' hM hV fun i' hi' => ?_
      by_cases e : i' = i
      · rw [e, up_same]; exact i_addN hw h1 (by omega)
      · rw [up_ne e]; exact hI' i' (by omega)
  have loop : ∀ (u r : Nat) (F L G : Nat → Int32) (V' : Nat → Int) (v1 : Int32), r + u = gw k l f + 1 → v1.toInt = (r : Int) → MR F L G V' → (∀ r' j, r' < r → j ≤ 2 * gw k l f → V' (51 * r' + j) = tab0 k l f m r' j) → (∀ s, 1340 ≤ s → V' s = V s) → E_Mo_layTable_2 vv rk rl rm rn ways gr came F L G ins v1 Q := by
    intro u
    induction u with
    | zero =>
      intro r F L G V' v1 hu h1 hR' hM hV
      exact R_Mo_layTable_2 ⟨fun _ => R_Mo_layTable_120 (hlast (gw k l f) 0 F L G ins V' 0 (by omega) i_0 hR' (fun r' j hr hj => by rw [hT r' j hr hj]; exact hM r' j (by omega) hj) hV fun i' hi' => by omega), fun y => absurd (by rw [i_lt]; omega) y⟩
    | succ u ih =>
      intro r F L G V' v1 hu h1 hR' hM hV
      have inner : ∀ (u' c : Nat) (F L G : Nat → Int32) (V' : Nat → Int) (v2 : Int32), c + u' = 2 * gw k l f + 1 → v2.toInt = (c : Int) → MR F L G V' → (∀ r' j, r' < r → j ≤ 2 * gw k l f → V' (51 * r' + j) = tab0 k l f m r' j) → (∀ j, j < c → V' (51 * r + j) = tab0 k l f m r j) → (∀ s, 1340 ≤ s → V' s = V s) → E_Mo_layTable_12 vv rk rl rm rn ways gr came F L G ins v1 v2 Q := by
        intro u'
        induction u' with
        | zero =>
          intro c F L G V' v2 hu' h2 hR' hM hRow hV
          refine R_Mo_layTable_12 (S_Mo_end hw hw25.2 fun r1 e1 => ⟨fun _ => R_Mo_layTable_114 fun x3 e3 => ?_, fun y => absurd (by rw [i_lt]; omega) y⟩)
          refine ih (r + 1) F L G V' x3 (by omega) (by rw [e3]; exact i_suc h1 (by omega)) hR' (fun r' j hr hj => ?_) hV
          by_cases e : r' = r
          · rw [e]; exact hRow j (by omega)
          · exact hM r' j (by omega) hj
        | succ u' ih' =>
          intro c F L G V' v2 hu' h2 hR' hM hRow hV
          have go : ∀ s0 : Int64, s0.toInt = tab0 k l f m r c → (-100 < tab0 k l f m r c) → E_Mo_layTable_96 vv rk rl rm rn ways gr came F L G ins v1 v2 s0 Q := by
            intro s0 hs0 hlo
            refine R_Mo_layTable_96 (S_Mo_cellAt h1 h2 (by omega) (by omega) fun r5 e5 => S_Mo_set hR' e5 (by omega) hs0 (by omega) fun F' L' G' hR2 => R_Mo_layTable_108 fun x13 e13 => ?_)
            refine ih' (c + 1) F' L' G' _ x13 (by omega) (by rw [e13]; exact i_suc h2 (by omega)) hR2 (fun r' j hr hj => by rw [up_ne (by omega)]; exact hM r' j hr hj) (fun j hj => ?_) (fun s hs => by rw [up_ne (by omega)]; exact hV s hs)
            by_cases e : j = c
            · rw [e, up_same]
            · rw [up_ne (by omega)]; exact hRow j (by omega)
          refine R_Mo_layTable_12 (S_Mo_end hw hw25.2 fun r1 e1 => ⟨fun y => absurd y (by rw [i_lt]; omega), fun _ => ⟨fun y => ?_, fun y => ⟨fun y2 => R_Mo_layTable_42 ?_, fun y2 => ?_⟩⟩⟩)
          · rw [i_eq, h1, hw] at y
            refine R_Mo_layTable_46 ⟨fun y2 => R_Mo_layTable_69 (S_Mo_end hw hw25.2 fun r12 e12 => ⟨fun y3 => ?_, fun y3 => ?_⟩), fun y2 => ?_⟩
            · rw [i_le, h2, hw] at y2
              rw [i_eq, h2, e12] at y3
              have hsb := i_subN h2 hw (by omega)
              refine R_Mo_layTable_81 ⟨fun y4 => R_Mo_layTable_95 (go 0 ?_ ?_), fun y4 => go 1 ?_ ?_⟩
              · rw [i_eq, hsb, h1] at y4
                unfold tab0
                rw [if_neg (by omega), if_neg (by omega), if_neg (by omega), if_neg (by omega), zL0]
              · rw [i_eq, hsb, h1] at y4
                unfold tab0
                rw [if_neg (by omega), if_neg (by omega), if_neg (by omega), if_neg (by omega)]
                omega
              · rw [i_eq, hsb, h1] at y4
                unfold tab0
                rw [if_neg (by omega), if_neg (by omega), if_neg (by omega), if_pos (by omega), zL1]
              · rw [i_eq, hsb, h1] at y4
                unfold tab0
                rw [if_neg (by omega), if_neg (by omega), if_neg (by omega), if_pos (by omega)]
                omega
            · rw [i_le, h2, hw] at y2
              rw [i_eq, h2, e12] at y3
              refine go 1 ?_ ?_
              · unfold tab0
                rw [if_neg (by omega), if_neg (by omega), if_pos (by omega), zL1]
              · unfold tab0
                rw [if_neg (by omega), if_neg (by omega), if_pos (by omega)]
                omega
            · rw [i_le, h2, hw] at y2
              have hp := pay_bd h.1 (i := r) (j := c) (by omega) (by omega)
              refine S_Mo_payOf h h1 (by omega) h2 (by omega) fun r4 e4 => go _ ?_ ?_
              · unfold tab0
                rw [if_neg (by omega), if_pos (by omega)]
                exact i_wide (i_add e4 hg (by omega) (by omega))
              · unfold tab0
                rw [if_neg (by omega), if_pos (by omega)]
                omega
          · rw [i_eq, h1, hw] at y
            rw [i_le, h2, hw] at y2
            refine go 0 ?_ ?_
            · unfold tab0
              rw [if_pos (by omega), if_neg (by omega), zL0]
            · unfold tab0
              rw [if_pos (by omega), if_neg (by omega)]
              omega
          · rw [i_eq, h1, hw] at y
            rw [i_le, h2, hw] at y2
            refine go (-1) ?_ ?_
            · unfold tab0
              rw [if_pos (by omega), if_pos (by omega), zLm1]
            · unfold tab0
              rw [if_pos (by omega), if_pos (by omega)]
              omega
      refine R_Mo_layTable_2 ⟨fun y => absurd y (by rw [i_lt]; omega), fun _ => inner (2 * gw k l f + 1) 0 F L G V' 0 (by omega) i_0 hR' hM (fun j hj => by omega) hV⟩
  exact T_Mo_layTable (R_Mo_layTable_0 (loop (gw k l f + 1) 0 fl ll gl V 0 (by omega) i_0 hR (fun r' j hr => by omega) (fun _ _ => rfl)))
theorem S_Mo_firstBelow {ways : Int32} {w : Nat} {fl ll gl : Nat → Int32} {V : Nat → Int} {T : Nat → Nat → Int} {Q : Int32 → Prop} (hw : ways.toInt = (w : Int)) (hw25 : w ≤ 25) (hR : MR fl ll gl V) (hM : GM V T w) (hq : ∀ r : Int32, optR (fstC T w (2 * w) 0) r → Q r) : P_Mo_firstBelow vv ways gl Q := by
  have loop : ∀ (u j : Nat) (v1 : Int32), j + u = 2 * w → v1.toInt = (j : Int) → (∀ r : Int32, optR (fstC T w u j) r → Q r) → E_Mo_firstBelow_2 vv ways gl v1 Q := by
    intro u
    induction u with
    | zero =>
      intro j v1 hj h1 hq
      exact R_Mo_firstBelow_2 (S_Mo_end hw hw25 fun r1 e1 => ⟨fun _ => R_Mo_firstBelow_35 (hq _ z_m1), fun c => absurd (by rw [i_le]; omega) c⟩)
    | succ u ih =>
      intro j v1 hj h1 hq
      refine R_Mo_firstBelow_2 (S_Mo_end hw hw25 fun r1 e1 => ⟨fun c => absurd c (by rw [i_le]; omega), fun _ => S_Mo_cellAt hw h1 hw25 (by omega) fun r2 e2 => R_Mo_firstBelow_23 ⟨i_in e2 (by omega), fun c => R_Mo_firstBelow_29 fun x3 e3 => ?_, fun c => hq _ ?_⟩⟩)
      · rw [i_nat e2, i_le, z_0, hR.sgn (by omega), hM w j (by omega) (by omega)] at c
        have sg := sgn_cases (T w j)
        refine ih (j + 1) x3 (by omega) (by rw [e3]; exact i_suc h1 (by omega)) fun r hr => hq r ?_
        simp only [fstC]
        rw [if_neg (by omega)]
        exact hr
      · rw [i_nat e2, i_le, z_0, hR.sgn (by omega), hM w j (by omega) (by omega)] at c
        have sg := sgn_cases (T w j)
        simp only [fstC]
        rw [if_pos (by omega)]
        exact h1
  exact T_Mo_firstBelow (R_Mo_firstBelow_0 (loop (2 * w) 0 0 (by omega) i_0 hq))
theorem S_Mo_rowFor {ways v1 : Int32} {w c : Nat} {fl ll gl wk gin : Nat → Int32} {V : Nat → Int} {T : Nat → Nat → Int} {ins : Nat → Nat} {Q : Int32 → (Nat → Int32) → (Nat → Int32) → (Nat → Int32) → (Nat → Int32) → Prop} (hw : ways.toInt = (w : Int)) (hw25 : w ≤ 25) (hR : MR fl ll gl V) (hM : GM V T w) (hi : IR gin ins w) (hB : Bd T w) (h1 : v1.toInt = (c : Int)) (hc : c < 2 * w) (hq : ∀ (r : Int32) fl' ll' gl' wk' V', optR (bstR T ins c (2 * w) w) r → MR fl' ll' gl' V' → Off [1340, 1341] V V' → Q r fl' ll' gl' wk') : P_Mo_rowFor vv ways fl ll gl wk gin v1 Q := by
  have loop : ∀ (u i : Nat) (F L G WK : Nat → Int32) (V' : Nat → Int) (v2 v3 : Int32), i + u = w → v3.toInt = (i : Int) → optR (bstR T ins c (2 * w) i) v2 → MR F L G V' → Off [1340, 1341] V V' → E_Mo_rowFor_4 vv ways F L G WK gin v1 v2 v3 Q := by
    intro u
    induction u with
    | zero =>
      intro i F L G WK V' v2 v3 hu h3 h2 hR' hO
      have : i = w := by omega
      subst this
      exact R_Mo_rowFor_4 ⟨fun _ => R_Mo_rowFor_130 (hq _ _ _ _ _ V' h2 hR' hO), fun y => absurd (by rw [i_le]; omega) y⟩
    | succ u ih =>
      intro i F L G WK V' v2 v3 hu h3 h2 hR' hO
      have hcell : ∀ r j, r ≤ w → j ≤ 2 * w → V' (51 * r + j) = T r j := fun r j hr hj => by
        rw [hO (51 * r + j) (by simp; omega)]
        exact hM r j hr hj
      have next : ∀ (F L G WK : Nat → Int32) (V'' : Nat → Int) (v2' : Int32), optR (bstR T ins c (2 * w) (i + 1)) v2' → MR F L G V'' → Off [1340, 1341] V V'' → E_Mo_rowFor_124 vv ways F L G WK gin v1 v2' v3 Q := fun F L G WK V'' v2' h2' hR'' hO'' => R_Mo_rowFor_124 fun x3 e3 => ih (i + 1) F L G WK V'' v2' x3 (by omega) (by rw [e3]; exact i_suc h3 (by omega)) h2' hR'' hO''
      refine R_Mo_rowFor_4 ⟨fun y => absurd y (by rw [i_le]; omega), fun _ => S_Mo_cellAt h3 h1 (by omega) (by omega) fun r1 e1 => ⟨i_in e1 (by omega), fun y => next F L G WK V' v2 ?_ hR' hO, fun y => ?_⟩⟩
      · rw [i_nat e1, i_le, z_0, hR'.sgn (by omega), hcell i c (by omega) (by omega)] at y
        have sg := sgn_cases (T i c)
        simp only [bstR]
        cases e : bstR T ins c (2 * w) i with
        | none =>
          rw [e] at h2
          simp only
          rw [if_neg (by omega)]
          exact h2
        | some b =>
          rw [e] at h2
          simp only
          rw [if_neg (by omega)]
          exact h2
      · rw [i_nat e1, i_le, z_0, hR'.sgn (by omega), hcell i c (by omega) (by omega)] at y
        have sg := sgn_cases (T i c)
        cases e : bstR T ins c (2 * w) i with
        | none =>
          rw [e] at h2
          have h2' : v2.toInt = -1 := h2
          have hlt : v2 < 0 := by rw [i_lt, z_0]; omega
          refine ⟨fun _ => R_Mo_rowFor_89 ⟨fun _ => R_Mo_rowFor_118 (R_Mo_rowFor_123 (next F L G WK V' v3 ?_ hR' hO)), fun z => absurd hlt z⟩, fun z => absurd hlt z⟩
          simp only [bstR, e]
          rw [if_pos (by omega)]
          exact h3
        | some b =>
          rw [e] at h2
          have h2' : v2.toInt = (b : Int) := h2
          have hb := (bstR_lt e).1
          have hnl : ¬ v2 < 0 := by rw [i_lt, z_0]; omega
          refine ⟨fun z => absurd z hnl, fun _ => S_Mo_end hw hw25 fun r2 e2 => R_Mo_rowFor_40 (S_Mo_cellAt h3 e2 (by omega) (by omega) fun r4 e4 => S_Mo_cellAt h2' h1 (by omega) (by omega) fun r5 e5 => R_Mo_rowFor_49 ?_)⟩
          have p1 := pow1 (hB i (2 * w) (by omega) (by omega))
          have p2 := pow1 (hB b c (by omega) (by omega))
          have p3 := pow1 (hB b (2 * w) (by omega) (by omega))
          have p4 := pow1 (hB i c (by omega) (by omega))
          refine S_Mo_times 1 1 hR' e4 (by omega) e5 (by omega) c1340 (by omega) (by rw [hcell _ _ (by omega) (by omega)]; exact p1) (by rw [hcell _ _ (by omega) (by omega)]; exact p2) (by omega) fun F1 L1 G1 WK1 hR1 => S_Mo_end hw hw25 fun r10 e10 => R_Mo_rowFor_62 (S_Mo_cellAt h2' e10 (by omega) (by omega) fun r11 e11 => S_Mo_cellAt h3 h1 (by omega) (by omega) fun r12 e12 => R_Mo_rowFor_71 ?_)
          rw [hcell _ _ (by omega) (by omega), hcell _ _ (by omega) (by omega)] at hR1
          refine S_Mo_times 1 1 hR1 e11 (by omega) e12 (by omega) c1341 (by omega) (by rw [up_ne (by omega), hcell _ _ (by omega) (by omega)]; exact p3) (by rw [up_ne (by omega), hcell _ _ (by omega) (by omega)]; exact p4) (by omega) fun F2 L2 G2 WK2 hR2 => ?_
          rw [up_ne (f := V') (show 51 * b + 2 * w ≠ 1340 by omega), up_ne (f := V') (show 51 * i + c ≠ 1340 by omega), hcell _ _ (by omega) (by omega), hcell _ _ (by omega) (by omega)] at hR2
          refine S_Mo_compare hR2 c1340 (by omega) c1341 (by omega) fun r17 e17 => R_Mo_rowFor_87 ?_
          rw [up_ne (show 1340 ≠ 1341 by omega), up_same, up_same] at e17
          have hO2 := (hO.up (t := 1340) (T i (2 * w) * T b c) (by simp)).up (t := 1341) (T b (2 * w) * T i c) (by simp)
          have yes : betR T ins c (2 * w) i b → E_Mo_rowFor_118 vv ways F2 L2 G2 WK2 gin v1 v3 Q := fun hb' => R_Mo_rowFor_118 (R_Mo_rowFor_123 (next F2 L2 G2 WK2 _ v3 (by
            simp only [bstR, e]
            rw [if_pos (by omega), if_pos ((betR_iff ..).mp hb')]
            exact h3) hR2 hO2))
          have no : ¬ betR T ins c (2 * w) i b → E_Mo_rowFor_122 vv ways F2 L2 G2 WK2 gin v1 v2 v3 Q := fun hb' => R_Mo_rowFor_122 (R_Mo_rowFor_123 (next F2 L2 G2 WK2 _ v2 (by
            simp only [bstR, e]
            rw [if_pos (by omega), if_neg (fun z => hb' ((betR_iff ..).mpr z))]
            exact h2) hR2 hO2))
          unfold cmpI at e17
          refine R_Mo_rowFor_89 ⟨fun z => absurd z hnl, fun _ => ⟨fun z => yes (Or.inl ?_), fun z => ⟨fun z2 => no ?_, fun z2 => ⟨i_in h3 (by omega), i_in h2' (by omega), fun z3 => no ?_, fun z3 => yes (Or.inr ⟨?_, ?_⟩)⟩⟩⟩⟩
          · rw [i_lt, z_0, e17] at z
            split at z
            · assumption
            · split at z <;> omega
          · rw [i_lt, z_0, e17] at z
            rw [i_eq, z_0, e17] at z2
            unfold betR
            split at z
            · omega
            · split at z2 <;> omega
          · rw [i_nat h3, i_nat h2', i_le, hi b (by omega), hi i (by omega)] at z3
            rw [i_lt, z_0, e17] at z
            unfold betR
            split at z
            · omega
            · omega
          · rw [i_eq, z_0, e17] at z2
            split at z2
            · omega
            · split at z2 <;> omega
          · rw [i_nat h3, i_nat h2', i_le, hi b (by omega), hi i (by omega)] at z3
            omega
  exact T_Mo_rowFor (R_Mo_rowFor_0 (loop w 0 fl ll gl wk V (-1) 0 (by omega) i_0 z_m1 hR (Off.refl _ V)))
end GAMEM
