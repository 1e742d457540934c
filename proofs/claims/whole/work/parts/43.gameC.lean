/-! THE STEPS in the class -/
def optR (o : Option Nat) (r : Int32) : Prop := match o with
  | none => r.toInt = -1
  | some c => r.toInt = (c : Int)
def GC (cells : Nat → Int64) (T : Nat → Nat → Int) (w : Nat) : Prop := ∀ r j, r ≤ w → j ≤ 2 * w → (cells (51 * r + j)).toInt = T r j
def IR (g : Nat → Int32) (ins : Nat → Nat) (w : Nat) : Prop := ∀ i, i < w → (g i).toInt = (ins i : Int)
theorem ixg {x y : Int32} {r j : Nat} (hx : x.toInt = (r : Int)) (hy : y.toInt = (j : Int)) (hr : r ≤ 25) (hj : j ≤ 50) : vp_in (x * 51 + y) 1326 ∧ (x * 51 + y).toNatClampNeg = 51 * r + j := by
  have h : (x * 51 + y).toInt = ((51 * r + j : Nat) : Int) := by
    rw [i_addN (i_mulN hx z_51 (by omega)) hy (by omega)]
    omega
  exact ⟨i_in h (by omega), i_nat h⟩
theorem mul_bd {a b : Int} (ha : -67108864 < a ∧ a < 67108864) (hb : -67108864 < b ∧ b < 67108864) : -4503599627370496 ≤ a * b ∧ a * b ≤ 4503599627370496 := by
  have h : (a * b).natAbs ≤ 67108864 * 67108864 := by
    rw [Int.natAbs_mul]
    exact Nat.mul_le_mul (by omega) (by omega)
  omega
section GAMEC
variable {vv : Nat → Value} {w : Nat} {gwi : Int32} {cells : Nat → Int64} {T : Nat → Nat → Int} {gin : Nat → Int32} {ins : Nat → Nat}
theorem i_two {x : Int32} {a : Nat} (h : x.toInt = (a : Int)) (ha : a < 1000000) : ((2 : Int32) * x).toInt = ((2 * a : Nat) : Int) := i_mulN i_2 h (by omega)
theorem S_Game_findColumn {Q : Int32 → Prop} (hw : gwi.toInt = (w : Int)) (hw25 : w ≤ 25) (h : GC cells T w) (hq : ∀ r : Int32, optR (fstC T w (2 * w) 0) r → Q r) : P_Game_findColumn vv gwi cells Q := by
  have h2w := i_two hw (by omega)
  have loop : ∀ (u j : Nat) (v1 : Int32), j + u = 2 * w → v1.toInt = (j : Int) → (∀ r : Int32, optR (fstC T w u j) r → Q r) → E_Game_findColumn_2 vv gwi cells v1 Q := by
    intro u
    induction u with
    | zero =>
      intro j v1 hj h1 hq
      exact R_Game_findColumn_2 ⟨fun _ => R_Game_findColumn_39 (hq _ z_m1), fun c => absurd (by rw [i_le]; omega) c⟩
    | succ u ih =>
      intro j v1 hj h1 hq
      have hi := ixg hw h1 hw25 (by omega)
      have hc := h w j (Nat.le_refl _) (by omega)
      refine R_Game_findColumn_2 ⟨fun c => absurd c (by rw [i_le]; omega), fun _ => ⟨hi.1, fun c => R_Game_findColumn_33 fun x1 e1 => ?_, fun c => hq _ ?_⟩⟩
      · rw [hi.2, lg_ge0, hc, zL0] at c
        refine ih (j + 1) x1 (by omega) (by rw [e1]; exact i_suc h1 (by omega)) fun r hr => hq r ?_
        simp only [fstC]
        rw [if_neg (by omega)]
        exact hr
      · rw [hi.2, lg_ge0, hc, zL0] at c
        simp only [fstC]
        rw [if_pos (by omega)]
        exact h1
  exact T_Game_findColumn (R_Game_findColumn_0 (loop (2 * w) 0 0 (by omega) i_0 hq))
theorem S_Game_goesBefore {Q : Int32 → Prop} {v1 v2 v3 : Int32} {i b c : Nat} (hw : gwi.toInt = (w : Int)) (hw25 : w ≤ 25) (h : GC cells T w) (hi : IR gin ins w) (hB : Bd T w) (h1 : v1.toInt = (i : Int)) (hi' : i < w) (h2 : v2.toInt = (b : Int)) (hb : b < w) (h3 : v3.toInt = (c : Int)) (hc : c < 2 * w) (hq : ∀ r : Int32, (r = 1 ∧ betR T ins c (2 * w) i b) ∨ (r = 0 ∧ ¬ betR T ins c (2 * w) i b) → Q r) : P_Game_goesBefore vv gwi cells gin v1 v2 v3 Q := by
  have h2w := i_two hw (by omega)
  have a1 := ixg h1 h2w (by omega) (by omega)
  have a2 := ixg h2 h3 (by omega) (by omega)
  have a3 := ixg h2 h2w (by omega) (by omega)
  have a4 := ixg h1 h3 (by omega) (by omega)
  have yes : betR T ins c (2 * w) i b → E_Game_goesBefore_91 vv gwi cells gin Q := fun y => R_Game_goesBefore_91 (R_Game_goesBefore_96 ⟨rb1, hq _ (Or.inl ⟨rfl, y⟩)⟩)
  have no : ¬ betR T ins c (2 * w) i b → E_Game_goesBefore_95 vv gwi cells gin Q := fun y => R_Game_goesBefore_95 (R_Game_goesBefore_96 ⟨rb0, hq _ (Or.inr ⟨rfl, y⟩)⟩)
  refine T_Game_goesBefore (R_Game_goesBefore_0 ⟨a1.1, a2.1, fun x1 e1 => ⟨a3.1, a4.1, fun x2 e2 => ?_⟩⟩)
  rw [a1.2, a2.2] at e1
  rw [a3.2, a4.2] at e2
  have m1 := mul_bd (hB i (2 * w) (by omega) (by omega)) (hB b c (by omega) (by omega))
  have m2 := mul_bd (hB b (2 * w) (by omega) (by omega)) (hB i c (by omega) (by omega))
  have q1 : x1.toInt = T i (2 * w) * T b c := by
    rw [e1]
    exact j_mul (h i (2 * w) (by omega) (by omega)) (h b c (by omega) (by omega)) (by omega) (by omega)
  have q2 : x2.toInt = T b (2 * w) * T i c := by
    rw [e2]
    exact j_mul (h b (2 * w) (by omega) (by omega)) (h i c (by omega) (by omega)) (by omega) (by omega)
  rw [lg_lt0, lg_eq0, q1, q2]
  refine ⟨fun y => yes (Or.inl y), fun y => ⟨fun y2 => no ?_, fun y2 => ⟨i_in h1 (by omega), i_in h2 (by omega), fun y3 => no ?_, fun y3 => yes ?_⟩⟩⟩
  · unfold betR
    omega
  · rw [i_nat h1, i_nat h2, i_le, hi i hi', hi b hb] at y3
    unfold betR
    omega
  · rw [i_nat h1, i_nat h2, i_le, hi i hi', hi b hb] at y3
    exact Or.inr ⟨y2, by omega⟩
theorem S_Game_findRow {Q : Int32 → Prop} {v1 : Int32} {c : Nat} (hw : gwi.toInt = (w : Int)) (hw25 : w ≤ 25) (h : GC cells T w) (hi : IR gin ins w) (hB : Bd T w) (h1 : v1.toInt = (c : Int)) (hc : c < 2 * w) (hq : ∀ r : Int32, optR (bstR T ins c (2 * w) w) r → Q r) : P_Game_findRow vv gwi cells gin v1 Q := by
  have loop : ∀ (u i : Nat) (v2 v3 : Int32), i + u = w → v3.toInt = (i : Int) → optR (bstR T ins c (2 * w) i) v2 → E_Game_findRow_4 vv gwi cells gin v1 v2 v3 Q := by
    intro u
    induction u with
    | zero =>
      intro i v2 v3 hu h3 h2
      have : i = w := by omega
      subst this
      exact R_Game_findRow_4 ⟨fun _ => R_Game_findRow_51 (hq _ h2), fun y => absurd (by rw [i_le]; omega) y⟩
    | succ u ih =>
      intro i v2 v3 hu h3 h2
      have ii := ixg h3 h1 (by omega) (by omega)
      have hcell := h i c (by omega) (by omega)
      have next : ∀ v2' : Int32, optR (bstR T ins c (2 * w) (i + 1)) v2' → E_Game_findRow_45 vv gwi cells gin v1 v2' v3 Q := fun v2' h2' => R_Game_findRow_45 fun x2 e2 => ih (i + 1) v2' x2 (by omega) (by rw [e2]; exact i_suc h3 (by omega)) h2'
      refine R_Game_findRow_4 ⟨fun y => absurd y (by rw [i_le]; omega), fun _ => ⟨ii.1, fun y => next v2 ?_, fun y => ⟨fun y2 => R_Game_findRow_43 (next v3 ?_), fun y2 => ?_⟩⟩⟩
      · rw [ii.2, lg_le0, hcell, zL0] at y
        simp only [bstR]
        cases e : bstR T ins c (2 * w) i with
        | none =>
          rw [e] at h2
          simp only
          rw [if_neg (by omega)]
          exact h2
        | some b =>
          rw [e] at h2
          simp only
          rw [if_neg (by omega)]
          exact h2
      · rw [ii.2, lg_le0, hcell, zL0] at y
        rw [i_eq, z_m1] at y2
        simp only [bstR]
        cases e : bstR T ins c (2 * w) i with
        | none =>
          simp only
          rw [if_pos (by omega)]
          exact h3
        | some b =>
          rw [e] at h2
          have : v2.toInt = (b : Int) := h2
          omega
      · rw [ii.2, lg_le0, hcell, zL0] at y
        rw [i_eq, z_m1] at y2
        cases e : bstR T ins c (2 * w) i with
        | none =>
          rw [e] at h2
          exact absurd h2 y2
        | some b =>
          rw [e] at h2
          have hb := (bstR_lt e).1
          refine S_Game_goesBefore hw hw25 h hi hB h3 (by omega) h2 (by omega) h1 hc fun r hr => ⟨fun y3 => next v2 ?_, fun y3 => R_Game_findRow_43 (next v3 ?_)⟩
          · rcases hr with hr | hr
            · exact absurd (hr.1.symm.trans y3) (by decide)
            · simp only [bstR, e]
              rw [if_pos (by omega), if_neg (fun z => hr.2 ((betR_iff ..).mpr z))]
              exact h2
          · rcases hr with hr | hr
            · simp only [bstR, e]
              rw [if_pos (by omega), if_pos ((betR_iff ..).mp hr.2)]
              exact h3
            · exact absurd hr.1 y3
  exact T_Game_findRow (R_Game_findRow_0 (loop w 0 (-1) 0 (by omega) i_0 z_m1))
theorem S_Game_changeRow {Q : (Nat → Int64) → Prop} {v1 v2 v3 : Int32} {gd v4 : Int64} {i r c : Nat} {d : Int} (hw : gwi.toInt = (w : Int)) (hw25 : w ≤ 25) (hgi : ∀ j, j ≤ 2 * w → (cells (51 * i + j)).toInt = T i j) (hgr : ∀ j, j ≤ 2 * w → (cells (51 * r + j)).toInt = T r j) (hB : Bd T w) (hd : gd.toInt = d) (hd0 : 0 < d) (h1 : v1.toInt = (i : Int)) (hi' : i ≤ w) (h2 : v2.toInt = (r : Int)) (hr : r < w) (hir : i ≠ r) (h3 : v3.toInt = (c : Int)) (hc : c < 2 * w) (h4 : v4.toInt = T r c) (hq : ∀ cells' : Nat → Int64, (∀ x, (x < 51 * i ∨ 51 * i + 50 < x) → cells' x = cells x) → (∀ j, j ≤ 2 * w → (cells' (51 * i + j)).toInt = (T i j * T r c - T i c * T r j).tdiv d) → Q cells') : P_Game_changeRow vv gwi gd cells v1 v2 v3 v4 Q := by
  have h2w := i_two hw (by omega)
  have a1 := ixg h1 h3 (by omega) (by omega)
  refine T_Game_changeRow (R_Game_changeRow_0 ⟨a1.1, fun x1 e1 => ?_⟩)
  rw [a1.2] at e1
  have q1 : x1.toInt = T i c := by rw [e1]; exact hgi c (by omega)
  have loop : ∀ (u j : Nat) (F : Nat → Int64) (v8 : Int32), j + u = 2 * w + 1 → v8.toInt = (j : Int) → (∀ x, (x < 51 * i ∨ 51 * i + 50 < x) → F x = cells x) → (∀ j', j' < j → (F (51 * i + j')).toInt = (T i j' * T r c - T i c * T r j').tdiv d) → (∀ j', j ≤ j' → F (51 * i + j') = cells (51 * i + j')) → E_Game_changeRow_43 vv gwi gd F v1 v2 v4 x1 v8 Q := by
    intro u
    induction u with
    | zero =>
      intro j F v8 hj h8 hF hdone hrest
      exact R_Game_changeRow_43 ⟨fun _ => R_Game_changeRow_130 (hq F hF fun j' hj' => hdone j' (by omega)), fun y => absurd (by rw [i_lt]; omega) y⟩
    | succ u ih =>
      intro j F v8 hj h8 hF hdone hrest
      have b1 := ixg h1 h8 (by omega) (by omega)
      have b2 := ixg h2 h8 (by omega) (by omega)
      have next : ∀ F' : Nat → Int64, (∀ x, (x < 51 * i ∨ 51 * i + 50 < x) → F' x = cells x) → (∀ j', j' < j + 1 → (F' (51 * i + j')).toInt = (T i j' * T r c - T i c * T r j').tdiv d) → (∀ j', j + 1 ≤ j' → F' (51 * i + j') = cells (51 * i + j')) → E_Game_changeRow_124 vv gwi gd F' v1 v2 v4 x1 v8 Q := fun F' g1 g2 g3 => R_Game_changeRow_124 fun x4 e4 => ih (j + 1) F' x4 (by omega) (by rw [e4]; exact i_suc h8 (by omega)) g1 g2 g3
      refine R_Game_changeRow_43 ⟨fun y => absurd y (by rw [i_lt]; omega), fun _ => ⟨b1.1, fun x2 e2 => ⟨b2.1, fun x3 e3 => ?_⟩⟩⟩
      rw [b1.2, hrest j (Nat.le_refl _)] at e2
      rw [b2.2, hF _ (by omega)] at e3
      have q2 : x2.toInt = T i j := by rw [e2]; exact hgi j (by omega)
      have m1 := mul_bd (hB i j hi' (by omega)) (hB r c (by omega) (by omega))
      have m2 := mul_bd (hB i c hi' (by omega)) (hB r j (by omega) (by omega))
      have q3 : x3.toInt = T i j * T r c - T i c * T r j := by
        rw [e3]
        exact j_sub (j_mul q2 h4 (by omega) (by omega)) (j_mul q1 (hgr j (by omega)) (by omega) (by omega)) (by omega) (by omega)
      have put : E_Game_changeRow_105 vv gwi gd F v1 v2 v4 x1 v8 x3 Q := by
        refine R_Game_changeRow_105 ⟨by rw [j_eq, hd, zL0]; omega, b1.1, ?_⟩
        rw [b1.2]
        have q4 : (x3 / gd).toInt = (T i j * T r c - T i c * T r j).tdiv d := j_div q3 hd (Or.inr (by omega))
        refine next _ (fun x hx => by rw [up_ne (by omega)]; exact hF x hx) (fun j' hj' => ?_) (fun j' hj' => by rw [up_ne (by omega)]; exact hrest j' (by omega))
        by_cases e : j' = j
        · rw [e, up_same]; exact q4
        · rw [up_ne (by omega)]; exact hdone j' (by omega)
      rw [lg_eq0, lg_eq0, q2, q3, zL0]
      refine ⟨fun _ => put, fun y => ⟨fun y2 => next F hF (fun j' hj' => ?_) (fun j' hj' => hrest j' (by omega)), fun _ => put⟩⟩
      by_cases e : j' = j
      · rw [e, hrest j (Nat.le_refl _), hgi j (by omega), y2, y, Int.zero_tdiv]
      · exact hdone j' (by omega)
  have go : E_Game_changeRow_30 vv gwi gd cells v1 v2 v4 x1 Q := R_Game_changeRow_30 ⟨fun _ => R_Game_changeRow_40 (loop (2 * w + 1) 0 cells 0 (by omega) i_0 (fun _ _ => rfl) (fun j' hj' => by omega) (fun _ _ => rfl)), fun y => absurd ((lg_eq0 _ _).mp y) (by rw [hd, zL0]; omega)⟩
  rw [lg_eq0, lg_eq0, q1, h4, hd, zL0]
  refine ⟨fun _ => go, fun y => ⟨fun y2 => R_Game_changeRow_39 (hq cells (fun _ _ => rfl) fun j hj => ?_), fun _ => go⟩⟩
  rw [hgi j hj, y, y2, Int.zero_mul, Int.sub_zero, Int.mul_tdiv_cancel _ (by omega)]
theorem S_Game_bringIn {Q : Int64 → (Nat → Int64) → (Nat → Int32) → Prop} {v1 v2 : Int32} {gd : Int64} {r c : Nat} {d : Int} (hw : gwi.toInt = (w : Int)) (hw25 : w ≤ 25) (h : GC cells T w) (hi : IR gin ins w) (hB : Bd T w) (hd : gd.toInt = d) (hd0 : 0 < d) (h1 : v1.toInt = (r : Int)) (hr : r < w) (h2 : v2.toInt = (c : Int)) (hc : c < 2 * w) (hq : ∀ (d' : Int64) (cells' : Nat → Int64) (gin' : Nat → Int32), d'.toInt = T r c → GC cells' (piv T d r c) w → IR gin' (up ins r c) w → Q d' cells' gin') : P_Game_bringIn vv gwi gd cells gin v1 v2 Q := by
  have a1 := ixg h1 h2 (by omega) (by omega)
  refine T_Game_bringIn (R_Game_bringIn_0 ⟨a1.1, fun x1 e1 => ?_⟩)
  rw [a1.2] at e1
  have q1 : x1.toInt = T r c := by rw [e1]; exact h r c (by omega) (by omega)
  have loop : ∀ (u i : Nat) (F : Nat → Int64) (v5 : Int32), i + u = w + 1 → v5.toInt = (i : Int) → (∀ i' j, i' < i → j ≤ 2 * w → (F (51 * i' + j)).toInt = piv T d r c i' j) → (∀ x, 51 * i ≤ x → F x = cells x) → (∀ j, j ≤ 2 * w → F (51 * r + j) = cells (51 * r + j)) → E_Game_bringIn_15 vv gwi gd F gin v1 v2 x1 v5 Q := by
    intro u
    induction u with
    | zero =>
      intro i F v5 hu h5 hdone hrest hrow
      refine R_Game_bringIn_15 ⟨fun _ => R_Game_bringIn_45 ⟨i_in h1 (by omega), hq _ _ _ q1 (fun i' j hi' hj => hdone i' j (by omega) hj) fun i' hi' => ?_⟩, fun y => absurd (by rw [i_lt]; omega) y⟩
      rw [i_nat h1]
      by_cases e : i' = r
      · rw [e, up_same, up_same]; exact h2
      · rw [up_ne e, up_ne e]; exact hi i' hi'
    | succ u ih =>
      intro i F v5 hu h5 hdone hrest hrow
      have hG : ∀ i' j, (i' = r ∨ i ≤ i') → i' ≤ w → j ≤ 2 * w → (F (51 * i' + j)).toInt = T i' j := fun i' j h' hi' hj => by
        rcases h' with rfl | h'
        · rw [hrow j hj]; exact h _ j hi' hj
        · rw [hrest _ (by omega)]; exact h i' j hi' hj
      refine R_Game_bringIn_15 ⟨fun y => absurd y (by rw [i_lt]; omega), fun _ => ⟨fun y => R_Game_bringIn_39 fun x3 e3 => ?_, fun y => ?_⟩⟩
      · rw [i_eq, h5, h1] at y
        have hir : i = r := by omega
        refine ih (i + 1) F x3 (by omega) (by rw [e3]; exact i_suc h5 (by omega)) (fun i' j hi' hj => ?_) (fun x hx => hrest x (by omega)) hrow
        by_cases e : i' = i
        · rw [hG i' j (by omega) (by omega) hj]
          unfold piv
          rw [if_pos (by omega)]
        · exact hdone i' j (by omega) hj
      · rw [i_eq, h5, h1] at y
        have hir : i ≠ r := by omega
        refine S_Game_changeRow (T := T) (i := i) (r := r) (c := c) hw hw25 (fun j hj => hG i j (Or.inr (Nat.le_refl _)) (by omega) hj) (fun j hj => hG r j (Or.inl rfl) (by omega) hj) hB hd hd0 h5 (by omega) h1 hr hir h2 hc q1 fun F' g1 g2 => R_Game_bringIn_39 fun x3 e3 => ?_
        refine ih (i + 1) F' x3 (by omega) (by rw [e3]; exact i_suc h5 (by omega)) (fun i' j hi' hj => ?_) (fun x hx => by rw [g1 x (by omega)]; exact hrest x (by omega)) (fun j hj => by rw [g1 _ (by omega)]; exact hrow j hj)
        by_cases e : i' = i
        · rw [e, g2 j hj]
          unfold piv
          rw [if_neg hir]
        · rw [g1 _ (by omega)]
          exact hdone i' j (by omega) hj
  exact loop (w + 1) 0 cells 0 (by omega) i_0 (fun i' j hi' hj => by omega) (fun _ _ => rfl) (fun _ _ => rfl)
end GAMEC
