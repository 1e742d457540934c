/-! MATCHES in the class: points given, the public calls -/
def evn (h b p : Nat) (pos : Bool) (g : Nat) : Bool := match pos with
  | true => decide (2 * wgt h (b - h) (p + (p - g) - 1) p ≤ b ^ (p + (p - g) - 1))
  | false => decide (b ^ (p - g + p - 1) ≤ 2 * wgt h (b - h) (p - g + p - 1) (p - g))
def gvZ (h b p : Nat) : Int := if 2 * h = b then 0 else if b < 2 * h then (gfst (evn h b p true) (p - 1) 0 : Int) else -(gfst (evn h b p false) (p - 1) 0 : Int)
section MATC2
variable {vv vv' : Nat → Value} {k l f m : Nat} {rk rl rf rm rtc rwc : Int32} {rth rca : Nat → Int32} {vvr : Nat → Value} {T : Nat → Nat → Int} {d : Int} {ins : Nat → Nat} {n : Nat} {gin : Nat → Int32}
  {ways isw turns : Int32} {gd gz : Int64} {cells sec : Nat → Int64} {sg an bn cn sn : Int32} {ad bd cd sd : Nat → Int32}
  {hit base above below : Int64} {row : Nat → Int64}
theorem S_Mat_isEven {H B : Int64} {v1 v2 v3 : Int32} {p g hn bn : Nat} {Q : Int32 → Int64 → Int64 → (Nat → Int64) → Prop} (hbd : 1 ≤ bn ∧ bn ≤ 5 ∧ hn ≤ bn) (hH : H.toInt = (hn : Int)) (hB : B.toInt = (bn : Int)) (h1 : v1.toInt = (p : Int)) (hp : 1 ≤ p ∧ p ≤ 12) (h2 : v2.toInt = (g : Int)) (hg : g < p) (hq : ∀ (r : Int32) (above' below' : Int64) row', (r = 0 ↔ evn hn bn p (decide (0 < v3.toInt)) g = false) → Q r above' below' row') : P_Mat_isEven H B above below row v1 v2 v3 Q := by
  have hsub := i_subN h1 h2 (by omega)
  have wb : ∀ n' a', n' ≤ 24 → wgt hn (bn - hn) n' a' ≤ 59604644775390625 := fun n' a' hn' => by
    have := wgt_le hn (bn - hn) n' a'
    rw [show hn + (bn - hn) = bn by omega] at this
    exact Nat.le_trans this (pow5 hbd.2.1 hn')
  refine T_Mat_isEven (R_Mat_isEven_0 ⟨fun e => R_Mat_isEven_34 (S_Mat_play hbd hH hB hsub (by omega) h1 hp fun A E row' hA hE => ?_), fun e => S_Mat_play hbd hH hB h1 hp hsub (by omega) fun A E row' hA hE => ?_⟩)
  · rw [i_le, z_0] at e
    have hdec : decide (0 < v3.toInt) = false := decide_eq_false (by omega)
    rw [hdec] at hq
    have b1 := wb (p - g + p - 1) (p - g) (by omega)
    have t := j_mulN zL2 hA (by omega)
    rw [lg_lt0, t, hE]
    unfold evn at hq
    refine ⟨fun y => R_Mat_isEven_62 (R_Mat_isEven_63 ⟨rb0, hq _ _ _ _ ⟨fun _ => decide_eq_false (by omega), fun _ => rfl⟩⟩), fun y => R_Mat_isEven_63 ⟨rb1, hq _ _ _ _ ⟨fun z => absurd z (by decide), fun z => absurd (of_decide_eq_false z) (by omega)⟩⟩⟩
  · rw [i_le, z_0] at e
    have hdec : decide (0 < v3.toInt) = true := decide_eq_true (by omega)
    rw [hdec] at hq
    have b1 := wb (p + (p - g) - 1) p (by omega)
    have t := j_mulN zL2 hA (by omega)
    rw [lg_gt0, t, hE]
    unfold evn at hq
    refine ⟨fun y => R_Mat_isEven_32 (R_Mat_isEven_33 ⟨rb0, hq _ _ _ _ ⟨fun _ => decide_eq_false (by omega), fun _ => rfl⟩⟩), fun y => R_Mat_isEven_33 ⟨rb1, hq _ _ _ _ ⟨fun z => absurd z (by decide), fun z => absurd (of_decide_eq_false z) (by omega)⟩⟩⟩
theorem S_Jl_compare {v w : Int64} {Q : Int32 → Prop} (hq : ∀ r : Int32, r.toInt = cmpI v.toInt w.toInt → Q r) : P_Jl_compare v w Q := by
  unfold cmpI at hq
  refine T_Jl_compare (R_Jl_compare_0 ⟨fun c => R_Jl_compare_10 ⟨fun c2 => R_Jl_compare_20 (R_Jl_compare_21 (hq _ ?_)), fun c2 => R_Jl_compare_21 (hq _ ?_)⟩, fun c => R_Jl_compare_21 (hq _ ?_)⟩)
  · rw [lg_ge0] at c
    rw [lg_eq0] at c2
    rw [if_neg (by omega), if_neg (by omega), z_1]
  · rw [lg_eq0] at c2
    rw [if_neg (by omega), if_pos (by omega), z_0]
  · rw [lg_ge0] at c
    rw [if_pos (by omega), z_m1]
theorem S_Mat_pointsGiven {v1 : Int32} {p : Nat} {Q : Int32 → Int32 → Int32 → Int64 → Int64 → Int32 → (Nat → Int64) → (Nat → Int32) → (Nat → Int64) → Int64 → Int64 → Int64 → Int64 → (Nat → Int64) → Prop} (h : CR k l f m rk rl rf rm rtc rwc rth rca) (hG : GameOf k l f m T d ins n) (hs : GWo k l f T d ins n ways isw gd gz turns cells sec) (h1 : v1.toInt = (p : Int)) (hp : 1 ≤ p ∧ p ≤ 12) (hq : ∀ (r : Int32) ways' isw' gd' gz' turns' cells' gin' sec' (hit' base' above' below' : Int64) row', GWo k l f T d ins n ways' isw' gd' gz' turns' cells' sec' → r.toInt = gvZ (hitN k l f T d) (basN k l f T d) p → Q r ways' isw' gd' gz' turns' cells' gin' sec' hit' base' above' below' row') : P_Mat_pointsGiven vvr rk rf rm rwc rth rca ways isw gd gz turns cells gin sec hit base above below row v1 Q := by
  have hbd := hit_bd hG h.1
  refine T_Mat_pointsGiven (R_Mat_pointsGiven_0 (S_Mat_findHit h hG hs fun W I D Z U C G S H B hs' hH hB => S_Jl_compare fun r11 e11 => ?_))
  rw [j_mulN zL2 hH (by omega), hB] at e11
  unfold cmpI at e11
  unfold gvZ at hq
  refine ⟨fun e => R_Mat_pointsGiven_26 ?_, fun e => hq _ _ _ _ _ _ _ _ _ _ _ _ _ _ hs' ?_⟩
  · rw [i_eq, z_0] at e
    have hne : ¬ 2 * hitN k l f T d = basN k l f T d := fun z => by
      rw [if_neg (by omega), if_pos (by omega)] at e11
      exact e e11
    rw [if_neg hne] at hq
    have side : (basN k l f T d < 2 * hitN k l f T d ∧ r11.toInt = 1) ∨ (¬ basN k l f T d < 2 * hitN k l f T d ∧ r11.toInt = -1) := by
      split at e11
      · right; exact ⟨by omega, e11⟩
      · split at e11
        · omega
        · left; exact ⟨by omega, e11⟩
    have hq' : ∀ (r : Int32) (W : Int32) (I : Int32) D Z U C G S (H B A E : Int64) R, GWo k l f T d ins n W I D Z U C S → r.toInt = r11.toInt * (gfst (evn (hitN k l f T d) (basN k l f T d) p (decide (0 < r11.toInt))) (p - 1) 0 : Int) → Q r W I D Z U C G S H B A E R := fun r W I D Z U C G S H B A E R hs' e' => by
      refine hq r W I D Z U C G S H B A E R hs' ?_
      rcases side with ⟨s1, s2⟩ | ⟨s1, s2⟩
      · rw [if_pos s1, e', s2, show decide (0 < (1 : Int)) = true by decide, Int.one_mul]
      · rw [if_neg s1, e', s2, show decide (0 < (-1 : Int)) = false by decide]
        omega
    have loop : ∀ (u g : Nat) (A E : Int64) (R : Nat → Int64) (v3 : Int32), g + u = p - 1 → v3.toInt = (g : Int) → gfst (evn (hitN k l f T d) (basN k l f T d) p (decide (0 < r11.toInt))) (p - 1) 0 = gfst (evn (hitN k l f T d) (basN k l f T d) p (decide (0 < r11.toInt))) u g → E_Mat_pointsGiven_28 vvr rk rf rm rwc rth rca W I D Z U C G S H B A E R v1 r11 v3 Q := by
      intro u
      induction u with
      | zero =>
        intro g A E R v3 hu h3 hg
        have hgp : g = p - 1 := by omega
        rw [hg] at hq'
        have hlast : ∀ (A E : Int64) (R : Nat → Int64) (x : Int32), x.toInt = (g : Int) → Q (r11 * x) W I D Z U C G S H B A E R := fun A E R x hx => hq' _ W I D Z U C G S H B A E R hs' (by
          show _ = r11.toInt * (g : Int)
          rcases side with ⟨s1, s2⟩ | ⟨s1, s2⟩ <;> rw [i_mul s2 hx (by omega) (by omega), s2])
        refine R_Mat_pointsGiven_28 ⟨fun y => absurd y (by rw [i_le]; omega), fun _ => S_Mat_isEven hbd hH hB h1 hp h3 (by omega) fun r12 A E R hr => ⟨fun y => R_Mat_pointsGiven_47 fun x26 e26 => R_Mat_pointsGiven_28 ⟨fun _ => R_Mat_pointsGiven_53 (hlast _ _ _ _ ?_), fun y => absurd ?_ y⟩, fun y => hlast _ _ _ _ h3⟩⟩
        · rw [i_sub h1 z_1 (by omega) (by omega)]
          omega
        · rw [i_le, e26, i_suc h3 (by omega)]
          omega
      | succ u ih =>
        intro g A E R v3 hu h3 hg
        refine R_Mat_pointsGiven_28 ⟨fun y => absurd y (by rw [i_le]; omega), fun _ => S_Mat_isEven hbd hH hB h1 hp h3 (by omega) fun r12 A E R hr => ⟨fun y => R_Mat_pointsGiven_47 fun x26 e26 => ?_, fun y => ?_⟩⟩
        · have hf := hr.mp y
          refine ih (g + 1) A E R x26 (by omega) (by rw [e26]; exact i_suc h3 (by omega)) ?_
          rw [hg]
          simp only [gfst]
          rw [hf]
          rfl
        · have ht : evn (hitN k l f T d) (basN k l f T d) p (decide (0 < r11.toInt)) g = true := by
            cases e' : evn (hitN k l f T d) (basN k l f T d) p (decide (0 < r11.toInt)) g with
            | true => rfl
            | false => exact absurd (hr.mpr e') y
          have hgg : gfst (evn (hitN k l f T d) (basN k l f T d) p (decide (0 < r11.toInt))) (u + 1) g = g := by
            simp only [gfst]
            rw [if_pos ht]
          rw [hg, hgg] at hq'
          refine hq' _ _ _ _ _ _ _ _ _ _ _ _ _ _ hs' ?_
          rcases side with ⟨s1, s2⟩ | ⟨s1, s2⟩ <;> rw [i_mul s2 h3 (by omega) (by omega), s2]
    exact loop (p - 1) 0 _ _ _ 0 (by omega) i_0 rfl
  · rw [i_eq, z_0] at e
    have : 2 * hitN k l f T d = basN k l f T d := by
      rw [e] at e11
      split at e11
      · omega
      · split at e11 <;> omega
    rw [if_pos this, z_0]
def okC (a b : Int) : Prop := (1 ≤ a ∧ a ≤ 12) ∧ (1 ≤ b ∧ b ≤ 12)
theorem z_12 : (12 : Int32).toInt = 12 := by decide
theorem S_F_chance {v1 v2 : Int32} {Q : Int32 → Int32 → Int32 → Int64 → Int64 → Int32 → (Nat → Int64) → (Nat → Int32) → (Nat → Int64) → Int32 → Int32 → (Nat → Int32) → Int32 → (Nat → Int32) → Int64 → Int64 → Int64 → Int64 → (Nat → Int64) → Prop} (h : CR k l f m rk rl rf rm rtc rwc rth rca) (hG : GameOf k l f m T d ins n) (hs : GWo k l f T d ins n ways isw gd gz turns cells sec) (hq0 : ¬ okC v1.toInt v2.toInt → Q (-2) ways isw gd gz turns cells gin sec sg an ad bn bd hit base above below row) (hq2 : okC v1.toInt v2.toInt → k = 2 → Q (-3) ways isw gd gz turns cells gin sec sg an ad bn bd hit base above below row) (hq : okC v1.toInt v2.toInt → k ≠ 2 → ∀ (r : Int32) ways' isw' gd' gz' turns' cells' gin' sec' sg' an' ad' bn' bd' (hit' base' above' below' : Int64) row', r.toInt = 1 → GWo k l f T d ins n ways' isw' gd' gz' turns' cells' sec' → FS sg' an' ad' bn' bd' (wgt (hitN k l f T d) (basN k l f T d - hitN k l f T d) (v1.toInt.toNat + v2.toInt.toNat - 1) v1.toInt.toNat) (basN k l f T d ^ (v1.toInt.toNat + v2.toInt.toNat - 1)) → Q r ways' isw' gd' gz' turns' cells' gin' sec' sg' an' ad' bn' bd' hit' base' above' below' row') : P_F_chance vv vvr rk rf rm rwc rth rca ways isw gd gz turns cells gin sec sg an ad bn bd cn cd sn sd hit base above below row v1 v2 Q := by
  have hbd := hit_bd hG h.1
  refine T_F_chance (R_F_chance_0 (S_F_isWithin fun r1 h1 => ⟨fun e => R_F_chance_20 (hq0 fun z => ?_), fun e => S_F_isWithin fun r2 h2 => ⟨fun e2 => R_F_chance_23 ⟨fun e3 => R_F_chance_37 ?_, fun e3 => hq2 ?_ ?_⟩, fun e2 => R_F_chance_20 (hq0 fun z => ?_)⟩⟩))
  · rw [z_1, z_12] at h1
    rw [bz h1] at e
    exact e z.1
  · rw [z_1, z_12] at h1 h2
    rw [bz h1] at e
    rw [bz h2] at e2
    have e' := Classical.not_not.mp e
    have e2' := Classical.not_not.mp e2
    rw [i_lit2 h.2.1] at e3
    have hpos : 0 < basN k l f T d ^ (v1.toInt.toNat + v2.toInt.toNat - 1) := Nat.pow_pos (by omega)
    refine S_Mat_work (a := v1.toInt.toNat) (b := v2.toInt.toNat) h hG hs (by omega) (by omega) (by omega) (by omega) fun W I D Z U C G S H B A E R hs' hA hE => S_Frac_become hA hE hpos (by omega) fun sg' an' ad' bn' bd' hF => hq ⟨e', e2'⟩ e3 _ _ _ _ _ _ _ _ _ _ _ _ _ _ _ _ _ _ _ z_1 hs' hF
  · rw [z_1, z_12] at h1 h2
    rw [bz h1] at e
    rw [bz h2] at e2
    exact ⟨Classical.not_not.mp e, Classical.not_not.mp e2⟩
  · rw [i_lit2 h.2.1] at e3
    exact e3
  · rw [z_1, z_12] at h2
    rw [bz h2] at e2
    exact e2 z.2
theorem z_m200 : (-200 : Int32).toInt = -200 := by decide
theorem S_F_given {v1 : Int32} {Q : Int32 → Int32 → Int32 → Int64 → Int64 → Int32 → (Nat → Int64) → (Nat → Int32) → (Nat → Int64) → Int64 → Int64 → Int64 → Int64 → (Nat → Int64) → Prop} (h : CR k l f m rk rl rf rm rtc rwc rth rca) (hG : GameOf k l f m T d ins n) (hs : GWo k l f T d ins n ways isw gd gz turns cells sec) (hq : ∀ (r : Int32) ways' isw' gd' gz' turns' cells' gin' sec' (hit' base' above' below' : Int64) row', GWo k l f T d ins n ways' isw' gd' gz' turns' cells' sec' → r.toInt = (if 1 ≤ v1.toInt ∧ v1.toInt ≤ 12 then (if k = 2 then -200 else gvZ (hitN k l f T d) (basN k l f T d) v1.toInt.toNat) else -100) → Q r ways' isw' gd' gz' turns' cells' gin' sec' hit' base' above' below' row') : P_F_given vv vvr rk rf rm rwc rth rca ways isw gd gz turns cells gin sec hit base above below row v1 Q := by
  refine T_F_given (R_F_given_0 (S_F_isWithin fun r1 h1 => ⟨fun e => R_F_given_13 ⟨fun e2 => R_F_given_30 ?_, fun e2 => R_F_given_38 (hq _ _ _ _ _ _ _ _ _ _ _ _ _ _ hs ?_)⟩, fun e => hq _ _ _ _ _ _ _ _ _ _ _ _ _ _ hs ?_⟩))
  · rw [z_1, z_12] at h1
    rw [bz h1] at e
    rw [i_lit2 h.2.1] at e2
    have e' := Classical.not_not.mp e
    rw [if_pos e', if_neg e2] at hq
    exact S_Mat_pointsGiven (p := v1.toInt.toNat) h hG hs (by omega) (by omega) fun r W I D Z U C G S H B A E R hs' hr => R_F_given_38 (hq _ _ _ _ _ _ _ _ _ _ _ _ _ _ hs' hr)
  · rw [z_1, z_12] at h1
    rw [bz h1] at e
    rw [i_lit2 h.2.1] at e2
    rw [if_pos (Classical.not_not.mp e), if_pos e2, z_m200]
  · rw [z_1, z_12] at h1
    rw [bz h1] at e
    rw [if_neg e, z_m100]
end MATC2
