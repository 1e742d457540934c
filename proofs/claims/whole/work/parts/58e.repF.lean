/-! AN ANSWER in the class: answer, answers -/
section REPF
variable {vv vv' : Nat → Value} {k l f m odds : Nat} {rk rl rf rm rtc rwc : Int32} {rth rca : Nat → Int32} {vvr : Nat → Value} {T : Nat → Nat → Int} {d : Int} {ins : Nat → Nat} {n : Nat} {ways isw turns cno : Int32} {gd gz : Int64} {cells sec : Nat → Int64} {counts gin rows lens : Nat → Int32} {tt : Nat → Nat → Nat} {len : Nat → Nat}
variable {an1 an2 an3 an4 sg an bn cn sn s1 s2 s3 s4 xo best : Int32} {ad1 ad2 ad3 ad4 ad bd cd sd d1 d2 d3 d4 : Nat → Int32} {wts mmv gain nT nL top low : Int64} {wt me er : Nat → Int64}
def okA (k f : Nat) (a e : Int) : Prop := (0 ≤ a ∧ a ≤ 3) ∧ 0 ≤ e ∧ e ≤ 1000 * (bnd k f : Int)
def cfA (l f : Nat) (tt : Nat → Nat → Nat) (len : Nat → Nat) (a : Int) (K : Nat) : Nat → Nat := cfR l f (tt a.toNat) K (cxt (gn l f) (tt a.toNat) K (len a.toNat)) (len a.toNat)
theorem bnd_9 {k l f m : Nat} (h : RuleOK k l f m) : bnd k f ≤ 9 := by
  unfold bnd
  have := h.2.2.2.1
  split <;> omega
theorem S_F_findReply {v1 v2 : Int32} {Q : Int32 → Int32 → Int32 → Int64 → Int64 → Int32 → (Nat → Int64) → (Nat → Int32) → (Nat → Int64) → Int32 → (Nat → Int32) → Int32 → (Nat → Int32) → Int32 → (Nat → Int32) → Int32 → (Nat → Int32) → Int32 → (Nat → Int32) → Int64 → Int64 → Int32 → Int64 → Int64 → Int64 → Int64 → Int64 → (Nat → Int64) → (Nat → Int64) → (Nat → Int64) → Int32 → (Nat → Int32) → Int32 → (Nat → Int32) → Int32 → (Nat → Int32) → Int32 → (Nat → Int32) → Prop} (h : CR k l f m rk rl rf rm rtc rwc rth rca) (hG : GameOf k l f m T d ins n) (hs : isw = 0 ∨ GWd k l f T d ins n ways isw gd gz turns cells sec) (hM : MenR l f rows lens tt len) (hx : xo.toInt = (odds : Int)) (ho : 1 ≤ odds ∧ odds ≤ 100000) (hqN : ∀ r : Int32, (r.toInt = -2 ∧ ¬ okA k f v1.toInt v2.toInt) ∨ (r.toInt = -3 ∧ okA k f v1.toInt v2.toInt ∧ frs (gn l f) (tt v1.toInt.toNat) (len v1.toInt.toNat) odds 4 = none) → ∀ cno' counts' s1' d1' s2' d2' s3' d3' s4' d4', Q r ways isw gd gz turns cells gin sec cno' counts' s1' d1' s2' d2' s3' d3' s4' d4' wts mmv best gain nT nL top low wt me er an1 ad1 an2 ad2 an3 ad3 an4 ad4) (hq : okA k f v1.toInt v2.toInt → ∀ K, frs (gn l f) (tt v1.toInt.toNat) (len v1.toInt.toNat) odds 4 = some K → ∀ ways' isw' gd' gz' turns' cells' gin' sec' cno' counts' s1' d1' s2' d2' s3' d3' s4' d4' wts' mmv' best' gain' nT' nL' top' low' wt' me' er' an1' ad1' an2' ad2' an3' ad3' an4' ad4', GWd k l f T d ins n ways' isw' gd' gz' turns' cells' sec' → wts'.toInt = alR k l f (cfA l f tt len v1.toInt K) → mmv'.toInt = mmR k l f m T ins (cfA l f tt len v1.toInt K) → (∀ j, j < gw k l f → (er' j).toInt = erng k l f m T ins 0 j) → RpS (gaR k l f m T ins (cfA l f tt len v1.toInt K)) (bsI (gaR k l f m T ins (cfA l f tt len v1.toInt K)) (stR k l f m T d ins v2.toInt) (gw k l f)) best' gain' top' low' → Q best' ways' isw' gd' gz' turns' cells' gin' sec' cno' counts' s1' d1' s2' d2' s3' d3' s4' d4' wts' mmv' best' gain' nT' nL' top' low' wt' me' er' an1' ad1' an2' ad2' an3' ad3' an4' ad4') : P_F_findReply xo rk rl rf rm rtc rwc rth rca ways isw gd gz turns cells gin sec cno rows lens counts s1 d1 s2 d2 s3 d3 s4 d4 wts mmv best gain nT nL top low wt me er an1 ad1 an2 ad2 an3 ad3 an4 ad4 v1 v2 Q := by
  have hb9 := bnd_9 h.1
  have hgn := gn_le h.1
  refine T_F_findReply (R_F_findReply_0 (S_Men_isMan fun r1 e1 => ⟨fun z => R_F_findReply_26 (hqN _ (Or.inl ⟨by decide, fun q => (bz e1).mp z q.1⟩) _ _ _ _ _ _ _ _ _ _), fun z => S_Rule_bound h fun r2 e2 => S_F_isWithin fun r3 e3 => ?_⟩))
  have hm : (1000 * r2).toInt = 1000 * (bnd k f : Int) := by
    rw [i_mul (show (1000 : Int32).toInt = 1000 by decide) e2 (by omega) (by omega)]
  rw [z_0, hm] at e3
  refine ⟨fun y => R_F_findReply_29 ?_, fun y => R_F_findReply_26 (hqN _ (Or.inl ⟨by decide, fun q => (bz e3).mp y q.2⟩) _ _ _ _ _ _ _ _ _ _)⟩
  have ok : okA k f v1.toInt v2.toInt := ⟨Classical.not_not.mp (mt (bz e1).mpr z), Classical.not_not.mp (mt (bz e3).mpr y)⟩
  have ok1 := ok.1
  have ok2 := ok.2
  have hlen := (hM v1.toInt.toNat (by omega)).2.1
  refine S_Men_foresee (man := v1.toInt.toNat) h hM (by omega) (by omega) hx ho fun r4 cn' C sn' sd' pn' pd' tn' td' qn' qd' e4 hK => ?_
  cases hf : frs (gn l f) (tt v1.toInt.toNat) (len v1.toInt.toNat) odds 4 with
  | none =>
    rw [hf] at e4
    have e4' : r4.toInt = -1 := e4
    exact ⟨fun q => absurd (by rw [i_eq, e4']; decide) q, fun _ => R_F_findReply_62 (hqN _ (Or.inr ⟨by decide, ok, hf⟩) _ _ _ _ _ _ _ _ _ _)⟩
  | some K =>
    rw [hf] at e4
    have e4' : r4.toInt = (K : Int) := e4
    obtain ⟨k1, k2, k3⟩ := hK K hf
    refine ⟨fun _ => R_F_findReply_50 (S_Rep_seek h hG hs k3 k1 k2 (cxt_lt (by omega) ..) hlen rfl ⟨ok2.1, by omega⟩ ?_), fun q => absurd (by rw [← e4', q]) (show ¬ ((-1 : Int32).toInt = (K : Int)) by rw [show (-1 : Int32).toInt = -1 by decide]; omega)⟩
    intro best' ways' isw' gd' gz' turns' cells' gin' sec' wts' mmv' gain' nT' nL' top' low' wt' me' er' a1 b1 a2 b2 a3 b3 a4 b4 w1 w2 w3 w4 w5
    exact R_F_findReply_62 (hq ok K hf _ _ _ _ _ _ _ _ _ _ _ _ _ _ _ _ _ _ _ _ _ _ _ _ _ _ _ _ _ _ _ _ _ _ _ _ _ w1 w2 w3 w4 w5)
def anZ (k l f m : Nat) (T : Nat → Nat → Int) (d : Int) (ins : Nat → Nat) (tt : Nat → Nat → Nat) (len : Nat → Nat) (odds : Nat) (a e : Int) : Option (Nat × Nat × Int × Int) := match frs (gn l f) (tt a.toNat) (len a.toNat) odds 4 with
  | none => none
  | some K => match bsI (gaR k l f m T ins (cfA l f tt len a K)) (stR k l f m T d ins e) (gw k l f) with
    | none => none
    | some (b, t, lw) => some (K, b, t, lw)
def anN (k l f : Nat) (tt : Nat → Nat → Nat) (len : Nat → Nat) (odds : Nat) (a e : Int) (r : Int) : Prop := (r = -2 ∧ ¬ okA k f a e) ∨ (r = -3 ∧ okA k f a e ∧ frs (gn l f) (tt a.toNat) (len a.toNat) odds 4 = none) ∨ (r = -1 ∧ okA k f a e ∧ ∃ K, frs (gn l f) (tt a.toNat) (len a.toNat) odds 4 = some K)
theorem S_F_answer {v1 v2 : Int32} {Q : Int32 → Int32 → Int32 → Int64 → Int64 → Int32 → (Nat → Int64) → (Nat → Int32) → (Nat → Int64) → Int32 → Int32 → (Nat → Int32) → Int32 → (Nat → Int32) → Int32 → (Nat → Int32) → Int32 → (Nat → Int32) → Int32 → (Nat → Int32) → Int32 → (Nat → Int32) → Int32 → (Nat → Int32) → Int64 → Int64 → Int32 → Int64 → Int64 → Int64 → Int64 → Int64 → (Nat → Int64) → (Nat → Int64) → (Nat → Int64) → Int32 → (Nat → Int32) → Int32 → (Nat → Int32) → Int32 → (Nat → Int32) → Int32 → (Nat → Int32) → Prop} (h : CR k l f m rk rl rf rm rtc rwc rth rca) (hG : GameOf k l f m T d ins n) (hs : isw = 0 ∨ GWd k l f T d ins n ways isw gd gz turns cells sec) (hM : MenR l f rows lens tt len) (hx : xo.toInt = (odds : Int)) (ho : 1 ≤ odds ∧ odds ≤ 100000) (hqN : ∀ r : Int32, anN k l f tt len odds v1.toInt v2.toInt r.toInt → (okA k f v1.toInt v2.toInt → anZ k l f m T d ins tt len odds v1.toInt v2.toInt = none) → ∀ ways' isw' gd' gz' turns' cells' gin' sec' cno' counts' s1' d1' s2' d2' s3' d3' s4' d4' wts' mmv' best' gain' nT' nL' top' low' wt' me' er' an1' ad1' an2' ad2' an3' ad3' an4' ad4', isw' = 0 ∨ GWd k l f T d ins n ways' isw' gd' gz' turns' cells' sec' → Q r ways' isw' gd' gz' turns' cells' gin' sec' sg an ad bn bd cno' counts' s1' d1' s2' d2' s3' d3' s4' d4' wts' mmv' best' gain' nT' nL' top' low' wt' me' er' an1' ad1' an2' ad2' an3' ad3' an4' ad4') (hq : okA k f v1.toInt v2.toInt → ∀ K b t lw, anZ k l f m T d ins tt len odds v1.toInt v2.toInt = some (K, b, t, lw) → ∀ (r : Int32) ways' isw' gd' gz' turns' cells' gin' sec' sg' an' ad' bn' bd' cno' counts' s1' d1' s2' d2' s3' d3' s4' d4' wts' mmv' best' gain' nT' nL' top' low' wt' me' er' an1' ad1' an2' ad2' an3' ad3' an4' ad4', r.toInt = (b : Int) → isw' = 0 ∨ GWd k l f T d ins n ways' isw' gd' gz' turns' cells' sec' → FS sg' an' ad' bn' bd' t (1000 * lw.toNat) → Q r ways' isw' gd' gz' turns' cells' gin' sec' sg' an' ad' bn' bd' cno' counts' s1' d1' s2' d2' s3' d3' s4' d4' wts' mmv' best' gain' nT' nL' top' low' wt' me' er' an1' ad1' an2' ad2' an3' ad3' an4' ad4') : P_F_answer xo rk rl rf rm rtc rwc rth rca ways isw gd gz turns cells gin sec sg an ad bn bd cn cd sn sd cno rows lens counts s1 d1 s2 d2 s3 d3 s4 d4 wts mmv best gain nT nL top low wt me er an1 ad1 an2 ad2 an3 ad3 an4 ad4 v1 v2 Q := by
  refine T_F_answer (R_F_answer_0 (S_F_findReply h hG hs hM hx ho (fun r hr => ?_) fun ok K hK => ?_))
  · intro cno' counts' s1' d1' s2' d2' s3' d3' s4' d4'
    have hneg : r.toInt = -2 ∨ r.toInt = -3 := by
      rcases hr with q | q
      · exact Or.inl q.1
      · exact Or.inr q.1
    refine ⟨fun _ => R_F_answer_36 (hqN r ?_ (fun ok => ?_) _ _ _ _ _ _ _ _ _ _ _ _ _ _ _ _ _ _ _ _ _ _ _ _ _ _ _ _ _ _ _ _ _ _ _ _ _ hs), fun q => absurd (by rw [i_lt, z_0]; omega) q⟩
    · rcases hr with q | q
      · exact Or.inl q
      · exact Or.inr (Or.inl q)
    · rcases hr with q | q
      · exact absurd ok q.2
      · unfold anZ
        rw [q.2.2]
  · intro ways' isw' gd' gz' turns' cells' gin' sec' cno' counts' s1' d1' s2' d2' s3' d3' s4' d4' wts' mmv' best' gain' nT' nL' top' low' wt' me' er' an1' ad1' an2' ad2' an3' ad3' an4' ad4' w1 w2 w3 w4 w5
    cases hb : bsI (gaR k l f m T ins (cfA l f tt len v1.toInt K)) (stR k l f m T d ins v2.toInt) (gw k l f) with
    | none =>
      rw [hb] at w5
      have w5' : best' = -1 := w5
      refine ⟨fun _ => R_F_answer_36 (hqN _ (Or.inr (Or.inr ⟨by rw [w5']; decide, ok, K, hK⟩)) (fun _ => ?_) _ _ _ _ _ _ _ _ _ _ _ _ _ _ _ _ _ _ _ _ _ _ _ _ _ _ _ _ _ _ _ _ _ _ _ _ _ (Or.inr w1)), fun q => absurd (by rw [w5']; decide) q⟩
      unfold anZ
      rw [hK]
      dsimp only
      rw [hb]
    | some o =>
      obtain ⟨b, t, lw⟩ := o
      rw [hb] at w5
      obtain ⟨y1, y2, y3, y4, y5, y6, y7, y8⟩ := w5
      have han : anZ k l f m T d ins tt len odds v1.toInt v2.toInt = some (K, b, t, lw) := by
        unfold anZ
        rw [hK]
        dsimp only
        rw [hb]
      have hl : (1000 * low').toInt = ((1000 * lw.toNat : Nat) : Int) := j_mulN (show (1000 : Int64).toInt = ((1000 : Nat) : Int) by decide) (show low'.toInt = (lw.toNat : Int) by omega) (by omega)
      exact ⟨fun q => absurd q (by rw [i_lt, z_0, y1]; omega), fun _ => S_Frac_become y3 hl (by omega) (by omega) fun sg' an' ad' bn' bd' hF => R_F_answer_36 (hq ok K b t lw han best' _ _ _ _ _ _ _ _ _ _ _ _ _ _ _ _ _ _ _ _ _ _ _ _ _ _ _ _ _ _ _ _ _ _ _ _ _ _ _ _ _ _ y1 (Or.inr w1) hF)⟩
/-- what answers tells -/
def awP (k l f m : Nat) (T : Nat → Nat → Int) (ins : Nat → Nat) (cf : Nat → Nat) (b : Nat) (t lw : Int) (w : Int) : Int := if w = 0 then mmR k l f m T ins cf * ((1000 * lw.toNat : Nat) : Int) + ((t.toNat * (gaR k l f m T ins cf b).toNat : Nat) : Int) else lsI (fun j => erng k l f m T ins 0 j * 1000 * (lw.toNat : Int) + t * (payI k l f m b j * T (gw k l f) (2 * gw k l f) - erng k l f m T ins 0 j)) (gw k l f)
def awQ (k l f : Nat) (T : Nat → Nat → Int) (cf : Nat → Nat) (lw : Int) (w : Int) : Nat := if w = 0 then 1000 * lw.toNat * (zN k l f T * (alR k l f cf).toNat) else 1000 * lw.toNat * zN k l f T
theorem S_F_answers {v1 v2 v3 : Int32} {Q : Int32 → Int32 → Int32 → Int64 → Int64 → Int32 → (Nat → Int64) → (Nat → Int32) → (Nat → Int64) → Int32 → Int32 → (Nat → Int32) → Int32 → (Nat → Int32) → Int32 → (Nat → Int32) → Int32 → (Nat → Int32) → Int32 → (Nat → Int32) → Int32 → (Nat → Int32) → Int32 → (Nat → Int32) → Int32 → (Nat → Int32) → Int32 → (Nat → Int32) → Int64 → Int64 → Int32 → Int64 → Int64 → Int64 → Int64 → Int64 → (Nat → Int64) → (Nat → Int64) → (Nat → Int64) → Int32 → (Nat → Int32) → Int32 → (Nat → Int32) → Int32 → (Nat → Int32) → Int32 → (Nat → Int32) → Prop} (h : CR k l f m rk rl rf rm rtc rwc rth rca) (hG : GameOf k l f m T d ins n) (hs : isw = 0 ∨ GWd k l f T d ins n ways isw gd gz turns cells sec) (hM : MenR l f rows lens tt len) (hx : xo.toInt = (odds : Int)) (ho : 1 ≤ odds ∧ odds ≤ 100000) (hq0 : ¬ (v3.toInt = 0 ∨ v3.toInt = 1) → Q (-100) ways isw gd gz turns cells gin sec sg an ad bn bd cn cd sn sd cno counts s1 d1 s2 d2 s3 d3 s4 d4 wts mmv best gain nT nL top low wt me er an1 ad1 an2 ad2 an3 ad3 an4 ad4) (hqN : v3.toInt = 0 ∨ v3.toInt = 1 → ∀ (r : Int32) (y : Int), anN k l f tt len odds v1.toInt v2.toInt y → (okA k f v1.toInt v2.toInt → anZ k l f m T d ins tt len odds v1.toInt v2.toInt = none) → (y = -2 → r.toInt = -100) → (y = -3 → r.toInt = -200) → (y = -1 → r.toInt = -300) → ∀ ways' isw' gd' gz' turns' cells' gin' sec' cno' counts' s1' d1' s2' d2' s3' d3' s4' d4' wts' mmv' best' gain' nT' nL' top' low' wt' me' er' an1' ad1' an2' ad2' an3' ad3' an4' ad4', isw' = 0 ∨ GWd k l f T d ins n ways' isw' gd' gz' turns' cells' sec' → Q r ways' isw' gd' gz' turns' cells' gin' sec' sg an ad bn bd cn cd sn sd cno' counts' s1' d1' s2' d2' s3' d3' s4' d4' wts' mmv' best' gain' nT' nL' top' low' wt' me' er' an1' ad1' an2' ad2' an3' ad3' an4' ad4') (hq : v3.toInt = 0 ∨ v3.toInt = 1 → okA k f v1.toInt v2.toInt → ∀ K b t lw, anZ k l f m T d ins tt len odds v1.toInt v2.toInt = some (K, b, t, lw) → ∀ (r : Int32) ways' isw' gd' gz' turns' cells' gin' sec' sg' an' ad' bn' bd' cn' cd' sn' sd' cno' counts' s1' d1' s2' d2' s3' d3' s4' d4' wts' mmv' best' gain' nT' nL' top' low' wt' me' er' an1' ad1' an2' ad2' an3' ad3' an4' ad4', r.toInt = (awP k l f m T ins (cfA l f tt len v1.toInt K) b t lw v3.toInt).sign → isw' = 0 ∨ GWd k l f T d ins n ways' isw' gd' gz' turns' cells' sec' → FS sg' an' ad' bn' bd' (awP k l f m T ins (cfA l f tt len v1.toInt K) b t lw v3.toInt) (awQ k l f T (cfA l f tt len v1.toInt K) lw v3.toInt) → Q r ways' isw' gd' gz' turns' cells' gin' sec' sg' an' ad' bn' bd' cn' cd' sn' sd' cno' counts' s1' d1' s2' d2' s3' d3' s4' d4' wts' mmv' best' gain' nT' nL' top' low' wt' me' er' an1' ad1' an2' ad2' an3' ad3' an4' ad4') : P_F_answers xo rk rl rf rm rtc rwc rth rca ways isw gd gz turns cells gin sec sg an ad bn bd cn cd sn sd cno rows lens counts s1 d1 s2 d2 s3 d3 s4 d4 wts mmv best gain nT nL top low wt me er an1 ad1 an2 ad2 an3 ad3 an4 ad4 v1 v2 v3 Q := by
  have zm100 : (-100 : Int32).toInt = -100 := by decide
  have zm200 : (-200 : Int32).toInt = -200 := by decide
  have zm300 : (-300 : Int32).toInt = -300 := by decide
  have zm2' : (-2 : Int32).toInt = -2 := by decide
  have zm3' : (-3 : Int32).toInt = -3 := by decide
  have zm1' : (-1 : Int32).toInt = -1 := by decide
  refine T_F_answers (R_F_answers_0 (S_F_either fun r1 e1 => ⟨fun z => R_F_answers_16 (R_F_answers_18 ⟨fun q => absurd rfl q, fun _ => hq0 ((bz e1).mp z)⟩), fun z => ?_⟩))
  have h3 := Classical.not_not.mp (mt (bz e1).mpr z)
  refine S_F_findReply h hG hs hM hx ho (fun r hr => ?_) fun ok K hK => ?_
  · intro cno' counts' s1' d1' s2' d2' s3' d3' s4' d4'
    refine R_F_answers_18 ?_
    rw [i_eq, zm2']
    rcases hr with ⟨q1, q2⟩ | ⟨q1, q2, q3⟩
    · exact ⟨fun q => absurd q1 q, fun _ => hqN h3 _ (-2) (Or.inl ⟨rfl, q2⟩) (fun ok => absurd ok q2) (fun _ => zm100) (fun o => by omega) (fun o => by omega) _ _ _ _ _ _ _ _ _ _ _ _ _ _ _ _ _ _ _ _ _ _ _ _ _ _ _ _ _ _ _ _ _ _ _ _ _ hs⟩
    · refine ⟨fun _ => R_F_answers_30 ?_, fun q => by omega⟩
      rw [i_eq, zm3']
      exact ⟨fun q => absurd q1 q, fun _ => hqN h3 _ (-3) (Or.inr (Or.inl ⟨rfl, q2, q3⟩)) (fun _ => by unfold anZ; rw [q3]) (fun o => by omega) (fun _ => zm200) (fun o => by omega) _ _ _ _ _ _ _ _ _ _ _ _ _ _ _ _ _ _ _ _ _ _ _ _ _ _ _ _ _ _ _ _ _ _ _ _ _ hs⟩
  · intro ways' isw' gd' gz' turns' cells' gin' sec' cno' counts' s1' d1' s2' d2' s3' d3' s4' d4' wts' mmv' best' gain' nT' nL' top' low' wt' me' er' an1' ad1' an2' ad2' an3' ad3' an4' ad4' w1 w2 w3 w4 w5
    cases hb : bsI (gaR k l f m T ins (cfA l f tt len v1.toInt K)) (stR k l f m T d ins v2.toInt) (gw k l f) with
    | none =>
      rw [hb] at w5
      have w5' : best' = -1 := w5
      refine R_F_answers_18 ⟨fun _ => R_F_answers_30 ⟨fun _ => R_F_answers_41 ⟨fun q => absurd w5' q, fun _ => hqN h3 _ (-1) (Or.inr (Or.inr ⟨rfl, ok, K, hK⟩)) (fun _ => ?_) (fun o => by omega) (fun o => by omega) (fun _ => zm300) _ _ _ _ _ _ _ _ _ _ _ _ _ _ _ _ _ _ _ _ _ _ _ _ _ _ _ _ _ _ _ _ _ _ _ _ _ (Or.inr w1)⟩, fun q => absurd (w5'.symm.trans q) (by decide)⟩, fun q => absurd (w5'.symm.trans q) (by decide)⟩
      unfold anZ
      rw [hK]
      dsimp only
      rw [hb]
    | some o =>
      obtain ⟨b, t, lw⟩ := o
      have hin := bsI_in hb
      rw [hb] at w5
      obtain ⟨y1, y2, y3, y4, y5, y6, y7, y8⟩ := w5
      have han : anZ k l f m T d ins tt len odds v1.toInt v2.toInt = some (K, b, t, lw) := by
        unfold anZ
        rw [hK]
        dsimp only
        rw [hb]
      have ok1 := ok.1
      have hlen := (hM v1.toInt.toNat (by omega)).2.1
      have hcf := cf_bd (l := l) (f := f) (t := tt v1.toInt.toNat) (K := K) (c := cxt (gn l f) (tt v1.toInt.toNat) K (len v1.toInt.toNat)) hlen
      have hw := gw_le h.1
      have hzN := zN_eq hG h.1
      have hgz : gz'.toInt = T (gw k l f) (2 * gw k l f) := w1.2.2.2.1
      have hal := al_pos hin.2.1
      have halb := sumZ_bd (g := wgR k l f (cfA l f tt len v1.toInt K)) (B := 120) (n := gw k l f) fun i _ => by
        have := wg_bd (k := k) (l := l) (f := f) hcf i
        exact ⟨by show -120 ≤ wgR k l f (cfA l f tt len v1.toInt K) i; have : 0 ≤ wgR k l f (cfA l f tt len v1.toInt K) i := this.1; omega, this.2⟩
      have halb' : alR k l f (cfA l f tt len v1.toInt K) ≤ (gw k l f : Int) * 120 := halb.2
      have hmb : -40265318400000 ≤ mmR k l f m T ins (cfA l f tt len v1.toInt K) ∧ mmR k l f m T ins (cfA l f tt len v1.toInt K) ≤ 40265318400000 := mm_bd h.1 hG hcf (Nat.le_refl (gw k l f))
      have hlN : low'.toInt = (lw.toNat : Int) := by omega
      have fin := hq h3 ok K b t lw han
      refine R_F_answers_18 ⟨fun _ => R_F_answers_30 ⟨fun _ => R_F_answers_41 ⟨fun _ => R_F_answers_51 ⟨fun q => R_F_answers_69 ?_, fun q => ?_⟩, fun q => absurd (by rw [q] at y1; exact y1) (by rw [zm1']; omega)⟩, fun q => absurd (by rw [q] at y1; exact y1) (by rw [zm3']; omega)⟩, fun q => absurd (by rw [q] at y1; exact y1) (by rw [zm2']; omega)⟩
      · have q' : ¬ v3.toInt = 0 := fun o => q (by rw [i_eq, o, z_0])
        refine S_Rep_putWorst h hG hgz w4 y1 hin.1 y3 hlN y5 (by omega) fun sg' an' ad' bn' bd' hF => R_F_answers_80 ?_
        unfold awP awQ at fin
        rw [if_neg q', if_neg q'] at fin
        exact fin _ _ _ _ _ _ _ _ _ _ _ _ _ _ _ _ _ _ _ _ _ _ _ _ _ _ _ _ _ _ _ _ _ _ _ _ _ _ _ _ _ _ _ _ _ _ _ hF.2.2.2 (Or.inr w1) hF
      · have q' : v3.toInt = 0 := by rw [q]; exact z_0
        refine S_Rep_putMean (z' := zN k l f T) (al' := (alR k l f (cfA l f tt len v1.toInt K)).toNat) (g' := (gaR k l f m T ins (cfA l f tt len v1.toInt K) b).toNat) (t' := t.toNat) (lw' := lw.toNat) (by rw [hgz, hzN.1]) (by rw [w2]; omega) w3 (by rw [y2]; omega) (by omega) hlN hzN.2 ⟨by omega, by omega⟩ hmb (by omega) (by omega) (by omega) fun sg' an' ad' bn' bd' cn' cd' sn' sd' a1 x1 a2 x2 a3 x3 a4 x4 hF => R_F_answers_80 ?_
        unfold awP awQ at fin
        rw [if_pos q', if_pos q'] at fin
        exact fin _ _ _ _ _ _ _ _ _ _ _ _ _ _ _ _ _ _ _ _ _ _ _ _ _ _ _ _ _ _ _ _ _ _ _ _ _ _ _ _ _ _ _ _ _ _ _ hF.2.2.2 (Or.inr w1) hF
end REPF
