/-! THE STEPS in the class: laying, the whole work -/
theorem GC.congr {cells : Nat → Int64} {T T' : Nat → Nat → Int} {w : Nat} (h : GC cells T w) (e : ∀ r j, r ≤ w → j ≤ 2 * w → T r j = T' r j) : GC cells T' w := fun r j hr hj => by rw [h r j hr hj, e r j hr hj]
theorem GC.up {cells : Nat → Int64} {T : Nat → Nat → Int} {w a b : Nat} {x : Int64} {z : Int} (h : GC cells T w) (hw : w ≤ 25) (hb : b ≤ 2 * w) (hx : x.toInt = z) : GC (up cells (51 * a + b) x) (fun r j => if r = a ∧ j = b then z else T r j) w := fun r j hr hj => by
  show _ = if r = a ∧ j = b then z else T r j
  by_cases e : r = a ∧ j = b
  · rw [if_pos e, e.1, e.2, up_same]
    exact hx
  · rw [if_neg e, up_ne (by omega)]
    exact h r j hr hj
theorem zLm1 : (-1 : Int64).toInt = -1 := by decide
section GAMEC2
variable {vv : Nat → Value} {k l f m : Nat} {rk rl rf rm rtc rwc : Int32} {rth rca : Nat → Int32} {vvr : Nat → Value}
def tabI (k l f m i : Nat) : Nat → Nat → Int := fun r j => if r = gw k l f then (if j < i then -1 else 0) else if r < i then tab0 k l f m r j else 0
theorem S_Game_lay {Q : Int32 → Int64 → (Nat → Int64) → (Nat → Int32) → Prop} {ways : Int32} {d : Int64} {cells : Nat → Int64} {gin : Nat → Int32} (h : CR k l f m rk rl rf rm rtc rwc rth rca) (hq : ∀ (ways' : Int32) (d' : Int64) (cells' : Nat → Int64) (gin' : Nat → Int32), ways'.toInt = (gw k l f : Int) → d'.toInt = 1 → GC cells' (T0 k l f m) (gw k l f) → IR gin' (I0 k l f) (gw k l f) → Q ways' d' cells' gin') : P_Game_lay vvr vv rk rf rm rwc rth rca ways d cells gin Q := by
  have hw := gw_le h.1
  have hlt : ∀ i, i < gw k l f → ∀ j, j < gw k l f → tab0 k l f m i j = payI k l f m i j + bnd k f := fun i hi j hj => by
    unfold tab0
    rw [if_neg (by omega), if_pos hj]
  have hge : ∀ i, i < gw k l f → ∀ j, gw k l f ≤ j → tab0 k l f m i j = if j = 2 * gw k l f ∨ j = gw k l f + i then 1 else 0 := fun i hi j hj => by
    unfold tab0
    rw [if_neg (by omega), if_neg (by omega)]
    by_cases e1 : j = 2 * gw k l f
    · rw [if_pos e1, if_pos (Or.inl e1)]
    · rw [if_neg e1]
      by_cases e2 : j = gw k l f + i
      · rw [if_pos e2, if_pos (Or.inr e2)]
      · rw [if_neg e2, if_neg (by omega)]
  have hbot : ∀ j, tab0 k l f m (gw k l f) j = if j < gw k l f then -1 else 0 := fun j => by
    unfold tab0
    rw [if_pos rfl]
  have hbnd : (bnd k f : Int) ≤ 9 := by
    have h0 := h.1
    unfold RuleOK at h0
    unfold bnd
    split <;> omega
  refine T_Game_lay (R_Game_lay_0 (S_Ja_fillL (by omega) fun c1 hc1 => ?_))
  have e2 := h.wc
  have hI : ∀ i, i < gw k l f → I0 k l f i = gw k l f + i := fun i hi => I0_eq hi
  have hT : ∀ r j, r ≤ gw k l f → j ≤ 2 * gw k l f → T0 k l f m r j = tab0 k l f m r j := fun r j hr hj => T0_eq hr hj
  generalize hwe : gw k l f = w at *
  have loop : ∀ (u i : Nat) (F : Nat → Int64) (G : Nat → Int32) (v1 : Int32), i + u = w → v1.toInt = (i : Int) → GC F (fun r j => if r = w then (if j < i then -1 else 0) else if r < i then tab0 k l f m r j else 0) w → (∀ i', i' < i → (G i').toInt = ((w + i' : Nat) : Int)) → E_Game_lay_26 vvr vv rk rf rm rwc rth rca rwc 1 F G v1 Q := by
    intro u
    induction u with
    | zero =>
      intro i F G v1 hu h1 hF hG
      have hiw : i = w := by omega
      subst hiw
      refine R_Game_lay_26 ⟨fun _ => R_Game_lay_144 (hq _ _ _ _ e2 zL1 (hF.congr fun r j hr hj => ?_) fun i' hi' => by rw [hI i' hi']; exact hG i' hi'), fun y => absurd (by rw [i_le]; omega) y⟩
      rw [hT r j hr hj]
      by_cases e : r = i
      · rw [if_pos e, e, hbot]
      · rw [if_neg e, if_pos (by omega)]
    | succ u ih =>
      intro i F G v1 hu h1 hF hG
      refine R_Game_lay_26 ⟨fun y => absurd y (by rw [i_le]; omega), fun _ x3 e3 => ?_⟩
      have hx3 : x3.toInt = ((51 * i : Nat) : Int) := by rw [e3, i_mulN h1 z_51 (by omega)]; omega
      have inner : ∀ (u' j : Nat) (F : Nat → Int64) (v3 : Int32), j + u' = w → v3.toInt = (j : Int) → GC F (fun r c => if r = w then (if c < i then -1 else 0) else if r < i then tab0 k l f m r c else if r = i ∧ c < j then tab0 k l f m i c else 0) w → E_Game_lay_41 vvr vv rk rf rm rwc rth rca rwc 1 F G v1 x3 v3 Q := by
        intro u'
        induction u' with
        | zero =>
          intro j F v3 hu' h3 hF
          have hjw : j = w := by omega
          subst hjw
          have i1 : (x3 + rwc + v1).toInt = ((51 * i + (j + i) : Nat) : Int) := by rw [i_addN (i_addN hx3 e2 (by omega)) h1 (by omega)]; omega
          have i2 : (x3 + 2 * rwc).toInt = ((51 * i + 2 * j : Nat) : Int) := i_addN hx3 (i_two e2 (by omega)) (by omega)
          have i3 : (rwc * 51 + v1).toInt = ((51 * j + i : Nat) : Int) := by rw [i_addN (i_mulN e2 z_51 (by omega)) h1 (by omega)]; omega
          refine R_Game_lay_41 ⟨fun _ => R_Game_lay_81 ⟨i_in i1 (by omega), i_in i2 (by omega), i_in i3 (by omega), i_in h1 (by omega), fun x7 e7 => ?_⟩, fun y => absurd (by rw [i_le]; omega) y⟩
          rw [i_nat i1, i_nat i2, i_nat i3, i_nat h1]
          refine ih (i + 1) _ _ x7 (by omega) (by rw [e7]; exact i_suc h1 (by omega)) ((((hF.up (a := i) (b := j + i) (by omega) (by omega) zL1).up (a := i) (b := 2 * j) (by omega) (by omega) zL1).up (a := j) (b := i) (by omega) (by omega) zLm1).congr fun r c hr hc => ?_) (fun i' hi' => ?_)
          · by_cases er : r = j
            · subst er
              rw [if_pos rfl, if_pos rfl]
              by_cases ec : c = i
              · rw [if_pos ⟨rfl, ec⟩, if_pos (by omega)]
              · rw [if_neg (fun z => ec z.2), if_neg (by omega), if_neg (by omega)]
                by_cases e4 : c < i
                · rw [if_pos e4, if_pos (by omega)]
                · rw [if_neg e4, if_neg (by omega)]
            · rw [if_neg (fun z => er z.1), if_neg er, if_neg er]
              by_cases eri : r = i
              · subst eri
                rw [if_pos (show r < r + 1 by omega), if_neg (show ¬ r < r by omega)]
                by_cases ec : c < j
                · rw [if_neg (by omega), if_neg (by omega), if_pos ⟨rfl, ec⟩]
                · rw [hge r (by omega) c (by omega)]
                  by_cases e5 : c = 2 * j
                  · rw [if_pos ⟨rfl, e5⟩, if_pos (Or.inl e5)]
                  · rw [if_neg (fun z => e5 z.2)]
                    by_cases e6 : c = j + r
                    · rw [if_pos ⟨rfl, e6⟩, if_pos (Or.inr e6)]
                    · rw [if_neg (fun z => e6 z.2), if_neg (fun z => ec z.2), if_neg (by omega)]
              · by_cases e4 : r < i
                · rw [if_neg (fun z => eri z.1), if_neg (fun z => eri z.1), if_pos e4, if_pos (by omega)]
                · rw [if_neg (fun z => eri z.1), if_neg (fun z => eri z.1), if_neg e4, if_neg (fun z => eri z.1), if_neg (by omega)]
          · by_cases e : i' = i
            · rw [e, up_same]
              exact i_addN e2 h1 (by omega)
            · rw [up_ne e]; exact hG i' (by omega)
        | succ u' ih' =>
          intro j F v3 hu' h3 hF
          refine R_Game_lay_41 ⟨fun y => absurd y (by rw [i_le]; omega), fun _ => S_Rule_payOf h h1 (by omega) h3 (by omega) fun r4 e4 => S_Rule_bound h fun r5 e5 => ?_⟩
          have hp := pay_bd h.1 (i := i) (j := j) (by omega) (by omega)
          have ij := i_addN hx3 h3 (by omega)
          refine ⟨i_in ij (by omega), fun x6 e6 => ?_⟩
          rw [i_nat ij]
          have hv : (r4 + r5).toInt64.toInt = payI k l f m i j + bnd k f := i_wide (i_add e4 e5 (by omega) (by omega))
          refine ih' (j + 1) _ x6 (by omega) (by rw [e6]; exact i_suc h3 (by omega)) ((hF.up (a := i) (b := j) (by omega) (by omega) hv).congr fun r c hr hc => ?_)
          by_cases er : r = i ∧ c = j
          · rw [if_pos er, er.1, er.2, if_neg (by omega), if_neg (by omega), if_pos ⟨rfl, by omega⟩, hlt i (by omega) j (by omega)]
          · rw [if_neg er]
            by_cases e1 : r = w
            · rw [if_pos e1, if_pos e1]
            · rw [if_neg e1, if_neg e1]
              by_cases e2 : r < i
              · rw [if_pos e2, if_pos e2]
              · rw [if_neg e2, if_neg e2]
                by_cases e3 : r = i ∧ c < j
                · rw [if_pos e3, if_pos ⟨e3.1, by omega⟩]
                · rw [if_neg e3, if_neg (by omega)]
      exact inner w 0 F 0 (by omega) i_0 (hF.congr fun r c hr hc => by
        by_cases e1 : r = w
        · rw [if_pos e1, if_pos e1]
        · rw [if_neg e1, if_neg e1]
          by_cases e2 : r < i
          · rw [if_pos e2, if_pos e2]
          · rw [if_neg e2, if_neg e2, if_neg (by omega)])
  exact loop w 0 c1 gin 0 (by omega) i_0 (fun r j hr hj => by
    rw [hc1 _ (by omega), zL0]
    show (0 : Int) = if r = w then (if j < 0 then -1 else 0) else if r < 0 then tab0 k l f m r j else 0
    by_cases e1 : r = w
    · rw [if_pos e1, if_neg (by omega)]
    · rw [if_neg e1, if_neg (by omega)]) (fun i' hi' => by omega)
theorem S_Game_readSecond {Q : (Nat → Int64) → Prop} {w : Nat} {ways : Int32} {cells sec : Nat → Int64} {gin : Nat → Int32} {T : Nat → Nat → Int} {ins : Nat → Nat} (hw : ways.toInt = (w : Int)) (hw25 : w ≤ 25) (h : GC cells T w) (hi : IR gin ins w) (hq : ∀ sec' : Nat → Int64, (∀ i, i < w → (sec' i).toInt = secZ T ins w i w) → Q sec') : P_Game_readSecond vv ways cells gin sec Q := by
  have h2w := i_two hw (by omega)
  have loop : ∀ (u r : Nat) (F : Nat → Int64) (v1 : Int32), r + u = w → v1.toInt = (r : Int) → (∀ i, i < w → (F i).toInt = secZ T ins w i r) → E_Game_readSecond_10 vv ways cells gin F v1 Q := by
    intro u
    induction u with
    | zero =>
      intro r F v1 hu h1 hF
      have : r = w := by omega
      subst this
      exact R_Game_readSecond_10 ⟨fun _ => R_Game_readSecond_64 (hq F hF), fun y => absurd (by rw [i_le]; omega) y⟩
    | succ u ih =>
      intro r F v1 hu h1 hF
      have hr := hi r (by omega)
      have b1 := ixg h1 h2w (by omega) (by omega)
      refine R_Game_readSecond_10 ⟨fun y => absurd y (by rw [i_le]; omega), fun _ => ⟨i_in h1 (by omega), fun y => R_Game_readSecond_58 fun x2 e2 => ?_, fun y => ?_⟩⟩
      · rw [i_nat h1, i_le, hw, hr] at y
        refine ih (r + 1) F x2 (by omega) (by rw [e2]; exact i_suc h1 (by omega)) fun i hi' => ?_
        rw [hF i hi']
        simp only [secZ]
        rw [if_neg (by omega)]
      · rw [i_nat h1] at y ⊢
        rw [i_le, hw, hr] at y
        refine ⟨i_in h1 (by omega), b1.1, i_in hr (by omega), R_Game_readSecond_58 fun x2 e2 => ?_⟩
        rw [b1.2, i_nat hr]
        refine ih (r + 1) _ x2 (by omega) (by rw [e2]; exact i_suc h1 (by omega)) fun i hi' => ?_
        simp only [secZ]
        by_cases e : ins r = i
        · rw [if_pos e, ← e, up_same]
          exact h r (2 * w) (by omega) (by omega)
        · rw [if_neg e, up_ne (fun z => e z.symm)]
          exact hF i hi'
  exact T_Game_readSecond (R_Game_readSecond_0 (S_Ja_fillL (by omega) fun c1 hc1 => loop w 0 c1 0 (by omega) i_0 fun i hi' => by rw [hc1 i (by omega), zL0]; rfl))
/-- the game is worked -/
def GWd (k l f : Nat) (T : Nat → Nat → Int) (d : Int) (ins : Nat → Nat) (n : Nat) (ways isw : Int32) (gd gz : Int64) (turns : Int32) (cells sec : Nat → Int64) : Prop := isw = 1 ∧ ways.toInt = (gw k l f : Int) ∧ gd.toInt = d ∧ gz.toInt = T (gw k l f) (2 * gw k l f) ∧ turns.toInt = (n : Int) ∧ GC cells T (gw k l f) ∧ (∀ i, i < gw k l f → (sec i).toInt = secZ T ins (gw k l f) i (gw k l f))
theorem S_Game_work {Q : Int32 → Int32 → Int64 → Int64 → Int32 → (Nat → Int64) → (Nat → Int32) → (Nat → Int64) → Prop} {ways isw turns : Int32} {gd gz : Int64} {cells sec : Nat → Int64} {gin : Nat → Int32} {T : Nat → Nat → Int} {d : Int} {ins : Nat → Nat} {n : Nat} (h : CR k l f m rk rl rf rm rtc rwc rth rca) (hG : GameOf k l f m T d ins n) (hs : isw = 0 ∨ GWd k l f T d ins n ways isw gd gz turns cells sec) (hq : ∀ ways' isw' gd' gz' turns' cells' gin' sec', GWd k l f T d ins n ways' isw' gd' gz' turns' cells' sec' → Q ways' isw' gd' gz' turns' cells' gin' sec') : P_Game_work vvr rk rf rm rwc rth rca ways isw gd gz turns cells gin sec Q := by
  have hw := gw_le h.1
  have hfc := hG.fct h.1
  refine T_Game_work (R_Game_work_0 ⟨fun _ => R_Game_work_8 ?_, fun e => ?_⟩)
  · have z1e5 : (100000 : Int32).toInt = 100000 := by decide
    have loop : ∀ (u : Nat) (t : Nat) (W : Int32) (gd' : Int64) (F : Nat → Int64) (G : Nat → Int32) (tn v1 : Int32) (T1 : Nat → Nat → Int) (d1 : Int) (ins1 : Nat → Nat), W.toInt = (gw k l f : Int) → gd'.toInt = d1 → GC F T1 (gw k l f) → IR G ins1 (gw k l f) → tn.toInt = (t : Int) → v1.toInt = (t : Int) → t + u ≤ 1000 → Trace (gw k l f) u T1 d1 ins1 t T d ins n → E_Game_work_19 vvr rk rf rm rwc rth rca W isw gd' gz tn F G sec v1 Q := by
      intro u
      induction u with
      | zero =>
        intro t W gd' F G tn v1 T1 d1 ins1 _ _ _ _ _ _ _ hT
        exact False.elim hT
      | succ u ih =>
        intro t W gd' F G tn v1 T1 d1 ins1 hW hd hF hI htn hv htu hT
        obtain ⟨hB, hd1, hT⟩ := hT
        refine R_Game_work_19 ⟨fun y => absurd y (by rw [i_le, z1e5]; omega), fun _ => S_Game_findColumn hW hw.2 hF fun r5 e5 => ?_⟩
        rcases hT with ⟨hT, e1, e2, e3, e4⟩ | ⟨c, r, hc, hr, hT⟩
        · rw [hT] at e5
          have e5' : r5.toInt = -1 := e5
          subst e1 e2 e3 e4
          refine ⟨fun y => absurd (by rw [i_eq, z_m1]; exact e5') y, fun _ => R_Game_work_44 ⟨fun y => absurd rfl y, fun _ => ?_⟩⟩
          have h2w := i_two hW (by omega)
          have b1 := ixg hW h2w (by omega) (by omega)
          refine R_Game_work_75 ⟨b1.1, fun x6 e6 => S_Game_readSecond hW hw.2 hF hI fun c7 h7 => ⟨rb1, hq _ _ _ _ _ _ _ _ ⟨rfl, hW, hd, ?_, htn, hF, h7⟩⟩⟩
          rw [b1.2] at e6
          have hz := hF (gw k l f) (2 * gw k l f) (by omega) (by omega)
          have hz0 := hfc.1
          rw [if_neg (by rw [j_lt, hz, zL1]; omega)] at e6
          rw [e6]
          exact hz
        · rw [hc] at e5
          have e5' : r5.toInt = (c : Int) := e5
          have hc' := fstC_some hc
          refine ⟨fun _ => R_Game_work_39 (S_Game_findRow hW hw.2 hF hI hB e5' (by omega) fun r8 e8 => ?_), fun y => absurd y (by rw [i_eq, z_m1]; omega)⟩
          rw [hr] at e8
          have e8' : r8.toInt = (r : Int) := e8
          have hr' := bstR_lt hr
          refine R_Game_work_44 ⟨fun _ => R_Game_work_53 (S_Game_bringIn hW hw.2 hF hI hB hd hd1.1 e8' hr'.1 e5' (by omega) fun d' F' G' g1 g2 g3 x12 e12 x13 e13 => ?_), fun y => absurd y (by rw [i_eq, z_m1]; omega)⟩
          exact ih (t + 1) W d' F' G' x12 x13 _ _ _ hW g1 g2 g3 (by rw [e12]; exact i_suc htn (by omega)) (by rw [e13]; exact i_suc hv (by omega)) (by omega) hT
    refine S_Game_lay h fun W d' F G g1 g2 g3 g4 => ?_
    exact loop 40 0 W d' F G 0 0 _ _ _ g1 g2 g3 g4 i_0 i_0 (by omega) hG.trace
  · rcases hs with hs | hs
    · exact absurd hs e
    · exact hq _ _ _ _ _ _ _ _ hs
theorem S_Game_share {Q : Int64 → Prop} {ways isw turns v1 v2 : Int32} {gd gz : Int64} {cells sec : Nat → Int64} {T : Nat → Nat → Int} {d : Int} {ins : Nat → Nat} {n p i : Nat} (hr : RuleOK k l f m) (hs : GWd k l f T d ins n ways isw gd gz turns cells sec) (h1 : v1.toInt = (p : Int)) (h2 : v2.toInt = (i : Int)) (hi : i < gw k l f) (hq : ∀ r : Int64, r.toInt = shr T ins (gw k l f) p i → Q r) : P_Game_share vv ways cells sec v1 v2 Q := by
  have hw := gw_le hr
  obtain ⟨-, hW, -, -, -, hF, hS⟩ := hs
  unfold shr at hq
  refine T_Game_share (R_Game_share_0 ⟨fun e => R_Game_share_26 ⟨i_in h2 (by omega), R_Game_share_32 (hq _ ?_)⟩, fun e => ?_⟩)
  · rw [i_lit0 h1] at e
    rw [if_neg e, i_nat h2]
    exact hS i hi
  · rw [i_lit0 h1] at e
    rw [if_pos e] at hq
    have ij : (ways * 51 + ways + v2).toInt = ((51 * gw k l f + (gw k l f + i) : Nat) : Int) := by
      rw [i_addN (i_addN (i_mulN hW z_51 (by omega)) hW (by omega)) h2 (by omega)]
      omega
    refine ⟨i_in ij (by omega), R_Game_share_32 (hq _ ?_)⟩
    rw [i_nat ij]
    exact hF _ _ (by omega) (by omega)
theorem S_Game_worth {Q : Int64 → Prop} {vv' : Nat → Value} {gd gz : Int64} {d z : Int} (h : CR k l f m rk rl rf rm rtc rwc rth rca) (hd : gd.toInt = d) (hz : gz.toInt = z) (hd0 : 0 < d ∧ d < 67108864) (hz0 : 0 < z ∧ z < 67108864) (hq : ∀ r : Int64, r.toInt = d - bnd k f * z → Q r) : P_Game_worth vv vv' rk rf gd gz Q := by
  refine T_Game_worth (R_Game_worth_0 (S_Rule_bound h fun r1 e1 => hq _ ?_))
  have hb : (bnd k f : Int) ≤ 9 ∧ 0 ≤ (bnd k f : Int) := by
    have h0 := h.1
    unfold RuleOK at h0
    unfold bnd
    split <;> omega
  have hm := mul_bd (a := (bnd k f : Int)) (b := z) (by omega) (by omega)
  exact j_sub hd (j_mul (i_wide e1) hz (by omega) (by omega)) (by omega) (by omega)
theorem secZ_bd {T : Nat → Nat → Int} {ins : Nat → Nat} {w i : Nat} (h : Bd T w) : ∀ r, r ≤ w → -67108864 < secZ T ins w i r ∧ secZ T ins w i r < 67108864
  | 0, _ => by simp [secZ]
  | r + 1, hr => by
    simp only [secZ]
    split
    · exact h r (2 * w) (by omega) (by omega)
    · exact secZ_bd h r (by omega)
theorem shr_bd {T : Nat → Nat → Int} {ins : Nat → Nat} {w p i : Nat} (h : Bd T w) (hi : i < w) : -67108864 < shr T ins w p i ∧ shr T ins w p i < 67108864 := by
  unfold shr
  split
  · exact h w (w + i) (by omega) (by omega)
  · exact secZ_bd h w (by omega)
theorem small_mul {a b : Int} (ha : -67108864 < a ∧ a < 67108864) (hb : -8 ≤ b ∧ b ≤ 8) : -536870912 ≤ a * b ∧ a * b ≤ 536870912 := by
  have h : (a * b).natAbs ≤ 67108864 * 8 := by
    rw [Int.natAbs_mul]
    exact Nat.mul_le_mul (by omega) (by omega)
  omega
theorem S_Game_earnedAgainst {Q : Int64 → Prop} {ways isw turns v1 v2 : Int32} {gd gz : Int64} {cells sec : Nat → Int64} {T : Nat → Nat → Int} {d : Int} {ins : Nat → Nat} {n p i : Nat} (h : CR k l f m rk rl rf rm rtc rwc rth rca) (hG : GameOf k l f m T d ins n) (hs : GWd k l f T d ins n ways isw gd gz turns cells sec) (h1 : v1.toInt = (p : Int)) (h2 : v2.toInt = (i : Int)) (hi : i < gw k l f) (hq : ∀ r : Int64, r.toInt = erng k l f m T ins p i → Q r) : P_Game_earnedAgainst vvr vv rk rm rth rca ways cells sec v1 v2 Q := by
  have hw := gw_le h.1
  have hB := hG.bd.1
  unfold erng at hq
  have loop : ∀ (u q : Nat) (v3 : Int64) (v5 : Int32), q + u = gw k l f → v5.toInt = (q : Int) → v3.toInt = sumZ (fun q => shr T ins (gw k l f) p q * (if p = 0 then payI k l f m q i else payI k l f m i q)) q → -(536870912 * (q : Int)) ≤ v3.toInt → v3.toInt ≤ 536870912 * (q : Int) → E_Game_earnedAgainst_5 vvr vv rk rm rth rca ways cells sec v1 v2 v3 v5 Q := by
    intro u
    induction u with
    | zero =>
      intro q v3 v5 hu h5 h3 _ _
      have : q = gw k l f := by omega
      subst this
      exact R_Game_earnedAgainst_5 ⟨fun _ => R_Game_earnedAgainst_63 (hq _ h3), fun y => absurd (by rw [i_le, h5, hs.2.1]; omega) y⟩
    | succ u ih =>
      intro q v3 v5 hu h5 h3 hlo hhi
      have go : ∀ s0 : Int32, s0.toInt = (if p = 0 then payI k l f m q i else payI k l f m i q) → E_Game_earnedAgainst_41 vvr vv rk rm rth rca ways cells sec v1 v2 v3 v5 s0 Q := by
        intro s0 hs0
        refine R_Game_earnedAgainst_41 (S_Game_share h.1 hs h1 h5 (by omega) fun r3 e3 x4 e4 x5 e5 => ?_)
        have hp : -8 ≤ (if p = 0 then payI k l f m q i else payI k l f m i q) ∧ (if p = 0 then payI k l f m q i else payI k l f m i q) ≤ 8 := by
          split
          · exact pay_bd h.1 (by omega) hi
          · exact pay_bd h.1 hi (by omega)
        have hm := small_mul (shr_bd (ins := ins) (p := p) (i := q) hB (by omega)) hp
        have q4 : x4.toInt = v3.toInt + shr T ins (gw k l f) p q * (if p = 0 then payI k l f m q i else payI k l f m i q) := by
          rw [e4]
          exact j_add rfl (j_mul e3 (i_wide hs0) (by omega) (by omega)) (by omega) (by omega)
        refine ih (q + 1) x4 x5 (by omega) (by rw [e5]; exact i_suc h5 (by omega)) (by rw [q4, h3]; rfl) (by rw [q4]; omega) (by rw [q4]; omega)
      refine R_Game_earnedAgainst_5 ⟨fun y => absurd y (by rw [i_le, h5, hs.2.1]; omega), fun _ => ⟨fun e => R_Game_earnedAgainst_31 (S_Rule_payOf h h2 hi h5 (by omega) fun r2 e2 => go r2 ?_), fun e => S_Rule_payOf h h5 (by omega) h2 hi fun r1 e1 => go r1 ?_⟩⟩
      · rw [i_lit0 h1] at e
        rw [if_neg e, e2]
      · rw [i_lit0 h1] at e
        rw [if_pos e, e1]
  refine T_Game_earnedAgainst (R_Game_earnedAgainst_0 (loop (gw k l f) 0 0 0 (by omega) i_0 zL0 (by rw [zL0]; omega) (by rw [zL0]; omega)))
end GAMEC2
