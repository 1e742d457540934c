/-! the public calls of games, on both sides -/
section PUBG
variable {vv vv' vv2 vv3 : Nat → Value} {k l f m : Nat} {rk rl rf rm rtc rwc : Int32} {rth rca : Nat → Int32} {vvr : Nat → Value} {T : Nat → Nat → Int} {d : Int} {ins : Nat → Nat} {n : Nat} {fl ll gl wk gin : Nat → Int32} {tp un : Nat → Int64} {V : Nat → Int}
  {ways isw turns : Int32} {gd gz : Int64} {cells sec : Nat → Int64} {sg an bn cn sn : Int32} {ad bd cd sd : Nat → Int32}
  {mk ml mh mm mn mw mg mc : Int32}
/-- THE VALUE times Z -/
def vaZ (k l f : Nat) (T : Nat → Nat → Int) (d : Int) : Int := d - bnd k f * T (gw k l f) (2 * gw k l f)
theorem vaZ_bd (hG : GameOf k l f m T d ins n) (hr : RuleOK k l f m) : -67108864 < vaZ k l f T d ∧ vaZ k l f T d < 67108864 := by
  have hz := zN_eq hG hr
  have h1 := hG.fct hr
  have h2 := hG.bd.2.1
  have h3 := h1.2.2.1
  have hb : 0 ≤ (bnd k f : Int) * T (gw k l f) (2 * gw k l f) := Int.mul_nonneg (by omega) (by omega)
  unfold vaZ
  omega
theorem S_F_value {Q : Int32 → Int32 → Int32 → Int64 → Int64 → Int32 → (Nat → Int64) → (Nat → Int32) → (Nat → Int64) → Int32 → Int32 → (Nat → Int32) → Int32 → (Nat → Int32) → Prop} (h : CR k l f m rk rl rf rm rtc rwc rth rca) (hG : GameOf k l f m T d ins n) (hs : isw = 0 ∨ GWd k l f T d ins n ways isw gd gz turns cells sec) (hq : ∀ (r : Int32) ways' isw' gd' gz' turns' cells' gin' sec' sg' an' ad' bn' bd', r.toInt = (vaZ k l f T d).sign → GWd k l f T d ins n ways' isw' gd' gz' turns' cells' sec' → FS sg' an' ad' bn' bd' (vaZ k l f T d) (zN k l f T) → Q r ways' isw' gd' gz' turns' cells' gin' sec' sg' an' ad' bn' bd') : P_F_value vv vvr rk rf rm rwc rth rca ways isw gd gz turns cells gin sec sg an ad bn bd cn cd sn sd Q := by
  have hz := zN_eq hG h.1
  have hv := vaZ_bd hG h.1
  refine T_F_value (R_F_value_0 (S_Game_work h hG hs fun ways' isw' gd' gz' turns' cells' gin' sec' hW => S_Game_worth h hW.2.2.1 hW.2.2.2.1 hG.bd.2.1 (by omega) fun r9 e9 => S_Frac_become (p := vaZ k l f T d) (q := zN k l f T) e9 (by rw [hW.2.2.2.1, hz.1]) hz.2.1 (by omega) fun sg' an' ad' bn' bd' hF => hq _ _ _ _ _ _ _ _ _ _ _ _ _ _ hF.2.2.2 hW hF))
theorem S_Mo_value {Q : Int32 → (Nat → Int32) → (Nat → Int32) → (Nat → Int32) → (Nat → Int32) → (Nat → Int64) → (Nat → Int64) → Prop} (hr : RuleOK k l f m) (hG : GameOf k l f m T d ins n) (hM : MGd k l f m T d ins n mk ml mh mm mn mw mg mc gin V) (hR : MR fl ll gl V) (hq : ∀ (r : Int32) fl' ll' gl' wk' tp' un' V', r.toInt = (vaZ k l f T d).sign → MR fl' ll' gl' V' → Off (1340 :: 1344 :: 1345 :: SCR) V V' → FM V' (vaZ k l f T d) (zN k l f T) → Q r fl' ll' gl' wk' tp' un') : P_Mo_value vv mg fl ll gl wk tp un Q := by
  have hz := zN_eq hG hr
  have hv := vaZ_bd hG hr
  have hw := gw_le hr
  obtain ⟨g1, g2, g3, g4, g5, g6, g7, g8, g9⟩ := hM
  refine T_Mo_value (R_Mo_value_0 (S_Mo_valueTimes hr hG g4 g8 g9 hR c1340 (by omega) (by omega) fun F1 L1 G1 W1 V1 hR1 e1 hO1 => ?_))
  have e1' : V1 1340 = vaZ k l f T d := e1
  have z1 : V1 1358 = (zN k l f T : Int) := by rw [hO1 _ (by simp), g9, hz.1]
  refine S_Mo_tell hR1 c1340 (by omega) c1358 (by omega) (by omega) (by rw [z1]; omega) (by rw [e1']; exact powB (pow2 (by omega) (by omega)) (by omega)) (by rw [z1]; exact powB (pow2 (by omega) (by omega)) (by omega)) fun F2 L2 G2 W2 T2 U2 V2 hR2 hO2 n2 d2 => R_Mo_value_17 ⟨i_in c1344 (by omega), ?_⟩
  rw [e1', z1] at n2 d2
  have hF : FM V2 (vaZ k l f T d) (zN k l f T) := FM.told rfl hz.2.1 n2 d2
  refine hq _ _ _ _ _ _ _ V2 (by rw [i_nat c1344, hR2.sgn (by omega), hF.sgn.1]) hR2 ?_ hF
  exact (hO1.mono (by simp)).trans (hO2.mono (by simp))
theorem S_F_mix {v1 v2 : Int32} {Q : Int32 → Int32 → Int32 → Int64 → Int64 → Int32 → (Nat → Int64) → (Nat → Int32) → (Nat → Int64) → Int32 → Int32 → (Nat → Int32) → Int32 → (Nat → Int32) → Prop} (h : CR k l f m rk rl rf rm rtc rwc rth rca) (hG : GameOf k l f m T d ins n) (hs : isw = 0 ∨ GWd k l f T d ins n ways isw gd gz turns cells sec) (hq0 : ¬ ((v1.toInt = 0 ∨ v1.toInt = 1) ∧ isW k l f v2.toInt) → Q (-2) ways isw gd gz turns cells gin sec sg an ad bn bd) (hq : (v1.toInt = 0 ∨ v1.toInt = 1) ∧ isW k l f v2.toInt → ∀ (r : Int32) ways' isw' gd' gz' turns' cells' gin' sec' sg' an' ad' bn' bd', r.toInt = (shr T ins (gw k l f) v1.toInt.toNat v2.toInt.toNat).sign → GWd k l f T d ins n ways' isw' gd' gz' turns' cells' sec' → FS sg' an' ad' bn' bd' (shr T ins (gw k l f) v1.toInt.toNat v2.toInt.toNat) (zN k l f T) → Q r ways' isw' gd' gz' turns' cells' gin' sec' sg' an' ad' bn' bd') : P_F_mix vv vvr rk rf rm rwc rth rca ways isw gd gz turns cells gin sec sg an ad bn bd cn cd sn sd v1 v2 Q := by
  have hz := zN_eq hG h.1
  refine T_F_mix (R_F_mix_0 (S_F_either fun r1 h1 => ⟨fun e => R_F_mix_18 (hq0 fun z => ?_), fun e => S_Rule_hasWay h fun r2 h2 => ⟨fun e2 => R_F_mix_21 ?_, fun e2 => R_F_mix_18 (hq0 fun z => ?_)⟩⟩))
  · rw [bz h1] at e; exact e z.1
  · rw [bz h1] at e
    rw [bz h2] at e2
    have e' := Classical.not_not.mp e
    have e2' := Classical.not_not.mp e2
    have hp : v1.toInt = (v1.toInt.toNat : Int) := by omega
    have hb := shr_bd (ins := ins) (p := v1.toInt.toNat) hG.bd.1 e2'.nat.2
    refine S_Game_work h hG hs fun ways' isw' gd' gz' turns' cells' gin' sec' hW => S_Game_share h.1 hW hp e2'.nat.1 e2'.nat.2 fun r11 e11 => S_Frac_become (q := zN k l f T) e11 (by rw [hW.2.2.2.1, hz.1]) hz.2.1 (by omega) fun sg' an' ad' bn' bd' hF => hq ⟨e', e2'⟩ _ _ _ _ _ _ _ _ _ _ _ _ _ _ hF.2.2.2 hW hF
  · rw [bz h2] at e2; exact e2 z.2
theorem S_Mo_mix {v1 v2 : Int32} {Q : Int32 → (Nat → Int32) → (Nat → Int32) → (Nat → Int32) → (Nat → Int32) → (Nat → Int64) → (Nat → Int64) → Prop} (hr : RuleOK k l f m) (hG : GameOf k l f m T d ins n) (hM : MGd k l f m T d ins n mk ml mh mm mn mw mg mc gin V) (hR : MR fl ll gl V) (hq0 : ¬ ((v1.toInt = 0 ∨ v1.toInt = 1) ∧ isW k l f v2.toInt) → Q (-2) fl ll gl wk tp un) (hq : (v1.toInt = 0 ∨ v1.toInt = 1) ∧ isW k l f v2.toInt → ∀ (r : Int32) fl' ll' gl' wk' tp' un' V', r.toInt = (shr T ins (gw k l f) v1.toInt.toNat v2.toInt.toNat).sign → MR fl' ll' gl' V' → Off (1340 :: 1344 :: 1345 :: SCR) V V' → FM V' (shr T ins (gw k l f) v1.toInt.toNat v2.toInt.toNat) (zN k l f T) → Q r fl' ll' gl' wk' tp' un') : P_Mo_mix vv mw fl ll gl wk tp un gin v1 v2 Q := by
  have hz := zN_eq hG hr
  have hw := gw_le hr
  obtain ⟨g1, g2, g3, g4, g5, g6, g7, g8, g9⟩ := hM
  refine T_Mo_mix (R_Mo_mix_0 (S_Mo_in32 zL0 zL1 fun r1 h1 => ⟨fun e => R_Mo_mix_18 (hq0 fun z => ?_), fun e => S_Mo_noWay g3 hw fun r2 h2 => R_Mo_mix_15 ⟨fun e2 => R_Mo_mix_21 ?_, fun e2 => R_Mo_mix_18 (hq0 fun z => ?_)⟩⟩))
  · rw [bz h1] at e; omega
  · rw [bz h1] at e
    have e2' : isW k l f v2.toInt := by
      rcases h2 with h2 | h2
      · exact absurd (h2.1.symm.trans e2) (by decide)
      · exact h2.2
    have hp : v1.toInt = (v1.toInt.toNat : Int) := by omega
    have hb := shr_bd (ins := ins) (p := v1.toInt.toNat) hG.bd.1 e2'.nat.2
    refine S_Mo_mixTimes hr g3 g6 g7 hR hp e2'.nat.1 e2'.nat.2 c1340 (by omega) (by omega) fun F1 L1 G1 hR1 => ?_
    have hO1 := (Off.refl (1340 :: 1344 :: 1345 :: SCR) V).up (t := 1340) (shr T ins (gw k l f) v1.toInt.toNat v2.toInt.toNat) (by simp)
    have e1' : up V 1340 (shr T ins (gw k l f) v1.toInt.toNat v2.toInt.toNat) 1340 = shr T ins (gw k l f) v1.toInt.toNat v2.toInt.toNat := up_same ..
    have z1 : up V 1340 (shr T ins (gw k l f) v1.toInt.toNat v2.toInt.toNat) 1358 = (zN k l f T : Int) := by rw [up_ne (by omega), g9, hz.1]
    refine S_Mo_tell hR1 c1340 (by omega) c1358 (by omega) (by omega) (by rw [z1]; omega) (by rw [e1']; exact powB (pow2 (by omega) (by omega)) (by omega)) (by rw [z1]; exact powB (pow2 (by omega) (by omega)) (by omega)) fun F2 L2 G2 W2 T2 U2 V2 hR2 hO2 n2 d2 => R_Mo_mix_40 ⟨i_in c1344 (by omega), ?_⟩
    rw [e1', z1] at n2 d2
    have hF : FM V2 (shr T ins (gw k l f) v1.toInt.toNat v2.toInt.toNat) (zN k l f T) := FM.told rfl hz.2.1 n2 d2
    exact hq ⟨by omega, e2'⟩ _ _ _ _ _ _ _ V2 (by rw [i_nat c1344, hR2.sgn (by omega), hF.sgn.1]) hR2 (hO1.trans (hO2.mono (by simp))) hF
  · rcases h2 with h2 | h2
    · exact h2.2 z.2
    · exact e2 h2.1
theorem erng_bd (hG : GameOf k l f m T d ins n) (hr : RuleOK k l f m) {p i : Nat} (hi : i < gw k l f) : -(536870912 * (gw k l f : Int)) ≤ erng k l f m T ins p i ∧ erng k l f m T ins p i ≤ 536870912 * (gw k l f : Int) := by
  have hB := hG.bd.1
  have key : ∀ q, q ≤ gw k l f → -(536870912 * (q : Int)) ≤ sumZ (fun q => shr T ins (gw k l f) p q * (if p = 0 then payI k l f m q i else payI k l f m i q)) q ∧ sumZ (fun q => shr T ins (gw k l f) p q * (if p = 0 then payI k l f m q i else payI k l f m i q)) q ≤ 536870912 * (q : Int) := by
    intro q
    induction q with
    | zero => intro _; simp [sumZ]
    | succ q ih =>
      intro hq
      have ih := ih (by omega)
      have hp : -8 ≤ (if p = 0 then payI k l f m q i else payI k l f m i q) ∧ (if p = 0 then payI k l f m q i else payI k l f m i q) ≤ 8 := by
        split
        · exact pay_bd hr (by omega) hi
        · exact pay_bd hr hi (by omega)
      have hm := small_mul (shr_bd (ins := ins) (p := p) (i := q) hB (by omega)) hp
      simp only [sumZ]
      omega
  exact key _ (Nat.le_refl _)
theorem S_F_brings {v1 v2 : Int32} {Q : Int32 → Int32 → Int32 → Int64 → Int64 → Int32 → (Nat → Int64) → (Nat → Int32) → (Nat → Int64) → Int32 → Int32 → (Nat → Int32) → Int32 → (Nat → Int32) → Prop} (h : CR k l f m rk rl rf rm rtc rwc rth rca) (hG : GameOf k l f m T d ins n) (hs : isw = 0 ∨ GWd k l f T d ins n ways isw gd gz turns cells sec) (hq0 : ¬ ((v1.toInt = 0 ∨ v1.toInt = 1) ∧ isW k l f v2.toInt) → Q (-100) ways isw gd gz turns cells gin sec sg an ad bn bd) (hq : (v1.toInt = 0 ∨ v1.toInt = 1) ∧ isW k l f v2.toInt → ∀ (r : Int32) ways' isw' gd' gz' turns' cells' gin' sec' sg' an' ad' bn' bd', r.toInt = (erng k l f m T ins v1.toInt.toNat v2.toInt.toNat).sign → GWd k l f T d ins n ways' isw' gd' gz' turns' cells' sec' → FS sg' an' ad' bn' bd' (erng k l f m T ins v1.toInt.toNat v2.toInt.toNat) (zN k l f T) → Q r ways' isw' gd' gz' turns' cells' gin' sec' sg' an' ad' bn' bd') : P_F_brings vv vvr rk rf rm rwc rth rca ways isw gd gz turns cells gin sec sg an ad bn bd cn cd sn sd v1 v2 Q := by
  have hz := zN_eq hG h.1
  have hw := gw_le h.1
  refine T_F_brings (R_F_brings_0 (S_F_either fun r1 h1 => ⟨fun e => R_F_brings_18 (hq0 fun z => ?_), fun e => S_Rule_hasWay h fun r2 h2 => ⟨fun e2 => R_F_brings_21 ?_, fun e2 => R_F_brings_18 (hq0 fun z => ?_)⟩⟩))
  · rw [bz h1] at e; exact e z.1
  · rw [bz h1] at e
    rw [bz h2] at e2
    have e' := Classical.not_not.mp e
    have e2' := Classical.not_not.mp e2
    have hp : v1.toInt = (v1.toInt.toNat : Int) := by omega
    have hb := erng_bd hG h.1 (p := v1.toInt.toNat) e2'.nat.2
    refine S_Game_work h hG hs fun ways' isw' gd' gz' turns' cells' gin' sec' hW => S_Game_earnedAgainst h hG hW hp e2'.nat.1 e2'.nat.2 fun r11 e11 => S_Frac_become (q := zN k l f T) e11 (by rw [hW.2.2.2.1, hz.1]) hz.2.1 (by omega) fun sg' an' ad' bn' bd' hF => hq ⟨e', e2'⟩ _ _ _ _ _ _ _ _ _ _ _ _ _ _ hF.2.2.2 hW hF
  · rw [bz h2] at e2; exact e2 z.2
theorem S_Mo_brings {v1 v2 : Int32} {Q : Int32 → (Nat → Int32) → (Nat → Int32) → (Nat → Int32) → (Nat → Int32) → (Nat → Int64) → (Nat → Int64) → Prop} (hr : RuleOK k l f m) (hG : GameOf k l f m T d ins n) (hM : MGd k l f m T d ins n mk ml mh mm mn mw mg mc gin V) (hR : MR fl ll gl V) (hq0 : ¬ ((v1.toInt = 0 ∨ v1.toInt = 1) ∧ isW k l f v2.toInt) → Q (-100) fl ll gl wk tp un) (hq : (v1.toInt = 0 ∨ v1.toInt = 1) ∧ isW k l f v2.toInt → ∀ (r : Int32) fl' ll' gl' wk' tp' un' V', r.toInt = (erng k l f m T ins v1.toInt.toNat v2.toInt.toNat).sign → MR fl' ll' gl' V' → Off (1340 :: 1361 :: 1344 :: 1345 :: SCR) V V' → FM V' (erng k l f m T ins v1.toInt.toNat v2.toInt.toNat) (zN k l f T) → Q r fl' ll' gl' wk' tp' un') : P_Mo_brings vv mk ml mm mn mw fl ll gl wk tp un gin v1 v2 Q := by
  have hz := zN_eq hG hr
  have hw := gw_le hr
  obtain ⟨g1, g2, g3, g4, g5, g6, g7, g8, g9⟩ := hM
  refine T_Mo_brings (R_Mo_brings_0 (S_Mo_in32 zL0 zL1 fun r1 h1 => ⟨fun e => R_Mo_brings_18 (hq0 fun z => ?_), fun e => S_Mo_noWay g3 hw fun r2 h2 => R_Mo_brings_15 ⟨fun e2 => R_Mo_brings_21 ?_, fun e2 => R_Mo_brings_18 (hq0 fun z => ?_)⟩⟩))
  · rw [bz h1] at e; omega
  · rw [bz h1] at e
    have e2' : isW k l f v2.toInt := by
      rcases h2 with h2 | h2
      · exact absurd (h2.1.symm.trans e2) (by decide)
      · exact h2.2
    have hp : v1.toInt = (v1.toInt.toNat : Int) := by omega
    have hb := erng_bd hG hr (p := v1.toInt.toNat) e2'.nat.2
    refine S_Mo_bringsTimes g1 hG g3 g6 g7 hR hp e2'.nat.1 e2'.nat.2 c1340 (by omega) (by omega) (by omega) fun F1 L1 G1 W1 V1 hR1 e1' hO1 => ?_
    have z1 : V1 1358 = (zN k l f T : Int) := by rw [hO1 _ (by simp), g9, hz.1]
    refine S_Mo_tell hR1 c1340 (by omega) c1358 (by omega) (by omega) (by rw [z1]; omega) (by rw [e1']; exact powB (pow2 (by omega) (by omega)) (by omega)) (by rw [z1]; exact powB (pow2 (by omega) (by omega)) (by omega)) fun F2 L2 G2 W2 T2 U2 V2 hR2 hO2 n2 d2 => R_Mo_brings_40 ⟨i_in c1344 (by omega), ?_⟩
    rw [e1', z1] at n2 d2
    have hF : FM V2 (erng k l f m T ins v1.toInt.toNat v2.toInt.toNat) (zN k l f T) := FM.told rfl hz.2.1 n2 d2
    exact hq ⟨by omega, e2'⟩ _ _ _ _ _ _ _ V2 (by rw [i_nat c1344, hR2.sgn (by omega), hF.sgn.1]) hR2 ((hO1.mono (by simp)).trans (hO2.mono (by simp))) hF
  · rcases h2 with h2 | h2
    · exact h2.2 z.2
    · exact e2 h2.1
theorem S_F_steps {Q : Int32 → Int32 → Int32 → Int64 → Int64 → Int32 → (Nat → Int64) → (Nat → Int32) → (Nat → Int64) → Prop} (h : CR k l f m rk rl rf rm rtc rwc rth rca) (hG : GameOf k l f m T d ins n) (hs : isw = 0 ∨ GWd k l f T d ins n ways isw gd gz turns cells sec) (hq : ∀ (r : Int32) ways' isw' gd' gz' turns' cells' gin' sec', r.toInt = (n : Int) → GWd k l f T d ins n ways' isw' gd' gz' turns' cells' sec' → Q r ways' isw' gd' gz' turns' cells' gin' sec') : P_F_steps vv vvr rk rf rm rwc rth rca ways isw gd gz turns cells gin sec Q :=
  T_F_steps (R_F_steps_0 (S_Game_work h hG hs fun ways' isw' gd' gz' turns' cells' gin' sec' hW => hq _ _ _ _ _ _ _ _ _ hW.2.2.2.2.1 hW))
theorem S_Mo_steps {Q : Int32 → Prop} (hM : MGd k l f m T d ins n mk ml mh mm mn mw mg mc gin V) (hq : ∀ r : Int32, r.toInt = (n : Int) → Q r) : P_Mo_steps vv mc Q := T_Mo_steps (R_Mo_steps_0 (hq _ hM.2.2.2.2.1))
/-! rule -/
def okR (a b c e : Int) : Prop := (0 ≤ a ∧ a ≤ 2) ∧ (b = 0 ∨ b = 1) ∧ (b + 1 ≤ c ∧ c ≤ 4) ∧ (a = 0 → 2 ≤ e ∧ e ≤ 5)
def muR (a e : Int) : Nat := if a = 0 then e.toNat else 0
theorem okR.rule {a b c e : Int} (h : okR a b c e) : RuleOK a.toNat b.toNat c.toNat (muR a e) := by
  unfold okR at h
  unfold RuleOK muR
  refine ⟨by omega, by omega, by omega, by omega, fun z => ?_, fun z => ?_⟩
  · rw [if_pos (by omega)]
    omega
  · rw [if_neg (by omega)]
theorem S_Rule_allows {v0 v1 v2 v3 : Int32} {Q : Int32 → Prop} (hq : ∀ r : Int32, (r = 1 ∧ okR v0.toInt v1.toInt v2.toInt v3.toInt) ∨ (r = 0 ∧ ¬ okR v0.toInt v1.toInt v2.toInt v3.toInt) → Q r) : P_Rule_allows v0 v1 v2 v3 Q := by
  have z_4 : (4 : Int32).toInt = 4 := by decide
  have z_5 : (5 : Int32).toInt = 5 := by decide
  have no : ¬ okR v0.toInt v1.toInt v2.toInt v3.toInt → E_Rule_allows_27 Q := fun e => R_Rule_allows_27 ⟨rb0, hq _ (Or.inr ⟨rfl, e⟩)⟩
  refine T_Rule_allows (R_Rule_allows_0 (S_F_isWithin fun r1 h1 => ⟨fun e => no fun z => ?_, fun e => S_F_either fun r2 h2 => ⟨fun e2 => no fun z => ?_, fun e2 => ?_⟩⟩))
  · rw [z_0, z_2] at h1
    rw [bz h1] at e
    exact e z.1
  · rw [bz h2] at e2
    exact e2 z.2.1
  · rw [z_0, z_2] at h1
    rw [bz h1] at e
    rw [bz h2] at e2
    have e' := Classical.not_not.mp e
    have e2' := Classical.not_not.mp e2
    refine S_F_isWithin fun r3 h3 => ⟨fun e3 => R_Rule_allows_29 ⟨fun e4 => R_Rule_allows_42 (R_Rule_allows_47 ⟨rb1, hq _ (Or.inl ⟨rfl, ?_⟩)⟩), fun e4 => S_F_isWithin fun r4 h4 => ⟨fun e5 => R_Rule_allows_46 (R_Rule_allows_47 ⟨rb0, hq _ (Or.inr ⟨rfl, fun z => ?_⟩)⟩), fun e5 => R_Rule_allows_42 (R_Rule_allows_47 ⟨rb1, hq _ (Or.inl ⟨rfl, ?_⟩)⟩)⟩⟩, fun e3 => no fun z => ?_⟩
    · rw [i_add rfl z_1 (by omega) (by omega), z_4] at h3
      rw [bz h3] at e3
      rw [i_eq, z_0] at e4
      exact ⟨e', e2', Classical.not_not.mp e3, fun z => absurd z e4⟩
    · rw [z_2, z_5] at h4
      rw [bz h4] at e5
      rw [i_eq, z_0] at e4
      exact e5 (z.2.2.2 e4)
    · rw [i_add rfl z_1 (by omega) (by omega), z_4] at h3
      rw [bz h3] at e3
      rw [z_2, z_5] at h4
      rw [bz h4] at e5
      exact ⟨e', e2', Classical.not_not.mp e3, fun _ => Classical.not_not.mp e5⟩
    · rw [i_add rfl z_1 (by omega) (by omega), z_4] at h3
      rw [bz h3] at e3
      exact e3 z.2.2.1
theorem S_Rule_isLike {v1 v2 v3 v4 : Int32} {Q : Int32 → Prop} (hq : ∀ r : Int32, (r = 1 ∧ (rk = v1 ∧ rl = v2 ∧ rf = v3 ∧ (rk = 0 → rm = v4))) ∨ (r = 0 ∧ ¬ (rk = v1 ∧ rl = v2 ∧ rf = v3 ∧ (rk = 0 → rm = v4))) → Q r) : P_Rule_isLike vvr rk rl rf rm v1 v2 v3 v4 Q := by
  have no : ¬ (rk = v1 ∧ rl = v2 ∧ rf = v3 ∧ (rk = 0 → rm = v4)) → E_Rule_isLike_44 vvr rk rl rf rm Q := fun e => R_Rule_isLike_44 (R_Rule_isLike_45 ⟨rb0, hq _ (Or.inr ⟨rfl, e⟩)⟩)
  have yes : (rk = v1 ∧ rl = v2 ∧ rf = v3 ∧ (rk = 0 → rm = v4)) → E_Rule_isLike_40 vvr rk rl rf rm Q := fun e => R_Rule_isLike_40 (R_Rule_isLike_45 ⟨rb1, hq _ (Or.inl ⟨rfl, e⟩)⟩)
  exact T_Rule_isLike (R_Rule_isLike_0 ⟨fun e => no fun z => e z.1, fun e => ⟨fun e2 => no fun z => e2 z.2.1, fun e2 => ⟨fun e3 => no fun z => e3 z.2.2.1, fun e3 => ⟨fun e4 => yes ⟨e, e2, e3, fun z => absurd z e4⟩, fun e4 => ⟨fun e5 => no fun z => e5 (z.2.2.2 e4), fun e5 => yes ⟨e, e2, e3, fun _ => e5⟩⟩⟩⟩⟩⟩)
theorem S_F_rule {lens : Nat → Int32} {fil v1 v2 v3 v4 : Int32} {Q : Int32 → Int32 → Int32 → Int32 → Int32 → Int32 → Int32 → (Nat → Int32) → (Nat → Int32) → Int32 → (Nat → Int32) → Int32 → Prop} (h : CR k l f m rk rl rf rm rtc rwc rth rca) (hq0 : ¬ okR v1.toInt v2.toInt v3.toInt v4.toInt → Q (-2) rk rl rf rm rtc rwc rth rca isw lens fil) (hq : okR v1.toInt v2.toInt v3.toInt v4.toInt → ∀ (r rk' rl' rf' rm' rtc' rwc' : Int32) (rth' rca' : Nat → Int32) (isw' : Int32) (lens' : Nat → Int32) (fil' : Int32), r.toInt = (gw v1.toInt.toNat v2.toInt.toNat v3.toInt.toNat : Int) → CR v1.toInt.toNat v2.toInt.toNat v3.toInt.toNat (muR v1.toInt v4.toInt) rk' rl' rf' rm' rtc' rwc' rth' rca' → (∀ i, i < 4 → lens' i = 0) → (isw' = 0 ∧ fil' = -1) ∨ (isw' = isw ∧ fil' = fil ∧ k = v1.toInt.toNat ∧ l = v2.toInt.toNat ∧ f = v3.toInt.toNat ∧ m = muR v1.toInt v4.toInt) → Q r rk' rl' rf' rm' rtc' rwc' rth' rca' isw' lens' fil') : P_F_rule vv vv' vv2 vv3 rk rl rf rm rtc rwc rth rca isw lens fil v1 v2 v3 v4 Q := by
  refine T_F_rule (R_F_rule_0 (S_Rule_allows fun r1 h1 => ⟨fun e => R_F_rule_14 ?_, fun e => hq0 ?_⟩))
  · rw [bz h1] at e
    have e' := Classical.not_not.mp e
    have hq := hq e'
    have hok := e'.rule
    have e0 := e'
    unfold okR at e0
    have hk : v1.toInt = (v1.toInt.toNat : Int) := by omega
    have hl : v2.toInt = (v2.toInt.toNat : Int) := by omega
    have hf : v3.toInt = (v3.toInt.toNat : Int) := by omega
    have hm : ∀ x : Int32, (v1.toInt = 0 → x = v4) → (v1.toInt ≠ 0 → x = 0) → x.toInt = (muR v1.toInt v4.toInt : Int) := fun x h1 h2 => by
      unfold muR
      split
      · rename_i z
        rw [h1 z]
        omega
      · rename_i z
        rw [h2 z, z_0]
        rfl
    have last : ∀ (rk' rl' rf' rm' rtc' rwc' : Int32) (rth' rca' : Nat → Int32) (isw' fil' : Int32), CR v1.toInt.toNat v2.toInt.toNat v3.toInt.toNat (muR v1.toInt v4.toInt) rk' rl' rf' rm' rtc' rwc' rth' rca' → ((isw' = 0 ∧ fil' = -1) ∨ (isw' = isw ∧ fil' = fil ∧ k = v1.toInt.toNat ∧ l = v2.toInt.toNat ∧ f = v3.toInt.toNat ∧ m = muR v1.toInt v4.toInt)) → E_F_rule_55 vv vv' vv2 vv3 rk' rl' rf' rm' rtc' rwc' rth' rca' isw' lens fil' Q := fun rk' rl' rf' rm' rtc' rwc' rth' rca' isw' fil' hC hd => R_F_rule_55 (T_Men_forgetAll (R_Men_forgetAll_0 (S_Ja_fill (by omega) fun c9 h9 => hq _ _ _ _ _ _ _ _ _ _ _ _ hC.wc hC (fun i hi => h9 i hi) hd)))
    refine S_Rule_isLike fun r2 h2 => ⟨fun e2 => ?_, fun e2 => S_Rule_become hok hk hl hf (fun z => hm v4 (fun _ => rfl) (fun y => absurd (by omega) y)) fun rk' rl' rf' rm' rtc' rwc' rth' rca' hC => T_Game_putAside (R_Game_putAside_0 ⟨rb0, T_Sla_startAgain (R_Sla_startAgain_0 (last _ _ _ _ _ _ _ _ _ _ hC (Or.inl ⟨rfl, rfl⟩)))⟩)⟩
    rw [bz h2] at e2
    obtain ⟨a1, a2, a3, a4⟩ := Classical.not_not.mp e2
    have b0 := h.1
    have b1 := h.2.1
    have b2 := h.2.2.1
    have b3 := h.2.2.2.1
    have b4 := h.mu
    rw [a1] at b1
    rw [a2] at b2
    rw [a3] at b3
    have q1 : k = v1.toInt.toNat := by omega
    have q2 : l = v2.toInt.toNat := by omega
    have q3 : f = v3.toInt.toNat := by omega
    have q4 : m = muR v1.toInt v4.toInt := by
      have := hm rm (fun z => a4 (by rw [a1, i_eq, z_0]; exact z)) (fun z => by
        have : m = 0 := b0.2.2.2.2.2 (by omega)
        rw [i_eq, z_0, b4, this]
        rfl)
      omega
    refine last _ _ _ _ _ _ _ _ _ _ ?_ (Or.inr ⟨rfl, rfl, q1, q2, q3, q4⟩)
    rw [← q1, ← q2, ← q3, ← q4]
    exact h
  · rw [bz h1] at e
    exact e
theorem S_Mo_rule {rows : Nat → Int32} {v1 v2 v3 v4 : Int32} {Q : Int32 → Int32 → Int32 → Int32 → Int32 → Int32 → Int32 → Int32 → Int32 → (Nat → Int32) → (Nat → Int32) → (Nat → Int32) → (Nat → Int32) → (Nat → Int64) → (Nat → Int64) → (Nat → Int32) → (Nat → Int32) → Prop} (hR : MR fl ll gl V) (hq0 : ¬ okR v1.toInt v2.toInt v3.toInt v4.toInt → Q (-2) mk ml mh mm mn mw mg mc fl ll gl wk tp un gin rows) (hq : okR v1.toInt v2.toInt v3.toInt v4.toInt → ∀ T' d' ins' n', GameOf v1.toInt.toNat v2.toInt.toNat v3.toInt.toNat (muR v1.toInt v4.toInt) T' d' ins' n' → ∀ (r mk' ml' mh' mm' mn' mw' mg' mc' : Int32) fl' ll' gl' wk' tp' un' gin' rows' V', r.toInt = (gw v1.toInt.toNat v2.toInt.toNat v3.toInt.toNat : Int) → MR fl' ll' gl' V' → MGd v1.toInt.toNat v2.toInt.toNat v3.toInt.toNat (muR v1.toInt v4.toInt) T' d' ins' n' mk' ml' mh' mm' mn' mw' mg' mc' gin' V' → V' 1344 = V 1344 → V' 1345 = V 1345 → (∀ i, i < 4 → rows' i = 0) → Q r mk' ml' mh' mm' mn' mw' mg' mc' fl' ll' gl' wk' tp' un' gin' rows') : P_Mo_rule vv mk ml mh mm mn mw mg mc fl ll gl wk tp un gin rows v1 v2 v3 v4 Q := by
  have zL2 : (2 : Int64).toInt = 2 := by decide
  have zL4 : (4 : Int64).toInt = 4 := by decide
  have zL5 : (5 : Int64).toInt = 5 := by decide
  have z_4 : (4 : Int32).toInt = 4 := by decide
  have no : ¬ okR v1.toInt v2.toInt v3.toInt v4.toInt → E_Mo_rule_56 vv mk ml mh mm mn mw mg mc fl ll gl wk tp un gin rows Q := fun e => R_Mo_rule_56 (hq0 e)
  have yes : okR v1.toInt v2.toInt v3.toInt v4.toInt → E_Mo_rule_59 vv mk ml mh mm mn mw mg mc fl ll gl wk tp un gin rows v1 v2 v3 v4 Q := by
    intro e
    have hok := e.rule
    have e0 := e
    unfold okR at e0
    obtain ⟨T', d', ins', n', hG⟩ := GameOf.ex hok
    refine R_Mo_rule_59 (S_Mo_layRule hok (by omega) (by omega) (by omega) (fun z => ?_) hG hR fun mk' ml' mh' mm' mn' mw' mg' mc' F L G W T2 U I V' hR' hM' u1 u2 => ?_)
    · unfold muR
      rw [if_pos (by omega)]
      omega
    · have loop : ∀ (u i : Nat) (rs : Nat → Int32) (v5 : Int32), i + u = 4 → v5.toInt = (i : Int) → (∀ j, j < i → rs j = 0) → E_Mo_rule_71 vv mk' ml' mh' mm' mn' mw' mg' mc' F L G W T2 U I rs v5 Q := by
        intro u
        induction u with
        | zero =>
          intro i rs v5 hu h5 hrs
          refine R_Mo_rule_71 ⟨fun _ => R_Mo_rule_91 (hq e T' d' ins' n' hG _ _ _ _ _ _ _ _ _ _ _ _ _ _ _ _ _ V' hM'.2.2.1 hR' hM' u1 u2 fun j hj => hrs j (by omega)), fun y => absurd (by rw [i_le, z_4]; omega) y⟩
        | succ u ih =>
          intro i rs v5 hu h5 hrs
          refine R_Mo_rule_71 ⟨fun y => absurd y (by rw [i_le, z_4]; omega), fun _ => ⟨i_in h5 (by omega), fun x20 e20 => ?_⟩⟩
          rw [i_nat h5]
          refine ih (i + 1) _ x20 (by omega) (by rw [e20]; exact i_suc h5 (by omega)) fun j hj => ?_
          by_cases ej : j = i
          · rw [ej, up_same]
          · rw [up_ne ej]; exact hrs j (by omega)
      exact loop 4 0 rows 0 (by omega) i_0 fun j hj => by omega
  refine T_Mo_rule (R_Mo_rule_0 (S_Mo_in32 zL0 zL2 fun r1 h1 => ⟨fun e => no fun z => ?_, fun e => S_Mo_in32 zL0 zL1 fun r2 h2 => R_Mo_rule_19 ⟨fun e2 => no fun z => ?_, fun e2 => ?_⟩⟩))
  · rw [bz h1] at e
    exact e z.1
  · rw [bz h2] at e2
    have := z.2.1
    omega
  · rw [bz h1] at e
    rw [bz h2] at e2
    have e' := Classical.not_not.mp e
    have e2' := Classical.not_not.mp e2
    refine S_Mo_in32 (i_wide (i_add rfl z_1 (by omega) (by omega))) zL4 fun r3 h3 => ⟨fun e3 => no fun z => ?_, fun e3 => ⟨fun e4 => yes ?_, fun e4 => S_Mo_in32 zL2 zL5 fun r4 h4 => R_Mo_rule_53 ⟨fun e5 => yes ?_, fun e5 => no fun z => ?_⟩⟩⟩
    · rw [bz h3] at e3
      exact e3 z.2.2.1
    · rw [bz h3] at e3
      rw [i_eq, z_0] at e4
      exact ⟨e', by omega, Classical.not_not.mp e3, fun z => absurd z e4⟩
    · rw [bz h3] at e3
      rw [bz h4] at e5
      exact ⟨e', by omega, Classical.not_not.mp e3, fun _ => Classical.not_not.mp e5⟩
    · rw [bz h4] at e5
      rw [i_eq, z_0] at e4
      exact e5 (z.2.2.2 e4)
end PUBG
