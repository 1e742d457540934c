/-! MATCHES in the class -/
section MATC
variable {vv vv' : Nat → Value} {k l f m : Nat} {rk rl rf rm rtc rwc : Int32} {rth rca : Nat → Int32} {vvr : Nat → Value} {T : Nat → Nat → Int} {d : Int} {ins : Nat → Nat} {n : Nat} {gin : Nat → Int32}
  {ways isw turns : Int32} {gd gz : Int64} {cells sec : Nat → Int64} {sg an bn cn sn : Int32} {ad bd cd sd : Nat → Int32}
  {hit base above below : Int64} {row : Nat → Int64}
/-- Q is hitN by basN -/
def hitN (k l f : Nat) (T : Nat → Nat → Int) (d : Int) : Nat := if k = 0 then qa (d - T (gw k l f) (2 * gw k l f)) (2 * zN k l f T) else 1
def basN (k l f : Nat) (T : Nat → Nat → Int) (d : Int) : Nat := if k = 0 then qb (d - T (gw k l f) (2 * gw k l f)) (2 * zN k l f T) else 2
theorem hit_bd (hG : GameOf k l f m T d ins n) (hr : RuleOK k l f m) : 1 ≤ basN k l f T d ∧ basN k l f T d ≤ 5 ∧ hitN k l f T d ≤ basN k l f T d := by
  unfold hitN basN
  split
  · rename_i e
    have hz := zN_eq hG hr
    have hf := (hG.fct hr).2.2.2.2 e
    rw [hz.1] at hf ⊢
    obtain ⟨f1, f2, f3⟩ := hf
    obtain ⟨-, a1, b1, p1, g1⟩ := qab_coprime (p := d - (zN k l f T : Int)) (q := 2 * zN k l f T) (by omega)
    have hg : (d - (zN k l f T : Int)).gcd (2 * (zN k l f T : Int)) = Nat.gcd (d - (zN k l f T : Int)).natAbs (2 * zN k l f T) := by
      have : (2 * (zN k l f T : Int)) = ((2 * zN k l f T : Nat) : Int) := by omega
      rw [this]
      rfl
    rw [hg] at f3
    generalize Nat.gcd (d - (zN k l f T : Int)).natAbs (2 * zN k l f T) = g at *
    generalize qa (d - (zN k l f T : Int)) (2 * zN k l f T) = a at *
    generalize qb (d - (zN k l f T : Int)) (2 * zN k l f T) = b at *
    refine ⟨p1, ?_, ?_⟩
    · apply Nat.le_of_mul_le_mul_right _ g1
      rw [← b1]
      omega
    · apply Nat.le_of_mul_le_mul_right _ g1
      rw [← a1, ← b1]
      omega
  · omega
theorem zL2 : (2 : Int64).toInt = ((2 : Nat) : Int) := by decide
/-- the class's game, worked or not -/
def GWo (k l f : Nat) (T : Nat → Nat → Int) (d : Int) (ins : Nat → Nat) (n : Nat) (ways isw : Int32) (gd gz : Int64) (turns : Int32) (cells sec : Nat → Int64) : Prop := isw = 0 ∨ GWd k l f T d ins n ways isw gd gz turns cells sec
theorem S_Mat_findHit {Q : Int32 → Int32 → Int64 → Int64 → Int32 → (Nat → Int64) → (Nat → Int32) → (Nat → Int64) → Int64 → Int64 → Prop} (h : CR k l f m rk rl rf rm rtc rwc rth rca) (hG : GameOf k l f m T d ins n) (hs : GWo k l f T d ins n ways isw gd gz turns cells sec) (hq : ∀ ways' isw' gd' gz' turns' cells' gin' sec' (hit' base' : Int64), GWo k l f T d ins n ways' isw' gd' gz' turns' cells' sec' → hit'.toInt = (hitN k l f T d : Int) → base'.toInt = (basN k l f T d : Int) → Q ways' isw' gd' gz' turns' cells' gin' sec' hit' base') : P_Mat_findHit vvr vv rk rf rm rwc rth rca ways isw gd gz turns cells gin sec hit base Q := by
  have hz := zN_eq hG h.1
  have hbd := hG.bd.2.1
  unfold hitN basN at hq
  refine T_Mat_findHit (R_Mat_findHit_0 ⟨fun e => R_Mat_findHit_89 ?_, fun e => ?_⟩)
  · rw [i_lit0 h.2.1] at e
    rw [if_neg e, if_neg e] at hq
    exact hq _ _ _ _ _ _ _ _ _ _ hs zL1 zL2
  · rw [i_lit0 h.2.1] at e
    rw [if_pos e, if_pos e] at hq
    have hf := (hG.fct h.1).2.2.2.2 e
    have hb2 : bnd k f = 2 := by unfold bnd; rw [if_neg (by omega)]
    refine S_Game_work h hG hs fun ways' isw' gd' gz' turns' cells' gin' sec' hW => S_Game_worth h hW.2.2.1 hW.2.2.2.1 hbd (by omega) fun r9 e9 x10 e10 => ?_
    have hz' := hW.2.2.2.1
    rw [hz.1] at hz' hf e9
    rw [hb2] at e9
    obtain ⟨f1, f2, f3⟩ := hf
    rw [hz.1] at hq
    have t1 : x10.toInt = ((d - (zN k l f T : Int)).natAbs : Int) := by
      rw [e10, j_add e9 hz' (by omega) (by omega)]
      omega
    have t2 : ((2 : Int64) * gz').toInt = ((2 * zN k l f T : Nat) : Int) := j_mulN zL2 hz' (by omega)
    have hg1 : 0 < Nat.gcd (d - (zN k l f T : Int)).natAbs (2 * zN k l f T) := Nat.gcd_pos_of_pos_right _ (by omega)
    refine S_Frac_commonOf t1 t2 fun r11 e11 x12 e12 => ?_
    have hx12 : x12.toInt = ((Nat.gcd (d - (zN k l f T : Int)).natAbs (2 * zN k l f T) : Nat) : Int) := by
      rw [if_neg (by rw [j_lt, e11, zL1]; omega)] at e12
      rw [e12]
      exact e11
    have hne : ¬ x12 = 0 := by rw [j_eq, hx12, zL0]; omega
    refine ⟨hne, fun x13 e13 => ⟨hne, fun x14 e14 => R_Mat_findHit_89 (hq _ _ _ _ _ _ _ _ _ _ (Or.inr hW) ?_ ?_)⟩⟩
    · rw [e13]
      exact j_divN t1 hx12
    · rw [e14]
      exact j_divN t2 hx12
theorem pow5 {b i : Nat} (hb : b ≤ 5) (hi : i ≤ 24) : b ^ i ≤ 59604644775390625 := Nat.le_trans (Nat.pow_le_pow_left hb i) (Nat.pow_le_pow_right (by decide) hi)
theorem S_Mat_play {H B : Int64} {v1 v2 : Int32} {a b hn bn : Nat} {Q : Int64 → Int64 → (Nat → Int64) → Prop} (hbd : 1 ≤ bn ∧ bn ≤ 5 ∧ hn ≤ bn) (hH : H.toInt = (hn : Int)) (hB : B.toInt = (bn : Int)) (h1 : v1.toInt = (a : Int)) (ha : 1 ≤ a ∧ a ≤ 12) (h2 : v2.toInt = (b : Int)) (hb : 1 ≤ b ∧ b ≤ 12) (hq : ∀ (above' below' : Int64) row', above'.toInt = (wgt hn (bn - hn) (a + b - 1) a : Int) → below'.toInt = ((bn ^ (a + b - 1) : Nat) : Int) → Q above' below' row') : P_Mat_play H B above below row v1 v2 Q := by
  refine T_Mat_play (R_Mat_play_0 (S_Ja_fillL (by omega) fun c11 h11 => ?_))
  obtain ⟨hr, hhr⟩ : ∃ r, r = bn - hn := ⟨_, rfl⟩
  rw [← hhr] at hq
  have hsum : hn + hr = bn := by omega
  have hBR : (B - H).toInt = (hr : Int) := by rw [j_sub hB hH (by omega) (by omega)]; omega
  have wb : ∀ n' a', n' ≤ 24 → wgt hn hr n' a' ≤ 59604644775390625 := fun n' a' hn' => by
    have := wgt_le hn hr n' a'
    rw [hsum] at this
    exact Nat.le_trans this (pow5 hbd.2.1 hn')
  have fin : ∀ (u i : Nat) (R : Nat → Int64) (v3 : Int64) (v5 : Int32), i + u = a → v5.toInt = (i : Int) → v3.toInt = ((bn ^ (b + i - 1) : Nat) : Int) → (R a).toInt = (wgt hn hr (a + b - 1) a : Int) → E_Mat_play_96 H B above below R v1 v3 v5 Q := by
    intro u
    induction u with
    | zero =>
      intro i R v3 v5 hu h5 h3 hR
      have : i = a := by omega
      subst this
      refine R_Mat_play_96 ⟨fun _ => R_Mat_play_115 ⟨i_in h1 (by omega), fun x17 e17 => hq _ _ _ ?_ ?_⟩, fun y => absurd (by rw [i_le]; omega) y⟩
      · rw [e17, i_nat h1]; exact hR
      · rw [h3, show b + i - 1 = i + b - 1 by omega]
    | succ u ih =>
      intro i R v3 v5 hu h5 h3 hR
      refine R_Mat_play_96 ⟨fun y => absurd y (by rw [i_le]; omega), fun _ x13 e13 x14 e14 => ih (i + 1) R x13 x14 (by omega) (by rw [e14]; exact i_suc h5 (by omega)) ?_ hR⟩
      have e : bn ^ (b + (i + 1) - 1) = bn ^ (b + i - 1) * bn := by rw [← Nat.pow_succ]; congr 1; omega
      have hp := pow5 (b := bn) (i := b + (i + 1) - 1) hbd.2.1 (by omega)
      rw [e] at hp ⊢
      rw [e13]
      exact j_mulN h3 hB (by omega)
  have loop : ∀ (u j : Nat) (R : Nat → Int64) (v3 : Int64) (v5 : Int32), j + u = b → v5.toInt = ((j + 1 : Nat) : Int) → v3.toInt = ((bn ^ j : Nat) : Int) → (∀ i, 1 ≤ i → i ≤ a → (R i).toInt = (wgt hn hr (i + j - 1) i : Int)) → E_Mat_play_13 H B above below R v1 v2 v3 v5 Q := by
    intro u
    induction u with
    | zero =>
      intro j R v3 v5 hu h5 h3 hR
      have : j = b := by omega
      subst this
      exact R_Mat_play_13 ⟨fun _ => R_Mat_play_93 (fin (a - 1) 1 R v3 1 (by omega) i_1 (by rw [h3, show j + 1 - 1 = j by omega]) (hR a (by omega) (by omega))), fun y => absurd (by rw [i_lt]; omega) y⟩
    | succ u ih =>
      intro j R v3 v5 hu h5 h3 hR
      have inner : ∀ (u' i : Nat) (R : Nat → Int64) (v6 : Int32), i + u' = a → v6.toInt = ((i + 1 : Nat) : Int) → (∀ i', i' ≤ i → (R i').toInt = (wgt hn hr (i' + j) i' : Int)) → (∀ i', i < i' → i' ≤ a → (R i').toInt = (wgt hn hr (i' + j - 1) i' : Int)) → E_Mat_play_29 H B above below R v1 v2 v3 v5 v6 Q := by
        intro u'
        induction u' with
        | zero =>
          intro i R v6 hu' h6 hlo hhi
          refine R_Mat_play_29 ⟨fun _ => R_Mat_play_80 fun x15 e15 x16 e16 => ih (j + 1) R x15 x16 (by omega) (by rw [e16]; exact i_suc h5 (by omega)) ?_ (fun i' h1' h2' => by rw [show i' + (j + 1) - 1 = i' + j by omega]; exact hlo i' (by omega)), fun y => absurd (by rw [i_lt]; omega) y⟩
          have hp := pow5 (b := bn) (i := j + 1) hbd.2.1 (by omega)
          rw [Nat.pow_succ] at hp ⊢
          rw [e15]
          exact j_mulN h3 hB (by omega)
        | succ u' ih' =>
          intro i R v6 hu' h6 hlo hhi
          have h61 : (v6 - 1).toInt = (i : Int) := by rw [i_sub h6 z_1 (by omega) (by omega)]; omega
          refine R_Mat_play_29 ⟨fun y => absurd y (by rw [i_lt]; omega), fun _ => ⟨i_in h61 (by omega), i_in h6 (by omega), i_in h6 (by omega), fun x12 e12 => ?_⟩⟩
          rw [i_nat h61, i_nat h6]
          have q1 := hlo i (Nat.le_refl _)
          have q2 := hhi (i + 1) (by omega) (by omega)
          rw [show i + 1 + j - 1 = i + j by omega] at q2
          have b1 := wb (i + j) i (by omega)
          have b2 := wb (i + j) (i + 1) (by omega)
          have m1 : hn * wgt hn hr (i + j) i ≤ 5 * 59604644775390625 := Nat.mul_le_mul (by omega) b1
          have m2 : hr * wgt hn hr (i + j) (i + 1) ≤ 5 * 59604644775390625 := Nat.mul_le_mul (by omega) b2
          have q3 : (H * R i + (B - H) * R (i + 1)).toInt = ((hn * wgt hn hr (i + j) i + hr * wgt hn hr (i + j) (i + 1) : Nat) : Int) := j_addN (j_mulN hH q1 (by omega)) (j_mulN hBR q2 (by omega)) (by omega)
          refine ih' (i + 1) _ x12 (by omega) (by rw [e12]; exact i_suc h6 (by omega)) (fun i' hi' => ?_) (fun i' h1' h2' => by rw [up_ne (by omega)]; exact hhi i' (by omega) h2')
          by_cases e : i' = i + 1
          · rw [e, up_same, q3, show i + 1 + j = i + j + 1 by omega]
            rfl
          · rw [up_ne e]; exact hlo i' (by omega)
      refine R_Mat_play_13 ⟨fun y => absurd y (by rw [i_lt]; omega), fun _ => ⟨i_in i_0 (by omega), inner a 0 _ 1 (by omega) i_1 (fun i' hi' => ?_) (fun i' h1' h2' => ?_)⟩⟩
      · have : i' = 0 := by omega
        subst this
        rw [i_nat i_0, up_same, h3, Nat.zero_add, wgt_0, hsum]
      · rw [i_nat i_0, up_ne (by omega)]
        exact hR i' (by omega) h2'
  exact loop b 0 c11 1 1 (by omega) i_1 (by rw [zL1]; rfl) fun i hi1 hi2 => by rw [h11 i (by omega), zL0, wgt_gt hn hr (by omega)]; rfl
theorem S_Mat_work {v1 v2 : Int32} {a b : Nat} {Q : Int32 → Int32 → Int64 → Int64 → Int32 → (Nat → Int64) → (Nat → Int32) → (Nat → Int64) → Int64 → Int64 → Int64 → Int64 → (Nat → Int64) → Prop} (h : CR k l f m rk rl rf rm rtc rwc rth rca) (hG : GameOf k l f m T d ins n) (hs : GWo k l f T d ins n ways isw gd gz turns cells sec) (h1 : v1.toInt = (a : Int)) (ha : 1 ≤ a ∧ a ≤ 12) (h2 : v2.toInt = (b : Int)) (hb : 1 ≤ b ∧ b ≤ 12) (hq : ∀ ways' isw' gd' gz' turns' cells' gin' sec' (hit' base' above' below' : Int64) row', GWo k l f T d ins n ways' isw' gd' gz' turns' cells' sec' → above'.toInt = (wgt (hitN k l f T d) (basN k l f T d - hitN k l f T d) (a + b - 1) a : Int) → below'.toInt = ((basN k l f T d ^ (a + b - 1) : Nat) : Int) → Q ways' isw' gd' gz' turns' cells' gin' sec' hit' base' above' below' row') : P_Mat_work vvr rk rf rm rwc rth rca ways isw gd gz turns cells gin sec hit base above below row v1 v2 Q := by
  have hbd := hit_bd hG h.1
  exact T_Mat_work (R_Mat_work_0 (S_Mat_findHit h hG hs fun ways' isw' gd' gz' turns' cells' gin' sec' H B hs' hH hB => S_Mat_play hbd hH hB h1 ha h2 hb fun A E R hA hE => hq _ _ _ _ _ _ _ _ _ _ _ _ _ hs' hA hE))
end MATC
