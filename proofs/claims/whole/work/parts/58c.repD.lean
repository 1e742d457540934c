/-! AN ANSWER in the class: the search -/
section REPD
variable {vv vv' : Nat → Value} {k l f m : Nat} {rk rl rf rm rtc rwc : Int32} {rth rca : Nat → Int32} {vvr : Nat → Value} {T : Nat → Nat → Int} {d : Int} {ins : Nat → Nat} {n : Nat} {ways isw turns cno : Int32} {gd gz : Int64} {cells sec : Nat → Int64} {counts gin : Nat → Int32} {t : Nat → Nat} {K c ln : Nat}
variable {an1 an2 an3 an4 : Int32} {ad1 ad2 ad3 ad4 : Nat → Int32}
theorem uJ_7 (x : Int64) : uJ x < BB ^ 7 := Nat.lt_of_lt_of_le (uJ_lt x) (by decide)
theorem S_Rep_product_rmine {v2 v4 : Int64} {Q : Int32 → (Nat → Int32) → Int32 → (Nat → Int32) → Int32 → (Nat → Int32) → Prop} (hq : ∀ a1 b1 a2 b2 a3 b3, BR b3 a3 (uJ v2 * uJ v4) → Q a1 b1 a2 b2 a3 b3) : P_Rep_becomeProduct_rmine vv an1 ad1 an2 ad2 an3 ad3 v2 v4 Q := T_Rep_becomeProduct_rmine (R_Rep_becomeProduct_rmine_0 (S_Big_become fun d1 n1 h1 => S_Big_become fun d2 n2 h2 => S_Big_becomeProduct h1 h2 (uJ_7 _) (uJ_7 _) fun d3 n3 h3 => hq _ _ _ _ _ _ h3))
theorem S_Rep_product_rother {v2 v4 : Int64} {Q : Int32 → (Nat → Int32) → Int32 → (Nat → Int32) → Int32 → (Nat → Int32) → Prop} (hq : ∀ a1 b1 a2 b2 a3 b3, BR b3 a3 (uJ v2 * uJ v4) → Q a1 b1 a2 b2 a3 b3) : P_Rep_becomeProduct_rother vv an1 ad1 an2 ad2 an3 ad3 v2 v4 Q := T_Rep_becomeProduct_rother (R_Rep_becomeProduct_rother_0 (S_Big_become fun d1 n1 h1 => S_Big_become fun d2 n2 h2 => S_Big_becomeProduct h1 h2 (uJ_7 _) (uJ_7 _) fun d3 n3 h3 => hq _ _ _ _ _ _ h3))
/-- the class holds the best so far -/
def RpS (ga : Nat → Int) (ob : Option (Nat × Int × Int)) (best : Int32) (gain top low : Int64) : Prop := match ob with
  | none => best = -1
  | some (b, t, lw) => best.toInt = (b : Int) ∧ gain.toInt = ga b ∧ top.toInt = t ∧ low.toInt = lw ∧ (0 ≤ t ∧ t ≤ 52428775000) ∧ (0 < lw ∧ lw ≤ 33554416) ∧ 0 < ga b ∧ ga b ≤ 40331318400000
theorem S_Rep_keepIfBetter {ga : Nat → Int} {st : Nat → Int × Int} {i : Nat} {best v1 : Int32} {gain nT nL top low v2 : Int64} {Q : Int32 → Int64 → Int64 → Int64 → Int32 → (Nat → Int32) → Int32 → (Nat → Int32) → Int32 → (Nat → Int32) → Int32 → (Nat → Int32) → Prop} (hS : RpS ga (bsI ga st i) best gain top low) (h1 : v1.toInt = (i : Int)) (h2 : v2.toInt = ga i) (hg : 0 < ga i ∧ ga i ≤ 40331318400000) (hT : nT.toInt = (st i).1) (hL : nL.toInt = (st i).2) (bT : 0 ≤ (st i).1 ∧ (st i).1 ≤ 52428775000) (bL : 0 < (st i).2 ∧ (st i).2 ≤ 33554416) (hq : ∀ best' gain' top' low' a1 b1 a2 b2 a3 b3 a4 b4, RpS ga (bsI ga st (i + 1)) best' gain' top' low' → Q best' gain' top' low' a1 b1 a2 b2 a3 b3 a4 b4) : P_Rep_keepIfBetter vv best gain nT nL top low an1 ad1 an2 ad2 an3 ad3 an4 ad4 v1 v2 Q := by
  refine T_Rep_keepIfBetter (R_Rep_keepIfBetter_0 (S_Rep_product_rmine fun a1 b1 a2 b2 a3 b3 h3 => S_Rep_product_rother fun a4 b4 a5 b5 a6 b6 h6 => ?_))
  cases e : bsI ga st i with
  | none =>
    rw [e] at hS
    have hb : best = -1 := hS
    refine ⟨fun _ => R_Rep_keepIfBetter_61 (R_Rep_keepIfBetter_87 (hq _ _ _ _ _ _ _ _ _ _ _ _ ?_)), fun z => absurd hb z⟩
    simp only [bsI, e]
    rw [if_pos hg.1]
    exact ⟨h1, h2, hT, hL, bT, bL, hg.1, hg.2⟩
  | some o =>
    obtain ⟨b, t, lw⟩ := o
    rw [e] at hS
    have hS' := hS
    obtain ⟨s1, s2, s3, s4, s5, s6, s7, s8⟩ := hS'
    refine ⟨fun z => absurd (by rw [z] at s1; exact s1) (by rw [show (-1 : Int32).toInt = -1 by decide]; omega), fun _ => S_Big_against h3 h6 fun r13 e13 => ?_⟩
    have key : r13 ≤ 0 ↔ ¬ t * (st i).2 * ga b < (st i).1 * lw * ga i := by
      generalize ga i = G at *
      generalize ga b = GB at *
      generalize (st i).1 = X at *
      generalize (st i).2 = Y at *
      obtain ⟨g', rfl⟩ := Int.eq_ofNat_of_zero_le (Int.le_of_lt hg.1)
      obtain ⟨gb', rfl⟩ := Int.eq_ofNat_of_zero_le (Int.le_of_lt s7)
      obtain ⟨x', rfl⟩ := Int.eq_ofNat_of_zero_le bT.1
      obtain ⟨y', rfl⟩ := Int.eq_ofNat_of_zero_le (Int.le_of_lt bL.1)
      obtain ⟨t', rfl⟩ := Int.eq_ofNat_of_zero_le s5.1
      obtain ⟨l', rfl⟩ := Int.eq_ofNat_of_zero_le (Int.le_of_lt s6.1)
      have m1 : x' * l' ≤ 52428775000 * 33554416 := Nat.mul_le_mul (by omega) (by omega)
      have m2 : t' * y' ≤ 52428775000 * 33554416 := Nat.mul_le_mul (by omega) (by omega)
      rw [i_le, e13, z_0, uJ_of (j_mulN hT s4 (by omega)), uJ_of (j_mulN s3 hL (by omega)), uJ_of h2, uJ_of s2]
      have : ((t' : Int) * y' * gb' < (x' : Int) * l' * g') ↔ t' * y' * gb' < x' * l' * g' := by norm_cast
      rw [this]
      generalize x' * l' * g' = A
      generalize t' * y' * gb' = B
      unfold cmpN
      split
      · omega
      · split <;> omega
    rw [key]
    refine ⟨fun z => R_Rep_keepIfBetter_87 (hq _ _ _ _ _ _ _ _ _ _ _ _ ?_), fun z => R_Rep_keepIfBetter_61 (R_Rep_keepIfBetter_87 (hq _ _ _ _ _ _ _ _ _ _ _ _ ?_))⟩
    · simp only [bsI, e]
      rw [if_neg (fun q => z q.2)]
      exact hS
    · simp only [bsI, e]
      rw [if_pos ⟨hg.1, Classical.not_not.mp z⟩]
      exact ⟨h1, h2, hT, hL, bT, bL, hg.1, hg.2⟩
theorem S_Rep_seek {wts mmv gain nT nL top low : Int64} {best v2 : Int32} {wt me er : Nat → Int64} {e : Int} {Q : Int32 → Int32 → Int32 → Int64 → Int64 → Int32 → (Nat → Int64) → (Nat → Int32) → (Nat → Int64) → Int64 → Int64 → Int32 → Int64 → Int64 → Int64 → Int64 → Int64 → (Nat → Int64) → (Nat → Int64) → (Nat → Int64) → Int32 → (Nat → Int32) → Int32 → (Nat → Int32) → Int32 → (Nat → Int32) → Int32 → (Nat → Int32) → Prop} (h : CR k l f m rk rl rf rm rtc rwc rth rca) (hG : GameOf k l f m T d ins n) (hs : isw = 0 ∨ GWd k l f T d ins n ways isw gd gz turns cells sec) (hT : TlC l f t K ln counts) (hK : K ≤ 3) (hcn : cno.toInt = (c : Int)) (hc : c < gn l f ^ K) (hln : ln ≤ 120) (h2 : v2.toInt = e) (he : 0 ≤ e ∧ e ≤ 9000) (hq : ∀ (best' ways' isw' : Int32) gd' gz' turns' cells' gin' sec' (wts' mmv' gain' nT' nL' top' low' : Int64) wt' me' (er' : Nat → Int64) a1 b1 a2 b2 a3 b3 a4 b4, GWd k l f T d ins n ways' isw' gd' gz' turns' cells' sec' → wts'.toInt = alR k l f (cfR l f t K c ln) → mmv'.toInt = mmR k l f m T ins (cfR l f t K c ln) → (∀ j, j < gw k l f → (er' j).toInt = erng k l f m T ins 0 j) → RpS (gaR k l f m T ins (cfR l f t K c ln)) (bsI (gaR k l f m T ins (cfR l f t K c ln)) (stR k l f m T d ins e) (gw k l f)) best' gain' top' low' → Q best' ways' isw' gd' gz' turns' cells' gin' sec' wts' mmv' best' gain' nT' nL' top' low' wt' me' er' a1 b1 a2 b2 a3 b3 a4 b4) : P_Rep_seek rk rl rf rm rtc rwc rth rca ways isw gd gz turns cells gin sec cno counts wts mmv best gain nT nL top low wt me er an1 ad1 an2 ad2 an3 ad3 an4 ad4 v2 Q := by
  have hw := gw_le h.1
  have hcf := cf_bd (l := l) (f := f) (t := t) (K := K) (c := c) hln
  obtain ⟨f1, f2, f3, f4, _⟩ := hG.fct h.1
  refine T_Rep_seek (R_Rep_seek_0 (S_Game_work h hG hs fun ways' isw' gd' gz' turns' cells' gin' sec' hs' => S_Rep_weigh h hG hs' hT hK hcn hc hln fun wts' mmv' wt' me' er' w1 w2 w3 w4 => ?_))
  have hgz : gz'.toInt = T (gw k l f) (2 * gw k l f) := hs'.2.2.2.1
  have hgd : gd'.toInt = d := hs'.2.2.1
  have loop : ∀ (w i : Nat) (best : Int32) (gain nT nL top low : Int64) (an1 an2 an3 an4 : Int32) (ad1 ad2 ad3 ad4 : Nat → Int32) (v3 : Int32), i + w = gw k l f → v3.toInt = (i : Int) → RpS (gaR k l f m T ins (cfR l f t K c ln)) (bsI (gaR k l f m T ins (cfR l f t K c ln)) (stR k l f m T d ins e) i) best gain top low → E_Rep_seek_19 rk rl rf rm rtc rwc rth rca ways' isw' gd' gz' turns' cells' gin' sec' cno counts wts' mmv' best gain nT nL top low wt' me' er' an1 ad1 an2 ad2 an3 ad3 an4 ad4 v2 v3 Q := by
    intro w
    induction w with
    | zero =>
      intro i best gain nT nL top low an1 an2 an3 an4 ad1 ad2 ad3 ad4 v3 hi h3 hS
      have : i = gw k l f := by omega
      subst this
      exact R_Rep_seek_19 (⟨fun _ => R_Rep_seek_77 (hq _ _ _ _ _ _ _ _ _ _ _ _ _ _ _ _ _ _ _ _ _ _ _ _ _ _ _ hs' w1 w2 w4 hS), fun z => absurd (by rw [i_le, h.wc, h3]; omega) z⟩)
    | succ w ih =>
      intro i best gain nT nL top low an1 an2 an3 an4 ad1 ad2 ad3 ad4 v3 hi h3 hS
      have gb := ga_bd h.1 hG hcf (show i < gw k l f by omega)
      have mb : -40265318400000 ≤ mmR k l f m T ins (cfR l f t K c ln) ∧ mmR k l f m T ins (cfR l f t K c ln) ≤ 40265318400000 := mm_bd h.1 hG hcf (Nat.le_refl (gw k l f))
      refine R_Rep_seek_19 (⟨fun z => absurd z (by rw [i_le, h.wc, h3]; omega), fun _ => ⟨i_in h3 (by omega), fun x15 e15 => ?_⟩⟩)
      rw [i_nat h3] at e15
      have hx : x15.toInt = gaR k l f m T ins (cfR l f t K c ln) i := by
        have hge : gaR k l f m T ins (cfR l f t K c ln) i = meR k l f m (cfR l f t K c ln) i * T (gw k l f) (2 * gw k l f) - mmR k l f m T ins (cfR l f t K c ln) := rfl
        rw [e15, hge]
        exact j_sub (j_mul (w3 i (by omega)) hgz (by omega) (by omega)) w2 (by omega) (by omega)
      have sb := stI_bd (er := erng k l f m T ins 0) (py := payI k l f m i) (z := T (gw k l f) (2 * gw k l f)) (va := vaZ k l f T d) f1 he f3 (n := gw k l f) (fun j hj => ⟨(f4 j hj).1, (f4 j hj).2, pay_bd h.1 (by omega) hj⟩)
      have sb' : (0 ≤ (stR k l f m T d ins e i).1 ∧ (stR k l f m T d ins e i).1 ≤ 52428775000) ∧ (0 < (stR k l f m T d ins e i).2 ∧ (stR k l f m T d ins e i).2 ≤ 33554416) := by
        unfold stR
        omega
      rw [lg_le0, hx, show (0 : Int64).toInt = 0 by decide]
      refine ⟨fun z => R_Rep_seek_71 fun x30 e30 => ih (i + 1) best gain nT nL top low _ _ _ _ _ _ _ _ x30 (by omega) (by rw [e30]; exact i_suc h3 (by omega)) ?_, fun z => S_Rep_stretch h hG hgd hgz w4 h3 (by omega) h2 he fun nT' nL' t1 t2 => S_Rep_keepIfBetter hS h3 hx ⟨by omega, gb.2⟩ t1 t2 sb'.1 sb'.2 fun best' gain' top' low' a1 b1 a2 b2 a3 b3 a4 b4 hS' => R_Rep_seek_71 fun x30 e30 => ih (i + 1) best' gain' nT' nL' top' low' a1 a2 a3 a4 b1 b2 b3 b4 x30 (by omega) (by rw [e30]; exact i_suc h3 (by omega)) hS'⟩
      have : bsI (gaR k l f m T ins (cfR l f t K c ln)) (stR k l f m T d ins e) (i + 1) = bsI (gaR k l f m T ins (cfR l f t K c ln)) (stR k l f m T d ins e) i := by
        simp only [bsI]
        split
        · rename_i q
          rw [if_neg (by omega), q]
        · rename_i b t lw q
          rw [if_neg (fun o => by omega), q]
      rw [this]
      exact hS
  exact loop (gw k l f) 0 (-1) gain nT nL top low an1 an2 an3 an4 ad1 ad2 ad3 ad4 0 (by omega) i_0 rfl
end REPD
