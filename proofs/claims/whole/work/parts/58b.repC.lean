/-! AN ANSWER in the class: weights, shares -/
section REPC
variable {vv vv' : Nat → Value} {k l f m : Nat} {rk rl rf rm rtc rwc : Int32} {rth rca : Nat → Int32} {vvr : Nat → Value} {T : Nat → Nat → Int} {d : Int} {ins : Nat → Nat} {n : Nat} {ways isw turns cno : Int32} {gd gz : Int64} {cells sec : Nat → Int64} {counts gin : Nat → Int32} {t : Nat → Nat} {K c ln : Nat}
def cfR (l f : Nat) (t : Nat → Nat) (K c ln : Nat) (x : Nat) : Nat := cnt (gn l f) t K c x ln
theorem cf_bd {l f : Nat} {t : Nat → Nat} {K c ln : Nat} (h : ln ≤ 120) (x : Nat) : cfR l f t K c ln x ≤ 120 := by
  have h1 := cnt_le_plc (gn l f) t K c x ln
  have h2 := plc_le (gn l f) t K c ln
  unfold cfR
  omega
theorem S_Rep_weigh {wts mmv : Int64} {wt me er : Nat → Int64} {Q : Int64 → Int64 → (Nat → Int64) → (Nat → Int64) → (Nat → Int64) → Prop} (h : CR k l f m rk rl rf rm rtc rwc rth rca) (hG : GameOf k l f m T d ins n) (hs : GWd k l f T d ins n ways isw gd gz turns cells sec) (hT : TlC l f t K ln counts) (hK : K ≤ 3) (hcn : cno.toInt = (c : Int)) (hc : c < gn l f ^ K) (hln : ln ≤ 120) (hq : ∀ (wts' mmv' : Int64) (wt' me' er' : Nat → Int64), wts'.toInt = alR k l f (cfR l f t K c ln) → mmv'.toInt = mmR k l f m T ins (cfR l f t K c ln) → (∀ i, i < gw k l f → (me' i).toInt = meR k l f m (cfR l f t K c ln) i) → (∀ j, j < gw k l f → (er' j).toInt = erng k l f m T ins 0 j) → Q wts' mmv' wt' me' er') : P_Rep_weigh vvr vv vv' rk rl rm rtc rwc rth rca ways cells sec cno counts wts mmv wt me er Q := by
  have hw := gw_le h.1
  have hcf := cf_bd (l := l) (f := f) (t := t) (K := K) (c := c) hln
  have hb := hG.bd.1
  have l2in : ∀ (w j i : Nat) (wts mmv : Int64) (wt me er : Nat → Int64) (v2 v3 v4 : Int32), j + w = gw k l f → i < gw k l f → v2.toInt = (gw k l f : Int) → v3.toInt = (i : Int) → v4.toInt = (j : Int) → (∀ j, j < gw k l f → (wt j).toInt = wgR k l f (cfR l f t K c ln) j) → (me i).toInt = sumZ (fun j => wgR k l f (cfR l f t K c ln) j * payI k l f m i j) j → (∀ me', (∀ u, u ≠ i → me' u = me u) → (me' i).toInt = meR k l f m (cfR l f t K c ln) i → E_Rep_weigh_137 vvr vv vv' rk rl rm rtc rwc rth rca ways cells sec cno counts wts mmv wt me' er v2 v3 Q) → E_Rep_weigh_97 vvr vv vv' rk rl rm rtc rwc rth rca ways cells sec cno counts wts mmv wt me er v2 v3 v4 Q := by
    intro w
    induction w with
    | zero =>
      intro j i wts mmv wt me er v2 v3 v4 hj hi h2 h3 h4 hwt hme hout
      have : j = gw k l f := by omega
      subst this
      exact R_Rep_weigh_97 ⟨fun _ => hout me (fun _ _ => rfl) hme, fun z => absurd (by rw [i_le, h2, h4]; omega) z⟩
    | succ w ih =>
      intro j i wts mmv wt me er v2 v3 v4 hj hi h2 h3 h4 hwt hme hout
      refine R_Rep_weigh_97 ⟨fun z => absurd z (by rw [i_le, h2, h4]; omega), fun _ => ⟨i_in h3 (by omega), i_in h4 (by omega), S_Rule_payOf h h3 hi h4 (by omega) fun r7 e7 => ⟨i_in h3 (by omega), fun x8 e8 => ?_⟩⟩⟩
      rw [i_nat h3, i_nat h4]
      have b1 := me_bd (m := m) h.1 hcf hi (show j ≤ gw k l f by omega)
      have b2 := wg_bd (k := k) (l := l) (f := f) hcf j
      have b3 := pay_bd h.1 hi (show j < gw k l f by omega)
      have b4 := mulR_bd (A := 120) (B := 8) ⟨by omega, b2.2⟩ b3 (by omega)
      have hm := j_mul (hwt j (by omega)) (i_wide e7) (by omega) (by omega)
      have ha := j_add hme hm (by omega) (by omega)
      refine ih (j + 1) i wts mmv wt _ er v2 v3 x8 (by omega) hi h2 h3 (by rw [e8]; exact i_suc h4 (by omega)) hwt (by rw [up_same]; exact ha) fun me' hu hv => hout me' (fun u hu' => by rw [hu u hu', up_ne hu']) hv
  have l2 : ∀ (w i : Nat) (wts mmv : Int64) (wt me er : Nat → Int64) (v2 v3 : Int32), i + w = gw k l f → v2.toInt = (gw k l f : Int) → v3.toInt = (i : Int) → wts.toInt = alR k l f (cfR l f t K c ln) → mmv.toInt = sumZ (fun i => shr T ins (gw k l f) 0 i * meR k l f m (cfR l f t K c ln) i) i → (∀ j, j < gw k l f → (wt j).toInt = wgR k l f (cfR l f t K c ln) j) → (∀ u, u < i → (me u).toInt = meR k l f m (cfR l f t K c ln) u) → (∀ j, j < gw k l f → (er j).toInt = erng k l f m T ins 0 j) → E_Rep_weigh_82 vvr vv vv' rk rl rm rtc rwc rth rca ways cells sec cno counts wts mmv wt me er v2 v3 Q := by
    intro w
    induction w with
    | zero =>
      intro i wts mmv wt me er v2 v3 hi h2 h3 hws hmm hwt hme her
      have : i = gw k l f := by omega
      subst this
      exact R_Rep_weigh_82 ⟨fun _ => R_Rep_weigh_168 (hq wts mmv wt me er hws hmm hme her), fun z => absurd (by rw [i_le, h2, h3]; omega) z⟩
    | succ w ih =>
      intro i wts mmv wt me er v2 v3 hi h2 h3 hws hmm hwt hme her
      refine R_Rep_weigh_82 ⟨fun z => absurd z (by rw [i_le, h2, h3]; omega), fun _ => ⟨i_in h3 (by omega), ?_⟩⟩
      rw [i_nat h3]
      refine l2in (gw k l f) 0 i wts mmv wt _ er v2 v3 0 (by omega) (by omega) h2 h3 i_0 hwt (by rw [up_same]; rfl) fun me' hu hv => R_Rep_weigh_137 (S_Game_share (p := 0) h.1 hs i_0 h3 (by omega) fun r9 e9 => ⟨i_in h3 (by omega), fun x10 e10 x11 e11 => ?_⟩)
      rw [i_nat h3] at e10
      have b1 := mm_bd h.1 hG hcf (show i + 1 ≤ gw k l f by omega)
      have b2 := mm_bd h.1 hG hcf (show i ≤ gw k l f by omega)
      have hsum : sumZ (fun i => shr T ins (gw k l f) 0 i * meR k l f m (cfR l f t K c ln) i) (i + 1) = sumZ (fun i => shr T ins (gw k l f) 0 i * meR k l f m (cfR l f t K c ln) i) i + shr T ins (gw k l f) 0 i * meR k l f m (cfR l f t K c ln) i := rfl
      have hm := j_mul e9 hv (by omega) (by omega)
      have ha := j_add hmm hm (by omega) (by omega)
      refine ih (i + 1) wts x10 wt me' er v2 x11 (by omega) h2 (by rw [e11]; exact i_suc h3 (by omega)) hws (by rw [e10, hsum]; exact ha) hwt (fun u hu' => ?_) her
      by_cases e : u = i
      · rw [e]
        exact hv
      · rw [hu u e, up_ne e]
        exact hme u (by omega)
  have l1 : ∀ (w j : Nat) (wts mmv : Int64) (wt me er : Nat → Int64) (v2 v3 : Int32), j + w = gw k l f → v2.toInt = (gw k l f : Int) → v3.toInt = (j : Int) → wts.toInt = sumZ (wgR k l f (cfR l f t K c ln)) j → (∀ u, u < j → (wt u).toInt = wgR k l f (cfR l f t K c ln) u) → (∀ u, u < j → (er u).toInt = erng k l f m T ins 0 u) → E_Rep_weigh_15 vvr vv vv' rk rl rm rtc rwc rth rca ways cells sec cno counts wts mmv wt me er v2 v3 Q := by
    intro w
    induction w with
    | zero =>
      intro j wts mmv wt me er v2 v3 hj h2 h3 hws hwt her
      have : j = gw k l f := by omega
      subst this
      exact R_Rep_weigh_15 ⟨fun _ => R_Rep_weigh_75 (l2 (gw k l f) 0 wts 0 wt me er v2 0 (by omega) h2 i_0 hws rfl hwt (fun u hu => by omega) her), fun z => absurd (by rw [i_le, h2, h3]; omega) z⟩
    | succ w ih =>
      intro j wts mmv wt me er v2 v3 hj h2 h3 hws hwt her
      have ht := thr_le h.1 (show j < gw k l f by omega)
      have hgn := gn_le h.1
      refine R_Rep_weigh_15 ⟨fun z => absurd z (by rw [i_le, h2, h3]; omega), fun _ => S_Rule_throwOf h h3 (by omega) fun r2 e2 => T_Men_foreseenCount (R_Men_foreseenCount_0 (S_Men_followed (x := thr k l f j - l) h hT hK hcn hc (by rw [e2]; omega) (by omega) fun r3 e3 => ⟨i_in h3 (by omega), i_in h3 (by omega), fun x4 e4 => S_Game_earnedAgainst (p := 0) h hG hs i_0 h3 (by omega) fun r5 e5 => ⟨i_in h3 (by omega), fun x6 e6 => ?_⟩⟩))⟩
      rw [i_nat h3, up_same] at e4
      rw [i_nat h3]
      have b2 := wg_bd (k := k) (l := l) (f := f) hcf j
      have b1 := sumZ_bd (g := wgR k l f (cfR l f t K c ln)) (B := 120) (n := j) fun i _ => by
        have := wg_bd (k := k) (l := l) (f := f) hcf i
        omega
      have hr3 : r3.toInt64.toInt = wgR k l f (cfR l f t K c ln) j := i_wide e3
      have ha := j_add hws hr3 (by omega) (by omega)
      refine ih (j + 1) x4 mmv _ me _ v2 x6 (by omega) h2 (by rw [e6]; exact i_suc h3 (by omega)) (by rw [e4]; exact ha) (fun u hu => ?_) fun u hu => ?_
      · by_cases e : u = j
        · rw [e, up_same]
          exact hr3
        · rw [up_ne e]
          exact hwt u (by omega)
      · by_cases e : u = j
        · rw [e, up_same]
          exact e5
        · rw [up_ne e]
          exact her u (by omega)
  exact T_Rep_weigh (R_Rep_weigh_0 (l1 (gw k l f) 0 0 mmv wt me er rwc 0 (by omega) h.wc i_0 rfl (fun u hu => by omega) fun u hu => by omega))
theorem S_Rep_stretch {nT nL : Int64} {er : Nat → Int64} {v1 v2 : Int32} {i : Nat} {e : Int} {Q : Int64 → Int64 → Prop} (h : CR k l f m rk rl rf rm rtc rwc rth rca) (hG : GameOf k l f m T d ins n) (hd : gd.toInt = d) (hz : gz.toInt = T (gw k l f) (2 * gw k l f)) (her : ∀ j, j < gw k l f → (er j).toInt = erng k l f m T ins 0 j) (h1 : v1.toInt = (i : Int)) (hi : i < gw k l f) (h2 : v2.toInt = e) (he : 0 ≤ e ∧ e ≤ 9000) (hq : ∀ nT' nL' : Int64, nT'.toInt = (stR k l f m T d ins e i).1 → nL'.toInt = (stR k l f m T d ins e i).2 → Q nT' nL') : P_Rep_stretch vvr vv vv' rk rf rm rwc rth rca gd gz nT nL er v1 v2 Q := by
  have hw := gw_le h.1
  obtain ⟨f1, f2, f3, f4, _⟩ := hG.fct h.1
  have hbd := hG.bd.2.1
  have z1000 : (1000 : Int64).toInt = 1000 := by decide
  have zL0' : (0 : Int64).toInt = 0 := by decide
  have hpj : ∀ j, j < gw k l f → vaZ k l f T d ≤ erng k l f m T ins 0 j ∧ erng k l f m T ins 0 j ≤ 8 * T (gw k l f) (2 * gw k l f) ∧ -8 ≤ payI k l f m i j ∧ payI k l f m i j ≤ 8 := fun j hj => ⟨(f4 j hj).1, (f4 j hj).2, pay_bd h.1 hi hj⟩
  have loop : ∀ (w j : Nat) (nT nL : Int64) (v3 : Int32), j + w = gw k l f → v3.toInt = (j : Int) → nT.toInt = (stI (erng k l f m T ins 0) (payI k l f m i) (T (gw k l f) (2 * gw k l f)) (vaZ k l f T d) e j).1 → nL.toInt = (stI (erng k l f m T ins 0) (payI k l f m i) (T (gw k l f) (2 * gw k l f)) (vaZ k l f T d) e j).2 → E_Rep_stretch_14 vvr vv vv' rk rf rm rwc rth rca gd gz nT nL er v1 v2 v3 Q := by
    intro w
    induction w with
    | zero =>
      intro j nT nL v3 hj h3 hT hL
      have : j = gw k l f := by omega
      subst this
      exact R_Rep_stretch_14 ⟨fun _ => R_Rep_stretch_126 (hq nT nL hT hL), fun z => absurd (by rw [i_le, h.wc, h3]; omega) z⟩
    | succ w ih =>
      intro j nT nL v3 hj h3 hT hL
      obtain ⟨p1, p2, p3, p4⟩ := hpj j (by omega)
      have sb := stI_bd (er := erng k l f m T ins 0) (py := payI k l f m i) (z := T (gw k l f) (2 * gw k l f)) (va := vaZ k l f T d) f1 he f3 (n := j) (fun j hj => hpj j (by omega))
      refine R_Rep_stretch_14 (⟨fun z => absurd z (by rw [i_le, h.wc, h3]; omega), fun _ => ⟨i_in h3 (by omega), S_Rule_payOf h h1 hi h3 (by omega) fun r2 e2 x3 e3 => ⟨i_in h3 (by omega), S_Game_worth h hd hz hbd ⟨f1, by omega⟩ fun r4 e4 x5 e5 => ?_⟩⟩⟩)
      have hej := her j (by omega)
      rw [i_nat h3] at e3 e5
      have hr4 : r4.toInt = vaZ k l f T d := e4
      have f3' : -(8 * T (gw k l f) (2 * gw k l f)) ≤ vaZ k l f T d := f3
      generalize hz' : T (gw k l f) (2 * gw k l f) = z at *
      generalize vaZ k l f T d = va at *
      generalize hee : erng k l f m T ins 0 = ER at *
      generalize hpp : payI k l f m i = PY at *
      have m1 := mulR_bd (a := PY j) (b := z) (A := 8) (B := 2097151) ⟨p3, p4⟩ ⟨by omega, f2⟩ (by omega)
      have m2 := mulR_bd (a := e) (b := z) (A := 9000) (B := 2097151) ⟨by omega, he.2⟩ ⟨by omega, f2⟩ (by omega)
      have ez : 0 ≤ e * z := Int.mul_nonneg he.1 (by omega)
      have ez2 : e * z ≤ 9000 * z := Int.mul_le_mul_of_nonneg_right he.2 (by omega)
      have pz : -8 * z ≤ PY j * z := Int.mul_le_mul_of_nonneg_right p3 (by omega)
      have pz2 : PY j * z ≤ 8 * z := Int.mul_le_mul_of_nonneg_right p4 (by omega)
      have hx3 : x3.toInt = ER j - PY j * z := by
        rw [e3]
        exact j_sub hej (j_mul (i_wide e2) hz (by omega) (by omega)) (by omega) (by omega)
      have hx5 : x5.toInt = 1000 * (ER j - va) + e * z := by
        rw [e5]
        exact j_add (j_mul z1000 (j_sub hej hr4 (by omega) (by omega)) (by omega) (by omega)) (j_mul (i_wide h2) hz (by omega) (by omega)) (by omega) (by omega)
      have next : ∀ nT' nL' : Int64, nT'.toInt = (stI ER PY z va e (j + 1)).1 → nL'.toInt = (stI ER PY z va e (j + 1)).2 → E_Rep_stretch_120 vvr vv vv' rk rf rm rwc rth rca gd gz nT' nL' er v1 v2 v3 Q := fun nT' nL' a b => R_Rep_stretch_120 fun x6 e6 => ih (j + 1) nT' nL' x6 (by omega) (by rw [e6]; exact i_suc h3 (by omega)) a b
      simp only [stI] at next
      obtain ⟨s1, s2, s3, s4⟩ := sb
      generalize stI ER PY z va e j = S at *
      have q1 := mulR_bd (a := 1000 * (ER j - va) + e * z) (b := S.2) (A := 52428775000) (B := 33554416) ⟨by omega, by omega⟩ ⟨by omega, by omega⟩ (by omega)
      rw [lg_le0, hx3, zL0']
      refine ⟨fun y => next nT nL ?_ ?_, fun y => ?_⟩
      · rw [if_neg (by omega)]
        exact hT
      · rw [if_neg (by omega)]
        exact hL
      · have q2 := mulR_bd (a := S.1) (b := ER j - PY j * z) (A := 52428775000) (B := 33554416) ⟨by omega, by omega⟩ ⟨by omega, by omega⟩ (by omega)
        rw [lg_ge0, j_mul hx5 hL (by omega) (by omega), j_mul hT hx3 (by omega) (by omega)]
        refine ⟨fun x => next nT nL ?_ ?_, fun x => next x5 x3 ?_ ?_⟩
        · rw [if_neg (by omega)]
          exact hT
        · rw [if_neg (by omega)]
          exact hL
        · rw [if_pos ⟨by omega, by omega⟩]
          exact hx5
        · rw [if_pos ⟨by omega, by omega⟩]
          exact hx3
  exact T_Rep_stretch (R_Rep_stretch_0 (loop (gw k l f) 0 1000 1 0 (by omega) i_0 rfl rfl))
end REPC
