/-! MEN in the class -/
section MENC
variable {vv vv' : Nat → Value} {k l f m : Nat} {rk rl rf rm rtc rwc : Int32} {rth rca : Nat → Int32} {vvr : Nat → Value} {rows lens counts codes : Nat → Int32} {cno : Int32} {tt : Nat → Nat → Nat} {len : Nat → Nat}
  {sn pn tn qn : Int32} {sd pd td qd : Nat → Int32}
theorem z_3 : (3 : Int32).toInt = 3 := by decide
theorem i_120 : (120 : Int32).toInt = ((120 : Nat) : Int) := by decide
theorem S_Men_isMan {v : Int32} {Q : Int32 → Prop} (hq : ∀ r : Int32, (r = 1 ∧ (0 ≤ v.toInt ∧ v.toInt ≤ 3)) ∨ (r = 0 ∧ ¬ (0 ≤ v.toInt ∧ v.toInt ≤ 3)) → Q r) : P_Men_isMan v Q := by
  refine T_Men_isMan (R_Men_isMan_0 (S_F_isWithin fun r h => ?_))
  rw [z_0, z_3] at h
  refine ⟨?_, hq r h⟩
  rcases h with h | h
  · exact Or.inr h.1
  · exact Or.inl h.1
theorem S_Rule_isThrow {v : Int32} {Q : Int32 → Prop} (h : CR k l f m rk rl rf rm rtc rwc rth rca) (hq : ∀ r : Int32, (r = 1 ∧ ((l : Int) ≤ v.toInt ∧ v.toInt ≤ (f : Int))) ∨ (r = 0 ∧ ¬ ((l : Int) ≤ v.toInt ∧ v.toInt ≤ (f : Int))) → Q r) : P_Rule_isThrow vv rl rf v Q := by
  refine T_Rule_isThrow (R_Rule_isThrow_0 (S_F_isWithin fun r h' => ?_))
  rw [h.2.2.1, h.2.2.2.1] at h'
  refine ⟨?_, hq r h'⟩
  rcases h' with h' | h'
  · exact Or.inr h'.1
  · exact Or.inl h'.1
theorem S_Men_contextCount {v1 : Int32} {K : Nat} {Q : Int32 → Prop} (h : CR k l f m rk rl rf rm rtc rwc rth rca) (h1 : v1.toInt = (K : Int)) (hK : K ≤ 3) (hq : ∀ r : Int32, r.toInt = ((gn l f ^ K : Nat) : Int) → Q r) : P_Men_contextCount vv vv' rtc v1 Q := by
  have hn := gn_le h.1
  have loop : ∀ (u i : Nat) (v2 v3 : Int32), i + u = K → v3.toInt = (i : Int) → v2.toInt = ((gn l f ^ i : Nat) : Int) → E_Men_contextCount_4 vv vv' rtc v1 v2 v3 Q := by
    intro u
    induction u with
    | zero =>
      intro i v2 v3 hu h3 h2
      have : i = K := by omega
      subst this
      exact R_Men_contextCount_4 ⟨fun _ => R_Men_contextCount_30 (hq _ h2), fun y => absurd (by rw [i_le]; omega) y⟩
    | succ u ih =>
      intro i v2 v3 hu h3 h2
      refine R_Men_contextCount_4 ⟨fun y => absurd y (by rw [i_le]; omega), fun _ => ⟨fun y => absurd y (by rw [i_le, z_3]; omega), fun _ x2 e2 x3 e3 => ih (i + 1) x2 x3 (by omega) (by rw [e3]; exact i_suc h3 (by omega)) ?_⟩⟩
      have hp := pow_n3 hn.2.1 (k := i) (by omega)
      have hm : gn l f ^ i * gn l f ≤ 125 * 5 := Nat.mul_le_mul hp hn.2.1
      rw [e2, Nat.pow_succ]
      exact i_mulN h2 h.tc (by omega)
  exact T_Men_contextCount (R_Men_contextCount_0 (loop K 0 1 0 (by omega) i_0 (by rw [Nat.pow_zero]; exact i_1)))
/-- what was tallied -/
def TlC (l f : Nat) (t : Nat → Nat) (K len : Nat) (counts : Nat → Int32) : Prop := ∀ c x, c < gn l f ^ K → x < gn l f → (counts (c * gn l f + x)).toInt = (cnt (gn l f) t K c x len : Int)
theorem ixm2 {x y : Int32} {man i : Nat} (hx : x.toInt = (man : Int)) (hy : y.toInt = (i : Int)) (hm : man < 4) (hi : i < 120) : vp_in (x * 120 + y) 480 ∧ (x * 120 + y).toNatClampNeg = 120 * man + i := by
  have h : (x * 120 + y).toInt = ((120 * man + i : Nat) : Int) := by
    rw [i_addN (i_mulN hx i_120 (by omega)) hy (by omega)]
    omega
  exact ⟨i_in h (by omega), i_nat h⟩
theorem ixm3 {x y : Int32} {man i : Nat} (hx : x.toInt = (man : Int)) (hy : y.toInt = (i : Int)) (hm : man < 4) (hi : i < 120) : vp_in ((120 : Int32) * x + y) 480 ∧ ((120 : Int32) * x + y).toNatClampNeg = 120 * man + i := by
  have h : ((120 : Int32) * x + y).toInt = ((120 * man + i : Nat) : Int) := i_addN (i_mulN i_120 hx (by omega)) hy (by omega)
  exact ⟨i_in h (by omega), i_nat h⟩
theorem cx_inj {n c c' x x' : Nat} (hx : x < n) (hx' : x' < n) (h : c * n + x = c' * n + x') : c = c' ∧ x = x' := by
  have h1 : (c * n + x) / n = c := by rw [Nat.mul_comm, Nat.mul_add_div (by omega), Nat.div_eq_of_lt hx]; rfl
  have h2 : (c' * n + x') / n = c' := by rw [Nat.mul_comm, Nat.mul_add_div (by omega), Nat.div_eq_of_lt hx']; rfl
  rw [h] at h1
  have : c = c' := by omega
  subst this
  exact ⟨rfl, by omega⟩
theorem cx_bd {n c x K : Nat} (hn : n ≤ 5) (hK : K ≤ 3) (hc : c < n ^ K) (hx : x < n) : c * n + x < 625 := by
  have hp := pow_n3 hn hK
  have : (c + 1) * n ≤ 125 * 5 := Nat.mul_le_mul (by omega) hn
  rw [Nat.add_mul, Nat.one_mul] at this
  omega
theorem S_Men_tally {v1 v2 : Int32} {man K : Nat} {Q : Int32 → (Nat → Int32) → Prop} (h : CR k l f m rk rl rf rm rtc rwc rth rca) (hM : MenR l f rows lens tt len) (h1 : v1.toInt = (man : Int)) (hman : man < 4) (h2 : v2.toInt = (K : Int)) (hK : K ≤ 3) (hq : ∀ (cn' : Int32) (counts' : Nat → Int32), cn'.toInt = (cxt (gn l f) (tt man) K (len man) : Int) → TlC l f (tt man) K (len man) counts' → Q cn' counts') : P_Men_tally vv rl rtc cno rows lens counts v1 v2 Q := by
  have hn := gn_le h.1
  have hp := pow_n3 hn.2.1 hK
  have hp0 : 0 < gn l f ^ K := Nat.pow_pos (by omega)
  obtain ⟨hl, hl120, hrow⟩ := hM man hman
  refine T_Men_tally (R_Men_tally_0 (S_Men_contextCount h h2 hK fun r2 e2 x3 e3 => S_Ja_fill (by omega) fun c4 h4 => ?_))
  have e1 := h.tc
  have hx3 : x3.toInt = ((gn l f ^ K : Nat) : Int) := by rw [e3]; exact i_max1 e2 hp0
  have loop : ∀ (u i : Nat) (C : Nat → Int32) (v5 v6 : Int32), i + u = len man → v6.toInt = (i : Int) → v5.toInt = (cxt (gn l f) (tt man) K i : Int) → TlC l f (tt man) K i C → E_Men_tally_33 vv rl rtc cno rows lens C v1 v2 rtc x3 v5 v6 Q := by
    intro u
    induction u with
    | zero =>
      intro i C v5 v6 hu h6 h5 hC
      have : i = len man := by omega
      subst this
      exact R_Men_tally_33 ⟨i_in h1 hman, fun _ => R_Men_tally_106 (hq _ _ h5 hC), fun y => absurd (by rw [i_nat h1, i_le]; omega) y⟩
    | succ u ih =>
      intro i C v5 v6 hu h6 h5 hC
      obtain ⟨hr1, hr2⟩ := hrow i (by omega)
      have ii := ixm2 h1 h6 hman (by omega)
      have hcl := cxt_lt (n := gn l f) (by omega) (tt man) K i
      have hbd := cx_bd hn.2.1 hK hcl hr2
      refine R_Men_tally_33 ⟨i_in h1 hman, fun y => absurd y (by rw [i_nat h1, i_le]; omega), fun _ => ⟨ii.1, fun x5 e5 => ?_⟩⟩
      rw [ii.2] at e5
      have hx5 : x5.toInt = (tt man i : Int) := by
        rw [e5, i_subN hr1 h.2.2.1 (by omega)]
        omega
      have hidx : (v5 * rtc + x5).toInt = ((cxt (gn l f) (tt man) K i * gn l f + tt man i : Nat) : Int) := i_addN (i_mulN h5 e1 (by omega)) hx5 (by omega)
      have next : ∀ C' : Nat → Int32, TlC l f (tt man) K (i + 1) C' → E_Men_tally_88 vv rl rtc cno rows lens C' v1 v2 rtc x3 v5 v6 x5 Q := by
        intro C' hC'
        refine R_Men_tally_88 ⟨by rw [i_lit0 hx3]; omega, fun x6 e6 x7 e7 => ih (i + 1) C' x6 x7 (by omega) (by rw [e7]; exact i_suc h6 (by omega)) ?_ hC'⟩
        rw [e6, cxt_succ]
        exact i_remN hidx hx3 hp0
      refine ⟨fun y => next C ?_, fun y => ⟨i_in hidx hbd, i_in hidx hbd, ?_⟩⟩
      · rw [i_lt] at y
        intro c x hc hx
        rw [hC c x hc hx]
        simp only [cnt]
        rw [if_neg (by omega), Nat.add_zero]
      · rw [i_lt] at y
        rw [i_nat hidx]
        refine next _ fun c x hc hx => ?_
        have old := hC c x hc hx
        have hb : cnt (gn l f) (tt man) K c x i ≤ i := Nat.le_trans (cnt_le_plc ..) (plc_le ..)
        simp only [cnt]
        by_cases e : c = cxt (gn l f) (tt man) K i ∧ x = tt man i
        · rw [e.1, e.2, up_same, if_pos ⟨by omega, rfl, rfl⟩]
          rw [e.1, e.2] at old hb
          exact i_suc old (by omega)
        · rw [up_ne (fun z => e (cx_inj hx hr2 z)), if_neg (fun z => e ⟨z.2.1.symm, z.2.2.symm⟩), Nat.add_zero]
          exact old
  refine loop (len man) 0 c4 0 0 (by omega) i_0 ?_ fun c x hc hx => ?_
  · unfold cxt
    show _ = ((0 % _ : Nat) : Int)
    rw [Nat.zero_mod]
    exact i_0
  · rw [h4 _ (cx_bd hn.2.1 hK hc hx)]
    exact i_0
theorem S_Men_places {v1 : Int32} {t : Nat → Nat} {K c ln : Nat} {Q : Int32 → Prop} (h : CR k l f m rk rl rf rm rtc rwc rth rca) (hT : TlC l f t K ln counts) (ht : ∀ i, i < ln → t i < gn l f) (hln : ln ≤ 120) (hK : K ≤ 3) (h1 : v1.toInt = (c : Int)) (hc : c < gn l f ^ K) (hq : ∀ r : Int32, r.toInt = (plc (gn l f) t K c ln : Int) → Q r) : P_Men_places vv vv' rtc counts v1 Q := by
  have hn := gn_le h.1
  refine T_Men_places (R_Men_places_0 ?_)
  have e1 := h.tc
  have hb : ∀ x, sumN (fun x => cnt (gn l f) t K c x ln) x ≤ x * 120 := fun x => by
    induction x with
    | zero => simp [sumN]
    | succ x ih =>
      have : cnt (gn l f) t K c x ln ≤ ln := Nat.le_trans (cnt_le_plc ..) (plc_le ..)
      simp only [sumN]
      omega
  have loop : ∀ (u x : Nat) (v3 v4 : Int32), x + u = gn l f → v4.toInt = (x : Int) → v3.toInt = (sumN (fun x => cnt (gn l f) t K c x ln) x : Int) → E_Men_places_13 vv vv' rtc counts v1 rtc v3 v4 Q := by
    intro u
    induction u with
    | zero =>
      intro x v3 v4 hu h4 h3
      have : x = gn l f := by omega
      subst this
      refine R_Men_places_13 ⟨fun _ => R_Men_places_39 (hq _ (by rw [h3, cnt_sum ht])), fun y => absurd (by rw [i_le]; omega) y⟩
    | succ u ih =>
      intro x v3 v4 hu h4 h3
      have hbd := cx_bd hn.2.1 hK hc (show x < gn l f by omega)
      have hidx : (v1 * rtc + v4).toInt = ((c * gn l f + x : Nat) : Int) := i_addN (i_mulN h1 e1 (by omega)) h4 (by omega)
      refine R_Men_places_13 ⟨fun y => absurd y (by rw [i_le]; omega), fun _ => ⟨i_in hidx hbd, fun x2 e2 x3 e3 => ih (x + 1) x2 x3 (by omega) (by rw [e3]; exact i_suc h4 (by omega)) ?_⟩⟩
      have b1 := hb x
      have b2 : cnt (gn l f) t K c x ln ≤ ln := Nat.le_trans (cnt_le_plc ..) (plc_le ..)
      rw [e2, i_nat hidx]
      exact i_addN (b := cnt (gn l f) t K c x ln) h3 (hT c x hc (by omega)) (by omega)
  exact loop (gn l f) 0 0 0 (by omega) i_0 i_0
theorem S_Men_followed {v1 v2 : Int32} {t : Nat → Nat} {K c x ln : Nat} {Q : Int32 → Prop} (h : CR k l f m rk rl rf rm rtc rwc rth rca) (hT : TlC l f t K ln counts) (hK : K ≤ 3) (h1 : v1.toInt = (c : Int)) (hc : c < gn l f ^ K) (h2 : v2.toInt = ((l + x : Nat) : Int)) (hx : x < gn l f) (hq : ∀ r : Int32, r.toInt = (cnt (gn l f) t K c x ln : Int) → Q r) : P_Men_followed vv vv' rl rtc counts v1 v2 Q := by
  have hn := gn_le h.1
  have hl := h.1.2.1
  have hbd := cx_bd hn.2.1 hK hc hx
  refine T_Men_followed (R_Men_followed_0 ?_)
  have e1 := h.tc
  have hidx : (v1 * rtc + v2 - rl).toInt = ((c * gn l f + x : Nat) : Int) := by
    rw [i_subN (i_addN (i_mulN h1 e1 (by omega)) h2 (by omega)) h.2.2.1 (by omega)]
    omega
  refine ⟨i_in hidx hbd, hq _ ?_⟩
  rw [i_nat hidx]
  exact hT c x hc hx
theorem S_Men_triedBy {v1 : Int32} {man : Nat} {Q : Int32 → Int32 → (Nat → Int32) → Prop} (h : CR k l f m rk rl rf rm rtc rwc rth rca) (hM : MenR l f rows lens tt len) (h1 : v1.toInt = (man : Int)) (hman : man < 4) (hq : ∀ (r cn' : Int32) (counts' : Nat → Int32), r.toInt = (tri (gn l f) (tt man) (len man) : Int) → Q r cn' counts') : P_Men_triedBy vv rl rtc cno rows lens counts v1 Q := by
  have hn := gn_le h.1
  obtain ⟨hl, hl120, hrow⟩ := hM man hman
  have ht : ∀ i, i < len man → tt man i < gn l f := fun i hi => (hrow i hi).2
  have tb : ∀ K, K ≤ 3 → triK (gn l f) (tt man) K (len man) ≤ 125 := fun K hK => Nat.le_trans (triK_le ..) (pow_n3 hn.2.1 hK)
  have sb : ∀ K, K ≤ 4 → sumN (fun K => triK (gn l f) (tt man) K (len man)) K ≤ K * 125 := fun K => by
    induction K with
    | zero => intro _; simp [sumN]
    | succ K ih =>
      intro hK
      have h1 := ih (by omega)
      have h2 := tb K (by omega)
      simp only [sumN]
      omega
  have loop : ∀ (u K : Nat) (cn' : Int32) (C : Nat → Int32) (v2 v3 : Int32), K + u = 4 → v3.toInt = (K : Int) → v2.toInt = (sumN (fun K => triK (gn l f) (tt man) K (len man)) K : Int) → E_Men_triedBy_4 vv rl rtc cn' rows lens C v1 v2 v3 Q := by
    intro u
    induction u with
    | zero =>
      intro K cn' C v2 v3 hu h3 h2
      have hK : K = 4 := by omega
      subst hK
      have := sb 4 (by omega)
      refine R_Men_triedBy_4 ⟨fun _ => R_Men_triedBy_57 (hq _ _ _ ?_), fun y => absurd (by rw [i_lt, z_3]; omega) y⟩
      have hm : sumN (fun K => triK (gn l f) (tt man) K (len man)) 4 * gn l f ≤ 500 * 5 := Nat.mul_le_mul (by omega) hn.2.1
      exact i_mulN h2 h.tc (by omega)
    | succ u ih =>
      intro K cn' C v2 v3 hu h3 h2
      refine R_Men_triedBy_4 ⟨fun y => absurd y (by rw [i_lt, z_3]; omega), fun _ => S_Men_tally h hM h1 hman h3 (by omega) fun cn2 C2 g1 g2 => ?_⟩
      have s1 := sb K (by omega)
      have t1 := tb K (by omega)
      have inner : ∀ (u' c : Nat) (v2 v4 : Int32), c + u' = gn l f ^ K → v4.toInt = (c : Int) → v2.toInt = ((sumN (fun K => triK (gn l f) (tt man) K (len man)) K + cntB (fun c => decide (0 < plc (gn l f) (tt man) K c (len man))) c : Nat) : Int) → E_Men_triedBy_18 vv rl rtc cn2 rows lens C2 v1 v2 v3 v4 Q := by
        intro u'
        induction u' with
        | zero =>
          intro c v2 v4 hu' h4 h2
          have : c = gn l f ^ K := by omega
          subst this
          refine R_Men_triedBy_18 (S_Men_contextCount h h3 (by omega) fun r4 e4 => ⟨fun _ => R_Men_triedBy_51 fun x6 e6 => ih (K + 1) cn2 C2 v2 x6 (by omega) (by rw [e6]; exact i_suc h3 (by omega)) h2, fun y => absurd (by rw [i_le]; omega) y⟩)
        | succ u' ih' =>
          intro c v2 v4 hu' h4 h2
          have hcb := cntB_le (fun c => decide (0 < plc (gn l f) (tt man) K c (len man))) c
          have hp := pow_n3 hn.2.1 (k := K) (by omega)
          have next : ∀ (s1 : Int32) (b : Nat), s1.toInt = (b : Int) → b = (if decide (0 < plc (gn l f) (tt man) K c (len man)) = true then 1 else 0) → E_Men_triedBy_43 vv rl rtc cn2 rows lens C2 v1 v3 v4 v2 s1 Q := by
            intro s1 b hs1 hb
            have hb1 : b ≤ 1 := by rw [hb]; split <;> omega
            refine R_Men_triedBy_43 fun x7 e7 x8 e8 => ih' (c + 1) x7 x8 (by omega) (by rw [e8]; exact i_suc h4 (by omega)) ?_
            rw [e7, i_addN h2 hs1 (by omega), hb]
            simp only [cntB]
            rw [Nat.add_assoc]
          refine R_Men_triedBy_18 (S_Men_contextCount h h3 (by omega) fun r4 e4 => ⟨fun y => absurd y (by rw [i_le]; omega), fun _ => S_Men_places h g2 ht hl120 (by omega) h4 (by omega) fun r5 e5 => ⟨fun y => R_Men_triedBy_42 (next 0 0 i_0 ?_), fun y => next 1 1 i_1 ?_⟩⟩)
          · rw [i_le, e5, z_0] at y
            rw [if_neg (by simp; omega)]
          · rw [i_le, e5, z_0] at y
            rw [if_pos (decide_eq_true (by omega))]
      exact inner (gn l f ^ K) 0 v2 0 (by omega) i_0 (by rw [h2]; rfl)
  exact T_Men_triedBy (R_Men_triedBy_0 (loop 4 0 cno counts 0 0 (by omega) i_0 i_0))
end MENC
