/-! MEN: the public calls on both sides -/
theorem z_m3 : (-3 : Int32).toInt = -3 := by decide
theorem z_m4 : (-4 : Int32).toInt = -4 := by decide
abbrev okMan (v : Int) : Prop := 0 ≤ v ∧ v ≤ 3
abbrev okThr (l f : Nat) (v : Int) : Prop := (l : Int) ≤ v ∧ v ≤ (f : Int)
def putT (tt : Nat → Nat → Nat) (man i x : Nat) : Nat → Nat → Nat := fun a b => if a = man ∧ b = i then x else tt a b
theorem MenR.add {l f : Nat} {rows lens : Nat → Int32} {tt : Nat → Nat → Nat} {len : Nat → Nat} {man x : Nat} {v w : Int32} (h : MenR l f rows lens tt len) (hl : len man < 120) (hv : v.toInt = ((l + x : Nat) : Int)) (hx : x < gn l f) (hw : w.toInt = ((len man + 1 : Nat) : Int)) : MenR l f (up rows (120 * man + len man) v) (up lens man w) (putT tt man (len man) x) (up len man (len man + 1)) := by
  intro a ha
  obtain ⟨h1, h2, h3⟩ := h a ha
  by_cases e : a = man
  · subst e
    rw [up_same, up_same]
    refine ⟨hw, by omega, fun i hi => ?_⟩
    unfold putT
    by_cases ei : i = len a
    · rw [ei, up_same, if_pos ⟨rfl, rfl⟩]
      exact ⟨hv, hx⟩
    · rw [up_ne (by omega), if_neg (fun z => ei z.2)]
      exact h3 i (by omega)
  · rw [up_ne e, up_ne e]
    refine ⟨h1, h2, fun i hi => ?_⟩
    unfold putT
    rw [up_ne (by omega), if_neg (fun z => e z.1)]
    exact h3 i hi
theorem MenR.clear {l f : Nat} {rows lens : Nat → Int32} {tt : Nat → Nat → Nat} {len : Nat → Nat} {man : Nat} (h : MenR l f rows lens tt len) : MenR l f rows (up lens man 0) tt (up len man 0) := by
  intro a ha
  obtain ⟨h1, h2, h3⟩ := h a ha
  by_cases e : a = man
  · subst e
    rw [up_same, up_same]
    exact ⟨i_0, by omega, fun i hi => by omega⟩
  · rw [up_ne e, up_ne e]
    exact ⟨h1, h2, h3⟩
theorem MenR.none {l f : Nat} {rows lens : Nat → Int32} {tt : Nat → Nat → Nat} (h : ∀ i, i < 4 → lens i = 0) : MenR l f rows lens tt (fun _ => 0) := fun a ha => ⟨by rw [h a ha]; exact i_0, Nat.zero_le _, fun i hi => absurd hi (Nat.not_lt_zero _)⟩
section MENP
variable {vv vv' vv2 : Nat → Value} {k l f m : Nat} {rk rl rf rm rtc rwc : Int32} {rth rca : Nat → Int32} {vvr : Nat → Value} {mk ml mh mm mn mo mf xo : Int32} {rows lens counts codes : Nat → Int32} {cno : Int32} {tt : Nat → Nat → Nat} {len : Nat → Nat}
  {fl ll gl wk : Nat → Int32} {tp un : Nat → Int64} {V : Nat → Int}
  {sn pn tn qn : Int32} {sd pd td qd : Nat → Int32}
  {sg an bn cn en : Int32} {ad bd cd ed : Nat → Int32}
theorem S_F_flung {v1 v2 : Int32} {Q : Int32 → (Nat → Int32) → (Nat → Int32) → Prop} (h : CR k l f m rk rl rf rm rtc rwc rth rca) (hM : MenR l f rows lens tt len) (hq0 : ¬ (okMan v1.toInt ∧ okThr l f v2.toInt) → Q (-2) rows lens) (hqF : (okMan v1.toInt ∧ okThr l f v2.toInt) → len v1.toInt.toNat = 120 → Q (-4) rows lens) (hq : (okMan v1.toInt ∧ okThr l f v2.toInt) → len v1.toInt.toNat < 120 → ∀ (r : Int32) rows' lens', r.toInt = ((len v1.toInt.toNat + 1 : Nat) : Int) → MenR l f rows' lens' (putT tt v1.toInt.toNat (len v1.toInt.toNat) (v2.toInt.toNat - l)) (up len v1.toInt.toNat (len v1.toInt.toNat + 1)) → Q r rows' lens') : P_F_flung vv vv' vv2 rl rf rows lens v1 v2 Q := by
  have hn := gn_le h.1
  refine T_F_flung (R_F_flung_0 (S_Men_isMan fun r1 h1 => ⟨fun e => R_F_flung_18 (hq0 fun z => ?_), fun e => S_Rule_isThrow h fun r2 h2 => ⟨fun e2 => R_F_flung_21 ?_, fun e2 => R_F_flung_18 (hq0 fun z => ?_)⟩⟩))
  · rw [bz h1] at e; exact e z.1
  · rw [bz h1] at e
    rw [bz h2] at e2
    have e' := Classical.not_not.mp e
    have e2' := Classical.not_not.mp e2
    have hv1 : v1.toInt = (v1.toInt.toNat : Int) := by omega
    have hm4 : v1.toInt.toNat < 4 := by omega
    obtain ⟨hl, hl120, -⟩ := hM v1.toInt.toNat hm4
    have z120 : (120 : Int32).toInt = 120 := by decide
    refine T_Men_add (R_Men_add_0 ⟨i_in hv1 hm4, fun x1 e1 => ?_⟩)
    rw [i_nat hv1] at e1
    have hx1 : x1.toInt = (len v1.toInt.toNat : Int) := by rw [e1]; exact hl
    refine ⟨fun y => R_Men_add_16 ?_, fun y => hqF ⟨e', e2'⟩ ?_⟩
    · rw [i_lt, hx1, z120] at y
      have ii := ixm2 hv1 hx1 hm4 (by omega)
      have hr := i_suc hx1 (by omega)
      refine ⟨ii.1, i_in hv1 hm4, ?_⟩
      rw [ii.2, i_nat hv1]
      exact hq ⟨e', e2'⟩ (by omega) _ _ _ hr (hM.add (by omega) (by omega) (by omega) hr)
    · rw [i_lt, hx1, z120] at y
      omega
  · rw [bz h2] at e2; exact e2 z.2
theorem S_Mo_flung {v1 v2 : Int32} {Q : Int32 → (Nat → Int32) → (Nat → Int32) → Prop} (h : MRu k l f m mk ml mm mn) (hh : mh.toInt = (f : Int)) (hM : MenR l f rows lens tt len) (hq0 : ¬ (okMan v1.toInt ∧ okThr l f v2.toInt) → Q (-2) lens rows) (hqF : (okMan v1.toInt ∧ okThr l f v2.toInt) → len v1.toInt.toNat = 120 → Q (-4) lens rows) (hq : (okMan v1.toInt ∧ okThr l f v2.toInt) → len v1.toInt.toNat < 120 → ∀ (r : Int32) rows' lens', r.toInt = ((len v1.toInt.toNat + 1 : Nat) : Int) → MenR l f rows' lens' (putT tt v1.toInt.toNat (len v1.toInt.toNat) (v2.toInt.toNat - l)) (up len v1.toInt.toNat (len v1.toInt.toNat + 1)) → Q r lens' rows') : P_Mo_flung vv ml mh lens rows v1 v2 Q := by
  have hn := gn_le h.1
  refine T_Mo_flung (R_Mo_flung_0 (S_Mo_isMan fun r1 h1 => ⟨fun e => R_Mo_flung_15 (hq0 fun z => ?_), fun e => S_Mo_isThrow h hh fun r2 h2 => R_Mo_flung_12 ⟨fun e2 => R_Mo_flung_18 ?_, fun e2 => R_Mo_flung_15 (hq0 fun z => ?_)⟩⟩))
  · rw [bz h1] at e; exact e z.1
  · rw [bz h1] at e
    rw [bz h2] at e2
    have e' := Classical.not_not.mp e
    have e2' := Classical.not_not.mp e2
    have hv1 : v1.toInt = (v1.toInt.toNat : Int) := by omega
    have hm4 : v1.toInt.toNat < 4 := by omega
    obtain ⟨hl, hl120, -⟩ := hM v1.toInt.toNat hm4
    have z120 : (120 : Int32).toInt = 120 := by decide
    refine ⟨i_in hv1 hm4, fun y => R_Mo_flung_32 ?_, fun y => hqF ⟨e', e2'⟩ ?_⟩
    · rw [i_nat hv1, i_eq, hl, z120] at y
      rw [i_nat hv1]
      have ii := ixm3 hv1 hl hm4 (by omega)
      have hr := i_suc hl (by omega)
      refine ⟨i_in hv1 hm4, ii.1, i_in hv1 hm4, i_in hv1 hm4, i_in hv1 hm4, ?_⟩
      rw [ii.2, up_same]
      exact hq ⟨e', e2'⟩ (by omega) _ _ _ hr (hM.add (by omega) (by omega) (by omega) hr)
    · rw [i_nat hv1, i_eq, hl, z120] at y
      omega
  · rw [bz h2] at e2; exact e2 z.2
theorem S_F_forget {v1 : Int32} {Q : Int32 → (Nat → Int32) → Prop} (hM : MenR l f rows lens tt len) (hq0 : ¬ okMan v1.toInt → Q (-2) lens) (hq : okMan v1.toInt → ∀ (r : Int32) lens', r.toInt = (len v1.toInt.toNat : Int) → MenR l f rows lens' tt (up len v1.toInt.toNat 0) → Q r lens') : P_F_forget vv vv' lens v1 Q := by
  refine T_F_forget (R_F_forget_0 (S_Men_isMan fun r1 h1 => ⟨fun e => R_F_forget_18 (R_F_forget_20 (hq0 ?_)), fun e => ?_⟩))
  · rw [bz h1] at e; exact e
  · rw [bz h1] at e
    have e' := Classical.not_not.mp e
    have hv1 : v1.toInt = (v1.toInt.toNat : Int) := by omega
    have hm4 : v1.toInt.toNat < 4 := by omega
    refine T_Men_clear (R_Men_clear_0 ⟨i_in hv1 hm4, fun x1 e1 => ⟨i_in hv1 hm4, R_F_forget_20 ?_⟩⟩)
    rw [i_nat hv1] at e1 ⊢
    exact hq e' _ _ (by rw [e1]; exact (hM _ hm4).1) hM.clear
theorem S_Mo_forget {v1 : Int32} {Q : Int32 → (Nat → Int32) → Prop} (hM : MenR l f rows lens tt len) (hq0 : ¬ okMan v1.toInt → Q (-2) lens) (hq : okMan v1.toInt → ∀ (r : Int32) lens', r.toInt = (len v1.toInt.toNat : Int) → MenR l f rows lens' tt (up len v1.toInt.toNat 0) → Q r lens') : P_Mo_forget vv lens v1 Q := by
  refine T_Mo_forget (R_Mo_forget_0 (S_Mo_isMan fun r1 h1 => ⟨fun e => R_Mo_forget_10 ?_, fun e => hq0 ?_⟩))
  · rw [bz h1] at e
    have e' := Classical.not_not.mp e
    have hv1 : v1.toInt = (v1.toInt.toNat : Int) := by omega
    have hm4 : v1.toInt.toNat < 4 := by omega
    refine ⟨i_in hv1 hm4, fun x1 e1 => ⟨i_in hv1 hm4, ?_⟩⟩
    rw [i_nat hv1] at e1 ⊢
    exact hq e' _ _ (by rw [e1]; exact (hM _ hm4).1) hM.clear
  · rw [bz h1] at e; exact e
theorem S_F_odds {v1 : Int32} {Q : Int32 → Int32 → Prop} (hq0 : ¬ (1 ≤ v1.toInt ∧ v1.toInt ≤ 100000) → Q (-2) xo) (hq : (1 ≤ v1.toInt ∧ v1.toInt ≤ 100000) → Q xo v1) : P_F_odds xo v1 Q := by
  have z1e5 : (100000 : Int32).toInt = 100000 := by decide
  refine T_F_odds (R_F_odds_0 (S_F_isWithin fun r1 h1 => ?_))
  rw [z_1, z1e5] at h1
  refine ⟨fun e => R_F_odds_13 (hq ?_), fun e => hq0 ?_⟩
  · rw [bz h1] at e; exact Classical.not_not.mp e
  · rw [bz h1] at e; exact e
theorem S_Mo_odds {v1 : Int32} {Q : Int32 → Int32 → Prop} (hq0 : ¬ (1 ≤ v1.toInt ∧ v1.toInt ≤ 100000) → Q (-2) mo) (hq : (1 ≤ v1.toInt ∧ v1.toInt ≤ 100000) → Q mo v1) : P_Mo_odds vv mo v1 Q := by
  have z1e5 : (100000 : Int64).toInt = 100000 := by decide
  refine T_Mo_odds (R_Mo_odds_0 (S_Mo_in32 zL1 z1e5 fun r1 h1 => ⟨fun e => R_Mo_odds_15 (hq ?_), fun e => hq0 ?_⟩))
  · rw [bz h1] at e; exact Classical.not_not.mp e
  · rw [bz h1] at e; exact e
abbrev okCtx (l f : Nat) (a b c : Int) : Prop := (0 ≤ a ∧ a ≤ 3) ∧ (0 ≤ b ∧ b ≤ 3) ∧ (0 ≤ c ∧ c < ((gn l f ^ b.toNat : Nat) : Int))
theorem S_Men_isPlace {v1 v2 v3 : Int32} {Q : Int32 → Prop} (h : CR k l f m rk rl rf rm rtc rwc rth rca) (hq : ∀ r : Int32, (r = 1 ∧ okCtx l f v1.toInt v2.toInt v3.toInt) ∨ (r = 0 ∧ ¬ okCtx l f v1.toInt v2.toInt v3.toInt) → Q r) : P_Men_isPlace vv vv' rtc v1 v2 v3 Q := by
  have hn := gn_le h.1
  have no : ¬ okCtx l f v1.toInt v2.toInt v3.toInt → E_Men_isPlace_35 vv vv' rtc Q := fun e => R_Men_isPlace_35 (R_Men_isPlace_36 ⟨rb0, hq _ (Or.inr ⟨rfl, e⟩)⟩)
  refine T_Men_isPlace (R_Men_isPlace_0 (S_Men_isMan fun r1 h1 => ⟨fun e => no fun z => ?_, fun e => S_F_isWithin fun r2 h2 => ⟨fun e2 => no fun z => ?_, fun e2 => ?_⟩⟩))
  · rw [bz h1] at e; exact e z.1
  · rw [z_0, z_3] at h2
    rw [bz h2] at e2; exact e2 z.2.1
  · rw [z_0, z_3] at h2
    rw [bz h1] at e
    rw [bz h2] at e2
    have e' := Classical.not_not.mp e
    have e2' := Classical.not_not.mp e2
    have hp := pow_n3 hn.2.1 (k := v2.toInt.toNat) (by omega)
    have hp0 : 0 < gn l f ^ v2.toInt.toNat := Nat.pow_pos (by omega)
    refine S_Men_contextCount (K := v2.toInt.toNat) h (by omega) (by omega) fun r3 e3 => S_F_isWithin fun r4 h4 => R_Men_isPlace_28 ?_
    rw [z_0, i_subN e3 i_1 (by omega)] at h4
    refine ⟨fun e5 => no fun z => ?_, fun e5 => R_Men_isPlace_36 ⟨rb1, hq _ (Or.inl ⟨rfl, e', e2', ?_⟩)⟩⟩
    · rw [bz h4] at e5; omega
    · rw [bz h4] at e5; omega
def comZ (l f : Nat) (tt : Nat → Nat → Nat) (len : Nat → Nat) (a b c e : Int) : Int := if okCtx l f a b c ∧ (e = -1 ∨ okThr l f e) then (if e = -1 then (plc (gn l f) (tt a.toNat) b.toNat c.toNat (len a.toNat) : Int) else (cnt (gn l f) (tt a.toNat) b.toNat c.toNat (e.toNat - l) (len a.toNat) : Int)) else -2
theorem S_F_comes {v1 v2 v3 v4 : Int32} {Q : Int32 → Int32 → (Nat → Int32) → Prop} (h : CR k l f m rk rl rf rm rtc rwc rth rca) (hM : MenR l f rows lens tt len) (hq : ∀ (r cn' : Int32) counts', r.toInt = comZ l f tt len v1.toInt v2.toInt v3.toInt v4.toInt → Q r cn' counts') : P_F_comes vv vv' rl rf rtc cno rows lens counts v1 v2 v3 v4 Q := by
  have hn := gn_le h.1
  unfold comZ at hq
  have bad : ¬ (okCtx l f v1.toInt v2.toInt v3.toInt ∧ (v4.toInt = -1 ∨ okThr l f v4.toInt)) → E_F_comes_31 vv vv' rl rf rtc cno rows lens counts Q := fun e => R_F_comes_31 (hq _ _ _ (by rw [if_neg e, z_m2]))
  have good : (okCtx l f v1.toInt v2.toInt v3.toInt ∧ (v4.toInt = -1 ∨ okThr l f v4.toInt)) → E_F_comes_34 vv vv' rl rf rtc cno rows lens counts v1 v2 v3 v4 Q := by
    intro e
    rw [if_pos e] at hq
    obtain ⟨⟨c1, c2, c3⟩, c4⟩ := e
    have hm4 : v1.toInt.toNat < 4 := by omega
    obtain ⟨hl, hl120, hrow⟩ := hM v1.toInt.toNat hm4
    refine R_F_comes_34 (S_Men_tally (man := v1.toInt.toNat) (K := v2.toInt.toNat) h hM (by omega) hm4 (by omega) (by omega) fun cn' C g1 g2 => ⟨fun y => R_F_comes_60 (S_Men_followed (c := v3.toInt.toNat) (x := v4.toInt.toNat - l) h g2 (by omega) (by omega) (by omega) ?_ ?_ fun r6 e6 => R_F_comes_70 (hq _ _ _ ?_)), fun y => S_Men_places (c := v3.toInt.toNat) h g2 (fun i hi => (hrow i hi).2) hl120 (by omega) (by omega) (by omega) fun r5 e5 => R_F_comes_70 (hq _ _ _ ?_)⟩)
    · rw [i_eq, z_m1] at y; omega
    · rw [i_eq, z_m1] at y; omega
    · rw [i_eq, z_m1] at y
      rw [if_neg y, e6]
    · rw [i_eq, z_m1] at y
      rw [if_pos y, e5]
  refine T_F_comes (R_F_comes_0 (S_Men_isPlace h fun r1 h1 => ⟨fun e => bad fun z => ?_, fun e => ⟨fun e2 => good ⟨?_, Or.inl ?_⟩, fun e2 => S_Rule_isThrow h fun r2 h2 => ⟨fun e3 => good ⟨?_, Or.inr ?_⟩, fun e3 => bad fun z => ?_⟩⟩⟩))
  · rw [bz h1] at e; exact e z.1
  · rw [bz h1] at e; exact Classical.not_not.mp e
  · rw [i_eq, z_m1] at e2; exact e2
  · rw [bz h1] at e; exact Classical.not_not.mp e
  · rw [bz h2] at e3; exact Classical.not_not.mp e3
  · rw [bz h2] at e3
    rw [i_eq, z_m1] at e2
    exact z.2.elim e2 e3
theorem S_Mo_comes {v1 v2 v3 v4 : Int32} {Q : Int32 → (Nat → Int32) → Prop} (h : MRu k l f m mk ml mm mn) (hh : mh.toInt = (f : Int)) (hM : MenR l f rows lens tt len) (hq : ∀ (r : Int32) counts', r.toInt = comZ l f tt len v1.toInt v2.toInt v3.toInt v4.toInt → Q r counts') : P_Mo_comes vv ml mh mn lens rows counts v1 v2 v3 v4 Q := by
  have hn := gn_le h.1
  unfold comZ at hq
  have bad : ¬ (okCtx l f v1.toInt v2.toInt v3.toInt ∧ (v4.toInt = -1 ∨ okThr l f v4.toInt)) → E_Mo_comes_25 vv ml mh mn lens rows counts Q := fun e => R_Mo_comes_25 (hq _ _ (by rw [if_neg e, z_m2]))
  have good : (okCtx l f v1.toInt v2.toInt v3.toInt ∧ (v4.toInt = -1 ∨ okThr l f v4.toInt)) → E_Mo_comes_28 vv ml mh mn lens rows counts v1 v2 v3 v4 Q := by
    intro e
    rw [if_pos e] at hq
    obtain ⟨⟨c1, c2, c3⟩, c4⟩ := e
    have hm4 : v1.toInt.toNat < 4 := by omega
    refine R_Mo_comes_28 (S_Mo_countBehind (man := v1.toInt.toNat) (K := v2.toInt.toNat) (c := v3.toInt.toNat) h hM (by omega) hm4 (by omega) (by omega) (by omega) fun r3 C e3 g2 => ⟨fun y => R_Mo_comes_48 ?_, fun y => R_Mo_comes_60 (hq _ _ ?_)⟩)
    · rw [i_eq, z_m1] at y
      have hidx : (v4 - ml).toInt = ((v4.toInt.toNat - l : Nat) : Int) := i_subN (by omega) h.2.2.1 (by omega)
      refine ⟨i_in hidx (by omega), R_Mo_comes_60 (hq _ _ ?_)⟩
      rw [i_nat hidx, if_neg y]
      exact g2 _ (by omega)
    · rw [i_eq, z_m1] at y
      rw [if_pos y, e3]
  refine T_Mo_comes (R_Mo_comes_0 (S_Mo_isContext h fun r1 h1 => ⟨fun e => bad fun z => ?_, fun e => ⟨fun e2 => good ⟨?_, Or.inl ?_⟩, fun e2 => S_Mo_isThrow h hh fun r2 h2 => R_Mo_comes_22 ⟨fun e3 => good ⟨?_, Or.inr ?_⟩, fun e3 => bad fun z => ?_⟩⟩⟩))
  · rw [bz h1] at e; exact e z.1
  · rw [bz h1] at e; exact Classical.not_not.mp e
  · rw [i_eq, z_m1] at e2; exact e2
  · rw [bz h1] at e; exact Classical.not_not.mp e
  · rw [bz h2] at e3; exact Classical.not_not.mp e3
  · rw [bz h2] at e3
    rw [i_eq, z_m1] at e2
    exact z.2.elim e2 e3
def triZ (l f : Nat) (tt : Nat → Nat → Nat) (len : Nat → Nat) (a : Int) : Int := if okMan a then (tri (gn l f) (tt a.toNat) (len a.toNat) : Int) else -2
theorem S_F_tried {v1 : Int32} {Q : Int32 → Int32 → (Nat → Int32) → Prop} (h : CR k l f m rk rl rf rm rtc rwc rth rca) (hM : MenR l f rows lens tt len) (hq : ∀ (r cn' : Int32) counts', r.toInt = triZ l f tt len v1.toInt → Q r cn' counts') : P_F_tried vv vv' rl rtc cno rows lens counts v1 Q := by
  unfold triZ at hq
  refine T_F_tried (R_F_tried_0 (S_Men_isMan fun r1 h1 => ⟨fun e => R_F_tried_18 (R_F_tried_20 (hq _ _ _ ?_)), fun e => ?_⟩))
  · rw [bz h1] at e; rw [if_neg e, z_m2]
  · rw [bz h1] at e
    have e' := Classical.not_not.mp e
    rw [if_pos e'] at hq
    exact S_Men_triedBy (man := v1.toInt.toNat) h hM (by omega) (by omega) fun r2 cn' C e2 => R_F_tried_20 (hq _ _ _ e2)
theorem S_Mo_tried {v1 : Int32} {Q : Int32 → Prop} (h : MRu k l f m mk ml mm mn) (hM : MenR l f rows lens tt len) (hq : ∀ r : Int32, r.toInt = triZ l f tt len v1.toInt → Q r) : P_Mo_tried vv ml mn lens rows v1 Q := by
  unfold triZ at hq
  refine T_Mo_tried (R_Mo_tried_0 (S_Mo_isMan fun r1 h1 => ⟨fun e => R_Mo_tried_15 (R_Mo_tried_17 (hq _ ?_)), fun e => ?_⟩))
  · rw [bz h1] at e; rw [if_neg e, z_m2]
  · rw [bz h1] at e
    have e' := Classical.not_not.mp e
    rw [if_pos e'] at hq
    exact S_Mo_triedOf (man := v1.toInt.toNat) h hM (by omega) (by omega) fun r2 e2 => R_Mo_tried_17 (hq _ e2)
end MENP
