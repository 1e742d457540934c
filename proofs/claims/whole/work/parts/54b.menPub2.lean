/-! MEN: tail, told, toldAt, foreseen, foreseenAt -/
section MENP2
variable {vv vv' vv2 : Nat → Value} {k l f m : Nat} {rk rl rf rm rtc rwc : Int32} {rth rca : Nat → Int32} {vvr : Nat → Value} {mk ml mh mm mn mo mf xo : Int32} {rows lens counts codes : Nat → Int32} {cno : Int32} {tt : Nat → Nat → Nat} {len : Nat → Nat}
  {fl ll gl wk : Nat → Int32} {tp un : Nat → Int64} {V : Nat → Int}
  {sn pn tn qn : Int32} {sd pd td qd : Nat → Int32}
  {sg an bn cn en : Int32} {ad bd cd ed : Nat → Int32} {odds : Nat}
abbrev okTl (l f : Nat) (a b c e : Int) : Prop := okCtx l f a b c ∧ okThr l f e
def tlM (l f : Nat) (tt : Nat → Nat → Nat) (len : Nat → Nat) (a b c : Int) : Nat := plc (gn l f) (tt a.toNat) b.toNat c.toNat (len a.toNat)
def tlC (l f : Nat) (tt : Nat → Nat → Nat) (len : Nat → Nat) (a b c e : Int) : Nat := cnt (gn l f) (tt a.toNat) b.toNat c.toNat (e.toNat - l) (len a.toNat)
theorem S_F_tail {v1 v2 v3 v4 : Int32} {Q : Int32 → Int32 → Int32 → (Nat → Int32) → Int32 → (Nat → Int32) → Int32 → (Nat → Int32) → Int32 → (Nat → Int32) → Int32 → (Nat → Int32) → Int32 → (Nat → Int32) → Int32 → (Nat → Int32) → Int32 → (Nat → Int32) → Int32 → (Nat → Int32) → Prop} (h : CR k l f m rk rl rf rm rtc rwc rth rca) (hM : MenR l f rows lens tt len) (h2 : xo.toInt = (odds : Int)) (ho : 1 ≤ odds ∧ odds ≤ 100000) (hq0 : ¬ okTl l f v1.toInt v2.toInt v3.toInt v4.toInt → Q (-2) sg an ad bn bd cn cd en ed cno counts sn sd pn pd tn td qn qd) (hqN : okTl l f v1.toInt v2.toInt v3.toInt v4.toInt → tlM l f tt len v1.toInt v2.toInt v3.toInt = 0 → ∀ cno' counts', Q (-3) sg an ad bn bd cn cd en ed cno' counts' sn sd pn pd tn td qn qd) (hq : okTl l f v1.toInt v2.toInt v3.toInt v4.toInt → 0 < tlM l f tt len v1.toInt v2.toInt v3.toInt → ∀ (r : Int32) sg' an' ad' bn' bd' cn' cd' en' ed' cno' counts' sn' sd' pn' pd' tn' td' qn' qd', r.toInt = (if toldB (gn l f) (tlM l f tt len v1.toInt v2.toInt v3.toInt) (tlC l f tt len v1.toInt v2.toInt v3.toInt v4.toInt) (tri (gn l f) (tt v1.toInt.toNat) (len v1.toInt.toNat) * odds) = true then 1 else 0) → FS sg' an' ad' bn' bd' (wgt 1 (gn l f - 1) (tlM l f tt len v1.toInt v2.toInt v3.toInt) (tlC l f tt len v1.toInt v2.toInt v3.toInt v4.toInt)) (gn l f ^ tlM l f tt len v1.toInt v2.toInt v3.toInt) → Q r sg' an' ad' bn' bd' cn' cd' en' ed' cno' counts' sn' sd' pn' pd' tn' td' qn' qd') : P_F_tail vv xo rl rf rtc sg an ad bn bd cn cd en ed cno rows lens counts sn sd pn pd tn td qn qd v1 v2 v3 v4 Q := by
  have hn := gn_le h.1
  refine T_F_tail (R_F_tail_0 (S_Men_isPlace h fun r1 h1 => ⟨fun e => R_F_tail_25 (hq0 fun z => ?_), fun e => S_Rule_isThrow h fun r2 h2' => ⟨fun e2 => R_F_tail_28 ?_, fun e2 => R_F_tail_25 (hq0 fun z => ?_)⟩⟩))
  · rw [bz h1] at e; exact e z.1
  · rw [bz h1] at e
    rw [bz h2'] at e2
    have e' := Classical.not_not.mp e
    have e2' := Classical.not_not.mp e2
    have hok : okTl l f v1.toInt v2.toInt v3.toInt v4.toInt := ⟨e', e2'⟩
    obtain ⟨c1, c2, c3⟩ := e'
    have hm4 : v1.toInt.toNat < 4 := by omega
    obtain ⟨hl, hl120, hrow⟩ := hM v1.toInt.toNat hm4
    have htn : ∀ i, i < len v1.toInt.toNat → tt v1.toInt.toNat i < gn l f := fun i hi => (hrow i hi).2
    have tb := times_bd hn.2.1 (tt v1.toInt.toNat) (len v1.toInt.toNat) ho.2
    refine S_Men_triedBy (man := v1.toInt.toNat) h hM (by omega) hm4 fun r3 c4 c5 e3 x6 e6 => S_Men_tally (man := v1.toInt.toNat) (K := v2.toInt.toNat) h hM (by omega) hm4 (by omega) (by omega) fun c7 c8 g1 g2 => S_Men_places (c := v3.toInt.toNat) h g2 htn hl120 (by omega) (by omega) (by omega) fun r9 e9 => ⟨fun y => R_F_tail_66 ?_, fun y => hqN hok ?_ _ _⟩
    · rw [i_lit0 e9] at y
      have hx6 : x6.toInt = ((tri (gn l f) (tt v1.toInt.toNat) (len v1.toInt.toNat) * odds : Nat) : Int) := by rw [e6]; exact i_mulN e3 h2 (by omega)
      have ht2 := times_2 hn.1 (t := tt v1.toInt.toNat) (ln := len v1.toInt.toNat) ho.1 (show v2.toInt.toNat ≤ 3 by omega) (show v3.toInt.toNat < gn l f ^ v2.toInt.toNat by omega) (by omega)
      have hpl := plc_le (gn l f) (tt v1.toInt.toNat) v2.toInt.toNat v3.toInt.toNat (len v1.toInt.toNat)
      have hpw := p5_120 (n := gn l f) (m := plc (gn l f) (tt v1.toInt.toNat) v2.toInt.toNat v3.toInt.toNat (len v1.toInt.toNat)) hn.2.1 (by omega)
      have hwb := wgt_bd (n := gn l f) (m := plc (gn l f) (tt v1.toInt.toNat) v2.toInt.toNat v3.toInt.toNat (len v1.toInt.toNat)) (a := cnt (gn l f) (tt v1.toInt.toNat) v2.toInt.toNat v3.toInt.toNat (v4.toInt.toNat - l) (len v1.toInt.toNat)) (by omega)
      have h15 : 5 ^ 120 < BB ^ 15 := by decide
      have hpos : 0 < gn l f ^ plc (gn l f) (tt v1.toInt.toNat) v2.toInt.toNat v3.toInt.toNat (len v1.toInt.toNat) := Nat.pow_pos (by omega)
      refine S_Men_isRareW (K := v2.toInt.toNat) (c := v3.toInt.toNat) (x := v4.toInt.toNat - l) h g2 htn hl120 (by omega) (by omega) (by omega) (by omega) (by omega) hx6 (by omega) (by omega) fun r10 sn' sd' pn' pd' tn' td' qn' qd' hr hb1 hb2 => S_Frac_reduce (p := ((wgt 1 (gn l f - 1) (plc (gn l f) (tt v1.toInt.toNat) v2.toInt.toNat v3.toInt.toNat (len v1.toInt.toNat)) (cnt (gn l f) (tt v1.toInt.toNat) v2.toInt.toNat v3.toInt.toNat (v4.toInt.toNat - l) (len v1.toInt.toNat)) : Nat) : Int)) (by rw [Int.natAbs_natCast]; exact hb1) hb2 hpos (fun z => by rw [z_1, Int.sign_eq_one_of_pos (by omega)]) (by rw [Int.natAbs_natCast]; omega) (by omega) fun sg' an' ad' bn' bd' cn' cd' en' ed' hF => ⟨fun y2 => R_F_tail_118 (R_F_tail_119 (hq hok ?_ _ _ _ _ _ _ _ _ _ _ _ _ _ _ _ _ _ _ _ _ ?_ hF)), fun y2 => R_F_tail_119 (hq hok ?_ _ _ _ _ _ _ _ _ _ _ _ _ _ _ _ _ _ _ _ _ ?_ hF)⟩
      · unfold tlM; omega
      · have := hr.mp y2
        unfold tlM tlC
        rw [this]
        exact z_0
      · unfold tlM; omega
      · have ht : toldB (gn l f) (plc (gn l f) (tt v1.toInt.toNat) v2.toInt.toNat v3.toInt.toNat (len v1.toInt.toNat)) (cnt (gn l f) (tt v1.toInt.toNat) v2.toInt.toNat v3.toInt.toNat (v4.toInt.toNat - l) (len v1.toInt.toNat)) (tri (gn l f) (tt v1.toInt.toNat) (len v1.toInt.toNat) * odds) = true := by
          cases e' : toldB (gn l f) (plc (gn l f) (tt v1.toInt.toNat) v2.toInt.toNat v3.toInt.toNat (len v1.toInt.toNat)) (cnt (gn l f) (tt v1.toInt.toNat) v2.toInt.toNat v3.toInt.toNat (v4.toInt.toNat - l) (len v1.toInt.toNat)) (tri (gn l f) (tt v1.toInt.toNat) (len v1.toInt.toNat) * odds) with
          | true => rfl
          | false => exact absurd (hr.mpr e') y2
        unfold tlM tlC
        rw [if_pos ht]
        exact z_1
    · rw [i_lit0 e9] at y
      exact y
  · rw [bz h2'] at e2; exact e2 z.2
theorem S_Mo_tail {v1 v2 v3 v4 : Int32} {Q : Int32 → (Nat → Int32) → (Nat → Int32) → (Nat → Int32) → (Nat → Int32) → (Nat → Int64) → (Nat → Int64) → (Nat → Int32) → Prop} (h : MRu k l f m mk ml mm mn) (hh : mh.toInt = (f : Int)) (hM : MenR l f rows lens tt len) (hR : MR fl ll gl V) (h2 : mo.toInt = (odds : Int)) (ho : 1 ≤ odds ∧ odds ≤ 100000) (hq0 : ¬ okTl l f v1.toInt v2.toInt v3.toInt v4.toInt → Q (-2) fl ll gl wk tp un counts) (hqN : okTl l f v1.toInt v2.toInt v3.toInt v4.toInt → tlM l f tt len v1.toInt v2.toInt v3.toInt = 0 → ∀ counts', Q (-3) fl ll gl wk tp un counts') (hq : okTl l f v1.toInt v2.toInt v3.toInt v4.toInt → 0 < tlM l f tt len v1.toInt v2.toInt v3.toInt → ∀ (r : Int32) fl' ll' gl' wk' tp' un' counts' V', r.toInt = (if toldB (gn l f) (tlM l f tt len v1.toInt v2.toInt v3.toInt) (tlC l f tt len v1.toInt v2.toInt v3.toInt v4.toInt) (tri (gn l f) (tt v1.toInt.toNat) (len v1.toInt.toNat) * odds) = true then 1 else 0) → MR fl' ll' gl' V' → Off (1344 :: 1345 :: (TLL ++ SCR)) V V' → FM V' (wgt 1 (gn l f - 1) (tlM l f tt len v1.toInt v2.toInt v3.toInt) (tlC l f tt len v1.toInt v2.toInt v3.toInt v4.toInt)) (gn l f ^ tlM l f tt len v1.toInt v2.toInt v3.toInt) → Q r fl' ll' gl' wk' tp' un' counts') : P_Mo_tail vv ml mh mn mo fl ll gl wk tp un lens rows counts v1 v2 v3 v4 Q := by
  have hn := gn_le h.1
  refine T_Mo_tail (R_Mo_tail_0 (S_Mo_isContext h fun r1 h1 => ⟨fun e => R_Mo_tail_19 (hq0 fun z => ?_), fun e => S_Mo_isThrow h hh fun r2 h2' => R_Mo_tail_16 ⟨fun e2 => R_Mo_tail_22 ?_, fun e2 => R_Mo_tail_19 (hq0 fun z => ?_)⟩⟩))
  · rw [bz h1] at e; exact e z.1
  · rw [bz h1] at e
    rw [bz h2'] at e2
    have e' := Classical.not_not.mp e
    have e2' := Classical.not_not.mp e2
    have hok : okTl l f v1.toInt v2.toInt v3.toInt v4.toInt := ⟨e', e2'⟩
    obtain ⟨c1, c2, c3⟩ := e'
    have hm4 : v1.toInt.toNat < 4 := by omega
    obtain ⟨hl, hl120, hrow⟩ := hM v1.toInt.toNat hm4
    have tb := times_bd hn.2.1 (tt v1.toInt.toNat) (len v1.toInt.toNat) ho.2
    refine S_Mo_countBehind (man := v1.toInt.toNat) (K := v2.toInt.toNat) (c := v3.toInt.toNat) h hM (by omega) hm4 (by omega) (by omega) (by omega) fun r3 C e3 g2 => ⟨fun y => R_Mo_tail_39 ?_, fun y => hqN hok ?_ _⟩
    · rw [i_lit0 e3] at y
      have hpl := plc_le (gn l f) (tt v1.toInt.toNat) v2.toInt.toNat v3.toInt.toNat (len v1.toInt.toNat)
      have hidx : (v4 - ml).toInt = ((v4.toInt.toNat - l : Nat) : Int) := i_subN (by omega) h.2.2.1 (by omega)
      have hpos : 0 < gn l f ^ plc (gn l f) (tt v1.toInt.toNat) v2.toInt.toNat v3.toInt.toNat (len v1.toInt.toNat) := Nat.pow_pos (by omega)
      have hpw := p5_120 (n := gn l f) (m := plc (gn l f) (tt v1.toInt.toNat) v2.toInt.toNat v3.toInt.toNat (len v1.toInt.toNat)) hn.2.1 (by omega)
      have hwb := wgt_bd (n := gn l f) (m := plc (gn l f) (tt v1.toInt.toNat) v2.toInt.toNat v3.toInt.toNat (len v1.toInt.toNat)) (a := cnt (gn l f) (tt v1.toInt.toNat) v2.toInt.toNat v3.toInt.toNat (v4.toInt.toNat - l) (len v1.toInt.toNat)) (by omega)
      refine S_Mo_triedOf (man := v1.toInt.toNat) h hM (by omega) hm4 fun r5 e5 => S_Mo_isTold h hR e3 (by omega) hidx (by omega) (g2 _ (by omega)) (cnt_le_plc ..) (j_mulN (i_wide e5) (i_wide h2) (by omega)) (by omega) fun r6 F1 L1 G1 W1 T1 U1 V1 hr hR1 hO1 s1 d1 => R_Mo_tail_64 ?_
      refine S_Mo_tell hR1 c1367 (by omega) c1368 (by omega) (by omega) (by rw [d1]; omega) (powL s1 (by omega) (by omega)) (powL d1 (by omega) (by omega)) fun F3 L3 G3 W3 T3 U3 V3 hR3 hO3 n3 d3 => ?_
      rw [s1, d1] at n3 d3
      have hFM := FM.told rfl hpos n3 d3
      have hO := (hO1.mono (L' := 1344 :: 1345 :: (TLL ++ SCR)) (by simp)).trans (hO3.mono (by simp))
      refine ⟨fun y2 => R_Mo_tail_85 (R_Mo_tail_86 (hq hok ?_ _ _ _ _ _ _ _ _ V3 ?_ hR3 hO hFM)), fun y2 => R_Mo_tail_86 (hq hok ?_ _ _ _ _ _ _ _ _ V3 ?_ hR3 hO hFM)⟩
      · unfold tlM; omega
      · have := hr.mp y2
        unfold tlM tlC
        rw [this]
        exact z_0
      · unfold tlM; omega
      · have ht : toldB (gn l f) (plc (gn l f) (tt v1.toInt.toNat) v2.toInt.toNat v3.toInt.toNat (len v1.toInt.toNat)) (cnt (gn l f) (tt v1.toInt.toNat) v2.toInt.toNat v3.toInt.toNat (v4.toInt.toNat - l) (len v1.toInt.toNat)) (tri (gn l f) (tt v1.toInt.toNat) (len v1.toInt.toNat) * odds) = true := by
          cases e' : toldB (gn l f) (plc (gn l f) (tt v1.toInt.toNat) v2.toInt.toNat v3.toInt.toNat (len v1.toInt.toNat)) (cnt (gn l f) (tt v1.toInt.toNat) v2.toInt.toNat v3.toInt.toNat (v4.toInt.toNat - l) (len v1.toInt.toNat)) (tri (gn l f) (tt v1.toInt.toNat) (len v1.toInt.toNat) * odds) with
          | true => rfl
          | false => exact absurd (hr.mpr e') y2
        unfold tlM tlC
        rw [if_pos ht]
        exact z_1
    · rw [i_lit0 e3] at y
      exact y
  · rw [bz h2'] at e2; exact e2 z.2
def tolZ (l f : Nat) (tt : Nat → Nat → Nat) (len : Nat → Nat) (odds : Nat) (a : Int) : Int := if okMan a then ((tldL (gn l f) l (tt a.toNat) (len a.toNat) odds).length : Int) else -2
theorem S_F_told {v1 : Int32} {Q : Int32 → Int32 → (Nat → Int32) → (Nat → Int32) → Int32 → (Nat → Int32) → Int32 → (Nat → Int32) → Int32 → (Nat → Int32) → Int32 → (Nat → Int32) → Prop} (h : CR k l f m rk rl rf rm rtc rwc rth rca) (hM : MenR l f rows lens tt len) (h2 : xo.toInt = (odds : Int)) (ho : 1 ≤ odds ∧ odds ≤ 100000) (hq : ∀ (r cn' : Int32) counts' codes' sn' sd' pn' pd' tn' td' qn' qd', r.toInt = tolZ l f tt len odds v1.toInt → Q r cn' counts' codes' sn' sd' pn' pd' tn' td' qn' qd') : P_F_told vv xo rl rf rtc cno rows lens counts codes sn sd pn pd tn td qn qd v1 Q := by
  unfold tolZ at hq
  refine T_F_told (R_F_told_0 (S_Men_isMan fun r1 h1 => ⟨fun e => R_F_told_22 (R_F_told_24 (hq _ _ _ _ _ _ _ _ _ _ _ _ ?_)), fun e => ?_⟩))
  · rw [bz h1] at e; rw [if_neg e, z_m2]
  · rw [bz h1] at e
    have e' := Classical.not_not.mp e
    rw [if_pos e'] at hq
    exact S_Men_listTold (man := v1.toInt.toNat) h hM (by omega) (by omega) h2 ho fun r2 cn' C D sn' sd' pn' pd' tn' td' qn' qd' e2 _ => R_F_told_24 (hq _ _ _ _ _ _ _ _ _ _ _ _ e2)
theorem S_Mo_told {v1 : Int32} {Q : Int32 → Int32 → (Nat → Int32) → (Nat → Int32) → (Nat → Int32) → (Nat → Int32) → (Nat → Int64) → (Nat → Int64) → (Nat → Int32) → Prop} (h : MRu k l f m mk ml mm mn) (hM : MenR l f rows lens tt len) (hR : MR fl ll gl V) (h2 : mo.toInt = (odds : Int)) (ho : 1 ≤ odds ∧ odds ≤ 100000) (hq : ∀ (r mf' : Int32) fl' ll' gl' wk' tp' un' counts' V', r.toInt = tolZ l f tt len odds v1.toInt → MR fl' ll' gl' V' → Off TLL V V' → Q r mf' fl' ll' gl' wk' tp' un' counts') : P_Mo_told vv ml mn mo mf fl ll gl wk tp un lens rows counts v1 Q := by
  unfold tolZ at hq
  refine T_Mo_told (R_Mo_told_0 (S_Mo_isMan fun r1 h1 => ⟨fun e => R_Mo_told_16 (R_Mo_told_18 (hq _ _ _ _ _ _ _ _ _ V ?_ hR (Off.refl _ V))), fun e => ?_⟩))
  · rw [bz h1] at e; rw [if_neg e, z_m2]
  · rw [bz h1] at e
    have e' := Classical.not_not.mp e
    rw [if_pos e'] at hq
    exact S_Mo_findTold (man := v1.toInt.toNat) h hM hR (by omega) (by omega) h2 ho fun r2 fd F L G W TP U C V' e2 _ hR' hO => R_Mo_told_18 (hq _ _ _ _ _ _ _ _ _ V' e2 hR' hO)
def tlaZ (l f : Nat) (tt : Nat → Nat → Nat) (len : Nat → Nat) (odds : Nat) (a i : Int) : Int := if okMan a ∧ 0 ≤ i then (if i.toNat < (tldL (gn l f) l (tt a.toNat) (len a.toNat) odds).length then (((tldL (gn l f) l (tt a.toNat) (len a.toNat) odds).getD i.toNat 0 : Nat) : Int) else -1) else -2
theorem tldL_len {n low : Nat} (hn : n ≤ 5) (t : Nat → Nat) (ln odds : Nat) : (tldL n low t ln odds).length ≤ 780 := by
  have h1 := lkk_len n low (tldP n t ln odds) 4
  have h : ∀ k, n ^ k * n ≤ 5 ^ k * 5 := fun k => Nat.mul_le_mul (Nat.pow_le_pow_left hn k) hn
  have a0 := h 0
  have a1 := h 1
  have a2 := h 2
  have a3 := h 3
  simp only [sumN] at h1
  unfold tldL
  omega
theorem S_F_toldAt {v1 v2 : Int32} {Q : Int32 → Int32 → (Nat → Int32) → (Nat → Int32) → Int32 → (Nat → Int32) → Int32 → (Nat → Int32) → Int32 → (Nat → Int32) → Int32 → (Nat → Int32) → Prop} (h : CR k l f m rk rl rf rm rtc rwc rth rca) (hM : MenR l f rows lens tt len) (h2 : xo.toInt = (odds : Int)) (ho : 1 ≤ odds ∧ odds ≤ 100000) (hq : ∀ (r cn' : Int32) counts' codes' sn' sd' pn' pd' tn' td' qn' qd', r.toInt = tlaZ l f tt len odds v1.toInt v2.toInt → Q r cn' counts' codes' sn' sd' pn' pd' tn' td' qn' qd') : P_F_toldAt vv xo rl rf rtc cno rows lens counts codes sn sd pn pd tn td qn qd v1 v2 Q := by
  have hn := gn_le h.1
  unfold tlaZ at hq
  have bad : ¬ (okMan v1.toInt ∧ 0 ≤ v2.toInt) → E_F_toldAt_11 vv xo rl rf rtc cno rows lens counts codes sn sd pn pd tn td qn qd Q := fun e => R_F_toldAt_11 (hq _ _ _ _ _ _ _ _ _ _ _ _ (by rw [if_neg e, z_m2]))
  refine T_F_toldAt (R_F_toldAt_0 (S_Men_isMan fun r1 h1 => ⟨fun e => bad fun z => ?_, fun e => ⟨fun e2 => R_F_toldAt_14 ?_, fun e2 => bad fun z => ?_⟩⟩))
  · rw [bz h1] at e; exact e z.1
  · rw [bz h1] at e
    rw [i_le, z_0] at e2
    have e' := Classical.not_not.mp e
    rw [if_pos ⟨e', e2⟩] at hq
    have hlen := tldL_len (low := l) hn.2.1 (tt v1.toInt.toNat) (len v1.toInt.toNat) odds
    have z779 : (779 : Int32).toInt = 779 := by decide
    refine S_Men_listTold (man := v1.toInt.toNat) h hM (by omega) (by omega) h2 ho fun r2 cn' C D sn' sd' pn' pd' tn' td' qn' qd' e3 hD => ⟨fun y => R_F_toldAt_41 (R_F_toldAt_42 (hq _ _ _ _ _ _ _ _ _ _ _ _ ?_)), fun y => T_Men_codeAt (R_Men_codeAt_0 (S_F_isWithin fun r4 h4 => ?_))⟩
    · rw [i_le, e3] at y
      rw [if_neg (by omega), z_m1]
    · rw [i_le, e3] at y
      rw [z_0, z779] at h4
      have hv2 : v2.toInt = (v2.toInt.toNat : Int) := by omega
      refine ⟨fun y2 => absurd ((bz h4).mp y2) (by omega), fun y2 => ⟨i_in hv2 (by omega), R_Men_codeAt_21 (R_F_toldAt_42 (hq _ _ _ _ _ _ _ _ _ _ _ _ ?_))⟩⟩
      rw [i_nat hv2, if_pos (by omega)]
      exact hD _ (by omega)
  · rw [i_le, z_0] at e2
    exact e2 z.2
theorem S_Mo_toldAt {v1 v2 : Int32} {Q : Int32 → Int32 → (Nat → Int32) → (Nat → Int32) → (Nat → Int32) → (Nat → Int32) → (Nat → Int64) → (Nat → Int64) → (Nat → Int32) → Prop} (h : MRu k l f m mk ml mm mn) (hM : MenR l f rows lens tt len) (hR : MR fl ll gl V) (h2 : mo.toInt = (odds : Int)) (ho : 1 ≤ odds ∧ odds ≤ 100000) (hq : ∀ (r mf' : Int32) fl' ll' gl' wk' tp' un' counts' V', r.toInt = tlaZ l f tt len odds v1.toInt v2.toInt → MR fl' ll' gl' V' → Off TLL V V' → Q r mf' fl' ll' gl' wk' tp' un' counts') : P_Mo_toldAt vv ml mn mo mf fl ll gl wk tp un lens rows counts v1 v2 Q := by
  unfold tlaZ at hq
  have bad : ¬ (okMan v1.toInt ∧ 0 ≤ v2.toInt) → E_Mo_toldAt_11 vv ml mn mo mf fl ll gl wk tp un lens rows counts Q := fun e => R_Mo_toldAt_11 (hq _ _ _ _ _ _ _ _ _ V (by rw [if_neg e, z_m2]) hR (Off.refl _ V))
  refine T_Mo_toldAt (R_Mo_toldAt_0 (S_Mo_isMan fun r1 h1 => ⟨fun e => bad fun z => ?_, fun e => ⟨fun e2 => R_Mo_toldAt_14 ?_, fun e2 => bad fun z => ?_⟩⟩))
  · rw [bz h1] at e; exact e z.1
  · rw [bz h1] at e
    rw [i_le, z_0] at e2
    have e' := Classical.not_not.mp e
    rw [if_pos ⟨e', e2⟩] at hq
    refine S_Mo_findTold (man := v1.toInt.toNat) h hM hR (by omega) (by omega) h2 ho fun r2 fd F L G W TP U C V' e3 hfd hR' hO => ⟨fun y => R_Mo_toldAt_31 (R_Mo_toldAt_32 (hq _ _ _ _ _ _ _ _ _ V' ?_ hR' hO)), fun y => R_Mo_toldAt_32 (hq _ _ _ _ _ _ _ _ _ V' ?_ hR' hO)⟩
    · rw [i_le, e3] at y
      rw [if_neg (by omega), z_m1]
    · rw [i_le, e3] at y
      rw [if_pos (by omega)]
      exact hfd v2.toInt.toNat (by omega) (by omega)
  · rw [i_le, z_0] at e2
    exact e2 z.2
def oZ (o : Option Nat) : Int := match o with
  | none => -1
  | some K => (K : Int)
def forZ (l f : Nat) (tt : Nat → Nat → Nat) (len : Nat → Nat) (odds : Nat) (a : Int) : Int := if okMan a then oZ (frs (gn l f) (tt a.toNat) (len a.toNat) odds 4) else -2
theorem optR_eq {o : Option Nat} {r : Int32} (h : optR o r) : r.toInt = oZ o := by
  cases o <;> exact h
theorem S_F_foreseen {v1 : Int32} {Q : Int32 → Int32 → (Nat → Int32) → Int32 → (Nat → Int32) → Int32 → (Nat → Int32) → Int32 → (Nat → Int32) → Int32 → (Nat → Int32) → Prop} (h : CR k l f m rk rl rf rm rtc rwc rth rca) (hM : MenR l f rows lens tt len) (h2 : xo.toInt = (odds : Int)) (ho : 1 ≤ odds ∧ odds ≤ 100000) (hq : ∀ (r cn' : Int32) counts' sn' sd' pn' pd' tn' td' qn' qd', r.toInt = forZ l f tt len odds v1.toInt → Q r cn' counts' sn' sd' pn' pd' tn' td' qn' qd') : P_F_foreseen vv xo rl rf rtc cno rows lens counts sn sd pn pd tn td qn qd v1 Q := by
  unfold forZ at hq
  refine T_F_foreseen (R_F_foreseen_0 (S_Men_isMan fun r1 h1 => ⟨fun e => R_F_foreseen_22 (R_F_foreseen_24 (hq _ _ _ _ _ _ _ _ _ _ _ ?_)), fun e => ?_⟩))
  · rw [bz h1] at e; rw [if_neg e, z_m2]
  · rw [bz h1] at e
    have e' := Classical.not_not.mp e
    rw [if_pos e'] at hq
    exact S_Men_foresee (man := v1.toInt.toNat) h hM (by omega) (by omega) h2 ho fun r2 cn' C sn' sd' pn' pd' tn' td' qn' qd' e2 _ => R_F_foreseen_24 (hq _ _ _ _ _ _ _ _ _ _ _ (optR_eq e2))
theorem S_Mo_foreseen {v1 : Int32} {Q : Int32 → (Nat → Int32) → (Nat → Int32) → (Nat → Int32) → (Nat → Int32) → (Nat → Int64) → (Nat → Int64) → (Nat → Int32) → Prop} (h : MRu k l f m mk ml mm mn) (hM : MenR l f rows lens tt len) (hR : MR fl ll gl V) (h2 : mo.toInt = (odds : Int)) (ho : 1 ≤ odds ∧ odds ≤ 100000) (hq : ∀ (r : Int32) fl' ll' gl' wk' tp' un' counts' V', r.toInt = forZ l f tt len odds v1.toInt → MR fl' ll' gl' V' → Off TLL V V' → Q r fl' ll' gl' wk' tp' un' counts') : P_Mo_foreseen vv ml mn mo fl ll gl wk tp un lens rows counts v1 Q := by
  unfold forZ at hq
  refine T_Mo_foreseen (R_Mo_foreseen_0 (S_Mo_isMan fun r1 h1 => ⟨fun e => R_Mo_foreseen_15 (R_Mo_foreseen_17 (hq _ _ _ _ _ _ _ _ V ?_ hR (Off.refl _ V))), fun e => ?_⟩))
  · rw [bz h1] at e; rw [if_neg e, z_m2]
  · rw [bz h1] at e
    have e' := Classical.not_not.mp e
    rw [if_pos e'] at hq
    exact S_Mo_findForeseen (man := v1.toInt.toNat) h hM hR (by omega) (by omega) h2 ho fun r2 F L G W TP U C V' e2 _ hR' hO => R_Mo_foreseen_17 (hq _ _ _ _ _ _ _ _ V' (optR_eq e2) hR' hO)
def fatZ (l f : Nat) (tt : Nat → Nat → Nat) (len : Nat → Nat) (odds : Nat) (a x : Int) : Int := if okMan a ∧ okThr l f x then (match frs (gn l f) (tt a.toNat) (len a.toNat) odds 4 with | none => -1 | some K => (cnt (gn l f) (tt a.toNat) K (cxt (gn l f) (tt a.toNat) K (len a.toNat)) (x.toNat - l) (len a.toNat) : Int)) else -2
theorem S_F_foreseenAt {v1 v2 : Int32} {Q : Int32 → Int32 → (Nat → Int32) → Int32 → (Nat → Int32) → Int32 → (Nat → Int32) → Int32 → (Nat → Int32) → Int32 → (Nat → Int32) → Prop} (h : CR k l f m rk rl rf rm rtc rwc rth rca) (hM : MenR l f rows lens tt len) (h2 : xo.toInt = (odds : Int)) (ho : 1 ≤ odds ∧ odds ≤ 100000) (hq : ∀ (r cn' : Int32) counts' sn' sd' pn' pd' tn' td' qn' qd', r.toInt = fatZ l f tt len odds v1.toInt v2.toInt → Q r cn' counts' sn' sd' pn' pd' tn' td' qn' qd') : P_F_foreseenAt vv xo rl rf rtc cno rows lens counts sn sd pn pd tn td qn qd v1 v2 Q := by
  have hn := gn_le h.1
  unfold fatZ at hq
  have bad : ¬ (okMan v1.toInt ∧ okThr l f v2.toInt) → E_F_foreseenAt_18 vv xo rl rf rtc cno rows lens counts sn sd pn pd tn td qn qd Q := fun e => R_F_foreseenAt_18 (hq _ _ _ _ _ _ _ _ _ _ _ (by rw [if_neg e, z_m2]))
  refine T_F_foreseenAt (R_F_foreseenAt_0 (S_Men_isMan fun r1 h1 => ⟨fun e => bad fun z => ?_, fun e => S_Rule_isThrow h fun r2 h2' => ⟨fun e2 => R_F_foreseenAt_21 ?_, fun e2 => bad fun z => ?_⟩⟩))
  · rw [bz h1] at e; exact e z.1
  · rw [bz h1] at e
    rw [bz h2'] at e2
    have e' := Classical.not_not.mp e
    have e2' := Classical.not_not.mp e2
    rw [if_pos ⟨e', e2'⟩] at hq
    refine S_Men_foresee (man := v1.toInt.toNat) h hM (by omega) (by omega) h2 ho fun r3 cn' C sn' sd' pn' pd' tn' td' qn' qd' e3 hT => ?_
    cases hf : frs (gn l f) (tt v1.toInt.toNat) (len v1.toInt.toNat) odds 4 with
    | none =>
      rw [hf] at e3 hq
      have e3' : r3.toInt = -1 := e3
      exact ⟨fun y => absurd (by rw [i_eq, z_m1]; exact e3') y, fun _ => R_F_foreseenAt_49 (hq _ _ _ _ _ _ _ _ _ _ _ z_m1)⟩
    | some K =>
      rw [hf] at e3 hq
      have e3' : r3.toInt = (K : Int) := e3
      obtain ⟨hK, hcn, hTl⟩ := hT K hf
      refine ⟨fun _ => R_F_foreseenAt_41 (T_Men_foreseenCount (R_Men_foreseenCount_0 (S_Men_followed (x := v2.toInt.toNat - l) h hTl hK hcn (cxt_lt (by omega) ..) (by omega) (by omega) fun r14 e14 => R_F_foreseenAt_49 (hq _ _ _ _ _ _ _ _ _ _ _ e14)))), fun y => absurd y (by rw [i_eq, z_m1]; omega)⟩
  · rw [bz h2'] at e2; exact e2 z.2
theorem S_Mo_foreseenAt {v1 v2 : Int32} {Q : Int32 → (Nat → Int32) → (Nat → Int32) → (Nat → Int32) → (Nat → Int32) → (Nat → Int64) → (Nat → Int64) → (Nat → Int32) → Prop} (h : MRu k l f m mk ml mm mn) (hh : mh.toInt = (f : Int)) (hM : MenR l f rows lens tt len) (hR : MR fl ll gl V) (h2 : mo.toInt = (odds : Int)) (ho : 1 ≤ odds ∧ odds ≤ 100000) (hq : ∀ (r : Int32) fl' ll' gl' wk' tp' un' counts' V', r.toInt = fatZ l f tt len odds v1.toInt v2.toInt → MR fl' ll' gl' V' → Off TLL V V' → Q r fl' ll' gl' wk' tp' un' counts') : P_Mo_foreseenAt vv ml mh mn mo fl ll gl wk tp un lens rows counts v1 v2 Q := by
  have hn := gn_le h.1
  unfold fatZ at hq
  have bad : ¬ (okMan v1.toInt ∧ okThr l f v2.toInt) → E_Mo_foreseenAt_15 vv ml mh mn mo fl ll gl wk tp un lens rows counts Q := fun e => R_Mo_foreseenAt_15 (hq _ _ _ _ _ _ _ _ V (by rw [if_neg e, z_m2]) hR (Off.refl _ V))
  refine T_Mo_foreseenAt (R_Mo_foreseenAt_0 (S_Mo_isMan fun r1 h1 => ⟨fun e => bad fun z => ?_, fun e => S_Mo_isThrow h hh fun r2 h2' => R_Mo_foreseenAt_12 ⟨fun e2 => R_Mo_foreseenAt_18 ?_, fun e2 => bad fun z => ?_⟩⟩))
  · rw [bz h1] at e; exact e z.1
  · rw [bz h1] at e
    rw [bz h2'] at e2
    have e' := Classical.not_not.mp e
    have e2' := Classical.not_not.mp e2
    rw [if_pos ⟨e', e2'⟩] at hq
    refine S_Mo_findForeseen (man := v1.toInt.toNat) h hM hR (by omega) (by omega) h2 ho fun r3 F L G W TP U C V' e3 hT hR' hO => ?_
    cases hf : frs (gn l f) (tt v1.toInt.toNat) (len v1.toInt.toNat) odds 4 with
    | none =>
      rw [hf] at e3 hq
      have e3' : r3.toInt = -1 := e3
      exact ⟨fun y => absurd y (by rw [i_le, z_0]; omega), fun _ => R_Mo_foreseenAt_41 (hq _ _ _ _ _ _ _ _ V' z_m1 hR' hO)⟩
    | some K =>
      rw [hf] at e3 hq
      have e3' : r3.toInt = (K : Int) := e3
      have hC := hT K hf
      have hidx : (v2 - ml).toInt = ((v2.toInt.toNat - l : Nat) : Int) := i_subN (by omega) h.2.2.1 (by omega)
      refine ⟨fun _ => R_Mo_foreseenAt_30 ⟨i_in hidx (by omega), R_Mo_foreseenAt_41 (hq _ _ _ _ _ _ _ _ V' ?_ hR' hO)⟩, fun y => absurd (by rw [i_le, z_0]; omega) y⟩
      rw [i_nat hidx]
      exact hC _ (by omega)
  · rw [bz h2'] at e2; exact e2 z.2
end MENP2
