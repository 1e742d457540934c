/-! MEN in the reference: THE TAIL, what is TOLD, what is FORESEEN -/
theorem powL {x : Nat} {z : Int} {n : Nat} (hz : z = (x : Int)) (h : x ≤ 5 ^ 120) (hn : 10 ≤ n) : z.natAbs < BB ^ n := by
  rw [hz, Int.natAbs_natCast]
  have h1 : 5 ^ 120 < BB ^ 10 := by decide
  exact Nat.lt_of_le_of_lt h (Nat.lt_of_lt_of_le h1 (Nat.pow_le_pow_right (by decide) hn))
abbrev TLL : List Nat := [1340, 1351, 1352, 1360, 1366, 1367, 1368, 1370]
section MENM2
variable {vv vv' : Nat → Value} {k l f m : Nat} {mk ml mh mm mn mo mf : Int32} {rows lens counts : Nat → Int32} {tt : Nat → Nat → Nat} {len : Nat → Nat}
  {fl ll gl wk : Nat → Int32} {tp un : Nat → Int64} {V : Nat → Int}
theorem S_Mo_findTail {v1 v2 : Int32} {M c n : Nat} {Q : (Nat → Int32) → (Nat → Int32) → (Nat → Int32) → (Nat → Int32) → (Nat → Int64) → (Nat → Int64) → Prop} (hR : MR fl ll gl V) (h1 : v1.toInt = (M : Int)) (hM : M ≤ 120) (h2 : v2.toInt = (c : Int)) (hc : c ≤ M) (h3 : mn.toInt = (n : Int)) (hn : 2 ≤ n ∧ n ≤ 5) (hq : ∀ fl' ll' gl' wk' tp' un' V', MR fl' ll' gl' V' → V' 1367 = (wgt 1 (n - 1) M c : Int) → V' 1368 = ((n ^ M : Nat) : Int) → Off TLL V V' → Q fl' ll' gl' wk' tp' un') : P_Mo_findTail vv mn fl ll gl wk tp un v1 v2 Q := by
  have hpM := p5_120 (n := n) (m := M) hn.2 hM
  have wb := fun a => wgt_bd (n := n) (m := M) (a := a) (by omega)
  have dens : ∀ (u i : Nat) (F L G W : Nat → Int32) (TP U : Nat → Int64) (V' : Nat → Int) (v3 : Int32), i + u = M → v3.toInt = (i : Int) → MR F L G V' → Off TLL V V' → V' 1367 = (wgt 1 (n - 1) M c : Int) → V' 1368 = ((n ^ i : Nat) : Int) → E_Mo_findTail_115 vv mn F L G W TP U v1 v3 Q := by
    intro u
    induction u with
    | zero =>
      intro i F L G W TP U V' v3 hu h3' hR' hO hs hd
      have : i = M := by omega
      subst this
      exact R_Mo_findTail_115 ⟨fun _ => R_Mo_findTail_141 (hq _ _ _ _ _ _ V' hR' hs hd hO), fun y => absurd (by rw [i_le]; omega) y⟩
    | succ u ih =>
      intro i F L G W TP U V' v3 hu h3' hR' hO hs hd
      have hpi := p5_120 (n := n) (m := i) hn.2 (by omega)
      refine R_Mo_findTail_115 ⟨fun y => absurd y (by rw [i_le]; omega), fun _ => S_Mo_timesSmall 10 1 hR' c1368 (by omega) (i_wide h3) (by omega) c1368 (by omega) (powL hd hpi (by omega)) (pow1 (by omega)) (by omega) fun F4 L4 G4 W4 hR4 x24 e24 => ?_⟩
      rw [hd, ← Int.natCast_mul, ← Nat.pow_succ] at hR4
      exact ih (i + 1) F4 L4 G4 W4 TP U _ x24 (by omega) (by rw [e24]; exact i_suc h3' (by omega)) hR4 ((hO.up _ (by simp)).up _ (by simp)) (by rw [up_ne (by omega), up_ne (by omega)]; exact hs) (up_same ..)
  have loop : ∀ (i : Nat) (F L G W : Nat → Int32) (TP U : Nat → Int64) (V' : Nat → Int) (v3 : Int32), i ≤ M + 1 → v3.toInt = (i : Int) - 1 → MR F L G V' → Off TLL V V' → V' 1367 = (wgt 1 (n - 1) M (max i c) : Int) → V' 1366 = (tmT n M (M + 1 - i) : Int) → V' 1368 = 1 → E_Mo_findTail_26 vv mn F L G W TP U v1 v2 v3 Q := by
    intro i
    induction i with
    | zero =>
      intro F L G W TP U V' v3 hi h3' hR' hO hs ht hd
      rw [Nat.zero_max] at hs
      exact R_Mo_findTail_26 ⟨fun _ => R_Mo_findTail_113 (dens M 0 F L G W TP U V' 0 (by omega) i_0 hR' hO hs (by rw [hd]; rfl)), fun y => absurd (by rw [i_lt, z_0]; omega) y⟩
    | succ j ih =>
      intro F L G W TP U V' v3 hi h3' hR' hO hs ht hd
      have h3j : v3.toInt = (j : Int) := by omega
      rw [show M + 1 - (j + 1) = M - j by omega] at ht
      have htl := tmT_le (n := n) (m := M) (j := j) (by omega) (by omega)
      have htj := tmT_jst (n := n) (m := M) (j := j) (by omega)
      have next : ∀ (F L G : Nat → Int32) (V'' : Nat → Int), MR F L G V'' → Off TLL V V'' → V'' 1367 = (wgt 1 (n - 1) M (max j c) : Int) → V'' 1366 = (tmT n M (M - j) : Int) → V'' 1368 = 1 → E_Mo_findTail_48 vv mn F L G W TP U v1 v2 v3 Q := by
        intro F L G V'' hR'' hO'' hs'' ht'' hd''
        have hz : ((mn - 1).toInt64 * v3.toInt64).toInt = (((n - 1) * j : Nat) : Int) := by
          have hm : (n - 1) * j ≤ 4 * 120 := Nat.mul_le_mul (by omega) (by omega)
          exact j_mulN (i_wide (i_subN h3 i_1 (by omega))) (i_wide h3j) (by omega)
        have hm : (n - 1) * j ≤ 4 * 120 := Nat.mul_le_mul (by omega) (by omega)
        refine R_Mo_findTail_48 (S_Mo_timesSmall 10 1 hR'' c1366 (by omega) hz (by omega) c1366 (by omega) (powL ht'' (by omega) (by omega)) (pow1 (by omega)) (by omega) fun F4 L4 G4 W4 hR4 => S_Mo_set hR4 c1351 (by omega) (j_addN (i_wide (i_subN h1 h3j (by omega))) j_1 (by omega)) (by omega) fun F5 L5 G5 hR5 => R_Mo_findTail_81 ?_)
        rw [ht'', ← Int.natCast_mul] at hR5
        have hO5 := ((hO''.up (t := 1370) (((n - 1) * j : Nat) : Int) (by simp)).up (t := 1366) ((tmT n M (M - j) * ((n - 1) * j) : Nat) : Int) (by simp)).up (t := 1351) ((M - j + 1 : Nat) : Int) (by simp)
        have t5 : up (up (up V'' 1370 (((n - 1) * j : Nat) : Int)) 1366 ((tmT n M (M - j) * ((n - 1) * j) : Nat) : Int)) 1351 ((M - j + 1 : Nat) : Int) 1366 = ((tmT n M (M - j) * ((n - 1) * j) : Nat) : Int) := by rw [up_ne (by omega), up_same]
        have s5 : up (up (up V'' 1370 (((n - 1) * j : Nat) : Int)) 1366 ((tmT n M (M - j) * ((n - 1) * j) : Nat) : Int)) 1351 ((M - j + 1 : Nat) : Int) 1351 = ((M - j + 1 : Nat) : Int) := up_same ..
        have o5 : ∀ q, q ≠ 1370 → q ≠ 1366 → q ≠ 1351 → up (up (up V'' 1370 (((n - 1) * j : Nat) : Int)) 1366 ((tmT n M (M - j) * ((n - 1) * j) : Nat) : Int)) 1351 ((M - j + 1 : Nat) : Int) q = V'' q := fun q q1 q2 q3 => by rw [up_ne q3, up_ne q2, up_ne q1]
        generalize up (up (up V'' 1370 (((n - 1) * j : Nat) : Int)) 1366 ((tmT n M (M - j) * ((n - 1) * j) : Nat) : Int)) 1351 ((M - j + 1 : Nat) : Int) = V5 at *
        have hprod : tmT n M (M - j) * ((n - 1) * j) ≤ 5 ^ 120 * 480 := Nat.mul_le_mul (by omega) hm
        have hb63 : (V5 1366).natAbs < BB ^ 63 := by
          rw [t5, Int.natAbs_natCast]
          have h1' : 5 ^ 120 * 480 < BB ^ 11 := by decide
          exact Nat.lt_of_le_of_lt hprod (Nat.lt_of_lt_of_le h1' (Nat.pow_le_pow_right (by decide) (by omega)))
        refine S_Mo_divide hR5 c1366 (by omega) c1351 (by omega) c1352 (by omega) c1360 (by omega) (by omega) (by rw [s5]; omega) hb63 fun F6 L6 G6 W6 T6 U6 hR6 => S_Mo_copy hR6 c1352 (by omega) c1366 (by omega) fun F7 L7 G7 hR7 => R_Mo_findTail_107 fun x34 e34 => ?_
        have hq6 : (V5 1366).tdiv (V5 1351) = (tmT n M (M - j + 1) : Int) := by
          rw [t5, s5]
          show ((tmT n M (M - j) * ((n - 1) * j) / (M - j + 1) : Nat) : Int) = _
          have e0 := tmT_next n M (M - j)
          rw [show M - (M - j) = j by omega, Nat.mul_comm j] at e0
          rw [e0]
        rw [up_ne (f := up V5 1352 _) (show 1352 ≠ 1360 by omega), up_same, hq6] at hR7
        refine ih F7 L7 G7 W6 T6 U6 _ x34 (by omega) (by rw [e34, i_add h3j z_m1 (by omega) (by omega)]; omega) hR7 (((hO5.up _ (by simp)).up _ (by simp)).up _ (by simp)) ?_ ?_ ?_
        · rw [up_ne (by omega), up_ne (by omega), up_ne (by omega), o5 _ (by omega) (by omega) (by omega), hs'']
        · rw [up_same, show M + 1 - j = M - j + 1 by omega]
        · rw [up_ne (by omega), up_ne (by omega), up_ne (by omega), o5 _ (by omega) (by omega) (by omega), hd'']
      refine R_Mo_findTail_26 ⟨fun y => absurd y (by rw [i_lt, z_0]; omega), fun _ => ⟨fun y => next F L G V' hR' hO ?_ ht hd, fun y => ?_⟩⟩
      · rw [i_lt, h3j, h2] at y
        rw [hs, show max (j + 1) c = c by omega, show max j c = c by omega]
      · rw [i_lt, h3j, h2] at y
        have hw := wgt_jst 1 (n - 1) M j
        have hwj := wb j
        rw [show max (j + 1) c = j + 1 by omega] at hs
        refine S_Mo_add hR' c1367 (by omega) c1366 (by omega) c1367 (by omega) (powL hs (by omega) (by omega)) (powL ht (by omega) (by omega)) fun F4 L4 G4 hR4 => next F4 L4 G4 _ hR4 (hO.up _ (by simp)) ?_ (by rw [up_ne (by omega)]; exact ht) (by rw [up_ne (by omega)]; exact hd)
        rw [up_same, hs, ht, htj, show max j c = j by omega]
        omega
  refine T_Mo_findTail (R_Mo_findTail_0 (S_Mo_set hR c1367 (by omega) zL0 (by omega) fun F1 L1 G1 hR1 => S_Mo_set hR1 c1366 (by omega) zL1 (by omega) fun F2 L2 G2 hR2 => R_Mo_findTail_16 (S_Mo_set hR2 c1368 (by omega) zL1 (by omega) fun F3 L3 G3 hR3 => ?_)))
  refine loop (M + 1) F3 L3 G3 wk tp un _ v1 (Nat.le_refl _) (by omega) hR3 ((((Off.refl TLL V).up _ (by simp)).up _ (by simp)).up _ (by simp)) ?_ ?_ (up_same ..)
  · rw [up_ne (by omega), up_ne (by omega), up_same, wgt_gt 1 (n - 1) (by omega)]
    rfl
  · rw [up_ne (by omega), up_same, Nat.sub_self]
    unfold tmT
    rw [ch_n0, Nat.pow_zero]
    rfl
theorem S_Mo_isRare {v1 : Int64} {S D times : Nat} {Q : Int32 → (Nat → Int32) → (Nat → Int32) → (Nat → Int32) → (Nat → Int32) → Prop} (hR : MR fl ll gl V) (hs : V 1367 = (S : Int)) (hS : S ≤ 5 ^ 120) (hd : V 1368 = (D : Int)) (h1 : v1.toInt = (times : Int)) (ht : times < 1073741824) (hq : ∀ (r : Int32) fl' ll' gl' wk' V', (r = 1 ∧ S * times ≤ D) ∨ (r = 0 ∧ ¬ S * times ≤ D) → MR fl' ll' gl' V' → Off TLL V V' → V' 1367 = V 1367 → V' 1368 = V 1368 → Q r fl' ll' gl' wk') : P_Mo_isRare vv fl ll gl wk v1 Q := by
  refine T_Mo_isRare (R_Mo_isRare_0 (S_Mo_timesSmall 10 1 hR c1367 (by omega) h1 (by omega) c1340 (by omega) (powL hs hS (by omega)) (by rw [Int.natAbs_natCast, Nat.pow_one]; exact ht) (by omega) fun F1 L1 G1 W1 hR1 => S_Mo_compare hR1 c1340 (by omega) c1368 (by omega) fun r5 e5 => R_Mo_isRare_21 ?_))
  rw [hs] at hR1
  rw [up_same, up_ne (by omega), up_ne (by omega), hs, hd, ← Int.natCast_mul] at e5
  unfold cmpI at e5
  have hO := ((Off.refl TLL V).up (t := 1370) (times : Int) (by simp)).up (t := 1340) ((S : Int) * (times : Int)) (by simp)
  have k1 : up (up V 1370 (times : Int)) 1340 ((S : Int) * (times : Int)) 1367 = V 1367 := by rw [up_ne (by omega), up_ne (by omega)]
  have k2 : up (up V 1370 (times : Int)) 1340 ((S : Int) * (times : Int)) 1368 = V 1368 := by rw [up_ne (by omega), up_ne (by omega)]
  refine ⟨fun y => R_Mo_isRare_28 (R_Mo_isRare_29 ⟨rb0, hq _ _ _ _ _ _ (Or.inr ⟨rfl, ?_⟩) hR1 hO k1 k2⟩), fun y => R_Mo_isRare_29 ⟨rb1, hq _ _ _ _ _ _ (Or.inl ⟨rfl, ?_⟩) hR1 hO k1 k2⟩⟩
  · rw [i_lt, z_0, e5] at y
    split at y
    · omega
    · split at y <;> omega
  · rw [i_lt, z_0, e5] at y
    split at y
    · omega
    · split at y <;> omega
theorem S_Mo_isTold {v1 v2 : Int32} {v3 : Int64} {M x times : Nat} {Q : Int32 → (Nat → Int32) → (Nat → Int32) → (Nat → Int32) → (Nat → Int32) → (Nat → Int64) → (Nat → Int64) → Prop} {c : Nat} (h : MRu k l f m mk ml mm mn) (hR : MR fl ll gl V) (h1 : v1.toInt = (M : Int)) (hM : 0 < M ∧ M ≤ 120) (h2 : v2.toInt = (x : Int)) (hx : x < gn l f) (hc : (counts x).toInt = (c : Int)) (hcM : c ≤ M) (h3 : v3.toInt = (times : Int)) (ht : times < 1073741824) (hq : ∀ (r : Int32) fl' ll' gl' wk' tp' un' V', (r = 0 ↔ toldB (gn l f) M c times = false) → MR fl' ll' gl' V' → Off TLL V V' → V' 1367 = (wgt 1 (gn l f - 1) M c : Int) → V' 1368 = ((gn l f ^ M : Nat) : Int) → Q r fl' ll' gl' wk' tp' un') : P_Mo_isTold vv mn fl ll gl wk tp un counts v1 v2 v3 Q := by
  have hn := gn_le h.1
  refine T_Mo_isTold (R_Mo_isTold_0 ⟨i_in h2 (by omega), ?_⟩)
  rw [i_nat h2]
  have hw := Nat.le_trans (wgt_bd (n := gn l f) (m := M) (a := c) (by omega)) (p5_120 hn.2.1 hM.2)
  refine S_Mo_findTail hR h1 hM.2 hc hcM h.2.2.2.2 ⟨hn.1, hn.2.1⟩ fun F1 L1 G1 W1 T1 U1 V1 hR1 s1 d1 hO1 => S_Mo_isRare hR1 s1 hw d1 h3 ht fun r7 F2 L2 G2 W2 V2 hr hR2 hO2 k1 k2 => ⟨?_, hq _ _ _ _ _ _ _ V2 ?_ hR2 (hO1.trans hO2) (by rw [k1, s1]) (by rw [k2, d1])⟩
  · rcases hr with hr | hr
    · exact Or.inr hr.1
    · exact Or.inl hr.1
  · rw [bz hr]
    unfold toldB
    rw [decide_eq_true hM.1, Bool.true_and, decide_eq_false_iff_not]
theorem S_Mo_findTold {v1 v2 : Int32} {man odds : Nat} {Q : Int32 → Int32 → (Nat → Int32) → (Nat → Int32) → (Nat → Int32) → (Nat → Int32) → (Nat → Int64) → (Nat → Int64) → (Nat → Int32) → Prop} (h : MRu k l f m mk ml mm mn) (hM : MenR l f rows lens tt len) (hR : MR fl ll gl V) (h1 : v1.toInt = (man : Int)) (hman : man < 4) (h2 : mo.toInt = (odds : Int)) (ho : 1 ≤ odds ∧ odds ≤ 100000) (hq : ∀ (r found' : Int32) fl' ll' gl' wk' tp' un' counts' V', r.toInt = ((tldL (gn l f) l (tt man) (len man) odds).length : Int) → (∀ w : Nat, v2.toInt = (w : Int) → w < (tldL (gn l f) l (tt man) (len man) odds).length → found'.toInt = (((tldL (gn l f) l (tt man) (len man) odds).getD w 0 : Nat) : Int)) → MR fl' ll' gl' V' → Off TLL V V' → Q r found' fl' ll' gl' wk' tp' un' counts') : P_Mo_findTold vv ml mn mo mf fl ll gl wk tp un lens rows counts v1 v2 Q := by
  have hn := gn_le h.1
  have hl1 := h.1.2.1
  obtain ⟨hl, hl120, hrow⟩ := hM man hman
  have tb := times_bd hn.2.1 (tt man) (len man) ho.2
  have i_1e4 : (10000 : Int32).toInt = ((10000 : Nat) : Int) := by decide
  have i_10 : (10 : Int32).toInt = ((10 : Nat) : Int) := by decide
  refine T_Mo_findTold (R_Mo_findTold_0 (S_Mo_triedOf h hM h1 hman fun r1 e1 x2 e2 => ?_))
  have hx2 : x2.toInt = ((tri (gn l f) (tt man) (len man) * odds : Nat) : Int) := by rw [e2]; exact j_mulN (i_wide e1) (i_wide h2) (by omega)
  have push : ∀ {L : List Nat} {fd : Int32} {y : Nat} {v5 x14 : Int32}, v5.toInt = (L.length : Int) → (∀ w : Nat, v2.toInt = (w : Int) → w < L.length → fd.toInt = ((L.getD w 0 : Nat) : Int)) → x14.toInt = (y : Int) → ∀ fd' : Int32, (v5 = v2 → fd' = x14) → (v5 ≠ v2 → fd' = fd) → ∀ w : Nat, v2.toInt = (w : Int) → w < (L ++ [y]).length → fd'.toInt = (((L ++ [y]).getD w 0 : Nat) : Int) := by
    intro L fd y v5 x14 h5 hfd hx fd' hf1 hf2 w hw hwl
    rw [List.length_append, List.length_singleton] at hwl
    by_cases e : w = L.length
    · rw [hf1 (by rw [i_eq, h5, hw, e]), hx, e]
      simp [List.getD_eq_getElem?_getD]
    · rw [hf2 (fun z => e (by rw [i_eq, h5, hw] at z; omega)), hfd w hw (by omega)]
      simp only [List.getD_eq_getElem?_getD]
      rw [List.getElem?_append_left (by omega)]
  have loop : ∀ (u K : Nat) (fd : Int32) (F L G W C : Nat → Int32) (TP U : Nat → Int64) (V' : Nat → Int) (v5 v6 : Int32), K + u = 4 → v6.toInt = (K : Int) → v5.toInt = ((lkk (gn l f) l (tldP (gn l f) (tt man) (len man) odds) K).length : Int) → (∀ w : Nat, v2.toInt = (w : Int) → w < (lkk (gn l f) l (tldP (gn l f) (tt man) (len man) odds) K).length → fd.toInt = (((lkk (gn l f) l (tldP (gn l f) (tt man) (len man) odds) K).getD w 0 : Nat) : Int)) → MR F L G V' → Off TLL V V' → E_Mo_findTold_19 vv ml mn mo fd F L G W TP U lens rows C v1 v2 x2 v5 v6 Q := by
    intro u
    induction u with
    | zero =>
      intro K fd F L G W C TP U V' v5 v6 hu h6 h5 hfd hR' hO
      have hK : K = 4 := by omega
      subst hK
      exact R_Mo_findTold_19 ⟨fun _ => R_Mo_findTold_130 (hq _ _ _ _ _ _ _ _ _ V' h5 hfd hR' hO), fun y => absurd (by rw [i_le, z_4]; omega) y⟩
    | succ u ih =>
      intro K fd F L G W C TP U V' v5 v6 hu h6 h5 hfd hR' hO
      have hp125 := pow_n3 hn.2.1 (k := K) (by omega)
      have ctxs : ∀ (u' c : Nat) (fd : Int32) (F L G W C : Nat → Int32) (TP U : Nat → Int64) (V' : Nat → Int) (v5 v7 : Int32), c + u' = gn l f ^ K → v7.toInt = (c : Int) → v5.toInt = ((lkk (gn l f) l (tldP (gn l f) (tt man) (len man) odds) K ++ lcc (gn l f) l K (tldP (gn l f) (tt man) (len man) odds K) c).length : Int) → (∀ w : Nat, v2.toInt = (w : Int) → w < (lkk (gn l f) l (tldP (gn l f) (tt man) (len man) odds) K ++ lcc (gn l f) l K (tldP (gn l f) (tt man) (len man) odds K) c).length → fd.toInt = (((lkk (gn l f) l (tldP (gn l f) (tt man) (len man) odds) K ++ lcc (gn l f) l K (tldP (gn l f) (tt man) (len man) odds K) c).getD w 0 : Nat) : Int)) → MR F L G V' → Off TLL V V' → E_Mo_findTold_28 vv ml mn mo fd F L G W TP U lens rows C v1 v2 x2 v5 v6 v7 Q := by
        intro u'
        induction u' with
        | zero =>
          intro c fd F L G W C TP U V' v5 v7 hu' h7 h5 hfd hR' hO
          have : c = gn l f ^ K := by omega
          subst this
          exact R_Mo_findTold_28 (S_Mo_contexts h h6 (by omega) fun r3 e3 => ⟨fun _ => R_Mo_findTold_124 fun x6 e6 => ih (K + 1) fd F L G W C TP U V' v5 x6 (by omega) (by rw [e6]; exact i_suc h6 (by omega)) h5 hfd hR' hO, fun y => absurd (by rw [i_le]; omega) y⟩)
        | succ u' ih' =>
          intro c fd F L G W C TP U V' v5 v7 hu' h7 h5 hfd hR' hO
          refine R_Mo_findTold_28 (S_Mo_contexts h h6 (by omega) fun r3 e3 => ⟨fun y => absurd y (by rw [i_le]; omega), fun _ => S_Mo_countBehind h hM h1 hman h6 (by omega) h7 fun r4 C' e4 hC' => R_Mo_findTold_48 ?_⟩)
          have hpl := plc_le (gn l f) (tt man) K c (len man)
          generalize hL0 : lkk (gn l f) l (tldP (gn l f) (tt man) (len man) odds) K ++ lcc (gn l f) l K (tldP (gn l f) (tt man) (len man) odds K) c = L0 at *
          have done : ∀ (fd : Int32) (F L G W : Nat → Int32) (TP U : Nat → Int64) (V' : Nat → Int) (v5 : Int32), v5.toInt = ((L0 ++ lx (gn l f) l K c (tldP (gn l f) (tt man) (len man) odds K c) (gn l f)).length : Int) → (∀ w : Nat, v2.toInt = (w : Int) → w < (L0 ++ lx (gn l f) l K c (tldP (gn l f) (tt man) (len man) odds K c) (gn l f)).length → fd.toInt = (((L0 ++ lx (gn l f) l K c (tldP (gn l f) (tt man) (len man) odds K c) (gn l f)).getD w 0 : Nat) : Int)) → MR F L G V' → Off TLL V V' → E_Mo_findTold_118 vv ml mn mo fd F L G W TP U lens rows C' v1 v2 x2 v5 v6 v7 Q := by
            intro fd F L G W TP U V' v5 h5 hfd hR' hO
            rw [← hL0, List.append_assoc] at h5 hfd
            exact R_Mo_findTold_118 fun x15 e15 => ih' (c + 1) fd F L G W C' TP U V' v5 x15 (by omega) (by rw [e15]; exact i_suc h7 (by omega)) h5 hfd hR' hO
          have thr : ∀ (w x : Nat) (fd : Int32) (F L G W : Nat → Int32) (TP U : Nat → Int64) (V' : Nat → Int) (v5 v9 : Int32), x + w = gn l f → v9.toInt = (x : Int) → v5.toInt = ((L0 ++ lx (gn l f) l K c (tldP (gn l f) (tt man) (len man) odds K c) x).length : Int) → (∀ w : Nat, v2.toInt = (w : Int) → w < (L0 ++ lx (gn l f) l K c (tldP (gn l f) (tt man) (len man) odds K c) x).length → fd.toInt = (((L0 ++ lx (gn l f) l K c (tldP (gn l f) (tt man) (len man) odds K c) x).getD w 0 : Nat) : Int)) → MR F L G V' → Off TLL V V' → E_Mo_findTold_53 vv ml mn mo fd F L G W TP U lens rows C' v1 v2 x2 v5 v6 v7 r4 v9 Q := by
            intro w
            induction w with
            | zero =>
              intro x fd F L G W TP U V' v5 v9 hw h9 h5 hfd hR' hO
              have : x = gn l f := by omega
              subst this
              exact R_Mo_findTold_53 ⟨fun _ => done fd F L G W TP U V' v5 h5 hfd hR' hO, fun y => absurd (by rw [i_le, h.2.2.2.2, h9]; omega) y⟩
            | succ w ihw =>
              intro x fd F L G W TP U V' v5 v9 hw h9 h5 hfd hR' hO
              refine R_Mo_findTold_53 ⟨fun y => absurd y (by rw [i_le, h.2.2.2.2, h9]; omega), fun _ => ⟨fun y => ?_, fun y => ?_⟩⟩
              · rw [i_le, e4, z_0] at y
                have hnil : ∀ x, tldP (gn l f) (tt man) (len man) odds K c x = false := fun x => by
                  unfold tldP toldB
                  rw [decide_eq_false (by omega), Bool.false_and]
                have e1 := lx_nil (n := gn l f) (low := l) (k := K) (c := c) hnil
                rw [e1] at h5 hfd
                exact done fd F L G W TP U V' v5 (by rw [e1]; exact h5) (by rw [e1]; exact hfd) hR' hO
              · rw [i_le, e4, z_0] at y
                have hcx := hC' x (by omega)
                have hcp := cnt_le_plc (gn l f) (tt man) K c x (len man)
                have hlx := lx_len (gn l f) l K c (tldP (gn l f) (tt man) (len man) odds K c) x
                refine S_Mo_isTold h hR' e4 (by omega) h9 (by omega) hcx hcp hx2 (by omega) fun r7 F2 L2 G2 W2 T2 U2 V2 hr hR2 hO2 _ _ => ⟨fun z => R_Mo_findTold_112 fun x16 e16 => ihw (x + 1) fd F2 L2 G2 W2 T2 U2 V2 v5 x16 (by omega) (by rw [e16]; exact i_suc h9 (by omega)) ?_ ?_ hR2 (hO.trans hO2), fun z => ?_⟩
                · have hf : tldP (gn l f) (tt man) (len man) odds K c x = false := hr.mp z
                  simp only [lx, hf]
                  simpa using h5
                · have hf : tldP (gn l f) (tt man) (len man) odds K c x = false := hr.mp z
                  simp only [lx, hf]
                  simpa using hfd
                · have ht : tldP (gn l f) (tt man) (len man) odds K c x = true := by
                    cases e : tldP (gn l f) (tt man) (len man) odds K c x with
                    | true => rfl
                    | false => exact absurd (hr.mpr e) z
                  have hlx1 : L0 ++ lx (gn l f) l K c (tldP (gn l f) (tt man) (len man) odds K c) (x + 1) = (L0 ++ lx (gn l f) l K c (tldP (gn l f) (tt man) (len man) odds K c) x) ++ [10000 * K + 10 * c + l + x] := by
                    simp only [lx, ht, if_pos]
                    rw [List.append_assoc]
                  have hv5b := i_hi v5
                  have hcode : ((10000 : Int32) * v6 + (10 : Int32) * v7 + ml + v9).toInt = ((10000 * K + 10 * c + l + x : Nat) : Int) := i_addN (i_addN (i_addN (i_mulN i_1e4 h6 (by omega)) (i_mulN i_10 h7 (by omega)) (by omega)) h.2.2.1 (by omega)) h9 (by omega)
                  have hlen780 : (L0 ++ lx (gn l f) l K c (tldP (gn l f) (tt man) (len man) odds K c) x).length ≤ 100000 := by
                    have b1 := lkk_len (gn l f) l (tldP (gn l f) (tt man) (len man) odds) K
                    have b2 := lcc_len (gn l f) l K (tldP (gn l f) (tt man) (len man) odds K) c
                    have b3 : sumN (fun k => gn l f ^ k * gn l f) K ≤ K * 625 := by
                      have : ∀ j, j ≤ 3 → sumN (fun k => gn l f ^ k * gn l f) j ≤ j * 625 := fun j => by
                        induction j with
                        | zero => intro _; simp [sumN]
                        | succ j ihj =>
                          intro hj
                          have a1 := ihj (by omega)
                          have a2 : gn l f ^ j * gn l f ≤ 125 * 5 := Nat.mul_le_mul (pow_n3 hn.2.1 (by omega)) hn.2.1
                          simp only [sumN]
                          omega
                      exact this K (by omega)
                    have b4 : c * gn l f ≤ 125 * 5 := Nat.mul_le_mul (by omega) hn.2.1
                    rw [List.length_append, ← hL0, List.length_append]
                    omega
                  have next : ∀ fd' : Int32, (v5 = v2 → fd' = (10000 : Int32) * v6 + (10 : Int32) * v7 + ml + v9) → (v5 ≠ v2 → fd' = fd) → E_Mo_findTold_109 vv ml mn mo fd' F2 L2 G2 W2 T2 U2 lens rows C' v1 v2 x2 v5 v6 v7 r4 v9 Q := by
                    intro fd' f1 f2
                    refine R_Mo_findTold_109 fun x17 e17 => R_Mo_findTold_112 fun x16 e16 => ihw (x + 1) fd' F2 L2 G2 W2 T2 U2 V2 x17 x16 (by omega) (by rw [e16]; exact i_suc h9 (by omega)) ?_ ?_ hR2 (hO.trans hO2)
                    · rw [e17, i_suc h5 (by omega), hlx1, List.length_append (bs := [_]), List.length_singleton]
                    · rw [hlx1]
                      exact push h5 hfd hcode fd' f1 f2
                  refine ⟨fun z2 => next fd (fun z3 => absurd z3 z2) (fun _ => rfl), fun z2 x14 e14 => next x14 (fun _ => e14) (fun z3 => absurd z2 z3)⟩
          exact thr (gn l f) 0 fd F L G W TP U V' v5 0 (by omega) i_0 (by simpa [lx] using h5) (by simpa [lx] using hfd) hR' hO
      exact R_Mo_findTold_19 ⟨fun y => absurd y (by rw [i_le, z_4]; omega), fun _ => ctxs (gn l f ^ K) 0 fd F L G W C TP U V' v5 0 (by omega) i_0 (by simpa [lcc] using h5) (by simpa [lcc] using hfd) hR' hO⟩
  exact loop 4 0 mf fl ll gl wk counts tp un V 0 0 (by omega) i_0 i_0 (fun w _ hw => by simp [lkk] at hw) hR (Off.refl TLL V)
theorem S_Mo_findForeseen {v1 : Int32} {man odds : Nat} {Q : Int32 → (Nat → Int32) → (Nat → Int32) → (Nat → Int32) → (Nat → Int32) → (Nat → Int64) → (Nat → Int64) → (Nat → Int32) → Prop} (h : MRu k l f m mk ml mm mn) (hM : MenR l f rows lens tt len) (hR : MR fl ll gl V) (h1 : v1.toInt = (man : Int)) (hman : man < 4) (h2 : mo.toInt = (odds : Int)) (ho : 1 ≤ odds ∧ odds ≤ 100000) (hq : ∀ (r : Int32) fl' ll' gl' wk' tp' un' counts' V', optR (frs (gn l f) (tt man) (len man) odds 4) r → (∀ K, frs (gn l f) (tt man) (len man) odds 4 = some K → CtM l f (tt man) K (cxt (gn l f) (tt man) K (len man)) (len man) counts') → MR fl' ll' gl' V' → Off TLL V V' → Q r fl' ll' gl' wk' tp' un' counts') : P_Mo_findForeseen vv ml mn mo fl ll gl wk tp un lens rows counts v1 Q := by
  have hn := gn_le h.1
  obtain ⟨hl, hl120, hrow⟩ := hM man hman
  have tb := times_bd hn.2.1 (tt man) (len man) ho.2
  refine T_Mo_findForeseen (R_Mo_findForeseen_0 (S_Mo_triedOf h hM h1 hman fun r1 e1 x2 e2 => ?_))
  have hx2 : x2.toInt = ((tri (gn l f) (tt man) (len man) * odds : Nat) : Int) := by rw [e2]; exact j_mulN (i_wide e1) (i_wide h2) (by omega)
  have loop : ∀ (i : Nat) (F L G W C : Nat → Int32) (TP U : Nat → Int64) (V' : Nat → Int) (v4 : Int32), i ≤ 4 → v4.toInt = (i : Int) - 1 → frs (gn l f) (tt man) (len man) odds 4 = frs (gn l f) (tt man) (len man) odds i → MR F L G V' → Off TLL V V' → E_Mo_findForeseen_16 vv ml mn mo F L G W TP U lens rows C v1 x2 v4 Q := by
    intro i
    induction i with
    | zero =>
      intro F L G W C TP U V' v4 _ h4 he hR' hO
      rw [he] at hq
      refine R_Mo_findForeseen_16 ⟨fun _ => R_Mo_findForeseen_118 (hq _ _ _ _ _ _ _ _ V' z_m1 (fun K hK => by simp [frs] at hK) hR' hO), fun y => absurd (by rw [i_lt, z_0]; omega) y⟩
    | succ K ih =>
      intro F L G W C TP U V' v4 hi h4 he hR' hO
      have h4' : v4.toInt = (K : Int) := by omega
      have skip : ∀ (F L G W C : Nat → Int32) (TP U : Nat → Int64) (V' : Nat → Int), ¬ (K ≤ len man ∧ anyB (tldP (gn l f) (tt man) (len man) odds K (cxt (gn l f) (tt man) K (len man))) (gn l f) = true) → MR F L G V' → Off TLL V V' → E_Mo_findForeseen_112 vv ml mn mo F L G W TP U lens rows C v1 x2 v4 Q := fun F L G W C TP U V' hno hR' hO => R_Mo_findForeseen_112 fun x6 e6 => ih F L G W C TP U V' x6 (by omega) (by rw [e6, i_add h4' z_m1 (by omega) (by omega)]; omega) (by
        rw [he]
        simp only [frs]
        rw [if_neg hno]) hR' hO
      refine R_Mo_findForeseen_16 ⟨fun y => absurd y (by rw [i_lt, z_0]; omega), fun _ => ⟨i_in h1 hman, fun y => skip F L G W C TP U V' (fun z => ?_) hR' hO, fun y => ⟨i_in h1 hman, ?_⟩⟩⟩
      · rw [i_nat h1, i_lt, hl] at y
        omega
      · rw [i_nat h1, i_lt, hl] at y
        rw [i_nat h1]
        refine S_Mo_contextAt h hM h1 hman h4' (by omega) hl (by omega) fun r3 e3 => S_Mo_countBehind h hM h1 hman h4' (by omega) e3 fun r4 C' e4 hC' => R_Mo_findForeseen_52 ?_
        have hpl := plc_le (gn l f) (tt man) K (cxt (gn l f) (tt man) K (len man)) (len man)
        have done : ∀ (F L G W : Nat → Int32) (TP U : Nat → Int64) (V' : Nat → Int) (v6 : Int32), (v6 = 0 ↔ anyB (tldP (gn l f) (tt man) (len man) odds K (cxt (gn l f) (tt man) K (len man))) (gn l f) = false) → MR F L G V' → Off TLL V V' → E_Mo_findForeseen_104 vv ml mn mo F L G W TP U lens rows C' v1 x2 v4 v6 Q := by
          intro F L G W TP U V' v6 h6 hR' hO
          refine R_Mo_findForeseen_104 ⟨fun z => skip F L G W C' TP U V' (fun z2 => ?_) hR' hO, fun z => ?_⟩
          · rw [h6.mp z] at z2
            exact absurd z2.2 (by decide)
          · have ht : anyB (tldP (gn l f) (tt man) (len man) odds K (cxt (gn l f) (tt man) K (len man))) (gn l f) = true := by
              cases e : anyB (tldP (gn l f) (tt man) (len man) odds K (cxt (gn l f) (tt man) K (len man))) (gn l f) with
              | true => rfl
              | false => exact absurd (h6.mpr e) z
            have hfr : frs (gn l f) (tt man) (len man) odds (K + 1) = some K := by
              simp only [frs]
              rw [if_pos ⟨by omega, ht⟩]
            rw [he, hfr] at hq
            refine hq _ _ _ _ _ _ _ _ V' h4' (fun K' hK' => ?_) hR' hO
            cases hK'
            exact hC'
        have thr : ∀ (w x : Nat) (F L G W : Nat → Int32) (TP U : Nat → Int64) (V' : Nat → Int) (v6 v7 : Int32), x + w = gn l f → v7.toInt = (x : Int) → (v6 = 0 ↔ anyB (tldP (gn l f) (tt man) (len man) odds K (cxt (gn l f) (tt man) K (len man))) x = false) → MR F L G V' → Off TLL V V' → E_Mo_findForeseen_60 vv ml mn mo F L G W TP U lens rows C' v1 x2 v4 r4 v6 v7 Q := by
          intro w
          induction w with
          | zero =>
            intro x F L G W TP U V' v6 v7 hw h7 h6 hR' hO
            have : x = gn l f := by omega
            subst this
            exact R_Mo_findForeseen_60 ⟨fun _ => done F L G W TP U V' v6 h6 hR' hO, fun y => absurd (by rw [i_le, h.2.2.2.2, h7]; omega) y⟩
          | succ w ihw =>
            intro x F L G W TP U V' v6 v7 hw h7 h6 hR' hO
            refine R_Mo_findForeseen_60 ⟨fun y => absurd y (by rw [i_le, h.2.2.2.2, h7]; omega), fun _ => ⟨fun y2 => ?_, fun y2 => ⟨fun y3 => R_Mo_findForeseen_91 (R_Mo_findForeseen_96 fun x14 e14 => ihw (x + 1) F L G W TP U V' 1 x14 (by omega) (by rw [e14]; exact i_suc h7 (by omega)) ?_ hR' hO), fun y3 => ?_⟩⟩⟩
            · rw [i_le, e4, z_0] at y2
              have hnil : ∀ x, tldP (gn l f) (tt man) (len man) odds K (cxt (gn l f) (tt man) K (len man)) x = false := fun x => by
                unfold tldP toldB
                rw [decide_eq_false (by omega), Bool.false_and]
              exact done F L G W TP U V' v6 (by rw [anyB_false hnil] at h6 ⊢; exact h6) hR' hO
            · refine ⟨fun z => absurd z (by decide), fun z => ?_⟩
              simp only [anyB, Bool.or_eq_false_iff] at z
              exact absurd (h6.mpr z.1) y3
            · rw [i_le, e4, z_0] at y2
              have hcx := hC' x (by omega)
              have hcp := cnt_le_plc (gn l f) (tt man) K (cxt (gn l f) (tt man) K (len man)) x (len man)
              have h6f := h6.mp y3
              refine S_Mo_isTold h hR' e4 (by omega) h7 (by omega) hcx hcp hx2 (by omega) fun r7 F2 L2 G2 W2 T2 U2 V2 hr hR2 hO2 _ _ => ⟨fun z => R_Mo_findForeseen_95 (R_Mo_findForeseen_96 fun x14 e14 => ihw (x + 1) F2 L2 G2 W2 T2 U2 V2 0 x14 (by omega) (by rw [e14]; exact i_suc h7 (by omega)) ?_ hR2 (hO.trans hO2)), fun z => R_Mo_findForeseen_91 (R_Mo_findForeseen_96 fun x14 e14 => ihw (x + 1) F2 L2 G2 W2 T2 U2 V2 1 x14 (by omega) (by rw [e14]; exact i_suc h7 (by omega)) ?_ hR2 (hO.trans hO2))⟩
              · refine ⟨fun _ => ?_, fun _ => rfl⟩
                simp only [anyB, h6f, Bool.false_or]
                exact hr.mp z
              · refine ⟨fun z2 => absurd z2 (by decide), fun z2 => ?_⟩
                simp only [anyB, h6f, Bool.false_or] at z2
                exact absurd (hr.mpr z2) z
        exact thr (gn l f) 0 F L G W TP U V' 0 0 (by omega) i_0 ⟨fun _ => rfl, fun _ => rfl⟩ hR' hO
  exact loop 4 fl ll gl wk counts tp un V 3 (Nat.le_refl _) (by rw [z_3]; rfl) rfl hR (Off.refl TLL V)
end MENM2
