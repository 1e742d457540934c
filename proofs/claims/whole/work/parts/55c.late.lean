/-! HEARD ROUNDS: late, silence -/
section LATE
variable {vv vv' : Nat → Value} {size slack : Int32} {at' sc : Nat → Int32} {hm sl : Nat} {bt : Nat → Nat} {sb : Nat → Int} {above below : Int64}
  {fl ll gl wk : Nat → Int32} {tp un : Nat → Int64} {V : Nat → Int} {oa ol ow ob mo xo : Int32} {odds : Nat}
  {sg an bn cn en : Int32} {ad bd cd ed : Nat → Int32}
abbrev LTL : List Nat := [1340, 1348, 1349, 1351, 1352, 1360, 1366, 1367, 1368, 1370]
theorem S_Mo_choose {v1 v2 v3 : Int32} {n k t : Nat} {Q : (Nat → Int32) → (Nat → Int32) → (Nat → Int32) → (Nat → Int32) → (Nat → Int64) → (Nat → Int64) → Prop} (hR : MR fl ll gl V) (h1 : v1.toInt = (n : Int)) (hn : n ≤ 60) (h2 : v2.toInt = (k : Int)) (hk : k ≤ 60) (h3 : v3.toInt = (t : Int)) (ht : t = 1348 ∨ t = 1349 ∨ t = 1368) (hq : ∀ fl' ll' gl' wk' tp' un' V', MR fl' ll' gl' V' → V' t = (ch n k : Int) → Off [t, 1351, 1352, 1360, 1370] V V' → Q fl' ll' gl' wk' tp' un') : P_Mo_choose vv fl ll gl wk tp un v1 v2 v3 Q := by
  have loop : ∀ (u i : Nat) (F L G W : Nat → Int32) (TP U : Nat → Int64) (V' : Nat → Int) (v4 : Int32), i + u = k → k ≤ n → v4.toInt = (i : Int) → MR F L G V' → Off [t, 1351, 1352, 1360, 1370] V V' → V' t = (ch n i : Int) → E_Mo_choose_22 vv F L G W TP U v1 v2 v3 v4 Q := by
    intro u
    induction u with
    | zero =>
      intro i F L G W TP U V' v4 hu hkn h4 hR' hO hv
      have : i = k := by omega
      subst this
      exact R_Mo_choose_22 ⟨fun _ => R_Mo_choose_84 (hq _ _ _ _ _ _ V' hR' hv hO), fun y => absurd (by rw [i_le]; omega) y⟩
    | succ u ih =>
      intro i F L G W TP U V' v4 hu hkn h4 hR' hO hv
      have hb := ch_bd (n := n) (k := i + 1) hn
      have hbi := ch_bd (n := n) (k := i) hn
      have hnx := ch_next n i
      have hm : (i + 1) * ch n (i + 1) ≤ 60 * 118264581564861424 := Nat.mul_le_mul (by omega) hb
      have hmul : ch n i * (n - i) = (i + 1) * ch n (i + 1) := by rw [hnx, Nat.mul_comm]
      refine R_Mo_choose_22 ⟨fun y => absurd y (by rw [i_le]; omega), fun _ => ⟨fun y => absurd y (by rw [i_lt]; omega), fun _ => S_Mo_timesSmall 3 1 hR' h3 (by omega) (i_wide (i_subN h1 h4 (by omega))) (by omega) h3 (by omega) (powN hv (by omega) (by omega)) (pow1 (by omega)) (by omega) fun F4 L4 G4 W4 hR4 => S_Mo_set hR4 c1351 (by omega) (j_addN (i_wide h4) j_1 (by omega)) (by omega) fun F5 L5 G5 hR5 => R_Mo_choose_56 ?_⟩⟩
      rw [hv, ← Int.natCast_mul] at hR5
      have hO5 := ((hO.up (t := 1370) ((n - i : Nat) : Int) (by simp)).up (t := t) ((ch n i * (n - i) : Nat) : Int) (by simp)).up (t := 1351) ((i + 1 : Nat) : Int) (by simp)
      have t5 : up (up (up V' 1370 ((n - i : Nat) : Int)) t ((ch n i * (n - i) : Nat) : Int)) 1351 ((i + 1 : Nat) : Int) t = ((ch n i * (n - i) : Nat) : Int) := by rw [up_ne (by omega), up_same]
      have s5 : up (up (up V' 1370 ((n - i : Nat) : Int)) t ((ch n i * (n - i) : Nat) : Int)) 1351 ((i + 1 : Nat) : Int) 1351 = ((i + 1 : Nat) : Int) := up_same ..
      generalize up (up (up V' 1370 ((n - i : Nat) : Int)) t ((ch n i * (n - i) : Nat) : Int)) 1351 ((i + 1 : Nat) : Int) = V5 at *
      refine S_Mo_divide hR5 h3 (by omega) c1351 (by omega) c1352 (by omega) c1360 (by omega) (by omega) (by rw [s5]; omega) (powN t5 (by omega) (by omega)) fun F6 L6 G6 W6 T6 U6 hR6 => S_Mo_copy hR6 c1352 (by omega) h3 (by omega) fun F7 L7 G7 hR7 => R_Mo_choose_78 fun x20 e20 => ?_
      have hq6 : (V5 t).tdiv (V5 1351) = (ch n (i + 1) : Int) := by
        rw [t5, s5]
        show ((ch n i * (n - i) / (i + 1) : Nat) : Int) = _
        congr 1
        apply Nat.div_eq_of_eq_mul_right (by omega)
        exact hmul
      rw [up_ne (f := up V5 1352 _) (show 1352 ≠ 1360 by omega), up_same, hq6] at hR7
      exact ih (i + 1) F7 L7 G7 W6 T6 U6 _ x20 (by omega) hkn (by rw [e20]; exact i_suc h4 (by omega)) hR7 (((hO5.up _ (by simp)).up _ (by simp)).up _ (by simp)) (up_same ..)
  have start0 : n < k → E_Mo_choose_11 vv fl ll gl wk tp un v1 v2 v3 v3 Q := fun e => R_Mo_choose_11 (R_Mo_choose_16 (S_Mo_set hR h3 (by omega) zL0 (by omega) fun F1 L1 G1 hR1 => by
    have hv : up V t 0 t = (ch n k : Int) := by rw [up_same, ch_gt e]; rfl
    have hO := (Off.refl [t, 1351, 1352, 1360, 1370] V).up (t := t) 0 (by simp)
    exact R_Mo_choose_22 ⟨fun _ => R_Mo_choose_84 (hq _ _ _ _ _ _ _ hR1 hv hO), fun _ => ⟨fun _ => R_Mo_choose_84 (hq _ _ _ _ _ _ _ hR1 hv hO), fun y => absurd (by rw [i_lt]; omega) y⟩⟩))
  refine T_Mo_choose (R_Mo_choose_0 ⟨fun e => absurd e (by rw [i_lt, z_0]; omega), fun e => ⟨fun e2 => R_Mo_choose_15 (R_Mo_choose_16 (S_Mo_set hR h3 (by omega) zL1 (by omega) fun F1 L1 G1 hR1 => loop k 0 F1 L1 G1 wk tp un _ 0 (by omega) ?_ i_0 hR1 ((Off.refl _ V).up _ (by simp)) (by rw [up_same, ch_n0]; rfl))), fun e2 => start0 ?_⟩⟩)
  · rw [i_le, h1, h2] at e2; omega
  · rw [i_le, h1, h2] at e2; omega
theorem laR_le {N K W w : Nat} (hK : w ≤ K) (hW : w ≤ W) (hKN : K ≤ N) : laR N K W w ≤ ch N W := by
  have h := vander (N - K) K W
  rw [show K + (N - K) = N by omega] at h
  rw [← h]
  unfold laR
  have h1 := sumN_off (fun i => ch K i * ch (N - K) (W - i)) w (W + 1 - w)
  have h2 := sumN_le (g := fun i => ch K i * ch (N - K) (W - i)) (m := w + (W + 1 - w)) (n := W + 1) (by omega)
  omega
abbrev laTop (bt : Nat → Nat) (sb : Nat → Int) (sl hm p : Nat) : Nat := laA (bN bt sb sl hm p) (bK bt sb sl hm p) (bW bt sb sl hm p) (bB bt sb sl hm p)
abbrev laBot (bt : Nat → Nat) (sb : Nat → Int) (sl hm p : Nat) : Nat := ch (bN bt sb sl hm p) (bK bt sb sl hm p)
theorem S_F_late {v1 : Int32} {Q : Int32 → Int32 → Int32 → (Nat → Int32) → Int32 → (Nat → Int32) → Int64 → Int64 → Prop} (h : BtR size at' sc hm bt sb) (hsl : slack.toInt = (sl : Int)) (hsl' : sl ≤ 1000) (h2 : xo.toInt = (odds : Int)) (ho : 1 ≤ odds ∧ odds ≤ 100000) (hq0 : ¬ (v1.toInt = 0 ∨ v1.toInt = 1) → Q (-2) sg an ad bn bd above below) (hq : (v1.toInt = 0 ∨ v1.toInt = 1) → ∀ (r : Int32) sg' an' ad' bn' bd' above' below', r.toInt = (if laTop bt sb sl hm v1.toInt.toNat * odds ≤ laBot bt sb sl hm v1.toInt.toNat then 1 else 0) → FS sg' an' ad' bn' bd' (laTop bt sb sl hm v1.toInt.toNat) (laBot bt sb sl hm v1.toInt.toNat) → Q r sg' an' ad' bn' bd' above' below') : P_F_late xo sg an ad bn bd cn cd en ed size slack above below at' sc v1 Q := by
  refine T_F_late (R_F_late_0 (S_F_either fun r1 h1 => ⟨fun e => R_F_late_10 ?_, fun e => hq0 ((bz h1).mp e)⟩))
  have e' := Classical.not_not.mp (mt (bz h1).mpr e)
  have hrel := btN_rel bt sb sl v1.toInt.toNat hm
  have hpos := ch_pos (n := btN bt sb sl v1.toInt.toNat 0 hm) (k := btN bt sb sl v1.toInt.toNat 1 hm) hrel.2.2.1
  refine S_Beats_work (p := v1.toInt.toNat) h hsl hsl' (by omega) (by omega) fun A B hA hB => S_Frac_become hA hB hpos (by omega) fun sg' an' ad' bn' bd' hF x9 e9 => ?_
  have hx9 : x9.toInt64.toInt = (odds : Int) := by rw [e9]; exact i_wide (i_max1 h2 ho.1)
  refine ⟨by rw [j_eq, hx9, zL0]; omega, ?_⟩
  rw [lg_gt0, j_divN hB hx9, hA]
  have hle := Nat.le_div_iff_mul_le (x := laTop bt sb sl hm v1.toInt.toNat) (y := laBot bt sb sl hm v1.toInt.toNat) (k := odds) (by omega)
  refine ⟨fun y => R_F_late_71 (R_F_late_72 (hq e' _ _ _ _ _ _ _ _ ?_ hF)), fun y => R_F_late_72 (hq e' _ _ _ _ _ _ _ _ ?_ hF)⟩
  · rw [if_neg (fun z => Nat.not_lt_of_le (hle.mpr z) (Int.ofNat_lt.mp y)), z_0]
  · rw [if_pos (hle.mp (Nat.le_of_not_lt fun w => y (Int.ofNat_lt.mpr w))), z_1]
theorem S_Mo_late {v1 : Int32} {Q : Int32 → Int32 → Int32 → Int32 → Int32 → (Nat → Int32) → (Nat → Int32) → (Nat → Int32) → (Nat → Int32) → (Nat → Int64) → (Nat → Int64) → Prop} (h : BtR size at' sc hm bt sb) (hsl : slack.toInt = (sl : Int)) (hsl' : sl ≤ 1000) (hR : MR fl ll gl V) (h2 : mo.toInt = (odds : Int)) (ho : 1 ≤ odds ∧ odds ≤ 100000) (hq0 : ¬ (v1.toInt = 0 ∨ v1.toInt = 1) → Q (-2) oa ol ow ob fl ll gl wk tp un) (hq : (v1.toInt = 0 ∨ v1.toInt = 1) → ∀ (r a b c d : Int32) fl' ll' gl' wk' tp' un' V', r.toInt = (if laTop bt sb sl hm v1.toInt.toNat * odds ≤ laBot bt sb sl hm v1.toInt.toNat then 1 else 0) → MR fl' ll' gl' V' → Off (1344 :: 1345 :: (LTL ++ SCR)) V V' → FM V' (laTop bt sb sl hm v1.toInt.toNat) (laBot bt sb sl hm v1.toInt.toNat) → Q r a b c d fl' ll' gl' wk' tp' un') : P_Mo_late vv mo size slack oa ol ow ob fl ll gl wk tp un at' sc v1 Q := by
  refine T_Mo_late (R_Mo_late_0 (S_Mo_in32 zL0 zL1 fun r1 h1 => ⟨fun e => R_Mo_late_13 ?_, fun e => hq0 (by have := (bz h1).mp e; omega)⟩))
  have e' := Classical.not_not.mp (mt (bz h1).mpr e)
  have hq := hq (by omega)
  have hrel := btN_rel bt sb sl v1.toInt.toNat hm
  have hN := btN_le bt sb sl v1.toInt.toNat 0 hm
  have h60 := h.1
  unfold laTop laBot bN bK bW bB at hq
  refine S_Mo_findLates (p := v1.toInt.toNat) h hsl hsl' (by omega) (by omega) fun a b c d ea eb ec ed => S_Mo_set hR c1367 (by omega) zL0 (by omega) fun F1 L1 G1 hR1 => R_Mo_late_26 ?_
  generalize btN bt sb sl v1.toInt.toNat 0 hm = N at *
  generalize btN bt sb sl v1.toInt.toNat 1 hm = K at *
  generalize btN bt sb sl v1.toInt.toNat 2 hm = W at *
  generalize btN bt sb sl v1.toInt.toNat 3 hm = w at *
  have hpW := ch_pos (n := N) (k := W) hrel.2.2.2
  have hpK := ch_pos (n := N) (k := K) hrel.2.2.1
  have hlR := laR_le (N := N) (K := K) (W := W) (w := w) hrel.1 hrel.2.1 hrel.2.2.1
  have hbW := ch_bd (n := N) (k := W) (by omega)
  have heq := la_eq (N := N) (K := K) (W := W) (w := w) hrel.1 hrel.2.1 hrel.2.2.1 hrel.2.2.2
  have h5120 : 118264581564861424 ≤ 5 ^ 120 := by decide
  have fin : ∀ (F L G Wk : Nat → Int32) (TP U : Nat → Int64) (V' : Nat → Int), MR F L G V' → Off LTL V V' → V' 1367 = (laR N K W w : Int) → E_Mo_late_105 vv mo size slack a b c d F L G Wk TP U at' sc Q := by
    intro F L G Wk TP U V' hR' hO hs
    refine R_Mo_late_105 (S_Mo_choose hR' ea (by omega) ec (by omega) c1368 (Or.inr (Or.inr rfl)) fun F2 L2 G2 W2 T2 U2 V2 hR2 d2 hO2 => ?_)
    have s2 : V2 1367 = (laR N K W w : Int) := by rw [hO2 _ (by simp)]; exact hs
    refine S_Mo_isRare hR2 s2 (by omega) d2 (i_wide h2) (by omega) fun r27 F3 L3 G3 W3 V3 hr hR3 hO3 k1 k2 => R_Mo_late_129 ?_
    have s3 : V3 1367 = (laR N K W w : Int) := by rw [k1]; exact s2
    have d3 : V3 1368 = (ch N W : Int) := by rw [k2]; exact d2
    refine S_Mo_tell hR3 c1367 (by omega) c1368 (by omega) (by omega) (by rw [d3]; omega) (powN s3 (by omega) (by omega)) (powN d3 (by omega) (by omega)) fun F4 L4 G4 W4 T4 U4 V4 hR4 hO4 n4 d4 => ?_
    rw [s3, d3] at n4 d4
    have hFM : FM V4 (laA N K W w : Int) (ch N K) := (FM.told (a := (laR N K W w : Int)) rfl hpW n4 d4).congr hpK (by rw [← Int.natCast_mul, ← Int.natCast_mul, heq])
    have hOO := (((hO.mono (L' := 1344 :: 1345 :: (LTL ++ SCR)) (by simp)).trans (hO2.mono (by simp))).trans (hO3.mono (by simp))).trans (hO4.mono (by simp))
    have hiff : laR N K W w * odds ≤ ch N W ↔ laA N K W w * odds ≤ ch N K := by
      constructor
      · intro z
        apply Nat.le_of_mul_le_mul_right _ hpW
        calc laA N K W w * odds * ch N W = laA N K W w * ch N W * odds := by ac_rfl
          _ = laR N K W w * odds * ch N K := by rw [heq]; ac_rfl
          _ ≤ ch N W * ch N K := Nat.mul_le_mul_right _ z
          _ = ch N K * ch N W := Nat.mul_comm _ _
      · intro z
        apply Nat.le_of_mul_le_mul_right _ hpK
        calc laR N K W w * odds * ch N K = laR N K W w * ch N K * odds := by ac_rfl
          _ = laA N K W w * odds * ch N W := by rw [← heq]; ac_rfl
          _ ≤ ch N K * ch N W := Nat.mul_le_mul_right _ z
          _ = ch N W * ch N K := Nat.mul_comm _ _
    refine ⟨fun y => R_Mo_late_148 (R_Mo_late_149 (hq _ _ _ _ _ _ _ _ _ _ _ V4 ?_ hR4 hOO hFM)), fun y => R_Mo_late_149 (hq _ _ _ _ _ _ _ _ _ _ _ V4 ?_ hR4 hOO hFM)⟩
    · rw [bz hr, hiff] at y
      rw [if_neg y, z_0]
    · rw [bz hr, hiff] at y
      rw [if_pos (Classical.not_not.mp y), z_1]
  have loop : ∀ (u t : Nat) (F L G Wk : Nat → Int32) (TP U : Nat → Int64) (V' : Nat → Int) (v2 : Int32), t + u = W + 1 - w → v2.toInt = ((w + t : Nat) : Int) → MR F L G V' → Off LTL V V' → V' 1367 = (sumN (fun t => ch K (w + t) * ch (N - K) (W - (w + t))) t : Int) → E_Mo_late_31 vv mo size slack a b c d F L G Wk TP U at' sc v2 Q := by
    intro u
    induction u with
    | zero =>
      intro t F L G Wk TP U V' v2 hu h2' hR' hO hs
      have ht : t = W + 1 - w := by omega
      subst ht
      exact R_Mo_late_31 ⟨fun _ => fin F L G Wk TP U V' hR' hO hs, fun y => absurd (by rw [i_lt]; omega) y⟩
    | succ u ih =>
      intro t F L G Wk TP U V' v2 hu h2' hR' hO hs
      have hs1 := sumN_le (g := fun t => ch K (w + t) * ch (N - K) (W - (w + t))) (m := t + 1) (n := W + 1 - w) (by omega)
      have hs2 : sumN (fun t => ch K (w + t) * ch (N - K) (W - (w + t))) (t + 1) = sumN (fun t => ch K (w + t) * ch (N - K) (W - (w + t))) t + ch K (w + t) * ch (N - K) (W - (w + t)) := rfl
      have hla : laR N K W w = sumN (fun t => ch K (w + t) * ch (N - K) (W - (w + t))) (W + 1 - w) := rfl
      have cb1 := ch_bd (n := K) (k := w + t) (by omega)
      have cb2 := ch_bd (n := N - K) (k := W - (w + t)) (by omega)
      refine R_Mo_late_31 ⟨fun y => absurd y (by rw [i_lt]; omega), fun _ => S_Mo_choose hR' eb (by omega) h2' (by omega) c1348 (Or.inl rfl) fun F2 L2 G2 W2 T2 U2 V2 hR2 p2 hO2 => S_Mo_choose hR2 (i_subN ea eb (by omega)) (by omega) (i_subN ec h2' (by omega)) (by omega) c1349 (Or.inr (Or.inl rfl)) fun F3 L3 G3 W3 T3 U3 V3 hR3 q3 hO3 => R_Mo_late_73 ?_⟩
      have p3 : V3 1348 = (ch K (w + t) : Int) := by rw [hO3 _ (by simp)]; exact p2
      have s3 : V3 1367 = (sumN (fun t => ch K (w + t) * ch (N - K) (W - (w + t))) t : Int) := by rw [hO3 _ (by simp), hO2 _ (by simp)]; exact hs
      refine S_Mo_times 3 3 hR3 c1348 (by omega) c1349 (by omega) c1366 (by omega) (powN p3 (by omega) (by omega)) (powN q3 (by omega) (by omega)) (by omega) fun F4 L4 G4 W4 hR4 => ?_
      rw [p3, q3, ← Int.natCast_mul] at hR4
      have t4 : up V3 1366 ((ch K (w + t) * ch (N - K) (W - (w + t)) : Nat) : Int) 1366 = ((ch K (w + t) * ch (N - K) (W - (w + t)) : Nat) : Int) := up_same ..
      have s4 : up V3 1366 ((ch K (w + t) * ch (N - K) (W - (w + t)) : Nat) : Int) 1367 = (sumN (fun t => ch K (w + t) * ch (N - K) (W - (w + t))) t : Int) := by rw [up_ne (by omega), s3]
      refine S_Mo_add hR4 c1367 (by omega) c1366 (by omega) c1367 (by omega) (powN s4 (by omega) (by omega)) (powN t4 (by omega) (by omega)) fun F5 L5 G5 hR5 => R_Mo_late_99 fun x45 e45 => ?_
      refine ih (t + 1) F5 L5 G5 W4 T3 U3 _ x45 (by omega) (by rw [e45, i_suc h2' (by omega)]; omega) hR5 ((((hO.trans (hO2.mono (by simp))).trans (hO3.mono (by simp))).up _ (by simp)).up _ (by simp)) ?_
      rw [up_same, s4, t4, hs2]
      omega
  exact loop (W + 1 - w) 0 F1 L1 G1 wk tp un _ d (by omega) ed hR1 ((Off.refl LTL V).up _ (by simp)) (up_same ..)
theorem S_F_silence {Q : Int32 → Int32 → Prop} (h : BtR size at' sc hm bt sb) (hq : ∀ r size' : Int32, r.toInt = (hm : Int) → BtR size' at' sc 0 bt sb → Q r size') : P_F_silence vv vv' size Q := T_F_silence (R_F_silence_0 (T_Beats_clear (R_Beats_clear_0 (hq _ _ h.2.1 ⟨by omega, i_0, fun i hi => by omega, fun r hr => by omega⟩))))
theorem S_Mo_silence {Q : Int32 → Int32 → Prop} (h : BtR size at' sc hm bt sb) (hq : ∀ r size' : Int32, r.toInt = (hm : Int) → BtR size' at' sc 0 bt sb → Q r size') : P_Mo_silence vv size Q := T_Mo_silence (R_Mo_silence_0 (hq _ _ h.2.1 ⟨by omega, i_0, fun i hi => by omega, fun r hr => by omega⟩))
end LATE
