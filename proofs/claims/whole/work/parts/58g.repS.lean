/-! AN ANSWER in the reference: the share -/
section REPS
variable {vv : Nat → Value} {k l f m : Nat} {T : Nat → Nat → Int} {d : Int} {ins : Nat → Nat} {n : Nat} {mk ml mm mn mw mg : Int32} {fl ll gl wk gin : Nat → Int32} {tp un : Nat → Int64} {V : Nat → Int}
theorem low_all {a b : Int} (ha : 0 ≤ a) (hb : 0 < b) : 0 ≤ lowN a b ∧ lowN a b ≤ a ∧ 0 < lowD a b ∧ lowD a b ≤ b ∧ lowN a b * b = a * lowD a b := by
  obtain ⟨q, rfl⟩ := Int.eq_ofNat_of_zero_le (Int.le_of_lt hb)
  obtain ⟨p, rfl⟩ := Int.eq_ofNat_of_zero_le ha
  have hq : 0 < q := by omega
  obtain ⟨h1, h2⟩ := low_eq (p := (p : Int)) hq
  obtain ⟨c1, c2, c3, c4, c5⟩ := qab_coprime (p := (p : Int)) hq
  rw [Int.natAbs_natCast] at c2
  have hs : ((p : Int)).sign * (qa (p : Int) q : Int) = (qa (p : Int) q : Int) := by
    by_cases e : p = 0
    · subst e
      have : qa (0 : Int) q = 0 := by
        unfold qa
        simp
      simp [this]
    · rw [Int.sign_eq_one_of_pos (by omega), Int.one_mul]
  rw [h1, h2, hs]
  rw [Int.natAbs_natCast] at c3 c5
  generalize Nat.gcd p q = g at *
  generalize qa (p : Int) q = A at *
  generalize qb (p : Int) q = B at *
  have le1 : A ≤ p := by rw [c2]; exact Nat.le_mul_of_pos_right A c5
  have le2 : B ≤ q := by rw [c3]; exact Nat.le_mul_of_pos_right B c5
  refine ⟨by omega, by omega, by omega, by omega, ?_⟩
  have : A * q = p * B := by
    calc A * q = A * (B * g) := by rw [← c3]
      _ = A * g * B := by rw [Nat.mul_comm B g, Nat.mul_assoc]
      _ = p * B := by rw [← c2]
  exact_mod_cast this
def SHL : List Nat := 1340 :: 1341 :: 1361 :: 1362 :: 1363 :: 1364 :: 1365 :: 1370 :: SCR
theorem SHL_hi : ∀ s, s ∈ SHL → 1326 ≤ s := by decide
theorem S_Mo_findShare {v1 v2 : Int32} {i : Nat} {e : Int} {Q : (Nat → Int32) → (Nat → Int32) → (Nat → Int32) → (Nat → Int32) → (Nat → Int64) → (Nat → Int64) → Prop} (h : MRu k l f m mk ml mm mn) (hG : GameOf k l f m T d ins n) (hw : mw.toInt = (gw k l f : Int)) (hg : mg.toInt = (bnd k f : Int)) (hI : IR gin ins (gw k l f)) (hM : GM V T (gw k l f)) (hD : V 1343 = d) (hZ : V 1358 = T (gw k l f) (2 * gw k l f)) (hR : MR fl ll gl V) (h1 : v1.toInt = (i : Int)) (hi : i < gw k l f) (h2 : v2.toInt = e) (he : 0 ≤ e ∧ e ≤ 9000) (hq : ∀ fl' ll' gl' wk' tp' un' V', MR fl' ll' gl' V' → Off SHL V V' → 0 ≤ V' 1363 ∧ V' 1363 ≤ 52428775000 → 0 < V' 1364 ∧ V' 1364 ≤ 33554416000 → V' 1363 * (1000 * (stR k l f m T d ins e i).2) = (stR k l f m T d ins e i).1 * V' 1364 → Q fl' ll' gl' wk' tp' un') : P_Mo_findShare vv mk ml mm mn mw mg fl ll gl wk tp un gin v1 v2 Q := by
  have hr := h.1
  have hw25 := gw_le hr
  obtain ⟨f1, f2, f3, f4, _⟩ := hG.fct hr
  have f3' : -(8 * T (gw k l f) (2 * gw k l f)) ≤ vaZ k l f T d := f3
  have hpj : ∀ j, j < gw k l f → vaZ k l f T d ≤ erng k l f m T ins 0 j ∧ erng k l f m T ins 0 j ≤ 8 * T (gw k l f) (2 * gw k l f) ∧ -8 ≤ payI k l f m i j ∧ payI k l f m i j ≤ 8 := fun j hj => ⟨(f4 j hj).1, (f4 j hj).2, pay_bd hr hi hj⟩
  have loop : ∀ (w j : Nat) (F L G WK : Nat → Int32) (TP UN : Nat → Int64) (V' : Nat → Int) (v3 : Int32), j + w = gw k l f → v3.toInt = (j : Int) → MR F L G V' → Off SHL V V' → 0 ≤ V' 1363 ∧ V' 1363 ≤ 52428775000 → 0 < V' 1364 ∧ V' 1364 ≤ 33554416000 → V' 1363 * (1000 * (stI (erng k l f m T ins 0) (payI k l f m i) (T (gw k l f) (2 * gw k l f)) (vaZ k l f T d) e j).2) = (stI (erng k l f m T ins 0) (payI k l f m i) (T (gw k l f) (2 * gw k l f)) (vaZ k l f T d) e j).1 * V' 1364 → E_Mo_findShare_18 vv mk ml mm mn mw mg F L G WK TP UN gin v1 v2 v3 Q := by
    intro w
    induction w with
    | zero =>
      intro j F L G WK TP UN V' v3 hj h3 hR' hO hN hDd heq
      have : j = gw k l f := by omega
      subst this
      exact R_Mo_findShare_18 ⟨fun _ => R_Mo_findShare_222 (hq F L G WK TP UN V' hR' hO hN hDd heq), fun z => absurd (by rw [i_le, hw, h3]; omega) z⟩
    | succ w ih =>
      intro j F L G WK TP UN V' v3 hj h3 hR' hO hN hDd heq
      obtain ⟨p1, p2, p3, p4⟩ := hpj j (by omega)
      have sb := stI_bd (er := erng k l f m T ins 0) (py := payI k l f m i) (z := T (gw k l f) (2 * gw k l f)) (va := vaZ k l f T d) f1 he f3 (n := j) (fun j hj => hpj j (by omega))
      have hM' : GM V' T (gw k l f) := hM.off hO hw25.2 SHL_hi
      refine R_Mo_findShare_18 ⟨fun z => absurd z (by rw [i_le, hw, h3]; omega), fun _ => S_Mo_bringsTimes (p := 0) h hG hw hI hM' hR' i_0 h3 (by omega) c1340 (by omega) (by omega) (by omega) fun F1 L1 G1 W1 V1 hR1 a1 hO1 => S_Mo_payOf h h1 hi h3 (by omega) fun r11 e11 => R_Mo_findShare_45 ?_⟩
      have z1 : V1 1358 = T (gw k l f) (2 * gw k l f) := by rw [hO1 _ (by decide), hO _ (by decide), hZ]
      have d1 : V1 1343 = d := by rw [hO1 _ (by decide), hO _ (by decide), hD]
      have n1 : V1 1363 = V' 1363 := hO1 _ (by decide)
      have m1 : V1 1364 = V' 1364 := hO1 _ (by decide)
      have hO1' : Off SHL V V1 := hO.trans (hO1.mono (by decide))
      have next : ∀ (F L G WK : Nat → Int32) (TP UN : Nat → Int64) (V' : Nat → Int), MR F L G V' → Off SHL V V' → 0 ≤ V' 1363 ∧ V' 1363 ≤ 52428775000 → 0 < V' 1364 ∧ V' 1364 ≤ 33554416000 → V' 1363 * (1000 * (stI (erng k l f m T ins 0) (payI k l f m i) (T (gw k l f) (2 * gw k l f)) (vaZ k l f T d) e (j + 1)).2) = (stI (erng k l f m T ins 0) (payI k l f m i) (T (gw k l f) (2 * gw k l f)) (vaZ k l f T d) e (j + 1)).1 * V' 1364 → E_Mo_findShare_216 vv mk ml mm mn mw mg F L G WK TP UN gin v1 v2 v3 Q := fun F L G WK TP UN V' a b c d' e' => R_Mo_findShare_216 fun x26 e26 => ih (j + 1) F L G WK TP UN V' x26 (by omega) (by rw [e26]; exact i_suc h3 (by omega)) a b c d' e'
      clear ih
      have hval : d - bnd k f * T (gw k l f) (2 * gw k l f) = vaZ k l f T d := rfl
      have ez : 0 ≤ e * T (gw k l f) (2 * gw k l f) := Int.mul_nonneg he.1 (by omega)
      have ez2 : e * T (gw k l f) (2 * gw k l f) ≤ 9000 * T (gw k l f) (2 * gw k l f) := Int.mul_le_mul_of_nonneg_right he.2 (by omega)
      have pz : -8 * T (gw k l f) (2 * gw k l f) ≤ payI k l f m i j * T (gw k l f) (2 * gw k l f) := Int.mul_le_mul_of_nonneg_right p3 (by omega)
      have pz2 : payI k l f m i j * T (gw k l f) (2 * gw k l f) ≤ 8 * T (gw k l f) (2 * gw k l f) := Int.mul_le_mul_of_nonneg_right p4 (by omega)
      simp only [stI] at next
      generalize hS : stI (erng k l f m T ins 0) (payI k l f m i) (T (gw k l f) (2 * gw k l f)) (vaZ k l f T d) e j = S at *
      -- what it falls by
      refine S_Mo_timesSmall 1 1 hR1 c1358 (by omega) (i_wide e11) (by omega) c1341 (by omega) (by rw [z1]; exact pow1 (by omega)) (pow1 (by omega)) (by omega) fun F2 L2 G2 W2 hR2 => ?_
      rw [z1] at hR2
      have a2 : up (up V1 1370 (payI k l f m i j)) 1341 (T (gw k l f) (2 * gw k l f) * payI k l f m i j) 1340 = erng k l f m T ins 0 j := by rw [up_ne (by decide), up_ne (by decide), a1]
      have b2 : up (up V1 1370 (payI k l f m i j)) 1341 (T (gw k l f) (2 * gw k l f) * payI k l f m i j) 1341 = payI k l f m i j * T (gw k l f) (2 * gw k l f) := by rw [up_same, Int.mul_comm]
      have hO2 : Off SHL V (up (up V1 1370 (payI k l f m i j)) 1341 (T (gw k l f) (2 * gw k l f) * payI k l f m i j)) := (hO1'.up _ (by decide)).up _ (by decide)
      have z2 : up (up V1 1370 (payI k l f m i j)) 1341 (T (gw k l f) (2 * gw k l f) * payI k l f m i j) 1358 = T (gw k l f) (2 * gw k l f) := by rw [up_ne (by decide), up_ne (by decide), z1]
      have d2 : up (up V1 1370 (payI k l f m i j)) 1341 (T (gw k l f) (2 * gw k l f) * payI k l f m i j) 1343 = d := by rw [up_ne (by decide), up_ne (by decide), d1]
      have n2 : up (up V1 1370 (payI k l f m i j)) 1341 (T (gw k l f) (2 * gw k l f) * payI k l f m i j) 1363 = V' 1363 := by rw [up_ne (by decide), up_ne (by decide), n1]
      have m2 : up (up V1 1370 (payI k l f m i j)) 1341 (T (gw k l f) (2 * gw k l f) * payI k l f m i j) 1364 = V' 1364 := by rw [up_ne (by decide), up_ne (by decide), m1]
      generalize up (up V1 1370 (payI k l f m i j)) 1341 (T (gw k l f) (2 * gw k l f) * payI k l f m i j) = V2 at *
      refine S_Mo_less hR2 c1340 (by omega) c1341 (by omega) c1365 (by omega) (by rw [a2]; exact powB (pow2 (by omega) (by omega)) (by omega)) (by rw [b2]; exact powB (pow2 (by omega) (by omega)) (by omega)) fun F3 L3 G3 hR3 => R_Mo_findShare_65 ⟨i_in c1365 (by omega), ?_⟩
      rw [a2, b2] at hR3
      have hsg := hR3.sgn (s := 1365) (by omega)
      rw [up_same] at hsg
      have a3 : up V2 1365 (erng k l f m T ins 0 j - payI k l f m i j * T (gw k l f) (2 * gw k l f)) 1340 = erng k l f m T ins 0 j := by rw [up_ne (by decide), a2]
      have g3 : up V2 1365 (erng k l f m T ins 0 j - payI k l f m i j * T (gw k l f) (2 * gw k l f)) 1365 = erng k l f m T ins 0 j - payI k l f m i j * T (gw k l f) (2 * gw k l f) := up_same ..
      have z3 : up V2 1365 (erng k l f m T ins 0 j - payI k l f m i j * T (gw k l f) (2 * gw k l f)) 1358 = T (gw k l f) (2 * gw k l f) := by rw [up_ne (by decide), z2]
      have d3 : up V2 1365 (erng k l f m T ins 0 j - payI k l f m i j * T (gw k l f) (2 * gw k l f)) 1343 = d := by rw [up_ne (by decide), d2]
      have n3 : up V2 1365 (erng k l f m T ins 0 j - payI k l f m i j * T (gw k l f) (2 * gw k l f)) 1363 = V' 1363 := by rw [up_ne (by decide), n2]
      have m3 : up V2 1365 (erng k l f m T ins 0 j - payI k l f m i j * T (gw k l f) (2 * gw k l f)) 1364 = V' 1364 := by rw [up_ne (by decide), m2]
      have hO3 : Off SHL V (up V2 1365 (erng k l f m T ins 0 j - payI k l f m i j * T (gw k l f) (2 * gw k l f))) := hO2.up _ (by decide)
      generalize up V2 1365 (erng k l f m T ins 0 j - payI k l f m i j * T (gw k l f) (2 * gw k l f)) = V3 at *
      rw [i_nat c1365, i_le, hsg, z_0]
      have hsc := sgn_cases (erng k l f m T ins 0 j - payI k l f m i j * T (gw k l f) (2 * gw k l f))
      refine ⟨fun y => next F3 L3 G3 W2 TP UN V3 hR3 hO3 (by rw [n3]; exact hN) (by rw [m3]; exact hDd) ?_, fun y => ?_⟩
      · rw [if_neg (fun q => by omega), n3, m3]
        exact heq
      · have hfall : 0 < erng k l f m T ins 0 j - payI k l f m i j * T (gw k l f) (2 * gw k l f) := by omega
        refine S_Mo_valueTimes hr hG hg d3 z3 hR3 c1341 (by omega) (by omega) fun F4 L4 G4 W4 V4 hR4 b4 hO4 => ?_
        rw [hval] at b4
        have a4 : V4 1340 = erng k l f m T ins 0 j := by rw [hO4 _ (by decide), a3]
        have g4 : V4 1365 = erng k l f m T ins 0 j - payI k l f m i j * T (gw k l f) (2 * gw k l f) := by rw [hO4 _ (by decide), g3]
        have z4 : V4 1358 = T (gw k l f) (2 * gw k l f) := by rw [hO4 _ (by decide), z3]
        have n4 : V4 1363 = V' 1363 := by rw [hO4 _ (by decide), n3]
        have m4 : V4 1364 = V' 1364 := by rw [hO4 _ (by decide), m3]
        have hO4' : Off SHL V V4 := hO3.trans (hO4.mono (by decide))
        refine S_Mo_less hR4 c1340 (by omega) c1341 (by omega) c1340 (by omega) (by rw [a4]; exact powB (pow2 (by omega) (by omega)) (by omega)) (by rw [b4]; exact powB (pow2 (by omega) (by omega)) (by omega)) fun F5 L5 G5 hR5 => R_Mo_findShare_96 ?_
        rw [a4, b4] at hR5
        generalize hER : erng k l f m T ins 0 j = E at *
        generalize hPY : payI k l f m i j = Y at *
        generalize hZZ : T (gw k l f) (2 * gw k l f) = z at *
        generalize hVA : vaZ k l f T d = va at *
        refine S_Mo_timesSmall 2 1 hR5 c1340 (by omega) (show (1000 : Int64).toInt = 1000 by decide) (by omega) c1340 (by omega) (by rw [up_same]; exact pow2 (by omega) (by omega)) (pow1 (by omega)) (by omega) fun F6 L6 G6 W6 hR6 => ?_
        rw [up_same] at hR6
        have a6 : up (up (up V4 1340 (E - va)) 1370 1000) 1340 ((E - va) * 1000) 1340 = (E - va) * 1000 := up_same ..
        have g6 : up (up (up V4 1340 (E - va)) 1370 1000) 1340 ((E - va) * 1000) 1365 = E - Y * z := by rw [up_ne (by decide), up_ne (by decide), up_ne (by decide), g4]
        have z6 : up (up (up V4 1340 (E - va)) 1370 1000) 1340 ((E - va) * 1000) 1358 = z := by rw [up_ne (by decide), up_ne (by decide), up_ne (by decide), z4]
        have n6 : up (up (up V4 1340 (E - va)) 1370 1000) 1340 ((E - va) * 1000) 1363 = V' 1363 := by rw [up_ne (by decide), up_ne (by decide), up_ne (by decide), n4]
        have m6 : up (up (up V4 1340 (E - va)) 1370 1000) 1340 ((E - va) * 1000) 1364 = V' 1364 := by rw [up_ne (by decide), up_ne (by decide), up_ne (by decide), m4]
        have hO6 : Off SHL V (up (up (up V4 1340 (E - va)) 1370 1000) 1340 ((E - va) * 1000)) := ((hO4'.up _ (by decide)).up _ (by decide)).up _ (by decide)
        generalize up (up (up V4 1340 (E - va)) 1370 1000) 1340 ((E - va) * 1000) = V6 at *
        refine S_Mo_timesSmall 1 1 hR6 c1358 (by omega) (i_wide h2) (by omega) c1341 (by omega) (by rw [z6]; exact pow1 (by omega)) (pow1 (by omega)) (by omega) fun F7 L7 G7 W7 hR7 => R_Mo_findShare_121 ?_
        rw [z6, Int.mul_comm z e] at hR7
        have a7 : up (up V6 1370 e) 1341 (e * z) 1340 = (E - va) * 1000 := by rw [up_ne (by decide), up_ne (by decide), a6]
        have b7 : up (up V6 1370 e) 1341 (e * z) 1341 = e * z := up_same ..
        have g7 : up (up V6 1370 e) 1341 (e * z) 1365 = E - Y * z := by rw [up_ne (by decide), up_ne (by decide), g6]
        have n7 : up (up V6 1370 e) 1341 (e * z) 1363 = V' 1363 := by rw [up_ne (by decide), up_ne (by decide), n6]
        have m7 : up (up V6 1370 e) 1341 (e * z) 1364 = V' 1364 := by rw [up_ne (by decide), up_ne (by decide), m6]
        have hO7 : Off SHL V (up (up V6 1370 e) 1341 (e * z)) := (hO6.up _ (by decide)).up _ (by decide)
        generalize up (up V6 1370 e) 1341 (e * z) = V7 at *
        refine S_Mo_add hR7 c1340 (by omega) c1341 (by omega) c1362 (by omega) (by rw [a7]; exact powB (pow2 (by omega) (by omega)) (by omega)) (by rw [b7]; exact powB (pow2 (by omega) (by omega)) (by omega)) fun F8 L8 G8 hR8 => ?_
        rw [a7, b7, show (E - va) * 1000 + e * z = 1000 * (E - va) + e * z by omega] at hR8
        refine S_Mo_timesSmall 2 1 hR8 c1365 (by omega) (show (1000 : Int64).toInt = 1000 by decide) (by omega) c1365 (by omega) (by rw [up_ne (by decide), g7]; exact pow2 (by omega) (by omega)) (pow1 (by omega)) (by omega) fun F9 L9 G9 W9 hR9 => R_Mo_findShare_147 ?_
        have g8 : up V7 1362 (1000 * (E - va) + e * z) 1365 = E - Y * z := by rw [up_ne (by decide), g7]
        rw [g8] at hR9
        have s9 : up (up (up V7 1362 (1000 * (E - va) + e * z)) 1370 1000) 1365 ((E - Y * z) * 1000) 1362 = 1000 * (E - va) + e * z := by rw [up_ne (by decide), up_ne (by decide), up_same]
        have g9 : up (up (up V7 1362 (1000 * (E - va) + e * z)) 1370 1000) 1365 ((E - Y * z) * 1000) 1365 = (E - Y * z) * 1000 := up_same ..
        have n9 : up (up (up V7 1362 (1000 * (E - va) + e * z)) 1370 1000) 1365 ((E - Y * z) * 1000) 1363 = V' 1363 := by rw [up_ne (by decide), up_ne (by decide), up_ne (by decide), n7]
        have m9 : up (up (up V7 1362 (1000 * (E - va) + e * z)) 1370 1000) 1365 ((E - Y * z) * 1000) 1364 = V' 1364 := by rw [up_ne (by decide), up_ne (by decide), up_ne (by decide), m7]
        have hO9 : Off SHL V (up (up (up V7 1362 (1000 * (E - va) + e * z)) 1370 1000) 1365 ((E - Y * z) * 1000)) := ((hO7.up _ (by decide)).up _ (by decide)).up _ (by decide)
        generalize up (up (up V7 1362 (1000 * (E - va) + e * z)) 1370 1000) 1365 ((E - Y * z) * 1000) = V9 at *
        refine S_Mo_times 2 2 hR9 c1362 (by omega) c1364 (by omega) c1340 (by omega) (by rw [s9]; exact pow2 (by omega) (by omega)) (by rw [m9]; exact pow2 (by omega) (by omega)) (by omega) fun F10 L10 G10 W10 hR10 => ?_
        rw [s9, m9] at hR10
        refine S_Mo_times 2 2 hR10 c1365 (by omega) c1363 (by omega) c1341 (by omega) (by rw [up_ne (by decide), g9]; exact pow2 (by omega) (by omega)) (by rw [up_ne (by decide), n9]; exact pow2 (by omega) (by omega)) (by omega) fun F11 L11 G11 W11 hR11 => R_Mo_findShare_173 (S_Mo_compare hR11 c1340 (by omega) c1341 (by omega) fun r50 e50 => ?_)
        have g10 : up V9 1340 ((1000 * (E - va) + e * z) * V' 1364) 1365 = (E - Y * z) * 1000 := by rw [up_ne (by decide), g9]
        have n10 : up V9 1340 ((1000 * (E - va) + e * z) * V' 1364) 1363 = V' 1363 := by rw [up_ne (by decide), n9]
        rw [g10, n10] at hR11 e50
        rw [up_same, up_ne (by decide), up_same] at e50
        have s11 : up (up V9 1340 ((1000 * (E - va) + e * z) * V' 1364)) 1341 ((E - Y * z) * 1000 * V' 1363) 1362 = 1000 * (E - va) + e * z := by rw [up_ne (by decide), up_ne (by decide), s9]
        have g11 : up (up V9 1340 ((1000 * (E - va) + e * z) * V' 1364)) 1341 ((E - Y * z) * 1000 * V' 1363) 1365 = (E - Y * z) * 1000 := by rw [up_ne (by decide), g10]
        have n11 : up (up V9 1340 ((1000 * (E - va) + e * z) * V' 1364)) 1341 ((E - Y * z) * 1000 * V' 1363) 1363 = V' 1363 := by rw [up_ne (by decide), n10]
        have m11 : up (up V9 1340 ((1000 * (E - va) + e * z) * V' 1364)) 1341 ((E - Y * z) * 1000 * V' 1363) 1364 = V' 1364 := by rw [up_ne (by decide), up_ne (by decide), m9]
        have hO11 : Off SHL V (up (up V9 1340 ((1000 * (E - va) + e * z) * V' 1364)) 1341 ((E - Y * z) * 1000 * V' 1363)) := (hO9.up _ (by decide)).up _ (by decide)
        generalize up (up V9 1340 ((1000 * (E - va) + e * z) * V' 1364)) 1341 ((E - Y * z) * 1000 * V' 1363) = V11 at *
        -- the same side
        have same : (1000 * (E - va) + e * z) * V' 1364 < (E - Y * z) * 1000 * V' 1363 ↔ (1000 * (E - va) + e * z) * S.2 < S.1 * (E - Y * z) := by
          have k1 : ((1000 * (E - va) + e * z) * V' 1364 < (E - Y * z) * 1000 * V' 1363) ↔ ((1000 * (E - va) + e * z) * V' 1364 * S.2 < (E - Y * z) * 1000 * V' 1363 * S.2) := (Int.mul_lt_mul_right sb.2.2.1).symm
          have k2 : ((1000 * (E - va) + e * z) * S.2 < S.1 * (E - Y * z)) ↔ ((1000 * (E - va) + e * z) * S.2 * V' 1364 < S.1 * (E - Y * z) * V' 1364) := (Int.mul_lt_mul_right hDd.1).symm
          have k3 : (E - Y * z) * 1000 * V' 1363 * S.2 = S.1 * (E - Y * z) * V' 1364 := by
            calc (E - Y * z) * 1000 * V' 1363 * S.2 = (E - Y * z) * (V' 1363 * (1000 * S.2)) := by
                  rw [Int.mul_assoc, Int.mul_assoc, Int.mul_left_comm 1000 (V' 1363)]
              _ = (E - Y * z) * (S.1 * V' 1364) := by rw [heq]
              _ = S.1 * (E - Y * z) * V' 1364 := by rw [← Int.mul_assoc, Int.mul_comm (E - Y * z) S.1]
          rw [k1, k2, k3, Int.mul_right_comm _ (V' 1364) S.2]
        have hcmp : 0 ≤ r50 ↔ ¬ (1000 * (E - va) + e * z) * V' 1364 < (E - Y * z) * 1000 * V' 1363 := by
          rw [i_le, z_0, e50]
          unfold cmpI
          split
          · rename_i q
            exact ⟨fun o => by omega, fun o => absurd q o⟩
          · rename_i q
            refine ⟨fun _ => q, fun _ => ?_⟩
            split <;> omega
        rw [hcmp, same]
        refine ⟨fun y => next F11 L11 G11 W11 TP UN V11 hR11 hO11 (by rw [n11]; exact hN) (by rw [m11]; exact hDd) ?_, fun y => S_Mo_copy hR11 c1362 (by omega) c1363 (by omega) fun F12 L12 G12 hR12 => R_Mo_findShare_196 ?_⟩
        · rw [if_neg (fun q => y q.2), n11, m11]
          exact heq
        · have y' := Classical.not_not.mp y
          rw [s11] at hR12
          refine S_Mo_copy hR12 c1365 (by omega) c1364 (by omega) fun F13 L13 G13 hR13 => ?_
          rw [up_ne (show (1365 : Nat) ≠ 1363 by decide), g11] at hR13
          have n13 : up (up V11 1363 (1000 * (E - va) + e * z)) 1364 ((E - Y * z) * 1000) 1363 = 1000 * (E - va) + e * z := by rw [up_ne (by decide), up_same]
          have m13 : up (up V11 1363 (1000 * (E - va) + e * z)) 1364 ((E - Y * z) * 1000) 1364 = (E - Y * z) * 1000 := up_same ..
          have hO13 : Off SHL V (up (up V11 1363 (1000 * (E - va) + e * z)) 1364 ((E - Y * z) * 1000)) := (hO11.up _ (by decide)).up _ (by decide)
          generalize up (up V11 1363 (1000 * (E - va) + e * z)) 1364 ((E - Y * z) * 1000) = V13 at *
          refine S_Mo_lowest hR13 c1363 (by omega) c1364 (by omega) (by decide) (by decide) (by decide) (by rw [m13]; omega) (by rw [n13]; exact powB (pow2 (by omega) (by omega)) (by omega)) (by rw [m13]; exact powB (pow2 (by omega) (by omega)) (by omega)) fun F14 L14 G14 W14 T14 U14 V14 hR14 hO14 n14 m14 => ?_
          rw [n13, m13] at n14 m14
          obtain ⟨q1, q2, q3, q4, q5⟩ := low_all (a := 1000 * (E - va) + e * z) (b := (E - Y * z) * 1000) (by omega) (by omega)
          refine next F14 L14 G14 W14 T14 U14 V14 hR14 (hO13.trans (hO14.mono (by decide))) (by rw [n14]; omega) (by rw [m14]; omega) ?_
          rw [if_pos ⟨hfall, y'⟩, n14, m14]
          dsimp only
          rw [show 1000 * (E - Y * z) = (E - Y * z) * 1000 by omega]
          exact q5
  refine T_Mo_findShare (R_Mo_findShare_0 (S_Mo_set hR c1363 (by omega) (show (1 : Int64).toInt = 1 by decide) (by omega) fun F1 L1 G1 hR1 => S_Mo_set hR1 c1364 (by omega) (show (1 : Int64).toInt = 1 by decide) (by omega) fun F2 L2 G2 hR2 => R_Mo_findShare_16 (loop (gw k l f) 0 F2 L2 G2 wk tp un _ 0 (by omega) i_0 hR2 (((Off.refl _ V).up _ (by decide)).up _ (by decide)) ?_ ?_ ?_)))
  · rw [up_ne (by decide), up_same]
    omega
  · rw [up_same]
    omega
  · rw [up_ne (by decide), up_same, up_same]
    rfl
end REPS
