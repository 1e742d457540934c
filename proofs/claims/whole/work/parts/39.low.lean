/-! lowest terms, telling -/
theorem c1340 : (1340 : Int32).toInt = ((1340 : Nat) : Int) := by decide
theorem c1341 : (1341 : Int32).toInt = ((1341 : Nat) : Int) := by decide
theorem c1342 : (1342 : Int32).toInt = ((1342 : Nat) : Int) := by decide
theorem c1343 : (1343 : Int32).toInt = ((1343 : Nat) : Int) := by decide
theorem c1344 : (1344 : Int32).toInt = ((1344 : Nat) : Int) := by decide
theorem c1345 : (1345 : Int32).toInt = ((1345 : Nat) : Int) := by decide
theorem c1346 : (1346 : Int32).toInt = ((1346 : Nat) : Int) := by decide
theorem c1347 : (1347 : Int32).toInt = ((1347 : Nat) : Int) := by decide
theorem c1348 : (1348 : Int32).toInt = ((1348 : Nat) : Int) := by decide
theorem c1349 : (1349 : Int32).toInt = ((1349 : Nat) : Int) := by decide
theorem c1350 : (1350 : Int32).toInt = ((1350 : Nat) : Int) := by decide
theorem c1351 : (1351 : Int32).toInt = ((1351 : Nat) : Int) := by decide
theorem c1352 : (1352 : Int32).toInt = ((1352 : Nat) : Int) := by decide
theorem c1353 : (1353 : Int32).toInt = ((1353 : Nat) : Int) := by decide
theorem c1354 : (1354 : Int32).toInt = ((1354 : Nat) : Int) := by decide
theorem c1355 : (1355 : Int32).toInt = ((1355 : Nat) : Int) := by decide
theorem c1356 : (1356 : Int32).toInt = ((1356 : Nat) : Int) := by decide
theorem c1357 : (1357 : Int32).toInt = ((1357 : Nat) : Int) := by decide
theorem c1358 : (1358 : Int32).toInt = ((1358 : Nat) : Int) := by decide
theorem c1359 : (1359 : Int32).toInt = ((1359 : Nat) : Int) := by decide
theorem c1360 : (1360 : Int32).toInt = ((1360 : Nat) : Int) := by decide
theorem c1361 : (1361 : Int32).toInt = ((1361 : Nat) : Int) := by decide
theorem c1362 : (1362 : Int32).toInt = ((1362 : Nat) : Int) := by decide
theorem c1363 : (1363 : Int32).toInt = ((1363 : Nat) : Int) := by decide
theorem c1364 : (1364 : Int32).toInt = ((1364 : Nat) : Int) := by decide
theorem c1365 : (1365 : Int32).toInt = ((1365 : Nat) : Int) := by decide
theorem c1366 : (1366 : Int32).toInt = ((1366 : Nat) : Int) := by decide
theorem c1367 : (1367 : Int32).toInt = ((1367 : Nat) : Int) := by decide
theorem c1368 : (1368 : Int32).toInt = ((1368 : Nat) : Int) := by decide
theorem c1369 : (1369 : Int32).toInt = ((1369 : Nat) : Int) := by decide
theorem c1370 : (1370 : Int32).toInt = ((1370 : Nat) : Int) := by decide
def Off (L : List Nat) (V V' : Nat → Int) : Prop := ∀ s, s ∉ L → V' s = V s
theorem Off.refl (L : List Nat) (V : Nat → Int) : Off L V V := fun _ _ => rfl
theorem Off.trans {L : List Nat} {V V' V'' : Nat → Int} (h : Off L V V') (h' : Off L V' V'') : Off L V V'' := fun s hs => (h' s hs).trans (h s hs)
theorem Off.mono {L L' : List Nat} {V V' : Nat → Int} (h : Off L V V') (hl : ∀ s, s ∈ L → s ∈ L') : Off L' V V' := fun s hs => h s (fun e => hs (hl s e))
theorem Off.up {L : List Nat} {V V' : Nat → Int} (h : Off L V V') {t : Nat} (z : Int) (ht : t ∈ L) : Off L V (up V' t z) := fun s hs => by
  rw [up_ne (fun e => hs (by rw [e]; exact ht))]
  exact h s hs
theorem MR.len0 {f l g : Nat → Int32} {V : Nat → Int} (h : MR f l g V) {s : Nat} (hs : s < 1371) : (l s = 0 ↔ V s = 0) ∧ (l s ≤ 0 ↔ V s = 0) := by
  obtain ⟨m, hm, hl, -, -, -, -, -, hz⟩ := (h s hs).of
  rw [i_eq, i_le, z_0, hl]
  omega
theorem MR.sgn {f l g : Nat → Int32} {V : Nat → Int} (h : MR f l g V) {s : Nat} (hs : s < 1371) : (g s).toInt = (V s).sign := by
  obtain ⟨m, hm, hl, -, -, -, hg, -, hz⟩ := (h s hs).of
  exact hg
abbrev SCR : List Nat := [1346, 1347, 1359, 1360, 1370]
theorem S_Mo_common {vv0 : Nat → Value} {f l g wk : Nat → Int32} {tp un : Nat → Int64} {V : Nat → Int} {v1 v2 : Int32} {a b : Nat} {Q : (Nat → Int32) → (Nat → Int32) → (Nat → Int32) → (Nat → Int32) → (Nat → Int64) → (Nat → Int64) → Prop} (h : MR f l g V) (h1 : v1.toInt = (a : Int)) (ha : a < 1371) (h2 : v2.toInt = (b : Int)) (hb : b < 1371) (hbG : b ≠ 1346) (hA : (V a).natAbs < BB ^ 63) (hB : (V b).natAbs < BB ^ 63) (hq : ∀ f' l' g' wk' tp' un' V', MR f' l' g' V' → Off SCR V V' → V' 1346 = (Int.gcd (V a) (V b) : Int) → Q f' l' g' wk' tp' un') : P_Mo_common vv0 f l g wk tp un v1 v2 Q := by
  have loop : ∀ (N x y : Nat) (F L G WK : Nat → Int32) (TP UN : Nat → Int64) (V' : Nat → Int), MR F L G V' → Off SCR V V' → V' 1346 = (x : Int) → V' 1347 = (y : Int) → y ≤ N → Nat.gcd x y = Int.gcd (V a) (V b) → x < BB ^ 63 → y < BB ^ 63 → E_Mo_common_64 vv0 F L G WK TP UN Q := by
    intro N
    induction N with
    | zero =>
      intro x y F L G WK TP UN V' hR hO hx hy hN hg hx63 hy63
      have hy0 : y = 0 := by omega
      subst hy0
      have hz := hR.len0 (s := 1347) (by omega)
      refine R_Mo_common_64 ⟨i_in c1347 (by omega), fun _ => R_Mo_common_114 (hq _ _ _ _ _ _ V' hR hO ?_), fun e => absurd (by rw [i_nat c1347]; exact hz.2.mpr (by rw [hy]; rfl)) e⟩
      rw [hx, ← hg, Nat.gcd_zero_right]
    | succ N ih =>
      intro x y F L G WK TP UN V' hR hO hx hy hN hg hx63 hy63
      have hz := hR.len0 (s := 1347) (by omega)
      by_cases hy0 : y = 0
      · subst hy0
        refine R_Mo_common_64 ⟨i_in c1347 (by omega), fun _ => R_Mo_common_114 (hq _ _ _ _ _ _ V' hR hO ?_), fun e => absurd (by rw [i_nat c1347]; exact hz.2.mpr (by rw [hy]; rfl)) e⟩
        rw [hx, ← hg, Nat.gcd_zero_right]
      · refine R_Mo_common_64 ⟨i_in c1347 (by omega), fun e => absurd (hz.2.mp (by rw [i_nat c1347] at e; exact e)) (by rw [hy]; omega), fun _ => ?_⟩
        refine S_Mo_divide hR c1346 (by omega) c1347 (by omega) c1370 (by omega) c1360 (by omega) (by omega) (by rw [hy]; omega) (by rw [hx]; exact hx63) fun f1 l1 g1 wk1 tp1 un1 hR1 => ?_
        have e1 : (V' 1346).tmod (V' 1347) = ((x % y : Nat) : Int) := by rw [hx, hy]; rfl
        rw [e1] at hR1
        generalize (V' 1346).tdiv (V' 1347) = zq at hR1
        refine S_Mo_copy hR1 c1347 (by omega) c1346 (by omega) fun f2 l2 g2 hR2 => R_Mo_common_101 (S_Mo_copy hR2 c1360 (by omega) c1347 (by omega) fun f3 l3 g3 hR3 => ?_)
        have hmod : x % y < y := Nat.mod_lt _ (by omega)
        refine ih y (x % y) _ _ _ _ _ _ _ hR3 ((((hO.up zq (by decide)).up _ (by decide)).up _ (by decide)).up _ (by decide)) ?_ ?_ (by omega) ?_ hy63 (by omega)
        · rw [up_ne (by decide), up_same, up_ne (by decide), up_ne (by decide), hy]
        · rw [up_same, up_ne (by decide), up_same]
        · rw [← hg, Nat.gcd_comm x y, Nat.gcd_rec y x, Nat.gcd_comm]
  refine T_Mo_common (R_Mo_common_0 (S_Mo_copy h h1 ha c1346 (by omega) fun f1 l1 g1 hR1 => S_Mo_copy hR1 h2 hb c1347 (by omega) fun f2 l2 g2 hR2 => ?_))
  rw [up_ne (f := V) hbG] at hR2
  have w1 : up (up V 1346 (V a)) 1347 (V b) 1346 = V a := by rw [up_ne (by decide), up_same]
  have w2 : up (up V 1346 (V a)) 1347 (V b) 1347 = V b := up_same ..
  have fin : ∀ s2 : Int32, s2.toInt = ((V b).natAbs : Int).sign → ∀ (G : Nat → Int32), MR f2 l2 G (up (up (up V 1346 (V a)) 1347 (V b)) 1346 (V a).natAbs) → E_Mo_common_63 vv0 f2 l2 G wk tp un 1347 s2 Q := by
    intro s2 hs2 G hG
    refine R_Mo_common_63 ⟨i_in c1347 (by omega), ?_⟩
    rw [i_nat c1347]
    have hR4 := hG.resign (t := 1347) (z := ((V b).natAbs : Int)) (r := s2) (by omega) (by rw [up_ne (by decide), up_same]; omega) hs2
    refine loop (V b).natAbs (V a).natAbs (V b).natAbs _ _ _ _ _ _ _ hR4 (((((Off.refl SCR V).up _ (by decide)).up _ (by decide)).up _ (by decide)).up _ (by decide)) ?_ ?_ (Nat.le_refl _) rfl hA hB
    · rw [up_ne (by decide), up_same]
    · rw [up_same]
  have mid : ∀ s2 : Int32, s2.toInt = ((V a).natAbs : Int).sign → E_Mo_common_39 vv0 f2 l2 g2 wk tp un 1346 s2 Q := by
    intro s2 hs2
    have hz := hR2.len0 (s := 1347) (by omega)
    rw [w2] at hz
    have hR3 := hR2.resign (t := 1346) (z := ((V a).natAbs : Int)) (r := s2) (by omega) (by rw [w1]; omega) hs2
    refine R_Mo_common_39 ⟨i_in c1346 (by omega), i_in c1347 (by omega), fun e => R_Mo_common_62 ?_, fun e => ?_⟩
    · rw [i_nat c1347, hz.1] at e
      rw [i_nat c1346]
      exact fin 1 (by rw [z_1, Int.sign_eq_one_of_pos (by omega)]) _ hR3
    · rw [i_nat c1347, hz.1] at e
      rw [i_nat c1346]
      exact fin 0 (by rw [z_0, e]; rfl) _ hR3
  have hz := hR2.len0 (s := 1346) (by omega)
  rw [w1] at hz
  refine R_Mo_common_16 ⟨i_in c1346 (by omega), fun e => R_Mo_common_38 (mid 1 ?_), fun e => mid 0 ?_⟩
  · rw [i_nat c1346, hz.1] at e
    rw [z_1, Int.sign_eq_one_of_pos (by omega)]
  · rw [i_nat c1346, hz.1] at e
    rw [z_0, e]
    rfl
def lowN (a b : Int) : Int := a.tdiv (Int.gcd a b)
def lowD (a b : Int) : Int := b.tdiv (Int.gcd a b)
theorem S_Mo_lowest {vv0 : Nat → Value} {f l g wk : Nat → Int32} {tp un : Nat → Int64} {V : Nat → Int} {v1 v2 : Int32} {a b : Nat} {Q : (Nat → Int32) → (Nat → Int32) → (Nat → Int32) → (Nat → Int32) → (Nat → Int64) → (Nat → Int64) → Prop} (h : MR f l g V) (h1 : v1.toInt = (a : Int)) (ha : a < 1371) (h2 : v2.toInt = (b : Int)) (hb : b < 1371) (hab : a ≠ b) (haS : a ∉ SCR) (hbS : b ∉ SCR) (hpos : 0 < V b) (hA : (V a).natAbs < BB ^ 63) (hB : (V b).natAbs < BB ^ 63) (hq : ∀ f' l' g' wk' tp' un' V', MR f' l' g' V' → Off (a :: b :: SCR) V V' → V' a = lowN (V a) (V b) → V' b = lowD (V a) (V b) → Q f' l' g' wk' tp' un') : P_Mo_lowest vv0 f l g wk tp un v1 v2 Q := by
  have na : ∀ s, s ∈ SCR → a ≠ s := fun s hs e => haS (e ▸ hs)
  have nb : ∀ s, s ∈ SCR → b ≠ s := fun s hs e => hbS (e ▸ hs)
  have hg0 : 0 < Int.gcd (V a) (V b) := Int.gcd_pos_of_ne_zero_right _ (by omega)
  refine T_Mo_lowest (R_Mo_lowest_0 (S_Mo_common h h1 ha h2 hb (nb 1346 (by decide)) hA hB fun f1 l1 g1 wk1 tp1 un1 V1 hR1 hO1 hG1 => ⟨i_in h2 hb, fun x7 e7 => ?_⟩))
  have a1 : V1 a = V a := hO1 a haS
  have b1 : V1 b = V b := hO1 b hbS
  have hx7 : x7.toInt = 1 := by
    rw [e7, i_nat h2, hR1.sgn hb, b1]
    exact Int.sign_eq_one_of_pos hpos
  have hO1' : Off (a :: b :: SCR) V V1 := hO1.mono fun s hs => List.mem_cons_of_mem _ (List.mem_cons_of_mem _ hs)
  have mS : ∀ s, s ∈ SCR → s ∈ a :: b :: SCR := fun s hs => List.mem_cons_of_mem _ (List.mem_cons_of_mem _ hs)
  refine S_Mo_divide hR1 h1 ha c1346 (by omega) c1359 (by omega) c1360 (by omega) (by omega) (by rw [hG1]; omega) (by rw [a1]; exact hA) fun f2 l2 g2 wk2 tp2 un2 hR2 => R_Mo_lowest_27 ?_
  rw [a1, hG1] at hR2
  have hO2 := (hO1'.up ((V a).tdiv (Int.gcd (V a) (V b) : Int)) (mS 1359 (by decide))).up ((V a).tmod (Int.gcd (V a) (V b) : Int)) (mS 1360 (by decide))
  have k2 : up (up V1 1359 ((V a).tdiv (Int.gcd (V a) (V b) : Int))) 1360 ((V a).tmod (Int.gcd (V a) (V b) : Int)) 1359 = lowN (V a) (V b) := by rw [up_ne (by decide), up_same]; rfl
  have g2' : up (up V1 1359 ((V a).tdiv (Int.gcd (V a) (V b) : Int))) 1360 ((V a).tmod (Int.gcd (V a) (V b) : Int)) 1346 = (Int.gcd (V a) (V b) : Int) := by rw [up_ne (by decide), up_ne (by decide), hG1]
  have b2 : up (up V1 1359 ((V a).tdiv (Int.gcd (V a) (V b) : Int))) 1360 ((V a).tmod (Int.gcd (V a) (V b) : Int)) b = V b := by rw [up_ne (nb 1360 (by decide)), up_ne (nb 1359 (by decide)), b1]
  generalize up (up V1 1359 ((V a).tdiv (Int.gcd (V a) (V b) : Int))) 1360 ((V a).tmod (Int.gcd (V a) (V b) : Int)) = V2 at *
  refine S_Mo_copy hR2 c1359 (by omega) h1 ha fun f3 l3 g3 hR3 => ?_
  rw [k2] at hR3
  have hO3 := hO2.up (lowN (V a) (V b)) (List.mem_cons_self (a := a) (l := b :: SCR))
  have b3 : up V2 a (lowN (V a) (V b)) b = V b := by rw [up_ne (Ne.symm hab), b2]
  have g3' : up V2 a (lowN (V a) (V b)) 1346 = (Int.gcd (V a) (V b) : Int) := by rw [up_ne (Ne.symm (na 1346 (by decide))), g2']
  have a3 : up V2 a (lowN (V a) (V b)) a = lowN (V a) (V b) := up_same ..
  generalize up V2 a (lowN (V a) (V b)) = V3 at *
  refine S_Mo_divide hR3 h2 hb c1346 (by omega) c1359 (by omega) c1360 (by omega) (by omega) (by rw [g3']; omega) (by rw [b3]; exact hB) fun f4 l4 g4 wk4 tp4 un4 hR4 => R_Mo_lowest_49 ?_
  rw [b3, g3'] at hR4
  have hO4 := (hO3.up ((V b).tdiv (Int.gcd (V a) (V b) : Int)) (mS 1359 (by decide))).up ((V b).tmod (Int.gcd (V a) (V b) : Int)) (mS 1360 (by decide))
  have k4 : up (up V3 1359 ((V b).tdiv (Int.gcd (V a) (V b) : Int))) 1360 ((V b).tmod (Int.gcd (V a) (V b) : Int)) 1359 = lowD (V a) (V b) := by rw [up_ne (by decide), up_same]; rfl
  have a4 : up (up V3 1359 ((V b).tdiv (Int.gcd (V a) (V b) : Int))) 1360 ((V b).tmod (Int.gcd (V a) (V b) : Int)) a = lowN (V a) (V b) := by rw [up_ne (na 1360 (by decide)), up_ne (na 1359 (by decide)), a3]
  generalize up (up V3 1359 ((V b).tdiv (Int.gcd (V a) (V b) : Int))) 1360 ((V b).tmod (Int.gcd (V a) (V b) : Int)) = V4 at *
  refine S_Mo_copy hR4 c1359 (by omega) h2 hb fun f5 l5 g5 hR5 => ⟨i_in h1 ha, i_in h1 ha, i_in h2 hb, ?_⟩
  rw [k4] at hR5
  have hO5 := hO4.up (lowD (V a) (V b)) (List.mem_cons_of_mem a (List.mem_cons_self (a := b) (l := SCR)))
  have b5 : up V4 b (lowD (V a) (V b)) b = lowD (V a) (V b) := up_same ..
  have a5 : up V4 b (lowD (V a) (V b)) a = lowN (V a) (V b) := by rw [up_ne hab, a4]
  generalize up V4 b (lowD (V a) (V b)) = V5 at *
  rw [i_nat h1, i_nat h2]
  have sg := hR5.sgn ha
  have sc := sgn_cases (V5 a)
  have hDpos : 0 < lowD (V a) (V b) := by
    unfold lowD
    have e1 := (td_all (V b) (Int.gcd (V a) (V b) : Int)).1
    have e2 : 0 ≤ (V b).tdiv (Int.gcd (V a) (V b) : Int) := Int.tdiv_nonneg (by omega) (by omega)
    have e3 : 0 < (V b).natAbs / (Int.gcd (V a) (V b) : Int).natAbs := by
      apply Nat.div_pos
      · have := Nat.le_of_dvd (by omega) (Int.gcd_dvd_natAbs_right (V a) (V b))
        simpa using this
      · simpa using hg0
    omega
  have hR6 := hR5.resign (t := a) (z := V5 a) (r := g5 a * x7) ha rfl (by rw [i_mul sg hx7 (by omega) (by omega), Int.mul_one])
  have hR7 := hR6.resign (t := b) (z := lowD (V a) (V b)) (r := 1) hb (by rw [up_ne (Ne.symm hab), b5]) (by rw [z_1, Int.sign_eq_one_of_pos hDpos])
  refine hq _ _ _ _ _ _ _ hR7 ((hO5.up _ (List.mem_cons_self (a := a) (l := b :: SCR))).up _ (List.mem_cons_of_mem a (List.mem_cons_self (a := b) (l := SCR)))) ?_ (up_same ..)
  rw [up_ne hab, up_same, a5]
theorem S_Mo_tell {vv0 : Nat → Value} {f l g wk : Nat → Int32} {tp un : Nat → Int64} {V : Nat → Int} {v1 v2 : Int32} {a b : Nat} {Q : (Nat → Int32) → (Nat → Int32) → (Nat → Int32) → (Nat → Int32) → (Nat → Int64) → (Nat → Int64) → Prop} (h : MR f l g V) (h1 : v1.toInt = (a : Int)) (ha : a < 1371) (h2 : v2.toInt = (b : Int)) (hb : b < 1371) (hbU : b ≠ 1344) (hpos : 0 < V b) (hA : (V a).natAbs < BB ^ 63) (hB : (V b).natAbs < BB ^ 63) (hq : ∀ f' l' g' wk' tp' un' V', MR f' l' g' V' → Off (1344 :: 1345 :: SCR) V V' → V' 1344 = lowN (V a) (V b) → V' 1345 = lowD (V a) (V b) → Q f' l' g' wk' tp' un') : P_Mo_tell vv0 f l g wk tp un v1 v2 Q := by
  refine T_Mo_tell (R_Mo_tell_0 (S_Mo_copy h h1 ha c1344 (by omega) fun f1 l1 g1 hR1 => S_Mo_copy hR1 h2 hb c1345 (by omega) fun f2 l2 g2 hR2 => R_Mo_tell_16 ?_))
  rw [up_ne (f := V) hbU] at hR2
  have w1 : up (up V 1344 (V a)) 1345 (V b) 1344 = V a := by rw [up_ne (by decide), up_same]
  have w2 : up (up V 1344 (V a)) 1345 (V b) 1345 = V b := up_same ..
  have hO := ((Off.refl (1344 :: 1345 :: SCR) V).up (t := 1344) (V a) (by decide)).up (t := 1345) (V b) (by decide)
  generalize up (up V 1344 (V a)) 1345 (V b) = V2 at *
  refine S_Mo_lowest hR2 c1344 (by omega) c1345 (by omega) (by decide) (by decide) (by decide) (by rw [w2]; exact hpos) (by rw [w1]; exact hA) (by rw [w2]; exact hB) fun f' l' g' wk' tp' un' V' hR hO' e1 e2 => hq _ _ _ _ _ _ V' hR (hO.trans hO') (by rw [e1, w1, w2]) (by rw [e2, w1, w2])
