/-! AN ANSWER in the class: from outside -/
section REPE
variable {vv vv' : Nat → Value} {k l f m : Nat} {rk rl rf rm rtc rwc : Int32} {rth rca : Nat → Int32} {vvr : Nat → Value} {T : Nat → Nat → Int} {d : Int} {ins : Nat → Nat} {n : Nat} {ways isw turns cno : Int32} {gd gz : Int64} {cells sec : Nat → Int64} {counts gin rows lens : Nat → Int32} {tt : Nat → Nat → Nat} {len : Nat → Nat}
variable {an1 an2 an3 an4 sg an bn cn sn s1 s2 s3 s4 xo best : Int32} {ad1 ad2 ad3 ad4 ad bd cd sd d1 d2 d3 d4 : Nat → Int32} {wts mmv gain nT nL top low : Int64} {wt me er : Nat → Int64}
theorem S_Rep_putMean {z' al' g' t' lw' : Nat} {mm : Int} {Q : Int32 → Int32 → (Nat → Int32) → Int32 → (Nat → Int32) → Int32 → (Nat → Int32) → Int32 → (Nat → Int32) → Int32 → (Nat → Int32) → Int32 → (Nat → Int32) → Int32 → (Nat → Int32) → Int32 → (Nat → Int32) → Prop} (hz : gz.toInt = (z' : Int)) (hw : wts.toInt = (al' : Int)) (hm : mmv.toInt = mm) (hg : gain.toInt = (g' : Int)) (ht : top.toInt = (t' : Int)) (hl : low.toInt = (lw' : Int)) (hz2 : 0 < z' ∧ z' ≤ 2097151) (hw2 : 0 < al' ∧ al' ≤ 3000) (hm2 : -40265318400000 ≤ mm ∧ mm ≤ 40265318400000) (hg2 : g' ≤ 40331318400000) (ht2 : t' ≤ 52428775000) (hl2 : 0 < lw' ∧ lw' ≤ 33554416) (hq : ∀ sg' an' ad' bn' bd' cn' cd' sn' sd' a1 b1 a2 b2 a3 b3 a4 b4, FS sg' an' ad' bn' bd' (mm * ((1000 * lw' : Nat) : Int) + ((t' * g' : Nat) : Int)) (1000 * lw' * (z' * al')) → Q sg' an' ad' bn' bd' cn' cd' sn' sd' a1 b1 a2 b2 a3 b3 a4 b4) : P_Rep_putMean vv vv' gz sg an ad bn bd cn cd sn sd wts mmv gain top low an1 ad1 an2 ad2 an3 ad3 an4 ad4 Q := by
  have z1000 : (1000 : Int64).toInt = ((1000 : Nat) : Int) := by decide
  have zL0' : (0 : Int64).toInt = 0 := by decide
  have hlow := j_mulN z1000 hl (by omega)
  have hzw : z' * al' ≤ 2097151 * 3000 := Nat.mul_le_mul hz2.2 hw2.2
  have hzal := j_mulN hz hw (by omega)
  have b1 : mm.natAbs * (1000 * lw') ≤ 40265318400000 * 33554416000 := Nat.mul_le_mul (by omega) (by omega)
  have b2 : t' * g' ≤ 52428775000 * 40331318400000 := Nat.mul_le_mul ht2 hg2
  have b3 : 1000 * lw' * (z' * al') ≤ 33554416000 * (2097151 * 3000) := Nat.mul_le_mul (by omega) hzw
  have q0 : 0 < 1000 * lw' * (z' * al') := Nat.mul_pos (by omega) (Nat.mul_pos hz2.1 hw2.1)
  have hbig : 40265318400000 * 33554416000 + 52428775000 * 40331318400000 < BB ^ 15 := by decide
  have hbig2 : 33554416000 * (2097151 * 3000) < BB ^ 15 := by decide
  have hbig16 : 40265318400000 * 33554416000 + 52428775000 * 40331318400000 < BB ^ 16 := by decide
  have hmul : (mm.natAbs : Int) * ((1000 * lw' : Nat) : Int) = ((mm.natAbs * (1000 * lw') : Nat) : Int) := by norm_cast
  have fin : ∀ (v2 c1 c2 c3 c4 : Int32) (e1 e2 e3 e4 : Nat → Int32), BR e3 c3 (mm * ((1000 * lw' : Nat) : Int) + ((t' * g' : Nat) : Int)).natAbs → (mm * ((1000 * lw' : Nat) : Int) + ((t' * g' : Nat) : Int) ≠ 0 → v2.toInt = (mm * ((1000 * lw' : Nat) : Int) + ((t' * g' : Nat) : Int)).sign) → (mm * ((1000 * lw' : Nat) : Int) + ((t' * g' : Nat) : Int)).natAbs < BB ^ 15 → E_Rep_putMean_116 vv vv' gz sg an ad bn bd cn cd sn sd wts mmv gain top low c1 e1 c2 e2 c3 e3 c4 e4 v2 Q := by
    intro v2 c1 c2 c3 c4 e1 e2 e3 e4 h3 hs hb
    refine R_Rep_putMean_116 (S_Rep_product_rother fun a1 y1 a2 y2 a3 y3 h4 => ?_)
    rw [uJ_of hlow, uJ_of hzal] at h4
    exact S_Frac_reduce h3 h4 q0 hs hb (Nat.lt_of_le_of_lt b3 hbig2) fun sg' an' ad' bn' bd' cn' cd' sn' sd' hF => hq _ _ _ _ _ _ _ _ _ _ _ _ _ _ _ _ _ hF
  refine T_Rep_putMean (R_Rep_putMean_0 fun x1 e1 => S_Rep_product_rmine fun a1 b1 a2 b2 a3 b3 h3 => S_Rep_product_rother fun a4 b4 a5 b5 a6 b6 h6 => ?_)
  have hx1 : x1.toInt = (mm.natAbs : Int) := by
    rw [e1]
    by_cases q : 0 < mm
    · rw [if_pos (by rw [j_lt, hm, zL0']; exact q), hm]
      omega
    · rw [if_neg (by rw [j_lt, hm, zL0']; exact q), j_neg hm (by omega)]
      omega
  rw [uJ_of hx1, uJ_of hlow] at h3
  rw [uJ_of ht, uJ_of hg] at h6
  rw [lg_lt0, hm, zL0']
  refine ⟨fun z => R_Rep_putMean_64 (S_Big_against h3 h6 fun r16 e16 => ?_), fun z => S_Big_add h3 h6 (by omega) fun d' n' h9 => fin 1 _ _ _ _ _ _ _ _ ?_ ?_ ?_⟩
  · have em : mm * ((1000 * lw' : Nat) : Int) = -((mm.natAbs * (1000 * lw') : Nat) : Int) := by
      rw [← hmul, ← Int.neg_mul]
      congr 1
      omega
    rw [em] at fin
    generalize mm.natAbs * (1000 * lw') = A at *
    generalize t' * g' = B at *
    rw [i_le, e16, z_0]
    refine ⟨fun y => R_Rep_putMean_94 (S_Big_take h6 h3 ?_ fun d' n' h9 => S_Big_copy h9 fun d2 n2 h10 => fin 1 _ _ _ _ _ _ _ _ ?_ ?_ ?_), fun y => S_Big_take h3 h6 ?_ fun d' n' h9 => fin (-1) _ _ _ _ _ _ _ _ ?_ ?_ ?_⟩
    · unfold cmpN at y
      split at y
      · omega
      · split at y <;> omega
    · have hAB : A ≤ B := by
        unfold cmpN at y
        split at y
        · omega
        · split at y <;> omega
      rw [show (-(A : Int) + (B : Int)).natAbs = B - A by omega]
      exact h10
    · intro hne
      have hAB : A ≤ B := by
        unfold cmpN at y
        split at y
        · omega
        · split at y <;> omega
      rw [Int.sign_eq_one_of_pos (by omega)]
      exact z_1
    · have : (-(A : Int) + (B : Int)).natAbs ≤ A + B := by omega
      omega
    · unfold cmpN at y
      split at y
      · omega
      · split at y <;> omega
    · have hAB : B < A := by
        unfold cmpN at y
        split at y
        · omega
        · split at y <;> omega
      rw [show (-(A : Int) + (B : Int)).natAbs = A - B by omega]
      exact h9
    · intro hne
      have hAB : B < A := by
        unfold cmpN at y
        split at y
        · omega
        · split at y <;> omega
      rw [Int.sign_eq_neg_one_of_neg (by omega)]
      decide
    · have : (-(A : Int) + (B : Int)).natAbs ≤ A + B := by omega
      omega
  · have em : mm * ((1000 * lw' : Nat) : Int) = ((mm.natAbs * (1000 * lw') : Nat) : Int) := by
      rw [← hmul]
      congr 1
      omega
    rw [em]
    generalize mm.natAbs * (1000 * lw') = A at *
    generalize t' * g' = B at *
    rw [show ((A : Int) + (B : Int)).natAbs = A + B by omega]
    exact h9
  · have em : mm * ((1000 * lw' : Nat) : Int) = ((mm.natAbs * (1000 * lw') : Nat) : Int) := by
      rw [← hmul]
      congr 1
      omega
    rw [em]
    generalize mm.natAbs * (1000 * lw') = A at *
    generalize t' * g' = B at *
    intro hne
    rw [Int.sign_eq_one_of_pos (by omega)]
    exact z_1
  · have em : mm * ((1000 * lw' : Nat) : Int) = ((mm.natAbs * (1000 * lw') : Nat) : Int) := by
      rw [← hmul]
      congr 1
      omega
    rw [em]
    generalize mm.natAbs * (1000 * lw') = A at *
    generalize t' * g' = B at *
    omega
/-- the least -/
def lsI (g : Nat → Int) : Nat → Int
  | 0 => 0
  | j + 1 => if j = 0 then g 0 else if g j < lsI g j then g j else lsI g j
theorem S_Rep_putWorst {b lw' : Nat} {t : Int} {Q : Int32 → Int32 → (Nat → Int32) → Int32 → (Nat → Int32) → Prop} (h : CR k l f m rk rl rf rm rtc rwc rth rca) (hG : GameOf k l f m T d ins n) (hz : gz.toInt = T (gw k l f) (2 * gw k l f)) (her : ∀ j, j < gw k l f → (er j).toInt = erng k l f m T ins 0 j) (hb : best.toInt = (b : Int)) (hb2 : b < gw k l f) (ht : top.toInt = t) (hl : low.toInt = (lw' : Int)) (ht2 : 0 ≤ t ∧ t ≤ 52428775000) (hl2 : 0 < lw' ∧ lw' ≤ 33554416) (hq : ∀ sg' an' ad' bn' bd', FS sg' an' ad' bn' bd' (lsI (fun j => erng k l f m T ins 0 j * 1000 * (lw' : Int) + t * (payI k l f m b j * T (gw k l f) (2 * gw k l f) - erng k l f m T ins 0 j)) (gw k l f)) (1000 * lw' * zN k l f T) → Q sg' an' ad' bn' bd') : P_Rep_putWorst vvr vv vv' rk rm rwc rth rca gz sg an ad bn bd cn cd sn sd best top low er Q := by
  have hw := gw_le h.1
  obtain ⟨f1, f2, f3, f4, _⟩ := hG.fct h.1
  have hzN := zN_eq hG h.1
  have z1000 : (1000 : Int64).toInt = 1000 := by decide
  have gbd : ∀ j, j < gw k l f → (-16777208 * 1000 * 33554416 - 52428775000 * 33554416 ≤ erng k l f m T ins 0 j * 1000 * (lw' : Int) + t * (payI k l f m b j * T (gw k l f) (2 * gw k l f) - erng k l f m T ins 0 j) ∧ erng k l f m T ins 0 j * 1000 * (lw' : Int) + t * (payI k l f m b j * T (gw k l f) (2 * gw k l f) - erng k l f m T ins 0 j) ≤ 16777208 * 1000 * 33554416 + 52428775000 * 33554416) ∧ (-(16777208000 * 33554416) ≤ erng k l f m T ins 0 j * 1000 * (lw' : Int) ∧ erng k l f m T ins 0 j * 1000 * (lw' : Int) ≤ 16777208000 * 33554416) ∧ (-(52428775000 * 33554416) ≤ t * (payI k l f m b j * T (gw k l f) (2 * gw k l f) - erng k l f m T ins 0 j) ∧ t * (payI k l f m b j * T (gw k l f) (2 * gw k l f) - erng k l f m T ins 0 j) ≤ 52428775000 * 33554416) ∧ (-33554416 ≤ payI k l f m b j * T (gw k l f) (2 * gw k l f) - erng k l f m T ins 0 j ∧ payI k l f m b j * T (gw k l f) (2 * gw k l f) - erng k l f m T ins 0 j ≤ 33554416) := by
    intro j hj
    have h1 := f4 j hj
    have h2 := pay_bd h.1 hb2 hj
    have h3 := mulR_bd (a := payI k l f m b j) (b := T (gw k l f) (2 * gw k l f)) (A := 8) (B := 2097151) h2 ⟨by omega, f2⟩ (by omega)
    have h4 : -16777208 ≤ erng k l f m T ins 0 j ∧ erng k l f m T ins 0 j ≤ 16777208 := ⟨by omega, by omega⟩
    have h5 := mulR_bd (a := erng k l f m T ins 0 j * 1000) (b := (lw' : Int)) (A := 16777208000) (B := 33554416) ⟨by omega, by omega⟩ ⟨by omega, by omega⟩ (by omega)
    have h6 := mulR_bd (a := t) (b := payI k l f m b j * T (gw k l f) (2 * gw k l f) - erng k l f m T ins 0 j) (A := 52428775000) (B := 33554416) ⟨by omega, by omega⟩ ⟨by omega, by omega⟩ (by omega)
    omega
  have hq1 : 1000 * lw' * zN k l f T ≤ 33554416000 * 2097151 := Nat.mul_le_mul (by omega) hzN.2.2
  have hden := j_mulN (j_mulN (show (1000 : Int64).toInt = ((1000 : Nat) : Int) by decide) hl (by omega)) (show gz.toInt = (zN k l f T : Int) by rw [hz, hzN.1]) (by omega)
  have lb : ∀ j, j ≤ gw k l f → -9000000000000000000 < lsI (fun j => erng k l f m T ins 0 j * 1000 * (lw' : Int) + t * (payI k l f m b j * T (gw k l f) (2 * gw k l f) - erng k l f m T ins 0 j)) j := by
    intro j
    induction j with
    | zero => intro _; simp only [lsI]; omega
    | succ j ih =>
      intro hj
      have h1 := ih (by omega)
      have h2 := (gbd j (by omega)).1
      have h0 := (gbd 0 (by omega)).1
      simp only [lsI]
      split
      · omega
      · split <;> omega
  have loop : ∀ (w j : Nat) (v2 : Int64) (v4 : Int32), j + w = gw k l f → v4.toInt = (j : Int) → v2.toInt = lsI (fun j => erng k l f m T ins 0 j * 1000 * (lw' : Int) + t * (payI k l f m b j * T (gw k l f) (2 * gw k l f) - erng k l f m T ins 0 j)) j → E_Rep_putWorst_5 vvr vv vv' rk rm rwc rth rca gz sg an ad bn bd cn cd sn sd best top low er v2 v4 Q := by
    intro w
    induction w with
    | zero =>
      intro j v2 v4 hj h4 h2
      have : j = gw k l f := by omega
      subst this
      exact R_Rep_putWorst_5 (⟨fun _ => R_Rep_putWorst_102 (S_Frac_become h2 hden (Nat.mul_pos (by omega) hzN.2.1) (by have := lb _ (Nat.le_refl (gw k l f)); omega) fun sg' an' ad' bn' bd' hF => hq _ _ _ _ _ hF), fun z => absurd (by rw [i_le, h.wc, h4]; omega) z⟩)
    | succ w ih =>
      intro j v2 v4 hj h4 h2
      have hej := her j (by omega)
      obtain ⟨g1, g2, g3, g4⟩ := gbd j (by omega)
      have hpay := pay_bd h.1 hb2 (show j < gw k l f by omega)
      have h4' := f4 j (by omega)
      have h3 := mulR_bd (a := payI k l f m b j) (b := T (gw k l f) (2 * gw k l f)) (A := 8) (B := 2097151) hpay ⟨by omega, f2⟩ (by omega)
      refine R_Rep_putWorst_5 (⟨fun z => absurd z (by rw [i_le, h.wc, h4]; omega), fun _ x2 e2 => ?_⟩)
      have hx2 : x2.toInt = (b : Int) := by
        rw [e2]
        by_cases q : 0 < b
        · rw [if_pos (by rw [i_lt, z_0, hb]; omega), hb]
        · rw [if_neg (by rw [i_lt, z_0, hb]; omega), z_0]
          omega
      refine S_Rule_payOf h hx2 hb2 h4 (by omega) fun r3 e3 => ⟨i_in h4 (by omega), fun x4 e4 => ⟨i_in h4 (by omega), fun x5 e5 => ?_⟩⟩
      rw [i_nat h4] at e4 e5
      have hx4 : x4.toInt = payI k l f m b j * T (gw k l f) (2 * gw k l f) - erng k l f m T ins 0 j := by
        rw [e4]
        exact j_sub (j_mul (i_wide e3) hz (by omega) (by omega)) hej (by omega) (by omega)
      have hx5 : x5.toInt = erng k l f m T ins 0 j * 1000 * (lw' : Int) + t * (payI k l f m b j * T (gw k l f) (2 * gw k l f) - erng k l f m T ins 0 j) := by
        rw [e5]
        exact j_add (j_mul (j_mul hej z1000 (by omega) (by omega)) hl (by omega) (by omega)) (j_mul ht hx4 (by omega) (by omega)) (by omega) (by omega)
      have next : ∀ s0 : Int64, s0.toInt = lsI (fun j => erng k l f m T ins 0 j * 1000 * (lw' : Int) + t * (payI k l f m b j * T (gw k l f) (2 * gw k l f) - erng k l f m T ins 0 j)) (j + 1) → E_Rep_putWorst_95 vvr vv vv' rk rm rwc rth rca gz sg an ad bn bd cn cd sn sd best top low er v4 s0 Q := fun s0 hs0 => R_Rep_putWorst_95 fun x12 e12 => ih (j + 1) s0 x12 (by omega) (by rw [e12]; exact i_suc h4 (by omega)) hs0
      rw [i_lit0 h4]
      refine ⟨fun q => R_Rep_putWorst_89 fun x11 e11 => next x11 ?_, fun q => next x5 ?_⟩
      · simp only [lsI]
        rw [if_neg q, e11]
        by_cases o : x5 < v2
        · rw [if_pos o]
          rw [j_lt, hx5, h2] at o
          rw [if_pos o, hx5]
        · rw [if_neg o]
          rw [j_lt, hx5, h2] at o
          rw [if_neg o, h2]
      · simp only [lsI]
        rw [if_pos q, hx5, q]
  exact T_Rep_putWorst (R_Rep_putWorst_0 (loop (gw k l f) 0 0 0 (by omega) i_0 rfl))
end REPE
