/-! the slots of the reference: products -/
theorem S_Mo_times {vv0 : Nat → Value} {f l g wk : Nat → Int32} {V : Nat → Int} {v1 v2 v3 : Int32} {a b t : Nat} (p q : Nat) {Q : (Nat → Int32) → (Nat → Int32) → (Nat → Int32) → (Nat → Int32) → Prop} (h : MR f l g V) (h1 : v1.toInt = (a : Int)) (ha : a < 1371) (h2 : v2.toInt = (b : Int)) (hb : b < 1371) (h3 : v3.toInt = (t : Int)) (ht : t < 1371) (hA : (V a).natAbs < BB ^ p) (hB : (V b).natAbs < BB ^ q) (hpq : p + q ≤ 64) (hq : ∀ f' l' g' wk', MR f' l' g' (up V t (V a * V b)) → Q f' l' g' wk') : P_Mo_times vv0 f l g wk v1 v2 v3 Q := by
  obtain ⟨m, hm, hl, hd, hhi, hlo, hg, hle, -⟩ := (h a ha).of
  obtain ⟨m', hm', hl', hd', hhi', hlo', hg', hle', -⟩ := (h b hb).of
  have hmp := hle p hA
  have hmq := hle' q hB
  have hzn : (V a * V b).natAbs = (V a).natAbs * (V b).natAbs := Int.natAbs_mul _ _
  have hzs : (V a * V b).sign = (V a).sign * (V b).sign := Int.sign_mul _ _
  have sa := sgn_cases (V a)
  have sb := sgn_cases (V b)
  have ss := sgn_cases (V a * V b)
  have nat1 := i_nat h1
  have nat2 := i_nat h2
  clear hle hle' hA hB hlo hlo'
  obtain ⟨w, hw⟩ : ∃ w : Nat, w = m + m' := ⟨_, rfl⟩
  generalize hzz : V a * V b = z at *
  generalize (V a).natAbs = A at *
  generalize (V b).natAbs = B at *
  -- behind the rows: the digits are laid into the slot
  have lay : ∀ (n i : Nat) (F D : Nat → Int32) (v4 v5 v6 : Int32), i + n = w → v4.toInt = (w : Int) → v6.toInt = (i : Int) → v5.toInt = z.sign → (∀ j, (j < 64 * t ∨ 64 * t + 64 ≤ j) → F j = f j) → (∀ k, k < w → dok (D k)) → dval (dn D) w = z.natAbs → (∀ k, k < i → F (64 * t + k) = D k) → E_Mo_times_189 vv0 F l g D v3 v4 v5 v6 Q := by
    intro n
    induction n with
    | zero =>
      intro i F D v4 v5 v6 hi h4 h6 h5 hF hok hv hT
      have hiw : i = w := by omega
      subst hiw
      refine R_Mo_times_189 ⟨fun _ => R_Mo_times_221 ?_, fun e => absurd (by rw [i_le]; omega) e⟩
      refine S_Mo_trim (n := i) (z := z) ((h.mx t).congr hF (fun _ _ => rfl) (fun _ _ => rfl)) h3 ht h4 (by omega) (fun k hk => by rw [hT k hk]; exact hok k hk) ?_ (fun _ => h5) fun l' g' hR => hq _ _ _ _ hR
      rw [← hv]
      refine dval_congr fun k hk => ?_
      show dn F (64 * t + k) = dn D k
      unfold dn
      rw [hT k hk]
    | succ n ih =>
      intro i F D v4 v5 v6 hi h4 h6 h5 hF hok hv hT
      have it := ixr h3 h6 ht (by omega)
      refine R_Mo_times_189 ⟨fun e => absurd e (by rw [i_le]; omega), fun _ => ⟨i_in h6 (by omega), it.1, fun x8 e8 => ?_⟩⟩
      rw [it.2, i_nat h6]
      refine ih (i + 1) _ D v4 v5 x8 (by omega) h4 (by rw [e8, i_add h6 z_1 (by omega) (by omega)]; omega) h5 (fun j hj => by rw [up_ne (by omega)]; exact hF j hj) hok hv (fun k hk => ?_)
      by_cases e : k = i
      · rw [e, up_same]
      · rw [up_ne (by omega)]; exact hT k (by omega)
  have outer : ∀ (s i : Nat) (D : Nat → Int32) (v4 y : Int32), i + s = m → v4.toInt = (w : Int) → y.toInt = (i : Int) → (∀ k, k < w → dok (D k)) → dval (dn D) w = A % BB ^ i * B → E_Mo_times_42 vv0 f l g D v1 v2 v3 v4 y Q := by
    intro s
    induction s with
    | zero =>
      intro i D v4 y hi h4 hy hok hv
      have : i = m := by omega
      subst this
      rw [Nat.mod_eq_of_lt hhi, ← hzn] at hv
      refine R_Mo_times_42 ⟨i_in h1 ha, fun _ => R_Mo_times_171 ⟨i_in h1 ha, i_in h2 hb, fun x4 e4 => ?_⟩, fun e => absurd (by rw [nat1, i_le, hl]; omega) e⟩
      have h4' : x4.toInt = z.sign := by
        rw [nat1, nat2] at e4
        rw [e4, i_mul hg hg' (by omega) (by omega), hzs]
      exact lay w 0 f D v4 x4 0 (by omega) h4 z_0 h4' (fun _ _ => rfl) hok hv (fun k hk => by omega)
    | succ s ih =>
      intro i D v4 y hi h4 hy hok hv
      have ia := ixr h1 hy ha (by omega)
      refine R_Mo_times_42 ⟨i_in h1 ha, fun e => absurd e (by rw [nat1, i_le, hl]; omega), fun _ => ⟨ia.1, fun x3 e3 => ?_⟩⟩
      have qa := hd i (by omega)
      rw [ia.2] at e3
      have q3 : x3.toInt = ((A / BB ^ i % BB : Nat) : Int) := by rw [e3]; exact i_wide qa
      have bA : A / BB ^ i % BB < 1073741824 := Nat.mod_lt _ (by decide)
      have hmod : A % BB ^ (i + 1) = A % BB ^ i + BB ^ i * (A / BB ^ i % BB) := Nat.mod_pow_succ
      have hV0 : dval (dn D) w < BB ^ (i + m') := by
        rw [hv, Nat.pow_add]
        have e1 : A % BB ^ i < BB ^ i := Nat.mod_lt _ (BB_pos i)
        by_cases hb0 : B = 0
        · rw [hb0, Nat.mul_zero]; exact Nat.mul_pos (BB_pos i) (BB_pos m')
        · exact Nat.mul_lt_mul_of_lt_of_lt e1 hhi'
      generalize hAi : A / BB ^ i % BB = Ai at *
      have inner : ∀ (u j : Nat) (F : Nat → Int32) (c : Int64) (cn : Nat) (x : Int32), j + u = m' → x.toInt = (j : Int) → c.toInt = (cn : Int) → cn < BB → (∀ k, k < w → dok (F k)) → (∀ k, i + j ≤ k → F k = D k) → dval (dn F) w + cn * BB ^ (i + j) = dval (dn D) w + Ai * (B % BB ^ j) * BB ^ i → E_Mo_times_74 vv0 f l g F v1 v2 v3 v4 y c x3 x Q := by
        intro u
        induction u with
        | zero =>
          intro j F c cn x hj hx hc hcn hokF hF hval
          have hj' : j = m' := by omega
          subst hj'
          have hcn' : cn < 1073741824 := hcn
          have hyl : (y + l b).toInt = ((i + j : Nat) : Int) := by rw [i_add hy hl' (by omega) (by omega)]; omega
          refine R_Mo_times_74 ⟨i_in h2 hb, fun _ => R_Mo_times_148 ⟨i_in h2 hb, by rw [nat2]; exact i_in hyl (by omega), fun x9 e9 => ?_⟩, fun e => absurd (by rw [nat2, i_le, hl', hx]; omega) e⟩
          rw [nat2, i_nat hyl]
          have hc32 : c.toInt32.toInt = (cn : Int) := j_nar hc (by omega) (by omega)
          have hz : dn F (i + j) = 0 := by
            have e1 : dn F (i + j) = dn D (i + j) := by unfold dn; rw [hF (i + j) (Nat.le_refl _)]
            rw [e1, ← dval_digit (f := dn D) (m := w) (k := i + j) (fun k hk => (hok k hk).to.2) (by omega), Nat.div_eq_of_lt hV0, Nat.zero_mod]
          have hup := dval_up (D := F) hc32 (k := i + j) (m := w) (by omega)
          rw [hz, Nat.zero_mul, Nat.add_zero] at hup
          refine ih (i + 1) _ v4 x9 (by omega) h4 (by rw [e9, i_add hy z_1 (by omega) (by omega)]; omega) (fun k hk => ?_) ?_
          · by_cases e : k = i + j
            · rw [e, up_same]; exact dok.of hc32 hcn
            · rw [up_ne e]; exact hokF k hk
          · rw [hup, hval, Nat.mod_eq_of_lt hhi', hv, hmod, Nat.add_mul]
            congr 1
            ac_rfl
        | succ u ihu =>
          intro j F c cn x hj hx hc hcn hokF hF hval
          have hcn' : cn < 1073741824 := hcn
          have hyx : (y + x).toInt = ((i + j : Nat) : Int) := by rw [i_add hy hx (by omega) (by omega)]; omega
          have ib := ixr h2 hx hb (by omega)
          have bB : B / BB ^ j % BB < 1073741824 := Nat.mod_lt _ (by decide)
          have hmodb : B % BB ^ (j + 1) = B % BB ^ j + BB ^ j * (B / BB ^ j % BB) := Nat.mod_pow_succ
          have qD := (hokF (i + j) (by omega)).to
          have bD : dn F (i + j) < 1073741824 := qD.2
          have qb := hd' j (by omega)
          refine R_Mo_times_74 ⟨i_in h2 hb, fun e => absurd e (by rw [nat2, i_le, hl', hx]; omega), fun _ => ⟨i_in hyx (by omega), ib.1, fun x5 e5 => ⟨i_in hyx (by omega), fun x6 e6 x7 e7 => ?_⟩⟩⟩
          rw [i_nat hyx] at e5 ⊢
          rw [ib.2] at e5
          generalize hBj : B / BB ^ j % BB = Bj at *
          generalize hDv : dn F (i + j) = Dv at *
          have hprod : Ai * Bj ≤ 1073741823 * 1073741823 := Nat.mul_le_mul (by omega) (by omega)
          have h5 : x5.toInt = ((Dv + Ai * Bj + cn : Nat) : Int) := by
            have hm := j_mul q3 (i_wide qb) (by rw [← Int.natCast_mul]; omega) (by rw [← Int.natCast_mul]; omega)
            rw [← Int.natCast_mul] at hm
            rw [e5, j_add (j_add (i_wide qD.1) hm (by omega) (by omega)) hc (by omega) (by omega)]
            omega
          have hdig : (x5 &&& (1073741823 : Int64)).toInt32.toInt = (((Dv + Ai * Bj + cn) % BB : Nat) : Int) := by rw [jm_nar, h5]; rfl
          generalize (x5 &&& (1073741823 : Int64)).toInt32 = ww at *
          refine ihu (j + 1) _ x6 ((Dv + Ai * Bj + cn) / BB) x7 (by omega) (by rw [e7, i_add hx z_1 (by omega) (by omega)]; omega) (by rw [e6, j_shr30, h5]; rfl) ?_ (fun k hk => ?_) (fun k hk => by rw [up_ne (by omega)]; exact hF k (by omega)) ?_
          · show (Dv + Ai * Bj + cn) / 1073741824 < 1073741824
            omega
          · by_cases e : k = i + j
            · rw [e, up_same]; exact dok.of hdig (Nat.mod_lt _ (by decide))
            · rw [up_ne e]; exact hokF k hk
          · have hup := dval_up (D := F) hdig (k := i + j) (m := w) (by omega)
            have cs := carry_step (Dv + Ai * Bj + cn) (BB ^ (i + j))
            rw [hDv] at hup
            rw [Nat.add_mul, Nat.add_mul] at cs
            rw [hmodb, show i + (j + 1) = i + j + 1 by omega, BB_succ (i + j), Nat.mul_add, Nat.add_mul, show Ai * (BB ^ j * Bj) * BB ^ i = Ai * Bj * BB ^ (i + j) by rw [Nat.pow_add]; ac_rfl]
            omega
      exact inner m' 0 D 0 0 0 (by omega) z_0 zL0 (by decide) hok (fun _ _ => rfl) (by simp [Nat.mod_one])
  have clear' : ∀ (n i : Nat) (D : Nat → Int32) (v4 v5 : Int32), i + n = w → v4.toInt = (w : Int) → v5.toInt = (i : Int) → (∀ k, k < i → D k = 0) → E_Mo_times_18 vv0 f l g D v1 v2 v3 v4 v5 Q := by
    intro n
    induction n with
    | zero =>
      intro i D v4 v5 hi h4 h5 hD
      have hiw : i = w := by omega
      subst hiw
      refine R_Mo_times_18 ⟨fun _ => R_Mo_times_39 (outer m 0 D v4 0 (by omega) h4 z_0 (fun k hk => by rw [hD k hk]; exact dok.of (v := 0) z_0 (by decide)) ?_), fun e => absurd (by rw [i_le]; omega) e⟩
      rw [Nat.pow_zero, Nat.mod_one, Nat.zero_mul]
      exact (dval_ext (Nat.zero_le i) (fun k _ hk => by unfold dn; rw [hD k hk]; rfl)).trans rfl
    | succ n ih =>
      intro i D v4 v5 hi h4 h5 hD
      refine R_Mo_times_18 ⟨fun e => absurd e (by rw [i_le]; omega), fun _ => ⟨i_in h5 (by omega), fun x2 e2 => ?_⟩⟩
      rw [i_nat h5]
      refine ih (i + 1) _ v4 x2 (by omega) h4 (by rw [e2, i_add h5 z_1 (by omega) (by omega)]; omega) (fun k hk => ?_)
      by_cases e : k = i
      · rw [e, up_same]
      · rw [up_ne e]; exact hD k (by omega)
  refine T_Mo_times (R_Mo_times_0 ⟨i_in h1 ha, i_in h2 hb, fun x1 e1 => clear' w 0 wk x1 0 (by omega) ?_ z_0 (fun k hk => by omega)⟩)
  rw [e1, nat1, nat2, i_add hl hl' (by omega) (by omega)]
  omega
theorem S_Mo_timesSmall {vv0 : Nat → Value} {f l g wk : Nat → Int32} {V : Nat → Int} {v1 v4 : Int32} {v2 : Int64} {a t : Nat} {z : Int} (p q : Nat) {Q : (Nat → Int32) → (Nat → Int32) → (Nat → Int32) → (Nat → Int32) → Prop} (h : MR f l g V) (h1 : v1.toInt = (a : Int)) (ha : a < 1370) (h2 : v2.toInt = z) (hz : -9223372036854775808 < z) (h4 : v4.toInt = (t : Int)) (ht : t < 1371) (hA : (V a).natAbs < BB ^ p) (hB : z.natAbs < BB ^ q) (hpq : p + q ≤ 64) (hq : ∀ f' l' g' wk', MR f' l' g' (up (up V 1370 z) t (V a * z)) → Q f' l' g' wk') : P_Mo_timesSmall vv0 f l g wk v1 v2 v4 Q := by
  have zD : (1370 : Int32).toInt = ((1370 : Nat) : Int) := by decide
  have e1 : up V 1370 z a = V a := up_ne (by omega)
  have e2 : up V 1370 z 1370 = z := up_same ..
  refine T_Mo_timesSmall (R_Mo_timesSmall_0 (S_Mo_set h zD (by omega) h2 hz fun f' l' g' hR => S_Mo_times p q hR h1 (by omega) zD (by omega) h4 ht (by rw [e1]; exact hA) (by rw [e2]; exact hB) hpq fun f'' l'' g'' wk' hR' => hq _ _ _ _ ?_))
  rw [e1, e2] at hR'
  exact hR'
