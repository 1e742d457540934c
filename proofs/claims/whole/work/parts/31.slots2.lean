/-! the slots of the reference: comparing, adding -/
theorem SL.of {f l g : Nat → Int32} {s : Nat} {z : Int} (h : SL f l g s z) : ∃ m : Nat, m ≤ 64 ∧ (l s).toInt = (m : Int) ∧ (∀ k, k < m → (f (64 * s + k)).toInt = ((z.natAbs / BB ^ k % BB : Nat) : Int)) ∧ z.natAbs < BB ^ m ∧ (0 < m → BB ^ (m - 1) ≤ z.natAbs) ∧ (g s).toInt = z.sign ∧ (∀ n, z.natAbs < BB ^ n → m ≤ n) ∧ (m = 0 ↔ z.natAbs = 0) := by
  obtain ⟨m, h1, h2, h3, h4, h5⟩ := h
  refine ⟨m, h1, h2, fun k hk => ?_, h4.high, h4.low, h5, fun n hn => h4.le hn, h4.zero⟩
  rw [(h3 k hk).to.1, ← h4.dig hk]
  rfl
theorem S_Mo_compareSizes {vv0 : Nat → Value} {f l g : Nat → Int32} {V : Nat → Int} {v1 v2 : Int32} {a b : Nat} {Q : Int32 → Prop} (h : MR f l g V) (h1 : v1.toInt = (a : Int)) (ha : a < 1371) (h2 : v2.toInt = (b : Int)) (hb : b < 1371) (hq : ∀ r : Int32, r.toInt = cmpN (V a).natAbs (V b).natAbs → Q r) : P_Mo_compareSizes vv0 f l v1 v2 Q := by
  obtain ⟨m, hm, hl, hd, hhi, hlo, -, -, -⟩ := (h a ha).of
  obtain ⟨m', hm', hl', hd', hhi', hlo', -, -, -⟩ := (h b hb).of
  generalize (V a).natAbs = A at *
  generalize (V b).natAbs = B at *
  have loop : ∀ (j : Nat) (x : Int32), j ≤ m → m' = m → x.toInt = (j : Int) - 1 → A / BB ^ j = B / BB ^ j → E_Mo_compareSizes_45 vv0 f l v1 v2 x Q := by
    intro j
    induction j with
    | zero =>
      intro x _ _ hx he
      refine R_Mo_compareSizes_45 ⟨fun _ => R_Mo_compareSizes_101 (hq _ ?_), fun c => absurd (by rw [i_lt, z_0]; omega) c⟩
      rw [Nat.pow_zero, Nat.div_one, Nat.div_one] at he
      unfold cmpN
      rw [if_neg (by omega), if_pos he]
      rfl
    | succ j ih =>
      intro x hj hmm hx he
      have hx' : x.toInt = (j : Int) := by omega
      have ea : A / BB ^ (j + 1) = A / BB ^ j / BB := by rw [Nat.pow_succ, Nat.div_div_eq_div_mul]
      have eb : B / BB ^ (j + 1) = B / BB ^ j / BB := by rw [Nat.pow_succ, Nat.div_div_eq_div_mul]
      rw [ea, eb] at he
      have ia := ixr h1 hx' ha (by omega)
      have ib := ixr h2 hx' hb (by omega)
      have da := hd j (by omega)
      have db := hd' j (by omega)
      have he' : A / BB ^ j / 1073741824 = B / BB ^ j / 1073741824 := he
      have da' : (f (64 * a + j)).toInt = ((A / BB ^ j % 1073741824 : Nat) : Int) := da
      have db' : (f (64 * b + j)).toInt = ((B / BB ^ j % 1073741824 : Nat) : Int) := db
      refine R_Mo_compareSizes_45 ⟨fun c => absurd c (by rw [i_lt, z_0]; omega), fun _ => ⟨ia.1, fun x2 e2 => ⟨ib.1, fun x3 e3 => ⟨fun c => R_Mo_compareSizes_95 fun x4 e4 => ih x4 (by omega) hmm ?_ ?_, fun c => ⟨fun c2 => R_Mo_compareSizes_93 (R_Mo_compareSizes_94 (hq _ ?_)), fun c2 => R_Mo_compareSizes_94 (hq _ ?_)⟩⟩⟩⟩⟩
      · rw [e4]; exact i_add hx' z_m1 (by omega) (by omega)
      · rw [i_eq, e2, e3, ia.2, ib.2, da', db'] at c
        generalize A / BB ^ j = u at *
        generalize B / BB ^ j = w at *
        omega
      · rw [i_eq, e2, e3, ia.2, ib.2, da', db'] at c
        rw [i_le, e2, e3, ia.2, ib.2, da', db'] at c2
        have hlt : B / BB ^ j < A / BB ^ j := by
          generalize A / BB ^ j = u at *
          generalize B / BB ^ j = w at *
          omega
        have : B < A := Nat.lt_of_not_le fun z => absurd (Nat.div_le_div_right (c := BB ^ j) z) (by omega)
        unfold cmpN
        rw [if_neg (by omega), if_neg (by omega)]
        rfl
      · rw [i_le, e2, e3, ia.2, ib.2, da', db'] at c2
        have hlt : A / BB ^ j < B / BB ^ j := by
          generalize A / BB ^ j = u at *
          generalize B / BB ^ j = w at *
          omega
        have : A < B := Nat.lt_of_not_le fun z => absurd (Nat.div_le_div_right (c := BB ^ j) z) (by omega)
        unfold cmpN
        rw [if_pos this]
        rfl
  refine T_Mo_compareSizes (R_Mo_compareSizes_0 ⟨i_in h1 ha, i_in h2 hb, fun c => R_Mo_compareSizes_36 ⟨i_in h1 ha, fun x1 e1 => ?_⟩, fun c => ⟨i_in h1 ha, i_in h2 hb, fun c2 => R_Mo_compareSizes_34 (R_Mo_compareSizes_35 (hq _ ?_)), fun c2 => R_Mo_compareSizes_35 (hq _ ?_)⟩⟩)
  · rw [i_eq, i_nat h1, i_nat h2, hl, hl'] at c
    have hmm : m' = m := by omega
    subst hmm
    refine loop m' x1 (Nat.le_refl _) rfl ?_ ?_
    · rw [e1, i_nat h1]
      exact i_sub hl z_1 (by omega) (by omega)
    · rw [Nat.div_eq_of_lt hhi, Nat.div_eq_of_lt hhi']
  · rw [i_eq, i_nat h1, i_nat h2, hl, hl'] at c
    rw [i_le, i_nat h1, i_nat h2, hl, hl'] at c2
    have p : BB ^ m' ≤ BB ^ (m - 1) := Nat.pow_le_pow_right (by decide) (by omega)
    have := hlo (by omega)
    unfold cmpN
    rw [if_neg (by omega), if_neg (by omega)]
    rfl
  · rw [i_le, i_nat h1, i_nat h2, hl, hl'] at c2
    have p : BB ^ m ≤ BB ^ (m' - 1) := Nat.pow_le_pow_right (by decide) (by omega)
    have := hlo' (by omega)
    unfold cmpN
    rw [if_pos (by omega)]
    rfl
def cmpI (a b : Int) : Int := if a < b then -1 else if a = b then 0 else 1
theorem sgn_cases (z : Int) : (z < 0 ∧ z.sign = -1) ∨ (z = 0 ∧ z.sign = 0) ∨ (0 < z ∧ z.sign = 1) := by
  rcases Int.lt_trichotomy z 0 with h | h | h
  · exact Or.inl ⟨h, Int.sign_eq_neg_one_of_neg h⟩
  · exact Or.inr (Or.inl ⟨h, by rw [h]; rfl⟩)
  · exact Or.inr (Or.inr ⟨h, Int.sign_eq_one_of_pos h⟩)
theorem cmp_sign (a b : Int) (h : a.sign = b.sign) : a.sign * cmpN a.natAbs b.natAbs = cmpI a b := by
  unfold cmpN cmpI
  rcases sgn_cases a with ⟨h1, h2⟩ | ⟨h1, h2⟩ | ⟨h1, h2⟩ <;> rcases sgn_cases b with ⟨h3, h4⟩ | ⟨h3, h4⟩ | ⟨h3, h4⟩ <;> rw [h2] <;> split <;> split <;> (try split) <;> (try split) <;> omega
theorem S_Mo_compare {vv0 : Nat → Value} {f l g : Nat → Int32} {V : Nat → Int} {v1 v2 : Int32} {a b : Nat} {Q : Int32 → Prop} (h : MR f l g V) (h1 : v1.toInt = (a : Int)) (ha : a < 1371) (h2 : v2.toInt = (b : Int)) (hb : b < 1371) (hq : ∀ r : Int32, r.toInt = cmpI (V a) (V b) → Q r) : P_Mo_compare vv0 f l g v1 v2 Q := by
  obtain ⟨m, -, -, -, -, -, hg, -, -⟩ := (h a ha).of
  obtain ⟨m', -, -, -, -, -, hg', -, -⟩ := (h b hb).of
  refine T_Mo_compare (R_Mo_compare_0 ⟨i_in h1 ha, i_in h2 hb, fun c => R_Mo_compare_36 ⟨i_in h1 ha, S_Mo_compareSizes h h1 ha h2 hb fun r1 e1 => hq _ ?_⟩, fun c => ⟨i_in h1 ha, i_in h2 hb, fun c2 => R_Mo_compare_34 (R_Mo_compare_35 (hq _ ?_)), fun c2 => R_Mo_compare_35 (hq _ ?_)⟩⟩)
  · rw [i_eq, i_nat h1, i_nat h2, hg, hg'] at c
    rw [i_nat h1]
    have hr := cmp_sign (V a) (V b) c
    have hb : cmpI (V a) (V b) = -1 ∨ cmpI (V a) (V b) = 0 ∨ cmpI (V a) (V b) = 1 := by
      unfold cmpI
      split
      · omega
      · split <;> omega
    rw [i_mul hg e1 (by omega) (by omega), hr]
  · rw [i_eq, i_nat h1, i_nat h2, hg, hg'] at c
    rw [i_le, i_nat h1, i_nat h2, hg, hg'] at c2
    rw [z_1]
    unfold cmpI
    rcases sgn_cases (V a) with ⟨h1, h2⟩ | ⟨h1, h2⟩ | ⟨h1, h2⟩ <;> rcases sgn_cases (V b) with ⟨h3, h4⟩ | ⟨h3, h4⟩ | ⟨h3, h4⟩ <;> first | omega | (split <;> (try split) <;> omega)
  · rw [i_le, i_nat h1, i_nat h2, hg, hg'] at c2
    rw [z_m1]
    unfold cmpI
    rcases sgn_cases (V a) with ⟨h1, h2⟩ | ⟨h1, h2⟩ | ⟨h1, h2⟩ <;> rcases sgn_cases (V b) with ⟨h3, h4⟩ | ⟨h3, h4⟩ | ⟨h3, h4⟩ <;> first | omega | (split <;> (try split) <;> omega)
theorem dig_zero {v m i : Nat} (h : v < BB ^ m) (hi : m ≤ i) : v / BB ^ i % BB = 0 := by
  have h4 : BB ^ m ≤ BB ^ i := Nat.pow_le_pow_right (by decide) hi
  rw [Nat.div_eq_of_lt (by omega), Nat.zero_mod]
theorem S_Mo_joinSizes {vv0 : Nat → Value} {f l g : Nat → Int32} {V : Nat → Int} {v1 v2 v3 v4 : Int32} {a b t : Nat} {z : Int} {Q : (Nat → Int32) → (Nat → Int32) → (Nat → Int32) → Prop} (h : MR f l g V) (h1 : v1.toInt = (a : Int)) (ha : a < 1371) (h2 : v2.toInt = (b : Int)) (hb : b < 1371) (h3 : v3.toInt = (t : Int)) (ht : t < 1371) (hA : (V a).natAbs < BB ^ 63) (hB : (V b).natAbs < BB ^ 63) (hz : z.natAbs = (V a).natAbs + (V b).natAbs) (h4 : z ≠ 0 → v4.toInt = z.sign) (hq : ∀ f' l' g', MR f' l' g' (up V t z) → Q f' l' g') : P_Mo_joinSizes vv0 f l g v1 v2 v3 v4 Q := by
  obtain ⟨m, hm, hl, hd, hhi, hlo, -, hle, -⟩ := (h a ha).of
  obtain ⟨m', hm', hl', hd', hhi', hlo', -, hle', -⟩ := (h b hb).of
  have hm63 := hle 63 hA
  have hm63' := hle' 63 hB
  clear hle hle' hA hB
  generalize (V a).natAbs = A at *
  generalize (V b).natAbs = B at *
  have key : ∀ (M : Nat) (x7 x8 : Int32) (v5 : Int32), M ≤ 63 → m ≤ M → m' ≤ M → x7.toInt = (m : Int) → x8.toInt = (m' : Int) → v5.toInt = (M : Int) → E_Mo_joinSizes_54 vv0 f l g v1 v2 v3 v4 v5 0 x7 x8 0 Q := by
    intro M x7 x8 v5 hM gM gM' h7 h8 h5
    have loop : ∀ (n i : Nat) (F : Nat → Int32) (v6 v9 : Int32) (cn : Nat), i + n = M → v9.toInt = (i : Int) → v6.toInt = (cn : Int) → cn ≤ 1 → (∀ j, (j < 64 * t ∨ 64 * t + i ≤ j) → F j = f j) → (∀ k, k < i → dok (F (64 * t + k))) → dval (ld F t) i + cn * BB ^ i = A % BB ^ i + B % BB ^ i → E_Mo_joinSizes_54 vv0 F l g v1 v2 v3 v4 v5 v6 x7 x8 v9 Q := by
      intro n
      induction n with
      | zero =>
        intro i F v6 v9 cn hi h9 h6 hc hF hok hv
        have hiM : i = M := by omega
        subst hiM
        have it := ixr h3 h5 ht hM
        refine R_Mo_joinSizes_54 ⟨fun _ => R_Mo_joinSizes_152 ⟨it.1, ?_⟩, fun e => absurd (by rw [i_le]; omega) e⟩
        rw [it.2]
        have p0 : BB ^ m ≤ BB ^ i := Nat.pow_le_pow_right (by decide) gM
        have p1 : BB ^ m' ≤ BB ^ i := Nat.pow_le_pow_right (by decide) gM'
        rw [Nat.mod_eq_of_lt (show A < BB ^ i by omega), Nat.mod_eq_of_lt (show B < BB ^ i by omega)] at hv
        refine S_Mo_trim (n := i + 1) (z := z) ((h.mx t).congr (fun j hj => by rw [up_ne (by omega)]; exact hF j (by omega)) (fun _ _ => rfl) (fun _ _ => rfl)) h3 ht (by rw [i_add h5 z_1 (by omega) (by omega)]; omega) (by omega) (fun k hk => ?_) ?_ h4 fun l' g' hR => hq _ _ _ hR
        · by_cases e : k = i
          · rw [e, up_same]; exact dok.of h6 (show cn < 1073741824 by omega)
          · rw [up_ne (by omega)]; exact hok k (by omega)
        · rw [dval_ld1 F t i h6, hz]
          exact hv
      | succ n ih =>
        intro i F v6 v9 cn hi h9 h6 hc hF hok hv
        have ia := ixr h1 h9 ha (by omega)
        have ib := ixr h2 h9 hb (by omega)
        have it := ixr h3 h9 ht (by omega)
        have b2 : A / BB ^ i % BB < 1073741824 := Nat.mod_lt _ (by decide)
        have b3 : B / BB ^ i % BB < 1073741824 := Nat.mod_lt _ (by decide)
        have step : ∀ (s1 : Int32) (s0 : Int64) , s0.toInt = ((cn + A / BB ^ i % BB : Nat) : Int) → s1.toInt = ((B / BB ^ i % BB : Nat) : Int) → E_Mo_joinSizes_115 vv0 F l g v1 v2 v3 v4 v5 x7 x8 v9 s0 s1 Q := by
          intro s1 s0 g0 g1
          refine R_Mo_joinSizes_115 fun x6 e6 => ⟨it.1, fun y7 e7 y8 e8 => ?_⟩
          rw [it.2]
          generalize ea : A / BB ^ i % BB = a0 at *
          generalize eb : B / BB ^ i % BB = b0 at *
          have h6' : x6.toInt = ((cn + a0 + b0 : Nat) : Int) := by
            rw [e6, j_add g0 (i_wide g1) (by omega) (by omega)]
            omega
          have hdig : (x6 &&& (1073741823 : Int64)).toInt32.toInt = (((cn + a0 + b0) % BB : Nat) : Int) := by rw [jm_nar, h6']; rfl
          have hcar : y7.toInt = (((cn + a0 + b0) / BB : Nat) : Int) := by
            rw [e7]
            refine j_nar ?_ ?_ ?_
            · rw [j_shr30, h6']; rfl
            · show _ ≤ (((cn + a0 + b0) / 1073741824 : Nat) : Int)
              omega
            · show (((cn + a0 + b0) / 1073741824 : Nat) : Int) < _
              omega
          generalize (x6 &&& (1073741823 : Int64)).toInt32 = w at *
          refine ih (i + 1) _ y7 y8 ((cn + a0 + b0) / BB) (by omega) (by rw [e8, i_add h9 z_1 (by omega) (by omega)]; omega) hcar ?_ (fun j hj => by rw [up_ne (by omega)]; exact hF j (by omega)) (fun k hk => ?_) ?_
          · show (cn + a0 + b0) / 1073741824 ≤ 1
            omega
          · by_cases e : k = i
            · rw [e, up_same]; exact dok.of hdig (Nat.mod_lt _ (by decide))
            · rw [up_ne (by omega)]; exact hok k (by omega)
          · rw [dval_ld1 F t i hdig, Nat.mod_pow_succ, Nat.mod_pow_succ, ea, eb, BB_succ]
            have cs := carry_step (cn + a0 + b0) (BB ^ i)
            rw [Nat.add_mul, Nat.add_mul] at cs
            rw [Nat.mul_comm (BB ^ i) a0, Nat.mul_comm (BB ^ i) b0]
            omega
        have mid : ∀ (s1 : Int32), s1.toInt = ((A / BB ^ i % BB : Nat) : Int) → E_Mo_joinSizes_86 vv0 F l g v1 v2 v3 v4 v5 x7 x8 v9 v6 s1 Q := by
          intro s1 g1
          refine R_Mo_joinSizes_86 fun x5 e5 => ?_
          have hx5 : x5.toInt = ((cn + A / BB ^ i % BB : Nat) : Int) := by
            generalize A / BB ^ i % BB = a0 at *
            rw [e5, i_add h6 g1 (by omega) (by omega)]
            omega
          refine ⟨fun c => R_Mo_joinSizes_114 (step _ _ (i_wide hx5) ?_), fun c => ⟨ib.1, step _ _ (i_wide hx5) ?_⟩⟩
          · rw [i_le, h8, h9] at c
            rw [dig_zero hhi' (by omega)]
            rfl
          · rw [i_le, h8, h9] at c
            rw [ib.2, hF _ (by omega)]
            exact hd' i (by omega)
        refine R_Mo_joinSizes_54 ⟨fun e => absurd e (by rw [i_le]; omega), fun _ => ⟨fun c => R_Mo_joinSizes_85 (mid _ ?_), fun c => ⟨ia.1, mid _ ?_⟩⟩⟩
        · rw [i_le, h7, h9] at c
          rw [dig_zero hhi (by omega)]
          rfl
        · rw [i_le, h7, h9] at c
          rw [ia.2, hF _ (by omega)]
          exact hd i (by omega)
    exact loop M 0 f 0 0 0 (by omega) z_0 z_0 (by omega) (fun _ _ => rfl) (fun k hk => by omega) (by simp [dval, Nat.mod_one])
  have nat1 := i_nat h1
  have nat2 := i_nat h2
  refine T_Mo_joinSizes (R_Mo_joinSizes_0 ⟨i_in h1 ha, i_in h2 hb, fun c => R_Mo_joinSizes_24 ⟨i_in h2 hb, R_Mo_joinSizes_30 ⟨i_in h1 ha, fun x1 e1 => ⟨i_in h2 hb, fun x2 e2 => ?_⟩⟩⟩, fun c => ⟨i_in h1 ha, R_Mo_joinSizes_30 ⟨i_in h1 ha, fun x1 e1 => ⟨i_in h2 hb, fun x2 e2 => ?_⟩⟩⟩⟩)
  · rw [nat1, nat2, i_le, hl, hl'] at c
    exact key m' x1 x2 _ hm63' (by omega) (by omega) (by rw [e1, nat1]; exact hl) (by rw [e2, nat2]; exact hl') (by rw [nat2]; exact hl')
  · rw [nat1, nat2, i_le, hl, hl'] at c
    exact key m x1 x2 _ hm63 (by omega) (by omega) (by rw [e1, nat1]; exact hl) (by rw [e2, nat2]; exact hl') (by rw [nat1]; exact hl)
