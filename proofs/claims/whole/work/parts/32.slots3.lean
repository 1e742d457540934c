/-! the slots of the reference: sums -/
theorem up_up {α : Type} (f : Nat → α) (k : Nat) (x y : α) : up (up f k x) k y = up f k y := by
  funext j
  by_cases e : j = k
  · rw [e, up_same, up_same]
  · rw [up_ne e, up_ne e, up_ne e]
theorem up_comm {α : Type} (f : Nat → α) {k j : Nat} (x y : α) (h : k ≠ j) : up (up f k x) j y = up (up f j y) k x := by
  funext i
  by_cases e : i = j
  · rw [e, up_same, up_ne (Ne.symm h), up_same]
  · rw [up_ne e]
    by_cases e2 : i = k
    · rw [e2, up_same, up_same]
    · rw [up_ne e2, up_ne e2, up_ne e]
theorem MR.resign {f l g : Nat → Int32} {V : Nat → Int} {t : Nat} {z : Int} {r : Int32} (h : MR f l g V) (ht : t < 1371) (hz : z.natAbs = (V t).natAbs) (hr : r.toInt = z.sign) : MR f l (up g t r) (up V t z) := by
  refine ((h.mx t).congr (fun _ _ => rfl) (fun _ _ => rfl) (fun _ e => up_ne e)).mr ?_
  obtain ⟨m, h1, h2, h3, h4, h5⟩ := h t ht
  exact ⟨m, h1, h2, h3, by rw [hz]; exact h4, (congrArg Int32.toInt (up_same g t r)).trans hr⟩
theorem S_Mo_partSizes {vv0 : Nat → Value} {f l g : Nat → Int32} {V : Nat → Int} {v1 v2 v3 v4 : Int32} {a b t : Nat} {z : Int} {Q : (Nat → Int32) → (Nat → Int32) → (Nat → Int32) → Prop} (h : MR f l g V) (h1 : v1.toInt = (a : Int)) (ha : a < 1371) (h2 : v2.toInt = (b : Int)) (hb : b < 1371) (h3 : v3.toInt = (t : Int)) (ht : t < 1371) (hAB : (V b).natAbs ≤ (V a).natAbs) (hz : z.natAbs = (V a).natAbs - (V b).natAbs) (h4 : z ≠ 0 → v4.toInt = z.sign) (hq : ∀ f' l' g', MR f' l' g' (up V t z) → Q f' l' g') : P_Mo_partSizes vv0 f l g v1 v2 v3 v4 Q := by
  obtain ⟨m, hm, hl, hd, hhi, hlo, -, hle, -⟩ := (h a ha).of
  obtain ⟨m', hm', hl', hd', hhi', hlo', -, hle', -⟩ := (h b hb).of
  have hmm : m' ≤ m := hle' m (by omega)
  clear hle hle'
  generalize (V a).natAbs = A at *
  generalize (V b).natAbs = B at *
  have zBB : (1073741824 : Int32).toInt = 1073741824 := by decide
  have key : ∀ (x6 : Int32) (v5 : Int32), x6.toInt = (m' : Int) → v5.toInt = (m : Int) → E_Mo_partSizes_22 vv0 f l g v1 v2 v3 v4 v5 x6 0 0 Q := by
    intro x6 v5 h6 h5
    have loop : ∀ (n i : Nat) (F : Nat → Int32) (v7 v8 : Int32) (cn : Nat), i + n = m → v8.toInt = (i : Int) → v7.toInt = (cn : Int) → cn ≤ 1 → (∀ j, (j < 64 * t ∨ 64 * t + i ≤ j) → F j = f j) → (∀ k, k < i → dok (F (64 * t + k))) → dval (ld F t) i + B % BB ^ i = A % BB ^ i + cn * BB ^ i → E_Mo_partSizes_22 vv0 F l g v1 v2 v3 v4 v5 x6 v7 v8 Q := by
      intro n
      induction n with
      | zero =>
        intro i F v7 v8 cn hi h8 h7 hc hF hok hv
        have hiM : i = m := by omega
        subst hiM
        refine R_Mo_partSizes_22 ⟨fun _ => R_Mo_partSizes_115 ?_, fun e => absurd (by rw [i_le]; omega) e⟩
        rw [Nat.mod_eq_of_lt hhi, Nat.mod_eq_of_lt (show B < BB ^ i by omega)] at hv
        have hlt := dval_lt (f := ld F t) (m := i) (fun k hk => (hok k hk).to.2)
        have hc0 : cn = 0 := by
          rcases (show cn = 0 ∨ cn = 1 by omega) with z | z
          · exact z
          · rw [z, Nat.one_mul] at hv
            omega
        rw [hc0, Nat.zero_mul] at hv
        exact S_Mo_trim (n := i) (z := z) ((h.mx t).congr (fun j hj => hF j (by omega)) (fun _ _ => rfl) (fun _ _ => rfl)) h3 ht h5 hm hok (by rw [hz]; omega) h4 fun l' g' hR => hq _ _ _ hR
      | succ n ih =>
        intro i F v7 v8 cn hi h8 h7 hc hF hok hv
        have ia := ixr h1 h8 ha (by omega)
        have ib := ixr h2 h8 hb (by omega)
        have it := ixr h3 h8 ht (by omega)
        have b2 : A / BB ^ i % BB < 1073741824 := Nat.mod_lt _ (by decide)
        have b3 : B / BB ^ i % BB < 1073741824 := Nat.mod_lt _ (by decide)
        have ga : (F (64 * a + i)).toInt = ((A / BB ^ i % BB : Nat) : Int) := by
          rw [hF _ (by omega)]
          exact hd i (by omega)
        have step : ∀ (s1 : Int32), s1.toInt = ((B / BB ^ i % BB : Nat) : Int) → E_Mo_partSizes_67 vv0 F l g v1 v2 v3 v4 v5 x6 v8 (F (64 * a + i) - v7) s1 Q := by
          intro s1 g1
          generalize ea : A / BB ^ i % BB = a0 at *
          generalize eb : B / BB ^ i % BB = b0 at *
          have fin : ∀ (s2 s0 : Int32) (d c : Nat), s2.toInt = (d : Int) → s0.toInt = (c : Int) → c ≤ 1 → d < 1073741824 → d + cn + b0 = a0 + c * 1073741824 → E_Mo_partSizes_108 vv0 F l g v1 v2 v3 v4 v5 x6 s0 v8 (64 * v3 + v8) s2 Q := by
            intro s2 s0 d c hd2 hc2 hc1 hd1 heq
            refine R_Mo_partSizes_108 ⟨it.1, fun y6 e6 => ?_⟩
            rw [it.2]
            refine ih (i + 1) _ s0 y6 c (by omega) (by rw [e6, i_add h8 z_1 (by omega) (by omega)]; omega) hc2 hc1 (fun j hj => by rw [up_ne (by omega)]; exact hF j (by omega)) (fun k hk => ?_) ?_
            · by_cases e : k = i
              · rw [e, up_same]; exact dok.of hd2 hd1
              · rw [up_ne (by omega)]; exact hok k (by omega)
            · rw [dval_ld1 F t i hd2, Nat.mod_pow_succ, Nat.mod_pow_succ, ea, eb, BB_succ]
              have e1 : (d + cn + b0) * BB ^ i = (a0 + c * 1073741824) * BB ^ i := by rw [heq]
              rw [Nat.add_mul, Nat.add_mul, Nat.add_mul] at e1
              have e2 : c * (BB ^ i * BB) = c * 1073741824 * BB ^ i := by
                show c * (BB ^ i * 1073741824) = _
                ac_rfl
              rw [e2, Nat.mul_comm (BB ^ i) a0, Nat.mul_comm (BB ^ i) b0]
              omega
          refine R_Mo_partSizes_67 fun x5 e5 => ?_
          have hx5 : x5.toInt = (a0 : Int) - (cn : Int) - (b0 : Int) := by
            rw [e5, i_sub (i_sub ga h7 (by omega) (by omega)) g1 (by omega) (by omega)]
          refine ⟨fun c => R_Mo_partSizes_79 (R_Mo_partSizes_80 ⟨fun c2 => R_Mo_partSizes_106 (fin x5 0 (a0 - cn - b0) 0 ?_ z_0 (by omega) (by omega) ?_), fun c2 => absurd c c2⟩), fun c => R_Mo_partSizes_80 ⟨fun c2 => absurd c2 c, fun c2 => fin _ 1 (a0 + 1073741824 - cn - b0) 1 ?_ z_1 (by omega) ?_ ?_⟩⟩
          · rw [i_le, hx5, z_0] at c
            rw [hx5]
            omega
          · rw [i_le, hx5, z_0] at c
            omega
          · rw [i_le, hx5, z_0] at c
            rw [i_add hx5 zBB (by omega) (by omega)]
            omega
          · rw [i_le, hx5, z_0] at c
            omega
          · rw [i_le, hx5, z_0] at c
            omega
        refine R_Mo_partSizes_22 ⟨fun e => absurd e (by rw [i_le]; omega), fun _ => ⟨ia.1, fun c => R_Mo_partSizes_66 ?_, fun c => ⟨ib.1, ?_⟩⟩⟩
        · rw [i_le, h6, h8] at c
          rw [ia.2]
          refine step _ ?_
          rw [dig_zero hhi' (by omega)]
          rfl
        · rw [i_le, h6, h8] at c
          rw [ia.2, ib.2]
          refine step _ ?_
          rw [hF _ (by omega)]
          exact hd' i (by omega)
    exact loop m 0 f 0 0 0 (by omega) z_0 z_0 (by omega) (fun _ _ => rfl) (fun k hk => by omega) (by simp [dval, Nat.mod_one])
  have nat1 := i_nat h1
  have nat2 := i_nat h2
  exact T_Mo_partSizes (R_Mo_partSizes_0 ⟨i_in h1 ha, fun x1 e1 => ⟨i_in h2 hb, fun x2 e2 => key x2 x1 (by rw [e2, nat2]; exact hl') (by rw [e1, nat1]; exact hl)⟩⟩)
theorem S_Mo_sum {vv0 : Nat → Value} {f l g : Nat → Int32} {V : Nat → Int} {v1 v2 v3 v4 : Int32} {a b t : Nat} {w : Int} {Q : (Nat → Int32) → (Nat → Int32) → (Nat → Int32) → Prop} (h : MR f l g V) (h1 : v1.toInt = (a : Int)) (ha : a < 1371) (h2 : v2.toInt = (b : Int)) (hb : b < 1371) (h4 : v4.toInt = (t : Int)) (ht : t < 1371) (hA : (V a).natAbs < BB ^ 63) (hB : (V b).natAbs < BB ^ 63) (h3 : (v3.toInt = 1 ∧ w = V b) ∨ (v3.toInt = -1 ∧ w = - V b)) (hq : ∀ f' l' g', MR f' l' g' (up V t (V a + w)) → Q f' l' g') : P_Mo_sum vv0 f l g v1 v2 v3 v4 Q := by
  obtain ⟨m, -, -, -, -, -, hg, -, -⟩ := (h a ha).of
  obtain ⟨m', -, -, -, -, -, hg', -, -⟩ := (h b hb).of
  have nat1 := i_nat h1
  have nat2 := i_nat h2
  have nat4 := i_nat h4
  have hwb : w.natAbs = (V b).natAbs := by omega
  refine T_Mo_sum (R_Mo_sum_0 ⟨i_in h2 hb, fun x1 e1 => ⟨i_in h1 ha, fun c => ?_, fun c => ?_⟩⟩)
  · rw [nat1, i_eq, hg, z_0] at c
    rw [nat2] at e1
    have hx1 : x1.toInt = w.sign := by
      have hsb := sgn_cases (V b)
      rcases h3 with ⟨g1, g2⟩ | ⟨g1, g2⟩
      · rw [e1, i_mul hg' g1 (by omega) (by omega), g2, Int.mul_one]
      · rw [e1, i_mul hg' g1 (by omega) (by omega), g2, Int.sign_neg]
        omega
    have sw := sgn_cases w
    have sa := sgn_cases (V a)
    refine R_Mo_sum_38 ⟨fun c2 => R_Mo_sum_53 ⟨i_in h1 ha, fun c3 => R_Mo_sum_77 (S_Mo_compareSizes h h1 ha h2 hb fun r11 e11 => ⟨fun c4 => R_Mo_sum_103 (S_Mo_partSizes (z := V a + w) h h2 hb h1 ha h4 ht ?_ ?_ ?_ fun f' l' g' hR => R_Mo_sum_113 (hq _ _ _ hR)), fun c4 => ⟨i_in h1 ha, S_Mo_partSizes (z := V a + w) h h1 ha h2 hb h4 ht ?_ ?_ ?_ fun f' l' g' hR => R_Mo_sum_113 (hq _ _ _ hR)⟩⟩), fun c3 => S_Mo_joinSizes (z := V a + w) h h1 ha h2 hb h4 ht hA hB ?_ ?_ fun f' l' g' hR => R_Mo_sum_113 (hq _ _ _ hR)⟩, fun c2 => S_Mo_copy h h1 ha h4 ht fun f' l' g' hR => R_Mo_sum_113 (hq _ _ _ ?_)⟩
    · rw [i_lt, e11, z_0] at c4
      unfold cmpN at c4
      split at c4
      · omega
      · split at c4 <;> omega
    · rw [i_eq, hx1, z_0] at c2
      rw [nat1, i_eq, hg, hx1] at c3
      rw [i_lt, e11, z_0] at c4
      unfold cmpN at c4
      split at c4
      · omega
      · split at c4 <;> omega
    · rw [i_eq, hx1, z_0] at c2
      rw [nat1, i_eq, hg, hx1] at c3
      rw [i_lt, e11, z_0] at c4
      intro _
      have ss := sgn_cases (V a + w)
      unfold cmpN at c4
      split at c4
      · omega
      · split at c4 <;> omega
    · rw [i_lt, e11, z_0] at c4
      unfold cmpN at c4
      split at c4
      · omega
      · split at c4 <;> omega
    · rw [i_eq, hx1, z_0] at c2
      rw [nat1, i_eq, hg, hx1] at c3
      rw [i_lt, e11, z_0] at c4
      unfold cmpN at c4
      split at c4
      · omega
      · split at c4 <;> omega
    · rw [i_eq, hx1, z_0] at c2
      rw [nat1, i_eq, hg, hx1] at c3
      rw [i_lt, e11, z_0] at c4
      rw [nat1, hg]
      intro _
      have ss := sgn_cases (V a + w)
      unfold cmpN at c4
      split at c4
      · omega
      · split at c4 <;> omega
    · rw [i_eq, hx1, z_0] at c2
      rw [nat1, i_eq, hg, hx1] at c3
      omega
    · rw [i_eq, hx1, z_0] at c2
      rw [nat1, i_eq, hg, hx1] at c3
      intro _
      have ss := sgn_cases (V a + w)
      omega
    · rw [i_eq, hx1, z_0] at c2
      have : V a + w = V a := by omega
      rw [this]
      exact hR
  · rw [nat1, i_eq, hg, z_0] at c
    rw [nat2] at e1
    have hx1 : x1.toInt = w.sign := by
      have hsb := sgn_cases (V b)
      rcases h3 with ⟨g1, g2⟩ | ⟨g1, g2⟩
      · rw [e1, i_mul hg' g1 (by omega) (by omega), g2, Int.mul_one]
      · rw [e1, i_mul hg' g1 (by omega) (by omega), g2, Int.sign_neg]
        omega
    have sa := sgn_cases (V a)
    refine S_Mo_copy h h2 hb h4 ht fun f' l' g' hR => ⟨i_in h4 ht, R_Mo_sum_113 (hq _ _ _ ?_)⟩
    rw [nat4]
    have e := hR.resign (z := w) (r := x1) ht (by rw [up_same]; exact hwb) hx1
    rw [up_up] at e
    have : V a + w = w := by omega
    rw [this]
    exact e
theorem S_Mo_add {vv0 : Nat → Value} {f l g : Nat → Int32} {V : Nat → Int} {v1 v2 v3 : Int32} {a b t : Nat} {Q : (Nat → Int32) → (Nat → Int32) → (Nat → Int32) → Prop} (h : MR f l g V) (h1 : v1.toInt = (a : Int)) (ha : a < 1371) (h2 : v2.toInt = (b : Int)) (hb : b < 1371) (h3 : v3.toInt = (t : Int)) (ht : t < 1371) (hA : (V a).natAbs < BB ^ 63) (hB : (V b).natAbs < BB ^ 63) (hq : ∀ f' l' g', MR f' l' g' (up V t (V a + V b)) → Q f' l' g') : P_Mo_add vv0 f l g v1 v2 v3 Q :=
  T_Mo_add (R_Mo_add_0 (S_Mo_sum h h1 ha h2 hb h3 ht hA hB (Or.inl ⟨z_1, rfl⟩) fun _ _ _ hR => hq _ _ _ hR))
theorem S_Mo_less {vv0 : Nat → Value} {f l g : Nat → Int32} {V : Nat → Int} {v1 v2 v3 : Int32} {a b t : Nat} {Q : (Nat → Int32) → (Nat → Int32) → (Nat → Int32) → Prop} (h : MR f l g V) (h1 : v1.toInt = (a : Int)) (ha : a < 1371) (h2 : v2.toInt = (b : Int)) (hb : b < 1371) (h3 : v3.toInt = (t : Int)) (ht : t < 1371) (hA : (V a).natAbs < BB ^ 63) (hB : (V b).natAbs < BB ^ 63) (hq : ∀ f' l' g', MR f' l' g' (up V t (V a - V b)) → Q f' l' g') : P_Mo_less vv0 f l g v1 v2 v3 Q :=
  T_Mo_less (R_Mo_less_0 (S_Mo_sum h h1 ha h2 hb h3 ht hA hB (Or.inr ⟨z_m1, rfl⟩) fun _ _ _ hR => hq _ _ _ (by rw [Int.sub_eq_add_neg]; exact hR)))
