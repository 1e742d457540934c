/-! THE SLOTS of the reference -/
/-- digit k of slot s -/
def ld (f : Nat → Int32) (s : Nat) : Nat → Nat := fun k => dn f (64 * s + k)
/-- slot s is the number z -/
def SL (f l g : Nat → Int32) (s : Nat) (z : Int) : Prop := ∃ m : Nat, m ≤ 64 ∧ (l s).toInt = (m : Int) ∧ (∀ k, k < m → dok (f (64 * s + k))) ∧ Dg (ld f s) m z.natAbs ∧ (g s).toInt = z.sign
/-- every slot s is the number V s -/
def MR (f l g : Nat → Int32) (V : Nat → Int) : Prop := ∀ s, s < 1371 → SL f l g s (V s)
/-- so is every slot but t -/
def MX (f l g : Nat → Int32) (V : Nat → Int) (t : Nat) : Prop := ∀ s, s < 1371 → s ≠ t → SL f l g s (V s)
theorem MR.mx {f l g : Nat → Int32} {V : Nat → Int} (h : MR f l g V) (t : Nat) : MX f l g V t := fun s hs _ => h s hs
theorem SL.congr {f l g f' l' g' : Nat → Int32} {s : Nat} {z : Int} (h : SL f l g s z) (hf : ∀ k, k < 64 → f' (64 * s + k) = f (64 * s + k)) (hl : l' s = l s) (hg : g' s = g s) : SL f' l' g' s z := by
  obtain ⟨m, h1, h2, h3, h4, h5⟩ := h
  refine ⟨m, h1, by rw [hl]; exact h2, fun k hk => by rw [hf k (by omega)]; exact h3 k hk, h4.congr (fun k hk => ?_), by rw [hg]; exact h5⟩
  show dn f (64 * s + k) = dn f' (64 * s + k)
  unfold dn
  rw [hf k (by omega)]
theorem MX.congr {f l g f' l' g' : Nat → Int32} {V : Nat → Int} {t : Nat} (h : MX f l g V t) (hf : ∀ j, (j < 64 * t ∨ 64 * t + 64 ≤ j) → f' j = f j) (hl : ∀ s, s ≠ t → l' s = l s) (hg : ∀ s, s ≠ t → g' s = g s) : MX f' l' g' V t := fun s hs ht =>
  (h s hs ht).congr (fun k hk => hf _ (by omega)) (hl s ht) (hg s ht)
theorem MX.mr {f l g : Nat → Int32} {V : Nat → Int} {t : Nat} {z : Int} (h : MX f l g V t) (hz : SL f l g t z) : MR f l g (up V t z) := fun s hs => by
  by_cases e : s = t
  · rw [e, up_same]
    exact hz
  · rw [up_ne e]
    exact h s hs e
theorem z64 : (64 : Int32).toInt = ((64 : Nat) : Int) := by decide
theorem ix {x y : Int32} {s k : Nat} (hx : x.toInt = (s : Int)) (hy : y.toInt = (k : Int)) (hs : s < 1371) (hk : k ≤ 1000) : ((64 : Int32) * x + y).toInt = ((64 * s + k : Nat) : Int) := by
  rw [i_add (i_mul z64 hx (by omega) (by omega)) hy (by omega) (by omega)]
  omega
theorem ixr {x y : Int32} {s k : Nat} (hx : x.toInt = (s : Int)) (hy : y.toInt = (k : Int)) (hs : s < 1371) (hk : k ≤ 63) : vp_in ((64 : Int32) * x + y) 87744 ∧ ((64 : Int32) * x + y).toNatClampNeg = 64 * s + k := ⟨i_in (ix hx hy hs (by omega)) (by omega), i_nat (ix hx hy hs (by omega))⟩
theorem dval_ld (F : Nat → Int32) (s i : Nat) (w : Int32) : dval (ld (up F (64 * s + i) w) s) i = dval (ld F s) i := dval_congr fun k hk => show dn (up F (64 * s + i) w) (64 * s + k) = dn F (64 * s + k) from dn_up_ne (by omega)
theorem dval_ld1 (F : Nat → Int32) (s i : Nat) {w : Int32} {v : Nat} (hw : w.toInt = (v : Int)) : dval (ld (up F (64 * s + i) w) s) (i + 1) = dval (ld F s) i + v * BB ^ i := by
  show dval (ld (up F (64 * s + i) w) s) i + dn (up F (64 * s + i) w) (64 * s + i) * BB ^ i = _
  rw [dn_up_same F (64 * s + i) hw, dval_ld]
theorem S_Mo_set {vv0 : Nat → Value} {f l g : Nat → Int32} {V : Nat → Int} {v1 : Int32} {v2 : Int64} {s : Nat} {z : Int} {Q : (Nat → Int32) → (Nat → Int32) → (Nat → Int32) → Prop} (h : MR f l g V) (h1 : v1.toInt = (s : Int)) (hs : s < 1371) (h2 : v2.toInt = z) (hz : -9223372036854775808 < z) (hq : ∀ f' l' g', MR f' l' g' (up V s z) → Q f' l' g') : P_Mo_set vv0 f l g v1 v2 Q := by
  have z30 : (30 : Int32).toInt = ((30 : Nat) : Int) := by decide
  have loop : ∀ (t i : Nat) (F G : Nat → Int32) (L : Nat) (v4 : Int64) (v6 : Int32), i + t ≤ 64 → L < BB ^ t → v4.toInt = (L : Int) → v6.toInt = (i : Int) → MX F l G V s → (G s).toInt = z.sign → (∀ k, k < i → dok (F (64 * s + k))) → dval (ld F s) i + L * BB ^ i = z.natAbs → (i = 0 ∨ 0 < L ∨ ld F s (i - 1) ≠ 0) → E_Mo_set_45 vv0 F l G v1 v4 v6 Q := by
    intro t
    induction t with
    | zero =>
      intro i F G L v4 v6 hi hL h4 h6 hM hG hd hv ht
      rw [Nat.pow_zero] at hL
      have hL0 : L = 0 := by omega
      subst hL0
      refine R_Mo_set_45 ⟨fun _ => R_Mo_set_84 ⟨i_in h1 hs, hq _ _ _ ?_⟩, fun e => absurd ((lg_le0 _ _).mpr (by rw [h4, zL0]; omega)) e⟩
      rw [i_nat h1]
      refine (hM.congr (fun _ _ => rfl) (fun _ e => up_ne e) (fun _ _ => rfl)).mr ⟨i, by omega, (congrArg Int32.toInt (up_same l s v6)).trans h6, hd, ⟨fun k hk => (hd k hk).to.2, by omega, by omega⟩, hG⟩
    | succ t ih =>
      intro i F G L v4 v6 hi hL h4 h6 hM hG hd hv ht
      by_cases hL0 : L = 0
      · refine R_Mo_set_45 ⟨fun _ => R_Mo_set_84 ⟨i_in h1 hs, hq _ _ _ ?_⟩, fun e => absurd ((lg_le0 _ _).mpr (by rw [h4, zL0]; omega)) e⟩
        subst hL0
        rw [i_nat h1]
        refine (hM.congr (fun _ _ => rfl) (fun _ e => up_ne e) (fun _ _ => rfl)).mr ⟨i, by omega, (congrArg Int32.toInt (up_same l s v6)).trans h6, hd, ⟨fun k hk => (hd k hk).to.2, by omega, by omega⟩, hG⟩
      · have hi' := ixr h1 h6 hs (by omega)
        refine R_Mo_set_45 ⟨fun e => absurd ((lg_le0 _ _).mp e) (by rw [h4, zL0]; omega), fun _ => ⟨hi'.1, fun x1 e1 x2 e2 => ?_⟩⟩
        rw [hi'.2]
        have hx1 : x1.toInt = ((L / BB : Nat) : Int) := by
          rw [e1, j_shr30, h4]
          rfl
        have hx2 : x2.toInt = ((i + 1 : Nat) : Int) := by rw [e2, i_add h6 z_1 (by omega) (by omega)]; omega
        have hw : ((v4 &&& (1073741823 : Int64)).toInt32).toInt = ((L % BB : Nat) : Int) := by
          rw [jm_nar, h4]
          rfl
        have hLm : L % BB < BB := Nat.mod_lt _ (by decide)
        have hLd : BB * (L / BB) + L % BB = L := Nat.div_add_mod L BB
        generalize (v4 &&& (1073741823 : Int64)).toInt32 = w at hw
        refine ih (i + 1) _ G (L / BB) x1 x2 (by omega) ?_ hx1 hx2 (hM.congr (fun j hj => up_ne (by omega)) (fun _ _ => rfl) (fun _ _ => rfl)) hG ?_ ?_ ?_
        · rw [BB_succ] at hL
          exact Nat.div_lt_of_lt_mul (by rw [Nat.mul_comm]; exact hL)
        · intro k hk
          by_cases e : k = i
          · rw [e, up_same]; exact dok.of hw hLm
          · rw [up_ne (by omega)]; exact hd k (by omega)
        · rw [dval_ld1 F s i hw, ← hv, BB_succ]
          have : L * BB ^ i = (BB * (L / BB) + L % BB) * BB ^ i := by rw [hLd]
          rw [this, Nat.add_mul, Nat.add_assoc]
          congr 1
          rw [Nat.add_comm]
          congr 1
          ac_rfl
        · right
          by_cases e : 0 < L / BB
          · exact Or.inl e
          · right
            show dn (up F (64 * s + i) w) (64 * s + (i + 1 - 1)) ≠ 0
            rw [Nat.add_sub_cancel, dn_up_same F (64 * s + i) hw]
            have : L / BB = 0 := Nat.eq_zero_of_not_pos e
            rw [this, Nat.mul_zero, Nat.zero_add] at hLd
            omega
  have start : ∀ (v4 : Int64) (r : Int32), v4.toInt = (z.natAbs : Int) → r.toInt = z.sign → E_Mo_set_41 vv0 f l g v1 v4 v1 r Q := by
    intro v4 r h4 hr
    refine R_Mo_set_41 ⟨i_in h1 hs, ?_⟩
    rw [i_nat h1]
    have := j_hi v4
    refine loop 64 0 f _ z.natAbs v4 0 (by omega) ?_ h4 z_0 ((h.mx s).congr (fun _ _ => rfl) (fun _ _ => rfl) (fun _ e => up_ne e)) (by rw [up_same]; exact hr) (fun k hk => by omega) (by simp [dval]) (Or.inl rfl)
    refine Nat.lt_of_lt_of_le (show z.natAbs < 9223372036854775808 by omega) (Nat.le_trans (show 9223372036854775808 ≤ BB ^ 3 by decide) (Nat.pow_le_pow_right (by decide) (by decide)))
  have mid : ∀ (v4 : Int64), v4.toInt = (z.natAbs : Int) → E_Mo_set_13 vv0 f l g v1 v2 v4 Q := by
    intro v4 h4
    refine R_Mo_set_13 ⟨fun e => R_Mo_set_30 ⟨fun e2 => R_Mo_set_40 (start v4 0 h4 ?_), fun e2 => start v4 1 h4 ?_⟩, fun e => start v4 (-1) h4 ?_⟩
    · rw [lg_ge0, h2, zL0] at e
      rw [lg_le0, h2, zL0] at e2
      rw [z_0, show z = 0 by omega]
      rfl
    · rw [lg_le0, h2, zL0] at e2
      rw [z_1, Int.sign_eq_one_of_pos (by omega)]
    · rw [lg_ge0, h2, zL0] at e
      rw [z_m1, Int.sign_eq_neg_one_of_neg (by omega)]
  refine T_Mo_set (R_Mo_set_0 ⟨fun e => R_Mo_set_12 (mid v2 ?_), fun e => mid _ ?_⟩)
  · rw [lg_ge0, h2, zL0] at e
    omega
  · rw [lg_ge0, h2, zL0] at e
    rw [j_sub zL0 h2 (by omega) (by have := j_lo v2; omega)]
    omega
theorem S_Mo_copy {vv0 : Nat → Value} {f l g : Nat → Int32} {V : Nat → Int} {v1 v2 : Int32} {a t : Nat} {Q : (Nat → Int32) → (Nat → Int32) → (Nat → Int32) → Prop} (h : MR f l g V) (h1 : v1.toInt = (a : Int)) (ha : a < 1371) (h2 : v2.toInt = (t : Int)) (ht : t < 1371) (hq : ∀ f' l' g', MR f' l' g' (up V t (V a)) → Q f' l' g') : P_Mo_copy vv0 f l g v1 v2 Q := by
  obtain ⟨m, hm, hl, hd, hdg, hsg⟩ := h a ha
  have loop : ∀ (n i : Nat) (F : Nat → Int32) (v3 : Int32), i + n = m → v3.toInt = (i : Int) → (∀ j, (j < 64 * t ∨ 64 * t + 64 ≤ j) → F j = f j) → (∀ k, k < m → F (64 * a + k) = f (64 * a + k)) → (∀ k, k < i → F (64 * t + k) = f (64 * a + k)) → E_Mo_copy_2 vv0 F l g v1 v2 v3 Q := by
    intro n
    induction n with
    | zero =>
      intro i F v3 hi h3 hF hA hT
      refine R_Mo_copy_2 ⟨i_in h1 ha, fun _ => R_Mo_copy_40 ⟨i_in h1 ha, i_in h2 ht, i_in h1 ha, i_in h2 ht, hq _ _ _ ?_⟩, fun e => absurd (by rw [i_nat h1, i_le, hl, h3]; omega) e⟩
      rw [i_nat h1, i_nat h2]
      refine ((h.mx t).congr hF (fun _ e => up_ne e) (fun _ e => up_ne e)).mr ⟨m, hm, (congrArg Int32.toInt (up_same l t _)).trans hl, fun k hk => by rw [hT k (by omega)]; exact hd k hk, hdg.congr (fun k hk => ?_), (congrArg Int32.toInt (up_same g t _)).trans hsg⟩
      show dn f (64 * a + k) = dn F (64 * t + k)
      unfold dn
      rw [hT k (by omega)]
    | succ n ih =>
      intro i F v3 hi h3 hF hA hT
      have ia := ixr h1 h3 ha (by omega)
      have it := ixr h2 h3 ht (by omega)
      refine R_Mo_copy_2 ⟨i_in h1 ha, fun e => absurd e (by rw [i_nat h1, i_le, hl, h3]; omega), fun _ => ⟨ia.1, it.1, fun x1 e1 => ?_⟩⟩
      rw [ia.2, it.2]
      have hx1 : x1.toInt = ((i + 1 : Nat) : Int) := by rw [e1, i_add h3 z_1 (by omega) (by omega)]; omega
      refine ih (i + 1) _ x1 (by omega) hx1 (fun j hj => by rw [up_ne (by omega)]; exact hF j hj) (fun k hk => ?_) (fun k hk => ?_)
      · by_cases e : 64 * a + k = 64 * t + i
        · rw [e, up_same, ← e]
          have : a = t := by omega
          subst this
          have : k = i := by omega
          subst this
          exact hA k hk
        · rw [up_ne e]
          exact hA k hk
      · by_cases e : k = i
        · rw [e, up_same]
          exact hA i (by omega)
        · rw [up_ne (by omega)]
          exact hT k (by omega)
  exact T_Mo_copy (R_Mo_copy_0 (loop m 0 f 0 (by omega) z_0 (fun _ _ => rfl) (fun _ _ => rfl) (fun k hk => by omega)))
theorem S_Mo_trim {vv0 : Nat → Value} {f l g : Nat → Int32} {V : Nat → Int} {v1 v2 v3 : Int32} {s n : Nat} {z : Int} {Q : (Nat → Int32) → (Nat → Int32) → Prop} (h : MX f l g V s) (h1 : v1.toInt = (s : Int)) (hs : s < 1371) (h2 : v2.toInt = (n : Int)) (hn : n ≤ 64) (hd : ∀ k, k < n → dok (f (64 * s + k))) (hv : dval (ld f s) n = z.natAbs) (h3 : z ≠ 0 → v3.toInt = z.sign) (hq : ∀ l' g', MR f l' g' (up V s z) → Q l' g') : P_Mo_trim vv0 f l g v1 v2 v3 Q := by
  have fin : ∀ (i : Nat) (v4 : Int32), i ≤ n → v4.toInt = (i : Int) → dval (ld f s) i = z.natAbs → (i = 0 ∨ ld f s (i - 1) ≠ 0) → E_Mo_trim_31 vv0 f l g v1 v3 v4 Q := by
    intro i v4 hi h4 hiv htop
    have hD : Dg (ld f s) i z.natAbs := ⟨fun k hk => (hd k (by omega)).to.2, hiv, htop⟩
    have hz := hD.zero
    have last : ∀ r : Int32, r.toInt = z.sign → Q (up l s v4) (up g s r) := fun r hr =>
      hq _ _ ((h.congr (fun _ _ => rfl) (fun _ e => up_ne e) (fun _ e => up_ne e)).mr ⟨i, by omega, (congrArg Int32.toInt (up_same l s v4)).trans h4, fun k hk => hd k (by omega), hD, (congrArg Int32.toInt (up_same g s r)).trans hr⟩)
    refine R_Mo_trim_31 ⟨i_in h1 hs, fun e => R_Mo_trim_53 (R_Mo_trim_54 ⟨i_in h1 hs, ?_⟩), fun e => R_Mo_trim_54 ⟨i_in h1 hs, ?_⟩⟩
    · rw [i_eq, h4, z_0] at e
      rw [i_nat h1]
      exact last v3 (h3 (by omega))
    · rw [i_eq, h4, z_0] at e
      rw [i_nat h1]
      refine last 0 ?_
      rw [show z = 0 by omega]
      rfl
  have loop : ∀ (i : Nat) (v4 : Int32), i ≤ n → v4.toInt = (i : Int) → dval (ld f s) i = z.natAbs → E_Mo_trim_3 vv0 f l g v1 v3 v4 Q := by
    intro i
    induction i with
    | zero =>
      intro v4 hi h4 hiv
      exact R_Mo_trim_3 ⟨fun _ => fin 0 v4 hi h4 hiv (Or.inl rfl), fun e => absurd (by rw [i_le, h4, z_0]; omega) e⟩
    | succ i ih =>
      intro v4 hi h4 hiv
      have hx := ix h1 h4 hs (by omega)
      have hx1 : ((64 : Int32) * v1 + v4 - 1).toInt = ((64 * s + i : Nat) : Int) := by rw [i_sub hx z_1 (by omega) (by omega)]; omega
      refine R_Mo_trim_3 ⟨fun e => absurd e (by rw [i_le, h4, z_0]; omega), fun _ => ⟨i_in hx1 (by omega), fun e => ?_, fun e x1 e1 => ?_⟩⟩
      · rw [i_nat hx1] at e
        refine fin (i + 1) v4 hi h4 hiv (Or.inr ?_)
        exact fun z => e ((ne0_iff (d := f) (k := 64 * s + i) (hd i (by omega))).mpr z)
      · rw [i_nat hx1] at e
        refine ih x1 (by omega) (by rw [e1, i_add h4 z_m1 (by omega) (by omega)]; omega) ?_
        have : ld f s i = 0 := (ne0_iff (d := f) (k := 64 * s + i) (hd i (by omega))).mp e
        simp only [dval] at hiv
        rw [this, Nat.zero_mul, Nat.add_zero] at hiv
        exact hiv
  exact T_Mo_trim (R_Mo_trim_0 (loop n v2 (Nat.le_refl n) h2 hv))
