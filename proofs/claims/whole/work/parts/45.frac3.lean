/-! THE FRACTION in the reference -/
def FM (V : Nat → Int) (p : Int) (q : Nat) : Prop := 0 < q ∧ V 1344 = p.sign * (qa p q : Int) ∧ V 1345 = (qb p q : Int)
theorem low_eq {p : Int} {q : Nat} (hq : 0 < q) : lowN p (q : Int) = p.sign * (qa p q : Int) ∧ lowD p (q : Int) = (qb p q : Int) := by
  have hg : Int.gcd p (q : Int) = Nat.gcd p.natAbs q := rfl
  unfold lowN lowD qa qb
  rw [hg]
  refine ⟨?_, rfl⟩
  obtain ⟨h1, -, h3, -⟩ := td_all p ((Nat.gcd p.natAbs q : Nat) : Int)
  have hg0 : 0 < Nat.gcd p.natAbs q := Nat.gcd_pos_of_pos_right _ hq
  rw [Int.natAbs_natCast] at h1
  have sg : (((Nat.gcd p.natAbs q : Nat) : Int)).sign = 1 := Int.sign_eq_one_of_pos (by omega)
  rw [sg, Int.mul_one] at h3
  generalize hy : p.tdiv ((Nat.gcd p.natAbs q : Nat) : Int) = y at *
  rw [← h1]
  have s1 := sgn_cases y
  by_cases e : y = 0
  · rw [e, Int.natAbs_zero]
    simp
  · rw [h3 e]
    rcases s1 with ⟨s, t⟩ | ⟨s, t⟩ | ⟨s, t⟩ <;> rw [t] <;> omega
theorem qab_coprime {p : Int} {q : Nat} (hq : 0 < q) : Nat.Coprime (qa p q) (qb p q) ∧ p.natAbs = qa p q * Nat.gcd p.natAbs q ∧ q = qb p q * Nat.gcd p.natAbs q ∧ 0 < qb p q ∧ 0 < Nat.gcd p.natAbs q := by
  have hg : 0 < Nat.gcd p.natAbs q := Nat.gcd_pos_of_pos_right _ hq
  have ha : p.natAbs = qa p q * Nat.gcd p.natAbs q := (Nat.div_mul_cancel (Nat.gcd_dvd_left _ _)).symm
  have hb : q = qb p q * Nat.gcd p.natAbs q := (Nat.div_mul_cancel (Nat.gcd_dvd_right _ _)).symm
  refine ⟨Nat.coprime_div_gcd_div_gcd hg, ha, hb, ?_, hg⟩
  rcases Nat.eq_zero_or_pos (qb p q) with z | z
  · rw [z, Nat.zero_mul] at hb; omega
  · exact z
theorem q_congr {p p' : Int} {q q' : Nat} (hq : 0 < q) (hq' : 0 < q') (h : p * (q' : Int) = p' * (q : Int)) : qa p q = qa p' q' ∧ qb p q = qb p' q' ∧ p.sign = p'.sign := by
  obtain ⟨c1, a1, b1, p1, g1⟩ := qab_coprime (p := p) hq
  obtain ⟨c2, a2, b2, p2, g2⟩ := qab_coprime (p := p') hq'
  have hn : p.natAbs * q' = p'.natAbs * q := by
    have := congrArg Int.natAbs h
    rw [Int.natAbs_mul, Int.natAbs_mul, Int.natAbs_natCast, Int.natAbs_natCast] at this
    exact this
  have hs : p.sign = p'.sign := by
    have := congrArg Int.sign h
    rw [Int.sign_mul, Int.sign_mul, Int.sign_eq_one_of_pos (show (0 : Int) < (q' : Int) by omega), Int.sign_eq_one_of_pos (show (0 : Int) < (q : Int) by omega), Int.mul_one, Int.mul_one] at this
    exact this
  generalize Nat.gcd p.natAbs q = g at *
  generalize Nat.gcd p'.natAbs q' = g' at *
  generalize qa p q = a at *
  generalize qa p' q' = a' at *
  generalize qb p q = b at *
  generalize qb p' q' = b' at *
  have hx : a * b' = a' * b := by
    rw [a1, a2, b1, b2] at hn
    have e1 : a * g * (b' * g') = a * b' * (g * g') := by ac_rfl
    have e2 : a' * g' * (b * g) = a' * b * (g * g') := by ac_rfl
    rw [e1, e2] at hn
    exact Nat.eq_of_mul_eq_mul_right (Nat.mul_pos g1 g2) hn
  have d1 : a ∣ a' := c1.dvd_of_dvd_mul_right ⟨b', hx.symm⟩
  have d2 : a' ∣ a := c2.dvd_of_dvd_mul_right ⟨b, hx⟩
  have d3 : b ∣ b' := c1.symm.dvd_of_dvd_mul_left ⟨a', by rw [hx, Nat.mul_comm]⟩
  have d4 : b' ∣ b := c2.symm.dvd_of_dvd_mul_left ⟨a, by rw [← hx, Nat.mul_comm]⟩
  exact ⟨Nat.dvd_antisymm d1 d2, Nat.dvd_antisymm d3 d4, hs⟩
theorem FS.congr {sg an bn : Int32} {ad bd : Nat → Int32} {p p' : Int} {q q' : Nat} (h : FS sg an ad bn bd p q) (hq' : 0 < q') (e : p * (q' : Int) = p' * (q : Int)) : FS sg an ad bn bd p' q' := by
  obtain ⟨⟨h1, h5, h6⟩, h2, h3, h4⟩ := h
  obtain ⟨e1, e2, e3⟩ := q_congr h1 hq' e
  exact ⟨⟨hq', by rw [← e1]; exact h5, by rw [← e2]; exact h6⟩, by rw [← e1]; exact h2, by rw [← e2]; exact h3, by rw [← e3]; exact h4⟩
theorem FM.congr {V : Nat → Int} {p p' : Int} {q q' : Nat} (h : FM V p q) (hq' : 0 < q') (e : p * (q' : Int) = p' * (q : Int)) : FM V p' q' := by
  obtain ⟨h1, h2, h3⟩ := h
  obtain ⟨e1, e2, e3⟩ := q_congr h1 hq' e
  exact ⟨hq', by rw [← e1, ← e3]; exact h2, by rw [← e2]; exact h3⟩
/-- telling, as THE FRACTION -/
theorem FM.told {V : Nat → Int} {a : Int} {b : Int} {q : Nat} (hb : b = (q : Int)) (hq : 0 < q) (h1 : V 1344 = lowN a b) (h2 : V 1345 = lowD a b) : FM V a q := by
  subst hb
  obtain ⟨e1, e2⟩ := low_eq (p := a) hq
  exact ⟨hq, by rw [h1, e1], by rw [h2, e2]⟩
theorem FM.off {V V' : Nat → Int} {p : Int} {q : Nat} (h : FM V p q) (h1 : V' 1344 = V 1344) (h2 : V' 1345 = V 1345) : FM V' p q := ⟨h.1, by rw [h1]; exact h.2.1, by rw [h2]; exact h.2.2⟩
theorem FM.sgn {V : Nat → Int} {p : Int} {q : Nat} (h : FM V p q) : (V 1344).sign = p.sign ∧ (V 1344).natAbs = qa p q ∧ (V 1345).natAbs = qb p q := by
  obtain ⟨h1, h2, h3⟩ := h
  obtain ⟨-, a1, -, -, g1⟩ := qab_coprime (p := p) h1
  rw [h2, h3]
  have s := sgn_cases p
  refine ⟨?_, ?_, Int.natAbs_natCast _⟩
  · rcases s with ⟨s, t⟩ | ⟨s, t⟩ | ⟨s, t⟩
    · have : 0 < qa p q := by
        rcases Nat.eq_zero_or_pos (qa p q) with z | z
        · rw [z, Nat.zero_mul] at a1; omega
        · exact z
      rw [t]
      exact Int.sign_eq_neg_one_of_neg (by omega)
    · rw [t, Int.zero_mul]; rfl
    · have : 0 < qa p q := by
        rcases Nat.eq_zero_or_pos (qa p q) with z | z
        · rw [z, Nat.zero_mul] at a1; omega
        · exact z
      rw [t]
      exact Int.sign_eq_one_of_pos (by omega)
  · rcases s with ⟨s, t⟩ | ⟨s, t⟩ | ⟨s, t⟩
    · rw [t]; omega
    · have : qa p q = 0 := by
        unfold qa
        rw [s, Int.natAbs_zero, Nat.zero_div]
      rw [t, this]
      rfl
    · rw [t]; omega
section FRAC3
variable {vv vv' : Nat → Value} {fl ll gl : Nat → Int32} {V : Nat → Int} {p : Int} {q : Nat} {sg an bn : Int32} {ad bd : Nat → Int32}
theorem S_F_isEither {v : Int32} {Q : Int32 → Prop} (hq : ∀ r : Int32, (r = 1 ∧ (v.toInt = 0 ∨ v.toInt = 1)) ∨ (r = 0 ∧ v.toInt ≠ 0 ∧ v.toInt ≠ 1) → Q r) : P_F_isEither v Q := by
  have e0 : v = 0 ↔ v.toInt = 0 := by rw [i_eq, z_0]
  have e1 : v = 1 ↔ v.toInt = 1 := by rw [i_eq, z_1]
  refine T_F_isEither (R_F_isEither_0 ⟨fun e => R_F_isEither_9 (R_F_isEither_14 ⟨rb1, hq _ (Or.inl ⟨rfl, Or.inl (e0.mp e)⟩)⟩), fun e => ⟨fun e2 => R_F_isEither_13 (R_F_isEither_14 ⟨rb0, hq _ (Or.inr ⟨rfl, fun z => e (e0.mpr z), fun z => e2 (e1.mpr z)⟩)⟩), fun e2 => R_F_isEither_9 (R_F_isEither_14 ⟨rb1, hq _ (Or.inl ⟨rfl, Or.inr (e1.mp e2)⟩)⟩)⟩⟩)
theorem S_F_isWithin {v a b : Int32} {Q : Int32 → Prop} (hq : ∀ r : Int32, (r = 1 ∧ a.toInt ≤ v.toInt ∧ v.toInt ≤ b.toInt) ∨ (r = 0 ∧ ¬ (a.toInt ≤ v.toInt ∧ v.toInt ≤ b.toInt)) → Q r) : P_F_isWithin v a b Q := by
  refine T_F_isWithin (R_F_isWithin_0 ⟨fun e => R_F_isWithin_14 (R_F_isWithin_15 ⟨rb0, hq _ (Or.inr ⟨rfl, ?_⟩)⟩), fun e => ⟨fun e2 => R_F_isWithin_14 (R_F_isWithin_15 ⟨rb0, hq _ (Or.inr ⟨rfl, ?_⟩)⟩), fun e2 => R_F_isWithin_15 ⟨rb1, hq _ (Or.inl ⟨rfl, ?_⟩)⟩⟩⟩)
  · rw [i_lt] at e; omega
  · rw [i_lt] at e2; omega
  · rw [i_lt] at e e2; omega
theorem S_Mo_in {v a b : Int64} {Q : Int32 → Prop} (hq : ∀ r : Int32, (r = 1 ∧ a.toInt ≤ v.toInt ∧ v.toInt ≤ b.toInt) ∨ (r = 0 ∧ ¬ (a.toInt ≤ v.toInt ∧ v.toInt ≤ b.toInt)) → Q r) : P_Mo_in v a b Q := by
  refine T_Mo_in (R_Mo_in_0 ⟨fun e => R_Mo_in_17 (R_Mo_in_18 ⟨rb0, hq _ (Or.inr ⟨rfl, ?_⟩)⟩), fun e => ⟨fun e2 => R_Mo_in_17 (R_Mo_in_18 ⟨rb0, hq _ (Or.inr ⟨rfl, ?_⟩)⟩), fun e2 => R_Mo_in_18 ⟨rb1, hq _ (Or.inl ⟨rfl, ?_⟩)⟩⟩⟩)
  · rw [lg_lt0] at e; omega
  · rw [lg_gt0] at e2; omega
  · rw [lg_lt0] at e
    rw [lg_gt0] at e2
    omega
/-- in, with ints -/
theorem S_Mo_in32 {v : Int32} {a b : Int64} {A B : Int} {Q : Int32 → Prop} (ha : a.toInt = A) (hb : b.toInt = B) (hq : ∀ r : Int32, (r = 1 ∧ A ≤ v.toInt ∧ v.toInt ≤ B) ∨ (r = 0 ∧ ¬ (A ≤ v.toInt ∧ v.toInt ≤ B)) → Q r) : P_Mo_in v.toInt64 a b Q :=
  S_Mo_in fun r hr => hq r (by rw [i_wide (x := v) rfl, ha, hb] at hr; exact hr)
theorem dvd01 {v : Int32} : (v = 0 ∨ v = 1) ↔ (0 ≤ v.toInt ∧ v.toInt ≤ 1) := by
  rw [i_eq, i_eq, z_0, z_1]
  omega
/-! limbs, limb, sign, millionths -/
def limbsZ (p : Int) (q : Nat) (v : Int) (r : Int) : Prop := (v = 0 → ∃ n : Nat, r = (n : Int) ∧ ∃ f, Dg f n (qa p q)) ∧ (v = 1 → ∃ n : Nat, r = (n : Int) ∧ ∃ f, Dg f n (qb p q)) ∧ (v ≠ 0 ∧ v ≠ 1 → r = -2)
theorem limbsZ.uniq {v r r' : Int} (h : limbsZ p q v r) (h' : limbsZ p q v r') : r = r' := by
  by_cases e0 : v = 0
  · obtain ⟨n, e, f, hf⟩ := h.1 e0
    obtain ⟨n', e', f', hf'⟩ := h'.1 e0
    rw [e, e', hf.len hf']
  · by_cases e1 : v = 1
    · obtain ⟨n, e, f, hf⟩ := h.2.1 e1
      obtain ⟨n', e', f', hf'⟩ := h'.2.1 e1
      rw [e, e', hf.len hf']
    · rw [h.2.2 ⟨e0, e1⟩, h'.2.2 ⟨e0, e1⟩]
theorem z_m2 : (-2 : Int32).toInt = -2 := by decide
theorem BR.dgE {d : Nat → Int32} {n : Int32} {v : Nat} (h : BR d n v) : ∃ m : Nat, n.toInt = (m : Int) ∧ ∃ g, Dg g m v := by
  obtain ⟨m, h1, h2, h3⟩ := h
  exact ⟨m, h1, dn d, h2.dg, h2.2.2, h3⟩
theorem SL.dgE {s : Nat} {z : Int} (h : SL fl ll gl s z) : ∃ m : Nat, (ll s).toInt = (m : Int) ∧ ∃ g, Dg g m z.natAbs := by
  obtain ⟨m, h1, h2, h3, h4, h5⟩ := h
  exact ⟨m, h2, _, h4⟩
theorem S_F_limbs {v : Int32} {Q : Int32 → Prop} (h : FS sg an ad bn bd p q) (hq : ∀ r : Int32, limbsZ p q v.toInt r.toInt → Q r) : P_F_limbs vv vv' an bn v Q := by
  refine T_F_limbs (R_F_limbs_0 (S_F_isEither fun r1 h1 => ⟨fun e => R_F_limbs_21 (R_F_limbs_23 (hq _ ?_)), fun e => T_Frac_part (R_Frac_part_0 ⟨fun e2 => R_Frac_part_11 (R_Frac_part_15_v1 (R_F_limbs_23 (hq _ ?_))), fun e2 => R_Frac_part_15 (R_F_limbs_23 (hq _ ?_))⟩)⟩))
  · rcases h1 with h1 | h1
    · exact absurd (h1.1.symm.trans e) (by decide)
    · exact ⟨fun y => absurd y h1.2.1, fun y => absurd y h1.2.2, fun _ => z_m2⟩
  · rcases h1 with h1 | h1
    · rw [i_eq, z_0] at e2
      exact ⟨fun y => absurd y e2, fun _ => h.2.2.1.dgE, fun y => absurd (h1.2.resolve_left e2) y.2⟩
    · exact absurd h1.1 e
  · rw [i_eq, z_0] at e2
    exact ⟨fun _ => h.2.1.dgE, fun y => by omega, fun y => absurd e2 y.1⟩
theorem S_Mo_limbs {v : Int32} {Q : Int32 → Prop} (hR : MR fl ll gl V) (h : FM V p q) (hq : ∀ r : Int32, limbsZ p q v.toInt r.toInt → Q r) : P_Mo_limbs vv ll v Q := by
  have hs := h.sgn
  refine T_Mo_limbs (R_Mo_limbs_0 ⟨fun e => R_Mo_limbs_15 ⟨fun e2 => R_Mo_limbs_31 (R_Mo_limbs_33 (hq _ ?_)), fun e2 => ⟨i_in c1345 (by omega), R_Mo_limbs_33 (hq _ ?_)⟩⟩, fun e => ⟨i_in c1344 (by omega), R_Mo_limbs_33 (hq _ ?_)⟩⟩)
  · rw [i_eq, z_0] at e
    rw [i_eq, z_1] at e2
    exact ⟨fun y => absurd y e, fun y => absurd y e2, fun _ => z_m2⟩
  · rw [i_eq, z_1] at e2
    rw [i_nat c1345]
    refine ⟨fun y => by omega, fun _ => ?_, fun y => absurd e2 y.2⟩
    rw [← hs.2.2]
    exact (hR 1345 (by omega)).dgE
  · rw [i_eq, z_0] at e
    rw [i_nat c1344]
    refine ⟨fun _ => ?_, fun y => by omega, fun y => absurd e y.1⟩
    rw [← hs.2.1]
    exact (hR 1344 (by omega)).dgE
def partZ (p : Int) (q : Nat) (v : Int) : Nat := if v = 0 then qa p q else qb p q
def limbZ (p : Int) (q : Nat) (v i r : Int) : Prop := (¬ (v = 0 ∨ v = 1) ∨ i < 0 → r = -2) ∧ ((v = 0 ∨ v = 1) ∧ 0 ≤ i → ∃ n g, Dg g n (partZ p q v) ∧ (i.toNat < n → r = ((partZ p q v / BB ^ i.toNat % BB : Nat) : Int)) ∧ (n ≤ i.toNat → r = -1))
theorem limbZ.uniq {v i r r' : Int} (h : limbZ p q v i r) (h' : limbZ p q v i r') : r = r' := by
  by_cases e0 : (v = 0 ∨ v = 1) ∧ 0 ≤ i
  · obtain ⟨n, g, hg, h1, h2⟩ := h.2 e0
    obtain ⟨n', g', hg', h1', h2'⟩ := h'.2 e0
    have := hg.len hg'
    subst this
    by_cases e : i.toNat < n
    · rw [h1 e, h1' e]
    · rw [h2 (by omega), h2' (by omega)]
  · rw [h.1 (by omega), h'.1 (by omega)]
theorem S_F_limb {v i : Int32} {Q : Int32 → Prop} (h : FS sg an ad bn bd p q) (hq : ∀ r : Int32, limbZ p q v.toInt i.toInt r.toInt → Q r) : P_F_limb vv vv' an ad bn bd v i Q := by
  have bad : (¬ (v.toInt = 0 ∨ v.toInt = 1) ∨ i.toInt < 0) → E_F_limb_11 vv vv' an ad bn bd Q := fun e => R_F_limb_11 (hq _ ⟨fun _ => z_m2, fun y => by omega⟩)
  refine T_F_limb (R_F_limb_0 (S_F_isEither fun r1 h1 => ⟨fun e => bad (Or.inl ?_), fun e => ⟨fun e2 => R_F_limb_14 ?_, fun e2 => bad (Or.inr ?_)⟩⟩))
  · rcases h1 with h1 | h1
    · exact absurd (h1.1.symm.trans e) (by decide)
    · omega
  · rw [i_le, z_0] at e2
    have hi : i.toInt = (i.toInt.toNat : Int) := by omega
    have hv : v.toInt = 0 ∨ v.toInt = 1 := by
      rcases h1 with h1 | h1
      · exact h1.2
      · exact absurd h1.1 e
    have go : ∀ (n : Int32) (d : Nat → Int32), BR d n (partZ p q v.toInt) → (n ≤ i → E_F_limb_39 vv vv' an ad bn bd Q) ∧ (¬ n ≤ i → P_Big_digit d n i fun r2 => E_F_limb_40 vv vv' an ad bn bd r2 Q) := by
      intro n d hB
      obtain ⟨m, hm, g, hg⟩ := hB.dgE
      refine ⟨fun y => R_F_limb_39 (R_F_limb_40 (hq _ ⟨fun z => by omega, fun _ => ⟨m, g, hg, fun z => ?_, fun _ => z_m1⟩⟩)), fun y => S_Big_digit hB hi fun r2 e2 => R_F_limb_40 (hq _ ⟨fun z => by omega, fun _ => ⟨m, g, hg, fun _ => e2, fun z => ?_⟩⟩)⟩
      · rw [i_le, hm] at y; omega
      · rw [i_le, hm] at y; omega
    refine T_Frac_part (R_Frac_part_0 ⟨fun e3 => R_Frac_part_11 (R_Frac_part_15_v1 (go bn bd ?_)), fun e3 => R_Frac_part_15 (go an ad ?_)⟩)
    · rw [i_eq, z_0] at e3
      unfold partZ
      rw [if_neg e3]
      exact h.2.2.1
    · rw [i_eq, z_0] at e3
      unfold partZ
      rw [if_pos e3]
      exact h.2.1
  · rw [i_le, z_0] at e2
    omega
theorem S_Mo_limb {v i : Int32} {Q : Int32 → Prop} (hR : MR fl ll gl V) (h : FM V p q) (hq : ∀ r : Int32, limbZ p q v.toInt i.toInt r.toInt → Q r) : P_Mo_limb vv fl ll v i Q := by
  have hs := h.sgn
  have bad : (¬ (v.toInt = 0 ∨ v.toInt = 1) ∨ i.toInt < 0) → E_Mo_limb_14 vv fl ll Q := fun e => R_Mo_limb_14 (hq _ ⟨fun _ => z_m2, fun y => by omega⟩)
  refine T_Mo_limb (R_Mo_limb_0 (S_Mo_in32 zL0 zL1 fun r1 h1 => ⟨fun e => bad (Or.inl ?_), fun e => ⟨fun e2 => ?_, fun e2 => bad (Or.inr ?_)⟩⟩))
  · rcases h1 with h1 | h1
    · exact absurd (h1.1.symm.trans e) (by decide)
    · omega
  · rw [i_le, z_0] at e2
    have hi : i.toInt = (i.toInt.toNat : Int) := by omega
    have hv : v.toInt = 0 ∨ v.toInt = 1 := by
      rcases h1 with h1 | h1
      · omega
      · exact absurd h1.1 e
    have go : ∀ (s0 : Int32) (s : Nat), s0.toInt = (s : Int) → s < 1371 → (V s).natAbs = partZ p q v.toInt → E_Mo_limb_30 vv fl ll i s0 Q := by
      intro s0 s hs0 hs1 hp
      obtain ⟨m, hm, hl, hd, -⟩ := (hR s hs1).of
      obtain ⟨m', hl', g, hg⟩ := (hR s hs1).dgE
      have : m' = m := by omega
      subst this
      rw [hp] at hd hg
      refine R_Mo_limb_30 ⟨i_in hs0 hs1, fun y => R_Mo_limb_55 (R_Mo_limb_56 (hq _ ⟨fun z => by omega, fun _ => ⟨m', g, hg, fun z => ?_, fun _ => z_m1⟩⟩)), fun y => ?_⟩
      · rw [i_nat hs0, i_le, hl] at y; omega
      · rw [i_nat hs0, i_le, hl] at y
        have ii := ixr hs0 hi hs1 (by omega)
        refine ⟨ii.1, R_Mo_limb_56 (hq _ ⟨fun z => by omega, fun _ => ⟨m', g, hg, fun _ => ?_, fun z => by omega⟩⟩)⟩
        rw [ii.2]
        exact hd _ (by omega)
    refine R_Mo_limb_17 ⟨fun e3 => R_Mo_limb_27 (go 1345 1345 c1345 (by omega) ?_), fun e3 => go 1344 1344 c1344 (by omega) ?_⟩
    · rw [i_eq, z_0] at e3
      unfold partZ
      rw [if_neg e3]
      exact hs.2.2
    · rw [i_eq, z_0] at e3
      unfold partZ
      rw [if_pos e3]
      exact hs.2.1
  · rw [i_le, z_0] at e2
    omega
theorem S_F_sign {Q : Int32 → Prop} (h : FS sg an ad bn bd p q) (hq : ∀ r : Int32, r.toInt = p.sign → Q r) : P_F_sign vv sg Q := T_F_sign (R_F_sign_0 (hq _ h.2.2.2))
theorem S_Mo_sign {Q : Int32 → Prop} (hR : MR fl ll gl V) (h : FM V p q) (hq : ∀ r : Int32, r.toInt = p.sign → Q r) : P_Mo_sign vv gl Q := T_Mo_sign (R_Mo_sign_0 ⟨i_in c1344 (by omega), hq _ (by rw [i_nat c1344, hR.sgn (by omega), h.sgn.1])⟩)
theorem S_F_millionths {cn sn : Int32} {cd sd : Nat → Int32} {Q : Int64 → Int32 → (Nat → Int32) → Int32 → (Nat → Int32) → Prop} (h : FS sg an ad bn bd p q) (ha : qa p q < BB ^ 15) (hb : qb p q < BB ^ 15) (hq : ∀ (r : Int64) cn' cd' sn' sd', r.toInt = mill p q → Q r cn' cd' sn' sd') : P_F_millionths vv sg an ad bn bd cn cd sn sd Q := T_F_millionths (R_F_millionths_0 (S_Frac_floorMillionths h ha hb fun r cn' cd' sn' sd' e => hq _ _ _ _ _ e))
theorem S_Mo_longOf {v1 : Int32} {s : Nat} {Q : Int64 → Prop} (hR : MR fl ll gl V) (h1 : v1.toInt = (s : Int)) (hs : s < 1371) (hb : (V s).natAbs < BB ^ 2) (hq : ∀ r : Int64, r.toInt = ((V s).natAbs : Int) → Q r) : P_Mo_longOf vv fl ll v1 Q := by
  obtain ⟨m, hm, hl, hd, hhi, -, -, hle, -⟩ := (hR s hs).of
  have hm2 := hle 2 hb
  generalize (V s).natAbs = A at *
  have loop : ∀ (j : Nat) (v : Int64) (x : Int32), j ≤ m → x.toInt = (j : Int) - 1 → v.toInt = ((A / BB ^ j : Nat) : Int) → E_Mo_longOf_12 vv fl ll v1 v x Q := by
    intro j
    induction j with
    | zero =>
      intro v x _ hx hv
      rw [Nat.pow_zero, Nat.div_one] at hv
      exact R_Mo_longOf_12 ⟨fun _ => R_Mo_longOf_42 (hq _ hv), fun c => absurd (by rw [i_lt, z_0]; omega) c⟩
    | succ j ih =>
      intro v x hj hx hv
      have hx' : x.toInt = (j : Int) := by omega
      have ii := ixr h1 hx' hs (by omega)
      refine R_Mo_longOf_12 ⟨fun c => absurd c (by rw [i_lt, z_0]; omega), fun _ => ⟨ii.1, fun x2 e2 x3 e3 => ?_⟩⟩
      rw [ii.2] at e2
      have z30 : (30 : Int32).toInt = ((30 : Nat) : Int) := by decide
      have hv' : v.toInt = ((A / BB ^ j / 1073741824 : Nat) : Int) := by
        rw [hv, BB_succ, ← Nat.div_div_eq_div_mul]
      have hA' : A / BB ^ j < 1152921504606846976 := Nat.lt_of_le_of_lt (Nat.div_le_self _ _) hb
      have hdig : (fl (64 * s + j)).toInt = ((A / BB ^ j % 1073741824 : Nat) : Int) := hd j (by omega)
      clear hv hd hhi hle
      refine ih x2 x3 (by omega) (by rw [e3, i_add hx' z_m1 (by omega) (by omega)]; omega) ?_
      generalize A / BB ^ j = y at *
      have hsh := j_shlN (k := 30) hv' z30 (by omega) (by omega)
      rw [e2, j_addN hsh (i_wide hdig) (by omega)]
      omega
  refine T_Mo_longOf (R_Mo_longOf_0 ⟨i_in h1 hs, fun x1 e1 => loop m 0 x1 (Nat.le_refl _) ?_ ?_⟩)
  · rw [e1, i_nat h1, i_sub hl z_1 (by omega) (by omega)]
  · rw [Nat.div_eq_of_lt hhi, zL0]
    rfl
theorem S_Mo_millionths {wk : Nat → Int32} {tp un : Nat → Int64} {Q : Int64 → (Nat → Int32) → (Nat → Int32) → (Nat → Int32) → (Nat → Int32) → (Nat → Int64) → (Nat → Int64) → Prop} (hR : MR fl ll gl V) (h : FM V p q) (ha : qa p q < BB ^ 15) (hq : ∀ (r : Int64) fl' ll' gl' wk' tp' un' V', r.toInt = mill p q → MR fl' ll' gl' V' → Off [1340, 1341, 1342, 1370] V V' → Q r fl' ll' gl' wk' tp' un') : P_Mo_millionths vv fl ll gl wk tp un Q := by
  have hs := h.sgn
  have zM : (1000000 : Int64).toInt = 1000000 := by decide
  have zT : (1000000000000 : Int64).toInt = 1000000000000 := by decide
  obtain ⟨-, -, -, hb0, -⟩ := qab_coprime (p := p) h.1
  refine T_Mo_millionths (R_Mo_millionths_0 (S_Mo_timesSmall 15 1 hR c1344 (by omega) zM (by omega) c1340 (by omega) (by rw [hs.2.1]; exact ha) (by decide) (by omega) fun F1 L1 G1 W1 hR1 => ?_))
  have hO1 := ((Off.refl [1340, 1341, 1342, 1370] V).up (t := 1370) 1000000 (by simp)).up (t := 1340) (V 1344 * 1000000) (by simp)
  have w1 : up (up V 1370 1000000) 1340 (V 1344 * 1000000) 1340 = V 1344 * 1000000 := up_same ..
  have w2 : up (up V 1370 1000000) 1340 (V 1344 * 1000000) 1345 = V 1345 := by rw [up_ne (by omega), up_ne (by omega)]
  have w3 : up (up V 1370 1000000) 1340 (V 1344 * 1000000) 1344 = V 1344 := by rw [up_ne (by omega), up_ne (by omega)]
  generalize up (up V 1370 1000000) 1340 (V 1344 * 1000000) = V1 at *
  have hN : (V 1344 * 1000000).natAbs = qa p q * 1000000 := by rw [Int.natAbs_mul, hs.2.1]; rfl
  have hN63 : qa p q * 1000000 < BB ^ 63 := by
    have h1 : qa p q * 1000000 < BB ^ 15 * BB := Nat.mul_lt_mul_of_lt_of_lt ha (by decide)
    rw [← BB_succ] at h1
    exact Nat.lt_of_lt_of_le h1 (Nat.pow_le_pow_right (by decide) (by omega))
  refine S_Mo_divide hR1 c1340 (by omega) c1345 (by omega) c1341 (by omega) c1342 (by omega) (by omega) (by rw [w2]; omega) (by rw [w1, hN]; exact hN63) fun F2 L2 G2 W2 T2 U2 hR2 => ?_
  rw [w1, w2] at hR2
  obtain ⟨t1, t2, -, -⟩ := td_all (V 1344 * 1000000) (V 1345)
  rw [hN, hs.2.2] at t1 t2
  have hO2 := (hO1.up (t := 1341) ((V 1344 * 1000000).tdiv (V 1345)) (by simp)).up (t := 1342) ((V 1344 * 1000000).tmod (V 1345)) (by simp)
  have u1 : up (up V1 1341 ((V 1344 * 1000000).tdiv (V 1345))) 1342 ((V 1344 * 1000000).tmod (V 1345)) 1341 = (V 1344 * 1000000).tdiv (V 1345) := by rw [up_ne (by omega), up_same]
  have u2 : up (up V1 1341 ((V 1344 * 1000000).tdiv (V 1345))) 1342 ((V 1344 * 1000000).tmod (V 1345)) 1342 = (V 1344 * 1000000).tmod (V 1345) := up_same ..
  have u3 : up (up V1 1341 ((V 1344 * 1000000).tdiv (V 1345))) 1342 ((V 1344 * 1000000).tmod (V 1345)) 1344 = V 1344 := by rw [up_ne (by omega), up_ne (by omega), w3]
  generalize up (up V1 1341 ((V 1344 * 1000000).tdiv (V 1345))) 1342 ((V 1344 * 1000000).tmod (V 1345)) = V2 at *
  rw [← u1] at t1
  rw [← u2] at t2
  have hmo := mill_of (p := p) h.1
  have sgc := sgn_cases p
  generalize qa p q * 1000000 / qb p q = y at *
  generalize qa p q * 1000000 % qb p q = z at *
  have zmr : ((0 : Int64) - 1000000000000).toInt = -1000000000000 := by decide
  have last : ∀ s0 : Int64, s0.toInt = min 1000000000000 (y : Int) → E_Mo_millionths_68 vv F2 L2 G2 W2 T2 U2 1000000000000 s0 Q := by
    intro s0 hs0
    refine R_Mo_millionths_68 ⟨i_in c1344 (by omega), fun e => R_Mo_millionths_117 (hq _ _ _ _ _ _ _ V2 ?_ hR2 hO2), fun e => ⟨i_in c1342 (by omega), ?_⟩⟩
    · rw [i_nat c1344, i_le, z_0, hR2.sgn (by omega), u3, hs.1] at e
      rw [hmo, if_neg (by omega)]
      exact hs0
    · rw [i_nat c1344, i_le, z_0, hR2.sgn (by omega), u3, hs.1] at e
      rw [if_pos (by omega)] at hmo
      have hl := (hR2.len0 (s := 1342) (by omega)).2
      rw [i_nat c1342, hl]
      have g0 : ((0 : Int64) - s0).toInt = - min 1000000000000 (y : Int) := by
        rw [j_sub zL0 hs0 (by omega) (by omega)]
        omega
      have fin : ∀ (s1 : Int64), s1.toInt = (if z = 0 then 0 else 1) → E_Mo_millionths_99 vv F2 L2 G2 W2 T2 U2 1000000000000 (0 - s0) s1 Q := by
        intro s1 hs1
        have b01 : 0 ≤ s1.toInt ∧ s1.toInt ≤ 1 := by rw [hs1]; split <;> omega
        refine R_Mo_millionths_99 fun x12 e12 => ?_
        have hx12 : x12.toInt = - min 1000000000000 (y : Int) - s1.toInt := by rw [e12]; exact j_sub g0 rfl (by omega) (by omega)
        rw [lg_ge0, zmr, hx12]
        refine ⟨fun y2 => R_Mo_millionths_115 (R_Mo_millionths_116 (hq _ _ _ _ _ _ _ V2 ?_ hR2 hO2)), fun y2 => R_Mo_millionths_116 (hq _ _ _ _ _ _ _ V2 ?_ hR2 hO2)⟩
        · rw [hx12, hmo, ← hs1]
          omega
        · rw [zmr, hmo, ← hs1]
          omega
      refine ⟨fun y2 => R_Mo_millionths_98 (fin 0 ?_), fun y2 => fin 1 ?_⟩
      · rw [if_pos (by omega), zL0]
      · rw [if_neg (by omega), zL1]
  have mid : ∀ s0 : Int64, (s0.toInt = (y : Int) ∨ (s0.toInt = 1000000000000 ∧ 1000000000000 ≤ y)) → E_Mo_millionths_56 vv F2 L2 G2 W2 T2 U2 1000000000000 s0 Q := by
    intro s0 hs0
    refine R_Mo_millionths_56 ⟨fun e => R_Mo_millionths_67 (last s0 ?_), fun e => last _ ?_⟩
    · rw [lg_le0, zT] at e
      omega
    · rw [lg_le0, zT] at e
      rw [zT]
      omega
  obtain ⟨m, hm, hl, hd, hhi, hlo, -, hle, -⟩ := (hR2 1341 (by omega)).of
  refine R_Mo_millionths_29 ⟨i_in c1341 (by omega), fun e => R_Mo_millionths_49 (S_Mo_longOf hR2 c1341 (by omega) ?_ fun r11 e11 => mid r11 (Or.inl ?_)), fun e => mid _ (Or.inr ⟨zT, ?_⟩)⟩
  · rw [i_nat c1341, i_le, hl, z_2] at e
    exact Nat.lt_of_lt_of_le hhi (Nat.pow_le_pow_right (by decide) (by omega))
  · rw [e11]
    omega
  · rw [i_nat c1341, i_le, hl, z_2] at e
    have := hlo (by omega)
    have h2 : BB ^ 2 ≤ BB ^ (m - 1) := Nat.pow_le_pow_right (by decide) (by omega)
    have h3 : (1000000000000 : Nat) ≤ BB ^ 2 := by decide
    omega
end FRAC3
