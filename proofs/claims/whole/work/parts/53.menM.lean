/-! MEN in the reference -/
theorem plc_low {n : Nat} {t : Nat → Nat} {k c : Nat} : ∀ {i : Nat}, i ≤ k → plc n t k c i = 0
  | 0, _ => rfl
  | i + 1, h => by
    simp only [plc]
    rw [plc_low (i := i) (by omega), if_neg (by omega)]
theorem cnt_low {n : Nat} {t : Nat → Nat} {k c x i : Nat} (h : i ≤ k) : cnt n t k c x i = 0 := by
  have h1 := cnt_le_plc n t k c x i
  rw [plc_low h] at h1
  omega
theorem triK_low {n : Nat} {t : Nat → Nat} {k i : Nat} (h : i ≤ k) : triK n t k i = 0 := by
  unfold triK
  have : ∀ m, cntB (fun c => decide (0 < plc n t k c i)) m = 0 := fun m => by
    induction m with
    | zero => rfl
    | succ m ih =>
      simp only [cntB, ih]
      rw [if_neg (by simp [plc_low h])]
  exact this _
theorem lx_nil {n low k c : Nat} {P : Nat → Bool} (h : ∀ x, P x = false) : ∀ x, lx n low k c P x = []
  | 0 => rfl
  | x + 1 => by
    simp only [lx, lx_nil h x, h x]
    rfl
theorem anyB_false {p : Nat → Bool} (h : ∀ x, p x = false) : ∀ n, anyB p n = false
  | 0 => rfl
  | n + 1 => by simp only [anyB, anyB_false h n, h n, Bool.or_self]
section MENM
variable {vv vv' : Nat → Value} {k l f m : Nat} {mk ml mh mm mn : Int32} {rows lens counts : Nat → Int32} {tt : Nat → Nat → Nat} {len : Nat → Nat}
  {fl ll gl wk : Nat → Int32} {tp un : Nat → Int64} {V : Nat → Int}
theorem zL3 : (3 : Int64).toInt = 3 := by decide
theorem z_4 : (4 : Int32).toInt = 4 := by decide
theorem z_5 : (5 : Int32).toInt = 5 := by decide
theorem S_Mo_isMan {v : Int32} {Q : Int32 → Prop} (hq : ∀ r : Int32, (r = 1 ∧ (0 ≤ v.toInt ∧ v.toInt ≤ 3)) ∨ (r = 0 ∧ ¬ (0 ≤ v.toInt ∧ v.toInt ≤ 3)) → Q r) : P_Mo_isMan v Q := by
  refine T_Mo_isMan (R_Mo_isMan_0 (S_Mo_in32 zL0 zL3 fun r h => ⟨?_, hq r h⟩))
  rcases h with h | h
  · exact Or.inr h.1
  · exact Or.inl h.1
theorem S_Mo_isThrow {v : Int32} {Q : Int32 → Prop} (h : MRu k l f m mk ml mm mn) (hh : mh.toInt = (f : Int)) (hq : ∀ r : Int32, (r = 1 ∧ ((l : Int) ≤ v.toInt ∧ v.toInt ≤ (f : Int))) ∨ (r = 0 ∧ ¬ ((l : Int) ≤ v.toInt ∧ v.toInt ≤ (f : Int))) → Q r) : P_Mo_isThrow vv ml mh v Q := by
  refine T_Mo_isThrow (R_Mo_isThrow_0 (S_Mo_in32 (i_wide h.2.2.1) (i_wide hh) fun r h' => ⟨?_, hq r h'⟩))
  rcases h' with h' | h'
  · exact Or.inr h'.1
  · exact Or.inl h'.1
theorem S_Mo_contexts {v1 : Int32} {K : Nat} {Q : Int32 → Prop} (h : MRu k l f m mk ml mm mn) (h1 : v1.toInt = (K : Int)) (hK : K ≤ 3) (hq : ∀ r : Int32, r.toInt = ((gn l f ^ K : Nat) : Int) → Q r) : P_Mo_contexts vv mn v1 Q := by
  have hn := gn_le h.1
  have loop : ∀ (u i : Nat) (v2 v3 : Int32), i + u = K → v3.toInt = (i : Int) → v2.toInt = ((gn l f ^ i : Nat) : Int) → E_Mo_contexts_4 vv mn v1 v2 v3 Q := by
    intro u
    induction u with
    | zero =>
      intro i v2 v3 hu h3 h2
      have : i = K := by omega
      subst this
      exact R_Mo_contexts_4 ⟨fun _ => R_Mo_contexts_22 (hq _ h2), fun y => absurd (by rw [i_le]; omega) y⟩
    | succ u ih =>
      intro i v2 v3 hu h3 h2
      refine R_Mo_contexts_4 ⟨fun y => absurd y (by rw [i_le]; omega), fun _ x1 e1 x2 e2 => ih (i + 1) x1 x2 (by omega) (by rw [e2]; exact i_suc h3 (by omega)) ?_⟩
      have hp := pow_n3 hn.2.1 (k := i) (by omega)
      have hm : gn l f ^ i * gn l f ≤ 125 * 5 := Nat.mul_le_mul hp hn.2.1
      rw [e1, Nat.pow_succ]
      exact i_mulN h2 h.2.2.2.2 (by omega)
  exact T_Mo_contexts (R_Mo_contexts_0 (loop K 0 1 0 (by omega) i_0 (by rw [Nat.pow_zero]; exact i_1)))
theorem S_Mo_contextAt {v1 v2 v3 : Int32} {man K p : Nat} {Q : Int32 → Prop} (h : MRu k l f m mk ml mm mn) (hM : MenR l f rows lens tt len) (h1 : v1.toInt = (man : Int)) (hman : man < 4) (h2 : v2.toInt = (K : Int)) (hK : K ≤ 3) (h3 : v3.toInt = (p : Int)) (hp : K ≤ p ∧ p ≤ len man) (hq : ∀ r : Int32, r.toInt = (cxt (gn l f) (tt man) K p : Int) → Q r) : P_Mo_contextAt vv ml mn rows v1 v2 v3 Q := by
  have hn := gn_le h.1
  obtain ⟨hl, hl120, hrow⟩ := hM man hman
  have hc := cxF_cxt (n := gn l f) (t := tt man) hp.1 (fun j hj => (hrow j (by omega)).2)
  rw [← hc] at hq
  refine T_Mo_contextAt (R_Mo_contextAt_0 fun x1 e1 => ?_)
  have hx1 : x1.toInt = ((p - K : Nat) : Int) := by rw [e1]; exact i_subN h3 h2 (by omega)
  have loop : ∀ (u j : Nat) (v4 v5 : Int32), j + u = K → v5.toInt = ((p - K + j : Nat) : Int) → v4.toInt = (cxF (gn l f) (tt man) (p - K) j : Int) → E_Mo_contextAt_8 vv ml mn rows v1 v3 v4 v5 Q := by
    intro u
    induction u with
    | zero =>
      intro j v4 v5 hu h5 h4
      have : j = K := by omega
      subst this
      exact R_Mo_contextAt_8 ⟨fun _ => R_Mo_contextAt_47 (hq _ h4), fun y => absurd (by rw [i_le]; omega) y⟩
    | succ u ih =>
      intro j v4 v5 hu h5 h4
      obtain ⟨hr1, hr2⟩ := hrow (p - K + j) (by omega)
      have ii := ixm3 h1 h5 hman (by omega)
      have hlt := cxF_lt (n := gn l f) (t := tt man) (s := p - K) (j := j) (fun i _ h2 => (hrow i (by omega)).2)
      have hpw := pow_n3 hn.2.1 (k := j) (by omega)
      have hm : gn l f * cxF (gn l f) (tt man) (p - K) j ≤ 5 * 125 := Nat.mul_le_mul hn.2.1 (by omega)
      have hl1 := h.1.2.1
      refine R_Mo_contextAt_8 ⟨fun y => absurd y (by rw [i_le]; omega), fun _ => ⟨ii.1, fun x2 e2 x3 e3 => ih (j + 1) x2 x3 (by omega) (by rw [e3, i_suc h5 (by omega)]; omega) ?_⟩⟩
      rw [ii.2] at e2
      rw [e2, i_subN (i_addN (i_mulN h.2.2.2.2 h4 (by omega)) hr1 (by omega)) h.2.2.1 (by omega)]
      simp only [cxF]
      omega
  exact loop K 0 0 x1 (by omega) hx1 i_0
/-- the reference's counts -/
def CtM (l f : Nat) (t : Nat → Nat) (K c ln : Nat) (counts : Nat → Int32) : Prop := ∀ x, x < gn l f → (counts x).toInt = (cnt (gn l f) t K c x ln : Int)
theorem S_Mo_countBehind {v1 v2 v3 : Int32} {man K c : Nat} {Q : Int32 → (Nat → Int32) → Prop} (h : MRu k l f m mk ml mm mn) (hM : MenR l f rows lens tt len) (h1 : v1.toInt = (man : Int)) (hman : man < 4) (h2 : v2.toInt = (K : Int)) (hK : K ≤ 3) (h3 : v3.toInt = (c : Int)) (hq : ∀ (r : Int32) (counts' : Nat → Int32), r.toInt = (plc (gn l f) (tt man) K c (len man) : Int) → CtM l f (tt man) K c (len man) counts' → Q r counts') : P_Mo_countBehind vv ml mn lens rows counts v1 v2 v3 Q := by
  have hn := gn_le h.1
  obtain ⟨hl, hl120, hrow⟩ := hM man hman
  have hl1 := h.1.2.1
  have main : ∀ (u i : Nat) (C : Nat → Int32) (v4 v5 : Int32), i + u = max K (len man) → K ≤ i → v5.toInt = (i : Int) → v4.toInt = (plc (gn l f) (tt man) K c i : Int) → CtM l f (tt man) K c i C → E_Mo_countBehind_29 vv ml mn lens rows C v1 v2 v3 v4 v5 Q := by
    intro u
    induction u with
    | zero =>
      intro i C v4 v5 hu hKi h5 h4 hC
      refine R_Mo_countBehind_29 ⟨i_in h1 hman, fun _ => R_Mo_countBehind_87 (hq _ _ ?_ ?_), fun y => absurd (by rw [i_nat h1, i_le]; omega) y⟩
      · rw [h4]
        by_cases e : K ≤ len man
        · rw [show i = len man by omega]
        · rw [plc_low (i := len man) (by omega), plc_low (i := i) (by omega)]
      · intro x hx
        rw [hC x hx]
        by_cases e : K ≤ len man
        · rw [show i = len man by omega]
        · rw [cnt_low (i := len man) (by omega), cnt_low (i := i) (by omega)]
    | succ u ih =>
      intro i C v4 v5 hu hKi h5 h4 hC
      have hil : i < len man := by omega
      obtain ⟨hr1, hr2⟩ := hrow i hil
      have ii := ixm3 h1 h5 hman (by omega)
      have hpl := plc_le (gn l f) (tt man) K c i
      refine R_Mo_countBehind_29 ⟨i_in h1 hman, fun y => absurd y (by rw [i_nat h1, i_le]; omega), fun _ => S_Mo_contextAt h hM h1 hman h2 hK h5 (by omega) fun r2 e2 => ⟨fun y => R_Mo_countBehind_81 fun x4 e4 => ?_, fun y => ?_⟩⟩
      · rw [i_eq, e2, h3] at y
        refine ih (i + 1) C v4 x4 (by omega) (by omega) (by rw [e4]; exact i_suc h5 (by omega)) ?_ ?_
        · rw [h4]
          simp only [plc]
          rw [if_neg (by omega), Nat.add_zero]
        · intro x hx
          rw [hC x hx]
          simp only [cnt]
          rw [if_neg (by omega), Nat.add_zero]
      · rw [i_eq, e2, h3] at y
        have hidx : (rows (120 * man + i) - ml).toInt = (tt man i : Int) := by
          rw [i_subN hr1 h.2.2.1 (by omega)]
          omega
        rw [ii.2]
        refine ⟨ii.1, i_in hidx (by omega), i_in hidx (by omega), fun x3 e3 => R_Mo_countBehind_81 fun x4 e4 => ?_⟩
        rw [i_nat hidx]
        refine ih (i + 1) _ x3 x4 (by omega) (by omega) (by rw [e4]; exact i_suc h5 (by omega)) ?_ ?_
        · rw [e3, i_suc h4 (by omega)]
          simp only [plc]
          rw [if_pos ⟨hKi, by omega⟩]
        · intro x hx
          have old := hC x hx
          have hcl := cnt_le_plc (gn l f) (tt man) K c x i
          simp only [cnt]
          by_cases e : x = tt man i
          · subst e
            rw [up_same, if_pos ⟨hKi, by omega, rfl⟩]
            exact i_suc old (by omega)
          · rw [up_ne e, if_neg (fun z => e z.2.2.symm), Nat.add_zero]
            exact old
  have clr : ∀ (u i : Nat) (C : Nat → Int32) (v4 : Int32), i + u = 5 → v4.toInt = (i : Int) → (∀ x, x < i → C x = 0) → E_Mo_countBehind_3 vv ml mn lens rows C v1 v2 v3 v4 Q := by
    intro u
    induction u with
    | zero =>
      intro i C v4 hu h4 hC
      refine R_Mo_countBehind_3 ⟨fun _ => R_Mo_countBehind_23 (main (max K (len man) - K) K C 0 v2 (by omega) (Nat.le_refl _) h2 ?_ ?_), fun y => absurd (by rw [i_le, z_5]; omega) y⟩
      · rw [plc_low (Nat.le_refl _)]
        exact i_0
      · intro x hx
        rw [hC x (by omega), cnt_low (Nat.le_refl _)]
        exact i_0
    | succ u ih =>
      intro i C v4 hu h4 hC
      refine R_Mo_countBehind_3 ⟨fun y => absurd y (by rw [i_le, z_5]; omega), fun _ => ⟨i_in h4 (by omega), fun x1 e1 => ?_⟩⟩
      rw [i_nat h4]
      refine ih (i + 1) _ x1 (by omega) (by rw [e1]; exact i_suc h4 (by omega)) fun x hx => ?_
      by_cases e : x = i
      · rw [e, up_same]
      · rw [up_ne e]; exact hC x (by omega)
  exact T_Mo_countBehind (R_Mo_countBehind_0 (clr 5 0 counts 0 (by omega) i_0 fun x hx => by omega))
theorem S_Mo_isContext {v1 v2 v3 : Int32} {Q : Int32 → Prop} (h : MRu k l f m mk ml mm mn) (hq : ∀ r : Int32, (r = 1 ∧ ((0 ≤ v1.toInt ∧ v1.toInt ≤ 3) ∧ (0 ≤ v2.toInt ∧ v2.toInt ≤ 3) ∧ (0 ≤ v3.toInt ∧ v3.toInt < ((gn l f ^ v2.toInt.toNat : Nat) : Int)))) ∨ (r = 0 ∧ ¬ ((0 ≤ v1.toInt ∧ v1.toInt ≤ 3) ∧ (0 ≤ v2.toInt ∧ v2.toInt ≤ 3) ∧ (0 ≤ v3.toInt ∧ v3.toInt < ((gn l f ^ v2.toInt.toNat : Nat) : Int)))) → Q r) : P_Mo_isContext vv mn v1 v2 v3 Q := by
  have hn := gn_le h.1
  have no : ¬ ((0 ≤ v1.toInt ∧ v1.toInt ≤ 3) ∧ (0 ≤ v2.toInt ∧ v2.toInt ≤ 3) ∧ (0 ≤ v3.toInt ∧ v3.toInt < ((gn l f ^ v2.toInt.toNat : Nat) : Int))) → E_Mo_isContext_40 vv mn Q := fun e => R_Mo_isContext_40 (R_Mo_isContext_41 ⟨rb0, hq _ (Or.inr ⟨rfl, e⟩)⟩)
  refine T_Mo_isContext (R_Mo_isContext_0 (S_Mo_isMan fun r1 h1 => ⟨fun e => no fun z => ?_, fun e => S_Mo_in32 zL0 zL3 fun r2 h2 => R_Mo_isContext_16 ⟨fun e2 => no fun z => ?_, fun e2 => ?_⟩⟩))
  · rw [bz h1] at e; exact e z.1
  · rw [bz h2] at e2; exact e2 z.2.1
  · rw [bz h1] at e
    rw [bz h2] at e2
    have e' := Classical.not_not.mp e
    have e2' := Classical.not_not.mp e2
    have hp := pow_n3 hn.2.1 (k := v2.toInt.toNat) (by omega)
    have hp0 : 0 < gn l f ^ v2.toInt.toNat := Nat.pow_pos (by omega)
    refine S_Mo_contexts (K := v2.toInt.toNat) h (by omega) (by omega) fun r3 e3 => S_Mo_in32 zL0 (i_wide (i_subN e3 i_1 (by omega))) fun r4 h4 => R_Mo_isContext_33 ⟨fun e5 => no fun z => ?_, fun e5 => R_Mo_isContext_41 ⟨rb1, hq _ (Or.inl ⟨rfl, e', e2', ?_⟩)⟩⟩
    · rw [bz h4] at e5; omega
    · rw [bz h4] at e5; omega
theorem S_Mo_triedOf {v1 : Int32} {man : Nat} {Q : Int32 → Prop} (h : MRu k l f m mk ml mm mn) (hM : MenR l f rows lens tt len) (h1 : v1.toInt = (man : Int)) (hman : man < 4) (hq : ∀ r : Int32, r.toInt = (tri (gn l f) (tt man) (len man) : Int) → Q r) : P_Mo_triedOf vv ml mn lens rows v1 Q := by
  have hn := gn_le h.1
  obtain ⟨hl, hl120, hrow⟩ := hM man hman
  have tb : ∀ K i, K ≤ 3 → triK (gn l f) (tt man) K i ≤ 125 := fun K i hK => Nat.le_trans (triK_le ..) (pow_n3 hn.2.1 hK)
  have sb : ∀ K, K ≤ 4 → sumN (fun K => triK (gn l f) (tt man) K (len man)) K ≤ K * 125 := fun K => by
    induction K with
    | zero => intro _; simp [sumN]
    | succ K ih =>
      intro hK
      have h1 := ih (by omega)
      have h2 := tb K (len man) (by omega)
      simp only [sumN]
      omega
  have loop : ∀ (u K : Nat) (v2 v3 : Int32), K + u = 4 → v3.toInt = (K : Int) → v2.toInt = ((sumN (fun K => triK (gn l f) (tt man) K (len man)) K * gn l f : Nat) : Int) → E_Mo_triedOf_4 vv ml mn lens rows v1 v2 v3 Q := by
    intro u
    induction u with
    | zero =>
      intro K v2 v3 hu h3 h2
      have hK : K = 4 := by omega
      subst hK
      exact R_Mo_triedOf_4 ⟨fun _ => R_Mo_triedOf_105 (hq _ h2), fun y => absurd (by rw [i_le, z_4]; omega) y⟩
    | succ u ih =>
      intro K v2 v3 hu h3 h2
      have s1 := sb K (by omega)
      have places : ∀ (u' i : Nat) (v2 v4 : Int32), i + u' = max K (len man) → K ≤ i → v4.toInt = (i : Int) → v2.toInt = (((sumN (fun K => triK (gn l f) (tt man) K (len man)) K + triK (gn l f) (tt man) K i) * gn l f : Nat) : Int) → E_Mo_triedOf_12 vv ml mn lens rows v1 v2 v3 v4 Q := by
        intro u'
        induction u' with
        | zero =>
          intro i v2 v4 hu' hKi h4 h2
          refine R_Mo_triedOf_12 ⟨i_in h1 hman, fun _ => R_Mo_triedOf_99 fun x2 e2 => ih (K + 1) v2 x2 (by omega) (by rw [e2]; exact i_suc h3 (by omega)) ?_, fun y => absurd (by rw [i_nat h1, i_le]; omega) y⟩
          rw [h2]
          simp only [sumN]
          by_cases e : K ≤ len man
          · rw [show i = len man by omega]
          · rw [triK_low (i := len man) (by omega), triK_low (i := i) (by omega)]
        | succ u' ih' =>
          intro i v2 v4 hu' hKi h4 h2
          have t1 := tb K i (by omega)
          have hts := triK_succ (n := gn l f) (by omega) (tt man) K i
          have next : ∀ (s1 : Int32) (b : Nat), s1.toInt = ((b * gn l f : Nat) : Int) → b = (if K ≤ i ∧ plc (gn l f) (tt man) K (cxt (gn l f) (tt man) K i) i = 0 then 1 else 0) → E_Mo_triedOf_91 vv ml mn lens rows v1 v3 v4 v2 s1 Q := by
            intro s1' b hs1 hb
            have hb1 : b ≤ 1 := by rw [hb]; split <;> omega
            have hm : (sumN (fun K => triK (gn l f) (tt man) K (len man)) K + triK (gn l f) (tt man) K i) * gn l f ≤ 625 * 5 := Nat.mul_le_mul (by omega) hn.2.1
            have hm2 : b * gn l f ≤ 1 * 5 := Nat.mul_le_mul hb1 hn.2.1
            refine R_Mo_triedOf_91 fun x5 e5 x6 e6 => ih' (i + 1) x5 x6 (by omega) (by omega) (by rw [e6]; exact i_suc h4 (by omega)) ?_
            rw [e5, i_addN h2 hs1 (by omega), hts, ← hb, ← Nat.add_mul, Nat.add_assoc]
          refine R_Mo_triedOf_12 ⟨i_in h1 hman, fun y => absurd y (by rw [i_nat h1, i_le]; omega), fun _ => S_Mo_contextAt h hM h1 hman h3 (by omega) h4 (by omega) fun r1 e1 => ?_⟩
          have before : ∀ (w j : Nat) (v6 v7 : Int32), j + w = i → K ≤ j → v7.toInt = (j : Int) → ((v6 = 0 ∧ plc (gn l f) (tt man) K (cxt (gn l f) (tt man) K i) j ≠ 0) ∨ (v6 ≠ 0 ∧ plc (gn l f) (tt man) K (cxt (gn l f) (tt man) K i) j = 0)) → E_Mo_triedOf_39 vv ml mn lens rows v1 v2 v3 v4 r1 v6 v7 Q := by
            intro w
            induction w with
            | zero =>
              intro j v6 v7 hw hKj h7 h6
              have : j = i := by omega
              subst this
              refine R_Mo_triedOf_39 ⟨fun _ => R_Mo_triedOf_77 ⟨fun y => R_Mo_triedOf_90 (next 0 0 (by rw [Nat.zero_mul]; exact i_0) ?_), fun y => next mn 1 (by rw [Nat.one_mul]; exact h.2.2.2.2) ?_⟩, fun y => absurd (by rw [i_le]; omega) y⟩
              · rcases h6 with h6 | h6
                · rw [if_neg (fun z => h6.2 z.2)]
                · exact absurd y h6.1
              · rcases h6 with h6 | h6
                · exact absurd h6.1 y
                · rw [if_pos ⟨hKj, h6.2⟩]
            | succ w ihw =>
              intro j v6 v7 hw hKj h7 h6
              have next0 : (plc (gn l f) (tt man) K (cxt (gn l f) (tt man) K i) j ≠ 0 ∨ cxt (gn l f) (tt man) K j = cxt (gn l f) (tt man) K i) → E_Mo_triedOf_68 vv ml mn lens rows v1 v2 v3 v4 r1 v7 Q := fun hd => R_Mo_triedOf_68 (R_Mo_triedOf_69 fun x4 e4 => ihw (j + 1) 0 x4 (by omega) (by omega) (by rw [e4]; exact i_suc h7 (by omega)) (Or.inl ⟨rfl, by
                simp only [plc]
                rcases hd with hd | hd
                · omega
                · rw [if_pos ⟨hKj, hd⟩]; omega⟩))
              refine R_Mo_triedOf_39 ⟨fun y => absurd y (by rw [i_le]; omega), fun _ => ⟨fun y => next0 (Or.inl ?_), fun y => S_Mo_contextAt h hM h1 hman h3 (by omega) h7 (by omega) fun r3 e3 => ⟨fun y2 => next0 (Or.inr ?_), fun y2 => R_Mo_triedOf_69 fun x4 e4 => ihw (j + 1) 1 x4 (by omega) (by omega) (by rw [e4]; exact i_suc h7 (by omega)) (Or.inr ⟨by decide, ?_⟩)⟩⟩⟩
              · rcases h6 with h6 | h6
                · exact h6.2
                · exact absurd y h6.1
              · rw [i_eq, e3, e1] at y2
                omega
              · rw [i_eq, e3, e1] at y2
                rcases h6 with h6 | h6
                · exact absurd h6.1 y
                · simp only [plc]
                  rw [h6.2, if_neg (by omega)]
          exact before (i - K) K 1 v3 (by omega) (Nat.le_refl _) h3 (Or.inr ⟨by decide, plc_low (Nat.le_refl _)⟩)
      refine R_Mo_triedOf_4 ⟨fun y => absurd y (by rw [i_le, z_4]; omega), fun _ => places (max K (len man) - K) K v2 v3 (by omega) (Nat.le_refl _) h3 ?_⟩
      rw [h2, triK_low (Nat.le_refl _), Nat.add_zero]
  exact T_Mo_triedOf (R_Mo_triedOf_0 (loop 4 0 0 0 (by omega) i_0 (by simp [sumN])))
end MENM
