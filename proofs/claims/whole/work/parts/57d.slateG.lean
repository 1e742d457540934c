/-! SLATE in the class: FILLS, all -/
section SLATEG
variable {vv vv' : Nat → Value} {c : SlC} {n : Nat} {rk rl rf rm rtc rwc fil sg sr : Int32} {rth rca : Nat → Int32} {vvr : Nat → Value} {nt ds rc : Nat → Int32} {nw bh : Nat → Int64}
def cuF (f : Nat → Nat → Nat) (a b : Nat) : Nat → Nat → Nat := fun u v => if u < a ∨ (u = a ∧ v < b) then f u v else 0
theorem nxS_suc {c : SlC} (hc : c.ok) {f : Nat → Nat → Nat} {i a b x y : Nat} : nxS c i (cuF f a (b + 1)) x y = nxS c i (cuF f a b) x y + if goB c a b x y ∧ ftB c i 0 x ∧ ftB c i 1 y then f a b else 0 := by
  unfold nxS
  by_cases e : ftB c i 0 x ∧ ftB c i 1 y
  · rw [if_pos e, if_pos e]
    have h1 : inS c (cuF f a (b + 1)) x y = inS c (fun u v => cuF f a b u v + if u = a ∧ v = b then f a b else 0) x y := by
      refine inS_congr fun u v _ _ => ?_
      unfold cuF
      by_cases q : u = a ∧ v = b
      · rw [if_pos q, if_pos (by omega), if_neg (by omega), q.1, q.2]
        omega
      · rw [if_neg q]
        by_cases q2 : u < a ∨ (u = a ∧ v < b)
        · rw [if_pos q2, if_pos (by omega)]
          rfl
        · rw [if_neg q2, if_neg (by omega)]
    rw [h1, inS_add, inS_one hc]
    congr 1
    by_cases q : goB c a b x y
    · rw [if_pos q, if_pos ⟨q, e⟩]
    · rw [if_neg q, if_neg (fun z => q z.1)]
  · rw [if_neg e, if_neg e, if_neg (fun z => e z.2)]
theorem nxS_congr {c : SlC} {f g : Nat → Nat → Nat} {i x y : Nat} (h : ∀ a b, a < c.G → b < c.G → f a b = g a b) : nxS c i f x y = nxS c i g x y := by
  unfold nxS
  rw [inS_congr h]
/-- the row holds the ways -/
def NV (f : Nat → Nat → Nat) (nw : Nat → Int64) : Prop := ∀ x y, x < 29 → y < 29 → (nw (29 * x + y)).toInt = (sat (f x y) : Int)
theorem S_Sla_fillRound {v1 : Int32} {i : Nat} {f : Nat → Nat → Nat} {Q : (Nat → Int64) → Prop} (hK : KlR c rk rl rf sg) (hM : MkR c n nt ds) (h1 : v1.toInt = (i : Int)) (hi : i < n) (hN : NV f nw) (hq : ∀ bh', NV (nxS c i f) bh' → Q bh') : P_Sla_fillRound rk rl rf rm rtc rwc rth rca fil sg sr nt ds rc nw bh v1 Q := by
  have hc := hK.1
  have hG : c.G ≤ 21 := hc.2.2.2.2.2
  have hsg := hK.2.2.2.2
  have z29 : (29 : Int32).toInt = ((29 : Nat) : Int) := by decide
  refine T_Sla_fillRound (R_Sla_fillRound_0 (S_Sla_toldBy_loc (p := 0) hM h1 hi i_0 (by omega) fun r1 b1 => S_Sla_toldBy_loc (p := 1) hM h1 hi i_1 (by omega) fun r2 b2 => S_Ja_fillL (by omega) fun c3 e3 => ?_))
  have inner : ∀ (w a b : Nat) (bh : Nat → Int64) (v4 v5 : Int32), a < c.G → b + w = c.G → v4.toInt = (a : Int) → v5.toInt = (b : Int) → NV (nxS c i (cuF f a b)) bh → (∀ bh', NV (nxS c i (cuF f (a + 1) 0)) bh' → E_Sla_fillRound_80 rk rl rf rm rtc rwc rth rca fil sg sr nt ds rc nw bh' r1 r2 v4 Q) → E_Sla_fillRound_37 rk rl rf rm rtc rwc rth rca fil sg sr nt ds rc nw bh r1 r2 v4 v5 Q := by
    intro w
    induction w with
    | zero =>
      intro a b bh v4 v5 ha hw h4 h5 hv hout
      refine R_Sla_fillRound_37 ⟨fun _ => hout bh fun x y hx hy => ?_, fun z => absurd (by rw [i_le, hsg, h5]; omega) z⟩
      rw [hv x y hx hy]
      congr 2
      refine nxS_congr fun u v hu hv => ?_
      unfold cuF
      by_cases q : u < a ∨ (u = a ∧ v < b)
      · rw [if_pos q, if_pos (by omega)]
      · rw [if_neg q, if_neg (by omega)]
    | succ w ih =>
      intro a b bh v4 v5 ha hw h4 h5 hv hout
      have hat : (v4 * 29 + v5).toInt = ((29 * a + b : Nat) : Int) := by
        rw [i_addN (i_mulN h4 z29 (by omega)) h5 (by omega), Nat.mul_comm a 29]
      have hn := hN a b (by omega) (by omega)
      have next : ∀ bh', NV (nxS c i (cuF f a (b + 1))) bh' → E_Sla_fillRound_74 rk rl rf rm rtc rwc rth rca fil sg sr nt ds rc nw bh' r1 r2 v4 v5 Q := fun bh' hv' => R_Sla_fillRound_74 fun x6 e6 => ih a (b + 1) bh' v4 x6 ha (by omega) h4 (by rw [e6]; exact i_suc h5 (by omega)) hv' hout
      refine R_Sla_fillRound_37 ⟨fun z => absurd z (by rw [i_le, hsg, h5]; omega), fun _ => ⟨i_in hat (by omega), ?_⟩⟩
      rw [i_nat hat, lg_le0, hn, show (0 : Int64).toInt = 0 by decide]
      refine ⟨fun z => next bh fun x y hx hy => ?_, fun z => S_Sla_fillFrom (B := fun x y => sat (nxS c i (cuF f a b) x y)) hK h4 h5 ha (by omega) b1 b2 hn (sat_le _) (fun x y hx hy => ⟨sat_le _, hv x y hx hy⟩) fun bh' hv' => next bh' fun x y hx hy => ?_⟩
      · have e0 : f a b = 0 := (sat_0 _).mp (by omega)
        rw [hv x y hx hy, nxS_suc hc, e0]
        split <;> rfl
      · rw [nxS_suc hc]
        by_cases q : goB c a b x y ∧ ftB c i 0 x ∧ ftB c i 1 y
        · rw [if_pos q, (hv' x y hx hy).1 q, sat_add]
        · rw [if_neg q, (hv' x y hx hy).2 q]
          rfl
  have outer : ∀ (w a : Nat) (bh : Nat → Int64) (v4 : Int32), a + w = c.G → v4.toInt = (a : Int) → NV (nxS c i (cuF f a 0)) bh → E_Sla_fillRound_25 rk rl rf rm rtc rwc rth rca fil sg sr nt ds rc nw bh r1 r2 v4 Q := by
    intro w
    induction w with
    | zero =>
      intro a bh v4 hw h4 hv
      refine R_Sla_fillRound_25 ⟨fun _ => R_Sla_fillRound_86 (hq bh fun x y hx hy => ?_), fun z => absurd (by rw [i_le, hsg, h4]; omega) z⟩
      rw [hv x y hx hy]
      congr 2
      refine nxS_congr fun u v hu hv => ?_
      unfold cuF
      rw [if_pos (by omega)]
    | succ w ih =>
      intro a bh v4 hw h4 hv
      exact R_Sla_fillRound_25 ⟨fun z => absurd z (by rw [i_le, hsg, h4]; omega), fun _ => inner c.G a 0 bh v4 0 (by omega) (by omega) h4 i_0 hv fun bh' hv' => R_Sla_fillRound_80 fun x5 e5 => ih (a + 1) bh' x5 (by omega) (by rw [e5]; exact i_suc h4 (by omega)) hv'⟩
  refine outer c.G 0 c3 0 (by omega) i_0 fun x y hx hy => ?_
  rw [e3 _ (by omega)]
  have : nxS c i (cuF f 0 0) x y = 0 := by
    unfold nxS
    split
    · refine Nat.eq_zero_of_not_pos fun z => ?_
      obtain ⟨u, v, _, h⟩ := (inS_pos hc).mp z
      unfold cuF at h
      rw [if_neg (by omega)] at h
      omega
    · rfl
  rw [this]
  rfl
theorem sumN_two (F : Nat → Nat → Nat) : ∀ x y, y ≤ 29 → sumN (fun j => F (j / 29) (j % 29)) (29 * x + y) = sumN (fun u => sumN (F u) 29) x + sumN (F x) y := by
  have row : ∀ x y, y ≤ 29 → sumN (fun j => F (j / 29) (j % 29)) (29 * x + y) = sumN (fun j => F (j / 29) (j % 29)) (29 * x) + sumN (F x) y := by
    intro x y
    induction y with
    | zero => intro _; rfl
    | succ y ih =>
      intro hy
      show sumN (fun j => F (j / 29) (j % 29)) (29 * x + y) + F ((29 * x + y) / 29) ((29 * x + y) % 29) = _
      rw [ih (by omega), show (29 * x + y) / 29 = x by omega, show (29 * x + y) % 29 = y by omega]
      show _ = _ + (sumN (F x) y + F x y)
      omega
  intro x
  induction x with
  | zero =>
    intro y hy
    rw [row 0 y hy]
    rfl
  | succ x ih =>
    intro y hy
    rw [row (x + 1) y hy]
    congr 1
    rw [show 29 * (x + 1) = 29 * x + 29 by omega, ih 29 (by omega)]
    rfl
/-- what was filled -/
def FiR (c : SlC) (n : Nat) (fil : Int32) (nw : Nat → Int64) : Prop := fil = -1 ∨ ∃ f : Nat, fil.toInt = (f : Int) ∧ f ≤ n ∧ NV (waS c f) nw
theorem S_Sla_countFills {Q0 Q1 : Int64 → Int32 → (Nat → Int64) → (Nat → Int64) → Prop} (hK : KlR c rk rl rf sg) (hM : MkR c n nt ds) (hr : sr.toInt = (n : Int)) (hF : FiR c n fil nw) (hq0 : ∀ (r : Int64) (fil' : Int32) nw' bh', r.toInt = (alS c n : Int) → FiR c n fil' nw' → Q0 r fil' nw' bh') (hq1 : ∀ (r : Int64) (fil' : Int32) nw' bh', r.toInt = (alS c n : Int) → FiR c n fil' bh' → Q1 r fil' nw' bh') : P_Sla_countFills rk rl rf rm rtc rwc rth rca fil sg sr nt ds rc nw bh Q0 Q1 := by
  have hc := hK.1
  have hn := hM.1
  have z841 : (841 : Int32).toInt = 841 := by decide
  have zmf : (1000000000000000000 : Int64).toInt = 1000000000000000000 := by decide
  have hfin : alS c n = sat (sumN (fun j => waS c n (j / 29) (j % 29)) 841) := by
    unfold alS
    rw [show 841 = 29 * 28 + 29 by omega, sumN_two (waS c n) 28 29 (by omega)]
    rfl
  have step : ∀ (N : Nat → Int64) (i : Nat) (v1 v3 : Int64), NV (waS c n) N → i < 841 → v1.toInt = (sat (sumN (fun j => waS c n (j / 29) (j % 29)) i) : Int) → v3 = (if (1000000000000000000 : Int64) < v1 + N i then (1000000000000000000 : Int64) else v1 + N i) → v3.toInt = (sat (sumN (fun j => waS c n (j / 29) (j % 29)) (i + 1)) : Int) := by
    intro N i v1 v3 hN hi h1 h3
    have hN' := hN (i / 29) (i % 29) (by omega) (by omega)
    rw [show 29 * (i / 29) + i % 29 = i by omega] at hN'
    have hs := j_addN h1 hN' (by have := sat_le (sumN (fun j => waS c n (j / 29) (j % 29)) i); have := sat_le (waS c n (i / 29) (i % 29)); omega)
    show _ = (sat (sumN (fun j => waS c n (j / 29) (j % 29)) i + waS c n (i / 29) (i % 29)) : Int)
    rw [← sat_add]
    generalize sat (sumN (fun j => waS c n (j / 29) (j % 29)) i) + sat (waS c n (i / 29) (i % 29)) = t at hs ⊢
    rw [h3]
    unfold sat
    by_cases q : t ≤ 1000000000000000000
    · rw [if_pos q, if_neg (by rw [j_lt, hs, zmf]; omega), hs]
    · rw [if_neg q, if_pos (by rw [j_lt, hs, zmf]; omega), zmf]
      rfl
  have sum0 : ∀ (w i : Nat) (fil : Int32) (nw bh : Nat → Int64) (v1 : Int64) (v3 : Int32), fil.toInt = (n : Int) → NV (waS c n) nw → i + w = 841 → v3.toInt = (i : Int) → v1.toInt = (sat (sumN (fun j => waS c n (j / 29) (j % 29)) i) : Int) → E_Sla_countFills_64 rk rl rf rm rtc rwc rth rca fil sg sr nt ds rc nw bh v1 v3 Q0 Q1 := by
    intro w
    induction w with
    | zero =>
      intro i fil nw bh v1 v3 hf hN hw h3 h1
      refine R_Sla_countFills_64 ⟨fun _ => R_Sla_countFills_92 (hq0 v1 fil nw bh ?_ (Or.inr ⟨n, hf, Nat.le_refl _, hN⟩)), fun z => absurd (by rw [i_le, h3, z841]; omega) z⟩
      rw [h1, hfin, show i = 841 by omega]
    | succ w ih =>
      intro i fil nw bh v1 v3 hf hN hw h3 h1
      refine R_Sla_countFills_64 ⟨fun z => absurd z (by rw [i_le, h3, z841]; omega), fun _ => ⟨i_in h3 (by omega), fun x6 e6 x7 e7 => ih (i + 1) fil nw bh x6 x7 hf hN (by omega) (by rw [e7]; exact i_suc h3 (by omega)) (step nw i v1 x6 hN (by omega) h1 ?_)⟩⟩
      rw [i_nat h3] at e6
      exact e6
  have sum1 : ∀ (w i : Nat) (fil : Int32) (nw bh : Nat → Int64) (v1 : Int64) (v3 : Int32), fil.toInt = (n : Int) → NV (waS c n) bh → i + w = 841 → v3.toInt = (i : Int) → v1.toInt = (sat (sumN (fun j => waS c n (j / 29) (j % 29)) i) : Int) → E_Sla_countFills_64_v1 rk rl rf rm rtc rwc rth rca fil sg sr nt ds rc nw bh v1 v3 Q0 Q1 := by
    intro w
    induction w with
    | zero =>
      intro i fil nw bh v1 v3 hf hN hw h3 h1
      refine R_Sla_countFills_64_v1 ⟨fun _ => R_Sla_countFills_92_v1 (hq1 v1 fil nw bh ?_ (Or.inr ⟨n, hf, Nat.le_refl _, hN⟩)), fun z => absurd (by rw [i_le, h3, z841]; omega) z⟩
      rw [h1, hfin, show i = 841 by omega]
    | succ w ih =>
      intro i fil nw bh v1 v3 hf hN hw h3 h1
      refine R_Sla_countFills_64_v1 ⟨fun z => absurd z (by rw [i_le, h3, z841]; omega), fun _ => ⟨i_in h3 (by omega), fun x6 e6 x7 e7 => ih (i + 1) fil nw bh x6 x7 hf hN (by omega) (by rw [e7]; exact i_suc h3 (by omega)) (step bh i v1 x6 hN (by omega) h1 ?_)⟩⟩
      rw [i_nat h3] at e6
      exact e6
  have loop : ∀ (w f : Nat), f + w = n → (∀ (fil : Int32) (nw bh : Nat → Int64), fil.toInt = (f : Int) → NV (waS c f) nw → E_Sla_countFills_28 rk rl rf rm rtc rwc rth rca fil sg sr nt ds rc nw bh Q0 Q1) ∧ (∀ (fil : Int32) (nw bh : Nat → Int64), fil.toInt = (f : Int) → NV (waS c f) bh → E_Sla_countFills_28_v1 rk rl rf rm rtc rwc rth rca fil sg sr nt ds rc nw bh Q0 Q1) := by
    intro w
    induction w with
    | zero =>
      intro f hw
      have : f = n := by omega
      subst this
      exact ⟨fun fil nw bh hf hN => R_Sla_countFills_28 ⟨fun _ => R_Sla_countFills_60 (sum0 841 0 fil nw bh 0 0 hf hN (by omega) i_0 rfl), fun z => absurd (by rw [i_le, hr, hf]; omega) z⟩, fun fil nw bh hf hN => R_Sla_countFills_28_v1 ⟨fun _ => R_Sla_countFills_60_v1 (sum1 841 0 fil nw bh 0 0 hf hN (by omega) i_0 rfl), fun z => absurd (by rw [i_le, hr, hf]; omega) z⟩⟩
    | succ w ih =>
      intro f hw
      obtain ⟨ih0, ih1⟩ := ih (f + 1) (by omega)
      exact ⟨fun fil nw bh hf hN => R_Sla_countFills_28 ⟨fun z => absurd z (by rw [i_le, hr, hf]; omega), fun _ => S_Sla_fillRound hK hM hf (by omega) hN fun bh' hN' x3 e3 => ih1 x3 nw bh' (by rw [e3]; exact i_suc hf (by omega)) hN'⟩, fun fil nw bh hf hN => R_Sla_countFills_28_v1 ⟨fun z => absurd z (by rw [i_le, hr, hf]; omega), fun _ => S_Sla_fillRound hK hM hf (by omega) hN fun bh' hN' x3 e3 => ih0 x3 bh' bh (by rw [e3]; exact i_suc hf (by omega)) hN'⟩⟩
  refine T_Sla_countFills (R_Sla_countFills_0 ⟨fun e => ?_, fun e => S_Ja_fillL (by omega) fun c1 e1 => ⟨i_in i_0 (by omega), (loop n 0 (by omega)).1 0 _ bh i_0 fun x y hx hy => ?_⟩⟩)
  · rcases hF with hF | ⟨f, f1, f2, f3⟩
    · exact absurd hF e
    · exact (loop (n - f) f (by omega)).1 fil nw bh f1 f3
  · rw [i_nat i_0]
    show _ = (sat (if x = 0 ∧ y = 0 then 1 else 0) : Int)
    by_cases q : x = 0 ∧ y = 0
    · rw [if_pos q, q.1, q.2, up_same]
      rfl
    · rw [if_neg q, up_ne (by omega), e1 _ (by omega)]
      rfl
theorem S_F_fills {Q0 Q1 : Int64 → Int32 → (Nat → Int64) → (Nat → Int64) → Prop} (hK : KlR c rk rl rf sg) (hM : MkR c n nt ds) (hr : sr.toInt = (n : Int)) (hF : FiR c n fil nw) (hq0 : ∀ (r : Int64) (fil' : Int32) nw' bh', r.toInt = (alS c n : Int) → FiR c n fil' nw' → Q0 r fil' nw' bh') (hq1 : ∀ (r : Int64) (fil' : Int32) nw' bh', r.toInt = (alS c n : Int) → FiR c n fil' bh' → Q1 r fil' nw' bh') : P_F_fills vv rk rl rf rm rtc rwc rth rca fil sg sr nt ds rc nw bh Q0 Q1 := T_F_fills (R_F_fills_0 (S_Sla_countFills hK hM hr hF hq0 hq1))
end SLATEG
