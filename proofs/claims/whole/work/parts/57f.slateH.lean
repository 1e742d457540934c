/-! SLATE in the class: HAD, WRONG, and what is noted -/
section SLATEH
variable {vv vv' vv2 : Nat → Value} {c : SlC} {n : Nat} {rk rl rf rm rtc rwc fil sg sr : Int32} {rth rca : Nat → Int32} {vvr : Nat → Value} {nt ds rc : Nat → Int32}
theorem S_Sla_reachAll {Q : Int32 → (Nat → Int32) → Prop} (hK : KlR c rk rl rf sg) (hM : MkR c n nt ds) (hr : sr.toInt = (n : Int)) (hq : ∀ (r : Int32) rc', WrS c n r.toInt → (r.toInt = -1 → ∀ j, j < n → RwB rc' j (fun x y => 0 < waS c (j + 1) x y)) → Q r rc') : P_Sla_reachAll vv vv' rk rl rf sg sr nt ds rc Q := by
  have hn := hM.1
  have loop : ∀ (w i : Nat) (rc : Nat → Int32) (v1 : Int32), i + w = n → v1.toInt = (i : Int) → (∀ j, j < i → ¬ noS c (j + 1)) → (∀ j, j < i → RwB rc j (fun x y => 0 < waS c (j + 1) x y)) → E_Sla_reachAll_2 vv vv' rk rl rf sg sr nt ds rc v1 Q := by
    intro w
    induction w with
    | zero =>
      intro i rc v1 hw h1 hno hv
      have : i = n := by omega
      subst this
      exact R_Sla_reachAll_2 ⟨fun _ => R_Sla_reachAll_26 (hq (-1) rc (Or.inl ⟨by decide, hno⟩) fun _ => hv), fun z => absurd (by rw [i_le, hr, h1]; omega) z⟩
    | succ w ih =>
      intro i rc v1 hw h1 hno hv
      refine R_Sla_reachAll_2 ⟨fun z => absurd z (by rw [i_le, hr, h1]; omega), fun _ => S_Sla_reachRound hK hM h1 (by omega) (fun h0 => ?_) fun r1 rc' e1 hv' ho => ⟨fun z => R_Sla_reachAll_20 fun x3 e3 => ih (i + 1) rc' x3 (by omega) (by rw [e3]; exact i_suc h1 (by omega)) (fun j hj => ?_) fun j hj => ?_, fun z => hq v1 rc' (Or.inr ⟨i, h1, by omega, e1.mp z, hno⟩) fun q => by omega⟩⟩
      · have := hv (i - 1) (by omega)
        rw [show i - 1 + 1 = i by omega] at this
        exact this
      · by_cases e : j = i
        · rw [e]
          exact fun q => z (e1.mpr q)
        · exact hno j (by omega)
      · by_cases e : j = i
        · rw [e]
          exact hv'
        · exact RwB_congr (hv j (by omega)) (fun x hx => ho _ (by omega)) fun _ _ _ _ => Iff.rfl
  exact T_Sla_reachAll (R_Sla_reachAll_0 (loop n 0 rc 0 (by omega) i_0 (fun j hj => by omega) fun j hj => by omega))
theorem S_Sla_followedFrom {v1 : Int32} {j a : Nat} {L : Nat → Nat → Prop} {Q : Int32 → Prop} (hK : KlR c rk rl rf sg) (h1 : v1.toInt = ((29 * j + a : Nat) : Int)) (hj : j < 40) (ha : a < c.G) (hL : RwB rc j L) (hL2 : ∀ x y, L x y → x ≤ 28 ∧ y ≤ 28) (hq : ∀ r : Int32, Bi r (fun y => ∃ x' y', ((a ≤ x' ∧ y' = y ∧ ltB c (x' - a)) ∨ (a = x' ∧ y < y' ∧ ltB c (y' - y))) ∧ L x' y') → Q r) : P_Sla_followedFrom vv vv' rk rl rf rc v1 Q := by
  have hc := hK.1
  have hG : c.G ≤ 21 := hc.2.2.2.2.2
  obtain ⟨l1, l2, l3, l4⟩ := ls_ms hc
  have loop : ∀ (w s : Nat) (v2 v3 v4 : Int32), lsS c ≤ s → s + w = (if lsS c ≤ msS c then msS c + 1 else lsS c) → v3.toInt = (msS c : Int) → v4.toInt = (s : Int) → Bi v2 (fun y => ∃ x' y', gS c s a y x' y' ∧ L x' y') → E_Sla_followedFrom_32 vv vv' rk rl rf rc v1 v2 v3 v4 Q := by
    intro w
    induction w with
    | zero =>
      intro s v2 v3 v4 hls hw h3 h4 hv
      have hms : msS c < s := by
        split at hw <;> omega
      refine R_Sla_followedFrom_32 ⟨fun _ => R_Sla_followedFrom_66 (hq v2 (bi_congr hv fun y hy => ?_)), fun z => absurd (by rw [i_lt, h3, h4]; omega) z⟩
      unfold gS
      constructor
      · rintro ⟨x', y', q3 | q3, q4⟩
        · exact ⟨x', y', Or.inl ⟨q3.1, q3.2.1, q3.2.2.1⟩, q4⟩
        · exact ⟨x', y', Or.inr ⟨q3.1, q3.2.1, q3.2.2.1⟩, q4⟩
      · rintro ⟨x', y', q3 | q3, q4⟩
        · refine ⟨x', y', Or.inl ⟨q3.1, q3.2.1, q3.2.2, ?_⟩, q4⟩
          by_cases q : 0 < x' - a
          · have := ((l4 _ q).mp q3.2.2).2
            omega
          · omega
        · refine ⟨x', y', Or.inr ⟨q3.1, q3.2.1, q3.2.2, ?_⟩, q4⟩
          have := ((l4 _ (by omega)).mp q3.2.2).2
          omega
    | succ w ih =>
      intro s v2 v3 v4 hls hw h3 h4 hv
      have hms : s ≤ msS c := by
        split at hw <;> omega
      have hlt : ltB c s := (l4 s (by omega)).mpr ⟨hls, hms⟩
      have has : (v1 + v4).toInt = ((29 * j + (a + s) : Nat) : Int) := by
        rw [i_addN h1 h4 (by omega)]
        omega
      refine R_Sla_followedFrom_32 ⟨fun z => absurd z (by rw [i_lt, h3, h4]; omega), fun _ => ⟨i_in h1 (by omega), i_in has (by omega), fun x3 e3 x4 e4 => ih (s + 1) x3 v3 x4 (by omega) (by omega) h3 (by rw [e4]; exact i_suc h4 (by omega)) ?_⟩⟩
      rw [e3, i_nat h1, i_nat has]
      refine bi_congr (bi_or hv (bi_or (bi_shr (hL a (by omega)) (fun z => absurd (hL2 _ _ z).2 (by omega)) h4 (by omega)) (hL (a + s) (by omega)))) fun y hy => ?_
      unfold gS
      constructor
      · rintro (⟨x', y', q3 | q3, q4⟩ | ⟨q1, q2⟩ | q)
        · exact ⟨x', y', Or.inl ⟨q3.1, q3.2.1, q3.2.2.1, by omega⟩, q4⟩
        · exact ⟨x', y', Or.inr ⟨q3.1, q3.2.1, q3.2.2.1, by omega⟩, q4⟩
        · refine ⟨a, y + s, Or.inr ⟨rfl, by omega, ?_, by omega⟩, q2⟩
          rw [show y + s - y = s by omega]
          exact hlt
        · refine ⟨a + s, y, Or.inl ⟨by omega, rfl, ?_, by omega⟩, q⟩
          rw [show a + s - a = s by omega]
          exact hlt
      · rintro ⟨x', y', q3 | q3, q4⟩
        · by_cases e : x' - a < s
          · exact Or.inl ⟨x', y', Or.inl ⟨q3.1, q3.2.1, q3.2.2.1, e⟩, q4⟩
          · refine Or.inr (Or.inr ?_)
            rw [show a + s = x' by omega, ← q3.2.1]
            exact q4
        · by_cases e : y' - y < s
          · exact Or.inl ⟨x', y', Or.inr ⟨q3.1, q3.2.1, q3.2.2.1, e⟩, q4⟩
          · have := hL2 _ _ q4
            refine Or.inr (Or.inl ⟨by omega, ?_⟩)
            rw [show y + s = y' by omega, q3.1]
            exact q4
  have start : ∀ s0 : Int32, Bi s0 (fun y => c.k ≠ 0 ∧ L a y) → E_Sla_followedFrom_20 vv vv' rk rl rf rc v1 s0 Q := by
    intro s0 hs
    refine R_Sla_followedFrom_20 (S_Sla_mostScore hK fun r1 e1 => S_Sla_leastScore hK fun r2 e2 => loop ((if lsS c ≤ msS c then msS c + 1 else lsS c) - lsS c) (lsS c) s0 r1 r2 (Nat.le_refl _) (by split <;> omega) e1 e2 (bi_congr hs fun y hy => ?_))
    unfold gS
    constructor
    · rintro ⟨q1, q2⟩
      refine ⟨a, y, Or.inl ⟨by omega, rfl, ?_, by omega⟩, q2⟩
      rw [Nat.sub_self]
      exact (ltS_0 hc).mpr q1
    · rintro ⟨x', y', q3 | q3, q4⟩
      · have e : x' - a = 0 := by
          refine Classical.byContradiction fun z => ?_
          have := ((l4 (x' - a) (by omega)).mp q3.2.2.1).1
          omega
        have h0 := q3.2.2.1
        rw [e] at h0
        refine ⟨(ltS_0 hc).mp h0, ?_⟩
        rw [show a = x' by omega, ← q3.2.1]
        exact q4
      · have := ((l4 (y' - y) (by omega)).mp q3.2.2.1).1
        omega
  refine T_Sla_followedFrom (R_Sla_followedFrom_0 ⟨fun z => R_Sla_followedFrom_19 (start 0 (bi_congr bi_zero fun y hy => ⟨False.elim, fun q => q.1 ((i_lit0 hK.2.1).mp z)⟩)), fun z => ⟨i_in h1 (by omega), ?_⟩⟩)
  rw [i_nat h1]
  exact start _ (bi_congr (hL a (by omega)) fun y hy => ⟨fun q => ⟨fun e => z ((i_lit0 hK.2.1).mpr e), q⟩, fun q => q.2⟩)
theorem S_Sla_keepWithFollowers {v1 : Int32} {i d : Nat} {Q : (Nat → Int32) → Prop} (hK : KlR c rk rl rf sg) (h1 : v1.toInt = (i : Int)) (hi : i + 1 < n) (hn : n ≤ 40) (hd : i + 2 + d = n) (hA : RwB rc i (fun x y => 0 < waS c (i + 1) x y)) (hL : RwB rc (i + 1) (liS c n d)) (hq : ∀ rc', RwB rc' i (liS c n (d + 1)) → (∀ k, k < 29 * i ∨ 29 * i + 29 ≤ k → rc' k = rc k) → Q rc') : P_Sla_keepWithFollowers vv vv' rk rl rf sg rc v1 Q := by
  have hc := hK.1
  have hG : c.G ≤ 21 := hc.2.2.2.2.2
  have h1' : (v1 + 1).toInt = ((i + 1 : Nat) : Int) := i_suc h1 (by omega)
  have loop : ∀ (w x : Nat) (rc2 : Nat → Int32) (v2 : Int32), x + w = 29 → v2.toInt = (x : Int) → (∀ u, u < x → Bi (rc2 (29 * i + u)) (liS c n (d + 1) u)) → (∀ k, k < 29 * i ∨ 29 * i + x ≤ k → rc2 k = rc k) → E_Sla_keepWithFollowers_2 vv vv' rk rl rf sg rc2 v1 v2 Q := by
    intro w
    induction w with
    | zero =>
      intro x rc2 v2 hw h2 hv ho
      exact R_Sla_keepWithFollowers_2 ⟨fun _ => R_Sla_keepWithFollowers_56 (hq rc2 (fun u hu => hv u (by omega)) fun k hk => ho k (by omega)), fun z => absurd (by rw [i_le, z_29, h2]; omega) z⟩
    | succ w ih =>
      intro x rc2 v2 hw h2 hv ho
      have hat : (v1 * 29 + v2).toInt = ((29 * i + x : Nat) : Int) := by
        rw [i_addN (i_mulN h1 z_29 (by omega)) h2 (by omega), Nat.mul_comm i 29]
      have hat2 : ((v1 + 1) * 29 + v2).toInt = ((29 * (i + 1) + x : Nat) : Int) := by
        rw [i_addN (i_mulN h1' z_29 (by omega)) h2 (by omega), Nat.mul_comm (i + 1) 29]
      have key : ∀ s2 : Int32, Bi s2 (liS c n (d + 1) x) → E_Sla_keepWithFollowers_49 vv vv' rk rl rf sg rc2 v1 v2 (v1 * 29 + v2) s2 Q := by
        intro s2 hs
        refine R_Sla_keepWithFollowers_49 ⟨i_in hat (by omega), fun x3 e3 => ?_⟩
        rw [i_nat hat]
        refine ih (x + 1) _ x3 (by omega) (by rw [e3]; exact i_suc h2 (by omega)) (fun u hu => ?_) fun k hk => by rw [up_ne (by omega)]; exact ho k (by omega)
        by_cases e : u = x
        · rw [e, up_same]
          exact hs
        · rw [up_ne (by omega)]
          exact hv u (by omega)
      have hliS : ∀ y, liS c n (d + 1) x y ↔ 0 < waS c (i + 1) x y ∧ ∃ a b, goB c x y a b ∧ liS c n d a b := by
        intro y
        show (0 < waS c (n - (d + 1)) x y ∧ _) ↔ _
        rw [show n - (d + 1) = i + 1 by omega]
      -- the row of ROUND i ahead of x is as it was: only column x is looked at
      refine R_Sla_keepWithFollowers_2 ⟨fun z => absurd z (by rw [i_le, z_29, h2]; omega), fun _ => S_Sla_playedFrom (P := fun u y => if u = x then 0 < waS c (i + 1) u y else (rc2 (29 * i + u)).toBitVec.getLsbD y = true) hK h1' (by omega) h2 (by omega) (fun q => by omega) (fun _ => ?_) fun r1 b1 => ?_⟩
      · rw [show i + 1 - 1 = i by omega]
        intro u hu
        by_cases e : u = x
        · rw [e, ho _ (by omega)]
          exact bi_congr (hA x (by omega)) fun y hy => by dsimp only; rw [if_pos rfl]
        · intro y hy
          dsimp only
          rw [if_neg e]
      · have b1' : Bi r1 (fun y => x < c.G ∧ y < c.G ∧ 0 < waS c (i + 1) x y) := bi_congr b1 fun y hy => by rw [if_pos rfl]
        refine ⟨fun z => ?_, fun z => key 0 (bi_congr bi_zero fun y hy => ?_)⟩
        · have hxG : x < c.G := by
            refine Classical.byContradiction fun q => z ((bi_eq0 b1').mpr fun y _ q2 => q q2.1)
          refine R_Sla_keepWithFollowers_35 (S_Sla_followedFrom hK hat2 (by omega) hxG (RwB_congr (rc' := rc2) hL (fun u hu => ho _ (by omega)) fun _ _ _ _ => Iff.rfl) (fun u v q => liS_le hc q) fun r2 b2 => key _ (bi_congr (bi_and b1' b2) fun y hy => ?_))
          rw [hliS]
          constructor
          · rintro ⟨⟨q1, q2, q3⟩, u, v, q4, q5⟩
            exact ⟨q3, u, v, ⟨q1, q2, q4⟩, q5⟩
          · rintro ⟨q3, u, v, ⟨q1, q2, q4⟩, q5⟩
            exact ⟨⟨q1, q2, q3⟩, u, v, q4, q5⟩
        · rw [bi_eq0 b1'] at z
          rw [hliS]
          exact ⟨False.elim, fun ⟨q3, u, v, q4, _⟩ => z y hy ⟨q4.1, q4.2.1, q3⟩⟩
  exact T_Sla_keepWithFollowers (R_Sla_keepWithFollowers_0 (loop 29 0 rc 0 (by omega) i_0 (fun u hu => by omega) fun _ _ => rfl))
/-- what one PLAYER may have had behind ROUND i -/
def hdP (c : SlC) (n i p : Nat) (v : Nat) : Prop := if p = 1 then ∃ x, liS c n (n - 1 - i) x v else ∃ y, liS c n (n - 1 - i) v y
theorem S_Sla_findHad {v1 v2 v3 : Int32} {i p : Nat} {Q : Int32 → (Nat → Int32) → Prop} (hK : KlR c rk rl rf sg) (hM : MkR c n nt ds) (hr : sr.toInt = (n : Int)) (h1 : v1.toInt = (i : Int)) (hi : i < n) (h2 : v2.toInt = (p : Int)) (hp : p ≤ 1) (hq : ∀ (r : Int32) rc', LeM (hdP c n i p) (v3 ≠ 0) r.toInt → Q r rc') : P_Sla_findHad vv vv' rk rl rf sg sr nt ds rc v1 v2 v3 Q := by
  have hc := hK.1
  have hn := hM.1
  have hhd : ∀ v, hdP c n i p v → v < 29 := by
    intro v hv
    unfold hdP at hv
    split at hv
    · obtain ⟨x, q⟩ := hv
      have := (liS_le hc q).2
      omega
    · obtain ⟨x, q⟩ := hv
      have := (liS_le hc q).1
      omega
  refine T_Sla_findHad (R_Sla_findHad_0 (S_Sla_reachAll hK hM hr fun r1 rc' e1 hv => ⟨fun z => R_Sla_findHad_10 fun x3 e3 => ?_, fun z => ?_⟩))
  · have hv' := hv (by rw [z]; decide)
    have h3 : x3.toInt = (n : Int) - 2 := by rw [e3, i_sub hr z_2 (by omega) (by omega)]
    -- the bits
    have bits : ∀ (w x : Nat) (rc2 : Nat → Int32) (v4 v5 : Int32), RwB rc2 i (liS c n (n - 1 - i)) → x + w = 29 → v5.toInt = (x : Int) → Bi v4 (fun v => if p = 1 then ∃ u, u < x ∧ liS c n (n - 1 - i) u v else v < x ∧ ∃ y, liS c n (n - 1 - i) v y) → E_Sla_findHad_47 vv vv' rk rl rf sg sr nt ds rc2 v1 v2 v3 v4 v5 Q := by
      intro w
      induction w with
      | zero =>
        intro x rc2 v4 v5 hw hx h5 h4
        have h4' : Bi v4 (hdP c n i p) := by
          refine bi_congr h4 fun y hy => ?_
          unfold hdP
          split
          · constructor
            · rintro ⟨u, _, q⟩
              exact ⟨u, q⟩
            · rintro ⟨u, q⟩
              exact ⟨u, by have := (liS_le hc q).1; omega, q⟩
          · constructor
            · exact fun q => q.2
            · rintro ⟨u, q⟩
              exact ⟨by have := (liS_le hc q).1; omega, u, q⟩
        have hno : ∀ y, 29 ≤ y → ¬ hdP c n i p y := fun y hy q => by
          have := hhd y q
          omega
        refine R_Sla_findHad_47 ⟨fun _ => R_Sla_findHad_102 ⟨fun e => R_Sla_findHad_114 (S_Sla_lowestBit h4' hno fun r hr => R_Sla_findHad_119 (hq r rc2 ?_)), fun e => S_Sla_highestBit h4' hno fun r hr => R_Sla_findHad_119 (hq r rc2 ?_)⟩, fun z => absurd (by rw [i_le, z_29, h5]; omega) z⟩
        · rcases hr with hr | ⟨v, a1, a2, a3⟩
          · exact Or.inl hr
          · exact Or.inr ⟨v, a1, a2, fun u hu => ⟨fun q => absurd e q, fun _ => (a3 u hu).2 id⟩⟩
        · rcases hr with hr | ⟨v, a1, a2, a3⟩
          · exact Or.inl hr
          · exact Or.inr ⟨v, a1, a2, fun u hu => ⟨fun _ => (a3 u hu).1 trivial, fun q => absurd e q⟩⟩
      | succ w ih =>
        intro x rc2 v4 v5 hw hx h5 h4
        have hat : (v1 * 29 + v5).toInt = ((29 * i + x : Nat) : Int) := by
          rw [i_addN (i_mulN h1 z_29 (by omega)) h5 (by omega), Nat.mul_comm i 29]
        have hw' := hw x (by omega)
        refine R_Sla_findHad_47 ⟨fun z => absurd z (by rw [i_le, z_29, h5]; omega), fun _ => ⟨i_in hat (by omega), fun x6 e6 => ?_⟩⟩
        rw [i_nat hat] at e6
        rw [← e6] at hw'
        have next : ∀ s1 : Int32, Bi s1 (fun v => if p = 1 then liS c n (n - 1 - i) x v else v = x ∧ ∃ y, liS c n (n - 1 - i) x y) → E_Sla_findHad_93 vv vv' rk rl rf sg sr nt ds rc2 v1 v2 v3 v5 v4 s1 Q := by
          intro s1 hs
          refine R_Sla_findHad_93 fun x8 e8 x9 e9 => ih (x + 1) rc2 x8 x9 hw (by omega) (by rw [e9]; exact i_suc h5 (by omega)) ?_
          rw [e8]
          refine bi_congr (bi_or h4 hs) fun v hv => ?_
          by_cases e : p = 1
          · simp only [if_pos e]
            constructor
            · rintro (⟨u, q1, q2⟩ | q)
              · exact ⟨u, by omega, q2⟩
              · exact ⟨x, by omega, q⟩
            · rintro ⟨u, q1, q2⟩
              by_cases e2 : u = x
              · rw [e2] at q2
                exact Or.inr q2
              · exact Or.inl ⟨u, by omega, q2⟩
          · simp only [if_neg e]
            constructor
            · rintro (⟨q1, q2⟩ | ⟨q1, q2⟩)
              · exact ⟨by omega, q2⟩
              · rw [q1]
                exact ⟨by omega, q2⟩
            · rintro ⟨q1, q2⟩
              by_cases e2 : v = x
              · rw [e2] at q2
                exact Or.inr ⟨e2, q2⟩
              · exact Or.inl ⟨by omega, q2⟩
        refine ⟨fun z => R_Sla_findHad_80 ⟨fun y => R_Sla_findHad_92 (next 0 (bi_congr bi_zero fun v hv => ?_)), fun y => next _ (bi_congr (bi_shl bi_one h5 (by omega)) fun v hv => ?_)⟩, fun z => next x6 (bi_congr hw' fun v hv => ?_)⟩
        · rw [i_lit1 h2] at z
          rw [if_neg z]
          rw [bi_eq0 hw'] at y
          exact ⟨False.elim, fun ⟨_, u, q⟩ => y u (by have := (liS_le hc q).2; omega) q⟩
        · rw [i_lit1 h2] at z
          rw [if_neg z]
          rw [bi_eq0 hw'] at y
          constructor
          · intro q
            refine ⟨by omega, Classical.byContradiction fun q2 => y fun u _ q3 => q2 ⟨u, q3⟩⟩
          · intro q
            omega
        · rw [i_lit1 h2] at z
          rw [if_pos z]
    -- from the last ROUND back
    have back : ∀ (w j d : Nat) (rc2 : Nat → Int32) (v4 : Int32), j = i + w → j + 1 + d = n → v4.toInt = (j : Int) - 1 → RwB rc2 j (liS c n d) → (∀ t, t < j → RwB rc2 t (fun x y => 0 < waS c (t + 1) x y)) → E_Sla_findHad_18 vv vv' rk rl rf sg sr nt ds rc2 v1 v2 v3 v4 Q := by
      intro w
      induction w with
      | zero =>
        intro j d rc2 v4 hj hd h4 hL hA
        have ej : j = i := by omega
        have ed : d = n - 1 - i := by omega
        subst ej
        subst ed
        refine R_Sla_findHad_18 ⟨fun _ => R_Sla_findHad_41 (bits 29 0 rc2 0 0 hL (by omega) i_0 (bi_congr bi_zero fun v hv => ?_)), fun z => absurd (by rw [i_lt, h4, h1]; omega) z⟩
        split
        · exact ⟨False.elim, fun ⟨u, q, _⟩ => by omega⟩
        · exact ⟨False.elim, fun q => by omega⟩
      | succ w ih =>
        intro j d rc2 v4 hj hd h4 hL hA
        have h4' : v4.toInt = ((j - 1 : Nat) : Int) := by omega
        refine R_Sla_findHad_18 ⟨fun z => absurd z (by rw [i_lt, h4, h1]; omega), fun _ => ⟨fun z => absurd z (by rw [i_lt, h4, z_0]; omega), fun _ => S_Sla_keepWithFollowers (n := n) (d := d) hK h4' (by omega) hn (by omega) ?_ ?_ fun rc3 hL' ho x5 e5 => ih (j - 1) (d + 1) rc3 x5 (by omega) (by omega) ?_ hL' fun t ht => ?_⟩⟩
        · exact hA (j - 1) (by omega)
        · rw [show j - 1 + 1 = j by omega]
          exact hL
        · rw [e5, i_add h4 (show (-1 : Int32).toInt = -1 by decide) (by omega) (by omega)]
          omega
        · exact RwB_congr (hA t (by omega)) (fun x hx => ho _ (by omega)) fun _ _ _ _ => Iff.rfl
    refine back (n - 1 - i) (n - 1) 0 rc' x3 (by omega) (by omega) (by omega) ?_ fun t ht => hv' t (by omega)
    refine RwB_congr (hv' (n - 1) (by omega)) (fun _ _ => rfl) fun x y hx hy => ?_
    rw [show n - 1 + 1 = n by omega]
    rfl
  · refine hq (-1) rc' (Or.inl ⟨by decide, ?_⟩)
    rcases e1 with e1 | ⟨k, e1, k1, k2, k3⟩
    · exact absurd (by rw [i_eq, e1.1]; decide) z
    · have := noS_le hc k2 (show k + 1 ≤ n by omega)
      intro v hv
      unfold hdP at hv
      split at hv
      · obtain ⟨x, q⟩ := hv
        exact liS_no hc this q
      · obtain ⟨x, q⟩ := hv
        exact liS_no hc this q
end SLATEH
