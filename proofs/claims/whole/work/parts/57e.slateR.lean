/-! SLATE in the class: what may be -/
section SLATER
variable {vv vv' : Nat → Value} {c : SlC} {n : Nat} {rk rl rf rm rtc rwc fil sg sr : Int32} {rth rca : Nat → Int32} {vvr : Nat → Value} {nt ds rc : Nat → Int32}
theorem z_29 : (29 : Int32).toInt = ((29 : Nat) : Int) := by decide
def RwB (rc : Nat → Int32) (j : Nat) (P : Nat → Nat → Prop) : Prop := ∀ x, x < 29 → Bi (rc (29 * j + x)) (P x)
theorem RwB_congr {rc' : Nat → Int32} {j : Nat} {P P' : Nat → Nat → Prop} (h : RwB rc j P) (hr : ∀ x, x < 29 → rc' (29 * j + x) = rc (29 * j + x)) (e : ∀ x y, x < 29 → y < 32 → (P x y ↔ P' x y)) : RwB rc' j P' := fun x hx => by
  rw [hr x hx]
  exact bi_congr (h x hx) fun y hy => e x y hx hy
theorem S_Sla_playedFrom {v1 v2 : Int32} {i x : Nat} {P : Nat → Nat → Prop} {Q : Int32 → Prop} (hK : KlR c rk rl rf sg) (h1 : v1.toInt = (i : Int)) (hi : i ≤ 40) (h2 : v2.toInt = (x : Int)) (hx : x < 29) (hp0 : i = 0 → ∀ x y, (P x y ↔ x = 0 ∧ y = 0)) (hp : 0 < i → RwB rc (i - 1) P) (hq : ∀ r : Int32, Bi r (fun y => x < c.G ∧ y < c.G ∧ P x y) → Q r) : P_Sla_playedFrom vv' sg rc v1 v2 Q := by
  have hc := hK.1
  have hG : c.G ≤ 21 := hc.2.2.2.2.2
  have hsg := hK.2.2.2.2
  have key : ∀ s0 : Int32, Bi s0 (P x) → E_Sla_playedFrom_29 vv' sg rc v2 s0 Q := by
    intro s0 hs
    refine R_Sla_playedFrom_29 ⟨fun z => R_Sla_playedFrom_51 (R_Sla_playedFrom_52 (hq 0 (bi_congr bi_zero fun y hy => ?_))), fun z => R_Sla_playedFrom_52 (hq _ (bi_congr (bi_and hs (bi_mask hsg (by omega))) fun y hy => ?_))⟩
    · rw [i_le, hsg, h2] at z
      exact ⟨False.elim, fun q => by omega⟩
    · rw [i_le, hsg, h2] at z
      exact ⟨fun q => ⟨by omega, q.2, q.1⟩, fun q => ⟨q.2.2, q.2.1⟩⟩
  refine T_Sla_playedFrom (R_Sla_playedFrom_0 ⟨fun z => R_Sla_playedFrom_20 ?_, fun z => ?_⟩)
  · rw [i_le, h1, z_0] at z
    have hp' := hp0 (by omega)
    refine ⟨fun y => R_Sla_playedFrom_28 (key 0 (bi_congr bi_zero fun v hv => ?_)), fun y => key 1 (bi_congr bi_one fun v hv => ?_)⟩
    · rw [i_lit0 h2] at y
      rw [hp']
      exact ⟨False.elim, fun q => by omega⟩
    · rw [i_lit0 h2] at y
      rw [hp']
      exact ⟨fun q => ⟨y, q⟩, fun q => q.2⟩
  · rw [i_le, h1, z_0] at z
    have hj : ((v1 - 1) * 29 + v2).toInt = ((29 * (i - 1) + x : Nat) : Int) := by
      rw [i_addN (i_mulN (i_subN h1 i_1 (by omega)) z_29 (by omega)) h2 (by omega), Nat.mul_comm (i - 1) 29]
    refine ⟨i_in hj (by omega), ?_⟩
    rw [i_nat hj]
    exact key _ (hp (by omega) x hx)
def gS (c : SlC) (s a b x y : Nat) : Prop := (a ≤ x ∧ y = b ∧ ltB c (x - a) ∧ x - a < s) ∨ (a = x ∧ b < y ∧ ltB c (y - b) ∧ y - b < s)
theorem S_Sla_reachFrom {v1 v2 : Int32} {j a : Nat} {Y : Nat → Prop} {W : Nat → Nat → Prop} {Q : (Nat → Int32) → Prop} (hK : KlR c rk rl rf sg) (h1 : v1.toInt = ((29 * j + a : Nat) : Int)) (hj : j < 40) (ha : a < c.G) (h2 : Bi v2 Y) (hY : ∀ y, Y y → y < c.G) (hW : RwB rc j W) (hq : ∀ rc', RwB rc' j (fun x y => W x y ∨ ∃ b, Y b ∧ goB c a b x y) → (∀ k, k < 29 * j ∨ 29 * j + 29 ≤ k → rc' k = rc k) → Q rc') : P_Sla_reachFrom vv vv' rk rl rf rc v1 v2 Q := by
  have hc := hK.1
  have hG : c.G ≤ 21 := hc.2.2.2.2.2
  obtain ⟨l1, l2, l3, l4⟩ := ls_ms hc
  have loop : ∀ (w s : Nat) (rc2 : Nat → Int32) (v3 v4 : Int32), lsS c ≤ s → s + w = (if lsS c ≤ msS c then msS c + 1 else lsS c) → v3.toInt = (msS c : Int) → v4.toInt = (s : Int) → RwB rc2 j (fun x y => W x y ∨ ∃ b, Y b ∧ gS c s a b x y) → (∀ k, k < 29 * j ∨ 29 * j + 29 ≤ k → rc2 k = rc k) → E_Sla_reachFrom_31 vv vv' rk rl rf rc2 v1 v2 v3 v4 Q := by
    intro w
    induction w with
    | zero =>
      intro s rc2 v3 v4 hls hw h3 h4 hv ho
      have hms : msS c < s := by
        split at hw <;> omega
      refine R_Sla_reachFrom_31 ⟨fun _ => R_Sla_reachFrom_69 (hq rc2 (RwB_congr hv (fun _ _ => rfl) fun x y hx hy => ?_) ho), fun z => absurd (by rw [i_lt, h3, h4]; omega) z⟩
      unfold goB gS
      constructor
      · rintro (q | ⟨b, q1, q3 | q3⟩)
        · exact Or.inl q
        · exact Or.inr ⟨b, q1, ha, hY b q1, Or.inl ⟨q3.1, q3.2.1, q3.2.2.1⟩⟩
        · exact Or.inr ⟨b, q1, ha, hY b q1, Or.inr ⟨q3.1, q3.2.1, q3.2.2.1⟩⟩
      · rintro (q | ⟨b, q1, _, _, q3 | q3⟩)
        · exact Or.inl q
        · refine Or.inr ⟨b, q1, Or.inl ⟨q3.1, q3.2.1, q3.2.2, ?_⟩⟩
          by_cases q : 0 < x - a
          · have := ((l4 _ q).mp q3.2.2).2
            omega
          · omega
        · refine Or.inr ⟨b, q1, Or.inr ⟨q3.1, q3.2.1, q3.2.2, ?_⟩⟩
          have := ((l4 _ (by omega)).mp q3.2.2).2
          omega
    | succ w ih =>
      intro s rc2 v3 v4 hls hw h3 h4 hv ho
      have hms : s ≤ msS c := by
        split at hw <;> omega
      have hlt : ltB c s := (l4 s (by omega)).mpr ⟨hls, hms⟩
      have has : (v1 + v4).toInt = ((29 * j + (a + s) : Nat) : Int) := by
        rw [i_addN h1 h4 (by omega)]
        omega
      refine R_Sla_reachFrom_31 ⟨fun z => absurd z (by rw [i_lt, h3, h4]; omega), fun _ => ⟨i_in h1 (by omega), i_in h1 (by omega), i_in has (by omega), i_in has (by omega), fun x3 e3 => ?_⟩⟩
      rw [i_nat h1, i_nat has, up_ne (k := 29 * j + a) (by omega)]
      refine ih (s + 1) _ v3 x3 (by omega) (by omega) h3 (by rw [e3]; exact i_suc h4 (by omega)) (fun x hx => ?_) fun k hk => by rw [up_ne (by omega), up_ne (by omega)]; exact ho k hk
      by_cases e1 : x = a + s
      · rw [e1, up_same]
        refine bi_congr (bi_or (hv (a + s) (by omega)) h2) fun y hy => ?_
        unfold gS
        constructor
        · rintro ((q | ⟨b, q1, q3 | q3⟩) | q)
          · exact Or.inl q
          · exact Or.inr ⟨b, q1, Or.inl ⟨q3.1, q3.2.1, q3.2.2.1, by omega⟩⟩
          · exact Or.inr ⟨b, q1, Or.inr ⟨q3.1, q3.2.1, q3.2.2.1, by omega⟩⟩
          · refine Or.inr ⟨y, q, Or.inl ⟨by omega, rfl, ?_, by omega⟩⟩
            rw [show a + s - a = s by omega]
            exact hlt
        · rintro (q | ⟨b, q1, q3 | q3⟩)
          · exact Or.inl (Or.inl q)
          · rw [q3.2.1]
            exact Or.inr q1
          · omega
      · rw [up_ne (by omega)]
        by_cases e2 : x = a
        · rw [e2, up_same]
          refine bi_congr (bi_or (hv a (by omega)) (bi_shl h2 h4 (by omega))) fun y hy => ?_
          unfold gS
          constructor
          · rintro ((q | ⟨b, q1, q3 | q3⟩) | q)
            · exact Or.inl q
            · exact Or.inr ⟨b, q1, Or.inl ⟨q3.1, q3.2.1, q3.2.2.1, by omega⟩⟩
            · exact Or.inr ⟨b, q1, Or.inr ⟨q3.1, q3.2.1, q3.2.2.1, by omega⟩⟩
            · refine Or.inr ⟨y - s, q.2, Or.inr ⟨rfl, by omega, ?_, by omega⟩⟩
              rw [show y - (y - s) = s by omega]
              exact hlt
          · rintro (q | ⟨b, q1, q3 | q3⟩)
            · exact Or.inl (Or.inl q)
            · exact Or.inl (Or.inr ⟨b, q1, Or.inl ⟨q3.1, q3.2.1, q3.2.2.1, by omega⟩⟩)
            · by_cases e : y - b < s
              · exact Or.inl (Or.inr ⟨b, q1, Or.inr ⟨q3.1, q3.2.1, q3.2.2.1, e⟩⟩)
              · refine Or.inr ⟨by omega, ?_⟩
                rw [show y - s = b by omega]
                exact q1
        · rw [up_ne (by omega)]
          refine bi_congr (hv x hx) fun y hy => ?_
          unfold gS
          constructor
          · rintro (q | ⟨b, q1, q3 | q3⟩)
            · exact Or.inl q
            · exact Or.inr ⟨b, q1, Or.inl ⟨q3.1, q3.2.1, q3.2.2.1, by omega⟩⟩
            · omega
          · rintro (q | ⟨b, q1, q3 | q3⟩)
            · exact Or.inl q
            · exact Or.inr ⟨b, q1, Or.inl ⟨q3.1, q3.2.1, q3.2.2.1, by omega⟩⟩
            · omega
  have start : ∀ rc2 : Nat → Int32, RwB rc2 j (fun x y => W x y ∨ (c.k ≠ 0 ∧ x = a ∧ Y y)) → (∀ k, k < 29 * j ∨ 29 * j + 29 ≤ k → rc2 k = rc k) → E_Sla_reachFrom_20 vv vv' rk rl rf rc2 v1 v2 Q := by
    intro rc2 hv ho
    refine R_Sla_reachFrom_20 (S_Sla_mostScore hK fun r1 e1 => S_Sla_leastScore hK fun r2 e2 => loop ((if lsS c ≤ msS c then msS c + 1 else lsS c) - lsS c) (lsS c) rc2 r1 r2 (Nat.le_refl _) (by split <;> omega) e1 e2 (RwB_congr hv (fun _ _ => rfl) fun x y hx hy => ?_) ho)
    unfold gS
    constructor
    · rintro (q | ⟨q1, q2, q3⟩)
      · exact Or.inl q
      · refine Or.inr ⟨y, q3, Or.inl ⟨by omega, rfl, ?_, by omega⟩⟩
        rw [q2, Nat.sub_self]
        exact (ltS_0 hc).mpr q1
    · rintro (q | ⟨b, q1, q3 | q3⟩)
      · exact Or.inl q
      · have e : x - a = 0 := by
          refine Classical.byContradiction fun z => ?_
          have := ((l4 (x - a) (by omega)).mp q3.2.2.1).1
          omega
        have h0 := q3.2.2.1
        rw [e] at h0
        rw [← q3.2.1] at q1
        exact Or.inr ⟨(ltS_0 hc).mp h0, by omega, q1⟩
      · have := ((l4 (y - b) (by omega)).mp q3.2.2.1).1
        omega
  refine T_Sla_reachFrom (R_Sla_reachFrom_0 ⟨fun z => start rc (RwB_congr hW (fun _ _ => rfl) fun x y hx hy => ?_) fun _ _ => rfl, fun z => ⟨i_in h1 (by omega), i_in h1 (by omega), ?_⟩⟩)
  · rw [i_lit0 hK.2.1] at z
    exact ⟨Or.inl, fun q => by
      rcases q with q | q
      · exact q
      · exact absurd z q.1⟩
  · rw [i_lit0 hK.2.1] at z
    rw [i_nat h1]
    refine start _ (fun x hx => ?_) fun k hk => by rw [up_ne (by omega)]
    by_cases e : x = a
    · rw [e, up_same]
      exact bi_congr (bi_or (hW a (by omega)) h2) fun y hy => ⟨fun q => q.imp id fun q => ⟨z, rfl, q⟩, fun q => q.imp id fun q => q.2.2⟩
    · rw [up_ne (by omega)]
      exact bi_congr (hW x hx) fun y hy => ⟨Or.inl, fun q => by
        rcases q with q | q
        · exact q
        · exact absurd q.2.1 e⟩
theorem wa_pos {c : SlC} (hc : c.ok) {i x y : Nat} : 0 < waS c (i + 1) x y ↔ (∃ a b, goB c a b x y ∧ 0 < waS c i a b) ∧ ftB c i 0 x ∧ ftB c i 1 y := by
  show 0 < nxS c i (waS c i) x y ↔ _
  unfold nxS
  split
  · rename_i e
    rw [inS_pos hc]
    exact ⟨fun q => ⟨q, e⟩, fun q => q.1⟩
  · rename_i e
    exact ⟨fun q => by omega, fun q => absurd q.2 e⟩
theorem S_Sla_reachRound {v1 : Int32} {i : Nat} {Q : Int32 → (Nat → Int32) → Prop} (hK : KlR c rk rl rf sg) (hM : MkR c n nt ds) (h1 : v1.toInt = (i : Int)) (hi : i < n) (hp : 0 < i → RwB rc (i - 1) (fun x y => 0 < waS c i x y)) (hq : ∀ (r : Int32) rc', (r = 0 ↔ noS c (i + 1)) → RwB rc' i (fun x y => 0 < waS c (i + 1) x y) → (∀ k, k < 29 * i ∨ 29 * i + 29 ≤ k → rc' k = rc k) → Q r rc') : P_Sla_reachRound vv vv' rk rl rf sg nt ds rc v1 Q := by
  have hc := hK.1
  have hn := hM.1
  have hG : c.G ≤ 21 := hc.2.2.2.2.2
  have hsg := hK.2.2.2.2
  have prev : ∀ rc' : Nat → Int32, (∀ k, k < 29 * i ∨ 29 * i + 29 ≤ k → rc' k = rc k) → 0 < i → RwB rc' (i - 1) (fun x y => 0 < waS c i x y) := fun rc' ho hi0 => RwB_congr (hp hi0) (fun x hx => ho _ (by omega)) fun _ _ _ _ => Iff.rfl
  have prev0 : i = 0 → ∀ x y, (0 < waS c i x y ↔ x = 0 ∧ y = 0) := by
    intro e x y
    rw [e]
    show 0 < (if x = 0 ∧ y = 0 then 1 else 0) ↔ _
    split
    · rename_i q
      exact ⟨fun _ => q, fun _ => by omega⟩
    · rename_i q
      exact ⟨fun z => by omega, fun z => absurd z q⟩
  refine T_Sla_reachRound (R_Sla_reachRound_0 fun x1 e1 => ?_)
  have hrow : x1.toInt = ((29 * i : Nat) : Int) := by
    rw [e1, i_mulN h1 z_29 (by omega), Nat.mul_comm]
  -- the last walk: what the marks tell
  have last : ∀ (w x : Nat) (rc2 : Nat → Int32) (r5 r6 v5 v6 : Int32), Bi r5 (fun v => v < 29 ∧ ftB c i 0 v) → Bi r6 (fun v => v < 29 ∧ ftB c i 1 v) → x + w = 29 → v6.toInt = (x : Int) → ((v5 = 1 ∧ ∃ u v, u < x ∧ 0 < waS c (i + 1) u v) ∨ (v5 = 0 ∧ ¬ ∃ u v, u < x ∧ 0 < waS c (i + 1) u v)) → (∀ u, u < 29 → Bi (rc2 (29 * i + u)) (fun y => if u < x then 0 < waS c (i + 1) u y else ∃ a b, goB c a b u y ∧ 0 < waS c i a b)) → (∀ k, k < 29 * i ∨ 29 * i + 29 ≤ k → rc2 k = rc k) → E_Sla_reachRound_87 vv vv' rk rl rf sg nt ds rc2 x1 r5 r6 v5 v6 Q := by
    intro w
    induction w with
    | zero =>
      intro x rc2 r5 r6 v5 v6 b5 b6 hw h6 h5 hv ho
      refine R_Sla_reachRound_87 ⟨fun _ => R_Sla_reachRound_149 ⟨?_, hq v5 rc2 ?_ (fun u hu => bi_congr (hv u hu) fun y hy => ?_) ho⟩, fun z => absurd (by rw [i_le, z_29, h6]; omega) z⟩
      · rcases h5 with h5 | h5
        · rw [h5.1]
          exact rb1
        · rw [h5.1]
          exact rb0
      · rw [bz h5]
        constructor
        · intro z u v
          refine Nat.eq_zero_of_not_pos fun q => z ⟨u, v, ?_, q⟩
          refine Classical.byContradiction fun q2 => ?_
          rw [waS_out hc (by omega)] at q
          omega
        · rintro z ⟨u, v, _, q⟩
          rw [z u v] at q
          omega
      · rw [if_pos (by omega)]
    | succ w ih =>
      intro x rc2 r5 r6 v5 v6 b5 b6 hw h6 h5 hv ho
      have hat : (x1 + v6).toInt = ((29 * i + x : Nat) : Int) := i_addN hrow h6 (by omega)
      have hvx := hv x (by omega)
      have key : ∀ s3 : Int32, Bi s3 (fun y => ftB c i 0 x ∧ y < 29 ∧ ftB c i 1 y) → E_Sla_reachRound_119 vv vv' rk rl rf sg nt ds rc2 x1 r5 r6 v5 v6 (x1 + v6) (rc2 (29 * i + x)) s3 Q := by
        intro s3 hs
        have hb : Bi (rc2 (29 * i + x) &&& s3) (fun y => 0 < waS c (i + 1) x y) := by
          refine bi_congr (bi_and hvx hs) fun y hy => ?_
          rw [if_neg (by omega), wa_pos hc]
          constructor
          · rintro ⟨q1, q2, q3, q4⟩
            exact ⟨q1, q2, q4⟩
          · rintro ⟨⟨a, b, q1, q2⟩, q3, q4⟩
            have := goB_le hc q1
            exact ⟨⟨a, b, q1, q2⟩, q3, by omega, q4⟩
        refine R_Sla_reachRound_119 ⟨i_in hat (by omega), i_in hat (by omega), ?_⟩
        rw [i_nat hat, up_same]
        have next : ∀ (s1 : Int32), ((s1 = 1 ∧ ∃ v, 0 < waS c (i + 1) x v) ∨ (s1 = 0 ∧ ¬ ∃ v, 0 < waS c (i + 1) x v)) → E_Sla_reachRound_140 vv vv' rk rl rf sg nt ds (up rc2 (29 * i + x) (rc2 (29 * i + x) &&& s3)) x1 r5 r6 v6 v5 s1 Q := by
          intro s1 hs1
          refine R_Sla_reachRound_140 fun x8 e8 x9 e9 => ih (x + 1) _ r5 r6 x8 x9 b5 b6 (by omega) (by rw [e9]; exact i_suc h6 (by omega)) ?_ (fun u hu => ?_) fun k hk => by rw [up_ne (by omega)]; exact ho k hk
          · rcases h5 with ⟨q1, u, v, q2, q3⟩ | ⟨q1, q2⟩
            · left
              refine ⟨?_, u, v, by omega, q3⟩
              rcases hs1 with hs1 | hs1
              · rw [e8, q1, hs1.1]
                decide
              · rw [e8, q1, hs1.1]
                decide
            · rcases hs1 with ⟨q3, v, q4⟩ | ⟨q3, q4⟩
              · left
                refine ⟨?_, x, v, by omega, q4⟩
                rw [e8, q1, q3]
                decide
              · right
                refine ⟨?_, ?_⟩
                · rw [e8, q1, q3]
                  decide
                · rintro ⟨u, v, q5, q6⟩
                  by_cases e : u = x
                  · rw [e] at q6
                    exact q4 ⟨v, q6⟩
                  · exact q2 ⟨u, v, by omega, q6⟩
          · by_cases e : u = x
            · rw [e, up_same]
              refine bi_congr hb fun y hy => ?_
              rw [if_pos (by omega)]
            · rw [up_ne (by omega)]
              refine bi_congr (hv u hu) fun y hy => ?_
              by_cases q : u < x
              · rw [if_pos q, if_pos (by omega)]
              · rw [if_neg q, if_neg (by omega)]
        rw [bi_eq0 hb]
        refine ⟨fun z => R_Sla_reachRound_139 (next 0 (Or.inr ⟨rfl, ?_⟩)), fun z => next 1 (Or.inl ⟨rfl, ?_⟩)⟩
        · rintro ⟨v, q⟩
          refine z v ?_ q
          refine Classical.byContradiction fun q2 => ?_
          rw [waS_out hc (by omega)] at q
          omega
        · refine Classical.byContradiction fun q => z fun y _ q2 => q ⟨y, q2⟩
      refine R_Sla_reachRound_87 ⟨fun z => absurd z (by rw [i_le, z_29, h6]; omega), fun _ => ⟨i_in hat (by omega), ?_⟩⟩
      rw [bi_bit b5 (fun z => absurd z.1 (by omega)) h6 (by omega), i_nat hat]
      refine ⟨fun z => R_Sla_reachRound_118 (key 0 (bi_congr bi_zero fun y hy => ⟨False.elim, fun q => z ⟨by omega, q.1⟩⟩)), fun z => key r6 (bi_congr b6 fun y hy => ?_)⟩
      exact ⟨fun q => ⟨(Classical.not_not.mp z).2, q⟩, fun q => q.2⟩
  -- the walk over what may be ahead
  have walk : ∀ (w a : Nat) (rc2 : Nat → Int32) (v3 : Int32), a + w = c.G → v3.toInt = (a : Int) → RwB rc2 i (fun x y => ∃ u v, u < a ∧ goB c u v x y ∧ 0 < waS c i u v) → (∀ k, k < 29 * i ∨ 29 * i + 29 ≤ k → rc2 k = rc k) → E_Sla_reachRound_30 vv vv' rk rl rf sg nt ds rc2 v1 x1 v3 Q := by
    intro w
    induction w with
    | zero =>
      intro a rc2 v3 hw h3 hv ho
      refine R_Sla_reachRound_30 ⟨fun _ => R_Sla_reachRound_66 (S_Sla_toldBy (p := 0) hM h1 hi i_0 (by omega) fun r5 b5 => S_Sla_toldBy (p := 1) hM h1 hi i_1 (by omega) fun r6 b6 => last 29 0 rc2 r5 r6 0 0 b5 b6 (by omega) i_0 (Or.inr ⟨rfl, fun ⟨u, v, q, _⟩ => by omega⟩) (fun u hu => bi_congr (hv u hu) fun y hy => ?_) ho), fun z => absurd (by rw [i_le, hsg, h3]; omega) z⟩
      rw [if_neg (by omega)]
      constructor
      · rintro ⟨u, v, _, q⟩
        exact ⟨u, v, q⟩
      · rintro ⟨u, v, q1, q2⟩
        exact ⟨u, v, by have := q1.1; omega, q1, q2⟩
    | succ w ih =>
      intro a rc2 v3 hw h3 hv ho
      have next : ∀ rc', RwB rc' i (fun x y => ∃ u v, u < a + 1 ∧ goB c u v x y ∧ 0 < waS c i u v) → (∀ k, k < 29 * i ∨ 29 * i + 29 ≤ k → rc' k = rc k) → E_Sla_reachRound_60 vv vv' rk rl rf sg nt ds rc' v1 x1 v3 Q := fun rc' hv' ho' => R_Sla_reachRound_60 fun x7 e7 => ih (a + 1) rc' x7 (by omega) (by rw [e7]; exact i_suc h3 (by omega)) hv' ho'
      have hat : (x1 + v3).toInt = ((29 * i + a : Nat) : Int) := i_addN hrow h3 (by omega)
      refine R_Sla_reachRound_30 ⟨fun z => absurd z (by rw [i_le, hsg, h3]; omega), fun _ => S_Sla_playedFrom (P := fun x y => 0 < waS c i x y) hK h1 (by omega) h3 (by omega) prev0 (prev rc2 ho) fun r3 b3 => ?_⟩
      rw [bi_eq0 b3]
      refine ⟨fun z => next rc2 (RwB_congr hv (fun _ _ => rfl) fun x y hx hy => ?_) ho, fun z => S_Sla_reachFrom hK hat (by omega) (by omega) b3 (fun y q => q.2.1) hv fun rc' hv' ho' => next rc' (RwB_congr hv' (fun _ _ => rfl) fun x y hx hy => ?_) fun k hk => by rw [ho' k hk]; exact ho k hk⟩
      · constructor
        · rintro ⟨u, v, q1, q2⟩
          exact ⟨u, v, by omega, q2⟩
        · rintro ⟨u, v, q1, q2, q3⟩
          by_cases e : u = a
          · subst e
            have := q2.2.1
            exact absurd ⟨q2.1, this, q3⟩ (z v (by omega))
          · exact ⟨u, v, by omega, q2, q3⟩
      · constructor
        · rintro (⟨u, v, q1, q2⟩ | ⟨b, q1, q2⟩)
          · exact ⟨u, v, by omega, q2⟩
          · exact ⟨a, b, by omega, q2, q1.2.2⟩
        · rintro ⟨u, v, q1, q2, q3⟩
          by_cases e : u = a
          · subst e
            exact Or.inr ⟨v, ⟨q2.1, q2.2.1, q3⟩, q2⟩
          · exact Or.inl ⟨u, v, by omega, q2, q3⟩
  have clear : ∀ (w x : Nat) (rc2 : Nat → Int32) (v3 : Int32), x + w = 29 → v3.toInt = (x : Int) → (∀ u, u < x → rc2 (29 * i + u) = 0) → (∀ k, k < 29 * i ∨ 29 * i + 29 ≤ k → rc2 k = rc k) → E_Sla_reachRound_7 vv vv' rk rl rf sg nt ds rc2 v1 x1 v3 Q := by
    intro w
    induction w with
    | zero =>
      intro x rc2 v3 hw h3 hv ho
      refine R_Sla_reachRound_7 ⟨fun _ => R_Sla_reachRound_28 (walk c.G 0 rc2 0 (by omega) i_0 (fun u hu => ?_) ho), fun z => absurd (by rw [i_le, z_29, h3]; omega) z⟩
      rw [hv u (by omega)]
      exact bi_congr bi_zero fun y hy => ⟨False.elim, fun ⟨a, b, q, _⟩ => by omega⟩
    | succ w ih =>
      intro x rc2 v3 hw h3 hv ho
      have hat : (x1 + v3).toInt = ((29 * i + x : Nat) : Int) := i_addN hrow h3 (by omega)
      refine R_Sla_reachRound_7 ⟨fun z => absurd z (by rw [i_le, z_29, h3]; omega), fun _ => ⟨i_in hat (by omega), fun x2 e2 => ?_⟩⟩
      rw [i_nat hat]
      refine ih (x + 1) _ x2 (by omega) (by rw [e2]; exact i_suc h3 (by omega)) (fun u hu => ?_) fun k hk => by rw [up_ne (by omega)]; exact ho k hk
      by_cases e : u = x
      · rw [e, up_same]
      · rw [up_ne (by omega)]
        exact hv u (by omega)
  exact clear 29 0 rc 0 (by omega) i_0 (fun u hu => by omega) fun _ _ => rfl
end SLATER
