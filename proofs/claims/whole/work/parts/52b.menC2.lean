/-! MEN in the class: THE TAIL, what is TOLD, what is FORESEEN -/
theorem wgt_anti (h r n : Nat) {a : Nat} : ∀ {b : Nat}, a ≤ b → wgt h r n b ≤ wgt h r n a
  | 0, e => by rw [show a = 0 by omega]; exact Nat.le_refl _
  | b + 1, e => by
    by_cases e2 : a = b + 1
    · rw [e2]; exact Nat.le_refl _
    · have h1 := wgt_jst h r n b
      have h2 := wgt_anti h r n (a := a) (b := b) (by omega)
      omega
theorem p5_120 {n m : Nat} (hn : n ≤ 5) (hm : m ≤ 120) : n ^ m ≤ 5 ^ 120 := Nat.le_trans (Nat.pow_le_pow_left hn m) (Nat.pow_le_pow_right (by decide) hm)
theorem p5_lt : 5 ^ 120 * 1000000000 < BB ^ 11 := by decide
theorem p5_16 : BB ^ 11 ≤ BB ^ 16 := Nat.pow_le_pow_right (by decide) (by decide)
theorem anyB_true {p : Nat → Bool} {x : Nat} : ∀ {n : Nat}, x < n → p x = true → anyB p n = true
  | 0, h, _ => by omega
  | n + 1, h, hp => by
    simp only [anyB, Bool.or_eq_true]
    by_cases e : x = n
    · right; rw [← e]; exact hp
    · left; exact anyB_true (by omega) hp
/-- codes, as far as they are listed -/
def CodR (codes : Nat → Int32) (L : List Nat) : Prop := ∀ i, i < L.length → (codes i).toInt = ((L.getD i 0 : Nat) : Int)
theorem CodR.push {codes : Nat → Int32} {L : List Nat} {x : Int32} {v : Nat} (h : CodR codes L) (hx : x.toInt = (v : Int)) : CodR (up codes L.length x) (L ++ [v]) := fun i hi => by
  rw [List.length_append, List.length_singleton] at hi
  by_cases e : i = L.length
  · rw [e, up_same, hx]
    simp [List.getD_eq_getElem?_getD]
  · rw [up_ne e, h i (by omega)]
    simp only [List.getD_eq_getElem?_getD]
    rw [List.getElem?_append_left (by omega)]
section MENC2
variable {vv vv' : Nat → Value} {k l f m : Nat} {rk rl rf rm rtc rwc : Int32} {rth rca : Nat → Int32} {vvr : Nat → Value} {rows lens counts codes : Nat → Int32} {cno : Int32} {tt : Nat → Nat → Nat} {len : Nat → Nat}
  {sn pn tn qn : Int32} {sd pd td qd : Nat → Int32}
theorem S_Tail_isRare {v1 v2 v3 v4 v5 : Int32} {M c n times : Nat} {Q : Int32 → Int32 → (Nat → Int32) → Int32 → (Nat → Int32) → Int32 → (Nat → Int32) → Int32 → (Nat → Int32) → Prop} (h1 : v1.toInt = (M : Int)) (hM : M ≤ 120) (h2 : v2.toInt = (c : Int)) (hc : c ≤ M) (h3 : v3.toInt = (n : Int)) (hn : 2 ≤ n ∧ n ≤ 5) (h4 : v4.toInt = (times : Int)) (ht : 0 < times) (hq : ∀ (r sn' : Int32) (sd' : Nat → Int32) (pn' : Int32) (pd' : Nat → Int32) tn' td' qn' qd', rx_bool r → (r = 0 ↔ ¬ wgt 1 (n - 1) M c * times ≤ n ^ M) → (v5 ≠ 0 → BR sd' sn' (wgt 1 (n - 1) M c) ∧ BR pd' pn' (n ^ M)) → Q r sn' sd' pn' pd' tn' td' qn' qd') : P_Tail_isRare sn sd pn pd tn td qn qd v1 v2 v3 v4 v5 Q := by
  have hpM := p5_120 (n := n) (m := M) hn.2 hM
  have hlt := p5_lt
  have h16 := p5_16
  have hle : ∀ s, s ≤ n ^ M / times ↔ s * times ≤ n ^ M := fun s => Nat.le_div_iff_mul_le ht
  have wb := fun a => wgt_bd (n := n) (m := M) (a := a) (by omega)
  -- the sum
  have loop : ∀ (u i : Nat) (S : Int32) (SD : Nat → Int32) (PN : Int32) (PD : Nat → Int32) (TN : Int32) (TD : Nat → Int32) (QN : Int32) (QD : Nat → Int32) (v6 : Int32), i = c + u → i ≤ M + 1 → v6.toInt = (i : Int) - 1 → BR SD S (wgt 1 (n - 1) M i) → BR PD PN (n ^ M) → BR TD TN (tmT n M (M + 1 - i)) → BR QD QN (n ^ M / times) → E_Tail_isRare_71 S SD PN PD TN TD QN QD v1 v2 v3 v5 v6 Q := by
    intro u
    induction u with
    | zero =>
      intro i S SD PN PD TN TD QN QD v6 hi hiM h6 hS hP hT hL
      have : i = c := by omega
      subst this
      refine R_Tail_isRare_71 ⟨fun _ => R_Tail_isRare_147 (S_Big_against hS hL fun r18 e18 => ⟨fun y => R_Tail_isRare_165 (R_Tail_isRare_166 ⟨rb0, hq _ _ _ _ _ _ _ _ _ rb0 ⟨fun _ => ?_, fun _ => rfl⟩ fun _ => ⟨hS, hP⟩⟩), fun y => R_Tail_isRare_166 ⟨rb1, hq _ _ _ _ _ _ _ _ _ rb1 ⟨fun z => absurd z (by decide), fun z => absurd ?_ z⟩ fun _ => ⟨hS, hP⟩⟩⟩), fun y => absurd (by rw [i_lt]; omega) y⟩
      · rw [i_lt, z_0, e18] at y
        unfold cmpN at y
        rw [← hle]
        split at y
        · omega
        · split at y <;> omega
      · rw [i_lt, z_0, e18] at y
        unfold cmpN at y
        rw [← hle]
        split at y
        · omega
        · split at y <;> omega
    | succ u ih =>
      intro i S SD PN PD TN TD QN QD v6 hi hiM h6 hS hP hT hL
      obtain ⟨j, hj⟩ : ∃ j, i = j + 1 := ⟨i - 1, by omega⟩
      subst hj
      have h6' : v6.toInt = (j : Int) := by omega
      have hw := wgt_jst 1 (n - 1) M j
      have hmj : M + 1 - (j + 1) = M - j := by omega
      rw [hmj, ] at hT
      have htj := tmT_jst (n := n) (m := M) (j := j) (by omega)
      have htl := tmT_le (n := n) (m := M) (j := j) (by omega) (by omega)
      have hwj := wb j
      have next : ∀ (S' : Int32) (SD' : Nat → Int32), BR SD' S' (wgt 1 (n - 1) M j) → E_Tail_isRare_114 S' SD' PN PD TN TD QN QD v1 v2 v3 v5 v6 Q := by
        intro S' SD' hS'
        have hv : (v6 * (v3 - 1)).toInt = ((j * (n - 1) : Nat) : Int) := by
          have hm : j * (n - 1) ≤ 120 * 4 := Nat.mul_le_mul (by omega) (by omega)
          exact i_mulN h6' (i_subN h3 i_1 (by omega)) (by omega)
        have hm : j * (n - 1) ≤ 120 * 4 := Nat.mul_le_mul (by omega) (by omega)
        have hprod : tmT n M (M - j) * (j * (n - 1)) ≤ 5 ^ 120 * 480 := Nat.mul_le_mul (by omega) hm
        have hd : (v1 - v6 + 1).toInt = ((M - j + 1 : Nat) : Int) := i_suc (i_subN h1 h6' (by omega)) (by omega)
        refine R_Tail_isRare_114 (S_Big_multiply hT hv (show _ ≤ 1073741824 by omega) (by omega) fun c19 c20 h19 => S_Big_shorten h19 hd (by omega) fun r21 c22 c23 e21 h22 x24 e24 => ?_)
        have e0 := tmT_next n M (M - j)
        rw [show M - (M - j) = j by omega] at e0
        rw [e0] at h22
        refine ih j S' SD' PN PD _ _ QN QD x24 (by omega) (by omega) (by rw [e24, i_add h6' z_m1 (by omega) (by omega)]; omega) hS' hP ?_ hL
        rw [show M + 1 - j = M - j + 1 by omega]
        exact h22
      refine R_Tail_isRare_71 ⟨fun y => absurd y (by rw [i_lt]; omega), fun _ => ⟨fun y => absurd y (by rw [i_lt, z_0]; omega), fun _ => S_Big_add hS hT (by rw [htj]; omega) fun c15 c16 h15 => ?_⟩⟩
      rw [htj, show wgt 1 (n - 1) M (j + 1) + jst 1 (n - 1) M j = wgt 1 (n - 1) M j by omega] at h15
      refine ⟨fun y => next c16 c15 h15, fun y => S_Big_against h15 hL fun r17 e17 => ⟨fun y2 => next c16 c15 h15, fun y2 => ⟨rb0, hq _ _ _ _ _ _ _ _ _ rb0 ⟨fun _ => ?_, fun _ => rfl⟩ fun z => absurd y z⟩⟩⟩
      rw [i_le, z_0, e17] at y2
      unfold cmpN at y2
      have han := wgt_anti 1 (n - 1) M (a := c) (b := j) (by omega)
      rw [← hle]
      split at y2
      · omega
      · split at y2 <;> omega
  have pow : ∀ (u i : Nat) (PN : Int32) (PD : Nat → Int32) (v6 : Int32), i + u = M → v6.toInt = (i : Int) → BR PD PN (n ^ i) → E_Tail_isRare_11 sn sd PN PD tn td qn qd v1 v2 v3 v4 v5 v6 Q := by
    intro u
    induction u with
    | zero =>
      intro i PN PD v6 hu h6 hP
      have : i = M := by omega
      subst this
      refine R_Tail_isRare_11 ⟨fun _ => R_Tail_isRare_31 (S_Big_copy hP fun c6 c7 h6' => S_Big_shorten h6' h4 ht fun r8 c9 c10 e8 h9 => S_Big_become fun c11 c12 h11 => S_Big_become fun c13 c14 h13 => R_Tail_isRare_68 ?_), fun y => absurd (by rw [i_le]; omega) y⟩
      rw [uJ_of j_0] at h11
      rw [uJ_of j_1] at h13
      refine loop (i + 1 - c) (i + 1) _ _ _ _ _ _ _ _ v1 (by omega) (by omega) (by omega) ?_ hP ?_ h9
      · rw [wgt_gt 1 (n - 1) (by omega)]
        exact h11
      · rw [Nat.sub_self]
        unfold tmT
        rw [ch_n0, Nat.pow_zero]
        exact h13
    | succ u ih =>
      intro i PN PD v6 hu h6 hP
      have hpi := p5_120 (n := n) (m := i + 1) hn.2 (by omega)
      refine R_Tail_isRare_11 ⟨fun y => absurd y (by rw [i_le]; omega), fun _ => S_Big_multiply hP h3 (show _ ≤ 1073741824 by omega) (by have e := Nat.pow_succ (n := n) (m := i); rw [show Nat.succ i = i + 1 from rfl] at e; omega) fun c3 c4 h3' x5 e5 => ih (i + 1) c4 c3 x5 (by omega) (by rw [e5]; exact i_suc h6 (by omega)) (by rw [Nat.pow_succ]; exact h3')⟩
  exact T_Tail_isRare (R_Tail_isRare_0 (S_Big_become fun c1 c2 h1' => pow M 0 c2 c1 0 (by omega) i_0 (by rw [uJ_of j_1] at h1'; rw [Nat.pow_zero]; exact h1')))
/-- as long as it is not the whole that is asked for -/
theorem S_Men_isRare {v1 v2 v3 : Int32} {t : Nat → Nat} {K c x ln times : Nat} {Q : Int32 → Int32 → (Nat → Int32) → Int32 → (Nat → Int32) → Int32 → (Nat → Int32) → Int32 → (Nat → Int32) → Prop} (h : CR k l f m rk rl rf rm rtc rwc rth rca) (hT : TlC l f t K ln counts) (htn : ∀ i, i < ln → t i < gn l f) (hln : ln ≤ 120) (hK : K ≤ 3) (h1 : v1.toInt = (c : Int)) (hc : c < gn l f ^ K) (h2 : v2.toInt = ((l + x : Nat) : Int)) (hx : x < gn l f) (h3 : v3.toInt = (times : Int)) (ht : 0 < plc (gn l f) t K c ln → 2 ≤ times) (hq : ∀ (r sn' : Int32) (sd' : Nat → Int32) (pn' : Int32) (pd' : Nat → Int32) tn' td' qn' qd', (r = 0 ↔ toldB (gn l f) (plc (gn l f) t K c ln) (cnt (gn l f) t K c x ln) times = false) → Q r sn' sd' pn' pd' tn' td' qn' qd') : P_Men_isRare vv vv' rl rtc counts sn sd pn pd tn td qn qd v1 v2 v3 0 Q := by
  have hn := gn_le h.1
  have hcp := cnt_le_plc (gn l f) t K c x ln
  have hpl := plc_le (gn l f) t K c ln
  refine T_Men_isRare (R_Men_isRare_0 (S_Men_followed h hT hK h1 hc h2 hx fun r1 e1 => ⟨fun e => R_Men_isRare_20 ?_, fun e => ⟨fun z => absurd rfl z, fun _ => ⟨rb0, hq _ _ _ _ _ _ _ _ _ ⟨fun _ => ?_, fun _ => rfl⟩⟩⟩⟩))
  · rw [i_lit0 e1] at e
    have hp0 : 0 < plc (gn l f) t K c ln := by omega
    have ht' := ht hp0
    refine S_Men_places h hT htn hln hK h1 hc fun r2 e2 => S_Tail_isRare e2 (by omega) e1 hcp h.tc ⟨hn.1, hn.2.1⟩ h3 (by omega) fun r4 sn' sd' pn' pd' tn' td' qn' qd' hb hr _ => ⟨hb, hq _ _ _ _ _ _ _ _ _ ?_⟩
    rw [hr]
    unfold toldB
    rw [decide_eq_true hp0, Bool.true_and, decide_eq_false_iff_not]
  · rw [i_lit0 e1] at e
    rw [e]
    by_cases hp0 : 0 < plc (gn l f) t K c ln
    · exact toldB_0 hn.1 (ht hp0)
    · unfold toldB
      rw [decide_eq_false hp0, Bool.false_and]
/-- the whole TAIL -/
theorem S_Men_isRareW {v1 v2 v3 : Int32} {t : Nat → Nat} {K c x ln times : Nat} {Q : Int32 → Int32 → (Nat → Int32) → Int32 → (Nat → Int32) → Int32 → (Nat → Int32) → Int32 → (Nat → Int32) → Prop} (h : CR k l f m rk rl rf rm rtc rwc rth rca) (hT : TlC l f t K ln counts) (htn : ∀ i, i < ln → t i < gn l f) (hln : ln ≤ 120) (hK : K ≤ 3) (h1 : v1.toInt = (c : Int)) (hc : c < gn l f ^ K) (h2 : v2.toInt = ((l + x : Nat) : Int)) (hx : x < gn l f) (h3 : v3.toInt = (times : Int)) (hp0 : 0 < plc (gn l f) t K c ln) (ht : 0 < times) (hq : ∀ (r sn' : Int32) (sd' : Nat → Int32) (pn' : Int32) (pd' : Nat → Int32) tn' td' qn' qd', (r = 0 ↔ toldB (gn l f) (plc (gn l f) t K c ln) (cnt (gn l f) t K c x ln) times = false) → BR sd' sn' (wgt 1 (gn l f - 1) (plc (gn l f) t K c ln) (cnt (gn l f) t K c x ln)) → BR pd' pn' (gn l f ^ plc (gn l f) t K c ln) → Q r sn' sd' pn' pd' tn' td' qn' qd') : P_Men_isRare vv vv' rl rtc counts sn sd pn pd tn td qn qd v1 v2 v3 1 Q := by
  have hn := gn_le h.1
  have hcp := cnt_le_plc (gn l f) t K c x ln
  have hpl := plc_le (gn l f) t K c ln
  have go : ∀ r1 : Int32, r1.toInt = (cnt (gn l f) t K c x ln : Int) → E_Men_isRare_20 vv vv' rl rtc counts sn sd pn pd tn td qn qd v1 v3 1 r1 Q := by
    intro r1 e1
    refine R_Men_isRare_20 (S_Men_places h hT htn hln hK h1 hc fun r2 e2 => S_Tail_isRare e2 (by omega) e1 hcp h.tc ⟨hn.1, hn.2.1⟩ h3 ht fun r4 sn' sd' pn' pd' tn' td' qn' qd' hb hr hBR => ⟨hb, hq _ _ _ _ _ _ _ _ _ ?_ (hBR (by decide)).1 (hBR (by decide)).2⟩)
    rw [hr]
    unfold toldB
    rw [decide_eq_true hp0, Bool.true_and, decide_eq_false_iff_not]
  exact T_Men_isRare (R_Men_isRare_0 (S_Men_followed h hT hK h1 hc h2 hx fun r1 e1 => ⟨fun _ => go r1 e1, fun _ => ⟨fun _ => go r1 e1, fun z => absurd z (by decide)⟩⟩))
theorem times_bd (hn : gn l f ≤ 5) (t : Nat → Nat) (ln : Nat) {odds : Nat} (ho : odds ≤ 100000) : tri (gn l f) t ln * odds ≤ 78000000 := Nat.mul_le_mul (tri_le hn t ln) ho
theorem times_2 (hn : 2 ≤ gn l f) {t : Nat → Nat} {ln odds K c : Nat} (ho : 1 ≤ odds) (hK : K ≤ 3) (hc : c < gn l f ^ K) (hp : 0 < plc (gn l f) t K c ln) : 2 ≤ tri (gn l f) t ln * odds := by
  have h1 := tri_ge t hK hc hp
  exact Nat.le_trans (by omega : 2 ≤ 2 * 1) (Nat.mul_le_mul (by omega) ho)
theorem S_Men_foresee {v1 v2 : Int32} {man odds : Nat} {Q : Int32 → Int32 → (Nat → Int32) → Int32 → (Nat → Int32) → Int32 → (Nat → Int32) → Int32 → (Nat → Int32) → Int32 → (Nat → Int32) → Prop} (h : CR k l f m rk rl rf rm rtc rwc rth rca) (hM : MenR l f rows lens tt len) (h1 : v1.toInt = (man : Int)) (hman : man < 4) (h2 : v2.toInt = (odds : Int)) (ho : 1 ≤ odds ∧ odds ≤ 100000) (hq : ∀ (r cn' : Int32) (counts' : Nat → Int32) sn' sd' pn' pd' tn' td' qn' qd', optR (frs (gn l f) (tt man) (len man) odds 4) r → (∀ K, frs (gn l f) (tt man) (len man) odds 4 = some K → K ≤ 3 ∧ cn'.toInt = (cxt (gn l f) (tt man) K (len man) : Int) ∧ TlC l f (tt man) K (len man) counts') → Q r cn' counts' sn' sd' pn' pd' tn' td' qn' qd') : P_Men_foresee vv rl rf rtc cno rows lens counts sn sd pn pd tn td qn qd v1 v2 Q := by
  have hn := gn_le h.1
  have hl1 := h.1.2.1
  obtain ⟨hl, hl120, hrow⟩ := hM man hman
  have htn : ∀ i, i < len man → tt man i < gn l f := fun i hi => (hrow i hi).2
  have tb := times_bd hn.2.1 (tt man) (len man) ho.2
  refine T_Men_foresee (R_Men_foresee_0 (S_Men_triedBy h hM h1 hman fun r1 c2 c3 e1 x4 e4 => ⟨i_in h1 hman, fun x5 e5 => ?_⟩))
  have hx4 : x4.toInt = ((tri (gn l f) (tt man) (len man) * odds : Nat) : Int) := by rw [e4]; exact i_mulN e1 h2 (by omega)
  have hx5 : x5.toInt = ((min 4 (len man + 1) : Nat) : Int) - 1 := by
    rw [i_nat h1] at e5
    rw [e5]
    split
    · rename_i c
      rw [i_lt, hl, z_3] at c
      rw [hl]
      omega
    · rename_i c
      rw [i_lt, hl, z_3] at c
      rw [z_3]
      omega
  rw [frs_skip] at hq
  have main : ∀ (i : Nat) (cn' : Int32) (C : Nat → Int32) (sn : Int32) (sd : Nat → Int32) (pn : Int32) (pd : Nat → Int32) (tn : Int32) (td : Nat → Int32) (qn : Int32) (qd : Nat → Int32) (v4 : Int32), i ≤ min 4 (len man + 1) → v4.toInt = (i : Int) - 1 → frs (gn l f) (tt man) (len man) odds (min 4 (len man + 1)) = frs (gn l f) (tt man) (len man) odds i → E_Men_foresee_20 vv rl rf rtc cn' rows lens C sn sd pn pd tn td qn qd v1 x4 v4 Q := by
    intro i
    induction i with
    | zero =>
      intro cn' C sn sd pn pd tn td qn qd v4 _ h4 he
      rw [he] at hq
      refine R_Men_foresee_20 ⟨fun _ => R_Men_foresee_83 (hq _ _ _ _ _ _ _ _ _ _ _ z_m1 fun K hK => ?_), fun y => absurd (by rw [i_lt, z_0]; omega) y⟩
      simp [frs] at hK
    | succ K ih =>
      intro cn' C sn sd pn pd tn td qn qd v4 hi h4 he
      have h4' : v4.toInt = (K : Int) := by omega
      refine R_Men_foresee_20 ⟨fun y => absurd y (by rw [i_lt, z_0]; omega), fun _ => S_Men_tally h hM h1 hman h4' (by omega) fun cn2 C2 g1 g2 => ?_⟩
      have hcl := cxt_lt (n := gn l f) (by omega) (tt man) K (len man)
      have inner : ∀ (u x : Nat) (sn : Int32) (sd : Nat → Int32) (pn : Int32) (pd : Nat → Int32) (tn : Int32) (td : Nat → Int32) (qn : Int32) (qd : Nat → Int32) (v5 : Int32), x + u = gn l f → v5.toInt = ((l + x : Nat) : Int) → anyB (tldP (gn l f) (tt man) (len man) odds K (cxt (gn l f) (tt man) K (len man))) x = false → E_Men_foresee_41 vv rl rf rtc cn2 rows lens C2 sn sd pn pd tn td qn qd v1 x4 v4 v5 Q := by
        intro u
        induction u with
        | zero =>
          intro x sn sd pn pd tn td qn qd v5 hu h5 hany
          have hxn : x = gn l f := by omega
          subst hxn
          refine R_Men_foresee_41 ⟨fun _ => R_Men_foresee_77 fun x17 e17 => ih cn2 C2 _ _ _ _ _ _ _ _ x17 (by omega) (by rw [e17, i_add h4' z_m1 (by omega) (by omega)]; omega) ?_, fun y => absurd (by rw [i_lt, h.2.2.2.1, h5]; omega) y⟩
          rw [he]
          simp only [frs]
          rw [if_neg (fun z => by rw [hany] at z; exact absurd z.2 (by decide))]
        | succ u ih' =>
          intro x sn sd pn pd tn td qn qd v5 hu h5 hany
          refine R_Men_foresee_41 ⟨fun y => absurd y (by rw [i_lt, h.2.2.2.1, h5]; omega), fun _ => S_Men_isRare h g2 htn hl120 (by omega) g1 hcl h5 (by omega) hx4 (fun hp => times_2 hn.1 ho.1 (by omega) hcl hp) fun r8 sn' sd' pn' pd' tn' td' qn' qd' hr => ⟨fun y => R_Men_foresee_71 fun x18 e18 => ih' (x + 1) _ _ _ _ _ _ _ _ x18 (by omega) (by rw [e18, i_suc h5 (by omega)]; omega) ?_, fun y => ?_⟩⟩
          · simp only [anyB, hany, Bool.false_or]
            exact hr.mp y
          · have htrue : tldP (gn l f) (tt man) (len man) odds K (cxt (gn l f) (tt man) K (len man)) x = true := by
              cases e : tldP (gn l f) (tt man) (len man) odds K (cxt (gn l f) (tt man) K (len man)) x with
              | true => rfl
              | false => exact absurd (hr.mpr e) y
            have hfr : frs (gn l f) (tt man) (len man) odds (K + 1) = some K := by
              simp only [frs]
              rw [if_pos ⟨by omega, anyB_true (x := x) (by omega) htrue⟩]
            rw [he, hfr] at hq
            refine hq _ _ _ _ _ _ _ _ _ _ _ h4' fun K' hK' => ?_
            cases hK'
            exact ⟨by omega, g1, g2⟩
      exact inner (gn l f) 0 _ _ _ _ _ _ _ _ rl (by omega) h.2.2.1 rfl
  exact main (min 4 (len man + 1)) _ _ _ _ _ _ _ _ _ _ x5 (Nat.le_refl _) hx5 rfl
theorem z_780 : (780 : Int32).toInt = 780 := by decide
theorem S_Men_listToldBehind {v1 v2 v3 v4 : Int32} {t : Nat → Nat} {K c ln times : Nat} {L : List Nat} {Q : Int32 → (Nat → Int32) → Int32 → (Nat → Int32) → Int32 → (Nat → Int32) → Int32 → (Nat → Int32) → Int32 → (Nat → Int32) → Prop} (h : CR k l f m rk rl rf rm rtc rwc rth rca) (hT : TlC l f t K ln counts) (htn : ∀ i, i < ln → t i < gn l f) (hln : ln ≤ 120) (hK : K ≤ 3) (h1 : v1.toInt = (K : Int)) (h2 : v2.toInt = (c : Int)) (hc : c < gn l f ^ K) (h3 : v3.toInt = (times : Int)) (ht : 0 < plc (gn l f) t K c ln → 2 ≤ times) (h4 : v4.toInt = (L.length : Int)) (hL : L.length + gn l f ≤ 780) (hC : CodR codes L) (hq : ∀ (r : Int32) codes' sn' (sd' : Nat → Int32) (pn' : Int32) (pd' : Nat → Int32) tn' td' qn' qd', r.toInt = ((L ++ lx (gn l f) l K c (fun x => toldB (gn l f) (plc (gn l f) t K c ln) (cnt (gn l f) t K c x ln) times) (gn l f)).length : Int) → CodR codes' (L ++ lx (gn l f) l K c (fun x => toldB (gn l f) (plc (gn l f) t K c ln) (cnt (gn l f) t K c x ln) times) (gn l f)) → Q r codes' sn' sd' pn' pd' tn' td' qn' qd') : P_Men_listToldBehind vv vv' rl rf rtc counts codes sn sd pn pd tn td qn qd v1 v2 v3 v4 Q := by
  have hn := gn_le h.1
  have hl1 := h.1.2.1
  have hp := pow_n3 hn.2.1 hK
  have i_1e4 : (10000 : Int32).toInt = ((10000 : Nat) : Int) := by decide
  have i_10 : (10 : Int32).toInt = ((10 : Nat) : Int) := by decide
  generalize hP : (fun x => toldB (gn l f) (plc (gn l f) t K c ln) (cnt (gn l f) t K c x ln) times) = P at *
  have loop : ∀ (u x : Nat) (C : Nat → Int32) (sn : Int32) (sd : Nat → Int32) (pn : Int32) (pd : Nat → Int32) (tn : Int32) (td : Nat → Int32) (qn : Int32) (qd : Nat → Int32) (v5 v6 : Int32), x + u = gn l f → v6.toInt = ((l + x : Nat) : Int) → v5.toInt = ((L ++ lx (gn l f) l K c P x).length : Int) → CodR C (L ++ lx (gn l f) l K c P x) → E_Men_listToldBehind_13 vv vv' rl rf rtc counts C sn sd pn pd tn td qn qd v1 v2 v3 v5 v6 Q := by
    intro u
    induction u with
    | zero =>
      intro x C sn sd pn pd tn td qn qd v5 v6 hu h6 h5 hC
      have hxn : x = gn l f := by omega
      subst hxn
      exact R_Men_listToldBehind_13 ⟨fun _ => R_Men_listToldBehind_74 (hq _ _ _ _ _ _ _ _ _ _ h5 hC), fun y => absurd (by rw [i_lt, h.2.2.2.1, h6]; omega) y⟩
    | succ u ih =>
      intro x C sn sd pn pd tn td qn qd v5 v6 hu h6 h5 hC
      have hlen : (L ++ lx (gn l f) l K c P x).length < 780 := by
        have := lx_len (gn l f) l K c P x
        rw [List.length_append]
        omega
      refine R_Men_listToldBehind_13 ⟨fun y => absurd y (by rw [i_lt, h.2.2.2.1, h6]; omega), fun _ => ⟨fun y => absurd y (by rw [i_le, z_780, h5]; omega), fun _ => S_Men_isRare h hT htn hln hK h2 hc h6 (by omega) h3 ht fun r1 sn' sd' pn' pd' tn' td' qn' qd' hr => ?_⟩⟩
      have hPx : toldB (gn l f) (plc (gn l f) t K c ln) (cnt (gn l f) t K c x ln) times = P x := by rw [← hP]
      rw [hPx] at hr
      refine ⟨fun y => R_Men_listToldBehind_68 fun x11 e11 => ih (x + 1) C _ _ _ _ _ _ _ _ v5 x11 (by omega) (by rw [e11, i_suc h6 (by omega)]; omega) ?_ ?_, fun y => ⟨i_in h5 hlen, fun x10 e10 => R_Men_listToldBehind_68 fun x11 e11 => ih (x + 1) _ _ _ _ _ _ _ _ _ x10 x11 (by omega) (by rw [e11, i_suc h6 (by omega)]; omega) ?_ ?_⟩⟩
      · simp only [lx]
        rw [hr.mp y]
        simpa using h5
      · simp only [lx]
        rw [hr.mp y]
        simpa using hC
      · have hPt : P x = true := by
          cases e : P x with
          | true => rfl
          | false => exact absurd (hr.mpr e) y
        rw [e10, i_suc h5 (by omega)]
        simp only [lx, hPt, if_pos, List.length_append, List.length_singleton]
        omega
      · have hPt : P x = true := by
          cases e : P x with
          | true => rfl
          | false => exact absurd (hr.mpr e) y
        rw [i_nat h5]
        have hv : ((10000 : Int32) * v1 + (10 : Int32) * v2 + v6).toInt = ((10000 * K + 10 * c + l + x : Nat) : Int) := by
          rw [i_addN (i_addN (i_mulN i_1e4 h1 (by omega)) (i_mulN i_10 h2 (by omega)) (by omega)) h6 (by omega)]
          omega
        have := hC.push hv
        simp only [lx, hPt, if_pos]
        rw [← List.append_assoc]
        exact this
  exact T_Men_listToldBehind (R_Men_listToldBehind_0 (loop (gn l f) 0 codes sn sd pn pd tn td qn qd v4 rl (by omega) h.2.2.1 (by simpa [lx] using h4) (by simpa [lx] using hC)))
theorem S_Men_listTold {v1 v2 : Int32} {man odds : Nat} {Q : Int32 → Int32 → (Nat → Int32) → (Nat → Int32) → Int32 → (Nat → Int32) → Int32 → (Nat → Int32) → Int32 → (Nat → Int32) → Int32 → (Nat → Int32) → Prop} (h : CR k l f m rk rl rf rm rtc rwc rth rca) (hM : MenR l f rows lens tt len) (h1 : v1.toInt = (man : Int)) (hman : man < 4) (h2 : v2.toInt = (odds : Int)) (ho : 1 ≤ odds ∧ odds ≤ 100000) (hq : ∀ (r cn' : Int32) (counts' codes' : Nat → Int32) sn' sd' pn' pd' tn' td' qn' qd', r.toInt = ((tldL (gn l f) l (tt man) (len man) odds).length : Int) → CodR codes' (tldL (gn l f) l (tt man) (len man) odds) → Q r cn' counts' codes' sn' sd' pn' pd' tn' td' qn' qd') : P_Men_listTold vv rl rf rtc cno rows lens counts codes sn sd pn pd tn td qn qd v1 v2 Q := by
  have hn := gn_le h.1
  obtain ⟨hl, hl120, hrow⟩ := hM man hman
  have htn : ∀ i, i < len man → tt man i < gn l f := fun i hi => (hrow i hi).2
  have tb := times_bd hn.2.1 (tt man) (len man) ho.2
  refine T_Men_listTold (R_Men_listTold_0 (S_Men_triedBy h hM h1 hman fun r1 c2 c3 e1 x4 e4 => ?_))
  have hx4 : x4.toInt = ((tri (gn l f) (tt man) (len man) * odds : Nat) : Int) := by rw [e4]; exact i_mulN e1 h2 (by omega)
  have hsum : ∀ K, K ≤ 3 → sumN (fun k => gn l f ^ k * gn l f) K + gn l f ^ K * gn l f ≤ 780 := fun K hK => by
    have h : ∀ k, gn l f ^ k * gn l f ≤ 5 ^ k * 5 := fun k => Nat.mul_le_mul (Nat.pow_le_pow_left hn.2.1 k) hn.2.1
    have h0 := h 0
    have h1 := h 1
    have h2 := h 2
    have h3 := h 3
    rcases (show K = 0 ∨ K = 1 ∨ K = 2 ∨ K = 3 by omega) with e | e | e | e <;> subst e <;> simp only [sumN] <;> omega
  have loop : ∀ (u K : Nat) (cn' : Int32) (C D : Nat → Int32) (sn : Int32) (sd : Nat → Int32) (pn : Int32) (pd : Nat → Int32) (tn : Int32) (td : Nat → Int32) (qn : Int32) (qd : Nat → Int32) (v4 v5 : Int32), K + u = 4 → v5.toInt = (K : Int) → v4.toInt = ((lkk (gn l f) l (tldP (gn l f) (tt man) (len man) odds) K).length : Int) → CodR D (lkk (gn l f) l (tldP (gn l f) (tt man) (len man) odds) K) → E_Men_listTold_14 vv rl rf rtc cn' rows lens C D sn sd pn pd tn td qn qd v1 x4 v4 v5 Q := by
    intro u
    induction u with
    | zero =>
      intro K cn' C D sn sd pn pd tn td qn qd v4 v5 hu h5 h4 hD
      have hK : K = 4 := by omega
      subst hK
      exact R_Men_listTold_14 ⟨fun _ => R_Men_listTold_66 (hq _ _ _ _ _ _ _ _ _ _ _ _ h4 hD), fun y => absurd (by rw [i_lt, z_3]; omega) y⟩
    | succ u ih =>
      intro K cn' C D sn sd pn pd tn td qn qd v4 v5 hu h5 h4 hD
      refine R_Men_listTold_14 ⟨fun y => absurd y (by rw [i_lt, z_3]; omega), fun _ => S_Men_tally h hM h1 hman h5 (by omega) fun cn2 C2 g1 g2 => ?_⟩
      have inner : ∀ (u' c : Nat) (D : Nat → Int32) (sn : Int32) (sd : Nat → Int32) (pn : Int32) (pd : Nat → Int32) (tn : Int32) (td : Nat → Int32) (qn : Int32) (qd : Nat → Int32) (v4 v6 : Int32), c + u' = gn l f ^ K → v6.toInt = (c : Int) → v4.toInt = ((lkk (gn l f) l (tldP (gn l f) (tt man) (len man) odds) K ++ lcc (gn l f) l K (tldP (gn l f) (tt man) (len man) odds K) c).length : Int) → CodR D (lkk (gn l f) l (tldP (gn l f) (tt man) (len man) odds) K ++ lcc (gn l f) l K (tldP (gn l f) (tt man) (len man) odds K) c) → E_Men_listTold_30 vv rl rf rtc cn2 rows lens C2 D sn sd pn pd tn td qn qd v1 x4 v4 v5 v6 Q := by
        intro u'
        induction u' with
        | zero =>
          intro c D sn sd pn pd tn td qn qd v4 v6 hu' h6 h4 hD
          have hcK : c = gn l f ^ K := by omega
          subst hcK
          exact R_Men_listTold_30 (S_Men_contextCount h h5 (by omega) fun r7 e7 => ⟨fun _ => R_Men_listTold_60 fun x19 e19 => ih (K + 1) cn2 C2 D _ _ _ _ _ _ _ _ v4 x19 (by omega) (by rw [e19]; exact i_suc h5 (by omega)) h4 hD, fun y => absurd (by rw [i_le]; omega) y⟩)
        | succ u' ih' =>
          intro c D sn sd pn pd tn td qn qd v4 v6 hu' h6 h4 hD
          have hcK : c < gn l f ^ K := by omega
          have hp125 := pow_n3 hn.2.1 (k := K) (by omega)
          have hlen : (lkk (gn l f) l (tldP (gn l f) (tt man) (len man) odds) K ++ lcc (gn l f) l K (tldP (gn l f) (tt man) (len man) odds K) c).length + gn l f ≤ 780 := by
            have b1 := lkk_len (gn l f) l (tldP (gn l f) (tt man) (len man) odds) K
            have b2 := lcc_len (gn l f) l K (tldP (gn l f) (tt man) (len man) odds K) c
            have b3 := hsum K (by omega)
            have b4 : (c + 1) * gn l f ≤ gn l f ^ K * gn l f := Nat.mul_le_mul_right _ hcK
            rw [Nat.add_mul, Nat.one_mul] at b4
            rw [List.length_append]
            omega
          refine R_Men_listTold_30 (S_Men_contextCount h h5 (by omega) fun r7 e7 => ⟨fun y => absurd y (by rw [i_le]; omega), fun _ => S_Men_listToldBehind h g2 htn hl120 (by omega) h5 h6 hcK hx4 (fun hp => times_2 hn.1 ho.1 (by omega) hcK hp) h4 hlen hD fun r8 D' sn' sd' pn' pd' tn' td' qn' qd' e8 hD' x18 e18 => ?_⟩)
          rw [List.append_assoc] at e8 hD'
          exact ih' (c + 1) D' _ _ _ _ _ _ _ _ r8 x18 (by omega) (by rw [e18]; exact i_suc h6 (by omega)) e8 hD'
      exact inner (gn l f ^ K) 0 D sn sd pn pd tn td qn qd v4 0 (by omega) i_0 (by simpa [lcc] using h4) (by simpa [lcc] using hD)
  exact loop 4 0 _ _ codes sn sd pn pd tn td qn qd 0 0 (by omega) i_0 i_0 (fun i hi => by simp [lkk] at hi)
end MENC2
