/-! digest, both sides -/
theorem z_120 : (120 : Int32).toInt = 120 := by decide
theorem z_11 : (11 : Int32).toInt = 11 := by decide
def st6 (h : Int64) (z : Int) : Int64 := (31 : Int64) * h + Int64.ofInt z
def fo6 (g : Nat → Int64 → Int64) : Nat → Int64 → Int64
  | 0, h => h
  | n + 1, h => g n (fo6 g n h)
theorem w64 {x : Int32} {z : Int} (h : x.toInt = z) : x.toInt64 = Int64.ofInt z := by
  rw [← h, ← Int32.toInt_toInt64, Int64.ofInt_toInt]
def fRow (l : Nat) (tt : Nat → Nat → Nat) (len : Nat → Nat) (s : Nat) (h : Int64) : Int64 := fo6 (fun j h => st6 h ((l + tt s j : Nat) : Int)) (len s) (st6 h (len s : Int))
def fMk (c : SlC) (i : Nat) (h : Int64) : Int64 := st6 (st6 (st6 (st6 h (c.mk (2 * i))) (c.mk (2 * i + 1))) (if c.dp (2 * i) = true then 1 else 0)) (if c.dp (2 * i + 1) = true then 1 else 0)
def fBt (bt : Nat → Nat) (sb : Nat → Int) (i : Nat) (h : Int64) : Int64 := st6 (st6 (st6 h (bt (2 * i) : Int)) (bt (2 * i + 1) : Int)) (sb i)
def fCn (cn : Int → Int) (i : Nat) (h : Int64) : Int64 := st6 h (cn (i : Int))
def fPt (P : Nat → Nat) (i : Nat) (h : Int64) : Int64 := st6 h (P i : Int)
def dgZ (cn : Int → Int) (l : Nat) (tt : Nat → Nat → Nat) (len : Nat → Nat) (c : SlC) (n : Nat) (hm : Nat) (bt : Nat → Nat) (sb : Nat → Int) (P : Nat → Nat) : Int64 :=
  fo6 (fPt P) 6 (fo6 (fBt bt sb) hm (fo6 (fMk c) n (fo6 (fRow l tt len) 4 (fo6 (fCn cn) 12 257))))

section DIG
variable {vv vv' vv2 vv3 : Nat → Value} {k l f m : Nat} {rk rl rf rm rtc rwc mw xo sg sr bz' bk lg lo : Int32} {rth rca : Nat → Int32} {vvr : Nat → Value} {rows lens nt ds at' sc pt : Nat → Int32} {tt : Nat → Nat → Nat} {len : Nat → Nat} {c : SlC} {n hm : Nat} {bt : Nat → Nat} {sb : Nat → Int} {P : Nat → Nat} {Q : Int64 → Prop}
theorem S_Men_fold {h : Int64} (hM : MenR l f rows lens tt len) (hq : Q (fo6 (fRow l tt len) 4 h)) : P_Men_fold vv rows lens h Q := by
  have men : ∀ h0 : Int64, E_Men_fold_74 vv rows lens (fo6 (fRow l tt len) 4 h0) Q → ∀ (j s : Nat), s + j = 4 → ∀ v5 : Int32, v5.toInt = (s : Int) → E_Men_fold_5 vv rows lens (fo6 (fRow l tt len) s h0) v5 Q := by
    intro h0 hk j
    induction j with
    | zero =>
      intro s hs v5 h5
      have e : s = 4 := by omega
      refine R_Men_fold_5 ⟨fun _ => by rw [e]; exact hk, fun c => absurd ?_ c⟩
      rw [i_le, z_4, h5, e]; exact Int.le_refl _
    | succ j ih =>
      intro s hs v5 h5
      have hs4 : s < 4 := by omega
      refine R_Men_fold_5 ⟨fun c => absurd c ?_, fun _ => ⟨i_in h5 hs4, fun x1 e1 => ?_⟩⟩
      · rw [i_le, z_4, h5]; omega
      have fin : E_Men_fold_68 vv rows lens (fo6 (fRow l tt len) (s + 1) h0) v5 Q := R_Men_fold_68 fun x4 e4 => ih (s + 1) (by omega) x4 (by rw [e4]; exact i_suc h5 (by omega))
      have inner : ∀ (j i : Nat), i + j = len s → ∀ x : Int32, x.toInt = (i : Int) → E_Men_fold_29 vv rows lens (fo6 (fun j h => st6 h ((l + tt s j : Nat) : Int)) i (st6 (fo6 (fRow l tt len) s h0) (len s : Int))) v5 x Q := by
        intro j
        induction j with
        | zero =>
          intro i hi x hx
          have e : i = len s := by omega
          refine R_Men_fold_29 ⟨i_in h5 hs4, fun _ => by rw [e]; exact fin, fun c => absurd ?_ c⟩
          rw [i_nat h5, i_le, (hM s hs4).1, hx, e]; exact Int.le_refl _
        | succ j ih =>
          intro i hi x hx
          have hl := (hM s hs4).2.1
          obtain ⟨hr, ht⟩ := (hM s hs4).2.2 i (by omega)
          refine R_Men_fold_29 ⟨i_in h5 hs4, fun c => absurd c ?_, fun _ => ?_⟩
          · rw [i_nat h5, i_le, (hM s hs4).1, hx]; omega
          · have ix : (v5 * 120 + x).toInt = ((120 * s + i : Nat) : Int) := by
              rw [i_add (i_mul h5 z_120 (by omega) (by omega)) hx (by omega) (by omega)]; omega
            refine ⟨i_in ix (by omega), fun x2 e2 x3 e3 => ?_⟩
            have := ih (i + 1) (by omega) x3 (by rw [e3]; exact i_suc hx (by omega))
            rw [e2, i_nat ix, w64 hr]; exact this
      rw [i_nat h5, w64 (hM s hs4).1] at e1
      rw [e1]
      exact inner (len s) 0 (by omega) 0 (by decide)
  exact T_Men_fold (R_Men_fold_0 (men h (R_Men_fold_74 hq) 4 0 rfl 0 (by decide)))
theorem S_Sla_fold {h : Int64} (hr : sr.toInt = (n : Int)) (hK : MkR c n nt ds) (hq : Q (fo6 (fMk c) n h)) : P_Sla_fold vv sr nt ds h Q := by
  have marks : ∀ h0 : Int64, E_Sla_fold_108 vv sr nt ds (fo6 (fMk c) n h0) Q → ∀ (j i : Nat), i + j = n → ∀ v5 : Int32, v5.toInt = (i : Int) → E_Sla_fold_5 vv sr nt ds (fo6 (fMk c) i h0) v5 Q := by
    intro h0 hk j
    induction j with
    | zero =>
      intro i hi v5 h5
      have e : i = n := by omega
      refine R_Sla_fold_5 ⟨fun _ => by rw [e]; exact hk, fun c => absurd ?_ c⟩
      rw [i_le, hr, h5, e]; exact Int.le_refl _
    | succ j ih =>
      intro i hi v5 h5
      have hn := hK.1
      have a1 : ((2 : Int32) * v5).toInt = ((2 * i : Nat) : Int) := by rw [i_mul z_2 h5 (by omega) (by omega)]; omega
      have a2 : ((2 : Int32) * v5 + 1).toInt = ((2 * i + 1 : Nat) : Int) := by rw [i_add a1 z_1 (by omega) (by omega)]; omega
      obtain ⟨m1, -, -, d1⟩ := hK.2 (2 * i) (by omega)
      obtain ⟨m2, -, -, d2⟩ := hK.2 (2 * i + 1) (by omega)
      have fin : ∀ (s0 : Int64) (s1 : Int32) (z : Int), s1.toInt = z → s0 = (31 : Int64) * (st6 (st6 (st6 (fo6 (fMk c) i h0) (c.mk (2 * i))) (c.mk (2 * i + 1))) (if c.dp (2 * i) = true then 1 else 0)) → z = (if c.dp (2 * i + 1) = true then 1 else 0) → E_Sla_fold_99 vv sr nt ds v5 s0 s1 Q := by
        intro s0 s1 z h1 h2 h3
        refine R_Sla_fold_99 fun x4 e4 x5 e5 => ?_
        have := ih (i + 1) (by omega) x5 (by rw [e5]; exact i_suc h5 (by omega))
        rw [e4, h2, w64 h1, h3]
        exact this
      have mid : ∀ (s0 : Int64) (s1 : Int32) (z : Int), s1.toInt = z → s0 = (31 : Int64) * (st6 (st6 (fo6 (fMk c) i h0) (c.mk (2 * i))) (c.mk (2 * i + 1))) → z = (if c.dp (2 * i) = true then 1 else 0) → E_Sla_fold_72 vv sr nt ds v5 s0 s1 Q := by
        intro s0 s1 z h1 h2 h3
        refine R_Sla_fold_72 fun x3 e3 => ⟨i_in a2 (by omega), fun q => ?_, fun q => ?_⟩
        · rw [i_nat a2, d2] at q
          refine R_Sla_fold_98 (fin _ 0 0 (by decide) ?_ ?_)
          · rw [e3, h2, w64 h1, h3]; rfl
          · by_cases e : c.dp (2 * i + 1) = true
            · rw [if_pos e] at q; exact absurd q (by decide)
            · rw [if_neg e]
        · rw [i_nat a2, d2] at q
          refine fin _ 1 1 (by decide) ?_ ?_
          · rw [e3, h2, w64 h1, h3]; rfl
          · by_cases e : c.dp (2 * i + 1) = true
            · rw [if_pos e]
            · rw [if_neg e] at q; exact absurd rfl q
      refine R_Sla_fold_5 ⟨fun c => absurd c ?_, fun _ => ⟨i_in a1 (by omega), fun x1 e1 => ⟨i_in a2 (by omega), fun x2 e2 => ⟨i_in a1 (by omega), fun q => ?_, fun q => ?_⟩⟩⟩⟩
      · rw [i_le, hr, h5]; omega
      · rw [i_nat a1, d1] at q
        rw [i_nat a1, w64 m1] at e1
        rw [i_nat a2, w64 m2] at e2
        refine R_Sla_fold_71 (mid _ 0 0 (by decide) ?_ ?_)
        · rw [e2, e1]; rfl
        · by_cases e : c.dp (2 * i) = true
          · rw [if_pos e] at q; exact absurd q (by decide)
          · rw [if_neg e]
      · rw [i_nat a1, d1] at q
        rw [i_nat a1, w64 m1] at e1
        rw [i_nat a2, w64 m2] at e2
        refine mid _ 1 1 (by decide) ?_ ?_
        · rw [e2, e1]; rfl
        · by_cases e : c.dp (2 * i) = true
          · rw [if_pos e]
          · rw [if_neg e] at q; exact absurd rfl q
  exact T_Sla_fold (R_Sla_fold_0 (marks h (R_Sla_fold_108 hq) n 0 (by omega) 0 (by decide)))
theorem S_Beats_fold {h : Int64} (hB : BtR bz' at' sc hm bt sb) (hq : Q (fo6 (fBt bt sb) hm h)) : P_Beats_fold vv bz' at' sc h Q := by
  have beats : ∀ h0 : Int64, E_Beats_fold_71 vv bz' at' sc (fo6 (fBt bt sb) hm h0) Q → ∀ (j i : Nat), i + j = hm → ∀ v5 : Int32, v5.toInt = (i : Int) → E_Beats_fold_5 vv bz' at' sc (fo6 (fBt bt sb) i h0) v5 Q := by
    intro h0 hk j
    obtain ⟨b1, b2, b3, b4⟩ := hB
    induction j with
    | zero =>
      intro i hi v5 h5
      have e : i = hm := by omega
      refine R_Beats_fold_5 ⟨fun _ => by rw [e]; exact hk, fun c => absurd ?_ c⟩
      rw [i_le, b2, h5, e]; exact Int.le_refl _
    | succ j ih =>
      intro i hi v5 h5
      have a1 : ((2 : Int32) * v5).toInt = ((2 * i : Nat) : Int) := by rw [i_mul z_2 h5 (by omega) (by omega)]; omega
      have a2 : ((2 : Int32) * v5 + 1).toInt = ((2 * i + 1 : Nat) : Int) := by rw [i_add a1 z_1 (by omega) (by omega)]; omega
      refine R_Beats_fold_5 ⟨fun c => absurd c ?_, fun _ => ⟨i_in a1 (by omega), fun x1 e1 => ⟨i_in a2 (by omega), fun x2 e2 => ⟨i_in h5 (by omega), fun x3 e3 x4 e4 => ?_⟩⟩⟩⟩
      · rw [i_le, b2, h5]; omega
      have := ih (i + 1) (by omega) x4 (by rw [e4]; exact i_suc h5 (by omega))
      rw [i_nat a1, w64 (b3 (2 * i) (by omega)).1] at e1
      rw [i_nat a2, w64 (b3 (2 * i + 1) (by omega)).1] at e2
      rw [i_nat h5, w64 (b4 i (by omega)).1] at e3
      rw [e3, e2, e1]
      exact this
  exact T_Beats_fold (R_Beats_fold_0 (beats h (R_Beats_fold_71 hq) hm 0 (by omega) 0 (by decide)))
theorem S_Leag_fold {h : Int64} (hP : ∀ t, t < 6 → (pt t).toInt = (P t : Int)) (hq : Q (fo6 (fPt P) 6 h)) : P_Leag_fold vv pt h Q := by
  have leag : ∀ h0 : Int64, E_Leag_fold_33 vv pt (fo6 (fPt P) 6 h0) Q → ∀ (j i : Nat), i + j = 6 → ∀ v5 : Int32, v5.toInt = (i : Int) → E_Leag_fold_5 vv pt (fo6 (fPt P) i h0) v5 Q := by
    intro h0 hk j
    induction j with
    | zero =>
      intro i hi v5 h5
      have e : i = 6 := by omega
      refine R_Leag_fold_5 ⟨fun _ => by rw [e]; exact hk, fun c => absurd ?_ c⟩
      rw [i_le, z_6, h5, e]; exact Int.le_refl _
    | succ j ih =>
      intro i hi v5 h5
      refine R_Leag_fold_5 ⟨fun c => absurd c ?_, fun _ => ⟨i_in h5 (by omega), fun x1 e1 x2 e2 => ?_⟩⟩
      · rw [i_le, z_6, h5]; omega
      have := ih (i + 1) (by omega) x2 (by rw [e2]; exact i_suc h5 (by omega))
      rw [i_nat h5, w64 (hP i (by omega))] at e1
      rw [e1]
      exact this
  exact T_Leag_fold (R_Leag_fold_0 (leag h (R_Leag_fold_33 hq) 6 0 (by omega) 0 (by decide)))
theorem S_F_digest (h : CR k l f m rk rl rf rm rtc rwc rth rca) (hM : MenR l f rows lens tt len) (hr : sr.toInt = (n : Int)) (hK : MkR c n nt ds) (hB : BtR bz' at' sc hm bt sb) (hP : ∀ t, t < 6 → (pt t).toInt = (P t : Int)) (hq : Q (dgZ (cnZ rk.toInt rl.toInt rf.toInt (gw k l f : Int) sr.toInt bz'.toInt lg.toInt lo.toInt xo.toInt bk.toInt sg.toInt rm.toInt) l tt len c n hm bt sb P)) : P_F_digest vvr vv vv' vv2 vv3 xo rk rl rf rm rwc rows lens sg sr nt ds bz' bk at' sc lg lo pt Q := by
  have cnts : E_F_digest_31 vvr vv vv' vv2 vv3 xo rk rl rf rm rwc rows lens sg sr nt ds bz' bk at' sc lg lo pt (fo6 (fCn (cnZ rk.toInt rl.toInt rf.toInt (gw k l f : Int) sr.toInt bz'.toInt lg.toInt lo.toInt xo.toInt bk.toInt sg.toInt rm.toInt)) 12 257) Q → ∀ (j i : Nat), i + j = 12 → ∀ v5 : Int32, v5.toInt = (i : Int) → E_F_digest_6 vvr vv vv' vv2 vv3 xo rk rl rf rm rwc rows lens sg sr nt ds bz' bk at' sc lg lo pt (fo6 (fCn (cnZ rk.toInt rl.toInt rf.toInt (gw k l f : Int) sr.toInt bz'.toInt lg.toInt lo.toInt xo.toInt bk.toInt sg.toInt rm.toInt)) i 257) v5 Q := by
    intro hk j
    induction j with
    | zero =>
      intro i hi v5 h5
      have e : i = 12 := by omega
      refine R_F_digest_6 ⟨fun _ => by rw [e]; exact hk, fun c => absurd ?_ c⟩
      rw [i_lt, z_11, h5, e]; decide
    | succ j ih =>
      intro i hi v5 h5
      refine R_F_digest_6 ⟨fun c => absurd c ?_, fun _ => S_F_count h fun r1 h1 x2 e2 x3 e3 => ?_⟩
      · rw [i_lt, z_11, h5]; omega
      have := ih (i + 1) (by omega) x3 (by rw [e3]; exact i_suc h5 (by omega))
      rw [h5] at h1
      rw [e2, w64 h1]
      exact this
  exact T_F_digest (R_F_digest_0 (cnts (R_F_digest_31 (S_Men_fold hM (S_Sla_fold hr hK (S_Beats_fold hB (S_Leag_fold hP hq))))) 12 0 rfl 0 (by decide)))
theorem S_Mo_digest (hw : mw.toInt = (gw k l f : Int)) (hM : MenR l f rows lens tt len) (hr : sr.toInt = (n : Int)) (hK : MkR c n nt ds) (hB : BtR bz' at' sc hm bt sb) (hP : ∀ t, t < 6 → (pt t).toInt = (P t : Int)) (hq : Q (dgZ (cnZ rk.toInt rl.toInt rf.toInt (gw k l f : Int) sr.toInt bz'.toInt lg.toInt lo.toInt xo.toInt bk.toInt sg.toInt rm.toInt) l tt len c n hm bt sb P)) : P_Mo_digest vv rk rl rf rm mw xo sg sr bz' bk lg lo lens rows nt ds at' sc pt Q := by
  have men : ∀ h0 : Int64, E_Mo_digest_98 vv rk rl rf rm mw xo sg sr bz' bk lg lo lens rows nt ds at' sc pt (fo6 (fRow l tt len) 4 h0) Q → ∀ (j s : Nat), s + j = 4 → ∀ v5 : Int32, v5.toInt = (s : Int) → E_Mo_digest_33 vv rk rl rf rm mw xo sg sr bz' bk lg lo lens rows nt ds at' sc pt (fo6 (fRow l tt len) s h0) v5 Q := by
    intro h0 hk j
    induction j with
    | zero =>
      intro s hs v5 h5
      have e : s = 4 := by omega
      refine R_Mo_digest_33 ⟨fun _ => by rw [e]; exact hk, fun c => absurd ?_ c⟩
      rw [i_le, z_4, h5, e]; exact Int.le_refl _
    | succ j ih =>
      intro s hs v5 h5
      have hs4 : s < 4 := by omega
      refine R_Mo_digest_33 ⟨fun c => absurd c ?_, fun _ => ⟨i_in h5 hs4, fun x1 e1 => ?_⟩⟩
      · rw [i_le, z_4, h5]; omega
      have fin : E_Mo_digest_92 vv rk rl rf rm mw xo sg sr bz' bk lg lo lens rows nt ds at' sc pt (fo6 (fRow l tt len) (s + 1) h0) v5 Q := R_Mo_digest_92 fun x4 e4 => ih (s + 1) (by omega) x4 (by rw [e4]; exact i_suc h5 (by omega))
      have inner : ∀ (j i : Nat), i + j = len s → ∀ x : Int32, x.toInt = (i : Int) → E_Mo_digest_55 vv rk rl rf rm mw xo sg sr bz' bk lg lo lens rows nt ds at' sc pt (fo6 (fun j h => st6 h ((l + tt s j : Nat) : Int)) i (st6 (fo6 (fRow l tt len) s h0) (len s : Int))) v5 x Q := by
        intro j
        induction j with
        | zero =>
          intro i hi x hx
          have e : i = len s := by omega
          refine R_Mo_digest_55 ⟨i_in h5 hs4, fun _ => by rw [e]; exact fin, fun c => absurd ?_ c⟩
          rw [i_nat h5, i_le, (hM s hs4).1, hx, e]; exact Int.le_refl _
        | succ j ih =>
          intro i hi x hx
          have hl := (hM s hs4).2.1
          obtain ⟨hr, ht⟩ := (hM s hs4).2.2 i (by omega)
          refine R_Mo_digest_55 ⟨i_in h5 hs4, fun c => absurd c ?_, fun _ => ?_⟩
          · rw [i_nat h5, i_le, (hM s hs4).1, hx]; omega
          · have ix : (120 * v5 + x).toInt = ((120 * s + i : Nat) : Int) := by
              rw [i_add (i_mul z_120 h5 (by omega) (by omega)) hx (by omega) (by omega)]; omega
            refine ⟨i_in ix (by omega), fun x2 e2 x3 e3 => ?_⟩
            have := ih (i + 1) (by omega) x3 (by rw [e3]; exact i_suc hx (by omega))
            rw [e2, i_nat ix, w64 hr]; exact this
      rw [i_nat h5, w64 (hM s hs4).1] at e1
      rw [e1]
      exact inner (len s) 0 (by omega) 0 (by decide)
  have marks : ∀ h0 : Int64, E_Mo_digest_198 vv rk rl rf rm mw xo sg sr bz' bk lg lo lens rows nt ds at' sc pt (fo6 (fMk c) n h0) Q → ∀ (j i : Nat), i + j = n → ∀ v5 : Int32, v5.toInt = (i : Int) → E_Mo_digest_100 vv rk rl rf rm mw xo sg sr bz' bk lg lo lens rows nt ds at' sc pt (fo6 (fMk c) i h0) v5 Q := by
    intro h0 hk j
    induction j with
    | zero =>
      intro i hi v5 h5
      have e : i = n := by omega
      refine R_Mo_digest_100 ⟨fun _ => by rw [e]; exact hk, fun c => absurd ?_ c⟩
      rw [i_le, hr, h5, e]; exact Int.le_refl _
    | succ j ih =>
      intro i hi v5 h5
      have hn := hK.1
      have a1 : ((2 : Int32) * v5).toInt = ((2 * i : Nat) : Int) := by rw [i_mul z_2 h5 (by omega) (by omega)]; omega
      have a2 : ((2 : Int32) * v5 + 1).toInt = ((2 * i + 1 : Nat) : Int) := by rw [i_add a1 z_1 (by omega) (by omega)]; omega
      obtain ⟨m1, -, -, d1⟩ := hK.2 (2 * i) (by omega)
      obtain ⟨m2, -, -, d2⟩ := hK.2 (2 * i + 1) (by omega)
      have fin : ∀ (s0 : Int64) (s1 : Int32) (z : Int), s1.toInt = z → s0 = (31 : Int64) * (st6 (st6 (st6 (fo6 (fMk c) i h0) (c.mk (2 * i))) (c.mk (2 * i + 1))) (if c.dp (2 * i) = true then 1 else 0)) → z = (if c.dp (2 * i + 1) = true then 1 else 0) → E_Mo_digest_189 vv rk rl rf rm mw xo sg sr bz' bk lg lo lens rows nt ds at' sc pt v5 s0 s1 Q := by
        intro s0 s1 z h1 h2 h3
        refine R_Mo_digest_189 fun x4 e4 x5 e5 => ?_
        have := ih (i + 1) (by omega) x5 (by rw [e5]; exact i_suc h5 (by omega))
        rw [e4, h2, w64 h1, h3]
        exact this
      have mid : ∀ (s0 : Int64) (s1 : Int32) (z : Int), s1.toInt = z → s0 = (31 : Int64) * (st6 (st6 (fo6 (fMk c) i h0) (c.mk (2 * i))) (c.mk (2 * i + 1))) → z = (if c.dp (2 * i) = true then 1 else 0) → E_Mo_digest_163 vv rk rl rf rm mw xo sg sr bz' bk lg lo lens rows nt ds at' sc pt v5 s0 s1 Q := by
        intro s0 s1 z h1 h2 h3
        refine R_Mo_digest_163 fun x3 e3 => ⟨i_in a2 (by omega), fun q => ?_, fun q => ?_⟩
        · rw [i_nat a2, d2] at q
          refine R_Mo_digest_188 (fin _ 0 0 (by decide) ?_ ?_)
          · rw [e3, h2, w64 h1, h3]; rfl
          · by_cases e : c.dp (2 * i + 1) = true
            · rw [if_pos e] at q; exact absurd q (by decide)
            · rw [if_neg e]
        · rw [i_nat a2, d2] at q
          refine fin _ 1 1 (by decide) ?_ ?_
          · rw [e3, h2, w64 h1, h3]; rfl
          · by_cases e : c.dp (2 * i + 1) = true
            · rw [if_pos e]
            · rw [if_neg e] at q; exact absurd rfl q
      refine R_Mo_digest_100 ⟨fun c => absurd c ?_, fun _ => ⟨i_in a1 (by omega), fun x1 e1 => ⟨i_in a2 (by omega), fun x2 e2 => ⟨i_in a1 (by omega), fun q => ?_, fun q => ?_⟩⟩⟩⟩
      · rw [i_le, hr, h5]; omega
      · rw [i_nat a1, d1] at q
        rw [i_nat a1, w64 m1] at e1
        rw [i_nat a2, w64 m2] at e2
        refine R_Mo_digest_162 (mid _ 0 0 (by decide) ?_ ?_)
        · rw [e2, e1]; rfl
        · by_cases e : c.dp (2 * i) = true
          · rw [if_pos e] at q; exact absurd q (by decide)
          · rw [if_neg e]
      · rw [i_nat a1, d1] at q
        rw [i_nat a1, w64 m1] at e1
        rw [i_nat a2, w64 m2] at e2
        refine mid _ 1 1 (by decide) ?_ ?_
        · rw [e2, e1]; rfl
        · by_cases e : c.dp (2 * i) = true
          · rw [if_pos e]
          · rw [if_neg e] at q; exact absurd rfl q
  have beats : ∀ h0 : Int64, E_Mo_digest_262 vv rk rl rf rm mw xo sg sr bz' bk lg lo lens rows nt ds at' sc pt (fo6 (fBt bt sb) hm h0) Q → ∀ (j i : Nat), i + j = hm → ∀ v5 : Int32, v5.toInt = (i : Int) → E_Mo_digest_200 vv rk rl rf rm mw xo sg sr bz' bk lg lo lens rows nt ds at' sc pt (fo6 (fBt bt sb) i h0) v5 Q := by
    intro h0 hk j
    obtain ⟨b1, b2, b3, b4⟩ := hB
    induction j with
    | zero =>
      intro i hi v5 h5
      have e : i = hm := by omega
      refine R_Mo_digest_200 ⟨fun _ => by rw [e]; exact hk, fun c => absurd ?_ c⟩
      rw [i_le, b2, h5, e]; exact Int.le_refl _
    | succ j ih =>
      intro i hi v5 h5
      have a1 : ((2 : Int32) * v5).toInt = ((2 * i : Nat) : Int) := by rw [i_mul z_2 h5 (by omega) (by omega)]; omega
      have a2 : ((2 : Int32) * v5 + 1).toInt = ((2 * i + 1 : Nat) : Int) := by rw [i_add a1 z_1 (by omega) (by omega)]; omega
      refine R_Mo_digest_200 ⟨fun c => absurd c ?_, fun _ => ⟨i_in a1 (by omega), fun x1 e1 => ⟨i_in a2 (by omega), fun x2 e2 => ⟨i_in h5 (by omega), fun x3 e3 x4 e4 => ?_⟩⟩⟩⟩
      · rw [i_le, b2, h5]; omega
      have := ih (i + 1) (by omega) x4 (by rw [e4]; exact i_suc h5 (by omega))
      rw [i_nat a1, w64 (b3 (2 * i) (by omega)).1] at e1
      rw [i_nat a2, w64 (b3 (2 * i + 1) (by omega)).1] at e2
      rw [i_nat h5, w64 (b4 i (by omega)).1] at e3
      rw [e3, e2, e1]
      exact this
  have leag : ∀ h0 : Int64, E_Mo_digest_290 vv rk rl rf rm mw xo sg sr bz' bk lg lo lens rows nt ds at' sc pt (fo6 (fPt P) 6 h0) Q → ∀ (j i : Nat), i + j = 6 → ∀ v5 : Int32, v5.toInt = (i : Int) → E_Mo_digest_264 vv rk rl rf rm mw xo sg sr bz' bk lg lo lens rows nt ds at' sc pt (fo6 (fPt P) i h0) v5 Q := by
    intro h0 hk j
    induction j with
    | zero =>
      intro i hi v5 h5
      have e : i = 6 := by omega
      refine R_Mo_digest_264 ⟨fun _ => by rw [e]; exact hk, fun c => absurd ?_ c⟩
      rw [i_le, z_6, h5, e]; exact Int.le_refl _
    | succ j ih =>
      intro i hi v5 h5
      refine R_Mo_digest_264 ⟨fun c => absurd c ?_, fun _ => ⟨i_in h5 (by omega), fun x1 e1 x2 e2 => ?_⟩⟩
      · rw [i_le, z_6, h5]; omega
      have := ih (i + 1) (by omega) x2 (by rw [e2]; exact i_suc h5 (by omega))
      rw [i_nat h5, w64 (hP i (by omega))] at e1
      rw [e1]
      exact this
  have cnts : E_Mo_digest_31 vv rk rl rf rm mw xo sg sr bz' bk lg lo lens rows nt ds at' sc pt (fo6 (fCn (cnZ rk.toInt rl.toInt rf.toInt (gw k l f : Int) sr.toInt bz'.toInt lg.toInt lo.toInt xo.toInt bk.toInt sg.toInt rm.toInt)) 12 257) Q → ∀ (j i : Nat), i + j = 12 → ∀ v5 : Int32, v5.toInt = (i : Int) → E_Mo_digest_6 vv rk rl rf rm mw xo sg sr bz' bk lg lo lens rows nt ds at' sc pt (fo6 (fCn (cnZ rk.toInt rl.toInt rf.toInt (gw k l f : Int) sr.toInt bz'.toInt lg.toInt lo.toInt xo.toInt bk.toInt sg.toInt rm.toInt)) i 257) v5 Q := by
    intro hk j
    induction j with
    | zero =>
      intro i hi v5 h5
      have e : i = 12 := by omega
      refine R_Mo_digest_6 ⟨fun _ => by rw [e]; exact hk, fun c => absurd ?_ c⟩
      rw [i_le, z_12, h5, e]; decide
    | succ j ih =>
      intro i hi v5 h5
      refine R_Mo_digest_6 ⟨fun c => absurd c ?_, fun _ => S_Mo_count fun r1 h1 x2 e2 x3 e3 => ?_⟩
      · rw [i_le, z_12, h5]; omega
      have := ih (i + 1) (by omega) x3 (by rw [e3]; exact i_suc h5 (by omega))
      rw [h5, hw] at h1
      rw [e2, w64 h1]
      exact this
  exact T_Mo_digest (R_Mo_digest_0 (cnts (R_Mo_digest_31 (men _ (R_Mo_digest_98 (marks _ (R_Mo_digest_198 (beats _ (R_Mo_digest_262 (leag _ (R_Mo_digest_290 hq) 6 0 rfl 0 (by decide))) hm 0 (by omega) 0 (by decide))) n 0 (by omega) 0 (by decide))) 4 0 rfl 0 (by decide))) 12 0 rfl 0 (by decide)))
end DIG
