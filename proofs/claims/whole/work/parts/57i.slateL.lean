/-! SLATE in the reference: HAD -/
section SLATEL
variable {vv : Nat → Value} {c : SlC} {n : Nat} {rk rl rf sg sr : Int32} {nt ds lv : Nat → Int32} {pt : Nat → Int64}
def LvR (c : SlC) (n m : Nat) (lv : Nat → Int32) : Prop := ∀ j, m ≤ j → j ≤ n → ∀ x y, x < 30 → y < 30 → (lv (900 * j + 30 * x + y) = 0 ↔ ¬ liS c n (n - j) x y)
/-- a step of s that something follows -/
def fwS (c : SlC) (L : Nat → Nat → Prop) (x y s : Nat) : Prop := (x + s < 30 ∧ goB c x y (x + s) y ∧ L (x + s) y) ∨ (y + s < 30 ∧ goB c x y x (y + s) ∧ L x (y + s))
theorem fwS_all {c : SlC} (hc : c.ok) {L : Nat → Nat → Prop} {x y : Nat} (hL : ∀ a b, L a b → a ≤ 28 ∧ b ≤ 28) : (∃ s, s < 9 ∧ fwS c L x y s) ↔ ∃ a b, goB c x y a b ∧ L a b := by
  constructor
  · rintro ⟨s, _, h | h⟩
    · exact ⟨_, _, h.2⟩
    · exact ⟨_, _, h.2⟩
  · rintro ⟨a, b, h1, h2⟩
    have hl := hL a b h2
    rcases h1 with ⟨g1, g2, o | o⟩
    · have := ltB_le hc o.2.2
      refine ⟨a - x, by omega, Or.inl ?_⟩
      rw [show x + (a - x) = a by omega]
      have e := o.2.1
      subst e
      exact ⟨by omega, ⟨g1, g2, Or.inl o⟩, h2⟩
    · have := ltB_le hc o.2.2
      refine ⟨b - y, by omega, Or.inr ?_⟩
      rw [show y + (b - y) = b by omega]
      have e := o.1
      subst e
      exact ⟨by omega, ⟨g1, g2, Or.inr o⟩, h2⟩
theorem S_Mo_findLive {Q : (Nat → Int64) → (Nat → Int32) → Prop} (hK : KlR c rk rl rf sg) (hM : MkR c n nt ds) (hr : sr.toInt = (n : Int)) (hq : ∀ pt' lv', LvR c n 0 lv' → Q pt' lv') : P_Mo_findLive vv rk rl rf sg sr nt ds pt lv Q := by
  have hc := hK.1
  have hn := hM.1
  refine T_Mo_findLive (R_Mo_findLive_0 (S_Mo_findPaths hK hM hr fun pt' hP => ?_))
  -- the steps on from one field
  have steps : ∀ (w s j x y : Nat) (lv : Nat → Int32) (v1 v2 v3 v4 v5 : Int32), j < n → x < 30 → y < 30 → LvR c n (j + 1) lv → v1.toInt = (j : Int) → v2.toInt = (x : Int) → v3.toInt = (y : Int) → s + w = 9 → v5.toInt = (s : Int) → (v4 = 0 ↔ ¬ ∃ t, t < s ∧ fwS c (liS c n (n - (j + 1))) x y t) → (∀ v4 : Int32, (v4 = 0 ↔ ¬ ∃ a b, goB c x y a b ∧ liS c n (n - (j + 1)) a b) → E_Mo_findLive_156 vv rk rl rf sg sr nt ds pt' lv v1 v2 v3 v4 Q) → E_Mo_findLive_47 vv rk rl rf sg sr nt ds pt' lv v1 v2 v3 v4 v5 Q := by
    intro w
    induction w with
    | zero =>
      intro s j x y lv v1 v2 v3 v4 v5 hj hx hy hL h1 h2 h3 hw h5 h4 hout
      have : s = 9 := by omega
      subst this
      refine R_Mo_findLive_47 ⟨fun _ => hout v4 ?_, fun z => absurd (by rw [i_le, z_9N, h5]; omega) z⟩
      rw [h4, fwS_all hc fun a b q => liS_le hc q]
    | succ w ih =>
      intro s j x y lv v1 v2 v3 v4 v5 hj hx hy hL h1 h2 h3 hw h5 h4 hout
      refine R_Mo_findLive_47 ⟨fun z => absurd z (by rw [i_le, z_9N, h5]; omega), fun _ => ⟨fun z => hout v4 ?_, fun z => ?_⟩⟩
      · rw [← fwS_all hc fun a b q => liS_le hc q]
        have : ∃ t, t < s ∧ fwS c (liS c n (n - (j + 1))) x y t := Classical.not_not.mp (mt h4.mpr z)
        obtain ⟨t, t1, t2⟩ := this
        exact ⟨fun q => absurd q z, fun q => absurd ⟨t, by omega, t2⟩ q⟩
      · have none := h4.mp z
        have yes : fwS c (liS c n (n - (j + 1))) x y s → E_Mo_findLive_143 vv rk rl rf sg sr nt ds pt' lv v1 v2 v3 v5 Q := fun q => R_Mo_findLive_143 (R_Mo_findLive_148 fun x11 e11 => ih (s + 1) j x y lv v1 v2 v3 1 x11 hj hx hy hL h1 h2 h3 (by omega) (by rw [e11]; exact i_suc h5 (by omega)) ⟨fun o => absurd o (by decide), fun o => absurd ⟨s, by omega, q⟩ o⟩ hout)
        have no : ¬ fwS c (liS c n (n - (j + 1))) x y s → E_Mo_findLive_147 vv rk rl rf sg sr nt ds pt' lv v1 v2 v3 v5 Q := fun q => R_Mo_findLive_147 (R_Mo_findLive_148 fun x11 e11 => ih (s + 1) j x y lv v1 v2 v3 0 x11 hj hx hy hL h1 h2 h3 (by omega) (by rw [e11]; exact i_suc h5 (by omega)) ⟨fun _ ⟨t, t1, t2⟩ => by
          by_cases e : t = s
          · rw [e] at t2
            exact q t2
          · exact none ⟨t, by omega, t2⟩, fun _ => rfl⟩ hout)
        have hxs : (v2 + v5).toInt = ((x + s : Nat) : Int) := i_addN h2 h5 (by omega)
        have hys : (v3 + v5).toInt = ((y + s : Nat) : Int) := i_addN h3 h5 (by omega)
        have h1' : (v1 + 1).toInt = ((j + 1 : Nat) : Int) := i_suc h1 (by omega)
        have snd : ¬ (x + s < 30 ∧ goB c x y (x + s) y ∧ liS c n (n - (j + 1)) (x + s) y) → E_Mo_findLive_101 vv rk rl rf sg sr nt ds pt' lv v1 v2 v3 v5 Q := by
          intro hno
          refine R_Mo_findLive_101 ?_
          rw [i_le, z_30, hys]
          refine ⟨fun q => no fun o => ?_, fun q => S_Mo_goes hK h2 h3 h2 hys (by omega) (by omega) (by omega) (by omega) fun r8 e8 => ⟨fun p => no fun o => ?_, fun p => S_Mo_at h1' h2 hys (by omega) hx (by omega) fun r9 e9 => R_Mo_findLive_139 ⟨i_in e9 (by omega), ?_⟩⟩⟩
          · rcases o with o | o
            · exact hno o
            · omega
          · rcases o with o | o
            · exact hno o
            · exact (bz e8).mp p o.2.1
          · rw [i_nat e9, hL (j + 1) (by omega) (by omega) x (y + s) hx (by omega)]
            refine ⟨fun o => no fun k => ?_, fun o => yes (Or.inr ⟨by omega, Classical.not_not.mp (mt (bz e8).mpr p), Classical.not_not.mp o⟩)⟩
            rcases k with k | k
            · exact hno k
            · exact o k.2.2
        rw [i_le, z_30, hxs]
        refine ⟨fun q => snd fun o => by omega, fun q => S_Mo_goes hK h2 h3 hxs h3 (by omega) (by omega) (by omega) (by omega) fun r4 e4 => ⟨fun p => snd fun o => (bz e4).mp p o.2.1, fun p => S_Mo_at h1' hxs h3 (by omega) (by omega) hy fun r5 e5 => R_Mo_findLive_97 ⟨i_in e5 (by omega), ?_⟩⟩⟩
        rw [i_nat e5, hL (j + 1) (by omega) (by omega) (x + s) y (by omega) hy]
        exact ⟨fun o => yes (Or.inl ⟨by omega, Classical.not_not.mp (mt (bz e4).mpr p), Classical.not_not.mp o⟩), fun o => snd fun k => o k.2.2⟩
  have fld : ∀ (w x y j : Nat) (lv : Nat → Int32) (v1 v2 v3 : Int32), y + w = 30 → x < 30 → j ≤ n → v1.toInt = (j : Int) → v2.toInt = (x : Int) → v3.toInt = (y : Int) → LvR c n (j + 1) lv → (∀ u v, u < 30 → v < 30 → (u < x ∨ (u = x ∧ v < y)) → (lv (900 * j + 30 * u + v) = 0 ↔ ¬ liS c n (n - j) u v)) → (∀ lv', LvR c n (j + 1) lv' → (∀ u v, u < 30 → v < 30 → u < x + 1 → (lv' (900 * j + 30 * u + v) = 0 ↔ ¬ liS c n (n - j) u v)) → E_Mo_findLive_199 vv rk rl rf sg sr nt ds pt' lv' v1 v2 Q) → E_Mo_findLive_23 vv rk rl rf sg sr nt ds pt' lv v1 v2 v3 Q := by
    intro w
    induction w with
    | zero =>
      intro x y j lv v1 v2 v3 hw hx hj h1 h2 h3 hL hF hout
      exact R_Mo_findLive_23 ⟨fun _ => hout lv hL fun u v hu hv huv => hF u v hu hv (by omega), fun z => absurd (by rw [i_le, z_30, h3]; omega) z⟩
    | succ w ih =>
      intro x y j lv v1 v2 v3 hw hx hj h1 h2 h3 hL hF hout
      have put : ∀ (s2 : Int32) (s1 : Int32), s1.toInt = ((900 * j + 30 * x + y : Nat) : Int) → (s2 = 0 ∨ s2 = 1) → (s2 = 0 ↔ ¬ liS c n (n - j) x y) → E_Mo_findLive_192 vv rk rl rf sg sr nt ds pt' lv v1 v2 v3 s1 s2 Q := by
        intro s2 s1 hs1 hs hs'
        refine R_Mo_findLive_192 ⟨i_in hs1 (by omega), fun x10 e10 => ?_⟩
        have e2 : vp_nar .boolean s2 = s2 := by
          rcases hs with e | e
          · rw [e]; exact vz0
          · rw [e]; exact vz1
        rw [i_nat hs1, e2]
        refine ih x (y + 1) j _ v1 v2 x10 (by omega) hx hj h1 h2 (by rw [e10]; exact i_suc h3 (by omega)) (fun k k1 k2 u v hu hv => ?_) (fun u v hu hv huv => ?_) hout
        · rw [up_ne (by omega)]
          exact hL k k1 k2 u v hu hv
        · by_cases e : u = x ∧ v = y
          · rw [e.1, e.2, up_same]
            exact hs'
          · rw [up_ne (by omega)]
            exact hF u v hu hv (by omega)
      have h156 : ∀ v4 : Int32, (∀ q : 0 < waS c j x y, (v4 = 0 ↔ ¬ liS c n (n - j) x y)) → E_Mo_findLive_156 vv rk rl rf sg sr nt ds pt' lv v1 v2 v3 v4 Q := by
        intro v4 h4
        refine R_Mo_findLive_156 (S_Mo_at h1 h2 h3 (by omega) hx (by omega) fun r6 e6 => ?_)
        have zero : ¬ liS c n (n - j) x y → E_Mo_findLive_191 vv rk rl rf sg sr nt ds pt' lv v1 v2 v3 r6 Q := fun q => R_Mo_findLive_191 (put 0 r6 e6 (Or.inl rfl) ⟨fun _ => q, fun _ => rfl⟩)
        have hwa : liS c n (n - j) x y → 0 < waS c j x y := by
          intro q
          have := liS_wa q
          rw [show n - (n - j) = j by omega] at this
          exact this
        refine ⟨fun z => zero fun q => (h4 (hwa q)).mp z q, fun z => S_Mo_at h1 h2 h3 (by omega) hx (by omega) fun r7 e7 => R_Mo_findLive_181 ⟨i_in e7 (by omega), ?_⟩⟩
        rw [i_nat e7, lg_le0, hP j hj x y hx (by omega), show (0 : Int64).toInt = 0 by decide]
        refine ⟨fun q => zero fun o => ?_, fun q => put 1 r6 e6 (Or.inr rfl) ?_⟩
        · have := (sat_pos _).mpr (hwa o)
          omega
        · have q' : 0 < waS c j x y := (sat_pos _).mp (by omega)
          have : liS c n (n - j) x y := Classical.not_not.mp (mt (h4 q').mpr z)
          exact ⟨fun o => absurd o (by decide), fun o => absurd this o⟩
      refine R_Mo_findLive_23 ⟨fun z => absurd z (by rw [i_le, z_30, h3]; omega), fun _ => ⟨fun z => R_Mo_findLive_41 (R_Mo_findLive_42 ?_), fun z => R_Mo_findLive_42 ?_⟩⟩
      · rw [i_eq, h1, hr] at z
        refine steps 9 0 j x y lv v1 v2 v3 0 0 (by omega) hx (by omega) hL h1 h2 h3 (by omega) i_0 ⟨fun _ ⟨t, t1, _⟩ => by omega, fun _ => rfl⟩ fun v4 h4 => h156 v4 fun q => ?_
        rw [h4, show n - j = (n - (j + 1)) + 1 by omega]
        show _ ↔ ¬ (0 < waS c (n - (n - (j + 1) + 1)) x y ∧ _)
        rw [show n - (n - (j + 1) + 1) = j by omega]
        exact not_congr ⟨fun o => ⟨q, o⟩, fun o => o.2⟩
      · rw [i_eq, h1, hr] at z
        have ej : j = n := by omega
        refine R_Mo_findLive_47 ⟨fun o => h156 1 fun q => ?_, fun _ => ⟨fun _ => h156 1 fun q => ?_, fun o => absurd o (by decide)⟩⟩
        · rw [ej, Nat.sub_self]
          rw [ej] at q
          exact ⟨fun o => absurd o (by decide), fun o => absurd q o⟩
        · rw [ej, Nat.sub_self]
          rw [ej] at q
          exact ⟨fun o => absurd o (by decide), fun o => absurd q o⟩
  have rows : ∀ (w x j : Nat) (lv : Nat → Int32) (v1 v2 : Int32), x + w = 30 → j ≤ n → v1.toInt = (j : Int) → v2.toInt = (x : Int) → LvR c n (j + 1) lv → (∀ u v, u < 30 → v < 30 → u < x → (lv (900 * j + 30 * u + v) = 0 ↔ ¬ liS c n (n - j) u v)) → (∀ lv', LvR c n j lv' → E_Mo_findLive_205 vv rk rl rf sg sr nt ds pt' lv' v1 Q) → E_Mo_findLive_15 vv rk rl rf sg sr nt ds pt' lv v1 v2 Q := by
    intro w
    induction w with
    | zero =>
      intro x j lv v1 v2 hw hj h1 h2 hL hF hout
      refine R_Mo_findLive_15 ⟨fun _ => hout lv fun k k1 k2 u v hu hv => ?_, fun z => absurd (by rw [i_le, z_30, h2]; omega) z⟩
      by_cases e : k = j
      · rw [e]
        exact hF u v hu hv (by omega)
      · exact hL k (by omega) k2 u v hu hv
    | succ w ih =>
      intro x j lv v1 v2 hw hj h1 h2 hL hF hout
      exact R_Mo_findLive_15 ⟨fun z => absurd z (by rw [i_le, z_30, h2]; omega), fun _ => fld 30 x 0 j lv v1 v2 0 (by omega) (by omega) hj h1 h2 i_0 hL (fun u v hu hv huv => hF u v hu hv (by omega)) fun lv' hL' hF' => R_Mo_findLive_199 fun x3 e3 => ih (x + 1) j lv' v1 x3 (by omega) hj h1 (by rw [e3]; exact i_suc h2 (by omega)) hL' hF' hout⟩
  have all : ∀ (j : Nat) (lv : Nat → Int32) (v1 : Int32), j ≤ n + 1 → v1.toInt = (j : Int) - 1 → LvR c n j lv → E_Mo_findLive_9 vv rk rl rf sg sr nt ds pt' lv v1 Q := by
    intro j
    induction j with
    | zero =>
      intro lv v1 hj h1 hL
      exact R_Mo_findLive_9 ⟨fun _ => R_Mo_findLive_211 (hq pt' lv hL), fun z => absurd (by rw [i_lt, z_0, h1]; omega) z⟩
    | succ j ih =>
      intro lv v1 hj h1 hL
      have h1' : v1.toInt = (j : Int) := by omega
      refine R_Mo_findLive_9 ⟨fun z => absurd z (by rw [i_lt, z_0, h1']; omega), fun _ => rows 30 0 j lv v1 0 (by omega) (by omega) h1' i_0 hL (fun u v hu hv huv => by omega) fun lv' hL' => R_Mo_findLive_205 fun x2 e2 => ih lv' x2 (by omega) ?_ hL'⟩
      rw [e2, i_add h1' (show (-1 : Int32).toInt = -1 by decide) (by omega) (by omega)]
      omega
  exact all (n + 1) lv sr (by omega) (by omega) fun k k1 k2 => by omega
theorem LeM_add {P : Nat → Prop} {most : Prop} {r r' : Int} {t : Nat} (h : LeM P most r) (hr : (r < 0 → r' = t) ∧ (¬ r < 0 → most → r' = if (t : Int) ≤ r then r else t) ∧ (¬ r < 0 → ¬ most → r' = if r ≤ (t : Int) then r else t)) : LeM (fun v => P v ∨ v = t) most r' := by
  rcases h with ⟨e, h⟩ | ⟨v, e, hv, h⟩
  · refine Or.inr ⟨t, hr.1 (by omega), Or.inr rfl, fun u hu => ?_⟩
    rcases hu with hu | hu
    · exact absurd hu (h u)
    · exact ⟨fun _ => by omega, fun _ => by omega⟩
  · by_cases m : most
    · have e' := hr.2.1 (by omega) m
      by_cases q : (t : Int) ≤ r
      · rw [if_pos q] at e'
        refine Or.inr ⟨v, by omega, Or.inl hv, fun u hu => ⟨fun _ => ?_, fun z => absurd m z⟩⟩
        rcases hu with hu | hu
        · exact (h u hu).1 m
        · omega
      · rw [if_neg q] at e'
        refine Or.inr ⟨t, by omega, Or.inr rfl, fun u hu => ⟨fun _ => ?_, fun z => absurd m z⟩⟩
        rcases hu with hu | hu
        · have := (h u hu).1 m
          omega
        · omega
    · have e' := hr.2.2 (by omega) m
      by_cases q : r ≤ (t : Int)
      · rw [if_pos q] at e'
        refine Or.inr ⟨v, by omega, Or.inl hv, fun u hu => ⟨fun z => absurd z m, fun _ => ?_⟩⟩
        rcases hu with hu | hu
        · exact (h u hu).2 m
        · omega
      · rw [if_neg q] at e'
        refine Or.inr ⟨t, by omega, Or.inr rfl, fun u hu => ⟨fun z => absurd z m, fun _ => ?_⟩⟩
        rcases hu with hu | hu
        · have := (h u hu).2 m
          omega
        · omega
theorem LeM_congr {P P' : Nat → Prop} {most : Prop} {r : Int} (h : LeM P most r) (e : ∀ v, P v ↔ P' v) : LeM P' most r := by
  have : P = P' := by
    funext v
    exact propext (e v)
  rw [← this]
  exact h
theorem S_Mo_had {v1 v2 v3 : Int32} {Q : Int32 → (Nat → Int64) → (Nat → Int32) → Prop} (hK : KlR c rk rl rf sg) (hM : MkR c n nt ds) (hr : sr.toInt = (n : Int)) (hq0 : ¬ okD n v1.toInt v2.toInt → Q (-2) pt lv) (hq : okD n v1.toInt v2.toInt → ∀ (r : Int32) pt' lv', LeM (hdP c n v1.toInt.toNat v2.toInt.toNat) (v3 ≠ 0) r.toInt → Q r pt' lv') : P_Mo_had vv rk rl rf sg sr nt ds pt lv v1 v2 v3 Q := by
  have hc := hK.1
  have hn := hM.1
  have hs : (sr - 1).toInt = (n : Int) - 1 := i_sub hr z_1 (by omega) (by omega)
  refine T_Mo_had (R_Mo_had_0 (S_Mo_in fun r1 e1 => ?_))
  rw [Int32.toInt_toInt64, Int32.toInt_toInt64, hs, show (0 : Int64).toInt = 0 by decide] at e1
  refine ⟨fun z => R_Mo_had_26 (hq0 fun q => (bz e1).mp z ⟨q.1, by have := q.2.1; omega⟩), fun z => S_Mo_in fun r2 e2 => ?_⟩
  rw [Int32.toInt_toInt64, show (0 : Int64).toInt = 0 by decide, show (1 : Int64).toInt = 1 by decide] at e2
  refine R_Mo_had_23 ⟨fun y => R_Mo_had_29 (S_Mo_findLive hK hM hr fun pt' lv' hL => ?_), fun y => R_Mo_had_26 (hq0 fun q => (bz e2).mp y (by have := q.2.2; omega))⟩
  have p1 := Classical.not_not.mp (mt (bz e1).mpr z)
  have p2 := Classical.not_not.mp (mt (bz e2).mpr y)
  have ok : okD n v1.toInt v2.toInt := ⟨p1.1, by omega, by omega⟩
  have h1 : v1.toInt = (v1.toInt.toNat : Int) := by omega
  have h2 : v2.toInt = (v2.toInt.toNat : Int) := by omega
  have hi : v1.toInt.toNat < n := by omega
  have hp : v2.toInt.toNat ≤ 1 := by omega
  have hq' := hq ok
  generalize v1.toInt.toNat = i at *
  generalize v2.toInt.toNat = p at *
  have h1' : (v1 + 1).toInt = ((i + 1 : Nat) : Int) := i_suc h1 (by omega)
  have hL' := hL (i + 1) (by omega) (by omega)
  rw [show n - (i + 1) = n - 1 - i by omega] at hL'
  -- the fields
  have inner : ∀ (w x y : Nat) (v4 v5 v6 : Int32), y + w = 30 → x < 30 → v5.toInt = (x : Int) → v6.toInt = (y : Int) → LeM (fun v => ∃ a b, (a < x ∨ (a = x ∧ b < y)) ∧ liS c n (n - 1 - i) a b ∧ v = if p = 1 then b else a) (v3 ≠ 0) v4.toInt → (∀ v4 : Int32, LeM (fun v => ∃ a b, a < x + 1 ∧ liS c n (n - 1 - i) a b ∧ v = if p = 1 then b else a) (v3 ≠ 0) v4.toInt → E_Mo_had_128 vv rk rl rf sg sr nt ds pt' lv' v1 v2 v3 v4 v5 Q) → E_Mo_had_49 vv rk rl rf sg sr nt ds pt' lv' v1 v2 v3 v4 v5 v6 Q := by
    intro w
    induction w with
    | zero =>
      intro x y v4 v5 v6 hw hx h5 h6 h4 hout
      refine R_Mo_had_49 ⟨fun _ => hout v4 (LeM_congr h4 fun v => ?_), fun z => absurd (by rw [i_le, z_30, h6]; omega) z⟩
      constructor
      · rintro ⟨a, b, q1, q2⟩
        exact ⟨a, b, by omega, q2⟩
      · rintro ⟨a, b, q1, q2⟩
        have := (liS_le hc q2.1).2
        exact ⟨a, b, by omega, q2⟩
    | succ w ih =>
      intro x y v4 v5 v6 hw hx h5 h6 h4 hout
      have next : ∀ v4 : Int32, LeM (fun v => ∃ a b, (a < x ∨ (a = x ∧ b < y + 1)) ∧ liS c n (n - 1 - i) a b ∧ v = if p = 1 then b else a) (v3 ≠ 0) v4.toInt → E_Mo_had_122 vv rk rl rf sg sr nt ds pt' lv' v1 v2 v3 v4 v5 v6 Q := fun v4 h4 => R_Mo_had_122 fun x7 e7 => ih x (y + 1) v4 v5 x7 (by omega) hx h5 (by rw [e7]; exact i_suc h6 (by omega)) h4 hout
      refine R_Mo_had_49 ⟨fun z => absurd z (by rw [i_le, z_30, h6]; omega), fun _ => S_Mo_at h1' h5 h6 (by omega) hx (by omega) fun r5 e5 => ⟨i_in e5 (by omega), ?_⟩⟩
      rw [i_nat e5, hL' x y hx (by omega)]
      refine ⟨fun q => next v4 (LeM_congr h4 fun v => ?_), fun q => ?_⟩
      · constructor
        · rintro ⟨a, b, q1, q2⟩
          exact ⟨a, b, by omega, q2⟩
        · rintro ⟨a, b, q1, q2⟩
          by_cases e : a = x ∧ b = y
          · rw [e.1, e.2] at q2
            exact absurd q2.1 q
          · exact ⟨a, b, by omega, q2⟩
      · have live := Classical.not_not.mp q
        have add : ∀ (s0 : Int32) (t : Nat), s0.toInt = (t : Int) → t = (if p = 1 then y else x) → E_Mo_had_85 vv rk rl rf sg sr nt ds pt' lv' v1 v2 v3 v4 v5 v6 s0 Q := by
          intro s0 t hs ht
          have go : ∀ r' : Int32, (v4.toInt < 0 → r'.toInt = t) ∧ (¬ v4.toInt < 0 → v3 ≠ 0 → r'.toInt = if (t : Int) ≤ v4.toInt then v4.toInt else t) ∧ (¬ v4.toInt < 0 → ¬ v3 ≠ 0 → r'.toInt = if v4.toInt ≤ (t : Int) then v4.toInt else t) → E_Mo_had_120 vv rk rl rf sg sr nt ds pt' lv' v1 v2 v3 v5 v6 r' Q := by
            intro r' hr'
            refine R_Mo_had_120 (next r' (LeM_congr (LeM_add h4 hr') fun v => ?_))
            constructor
            · rintro (⟨a, b, q1, q2⟩ | q1)
              · exact ⟨a, b, by omega, q2⟩
              · exact ⟨x, y, by omega, live, by rw [q1, ht]⟩
            · rintro ⟨a, b, q1, q2, q3⟩
              by_cases e : a = x ∧ b = y
              · rw [e.1, e.2] at q3
                exact Or.inr (by rw [q3, ht])
              · exact Or.inl ⟨a, b, by omega, q2, q3⟩
          refine R_Mo_had_85 ?_
          rw [i_lt, z_0, i_le, hs]
          refine ⟨fun o => R_Mo_had_113 (go s0 ⟨fun _ => hs, fun k => absurd o k, fun k => absurd o k⟩), fun o => ⟨fun k => R_Mo_had_106 ?_, fun k => ⟨fun j => R_Mo_had_118 (go v4 ⟨fun l => absurd l o, fun _ _ => by rw [if_pos j], fun _ l => absurd k l⟩), fun j => R_Mo_had_113 (go s0 ⟨fun l => absurd l o, fun _ _ => by rw [if_neg j]; exact hs, fun _ l => absurd k l⟩)⟩⟩⟩
          rw [i_le, hs]
          exact ⟨fun j => R_Mo_had_118 (go v4 ⟨fun l => absurd l o, fun _ l => absurd k l, fun _ _ => by rw [if_pos j]⟩), fun j => R_Mo_had_113 (go s0 ⟨fun l => absurd l o, fun _ l => absurd k l, fun _ _ => by rw [if_neg j]; exact hs⟩)⟩
        rw [i_lit0 h2]
        refine ⟨fun o => R_Mo_had_83 (add v6 y h6 ?_), fun o => add v5 x h5 ?_⟩
        · rw [if_pos (by omega)]
        · rw [if_neg (by omega)]
  have outer : ∀ (w x : Nat) (v4 v5 : Int32), x + w = 30 → v5.toInt = (x : Int) → LeM (fun v => ∃ a b, a < x ∧ liS c n (n - 1 - i) a b ∧ v = if p = 1 then b else a) (v3 ≠ 0) v4.toInt → E_Mo_had_39 vv rk rl rf sg sr nt ds pt' lv' v1 v2 v3 v4 v5 Q := by
    intro w
    induction w with
    | zero =>
      intro x v4 v5 hw h5 h4
      refine R_Mo_had_39 ⟨fun _ => R_Mo_had_134 (hq' v4 pt' lv' (LeM_congr h4 fun v => ?_)), fun z => absurd (by rw [i_le, z_30, h5]; omega) z⟩
      unfold hdP
      by_cases e : p = 1
      · simp only [if_pos e]
        constructor
        · rintro ⟨a, b, _, q2, q3⟩
          rw [q3]
          exact ⟨a, q2⟩
        · rintro ⟨a, q⟩
          have := (liS_le hc q).1
          exact ⟨a, v, by omega, q, rfl⟩
      · simp only [if_neg e]
        constructor
        · rintro ⟨a, b, _, q2, q3⟩
          rw [q3]
          exact ⟨b, q2⟩
        · rintro ⟨b, q⟩
          have := (liS_le hc q).1
          exact ⟨v, b, by omega, q, rfl⟩
    | succ w ih =>
      intro x v4 v5 hw h5 h4
      refine R_Mo_had_39 ⟨fun z => absurd z (by rw [i_le, z_30, h5]; omega), fun _ => inner 30 x 0 v4 v5 0 (by omega) (by omega) h5 i_0 (LeM_congr h4 fun v => ?_) fun v4' h4' => R_Mo_had_128 fun x6 e6 => ih (x + 1) v4' x6 (by omega) (by rw [e6]; exact i_suc h5 (by omega)) h4'⟩
      constructor
      · rintro ⟨a, b, q1, q2⟩
        exact ⟨a, b, by omega, q2⟩
      · rintro ⟨a, b, q1, q2⟩
        exact ⟨a, b, by omega, q2⟩
  exact outer 30 0 (-1) 0 (by omega) i_0 (Or.inl ⟨by decide, fun v ⟨a, b, q, _⟩ => by omega⟩)
end SLATEL
