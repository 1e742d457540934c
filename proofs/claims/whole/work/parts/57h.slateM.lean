/-! SLATE in the reference: paths -/
section SLATEM
variable {vv : Nat → Value} {c : SlC} {n : Nat} {rk rl rf sg sr : Int32} {nt ds lv : Nat → Int32} {pt : Nat → Int64}
theorem z_30 : (30 : Int32).toInt = ((30 : Nat) : Int) := by decide
theorem z_9N : (9 : Int32).toInt = ((9 : Nat) : Int) := by decide
def PaR (f : Nat → Nat → Nat → Nat) (m : Nat) (pt : Nat → Int64) : Prop := ∀ j, j ≤ m → ∀ x y, x < 30 → y < 30 → (pt (900 * j + 30 * x + y)).toInt = (sat (f j x y) : Int)
theorem S_Mo_findPaths {Q : (Nat → Int64) → Prop} (hK : KlR c rk rl rf sg) (hM : MkR c n nt ds) (hr : sr.toInt = (n : Int)) (hq : ∀ pt', PaR (waS c) n pt' → Q pt') : P_Mo_findPaths vv rk rl rf sg sr nt ds pt Q := by
  have hc := hK.1
  have hn := hM.1
  -- one field
  have terms : ∀ (w s i x y : Nat) (pt : Nat → Int64) (v1 v2 v3 v6 : Int32) (v4 : Int64), PaR (waS c) i pt → i < n → x < 30 → y < 30 → v1.toInt = (i : Int) → v2.toInt = (x : Int) → v3.toInt = (y : Int) → s + w = 9 → v6.toInt = (s : Int) → v4.toInt = (sat (sumN (fun s => fxS c (waS c i) x y s + fyS c (waS c i) x y s) s) : Int) → (∀ v4 : Int64, v4.toInt = (sat (inS c (waS c i) x y) : Int) → E_Mo_findPaths_214 vv rk rl rf sg sr nt ds pt v1 v2 v3 v4 Q) → E_Mo_findPaths_102 vv rk rl rf sg sr nt ds pt v1 v2 v3 v4 v6 Q := by
    intro w
    induction w with
    | zero =>
      intro s i x y pt v1 v2 v3 v6 v4 hP hi hx hy h1 h2 h3 hw h6 h4 hout
      have : s = 9 := by omega
      subst this
      exact R_Mo_findPaths_102 ⟨fun _ => hout v4 h4, fun z => absurd (by rw [i_le, z_9N, h6]; omega) z⟩
    | succ w ih =>
      intro s i x y pt v1 v2 v3 v6 v4 hP hi hx hy h1 h2 h3 hw h6 h4 hout
      have hPi := hP i (Nat.le_refl i)
      have fin : ∀ s0 : Int64, s0.toInt = (sat (sumN (fun s => fxS c (waS c i) x y s + fyS c (waS c i) x y s) s + fxS c (waS c i) x y s + fyS c (waS c i) x y s) : Int) → E_Mo_findPaths_206 vv rk rl rf sg sr nt ds pt v1 v2 v3 v6 s0 Q := by
        intro s0 hs
        refine R_Mo_findPaths_206 fun x16 e16 => ih (s + 1) i x y pt v1 v2 v3 x16 s0 hP hi hx hy h1 h2 h3 (by omega) (by rw [e16]; exact i_suc h6 (by omega)) ?_ hout
        rw [hs, Nat.add_assoc]
        rfl
      have mid : ∀ s0 : Int64, s0.toInt = (sat (sumN (fun s => fxS c (waS c i) x y s + fyS c (waS c i) x y s) s + fxS c (waS c i) x y s) : Int) → E_Mo_findPaths_154 vv rk rl rf sg sr nt ds pt v1 v2 v3 v6 s0 Q := by
        intro s0 hs
        have none : fyS c (waS c i) x y s = 0 → E_Mo_findPaths_204 vv rk rl rf sg sr nt ds pt v1 v2 v3 s0 v6 Q := fun e => R_Mo_findPaths_204 (fin s0 (by rw [e]; exact hs))
        refine R_Mo_findPaths_154 ?_
        rw [i_le, i_lt, h6, h3, z_0]
        refine ⟨fun z => none (if_neg (by omega)), fun z => ⟨fun z2 => none (if_neg (by omega)), fun z2 => ?_⟩⟩
        have h3' := i_subN h3 h6 (by omega)
        refine S_Mo_goes hK h2 h3' h2 h3 (by omega) (by omega) (by omega) (by omega) fun r13 e13 => ⟨fun q => none (if_neg fun o => (bz e13).mp q ?_), fun q => S_Mo_at h1 h2 h3' (by omega) hx (by omega) fun r14 e14 => R_Mo_findPaths_196 ⟨i_in e14 (by omega), ?_⟩⟩
        · refine ⟨o.2.2.1, o.2.2.2.1, Or.inr ⟨rfl, by omega, ?_⟩⟩
          rw [show y - (y - s) = s by omega]
          exact o.2.2.2.2
        · have g := Classical.not_not.mp (mt (bz e13).mpr q)
          have gl : ltB c s := by
            rcases g.2.2 with o | o
            · omega
            · have := o.2.2
              rw [show y - (y - s) = s by omega] at this
              exact this
          rw [i_nat e14]
          refine S_Mo_cut hs (hPi x (y - s) hx (by omega)) rfl fun r15 e15 => fin r15 ?_
          rw [e15]
          unfold fyS
          rw [if_pos ⟨by omega, by omega, g.1, g.2.1, gl⟩]
      have none : fxS c (waS c i) x y s = 0 → E_Mo_findPaths_152 vv rk rl rf sg sr nt ds pt v1 v2 v3 v4 v6 Q := fun e => R_Mo_findPaths_152 (mid v4 (by rw [e]; exact h4))
      refine R_Mo_findPaths_102 ⟨fun z => absurd z (by rw [i_le, z_9N, h6]; omega), fun _ => ?_⟩
      rw [i_lt, h6, h2]
      refine ⟨fun z => none (if_neg (by omega)), fun z => ?_⟩
      have h2' := i_subN h2 h6 (by omega)
      refine S_Mo_goes hK h2' h3 h2 h3 (by omega) (by omega) (by omega) (by omega) fun r10 e10 => ⟨fun q => none (if_neg fun o => (bz e10).mp q ?_), fun q => S_Mo_at h1 h2' h3 (by omega) (by omega) hy fun r11 e11 => R_Mo_findPaths_144 ⟨i_in e11 (by omega), ?_⟩⟩
      · refine ⟨o.2.1, o.2.2.1, Or.inl ⟨by omega, rfl, ?_⟩⟩
        rw [show x - (x - s) = s by omega]
        exact o.2.2.2
      · have g := Classical.not_not.mp (mt (bz e10).mpr q)
        have gl : ltB c s := by
          rcases g.2.2 with o | o
          · have := o.2.2
            rw [show x - (x - s) = s by omega] at this
            exact this
          · omega
        rw [i_nat e11]
        refine S_Mo_cut h4 (hPi (x - s) y (by omega) hy) rfl fun r12 e12 => mid r12 ?_
        rw [e12]
        unfold fxS
        rw [if_pos ⟨by omega, g.1, g.2.1, gl⟩]
  -- the fields of one ROUND
  have fld : ∀ (w x y i : Nat) (pt : Nat → Int64) (v1 v2 v3 : Int32), y + w = 30 → x < 30 → i < n → v1.toInt = (i : Int) → v2.toInt = (x : Int) → v3.toInt = (y : Int) → PaR (waS c) i pt → (∀ u v, u < 30 → v < 30 → (u < x ∨ (u = x ∧ v < y)) → (pt (900 * (i + 1) + 30 * u + v)).toInt = (sat (waS c (i + 1) u v) : Int)) → (∀ pt', PaR (waS c) i pt' → (∀ u v, u < 30 → v < 30 → u < x + 1 → (pt' (900 * (i + 1) + 30 * u + v)).toInt = (sat (waS c (i + 1) u v) : Int)) → E_Mo_findPaths_235 vv rk rl rf sg sr nt ds pt' v1 v2 Q) → E_Mo_findPaths_70 vv rk rl rf sg sr nt ds pt v1 v2 v3 Q := by
    intro w
    induction w with
    | zero =>
      intro x y i pt v1 v2 v3 hw hx hi h1 h2 h3 hP hF hout
      exact R_Mo_findPaths_70 ⟨fun _ => hout pt hP fun u v hu hv huv => hF u v hu hv (by omega), fun z => absurd (by rw [i_le, z_30, h3]; omega) z⟩
    | succ w ih =>
      intro x y i pt v1 v2 v3 hw hx hi h1 h2 h3 hP hF hout
      have put : ∀ v4 : Int64, v4.toInt = (sat (waS c (i + 1) x y) : Int) → E_Mo_findPaths_214 vv rk rl rf sg sr nt ds pt v1 v2 v3 v4 Q := by
        intro v4 h4
        refine R_Mo_findPaths_214 (S_Mo_at (i_suc h1 (by omega)) h2 h3 (by omega) hx (by omega) fun r8 e8 => ⟨i_in e8 (by omega), fun x9 e9 => ?_⟩)
        rw [i_nat e8]
        refine ih x (y + 1) i _ v1 v2 x9 (by omega) hx hi h1 h2 (by rw [e9]; exact i_suc h3 (by omega)) (fun j hj u v hu hv => ?_) (fun u v hu hv huv => ?_) hout
        · rw [up_ne (by omega)]
          exact hP j hj u v hu hv
        · by_cases e : u = x ∧ v = y
          · rw [e.1, e.2, up_same]
            exact h4
          · rw [up_ne (by omega)]
            exact hF u v hu hv (by omega)
      have zero : ¬ (ftB c i 0 x ∧ ftB c i 1 y) → E_Mo_findPaths_214 vv rk rl rf sg sr nt ds pt v1 v2 v3 0 Q := by
        intro q
        refine put 0 ?_
        show _ = (sat (nxS c i (waS c i) x y) : Int)
        unfold nxS
        rw [if_neg q]
        rfl
      refine R_Mo_findPaths_70 ⟨fun z => absurd z (by rw [i_le, z_30, h3]; omega), fun _ => S_Mo_fits (p := 0) hM h1 hi i_0 (by omega) h2 fun r5 e5 => ⟨fun z => zero fun q => (bz e5).mp z q.1, fun z => S_Mo_fits (p := 1) hM h1 hi i_1 (by omega) h3 fun r6 e6 => R_Mo_findPaths_96 ⟨fun z2 => zero fun q => (bz e6).mp z2 q.2, fun z2 => terms 9 0 i x y pt v1 v2 v3 0 0 hP hi hx (by omega) h1 h2 h3 (by omega) i_0 rfl fun v4 h4 => put v4 ?_⟩⟩⟩
      rw [h4]
      show _ = (sat (nxS c i (waS c i) x y) : Int)
      unfold nxS
      rw [if_pos ⟨Classical.not_not.mp (mt (bz e5).mpr z), Classical.not_not.mp (mt (bz e6).mpr z2)⟩]
  have rows : ∀ (w x i : Nat) (pt : Nat → Int64) (v1 v2 : Int32), x + w = 30 → i < n → v1.toInt = (i : Int) → v2.toInt = (x : Int) → PaR (waS c) i pt → (∀ u v, u < 30 → v < 30 → u < x → (pt (900 * (i + 1) + 30 * u + v)).toInt = (sat (waS c (i + 1) u v) : Int)) → (∀ pt', PaR (waS c) (i + 1) pt' → E_Mo_findPaths_241 vv rk rl rf sg sr nt ds pt' v1 Q) → E_Mo_findPaths_62 vv rk rl rf sg sr nt ds pt v1 v2 Q := by
    intro w
    induction w with
    | zero =>
      intro x i pt v1 v2 hw hi h1 h2 hP hF hout
      refine R_Mo_findPaths_62 ⟨fun _ => hout pt fun j hj u v hu hv => ?_, fun z => absurd (by rw [i_le, z_30, h2]; omega) z⟩
      by_cases e : j = i + 1
      · rw [e]
        exact hF u v hu hv (by omega)
      · exact hP j (by omega) u v hu hv
    | succ w ih =>
      intro x i pt v1 v2 hw hi h1 h2 hP hF hout
      exact R_Mo_findPaths_62 ⟨fun z => absurd z (by rw [i_le, z_30, h2]; omega), fun _ => fld 30 x 0 i pt v1 v2 0 (by omega) (by omega) hi h1 h2 i_0 hP (fun u v hu hv huv => hF u v hu hv (by omega)) fun pt' hP' hF' => R_Mo_findPaths_235 fun x7 e7 => ih (x + 1) i pt' v1 x7 (by omega) hi h1 (by rw [e7]; exact i_suc h2 (by omega)) hP' hF' hout⟩
  have all : ∀ (w i : Nat) (pt : Nat → Int64) (v1 : Int32), i + w = n → v1.toInt = (i : Int) → PaR (waS c) i pt → E_Mo_findPaths_52 vv rk rl rf sg sr nt ds pt v1 Q := by
    intro w
    induction w with
    | zero =>
      intro i pt v1 hw h1 hP
      have : i = n := by omega
      subst this
      exact R_Mo_findPaths_52 ⟨fun _ => R_Mo_findPaths_247 (hq pt hP), fun z => absurd (by rw [i_le, hr, h1]; omega) z⟩
    | succ w ih =>
      intro i pt v1 hw h1 hP
      exact R_Mo_findPaths_52 ⟨fun z => absurd z (by rw [i_le, hr, h1]; omega), fun _ => rows 30 0 i pt v1 0 (by omega) (by omega) h1 i_0 hP (fun u v hu hv huv => by omega) fun pt' hP' => R_Mo_findPaths_241 fun x4 e4 => ih (i + 1) pt' x4 (by omega) (by rw [e4]; exact i_suc h1 (by omega)) hP'⟩
  -- ahead of the first ROUND
  have ifl : ∀ (w x y : Nat) (pt : Nat → Int64) (v1 v2 : Int32), y + w = 30 → x < 30 → v1.toInt = (x : Int) → v2.toInt = (y : Int) → (∀ u v, u < 30 → v < 30 → (u < x ∨ (u = x ∧ v < y)) → (pt (30 * u + v)).toInt = (sat (waS c 0 u v) : Int)) → (∀ pt', (∀ u v, u < 30 → v < 30 → u < x + 1 → (pt' (30 * u + v)).toInt = (sat (waS c 0 u v) : Int)) → E_Mo_findPaths_44 vv rk rl rf sg sr nt ds pt' v1 Q) → E_Mo_findPaths_10 vv rk rl rf sg sr nt ds pt v1 v2 Q := by
    intro w
    induction w with
    | zero =>
      intro x y pt v1 v2 hw hx h1 h2 hF hout
      exact R_Mo_findPaths_10 ⟨fun _ => hout pt fun u v hu hv huv => hF u v hu hv (by omega), fun z => absurd (by rw [i_le, z_30, h2]; omega) z⟩
    | succ w ih =>
      intro x y pt v1 v2 hw hx h1 h2 hF hout
      refine R_Mo_findPaths_10 ⟨fun z => absurd z (by rw [i_le, z_30, h2]; omega), fun _ => S_Mo_at (i := 0) i_0 h1 h2 (by omega) hx (by omega) fun r1 e1 => ?_⟩
      have put : ∀ s2 : Int64, s2.toInt = (sat (waS c 0 x y) : Int) → E_Mo_findPaths_37 vv rk rl rf sg sr nt ds pt v1 v2 r1 s2 Q := by
        intro s2 hs
        refine R_Mo_findPaths_37 ⟨i_in e1 (by omega), fun x3 e3 => ?_⟩
        rw [i_nat e1, show 900 * 0 + 30 * x + y = 30 * x + y by omega]
        refine ih x (y + 1) _ v1 x3 (by omega) hx h1 (by rw [e3]; exact i_suc h2 (by omega)) (fun u v hu hv huv => ?_) hout
        by_cases e : u = x ∧ v = y
        · rw [e.1, e.2, up_same]
          exact hs
        · rw [up_ne (by omega)]
          exact hF u v hu hv (by omega)
      rw [i_lit0 (i_addN h1 h2 (by omega))]
      refine ⟨fun z => R_Mo_findPaths_36 (put 0 ?_), fun z => put 1 ?_⟩
      · show _ = (sat (if x = 0 ∧ y = 0 then 1 else 0) : Int)
        rw [if_neg (by omega)]
        rfl
      · show _ = (sat (if x = 0 ∧ y = 0 then 1 else 0) : Int)
        rw [if_pos (by omega)]
        rfl
  have irw : ∀ (w x : Nat) (pt : Nat → Int64) (v1 : Int32), x + w = 30 → v1.toInt = (x : Int) → (∀ u v, u < 30 → v < 30 → u < x → (pt (30 * u + v)).toInt = (sat (waS c 0 u v) : Int)) → E_Mo_findPaths_2 vv rk rl rf sg sr nt ds pt v1 Q := by
    intro w
    induction w with
    | zero =>
      intro x pt v1 hw h1 hF
      refine R_Mo_findPaths_2 ⟨fun _ => R_Mo_findPaths_50 (all n 0 pt 0 (by omega) i_0 fun j hj u v hu hv => ?_), fun z => absurd (by rw [i_le, z_30, h1]; omega) z⟩
      have : j = 0 := by omega
      subst this
      rw [show 900 * 0 + 30 * u + v = 30 * u + v by omega]
      exact hF u v hu hv (by omega)
    | succ w ih =>
      intro x pt v1 hw h1 hF
      exact R_Mo_findPaths_2 ⟨fun z => absurd z (by rw [i_le, z_30, h1]; omega), fun _ => ifl 30 x 0 pt v1 0 (by omega) (by omega) h1 i_0 (fun u v hu hv huv => hF u v hu hv (by omega)) fun pt' hF' => R_Mo_findPaths_44 fun x2 e2 => ih (x + 1) pt' x2 (by omega) (by rw [e2]; exact i_suc h1 (by omega)) hF'⟩
  exact T_Mo_findPaths (R_Mo_findPaths_0 (irw 30 0 pt 0 (by omega) i_0 fun u v hu hv huv => by omega))
theorem S_Mo_pathsTo {v1 : Int32} {j m : Nat} {Q : Int64 → Prop} (hc : c.ok) (hP : PaR (waS c) m pt) (hm : m ≤ 40) (h1 : v1.toInt = (j : Int)) (hj : j ≤ m) (hq : ∀ r : Int64, r.toInt = (alS c j : Int) → Q r) : P_Mo_pathsTo vv pt v1 Q := by
  have hPj := hP j hj
  have row30 : ∀ x, sumN (waS c j x) 30 = sumN (waS c j x) 29 := by
    intro x
    show sumN (waS c j x) 29 + waS c j x 29 = _
    rw [waS_out hc (by omega)]
    rfl
  have tot : alS c j = sat (sumN (fun x => sumN (waS c j x) 30) 30) := by
    unfold alS
    congr 1
    show _ = sumN (fun x => sumN (waS c j x) 30) 29 + sumN (waS c j 29) 30
    rw [sumN_ze2 (g := waS c j 29) (fun s _ => waS_out hc (by omega)), Nat.add_zero]
    refine sumN_congr fun x _ => ?_
    rw [row30 x]
  have inner : ∀ (w x y : Nat) (v2 : Int64) (v4 v5 : Int32), y + w = 30 → x < 30 → v4.toInt = (x : Int) → v5.toInt = (y : Int) → v2.toInt = (sat (sumN (fun x => sumN (waS c j x) 30) x + sumN (waS c j x) y) : Int) → (∀ v2 : Int64, v2.toInt = (sat (sumN (fun x => sumN (waS c j x) 30) (x + 1)) : Int) → E_Mo_pathsTo_47 vv pt v1 v2 v4 Q) → E_Mo_pathsTo_15 vv pt v1 v2 v4 v5 Q := by
    intro w
    induction w with
    | zero =>
      intro x y v2 v4 v5 hw hx h4 h5 h2 hout
      have : y = 30 := by omega
      subst this
      exact R_Mo_pathsTo_15 ⟨fun _ => hout v2 h2, fun z => absurd (by rw [i_le, z_30, h5]; omega) z⟩
    | succ w ih =>
      intro x y v2 v4 v5 hw hx h4 h5 h2 hout
      refine R_Mo_pathsTo_15 ⟨fun z => absurd z (by rw [i_le, z_30, h5]; omega), fun _ => S_Mo_at h1 h4 h5 (by omega) hx (by omega) fun r1 e1 => ⟨i_in e1 (by omega), ?_⟩⟩
      rw [i_nat e1]
      refine S_Mo_cut h2 (hPj x y hx (by omega)) rfl fun r2 e2 => R_Mo_pathsTo_40 fun x4 e4 => ih x (y + 1) r2 v4 x4 (by omega) hx h4 (by rw [e4]; exact i_suc h5 (by omega)) ?_ hout
      rw [e2, Nat.add_assoc]
      rfl
  have outer : ∀ (w x : Nat) (v2 : Int64) (v4 : Int32), x + w = 30 → v4.toInt = (x : Int) → v2.toInt = (sat (sumN (fun x => sumN (waS c j x) 30) x) : Int) → E_Mo_pathsTo_5 vv pt v1 v2 v4 Q := by
    intro w
    induction w with
    | zero =>
      intro x v2 v4 hw h4 h2
      have : x = 30 := by omega
      subst this
      exact R_Mo_pathsTo_5 ⟨fun _ => R_Mo_pathsTo_53 (hq v2 (by rw [tot]; exact h2)), fun z => absurd (by rw [i_le, z_30, h4]; omega) z⟩
    | succ w ih =>
      intro x v2 v4 hw h4 h2
      exact R_Mo_pathsTo_5 ⟨fun z => absurd z (by rw [i_le, z_30, h4]; omega), fun _ => inner 30 x 0 v2 v4 0 (by omega) (by omega) h4 i_0 h2 fun v2' h2' => R_Mo_pathsTo_47 fun x3 e3 => ih (x + 1) v2' x3 (by omega) (by rw [e3]; exact i_suc h4 (by omega)) h2'⟩
  exact T_Mo_pathsTo (R_Mo_pathsTo_0 (outer 30 0 0 0 (by omega) i_0 rfl))
theorem S_Mo_fills {Q : Int64 → (Nat → Int64) → Prop} (hK : KlR c rk rl rf sg) (hM : MkR c n nt ds) (hr : sr.toInt = (n : Int)) (hq : ∀ (r : Int64) pt', r.toInt = (alS c n : Int) → Q r pt') : P_Mo_fills vv rk rl rf sg sr nt ds pt Q := T_Mo_fills (R_Mo_fills_0 (S_Mo_findPaths hK hM hr fun pt' hP => S_Mo_pathsTo hK.1 hP hM.1 hr (Nat.le_refl _) fun r e => hq r pt' e))
theorem alS_0 {c : SlC} (hc : c.ok) {j : Nat} : alS c j = 0 ↔ noS c j := by
  unfold alS
  rw [sat_0]
  constructor
  · intro h x y
    refine Nat.eq_zero_of_not_pos fun q => ?_
    have hx : x < 29 := Classical.byContradiction fun z => by
      rw [waS_out hc (by omega)] at q
      omega
    have hy : y < 29 := Classical.byContradiction fun z => by
      rw [waS_out hc (by omega)] at q
      omega
    have h1 : 0 < sumN (fun y => waS c j x y) 29 := sumN_pos.mpr ⟨y, hy, q⟩
    have h2 : 0 < sumN (fun x => sumN (fun y => waS c j x y) 29) 29 := sumN_pos.mpr ⟨x, hx, h1⟩
    omega
  · intro h
    exact sumN_ze2 fun x _ => sumN_ze2 fun y _ => h x y
theorem S_Mo_wrong {Q : Int32 → (Nat → Int64) → Prop} (hK : KlR c rk rl rf sg) (hM : MkR c n nt ds) (hr : sr.toInt = (n : Int)) (hq : ∀ (r : Int32) pt', WrS c n r.toInt → Q r pt') : P_Mo_wrong vv rk rl rf sg sr nt ds pt Q := by
  have hc := hK.1
  have hn := hM.1
  refine T_Mo_wrong (R_Mo_wrong_0 (S_Mo_findPaths hK hM hr fun pt' hP => ?_))
  have loop : ∀ (w i : Nat) (v1 : Int32), i + w = n → v1.toInt = (i : Int) → (∀ j, j < i → ¬ noS c (j + 1)) → E_Mo_wrong_6 vv rk rl rf sg sr nt ds pt' v1 Q := by
    intro w
    induction w with
    | zero =>
      intro i v1 hw h1 hno
      have : i = n := by omega
      subst this
      exact R_Mo_wrong_6 ⟨fun _ => R_Mo_wrong_34 (hq (-1) pt' (Or.inl ⟨by decide, hno⟩)), fun z => absurd (by rw [i_le, hr, h1]; omega) z⟩
    | succ w ih =>
      intro i v1 hw h1 hno
      refine R_Mo_wrong_6 ⟨fun z => absurd z (by rw [i_le, hr, h1]; omega), fun _ => S_Mo_pathsTo hc hP hn (i_suc h1 (by omega)) (by omega) fun r2 e2 => ?_⟩
      have key : lg_cmp r2 0 = 0 ↔ noS c (i + 1) := by
        rw [lg_eq0, e2, ← alS_0 hc, show (0 : Int64).toInt = 0 by decide]
        omega
      refine ⟨fun z => R_Mo_wrong_28 fun x3 e3 => ih (i + 1) x3 (by omega) (by rw [e3]; exact i_suc h1 (by omega)) fun j hj => ?_, fun z => hq v1 pt' (Or.inr ⟨i, h1, by omega, key.mp z, hno⟩)⟩
      by_cases e : j = i
      · rw [e]
        exact fun q => z (key.mpr q)
      · exact hno j (by omega)
  exact loop n 0 0 (by omega) i_0 fun j hj => by omega
end SLATEM
