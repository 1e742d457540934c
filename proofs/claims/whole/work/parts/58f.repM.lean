/-! AN ANSWER in the reference: means -/
section REPM
variable {vv : Nat → Value} {k l f m : Nat} {T : Nat → Nat → Int} {d : Int} {ins : Nat → Nat} {n : Nat} {mk ml mm mn mw mg each all : Int32} {fl ll gl wk gin counts : Nat → Int32} {tp un mean : Nat → Int64} {V : Nat → Int}
/-- each throw has as many WAYS as calls go with it -/
theorem al_each {k l f m : Nat} {cf : Nat → Nat} (hr : RuleOK k l f m) : alR k l f cf = ((sumN cf (gn l f) * (if k = 0 then 1 else gn l f) : Nat) : Int) := by
  have hg := gn_le hr
  have key0 : ∀ w, sumZ (fun j => ((cf (l + j - l) : Nat) : Int)) w = ((sumN cf w : Nat) : Int) := by
    intro w
    induction w with
    | zero => rfl
    | succ w ih =>
      simp only [sumZ, sumN]
      rw [ih, show l + w - l = w by omega]
      norm_cast
  have key1 : ∀ g, 0 < g → ∀ x y, y ≤ g → sumZ (fun j => ((cf (l + j / g - l) : Nat) : Int)) (g * x + y) = ((sumN cf x * g + y * cf x : Nat) : Int) := by
    intro g hg x
    induction x with
    | zero =>
      intro y
      induction y with
      | zero =>
        intro _
        show (0 : Int) = _
        simp [sumN]
      | succ y ih =>
        intro hy
        rw [show g * 0 + (y + 1) = (g * 0 + y) + 1 by omega]
        show sumZ _ (g * 0 + y) + ((cf (l + (g * 0 + y) / g - l) : Nat) : Int) = _
        rw [ih (by omega), show g * 0 + y = y by omega, Nat.div_eq_of_lt (by omega), show l + 0 - l = 0 by omega, ← Int.natCast_add]
        congr 1
        rw [Nat.add_mul]
        omega
    | succ x ihx =>
      have base : sumZ (fun j => ((cf (l + j / g - l) : Nat) : Int)) (g * (x + 1)) = ((sumN cf (x + 1) * g : Nat) : Int) := by
        rw [Nat.mul_add, Nat.mul_one, ihx g (Nat.le_refl g)]
        congr 1
        show sumN cf x * g + g * cf x = (sumN cf x + cf x) * g
        rw [Nat.add_mul, Nat.mul_comm g]
      intro y
      induction y with
      | zero =>
        intro _
        rw [Nat.add_zero, base, Nat.zero_mul]
        rfl
      | succ y ih =>
        intro hy
        show sumZ _ (g * (x + 1) + y) + ((cf (l + (g * (x + 1) + y) / g - l) : Nat) : Int) = _
        rw [ih (by omega), Nat.mul_add_div hg, Nat.div_eq_of_lt (show y < g by omega), Nat.add_zero, show l + (x + 1) - l = x + 1 by omega, ← Int.natCast_add]
        congr 1
        rw [Nat.add_mul]
        omega
  unfold alR wgR gw
  by_cases e : k = 0
  · rw [if_pos e, if_pos e, Nat.mul_one, ← key0]
    congr 1
    funext j
    unfold thr
    rw [if_pos e]
  · rw [if_neg e, if_neg e]
    have := key1 (gn l f) (by omega) (gn l f) 0 (by omega)
    rw [Nat.add_zero, Nat.zero_mul, Nat.add_zero] at this
    rw [← this]
    congr 1
    funext j
    unfold thr
    rw [if_neg e]
theorem cf_sum {cf : Nat → Nat} (hc : ∀ x, cf x ≤ 120) : ∀ w, sumN cf w ≤ 120 * w
  | 0 => Nat.le_refl 0
  | w + 1 => by
    simp only [sumN]
    have := cf_sum hc w
    have := hc w
    omega
theorem S_Mo_findMeans {cf : Nat → Nat} {Q : Int32 → Int32 → (Nat → Int32) → (Nat → Int32) → (Nat → Int32) → (Nat → Int32) → (Nat → Int64) → Prop} (h : MRu k l f m mk ml mm mn) (hG : GameOf k l f m T d ins n) (hw : mw.toInt = (gw k l f : Int)) (hI : IR gin ins (gw k l f)) (hM : GM V T (gw k l f)) (hR : MR fl ll gl V) (hC : ∀ x, x < gn l f → (counts x).toInt = (cf x : Int)) (hcf : ∀ x, cf x ≤ 120) (hq : ∀ (each' all' : Int32) fl' ll' gl' wk' (mean' : Nat → Int64) V', all'.toInt = alR k l f cf → MR fl' ll' gl' V' → Off [1356, 1361, 1370] V V' → V' 1356 = mmR k l f m T ins cf → (∀ i, i < gw k l f → (mean' i).toInt = meR k l f m cf i) → Q each' all' fl' ll' gl' wk' mean') : P_Mo_findMeans vv mk ml mm mn mw each all fl ll gl wk gin counts mean Q := by
  obtain ⟨hr, hk, hl, hm, hn⟩ := id h
  have hgn := gn_le hr
  have hw25 := gw_le hr
  have hB := hG.bd.1
  have hsum := cf_sum hcf (gn l f)
  -- the mean of one WAY
  have inner : ∀ (w j i : Nat) (each all : Int32) (F L G WK : Nat → Int32) (mean : Nat → Int64) (v1 v2 : Int32), j + w = gw k l f → i < gw k l f → v1.toInt = (i : Int) → v2.toInt = (j : Int) → (mean i).toInt = sumZ (fun j => wgR k l f cf j * payI k l f m i j) j → (∀ mean', (∀ u, u ≠ i → mean' u = mean u) → (mean' i).toInt = meR k l f m cf i → E_Mo_findMeans_142 vv mk ml mm mn mw each all F L G WK gin counts mean' v1 Q) → E_Mo_findMeans_95 vv mk ml mm mn mw each all F L G WK gin counts mean v1 v2 Q := by
    intro w
    induction w with
    | zero =>
      intro j i each all F L G WK mean v1 v2 hj hi h1 h2 hv hout
      have : j = gw k l f := by omega
      subst this
      exact R_Mo_findMeans_95 ⟨fun _ => hout mean (fun _ _ => rfl) hv, fun z => absurd (by rw [i_le, hw, h2]; omega) z⟩
    | succ w ih =>
      intro j i each all F L G WK mean v1 v2 hj hi h1 h2 hv hout
      have ht := thr_le hr (show j < gw k l f by omega)
      refine R_Mo_findMeans_95 ⟨fun z => absurd z (by rw [i_le, hw, h2]; omega), fun _ => ⟨i_in h1 (by omega), S_Mo_throwOf h h2 (by omega) fun r7 e7 => ?_⟩⟩
      have hx : (r7 - ml).toInt = ((thr k l f j - l : Nat) : Int) := i_subN e7 hl (by omega)
      refine ⟨i_in hx (by omega), S_Mo_payOf h h1 hi h2 (by omega) fun r8 e8 => R_Mo_findMeans_132 ⟨i_in h1 (by omega), fun x16 e16 => ?_⟩⟩
      rw [i_nat h1, i_nat hx]
      have b1 := me_bd (m := m) hr hcf hi (show j ≤ gw k l f by omega)
      have b2 := wg_bd (k := k) (l := l) (f := f) hcf j
      have b3 := pay_bd hr hi (show j < gw k l f by omega)
      have b4 := mulR_bd (A := 120) (B := 8) ⟨by omega, b2.2⟩ b3 (by omega)
      have hc' : (counts (thr k l f j - l)).toInt64.toInt = wgR k l f cf j := i_wide (hC _ (by omega))
      have hm' := j_mul hc' (i_wide e8) (by omega) (by omega)
      have ha := j_add hv hm' (by omega) (by omega)
      exact ih (j + 1) i each all F L G WK _ v1 x16 (by omega) hi h1 (by rw [e16]; exact i_suc h2 (by omega)) (by rw [up_same]; exact ha) fun mean' hu hv' => hout mean' (fun u hu' => by rw [hu u hu', up_ne hu']) hv'
  have outer : ∀ (w i : Nat) (each all : Int32) (F L G WK : Nat → Int32) (mean : Nat → Int64) (V' : Nat → Int) (v1 : Int32), i + w = gw k l f → v1.toInt = (i : Int) → all.toInt = alR k l f cf → MR F L G V' → Off [1356, 1361, 1370] V V' → V' 1356 = sumZ (fun i => shr T ins (gw k l f) 0 i * meR k l f m cf i) i → (∀ u, u < i → (mean u).toInt = meR k l f m cf u) → E_Mo_findMeans_78 vv mk ml mm mn mw each all F L G WK gin counts mean v1 Q := by
    intro w
    induction w with
    | zero =>
      intro i each all F L G WK mean V' v1 hi h1 hal hR' hO hv hme
      have : i = gw k l f := by omega
      subst this
      exact R_Mo_findMeans_78 ⟨fun _ => R_Mo_findMeans_186 (hq each all F L G WK mean V' hal hR' hO hv hme), fun z => absurd (by rw [i_le, hw, h1]; omega) z⟩
    | succ w ih =>
      intro i each all F L G WK mean V' v1 hi h1 hal hR' hO hv hme
      refine R_Mo_findMeans_78 ⟨fun z => absurd z (by rw [i_le, hw, h1]; omega), fun _ => ⟨i_in h1 (by omega), ?_⟩⟩
      rw [i_nat h1]
      refine inner (gw k l f) 0 i each all F L G WK _ v1 0 (by omega) (by omega) h1 i_0 (by rw [up_same]; rfl) fun mean' hu hv' => ?_
      have hM' : GM V' T (gw k l f) := hM.off hO hw25.2 (by simp)
      have hsb := shr_bd (ins := ins) (p := 0) (i := i) hB (by omega)
      have mb : -24000 ≤ meR k l f m cf i ∧ meR k l f m cf i ≤ 24000 := me_bd hr hcf (show i < gw k l f by omega) (Nat.le_refl (gw k l f))
      have s1 := mm_bd hr hG hcf (show i ≤ gw k l f by omega)
      have s2 := mm_bd hr hG hcf (show i + 1 ≤ gw k l f by omega)
      have hsum' : sumZ (fun i => shr T ins (gw k l f) 0 i * meR k l f m cf i) (i + 1) = sumZ (fun i => shr T ins (gw k l f) 0 i * meR k l f m cf i) i + shr T ins (gw k l f) 0 i * meR k l f m cf i := rfl
      refine R_Mo_findMeans_142 (S_Mo_mixTimes (p := 0) hr hw hI hM' hR' i_0 h1 (by omega) c1361 (by omega) (by omega) fun F1 L1 G1 hR1 => ⟨i_in h1 (by omega), ?_⟩)
      rw [i_nat h1]
      refine S_Mo_timesSmall 2 1 hR1 c1361 (by omega) hv' (by omega) c1361 (by omega) (by rw [up_same]; exact pow2 (by omega) (by omega)) (pow1 (by omega)) (by omega) fun F2 L2 G2 W2 hR2 => ?_
      rw [up_same] at hR2
      have w1 : up (up (up V' 1361 (shr T ins (gw k l f) 0 i)) 1370 (meR k l f m cf i)) 1361 (shr T ins (gw k l f) 0 i * meR k l f m cf i) 1356 = V' 1356 := by rw [up_ne (by omega), up_ne (by omega), up_ne (by omega)]
      have w2 : up (up (up V' 1361 (shr T ins (gw k l f) 0 i)) 1370 (meR k l f m cf i)) 1361 (shr T ins (gw k l f) 0 i * meR k l f m cf i) 1361 = shr T ins (gw k l f) 0 i * meR k l f m cf i := up_same ..
      refine R_Mo_findMeans_167 (S_Mo_add hR2 c1356 (by omega) c1361 (by omega) c1356 (by omega) (by rw [w1, hv]; exact powB (pow2 (by omega) (by omega)) (by omega)) (by rw [w2]; exact powB (pow2 (by omega) (by omega)) (by omega)) fun F3 L3 G3 hR3 x20 e20 => ?_)
      rw [w1, w2] at hR3
      refine ih (i + 1) each all F3 L3 G3 W2 mean' _ x20 (by omega) (by rw [e20]; exact i_suc h1 (by omega)) hal hR3 ((((hO.up _ (by simp)).up _ (by simp)).up _ (by simp)).up _ (by simp)) (by rw [up_same, hv, hsum']) fun u hu' => ?_
      by_cases e : u = i
      · rw [e]
        exact hv'
      · rw [hu u e, up_ne e]
        exact hme u (by omega)
  have start : ∀ s1 all1 : Int32, s1.toInt = (((if k = 0 then 1 else gn l f) : Nat) : Int) → all1.toInt = ((sumN cf (gn l f) : Nat) : Int) → ∀ each1, E_Mo_findMeans_52 vv mk ml mm mn mw each1 all1 fl ll gl wk gin counts mean s1 Q := by
    intro s1 all1 hs ha each1
    have hb : (if k = 0 then 1 else gn l f) ≤ 5 := by split <;> omega
    have hmul : sumN cf (gn l f) * (if k = 0 then 1 else gn l f) ≤ 600 * 5 := Nat.mul_le_mul (by omega) hb
    refine R_Mo_findMeans_52 fun x3 e3 => S_Mo_set hR c1356 (by omega) (show (0 : Int64).toInt = 0 by decide) (by omega) fun F1 L1 G1 hR1 => outer (gw k l f) 0 s1 x3 F1 L1 G1 wk mean _ 0 (by omega) i_0 ?_ hR1 ((Off.refl _ V).up _ (by simp)) (by rw [up_same]; rfl) fun u hu => by omega
    rw [e3, i_mulN ha hs (by omega), al_each hr]
  have tot : ∀ (w x : Nat) (all : Int32) (v1 : Int32), x + w = gn l f → v1.toInt = (x : Int) → all.toInt = ((sumN cf x : Nat) : Int) → E_Mo_findMeans_7 vv mk ml mm mn mw each all fl ll gl wk gin counts mean v1 Q := by
    intro w
    induction w with
    | zero =>
      intro x all v1 hx h1 ha
      have : x = gn l f := by omega
      rw [this] at ha
      refine R_Mo_findMeans_7 ⟨fun _ => R_Mo_findMeans_36 ⟨fun e => R_Mo_findMeans_48 (start mn all ?_ ha _), fun e => start 1 all ?_ ha _⟩, fun z => absurd (by rw [i_le, hn, h1]; omega) z⟩
      · rw [if_neg (fun q => e ((i_lit0 hk).mpr q)), hn]
      · rw [if_pos ((i_lit0 hk).mp e)]
        exact i_1
    | succ w ih =>
      intro x all v1 hx h1 ha
      have hs := cf_sum hcf x
      have := hcf x
      refine R_Mo_findMeans_7 ⟨fun z => absurd z (by rw [i_le, hn, h1]; omega), fun _ => ⟨i_in h1 (by omega), fun x1 e1 x2 e2 => ih (x + 1) x1 x2 (by omega) (by rw [e2]; exact i_suc h1 (by omega)) ?_⟩⟩
      rw [i_nat h1] at e1
      rw [e1]
      exact i_addN ha (hC x (by omega)) (by omega)
  exact T_Mo_findMeans (R_Mo_findMeans_0 (tot (gn l f) 0 0 0 (by omega) i_0 rfl))
end REPM
