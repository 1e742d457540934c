/-! AN ANSWER: pure, and the class's weights -/
theorem sumZ_bd {g : Nat → Int} {B : Int} : ∀ {n : Nat}, (∀ i, i < n → -B ≤ g i ∧ g i ≤ B) → -((n : Int) * B) ≤ sumZ g n ∧ sumZ g n ≤ (n : Int) * B
  | 0, _ => by
    simp [sumZ]
  | n + 1, h => by
    have h1 := sumZ_bd (n := n) (fun i hi => h i (by omega))
    have h2 := h n (by omega)
    have e : ((n + 1 : Nat) : Int) * B = (n : Int) * B + B := by
      rw [Int.natCast_add, Int.add_mul]
      omega
    rw [e]
    simp only [sumZ]
    omega
section REPP
/-- the share: what it may fall by, over what it falls by -/
def stI (er py : Nat → Int) (z va e : Int) : Nat → Int × Int
  | 0 => (1000, 1)
  | j + 1 => if 0 < er j - py j * z ∧ (1000 * (er j - va) + e * z) * (stI er py z va e j).2 < (stI er py z va e j).1 * (er j - py j * z) then (1000 * (er j - va) + e * z, er j - py j * z) else stI er py z va e j
theorem stI_bd {er py : Nat → Int} {z va e : Int} (hz : 0 < z) (he : 0 ≤ e ∧ e ≤ 9000) (hva : -(8 * z) ≤ va) : ∀ {n : Nat}, (∀ j, j < n → va ≤ er j ∧ er j ≤ 8 * z ∧ -8 ≤ py j ∧ py j ≤ 8) → 0 ≤ (stI er py z va e n).1 ∧ (stI er py z va e n).1 ≤ 25000 * z ∧ 0 < (stI er py z va e n).2 ∧ (stI er py z va e n).2 ≤ 16 * z
  | 0, _ => by
    simp only [stI]
    omega
  | n + 1, h => by
    have h1 := stI_bd (n := n) hz he hva (fun j hj => h j (by omega))
    obtain ⟨a1, a2, a3, a4⟩ := h n (by omega)
    simp only [stI]
    split
    · rename_i q
      have e1 : 0 ≤ e * z := Int.mul_nonneg he.1 (by omega)
      have e2 : e * z ≤ 9000 * z := Int.mul_le_mul_of_nonneg_right he.2 (by omega)
      have e3 : -8 * z ≤ py n * z := Int.mul_le_mul_of_nonneg_right a3 (by omega)
      refine ⟨by simp only []; omega, by simp only []; omega, q.1, by simp only []; omega⟩
    · exact h1
/-- THE WAY of AN ANSWER, and the share -/
def bsI (ga : Nat → Int) (st : Nat → Int × Int) : Nat → Option (Nat × Int × Int)
  | 0 => none
  | i + 1 => match bsI ga st i with
    | none => if 0 < ga i then some (i, st i) else none
    | some (b, t, lw) => if 0 < ga i ∧ t * (st i).2 * ga b < (st i).1 * lw * ga i then some (i, st i) else some (b, t, lw)
theorem bsI_in {ga : Nat → Int} {st : Nat → Int × Int} : ∀ {n b : Nat} {t lw : Int}, bsI ga st n = some (b, t, lw) → b < n ∧ 0 < ga b ∧ (t, lw) = st b
  | 0, b, t, lw, h => by simp [bsI] at h
  | n + 1, b, t, lw, h => by
    simp only [bsI] at h
    split at h
    · split at h
      · rename_i q
        injection h with h
        injection h with h1 h2
        subst h1
        exact ⟨by omega, q, h2.symm⟩
      · exact absurd h (by simp)
    · rename_i b' t' lw' e
      have ih := bsI_in e
      split at h
      · rename_i q
        injection h with h
        injection h with h1 h2
        subst h1
        exact ⟨by omega, q.1, h2.symm⟩
      · injection h with h
        injection h with h1 h2
        injection h2 with h2 h3
        subst h1
        subst h2
        subst h3
        exact ⟨by omega, ih.2⟩
variable {vv vv' : Nat → Value} {k l f m : Nat} {rk rl rf rm rtc rwc : Int32} {rth rca : Nat → Int32} {vvr : Nat → Value} {T : Nat → Nat → Int} {d : Int} {ins : Nat → Nat} {n : Nat}
def wgR (k l f : Nat) (cf : Nat → Nat) (j : Nat) : Int := (cf (thr k l f j - l) : Int)
def alR (k l f : Nat) (cf : Nat → Nat) : Int := sumZ (wgR k l f cf) (gw k l f)
def meR (k l f m : Nat) (cf : Nat → Nat) (i : Nat) : Int := sumZ (fun j => wgR k l f cf j * payI k l f m i j) (gw k l f)
def mmR (k l f m : Nat) (T : Nat → Nat → Int) (ins : Nat → Nat) (cf : Nat → Nat) : Int := sumZ (fun i => shr T ins (gw k l f) 0 i * meR k l f m cf i) (gw k l f)
def gaR (k l f m : Nat) (T : Nat → Nat → Int) (ins : Nat → Nat) (cf : Nat → Nat) (i : Nat) : Int := meR k l f m cf i * T (gw k l f) (2 * gw k l f) - mmR k l f m T ins cf
def stR (k l f m : Nat) (T : Nat → Nat → Int) (d : Int) (ins : Nat → Nat) (e : Int) (i : Nat) : Int × Int := stI (erng k l f m T ins 0) (payI k l f m i) (T (gw k l f) (2 * gw k l f)) (vaZ k l f T d) e (gw k l f)
theorem wg_bd {k l f : Nat} {cf : Nat → Nat} (hc : ∀ x, cf x ≤ 120) (j : Nat) : 0 ≤ wgR k l f cf j ∧ wgR k l f cf j ≤ 120 := by
  unfold wgR
  have := hc (thr k l f j - l)
  omega
theorem mulR_bd {a b A B : Int} (ha : -A ≤ a ∧ a ≤ A) (hb : -B ≤ b ∧ b ≤ B) (hB : 0 ≤ B) : -(A * B) ≤ a * b ∧ a * b ≤ A * B := by
  have h1 : (a * b).natAbs = a.natAbs * b.natAbs := Int.natAbs_mul a b
  have h2 : a.natAbs * b.natAbs ≤ A.toNat * B.toNat := Nat.mul_le_mul (by omega) (by omega)
  have h3 : ((A.toNat * B.toNat : Nat) : Int) = A * B := by
    rw [Int.natCast_mul, Int.toNat_of_nonneg (by omega), Int.toNat_of_nonneg hB]
  omega
theorem me_bd {cf : Nat → Nat} (hr : RuleOK k l f m) (hc : ∀ x, cf x ≤ 120) {i : Nat} (hi : i < gw k l f) {w : Nat} (hw : w ≤ gw k l f) : -24000 ≤ sumZ (fun j => wgR k l f cf j * payI k l f m i j) w ∧ sumZ (fun j => wgR k l f cf j * payI k l f m i j) w ≤ 24000 := by
  have hg := gw_le hr
  have := sumZ_bd (g := fun j => wgR k l f cf j * payI k l f m i j) (B := 960) (n := w) fun j hj => by
    have h1 := wg_bd (k := k) (l := l) (f := f) hc j
    have h2 := pay_bd hr hi (show j < gw k l f by omega)
    have := mulR_bd (A := 120) (B := 8) ⟨by omega, h1.2⟩ h2 (by omega)
    omega
  omega
theorem mm_bd {cf : Nat → Nat} (hr : RuleOK k l f m) (hG : GameOf k l f m T d ins n) (hc : ∀ x, cf x ≤ 120) {w : Nat} (hw : w ≤ gw k l f) : -40265318400000 ≤ sumZ (fun i => shr T ins (gw k l f) 0 i * meR k l f m cf i) w ∧ sumZ (fun i => shr T ins (gw k l f) 0 i * meR k l f m cf i) w ≤ 40265318400000 := by
  have hg := gw_le hr
  have hb := hG.bd.1
  have := sumZ_bd (g := fun i => shr T ins (gw k l f) 0 i * meR k l f m cf i) (B := 1610612736000) (n := w) fun i hi => by
    have h1 := hb (gw k l f) (gw k l f + i) (by omega) (by omega)
    have h2 : -24000 ≤ meR k l f m cf i ∧ meR k l f m cf i ≤ 24000 := me_bd hr hc (show i < gw k l f by omega) (Nat.le_refl (gw k l f))
    have e : shr T ins (gw k l f) 0 i = T (gw k l f) (gw k l f + i) := if_pos rfl
    rw [e]
    have h5 : -67108864 ≤ T (gw k l f) (gw k l f + i) ∧ T (gw k l f) (gw k l f + i) ≤ 67108864 := ⟨by omega, by omega⟩
    have := mulR_bd h5 h2 (by omega)
    exact ⟨by omega, by omega⟩
  omega
theorem ga_bd {cf : Nat → Nat} (hr : RuleOK k l f m) (hG : GameOf k l f m T d ins n) (hc : ∀ x, cf x ≤ 120) {i : Nat} (hi : i < gw k l f) : -40331318400000 ≤ gaR k l f m T ins cf i ∧ gaR k l f m T ins cf i ≤ 40331318400000 := by
  have h1 : -40265318400000 ≤ mmR k l f m T ins cf ∧ mmR k l f m T ins cf ≤ 40265318400000 := mm_bd hr hG hc (Nat.le_refl (gw k l f))
  have h2 : -24000 ≤ meR k l f m cf i ∧ meR k l f m cf i ≤ 24000 := me_bd hr hc hi (Nat.le_refl (gw k l f))
  have hz := hG.fct hr
  have h3 := hz.1
  have h4 := hz.2.1
  unfold gaR
  have := mulR_bd (A := 24000) (B := 2097151) h2 ⟨by omega, h4⟩ (by omega)
  omega
theorem al_pos {cf : Nat → Nat} {i : Nat} (h : 0 < gaR k l f m T ins cf i) : 0 < alR k l f cf := by
  have s0 : ∀ (g : Nat → Int), (∀ i, 0 ≤ g i) → ∀ w, 0 ≤ sumZ g w := by
    intro g hg w
    induction w with
    | zero => exact Int.le_refl 0
    | succ w ih =>
      simp only [sumZ]
      have := hg w
      omega
  have sz : ∀ (g : Nat → Int), (∀ i, 0 ≤ g i) → ∀ w, sumZ g w = 0 → ∀ j, j < w → g j = 0 := by
    intro g hg w
    induction w with
    | zero => intro _ j hj; omega
    | succ w ih =>
      intro e j hj
      simp only [sumZ] at e
      have h1 := s0 g hg w
      have h2 := hg w
      by_cases q : j = w
      · rw [q]; omega
      · exact ih (by omega) j (by omega)
  have zz : ∀ (g : Nat → Int) w, (∀ j, j < w → g j = 0) → sumZ g w = 0 := by
    intro g w
    induction w with
    | zero => intro _; rfl
    | succ w ih =>
      intro hg
      simp only [sumZ]
      rw [ih (fun j hj => hg j (by omega)), hg w (by omega)]
      rfl
  have hw0 : ∀ j, 0 ≤ wgR k l f cf j := fun j => by unfold wgR; omega
  have h1 := s0 (wgR k l f cf) hw0 (gw k l f)
  refine Classical.byContradiction fun q => ?_
  have e0 : sumZ (wgR k l f cf) (gw k l f) = 0 := by
    unfold alR at q
    omega
  have hz := sz _ hw0 _ e0
  have hme : ∀ i, meR k l f m cf i = 0 := fun i => zz _ _ fun j hj => by
    show wgR k l f cf j * payI k l f m i j = 0
    rw [hz j hj, Int.zero_mul]
  have hmm : mmR k l f m T ins cf = 0 := zz _ _ fun j hj => by
    show shr T ins (gw k l f) 0 j * meR k l f m cf j = 0
    rw [hme j, Int.mul_zero]
  unfold gaR at h
  rw [hme i, hmm] at h
  omega
end REPP
