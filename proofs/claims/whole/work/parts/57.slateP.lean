/-! SLATE: the pure model -/
def sat (a : Nat) : Nat := if a ≤ 1000000000000000000 then a else 1000000000000000000
theorem sat_add (a b : Nat) : sat (sat a + sat b) = sat (a + b) := by
  unfold sat
  split <;> split <;> split <;> (try split) <;> omega
theorem sat_add' (a b : Nat) : sat (sat a + b) = sat (a + b) := by
  unfold sat
  split <;> split <;> (try split) <;> omega
theorem sat_le (a : Nat) : sat a ≤ 1000000000000000000 := by
  unfold sat
  split <;> omega
theorem sat_0 (a : Nat) : sat a = 0 ↔ a = 0 := by
  unfold sat
  split <;> omega
theorem sat_pos (a : Nat) : 0 < sat a ↔ 0 < a := by
  unfold sat
  split <;> omega
theorem sat_z : sat 0 = 0 := rfl
theorem sumN_ad2 {g h : Nat → Nat} : ∀ n, sumN (fun s => g s + h s) n = sumN g n + sumN h n
  | 0 => rfl
  | n + 1 => by
    simp only [sumN]
    rw [sumN_ad2 n]
    omega
theorem sumN_ze2 {g : Nat → Nat} : ∀ {n : Nat}, (∀ s, s < n → g s = 0) → sumN g n = 0
  | 0, _ => rfl
  | n + 1, h => by
    simp only [sumN]
    rw [sumN_ze2 (fun s hs => h s (by omega)), h n (by omega)]
theorem sumN_one {g : Nat → Nat} {a : Nat} : ∀ {n : Nat}, a < n → (∀ s, s < n → s ≠ a → g s = 0) → sumN g n = g a
  | 0, h, _ => by omega
  | n + 1, h, hz => by
    simp only [sumN]
    by_cases e : a = n
    · subst e
      rw [sumN_ze2 (fun s hs => hz s (by omega) (by omega))]
      omega
    · rw [sumN_one (a := a) (by omega) (fun s hs hn => hz s (by omega) hn), hz n (by omega) (by omega)]
      rfl
theorem sumN_pos {g : Nat → Nat} : ∀ {n : Nat}, 0 < sumN g n ↔ ∃ s, s < n ∧ 0 < g s
  | 0 => by simp [sumN]
  | n + 1 => by
    simp only [sumN]
    constructor
    · intro h
      by_cases e : 0 < g n
      · exact ⟨n, by omega, e⟩
      · obtain ⟨s, h1, h2⟩ := sumN_pos.mp (show 0 < sumN g n by omega)
        exact ⟨s, by omega, h2⟩
    · rintro ⟨s, h1, h2⟩
      by_cases e : s = n
      · subst e
        omega
      · have := sumN_pos.mpr ⟨s, (by omega : s < n), h2⟩
        omega
def SlC : Type := Nat × Nat × Nat × Nat × (Nat → Int) × (Nat → Bool)
def SlC.k (c : SlC) : Nat := c.1
def SlC.lo (c : SlC) : Nat := c.2.1
def SlC.hi (c : SlC) : Nat := c.2.2.1
def SlC.G (c : SlC) : Nat := c.2.2.2.1
def SlC.mk (c : SlC) : Nat → Int := c.2.2.2.2.1
def SlC.dp (c : SlC) : Nat → Bool := c.2.2.2.2.2
def SlC.ok (c : SlC) : Prop := c.k ≤ 2 ∧ c.lo ≤ c.hi ∧ c.hi ≤ 5 ∧ (c.k = 2 → c.hi ≤ 4) ∧ 1 ≤ c.G ∧ c.G ≤ 21
abbrev ltB (c : SlC) (s : Nat) : Prop := if c.k = 2 then s = 0 ∨ (2 * c.lo ≤ s ∧ s ≤ 2 * c.hi) else s = 1 ∨ (s = 0 ∧ c.k = 1)
abbrev ftB (c : SlC) (i p v : Nat) : Prop := c.mk (2 * i + p) < 0 ∨ c.mk (2 * i + p) = (v : Int) ∨ (c.dp (2 * i + p) = true ∧ c.mk (2 * i + p) + 1 = (v : Int))
theorem ltB_le {c : SlC} (hc : c.ok) {s : Nat} (h : ltB c s) : s ≤ 8 := by
  unfold ltB at h
  obtain ⟨h1, h2, h3, h4, h5, h6⟩ := hc
  split at h
  · rename_i e
    have := h4 e
    omega
  · omega
/-- one ROUND leads from x, y to x', y' -/
abbrev goB (c : SlC) (a b x y : Nat) : Prop := a < c.G ∧ b < c.G ∧ ((a ≤ x ∧ y = b ∧ ltB c (x - a)) ∨ (a = x ∧ b < y ∧ ltB c (y - b)))
theorem goB_le {c : SlC} (hc : c.ok) {a b x y : Nat} (h : goB c a b x y) : x ≤ 28 ∧ y ≤ 28 := by
  obtain ⟨h1, h2, h3⟩ := h
  have := hc.2.2.2.2.2
  rcases h3 with ⟨e1, e2, e3⟩ | ⟨e1, e2, e3⟩
  · have := ltB_le hc e3
    omega
  · have := ltB_le hc e3
    omega
def fxS (c : SlC) (f : Nat → Nat → Nat) (x y s : Nat) : Nat := if s ≤ x ∧ x - s < c.G ∧ y < c.G ∧ ltB c s then f (x - s) y else 0
def fyS (c : SlC) (f : Nat → Nat → Nat) (x y s : Nat) : Nat := if 0 < s ∧ s ≤ y ∧ x < c.G ∧ y - s < c.G ∧ ltB c s then f x (y - s) else 0
def inS (c : SlC) (f : Nat → Nat → Nat) (x y : Nat) : Nat := sumN (fun s => fxS c f x y s + fyS c f x y s) 9
theorem inS_congr {c : SlC} {f g : Nat → Nat → Nat} {x y : Nat} (h : ∀ a b, a < c.G → b < c.G → f a b = g a b) : inS c f x y = inS c g x y := by
  unfold inS
  refine sumN_congr fun s _ => ?_
  unfold fxS fyS
  congr 1
  · split
    · rename_i e
      exact h _ _ e.2.1 e.2.2.1
    · rfl
  · split
    · rename_i e
      exact h _ _ e.2.2.1 e.2.2.2.1
    · rfl
theorem inS_add {c : SlC} {f g : Nat → Nat → Nat} {x y : Nat} : inS c (fun a b => f a b + g a b) x y = inS c f x y + inS c g x y := by
  unfold inS
  rw [← sumN_ad2]
  refine sumN_congr fun s _ => ?_
  unfold fxS fyS
  dsimp only
  split <;> split <;> omega
theorem inS_one {c : SlC} (hc : c.ok) {a b v x y : Nat} : inS c (fun p q => if p = a ∧ q = b then v else 0) x y = if goB c a b x y then v else 0 := by
  have hG : a < c.G ∧ b < c.G ∨ ¬ (a < c.G ∧ b < c.G) := Classical.em _
  unfold inS
  by_cases h : goB c a b x y
  · rw [if_pos h]
    obtain ⟨h1, h2, h3⟩ := h
    rcases h3 with ⟨e1, e2, e3⟩ | ⟨e1, e2, e3⟩
    · subst e2
      have := ltB_le hc e3
      rw [sumN_one (a := x - a) (by omega)]
      · unfold fxS fyS
        dsimp only
        rw [if_pos ⟨by omega, by omega, h2, e3⟩, if_pos ⟨by omega, rfl⟩]
        split
        · rw [if_neg (by omega)]
          rfl
        · rfl
      · intro s hs hn
        unfold fxS fyS
        dsimp only
        have t1 : (if x - s = a ∧ y = y then v else 0) = 0 ∨ ¬ s ≤ x := by
          by_cases q : s ≤ x
          · exact Or.inl (if_neg (by omega))
          · exact Or.inr q
        split
        · rename_i q
          rw [if_neg (by omega)]
          split
          · rw [if_neg (by omega)]
          · rfl
        · split
          · rw [if_neg (by omega)]
          · rfl
    · subst e1
      have := ltB_le hc e3
      rw [sumN_one (a := y - b) (by omega)]
      · unfold fxS fyS
        dsimp only
        rw [if_pos (c := 0 < y - b ∧ _) ⟨by omega, by omega, h1, by omega, e3⟩, if_pos (c := a = a ∧ _) ⟨rfl, by omega⟩]
        split
        · rw [if_neg (by omega)]
          omega
        · omega
      · intro s hs hn
        unfold fxS fyS
        dsimp only
        split
        · rw [if_neg (by omega)]
          split
          · rw [if_neg (by omega)]
          · rfl
        · split
          · rw [if_neg (by omega)]
          · rfl
  · rw [if_neg h]
    refine sumN_ze2 fun s hs => ?_
    unfold fxS fyS
    dsimp only
    have t1 : (if s ≤ x ∧ x - s < c.G ∧ y < c.G ∧ ltB c s then (if x - s = a ∧ y = b then v else 0) else 0) = 0 := by
      split
      · rename_i q
        refine if_neg fun z => h ⟨by omega, by omega, Or.inl ⟨by omega, z.2, ?_⟩⟩
        rw [show x - a = s by omega]
        exact q.2.2.2
      · rfl
    have t2 : (if 0 < s ∧ s ≤ y ∧ x < c.G ∧ y - s < c.G ∧ ltB c s then (if x = a ∧ y - s = b then v else 0) else 0) = 0 := by
      split
      · rename_i q
        refine if_neg fun z => h ⟨by omega, by omega, Or.inr ⟨by omega, by omega, ?_⟩⟩
        rw [show y - b = s by omega]
        exact q.2.2.2.2
      · rfl
    rw [t1, t2]
theorem inS_pos {c : SlC} (hc : c.ok) {f : Nat → Nat → Nat} {x y : Nat} : 0 < inS c f x y ↔ ∃ a b, goB c a b x y ∧ 0 < f a b := by
  unfold inS
  rw [sumN_pos]
  constructor
  · rintro ⟨s, h1, h2⟩
    have : 0 < fxS c f x y s ∨ 0 < fyS c f x y s := by omega
    rcases this with h | h
    · unfold fxS at h
      split at h
      · rename_i q
        refine ⟨x - s, y, ⟨q.2.1, q.2.2.1, Or.inl ⟨by omega, rfl, ?_⟩⟩, h⟩
        rw [show x - (x - s) = s by omega]
        exact q.2.2.2
      · omega
    · unfold fyS at h
      split at h
      · rename_i q
        refine ⟨x, y - s, ⟨q.2.2.1, q.2.2.2.1, Or.inr ⟨rfl, by omega, ?_⟩⟩, h⟩
        rw [show y - (y - s) = s by omega]
        exact q.2.2.2.2
      · omega
  · rintro ⟨a, b, ⟨h1, h2, h3⟩, h4⟩
    rcases h3 with ⟨e1, e2, e3⟩ | ⟨e1, e2, e3⟩
    · subst e2
      have := ltB_le hc e3
      refine ⟨x - a, by omega, ?_⟩
      have : 0 < fxS c f x y (x - a) := by
        unfold fxS
        rw [if_pos ⟨by omega, by omega, h2, e3⟩, show x - (x - a) = a by omega]
        exact h4
      omega
    · subst e1
      have := ltB_le hc e3
      refine ⟨y - b, by omega, ?_⟩
      have : 0 < fyS c f a y (y - b) := by
        unfold fyS
        rw [if_pos ⟨by omega, by omega, h1, by omega, e3⟩, show y - (y - b) = b by omega]
        exact h4
      omega
def nxS (c : SlC) (i : Nat) (f : Nat → Nat → Nat) (x y : Nat) : Nat := if ftB c i 0 x ∧ ftB c i 1 y then inS c f x y else 0
/-- in how many ways x, y may be the numbers behind ROUND i -/
def waS (c : SlC) : Nat → Nat → Nat → Nat
  | 0, x, y => if x = 0 ∧ y = 0 then 1 else 0
  | i + 1, x, y => nxS c i (waS c i) x y
theorem waS_out {c : SlC} (hc : c.ok) {i x y : Nat} (h : 29 ≤ x ∨ 29 ≤ y) : waS c i x y = 0 := by
  cases i with
  | zero => exact if_neg (by omega)
  | succ i =>
    show nxS c i (waS c i) x y = 0
    unfold nxS
    split
    · refine Nat.eq_zero_of_not_pos fun z => ?_
      obtain ⟨a, b, h1, _⟩ := (inS_pos hc).mp z
      have := goB_le hc h1
      omega
    · rfl
theorem waS_congr {c c' : SlC} (hk : c.k = c'.k) (hl : c.lo = c'.lo) (hh : c.hi = c'.hi) (hG : c.G = c'.G) : ∀ {i : Nat}, (∀ j, j < 2 * i → c.mk j = c'.mk j ∧ c.dp j = c'.dp j) → ∀ x y, waS c i x y = waS c' i x y
  | 0, _, x, y => rfl
  | i + 1, h, x, y => by
    have ih := waS_congr hk hl hh hG (i := i) (fun j hj => h j (by omega))
    show nxS c i (waS c i) x y = nxS c' i (waS c' i) x y
    have e : waS c i = waS c' i := by
      funext a b
      exact ih a b
    have f1 : ∀ v, ftB c i 0 v ↔ ftB c' i 0 v := fun v => by
      unfold ftB
      rw [(h (2 * i + 0) (by omega)).1, (h (2 * i + 0) (by omega)).2]
    have f2 : ∀ v, ftB c i 1 v ↔ ftB c' i 1 v := fun v => by
      unfold ftB
      rw [(h (2 * i + 1) (by omega)).1, (h (2 * i + 1) (by omega)).2]
    have l1 : ∀ s, ltB c s ↔ ltB c' s := fun s => by
      unfold ltB
      rw [hk, hl, hh]
    unfold nxS inS fxS fyS
    simp only [e, f1, f2, l1, hG]
/-- what may be behind ROUND i and be followed by what may be behind the last -/
def liS (c : SlC) (n : Nat) : Nat → Nat → Nat → Prop
  | 0, x, y => 0 < waS c n x y
  | d + 1, x, y => 0 < waS c (n - (d + 1)) x y ∧ ∃ a b, goB c x y a b ∧ liS c n d a b
def noS (c : SlC) (i : Nat) : Prop := ∀ x y, waS c i x y = 0
theorem noS_suc {c : SlC} (hc : c.ok) {i : Nat} (h : noS c i) : noS c (i + 1) := by
  intro x y
  show nxS c i (waS c i) x y = 0
  unfold nxS
  split
  · refine Nat.eq_zero_of_not_pos fun z => ?_
    obtain ⟨a, b, _, h2⟩ := (inS_pos hc).mp z
    rw [h a b] at h2
    omega
  · rfl
theorem noS_le {c : SlC} (hc : c.ok) {i j : Nat} (h : noS c i) (hij : i ≤ j) : noS c j := by
  induction j with
  | zero =>
    have : i = 0 := by omega
    rw [← this]
    exact h
  | succ j ih =>
    by_cases e : i = j + 1
    · rw [← e]
      exact h
    · exact noS_suc hc (ih (by omega))
theorem liS_wa {c : SlC} {n d x y : Nat} (h : liS c n d x y) : 0 < waS c (n - d) x y := by
  cases d with
  | zero => exact h
  | succ d => exact h.1
theorem liS_no {c : SlC} (hc : c.ok) {n : Nat} (h : noS c n) : ∀ {d : Nat} {x y : Nat}, ¬ liS c n d x y
  | 0, x, y => fun z => by
    have : 0 < waS c n x y := z
    rw [h x y] at this
    omega
  | d + 1, x, y => fun z => by
    obtain ⟨_, a, b, _, h2⟩ := z
    exact liS_no hc h h2
theorem liS_le {c : SlC} (hc : c.ok) {n d x y : Nat} (h : liS c n d x y) : x ≤ 28 ∧ y ≤ 28 := by
  have h1 := liS_wa h
  constructor
  · refine Classical.byContradiction fun z => ?_
    rw [waS_out hc (by omega)] at h1
    omega
  · refine Classical.byContradiction fun z => ?_
    rw [waS_out hc (by omega)] at h1
    omega
/-- the least, or the most, of what P lets, else -1 -/
def LeM (P : Nat → Prop) (most : Prop) (r : Int) : Prop := (r = -1 ∧ ∀ v, ¬ P v) ∨ ∃ v : Nat, r = (v : Int) ∧ P v ∧ ∀ u, P u → (most → u ≤ v) ∧ (¬ most → v ≤ u)
theorem LeM_uniq {P : Nat → Prop} {most : Prop} {r r' : Int} (h : LeM P most r) (h' : LeM P most r') : r = r' := by
  rcases h with ⟨e, h⟩ | ⟨v, e, hv, h⟩
  · rcases h' with ⟨e', h'⟩ | ⟨v', e', hv', h'⟩
    · rw [e, e']
    · exact absurd hv' (h v')
  · rcases h' with ⟨e', h'⟩ | ⟨v', e', hv', h'⟩
    · exact absurd hv (h' v)
    · have h1 := h v' hv'
      have h2 := h' v hv
      by_cases q : most
      · have := h1.1 q
        have := h2.1 q
        omega
      · have := h1.2 q
        have := h2.2 q
        omega
/-- the first ROUND up to which there are no FILLS, else -1 -/
def WrS (c : SlC) (n : Nat) (r : Int) : Prop := (r = -1 ∧ ∀ i, i < n → ¬ noS c (i + 1)) ∨ ∃ i : Nat, r = (i : Int) ∧ i < n ∧ noS c (i + 1) ∧ ∀ j, j < i → ¬ noS c (j + 1)
theorem WrS_uniq {c : SlC} {n : Nat} {r r' : Int} (h : WrS c n r) (h' : WrS c n r') : r = r' := by
  rcases h with ⟨e, h⟩ | ⟨v, e, hv, hn, h⟩
  · rcases h' with ⟨e', h'⟩ | ⟨v', e', hv', hn', h'⟩
    · rw [e, e']
    · exact absurd hn' (h v' hv')
  · rcases h' with ⟨e', h'⟩ | ⟨v', e', hv', hn', h'⟩
    · exact absurd hn (h' v hv)
    · have : v = v' := by
        rcases Nat.lt_trichotomy v v' with q | q | q
        · exact absurd hn (h' v q)
        · exact q
        · exact absurd hn' (h v' q)
      rw [e, e', this]
/-- all FILLS -/
def alS (c : SlC) (n : Nat) : Nat := sat (sumN (fun x => sumN (fun y => waS c n x y) 29) 29)
