/-! MEN: what is counted -/
def seqP (n : Nat) (t : Nat → Nat) : Nat → Nat
  | 0 => 0
  | i + 1 => seqP n t i * n + t i
/-- the CONTEXT of k ahead of place i -/
def cxt (n : Nat) (t : Nat → Nat) (k i : Nat) : Nat := seqP n t i % n ^ k
theorem cxt_lt {n : Nat} (hn : 0 < n) (t : Nat → Nat) (k i : Nat) : cxt n t k i < n ^ k := Nat.mod_lt _ (Nat.pow_pos hn)
theorem cxt_succ (n : Nat) (t : Nat → Nat) (k i : Nat) : cxt n t k (i + 1) = (cxt n t k i * n + t i) % n ^ k := by
  unfold cxt
  show (seqP n t i * n + t i) % n ^ k = _
  have h : seqP n t i % n ^ k * n % n ^ k = seqP n t i * n % n ^ k := by rw [Nat.mul_mod, Nat.mod_mod, ← Nat.mul_mod]
  rw [Nat.add_mod (seqP n t i * n), ← h, ← Nat.add_mod]
/-- digits from s on -/
def cxF (n : Nat) (t : Nat → Nat) (s : Nat) : Nat → Nat
  | 0 => 0
  | j + 1 => n * cxF n t s j + t (s + j)
theorem cxF_lt {n : Nat} {t : Nat → Nat} {s : Nat} : ∀ {j : Nat}, (∀ i, s ≤ i → i < s + j → t i < n) → cxF n t s j < n ^ j
  | 0, _ => by simp [cxF]
  | j + 1, h => by
    have ih := cxF_lt (j := j) (fun i h1 h2 => h i h1 (by omega))
    have h1 := h (s + j) (by omega) (by omega)
    have e : n ^ (j + 1) = n * n ^ j := by rw [Nat.pow_succ, Nat.mul_comm]
    have h2 : n * (cxF n t s j + 1) ≤ n * n ^ j := Nat.mul_le_mul_left n ih
    rw [Nat.mul_add, Nat.mul_one] at h2
    simp only [cxF]
    omega
theorem seqP_cxF (n : Nat) (t : Nat → Nat) (s : Nat) : ∀ j, seqP n t (s + j) = seqP n t s * n ^ j + cxF n t s j
  | 0 => by simp [cxF]
  | j + 1 => by
    show seqP n t (s + j) * n + t (s + j) = _
    rw [seqP_cxF n t s j, Nat.add_mul, Nat.pow_succ, Nat.add_assoc]
    simp only [cxF]
    rw [Nat.mul_assoc, Nat.mul_comm n (cxF n t s j)]
theorem cxF_cxt {n : Nat} {t : Nat → Nat} {k i : Nat} (hk : k ≤ i) (h : ∀ j, j < i → t j < n) : cxF n t (i - k) k = cxt n t k i := by
  have h1 := seqP_cxF n t (i - k) k
  rw [show i - k + k = i by omega] at h1
  unfold cxt
  rw [h1, Nat.mul_comm, Nat.mul_add_mod]
  exact (Nat.mod_eq_of_lt (cxF_lt fun j _ h2 => h j (by omega))).symm
/-- how often a CONTEXT COMES -/
def plc (n : Nat) (t : Nat → Nat) (k c : Nat) : Nat → Nat
  | 0 => 0
  | i + 1 => plc n t k c i + if k ≤ i ∧ cxt n t k i = c then 1 else 0
/-- COUNT -/
def cnt (n : Nat) (t : Nat → Nat) (k c x : Nat) : Nat → Nat
  | 0 => 0
  | i + 1 => cnt n t k c x i + if k ≤ i ∧ cxt n t k i = c ∧ t i = x then 1 else 0
def sumN (g : Nat → Nat) : Nat → Nat
  | 0 => 0
  | n + 1 => sumN g n + g n
theorem sumN_congr {g g' : Nat → Nat} : ∀ {n : Nat}, (∀ i, i < n → g i = g' i) → sumN g n = sumN g' n
  | 0, _ => rfl
  | n + 1, h => by
    simp only [sumN]
    rw [sumN_congr (fun i hi => h i (by omega)), h n (by omega)]
theorem sumN_bump {g g' : Nat → Nat} {a : Nat} : ∀ {n : Nat}, a < n → (∀ i, i < n → g' i = g i + if i = a then 1 else 0) → sumN g' n = sumN g n + 1
  | 0, h, _ => by omega
  | n + 1, h, hg => by
    simp only [sumN]
    rw [hg n (by omega)]
    by_cases e : n = a
    · subst e
      rw [if_pos rfl, sumN_congr (g := g') (g' := g) (fun i hi => by rw [hg i (by omega), if_neg (by omega)]; rfl)]
      omega
    · rw [if_neg e, sumN_bump (a := a) (by omega) (fun i hi => hg i (by omega))]
      omega
theorem cnt_sum {n : Nat} {t : Nat → Nat} {k c : Nat} : ∀ {i : Nat}, (∀ j, j < i → t j < n) → sumN (fun x => cnt n t k c x i) n = plc n t k c i
  | 0, _ => by
    simp only [plc]
    have : ∀ m, sumN (fun _ => 0) m = 0 := fun m => by
      induction m with
      | zero => rfl
      | succ m ih => simp only [sumN, ih]
    exact this n
  | i + 1, h => by
    have ih := cnt_sum (n := n) (t := t) (k := k) (c := c) (i := i) (fun j hj => h j (by omega))
    simp only [plc]
    by_cases e : k ≤ i ∧ cxt n t k i = c
    · rw [if_pos e, ← ih]
      refine sumN_bump (a := t i) (h i (by omega)) fun x hx => ?_
      simp only [cnt]
      by_cases e2 : x = t i
      · rw [if_pos ⟨e.1, e.2, e2.symm⟩, if_pos e2]
      · rw [if_neg (fun z => e2 z.2.2.symm), if_neg e2]
    · rw [if_neg e, ← ih, Nat.add_zero]
      refine sumN_congr fun x hx => ?_
      simp only [cnt]
      rw [if_neg (fun z => e ⟨z.1, z.2.1⟩), Nat.add_zero]
theorem plc_le (n : Nat) (t : Nat → Nat) (k c : Nat) : ∀ i, plc n t k c i ≤ i
  | 0 => Nat.le_refl _
  | i + 1 => by
    have := plc_le n t k c i
    simp only [plc]
    split <;> omega
theorem cnt_le_plc (n : Nat) (t : Nat → Nat) (k c x : Nat) : ∀ i, cnt n t k c x i ≤ plc n t k c i
  | 0 => Nat.le_refl _
  | i + 1 => by
    have := cnt_le_plc n t k c x i
    simp only [plc, cnt]
    by_cases e : k ≤ i ∧ cxt n t k i = c ∧ t i = x
    · rw [if_pos e, if_pos ⟨e.1, e.2.1⟩]; omega
    · rw [if_neg e]; omega
def cntB (p : Nat → Bool) : Nat → Nat
  | 0 => 0
  | n + 1 => cntB p n + if p n = true then 1 else 0
theorem cntB_le (p : Nat → Bool) : ∀ n, cntB p n ≤ n
  | 0 => Nat.le_refl _
  | n + 1 => by
    have := cntB_le p n
    simp only [cntB]
    split <;> omega
theorem cntB_congr {p q : Nat → Bool} : ∀ {n : Nat}, (∀ i, i < n → p i = q i) → cntB p n = cntB q n
  | 0, _ => rfl
  | n + 1, h => by
    simp only [cntB]
    rw [cntB_congr (fun i hi => h i (by omega)), h n (by omega)]
theorem cntB_bump {p q : Nat → Bool} {a : Nat} : ∀ {n : Nat}, a < n → p a = false → q a = true → (∀ i, i < n → i ≠ a → q i = p i) → cntB q n = cntB p n + 1
  | 0, h, _, _, _ => by omega
  | n + 1, h, h1, h2, hg => by
    simp only [cntB]
    by_cases e : n = a
    · subst e
      rw [h1, h2, cntB_congr (p := q) (q := p) (fun i hi => hg i (by omega) (by omega))]
      simp
    · rw [hg n (by omega) e, cntB_bump (a := a) (by omega) h1 h2 (fun i hi hne => hg i (by omega) hne)]
      omega
theorem cntB_pos {p : Nat → Bool} {a : Nat} : ∀ {n : Nat}, a < n → p a = true → 0 < cntB p n
  | 0, h, _ => by omega
  | n + 1, h, h1 => by
    simp only [cntB]
    by_cases e : n = a
    · subst e
      rw [h1]
      simp
    · have := cntB_pos (p := p) (a := a) (n := n) (by omega) h1
      omega
/-- the CONTEXTS of k that COME -/
def triK (n : Nat) (t : Nat → Nat) (k len : Nat) : Nat := cntB (fun c => decide (0 < plc n t k c len)) (n ^ k)
theorem triK_succ {n : Nat} (hn : 0 < n) (t : Nat → Nat) (k len : Nat) : triK n t k (len + 1) = triK n t k len + if k ≤ len ∧ plc n t k (cxt n t k len) len = 0 then 1 else 0 := by
  have hs : ∀ c, plc n t k c (len + 1) = plc n t k c len + (if k ≤ len ∧ cxt n t k len = c then 1 else 0) := fun _ => rfl
  unfold triK
  by_cases e : k ≤ len ∧ plc n t k (cxt n t k len) len = 0
  · rw [if_pos e]
    refine cntB_bump (a := cxt n t k len) (cxt_lt hn t k len) (decide_eq_false (by omega)) (decide_eq_true (by rw [hs, if_pos ⟨e.1, rfl⟩]; omega)) (fun c hc hne => decide_eq_decide.mpr ?_)
    rw [hs, if_neg (fun z => hne z.2.symm), Nat.add_zero]
  · rw [if_neg e, Nat.add_zero]
    refine cntB_congr fun c hc => decide_eq_decide.mpr ?_
    rw [hs]
    by_cases e2 : k ≤ len ∧ cxt n t k len = c
    · rw [if_pos e2]
      have : 0 < plc n t k c len := by
        rw [← e2.2]
        rcases Nat.eq_zero_or_pos (plc n t k (cxt n t k len) len) with z | z
        · exact absurd ⟨e2.1, z⟩ e
        · exact z
      omega
    · rw [if_neg e2, Nat.add_zero]
/-- none before -/
theorem plc_zero {n : Nat} {t : Nat → Nat} {k c : Nat} : ∀ {i : Nat}, plc n t k c i = 0 ↔ ∀ j, k ≤ j → j < i → cxt n t k j ≠ c
  | 0 => ⟨fun _ j _ h => by omega, fun _ => rfl⟩
  | i + 1 => by
    have ih := plc_zero (n := n) (t := t) (k := k) (c := c) (i := i)
    simp only [plc]
    constructor
    · intro h j h1 h2 h3
      by_cases e : j = i
      · subst e
        rw [if_pos ⟨h1, h3⟩] at h
        omega
      · exact ih.mp (by omega) j h1 (by omega) h3
    · intro h
      rw [if_neg (fun z => h i z.1 (by omega) z.2), ih.mpr (fun j h1 h2 => h j h1 (by omega))]
/-- TRIED -/
def tri (n : Nat) (t : Nat → Nat) (len : Nat) : Nat := sumN (fun k => triK n t k len) 4 * n
theorem triK_le (n : Nat) (t : Nat → Nat) (k len : Nat) : triK n t k len ≤ n ^ k := cntB_le _ _
theorem tri_le {n : Nat} (hn : n ≤ 5) (t : Nat → Nat) (len : Nat) : tri n t len ≤ 780 := by
  unfold tri
  have h : ∀ k, k ≤ 3 → triK n t k len ≤ 5 ^ k := fun k _ => Nat.le_trans (triK_le n t k len) (Nat.pow_le_pow_left hn k)
  have h0 := h 0 (by omega)
  have h1 := h 1 (by omega)
  have h2 := h 2 (by omega)
  have h3 := h 3 (by omega)
  have hs : sumN (fun k => triK n t k len) 4 ≤ 156 := by
    simp only [sumN]
    omega
  exact Nat.mul_le_mul hs hn
theorem tri_ge {n : Nat} (t : Nat → Nat) {len k c : Nat} (hk : k ≤ 3) (hc : c < n ^ k) (h : 0 < plc n t k c len) : n ≤ tri n t len := by
  have h1 : 0 < triK n t k len := cntB_pos hc (decide_eq_true h)
  have h2 : 1 ≤ sumN (fun k => triK n t k len) 4 := by
    simp only [sumN]
    rcases (show k = 0 ∨ k = 1 ∨ k = 2 ∨ k = 3 by omega) with e | e | e | e <;> subst e <;> omega
  unfold tri
  exact Nat.le_mul_of_pos_left n h2
/-- TOLD: m places, c of them with the throw -/
def toldB (n m c times : Nat) : Bool := decide (0 < m) && decide (wgt 1 (n - 1) m c * times ≤ n ^ m)
theorem toldB_0 {n m times : Nat} (hn : 2 ≤ n) (ht : 2 ≤ times) : toldB n m 0 times = false := by
  unfold toldB
  rw [Bool.and_eq_false_iff]
  right
  rw [wgt_0, show 1 + (n - 1) = n by omega]
  apply decide_eq_false
  have : 0 < n ^ m := Nat.pow_pos (by omega)
  have : n ^ m * 2 ≤ n ^ m * times := Nat.mul_le_mul_left _ ht
  omega
/-- the next term of THE TAIL -/
def tmT (n m i : Nat) : Nat := ch m i * (n - 1) ^ i
theorem ch_next (m i : Nat) : (i + 1) * ch m (i + 1) = (m - i) * ch m i := by
  have h := ch_abs m i
  rw [ch_ss, Nat.mul_add] at h
  by_cases e : i ≤ m
  · have e2 : (m + 1) * ch m i = (i + 1) * ch m i + (m - i) * ch m i := by
      rw [← Nat.add_mul]
      congr 1
      omega
    omega
  · rw [ch_gt (n := m) (k := i + 1) (by omega), show m - i = 0 by omega]
    simp
theorem tmT_next (n m i : Nat) : tmT n m i * ((m - i) * (n - 1)) / (i + 1) = tmT n m (i + 1) := by
  unfold tmT
  apply Nat.div_eq_of_eq_mul_right (by omega)
  have h := ch_next m i
  calc ch m i * (n - 1) ^ i * ((m - i) * (n - 1)) = (m - i) * ch m i * ((n - 1) ^ i * (n - 1)) := by ac_rfl
    _ = (i + 1) * (ch m (i + 1) * (n - 1) ^ (i + 1)) := by
      rw [← h, Nat.pow_succ]
      ac_rfl
theorem tmT_jst {n m j : Nat} (hj : j ≤ m) : tmT n m (m - j) = jst 1 (n - 1) m j := by
  unfold tmT jst
  rw [ch_symm (n := m) (a := m - j) (b := j) (by omega), Nat.one_pow, Nat.mul_one]
theorem wgt_bd {n m a : Nat} (hn : 1 ≤ n) : wgt 1 (n - 1) m a ≤ n ^ m := by
  have := wgt_le 1 (n - 1) m a
  rwa [show 1 + (n - 1) = n by omega] at this
theorem tmT_le {n m j : Nat} (hn : 1 ≤ n) (hj : j ≤ m) : tmT n m (m - j) ≤ n ^ m := by
  rw [tmT_jst hj]
  have h1 := wgt_jst 1 (n - 1) m j
  have h2 := wgt_bd (n := n) (m := m) (a := j) hn
  omega
/-! what is TOLD, in order -/
def lx (n low k c : Nat) (P : Nat → Bool) : Nat → List Nat
  | 0 => []
  | x + 1 => lx n low k c P x ++ if P x = true then [10000 * k + 10 * c + low + x] else []
theorem lx_len (n low k c : Nat) (P : Nat → Bool) : ∀ x, (lx n low k c P x).length ≤ x
  | 0 => Nat.le_refl _
  | x + 1 => by
    have := lx_len n low k c P x
    simp only [lx, List.length_append]
    split <;> simp <;> omega
def lcc (n low k : Nat) (P : Nat → Nat → Bool) : Nat → List Nat
  | 0 => []
  | c + 1 => lcc n low k P c ++ lx n low k c (P c) n
theorem lcc_len (n low k : Nat) (P : Nat → Nat → Bool) : ∀ c, (lcc n low k P c).length ≤ c * n
  | 0 => by simp [lcc]
  | c + 1 => by
    have h1 := lcc_len n low k P c
    have h2 := lx_len n low k c (P c) n
    simp only [lcc, List.length_append]
    rw [Nat.succ_mul]
    omega
def lkk (n low : Nat) (P : Nat → Nat → Nat → Bool) : Nat → List Nat
  | 0 => []
  | k + 1 => lkk n low P k ++ lcc n low k (P k) (n ^ k)
theorem lkk_len (n low : Nat) (P : Nat → Nat → Nat → Bool) : ∀ k, (lkk n low P k).length ≤ sumN (fun k => n ^ k * n) k
  | 0 => Nat.le_refl _
  | k + 1 => by
    have h1 := lkk_len n low P k
    have h2 := lcc_len n low k (P k) (n ^ k)
    simp only [lkk, List.length_append, sumN]
    omega
/-- whether a throw is TOLD -/
def tldP (n : Nat) (t : Nat → Nat) (len odds : Nat) : Nat → Nat → Nat → Bool := fun k c x => toldB n (plc n t k c len) (cnt n t k c x len) (tri n t len * odds)
def tldL (n low : Nat) (t : Nat → Nat) (len odds : Nat) : List Nat := lkk n low (tldP n t len odds) 4
def anyB (p : Nat → Bool) : Nat → Bool
  | 0 => false
  | n + 1 => anyB p n || p n
/-- FORESEEN, below k -/
def frs (n : Nat) (t : Nat → Nat) (len odds : Nat) : Nat → Option Nat
  | 0 => none
  | k + 1 => if k ≤ len ∧ anyB (tldP n t len odds k (cxt n t k len)) n = true then some k else frs n t len odds k
theorem frs_le {n : Nat} {t : Nat → Nat} {len odds : Nat} : ∀ {k r : Nat}, frs n t len odds k = some r → r < k ∧ r ≤ len
  | 0, r, h => by simp [frs] at h
  | k + 1, r, h => by
    simp only [frs] at h
    split at h
    · rename_i e
      cases h
      exact ⟨by omega, e.1⟩
    · have := frs_le h
      omega
theorem frs_skip {n : Nat} {t : Nat → Nat} {len odds : Nat} : ∀ {k : Nat}, frs n t len odds k = frs n t len odds (min k (len + 1))
  | 0 => by rw [Nat.zero_min]
  | k + 1 => by
    by_cases e : k ≤ len
    · rw [show min (k + 1) (len + 1) = k + 1 by omega]
    · have ih := frs_skip (n := n) (t := t) (len := len) (odds := odds) (k := k)
      rw [show min k (len + 1) = min (k + 1) (len + 1) by omega] at ih
      rw [← ih]
      simp only [frs]
      rw [if_neg (fun z => e z.1)]
/-- ROWS of MEN -/
def MenR (l f : Nat) (rows lens : Nat → Int32) (tt : Nat → Nat → Nat) (len : Nat → Nat) : Prop := ∀ man, man < 4 → (lens man).toInt = (len man : Int) ∧ len man ≤ 120 ∧ ∀ i, i < len man → (rows (120 * man + i)).toInt = ((l + tt man i : Nat) : Int) ∧ tt man i < gn l f
theorem pow_n3 {n k : Nat} (hn : n ≤ 5) (hk : k ≤ 3) : n ^ k ≤ 125 := Nat.le_trans (Nat.pow_le_pow_left hn k) (Nat.pow_le_pow_right (by decide) hk)
