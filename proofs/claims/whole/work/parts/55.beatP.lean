/-! HEARD ROUNDS: what is counted; chances of choosing -/
def fac : Nat → Nat
  | 0 => 1
  | n + 1 => (n + 1) * fac n
theorem fac_pos : ∀ n, 0 < fac n
  | 0 => by decide
  | n + 1 => Nat.mul_pos (by omega) (fac_pos n)
theorem ch_fac : ∀ n a b, a + b = n → ch n a * (fac a * fac b) = fac n
  | 0, a, b, h => by
    have : a = 0 := by omega
    have : b = 0 := by omega
    subst a b
    rfl
  | n + 1, 0, b, h => by
    have : b = n + 1 := by omega
    subst this
    rw [ch_n0]
    simp [fac]
  | n + 1, a + 1, 0, h => by
    have : a = n := by omega
    subst this
    rw [ch_nn]
    simp [fac]
  | n + 1, a + 1, b + 1, h => by
    have h1 := ch_fac n a (b + 1) (by omega)
    have h2 := ch_fac n (a + 1) b (by omega)
    have e1 : ch n a * (fac (a + 1) * fac (b + 1)) = (a + 1) * fac n := by
      rw [← h1]
      simp only [fac]
      ac_rfl
    have e2 : ch n (a + 1) * (fac (a + 1) * fac (b + 1)) = (b + 1) * fac n := by
      rw [← h2]
      simp only [fac]
      ac_rfl
    rw [ch_ss, Nat.add_mul, e1, e2, ← Nat.add_mul]
    simp only [fac]
    congr 1
/-- the same chance, told from either side -/
theorem hyp_eq {N K W i : Nat} (hK : i ≤ K) (hW : i ≤ W) (hKN : K ≤ N) (hWN : W ≤ N) : ch W i * ch (N - W) (K - i) * ch N W = ch K i * ch (N - K) (W - i) * ch N K := by
  by_cases e : W + K ≤ N + i
  · obtain ⟨a, ha⟩ : ∃ a, W = i + a := ⟨W - i, by omega⟩
    obtain ⟨b, hb⟩ : ∃ b, K = i + b := ⟨K - i, by omega⟩
    obtain ⟨c, hc⟩ : ∃ c, N = i + a + b + c := ⟨N - (i + a + b), by omega⟩
    subst ha hb hc
    have l1 := ch_fac (i + a) i a rfl
    have l2 := ch_fac (b + c) b c rfl
    have l3 := ch_fac (i + a + b + c) (i + a) (b + c) (by omega)
    have r1 := ch_fac (i + b) i b rfl
    have r2 := ch_fac (a + c) a c rfl
    have r3 := ch_fac (i + a + b + c) (i + b) (a + c) (by omega)
    rw [show i + a + b + c - (i + a) = b + c by omega, show i + b - i = b by omega, show i + a + b + c - (i + b) = a + c by omega, show i + a - i = a by omega]
    apply Nat.eq_of_mul_eq_mul_right (Nat.mul_pos (Nat.mul_pos (fac_pos i) (fac_pos a)) (Nat.mul_pos (fac_pos b) (fac_pos c)))
    calc ch (i + a) i * ch (b + c) b * ch (i + a + b + c) (i + a) * (fac i * fac a * (fac b * fac c)) = ch (i + a + b + c) (i + a) * (ch (i + a) i * (fac i * fac a) * (ch (b + c) b * (fac b * fac c))) := by ac_rfl
      _ = fac (i + a + b + c) := by rw [l1, l2, l3]
      _ = ch (i + a + b + c) (i + b) * (ch (i + b) i * (fac i * fac b) * (ch (a + c) a * (fac a * fac c))) := by rw [r1, r2, r3]
      _ = _ := by ac_rfl
  · rw [ch_gt (n := N - W) (k := K - i) (by omega), ch_gt (n := N - K) (k := W - i) (by omega)]
    simp
theorem sumN_shift (g : Nat → Nat) : ∀ n, sumN g (n + 1) = g 0 + sumN (fun i => g (i + 1)) n
  | 0 => by simp [sumN]
  | n + 1 => by
    rw [show sumN g (n + 1 + 1) = sumN g (n + 1) + g (n + 1) from rfl, sumN_shift g n]
    simp only [sumN]
    omega
theorem sumN_add (g h : Nat → Nat) : ∀ n, sumN (fun i => g i + h i) n = sumN g n + sumN h n
  | 0 => rfl
  | n + 1 => by
    simp only [sumN]
    rw [sumN_add g h n]
    omega
theorem sumN_mul (g : Nat → Nat) (c : Nat) : ∀ n, sumN (fun i => g i * c) n = sumN g n * c
  | 0 => by simp [sumN]
  | n + 1 => by
    simp only [sumN]
    rw [sumN_mul g c n, Nat.add_mul]
theorem sumN_zero : ∀ n, sumN (fun _ => 0) n = 0
  | 0 => rfl
  | n + 1 => by
    simp only [sumN]
    rw [sumN_zero n]
theorem sumN_le {g : Nat → Nat} {m : Nat} : ∀ {n : Nat}, m ≤ n → sumN g m ≤ sumN g n
  | 0, h => by rw [show m = 0 by omega]; exact Nat.le_refl _
  | n + 1, h => by
    by_cases e : m = n + 1
    · rw [e]; exact Nat.le_refl _
    · have := sumN_le (g := g) (m := m) (n := n) (by omega)
      simp only [sumN]
      omega
theorem sumN_off (g : Nat → Nat) (w : Nat) : ∀ c, sumN g w + sumN (fun t => g (w + t)) c = sumN g (w + c)
  | 0 => by simp [sumN]
  | c + 1 => by
    rw [show w + (c + 1) = w + c + 1 by omega]
    simp only [sumN]
    have := sumN_off g w c
    omega
theorem sumN_tail {g : Nat → Nat} {c : Nat} : ∀ {n : Nat}, c ≤ n → (∀ t, c ≤ t → t < n → g t = 0) → sumN g n = sumN g c
  | 0, h, _ => by rw [show c = 0 by omega]
  | n + 1, h, hz => by
    by_cases e : c = n + 1
    · rw [e]
    · simp only [sumN]
      rw [sumN_tail (n := n) (by omega) (fun t h1 h2 => hz t h1 (by omega)), hz n (by omega) (by omega), Nat.add_zero]
/-- Vandermonde -/
theorem vander (M : Nat) : ∀ W K, sumN (fun i => ch W i * ch M (K - i)) (K + 1) = ch (W + M) K
  | 0, K => by
    rw [sumN_shift, ch_n0, Nat.one_mul, Nat.sub_zero, Nat.zero_add]
    have : sumN (fun i => ch 0 (i + 1) * ch M (K - (i + 1))) K = 0 := by
      rw [sumN_congr (g' := fun _ => 0) (fun i hi => by rw [ch_0s, Nat.zero_mul])]
      exact sumN_zero K
    omega
  | W + 1, 0 => by
    rw [ch_n0]
    simp only [sumN]
    rw [ch_n0, Nat.sub_zero, ch_n0]
  | W + 1, K + 1 => by
    have i1 := vander M W K
    have i2 := vander M W (K + 1)
    rw [sumN_shift, ch_n0, Nat.sub_zero] at i2
    rw [sumN_shift, ch_n0, Nat.sub_zero, show W + 1 + M = W + M + 1 by omega, ch_ss, ← i1, ← i2]
    have e : sumN (fun i => ch (W + 1) (i + 1) * ch M (K + 1 - (i + 1))) (K + 1) = sumN (fun i => ch W i * ch M (K - i)) (K + 1) + sumN (fun i => ch W (i + 1) * ch M (K + 1 - (i + 1))) (K + 1) := by
      rw [← sumN_add]
      refine sumN_congr fun i hi => ?_
      rw [ch_ss, Nat.add_mul, show K + 1 - (i + 1) = K - i by omega]
    rw [e]
    omega
def ch60 : Nat → Nat
  | 0 => 1
  | k + 1 => ch60 k * (60 - k) / (k + 1)
theorem ch60_eq : ∀ k, ch60 k = ch 60 k
  | 0 => by rw [ch_n0]; rfl
  | k + 1 => by
    simp only [ch60]
    rw [ch60_eq k]
    apply Nat.div_eq_of_eq_mul_right (by omega)
    rw [Nat.mul_comm]
    exact (ch_next 60 k).symm
theorem ch60_all : ∀ k, k < 61 → ch60 k ≤ 118264581564861424 := by decide +kernel
theorem ch_mono (k : Nat) {n : Nat} : ∀ {m : Nat}, n ≤ m → ch n k ≤ ch m k
  | 0, h => by rw [show n = 0 by omega]; exact Nat.le_refl _
  | m + 1, h => by
    by_cases e : n = m + 1
    · rw [e]; exact Nat.le_refl _
    · have h1 := ch_mono k (n := n) (m := m) (by omega)
      have h2 : ch m k ≤ ch (m + 1) k := by
        cases k with
        | zero => rw [ch_n0, ch_n0]; exact Nat.le_refl _
        | succ k => rw [ch_ss]; omega
      omega
theorem ch_bd {n k : Nat} (hn : n ≤ 60) : ch n k ≤ 118264581564861424 := by
  by_cases hk : k < 61
  · have h1 := ch_mono k hn
    have h2 := ch60_all k hk
    rw [ch60_eq] at h2
    omega
  · rw [ch_gt (by omega)]
    omega
/-- THE CHANCE of w or more, told from the class's side and from the reference's -/
def laA (N K W w : Nat) : Nat := sumN (fun t => ch W (w + t) * ch (N - W) (K - (w + t))) (min K W + 1 - w)
def laR (N K W w : Nat) : Nat := sumN (fun t => ch K (w + t) * ch (N - K) (W - (w + t))) (W + 1 - w)
theorem la_eq {N K W w : Nat} (hK : w ≤ K) (hW : w ≤ W) (hKN : K ≤ N) (hWN : W ≤ N) : laA N K W w * ch N W = laR N K W w * ch N K := by
  unfold laA laR
  rw [sumN_tail (g := fun t => ch K (w + t) * ch (N - K) (W - (w + t))) (c := min K W + 1 - w) (n := W + 1 - w) (by omega) (fun t h1 h2 => by rw [ch_gt (n := K) (k := w + t) (by omega), Nat.zero_mul]), ← sumN_mul, ← sumN_mul]
  exact sumN_congr fun t ht => hyp_eq (by omega) (by omega) hKN hWN
theorem laA_le {N K W w : Nat} (hK : w ≤ K) (hW : w ≤ W) (hWN : W ≤ N) : laA N K W w ≤ ch N K := by
  have h := vander (N - W) W K
  rw [show W + (N - W) = N by omega] at h
  rw [← h]
  unfold laA
  have h1 := sumN_off (fun i => ch W i * ch (N - W) (K - i)) w (min K W + 1 - w)
  have h2 := sumN_le (g := fun i => ch W i * ch (N - W) (K - i)) (m := w + (min K W + 1 - w)) (n := K + 1) (by omega)
  omega
/-- what is HEARD -/
def BtR (size : Int32) (at' sc : Nat → Int32) (hm : Nat) (bt : Nat → Nat) (sb : Nat → Int) : Prop := hm ≤ 60 ∧ size.toInt = (hm : Int) ∧ (∀ i, i < 2 * hm → (at' i).toInt = (bt i : Int) ∧ bt i ≤ 1000) ∧ (∀ r, r < hm → (sc r).toInt = sb r ∧ -1 ≤ sb r ∧ sb r ≤ 1)
/-- of what counts: 0 all with a score, 1 late, 2 scored, 3 both -/
def btP (bt : Nat → Nat) (sb : Nat → Int) (slack p what r : Nat) : Bool := decide (sb r ≠ -1) && ((decide (bt (2 * r + 1 - p) + slack < bt (2 * r + p)) || (decide (what = 0) || decide (what = 2))) && (decide (sb r = (p : Int)) || (decide (what = 0) || decide (what = 1))))
def btN (bt : Nat → Nat) (sb : Nat → Int) (slack p what hm : Nat) : Nat := cntB (btP bt sb slack p what) hm
theorem cntB_imp {p q : Nat → Bool} (h : ∀ i, p i = true → q i = true) : ∀ n, cntB p n ≤ cntB q n
  | 0 => Nat.le_refl _
  | n + 1 => by
    have ih := cntB_imp h n
    simp only [cntB]
    by_cases e : p n = true
    · rw [if_pos e, if_pos (h n e)]; omega
    · rw [if_neg e]; omega
theorem btN_le (bt : Nat → Nat) (sb : Nat → Int) (slack p what hm : Nat) : btN bt sb slack p what hm ≤ hm := cntB_le _ _
theorem btN_rel (bt : Nat → Nat) (sb : Nat → Int) (slack p hm : Nat) : btN bt sb slack p 3 hm ≤ btN bt sb slack p 1 hm ∧ btN bt sb slack p 3 hm ≤ btN bt sb slack p 2 hm ∧ btN bt sb slack p 1 hm ≤ btN bt sb slack p 0 hm ∧ btN bt sb slack p 2 hm ≤ btN bt sb slack p 0 hm := by
  refine ⟨cntB_imp (fun i h => ?_) hm, cntB_imp (fun i h => ?_) hm, cntB_imp (fun i h => ?_) hm, cntB_imp (fun i h => ?_) hm⟩
  all_goals
    simp only [btP, Bool.and_eq_true, Bool.or_eq_true, decide_eq_true_iff] at h ⊢
    grind
