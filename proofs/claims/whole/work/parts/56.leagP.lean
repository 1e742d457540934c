/-! A LEAGUE: results, in order -/
def appL (A B : Nat → Nat) (P : Nat → Nat) (d r : Nat) : Nat → Nat := up (up P (A d) (P (A d) + (2 - r))) (B d) (up P (A d) (P (A d) + (2 - r)) (B d) + r)
/-- with u games from d on, by the digits of x -/
def finL (A B : Nat → Nat) : Nat → Nat → (Nat → Nat) → Nat → (Nat → Nat)
  | 0, _, P, _ => P
  | u + 1, d, P, x => finL A B u (d + 1) (appL A B P d (x / 3 ^ u % 3)) x
def allL (P : Nat → Nat) (team : Nat) : Nat → Bool
  | 0 => true
  | t + 1 => allL P team t && decide (P t ≤ P team)
def okL6 (P : Nat → Nat) (team : Nat) : Bool := allL P team 6
def fzL (q : Nat → Bool) : Nat → Nat → Option Nat
  | 0, _ => none
  | n + 1, x => if q x = true then some x else fzL q n (x + 1)
def srL (A B : Nat → Nat) (team : Nat) : Nat → Nat → (Nat → Nat) → Option Nat
  | 0, _, P => if okL6 P team = true then some 0 else none
  | u + 1, d, P => match srL A B team u (d + 1) (appL A B P d 0) with
    | some z => some z
    | none => match srL A B team u (d + 1) (appL A B P d 1) with
      | some z => some (3 ^ u + z)
      | none => match srL A B team u (d + 1) (appL A B P d 2) with
        | some z => some (2 * 3 ^ u + z)
        | none => none
theorem fz_add (q : Nat → Bool) : ∀ a b x, fzL q (a + b) x = match fzL q a x with
    | some y => some y
    | none => fzL q b (x + a)
  | 0, b, x => by simp [fzL]
  | a + 1, b, x => by
    rw [show a + 1 + b = a + b + 1 by omega]
    simp only [fzL]
    by_cases e : q x = true
    · rw [if_pos e, if_pos e]
    · rw [if_neg e, if_neg e, fz_add q a b (x + 1), show x + 1 + a = x + (a + 1) by omega]
theorem fz_shift (q q' : Nat → Bool) (c : Nat) : ∀ n x, (∀ z, x ≤ z → z < x + n → q (z + c) = q' z) → fzL q n (x + c) = (fzL q' n x).map (· + c)
  | 0, x, _ => rfl
  | n + 1, x, h => by
    simp only [fzL]
    rw [h x (by omega) (by omega)]
    by_cases e : q' x = true
    · rw [if_pos e, if_pos e]
      rfl
    · rw [if_neg e, if_neg e, show x + c + 1 = x + 1 + c by omega]
      exact fz_shift q q' c n (x + 1) (fun z h1 h2 => h z (by omega) (by omega))
theorem fz_lt {q : Nat → Bool} : ∀ {n x y : Nat}, fzL q n x = some y → x ≤ y ∧ y < x + n
  | 0, x, y, h => by simp [fzL] at h
  | n + 1, x, y, h => by
    simp only [fzL] at h
    split at h
    · cases h
      omega
    · have := fz_lt h
      omega
theorem dig_low {u z j : Nat} (c : Nat) (hz : z < 3 ^ u) (hj : j < u) : (c * 3 ^ u + z) / 3 ^ j % 3 = z / 3 ^ j % 3 := by
  have e : c * 3 ^ u = (c * 3 ^ (u - j - 1) * 3) * 3 ^ j := by
    rw [Nat.mul_assoc, Nat.mul_assoc, ← Nat.pow_succ', ← Nat.pow_add]
    congr 2
    omega
  rw [e, Nat.add_comm, Nat.add_mul_div_right _ _ (Nat.pow_pos (by decide)), Nat.add_mul_mod_self_right]
theorem fin_low (A B : Nat → Nat) : ∀ u d P c z U, u ≤ U → z < 3 ^ U → finL A B u d P (c * 3 ^ U + z) = finL A B u d P z
  | 0, _, _, _, _, _, _, _ => rfl
  | u + 1, d, P, c, z, U, h, hz => by
    simp only [finL]
    rw [dig_low c hz (show u < U by omega), fin_low A B u (d + 1) _ c z U (by omega) hz]
theorem sr_fz (A B : Nat → Nat) (team : Nat) : ∀ u d P, srL A B team u d P = fzL (fun x => okL6 (finL A B u d P x) team) (3 ^ u) 0
  | 0, d, P => by simp [srL, fzL, finL]
  | u + 1, d, P => by
    have blk : ∀ r, r < 3 → fzL (fun x => okL6 (finL A B (u + 1) d P x) team) (3 ^ u) (0 + r * 3 ^ u) = (srL A B team u (d + 1) (appL A B P d r)).map (· + r * 3 ^ u) := fun r hr => by
      rw [sr_fz A B team u (d + 1)]
      refine fz_shift _ _ _ _ _ fun z _ hz => ?_
      rw [Nat.zero_add] at hz
      simp only [finL]
      have e1 : (z + r * 3 ^ u) / 3 ^ u % 3 = r := by
        rw [Nat.add_mul_div_right _ _ (Nat.pow_pos (by decide)), Nat.div_eq_of_lt hz, Nat.zero_add]
        exact Nat.mod_eq_of_lt hr
      rw [e1, Nat.add_comm z, fin_low A B u (d + 1) _ r z u (Nat.le_refl _) hz]
    have b0 := blk 0 (by omega)
    have b1 := blk 1 (by omega)
    have b2 := blk 2 (by omega)
    rw [Nat.zero_mul, Nat.add_zero] at b0
    rw [Nat.one_mul] at b1
    rw [show 3 ^ (u + 1) = 3 ^ u + (3 ^ u + 3 ^ u) by rw [Nat.pow_succ]; omega, fz_add, b0]
    simp only [srL]
    cases h0 : srL A B team u (d + 1) (appL A B P d 0) with
    | some z => simp
    | none =>
      simp only [Option.map_none]
      rw [fz_add, b1]
      cases h1 : srL A B team u (d + 1) (appL A B P d 1) with
      | some z => simp [Nat.add_comm]
      | none =>
        simp only [Option.map_none]
        rw [show 0 + 3 ^ u + 3 ^ u = 0 + 2 * 3 ^ u by omega, b2]
        cases h2 : srL A B team u (d + 1) (appL A B P d 2) with
        | some z => simp [Nat.add_comm]
        | none => simp
theorem sr_lt {A B : Nat → Nat} {team u d z : Nat} {P : Nat → Nat} (h : srL A B team u d P = some z) : z < 3 ^ u := by
  rw [sr_fz] at h
  have := fz_lt h
  omega
/-- games of a TEAM from d on -/
def gmL (A B : Nat → Nat) (team d : Nat) : Nat → Nat
  | 0 => 0
  | u + 1 => gmL A B team d u + if A (d + u) = team ∨ B (d + u) = team then 1 else 0
theorem gmL_shift (A B : Nat → Nat) (team d : Nat) : ∀ u, gmL A B team d (u + 1) = (if A d = team ∨ B d = team then 1 else 0) + gmL A B team (d + 1) u
  | 0 => by simp [gmL]
  | u + 1 => by
    rw [show gmL A B team d (u + 1 + 1) = gmL A B team d (u + 1) + (if A (d + (u + 1)) = team ∨ B (d + (u + 1)) = team then 1 else 0) from rfl, gmL_shift A B team d u]
    simp only [gmL]
    rw [show d + (u + 1) = d + 1 + u by omega]
    omega
theorem app_ge {A B : Nat → Nat} {P : Nat → Nat} {d r : Nat} (t : Nat) : P t ≤ appL A B P d r t := by
  unfold appL
  by_cases e : t = B d
  · rw [e, up_same]
    by_cases e2 : B d = A d
    · rw [e2, up_same]; omega
    · rw [up_ne e2]; omega
  · rw [up_ne e]
    by_cases e2 : t = A d
    · rw [e2, up_same]; omega
    · rw [up_ne e2]; exact Nat.le_refl _
theorem app_le {A B : Nat → Nat} {P : Nat → Nat} {d r : Nat} (hr : r ≤ 2) (hAB : A d ≠ B d) (t : Nat) : appL A B P d r t ≤ P t + 2 * (if A d = t ∨ B d = t then 1 else 0) := by
  unfold appL
  by_cases e : t = B d
  · rw [e, up_same, up_ne (Ne.symm hAB), if_pos (Or.inr rfl)]
    omega
  · rw [up_ne e]
    by_cases e2 : t = A d
    · rw [e2, up_same, if_pos (Or.inl rfl)]; omega
    · rw [up_ne e2]; omega
theorem fin_ge {A B : Nat → Nat} : ∀ {u d P x} (t : Nat), P t ≤ finL A B u d P x t
  | 0, _, _, _, _ => Nat.le_refl _
  | u + 1, d, P, x, t => Nat.le_trans (app_ge t) (fin_ge (u := u) t)
theorem fin_le {A B : Nat → Nat} (team : Nat) : ∀ {u d P x}, (∀ i, d ≤ i → i < d + u → A i ≠ B i) → finL A B u d P x team ≤ P team + 2 * gmL A B team d u
  | 0, _, _, _, _ => Nat.le_refl _
  | u + 1, d, P, x, h => by
    have h1 := fin_le team (u := u) (d := d + 1) (P := appL A B P d (x / 3 ^ u % 3)) (x := x) (fun i h1 h2 => h i (by omega) (by omega))
    have h2 := app_le (P := P) (r := x / 3 ^ u % 3) (by have := Nat.mod_lt (x / 3 ^ u) (show 0 < 3 by decide); omega) (h d (by omega) (by omega)) team
    simp only [finL]
    rw [gmL_shift]
    omega
theorem allL_iff (P : Nat → Nat) (team : Nat) : ∀ n, allL P team n = true ↔ ∀ t, t < n → P t ≤ P team
  | 0 => by simp [allL]
  | n + 1 => by
    simp only [allL, Bool.and_eq_true, allL_iff P team n, decide_eq_true_iff]
    constructor
    · intro h t ht
      by_cases e : t = n
      · rw [e]; exact h.2
      · exact h.1 t (by omega)
    · exact fun h => ⟨fun t ht => h t (by omega), h n (by omega)⟩
theorem fz_none {q : Nat → Bool} : ∀ {n x : Nat}, (∀ z, q z = false) → fzL q n x = none
  | 0, _, _ => rfl
  | n + 1, x, h => by
    simp only [fzL]
    rw [if_neg (by rw [h x]; decide)]
    exact fz_none h
theorem sr_beaten {A B : Nat → Nat} {team u d t : Nat} {P : Nat → Nat} (hAB : ∀ i, d ≤ i → i < d + u → A i ≠ B i) (ht : t < 6) (h : P team + 2 * gmL A B team d u < P t) : srL A B team u d P = none := by
  rw [sr_fz]
  refine fz_none fun z => ?_
  rw [Bool.eq_false_iff]
  intro hz
  unfold okL6 at hz
  rw [allL_iff] at hz
  have h1 := hz t ht
  have h2 := fin_ge (A := A) (B := B) (u := u) (d := d) (P := P) (x := z) t
  have h3 := fin_le (A := A) (B := B) team (u := u) (d := d) (P := P) (x := z) hAB
  omega
/-- the LEAGUE as it is held -/
def LgR (ga op : Int32) (pt on ot : Nat → Int32) (rc : Int32) (rs : Nat → Int32) (G O : Nat) (P A B : Nat → Nat) (C : Nat) (R : Nat → Nat) : Prop := G ≤ 100 ∧ O ≤ 9 ∧ C ≤ 9 ∧ ga.toInt = (G : Int) ∧ op.toInt = (O : Int) ∧ (∀ t, t < 6 → (pt t).toInt = (P t : Int) ∧ P t ≤ 2 * G) ∧ (∀ i, i < O → (on i).toInt = (A i : Int) ∧ (ot i).toInt = (B i : Int) ∧ A i < 6 ∧ B i < 6 ∧ A i ≠ B i) ∧ rc.toInt = (C : Int) ∧ (∀ i, i < C → (rs i).toInt = (R i : Int) ∧ R i ≤ 2)
/-- points of a game -/
def gpA (x y : Int) : Nat := if y < x then 2 else if x = y then 1 else 0
def noteL (P : Nat → Nat) (a b : Nat) (x y : Int) : Nat → Nat := up (up P a (P a + gpA x y)) b (up P a (P a + gpA x y) b + gpA y x)
/-- the first that works -/
def canL (A B : Nat → Nat) (P : Nat → Nat) (O team : Nat) : Option Nat := srL A B team O 0 P
def resL (O z : Nat) : Nat → Nat := fun i => z / 3 ^ (O - 1 - i) % 3
