/-! THE GAME in whole numbers -/
def gn (l f : Nat) : Nat := f + 1 - l
def gw (k l f : Nat) : Nat := if k = 0 then gn l f else gn l f * gn l f
def thr (k l f i : Nat) : Nat := if k = 0 then l + i else l + i / gn l f
def hit1 (k l f i s : Nat) : Int := if thr k l f i + l + i % gn l f = s then 1 else 0
def payI (k l f m i j : Nat) : Int :=
  if k = 0 then (if (thr k l f i + thr k l f j) % m = 0 then 1 else -1)
  else if k = 1 then hit1 k l f i (thr k l f i + thr k l f j) - hit1 k l f j (thr k l f i + thr k l f j)
  else (hit1 k l f i (thr k l f i + thr k l f j) - hit1 k l f j (thr k l f i + thr k l f j)) * ((thr k l f i + thr k l f j : Nat) : Int)
def bnd (k f : Nat) : Nat := if k = 2 then 2 * f + 1 else 2
def tab0 (k l f m : Nat) (r c : Nat) : Int :=
  if r = gw k l f then (if c < gw k l f then -1 else 0)
  else if c < gw k l f then payI k l f m r c + bnd k f
  else if c = 2 * gw k l f then 1 else if c = gw k l f + r then 1 else 0
/-- a RULE -/
def RuleOK (k l f m : Nat) : Prop := k ≤ 2 ∧ l ≤ 1 ∧ l + 1 ≤ f ∧ f ≤ 4 ∧ (k = 0 → 2 ≤ m ∧ m ≤ 5) ∧ (k ≠ 0 → m = 0)
/-! THE STEPS -/
def fstC (T : Nat → Nat → Int) (w : Nat) : Nat → Nat → Option Nat
  | 0, _ => none
  | u + 1, j => if T w j < 0 then some j else fstC T w u (j + 1)
def betR (T : Nat → Nat → Int) (ins : Nat → Nat) (c e i b : Nat) : Prop := T i e * T b c < T b e * T i c ∨ (T i e * T b c = T b e * T i c ∧ ins i < ins b)
theorem betR_iff (T : Nat → Nat → Int) (ins : Nat → Nat) (c e i b : Nat) : betR T ins c e i b ↔ (decide (T i e * T b c < T b e * T i c) || (decide (T i e * T b c = T b e * T i c) && decide (ins i < ins b))) = true := by
  unfold betR
  simp
def bstR (T : Nat → Nat → Int) (ins : Nat → Nat) (c e : Nat) : Nat → Option Nat
  | 0 => none
  | i + 1 => match bstR T ins c e i with
    | none => if 0 < T i c then some i else none
    | some b => if 0 < T i c then (if (decide (T i e * T b c < T b e * T i c) || (decide (T i e * T b c = T b e * T i c) && decide (ins i < ins b))) = true then some i else some b) else some b
def piv (T : Nat → Nat → Int) (d : Int) (row c : Nat) : Nat → Nat → Int := fun r j => if r = row then T r j else (T r j * T row c - T r c * T row j).tdiv d
def Bd (T : Nat → Nat → Int) (w : Nat) : Prop := ∀ r j, r ≤ w → j ≤ 2 * w → -67108864 < T r j ∧ T r j < 67108864
def Trace (w : Nat) : Nat → (Nat → Nat → Int) → Int → (Nat → Nat) → Nat → (Nat → Nat → Int) → Int → (Nat → Nat) → Nat → Prop
  | 0, _, _, _, _, _, _, _, _ => False
  | u + 1, T, d, ins, n, T', d', ins', n' => Bd T w ∧ (0 < d ∧ d < 67108864) ∧ ((fstC T w (2 * w) 0 = none ∧ T' = T ∧ d' = d ∧ ins' = ins ∧ n' = n) ∨ ∃ c r, fstC T w (2 * w) 0 = some c ∧ bstR T ins c (2 * w) w = some r ∧ Trace w u (piv T d r c) (T r c) (up ins r c) (n + 1) T' d' ins' n')
theorem bstR_lt {T : Nat → Nat → Int} {ins : Nat → Nat} {c e : Nat} : ∀ {i r : Nat}, bstR T ins c e i = some r → r < i ∧ 0 < T r c
  | 0, r, h => by simp [bstR] at h
  | i + 1, r, h => by
    simp only [bstR] at h
    split at h
    · rename_i e0
      split at h
      · cases h
        exact ⟨by omega, by assumption⟩
      · cases h
    · rename_i b e0
      have ih := bstR_lt e0
      split at h
      · split at h
        · cases h
          exact ⟨by omega, by assumption⟩
        · cases h
          exact ⟨by omega, ih.2⟩
      · cases h
        exact ⟨by omega, ih.2⟩
theorem fstC_some {T : Nat → Nat → Int} {w : Nat} : ∀ {u j c : Nat}, fstC T w u j = some c → j ≤ c ∧ c < j + u ∧ T w c < 0
  | 0, j, c, h => by simp [fstC] at h
  | u + 1, j, c, h => by
    simp only [fstC] at h
    split at h
    · cases h
      exact ⟨by omega, by omega, by assumption⟩
    · have := fstC_some h
      omega
/-! the same, worked by lists -/
def frN {β : Type} (n : Nat) (k : Nat → β) : β := match n with
  | 0 => k 0
  | n + 1 => k (n + 1)
theorem frN_eq {β : Type} (n : Nat) (k : Nat → β) : frN n k = k n := by
  cases n <;> rfl
def frI {β : Type} (x : Int) (k : Int → β) : β := match x with
  | .ofNat n => frN n fun n => k (.ofNat n)
  | .negSucc n => frN n fun n => k (.negSucc n)
theorem frI_eq {β : Type} (x : Int) (k : Int → β) : frI x k = k x := by
  cases x <;> simp [frI, frN_eq]
def cel (p y d x q : Int) : Int := (x * p - y * q).tdiv d
theorem cel0 (p y d : Int) : cel p y d 0 0 = 0 := by simp [cel]
def rowP (p y d : Int) : List Int → List Int → List Int
  | [], qs => qs.map (cel p y d 0)
  | x :: xs, qs => cel p y d x (qs.headD 0) :: rowP p y d xs qs.tail
def rowF {β : Type} (p y d : Int) : List Int → List Int → (List Int → β) → β
  | [], qs, k => k (qs.map (cel p y d 0))
  | x :: xs, qs, k => frI (cel p y d x (qs.headD 0)) fun v => rowF p y d xs qs.tail fun vs => k (v :: vs)
theorem rowF_eq {β : Type} (p y d : Int) : ∀ (xs qs : List Int) (k : List Int → β), rowF p y d xs qs k = k (rowP p y d xs qs)
  | [], qs, k => rfl
  | x :: xs, qs, k => by simp only [rowF, rowP, frI_eq, rowF_eq p y d xs qs.tail]
theorem rowP_get (p y d : Int) : ∀ (xs qs : List Int) (j : Nat), (rowP p y d xs qs).getD j 0 = cel p y d (xs.getD j 0) (qs.getD j 0)
  | [], [], j => by simp [rowP, cel0]
  | [], q :: qs, 0 => by simp [rowP]
  | [], q :: qs, j + 1 => by
    have := rowP_get p y d [] qs j
    simpa [rowP] using this
  | x :: xs, qs, 0 => by cases qs <;> simp [rowP]
  | x :: xs, qs, j + 1 => by
    have := rowP_get p y d xs qs.tail j
    cases qs <;> simpa [rowP] using this
def tabP (p d : Int) (row c : Nat) (R : List Int) : Nat → List (List Int) → List (List Int)
  | _, [] => []
  | i, X :: Xs => (match Nat.beq i row with
    | true => X
    | false => rowP p (X.getD c 0) d X R) :: tabP p d row c R (i + 1) Xs
def tabF {β : Type} (p d : Int) (row c : Nat) (R : List Int) : Nat → List (List Int) → (List (List Int) → β) → β
  | _, [], k => k []
  | i, X :: Xs, k => match Nat.beq i row with
    | true => frN (i + 1) fun i' => tabF p d row c R i' Xs fun Ys => k (X :: Ys)
    | false => rowF p (X.getD c 0) d X R fun Y => frN (i + 1) fun i' => tabF p d row c R i' Xs fun Ys => k (Y :: Ys)
theorem tabF_eq {β : Type} (p d : Int) (row c : Nat) (R : List Int) : ∀ (Xs : List (List Int)) (i : Nat) (k : List (List Int) → β), tabF p d row c R i Xs k = k (tabP p d row c R i Xs)
  | [], i, k => rfl
  | X :: Xs, i, k => by
    simp only [tabF, tabP]
    cases Nat.beq i row
    · simp only [rowF_eq, frN_eq, tabF_eq p d row c R Xs]
    · simp only [frN_eq, tabF_eq p d row c R Xs]
theorem gD_def {α : Type} (l : List α) (d : α) {n : Nat} (h : l.length ≤ n) : l.getD n d = d := by simp [List.getD_eq_getElem?_getD, List.getElem?_eq_none h]
theorem gD_mem {α : Type} (l : List α) (d : α) {n : Nat} (h : n < l.length) : l.getD n d ∈ l := by simp [List.getD_eq_getElem?_getD, h]
def LT (L : List (List Int)) : Nat → Nat → Int := fun r j => (L.getD r []).getD j 0
theorem tabP_get (p d : Int) (row c : Nat) (R : List Int) : ∀ (Xs : List (List Int)) (i r j : Nat), ((tabP p d row c R i Xs).getD r []).getD j 0 = if i + r = row then (Xs.getD r []).getD j 0 else if r < Xs.length then cel p ((Xs.getD r []).getD c 0) d ((Xs.getD r []).getD j 0) (R.getD j 0) else 0
  | [], i, r, j => by simp [tabP]
  | X :: Xs, i, 0, j => by
    by_cases e : i = row
    · simp [tabP, e]
    · have : Nat.beq i row = false := by
        rw [Bool.eq_false_iff]
        exact fun h => e (Nat.eq_of_beq_eq_true h)
      simp only [tabP, this, List.getD_cons_zero, Nat.add_zero, if_neg e, List.length_cons, if_pos (Nat.zero_lt_succ _)]
      exact rowP_get ..
  | X :: Xs, i, r + 1, j => by
    have := tabP_get p d row c R Xs (i + 1) r j
    simp only [tabP, List.getD_cons_succ, List.length_cons, Nat.add_lt_add_iff_right]
    rw [this, show i + 1 + r = i + (r + 1) by omega]
theorem LT_piv {L : List (List Int)} {d : Int} {row c : Nat} : LT (tabP (LT L row c) d row c (L.getD row []) 0 L) = piv (LT L) d row c := by
  funext r j
  show ((tabP (LT L row c) d row c (L.getD row []) 0 L).getD r []).getD j 0 = _
  rw [tabP_get, Nat.zero_add]
  unfold piv
  by_cases e : r = row
  · rw [if_pos e, if_pos e]
    rfl
  · rw [if_neg e, if_neg e]
    by_cases h : r < L.length
    · rw [if_pos h]
      rfl
    · rw [if_neg h]
      have : LT L r = fun _ => 0 := by
        funext j
        show (L.getD r []).getD j 0 = 0
        rw [gD_def L [] (by omega)]
        rfl
      rw [this]
      simp
def okI (x : Int) : Bool := match x with
  | .ofNat n => Nat.blt n 67108864
  | .negSucc n => Nat.blt n 67108863
theorem okI_iff (x : Int) : okI x = true ↔ -67108864 < x ∧ x < 67108864 := by
  cases x with
  | ofNat n =>
    simp only [okI, Nat.blt_eq]
    show _ ↔ -67108864 < (n : Int) ∧ (n : Int) < 67108864
    omega
  | negSucc n =>
    simp only [okI, Nat.blt_eq]
    rw [Int.negSucc_eq]
    omega
def runL (w : Nat) : Nat → List (List Int) → Int → List Nat → Nat → Option (List (List Int) × Int × List Nat × Nat)
  | 0, _, _, _, _ => none
  | u + 1, L, d, ins, n => match L.all (fun X => X.all okI) && (okI d && decide (0 < d)) with
    | false => none
    | true => match fstC (LT L) w (2 * w) 0 with
      | none => some (L, d, ins, n)
      | some c => match bstR (LT L) (fun i => ins.getD i 0) c (2 * w) w with
        | none => none
        | some r => match Nat.blt r ins.length with
          | false => none
          | true => frI (LT L r c) fun p => tabF p d r c (L.getD r []) 0 L fun L' => frN (n + 1) fun n' => runL w u L' p (ins.set r c) n'
theorem all_bd {L : List (List Int)} (h : (L.all fun X => X.all okI) = true) (r j : Nat) : -67108864 < LT L r j ∧ LT L r j < 67108864 := by
  unfold LT
  rw [List.all_eq_true] at h
  by_cases hr : r < L.length
  · have h1 := h (L.getD r []) (gD_mem _ _ hr)
    rw [List.all_eq_true] at h1
    by_cases hj : j < (L.getD r []).length
    · exact (okI_iff _).mp (h1 _ (gD_mem _ _ hj))
    · rw [gD_def (L.getD r []) 0 (by omega)]
      decide
  · rw [gD_def L [] (by omega)]
    simp
theorem run_trace {w : Nat} : ∀ {u : Nat} {L : List (List Int)} {d : Int} {ins : List Nat} {n : Nat} {L' : List (List Int)} {d' : Int} {ins' : List Nat} {n' : Nat}, runL w u L d ins n = some (L', d', ins', n') → Trace w u (LT L) d (fun i => ins.getD i 0) n (LT L') d' (fun i => ins'.getD i 0) n'
  | 0, _, _, _, _, _, _, _, _, h => by simp [runL] at h
  | u + 1, L, d, ins, n, L', d', ins', n', h => by
    simp only [runL] at h
    split at h
    · cases h
    · rename_i hok
      rw [Bool.and_eq_true, Bool.and_eq_true, okI_iff, decide_eq_true_iff] at hok
      refine ⟨fun r j _ _ => all_bd hok.1 r j, ⟨hok.2.2, hok.2.1.2⟩, ?_⟩
      split at h
      · rename_i hc
        simp only [Option.some.injEq, Prod.mk.injEq] at h
        obtain ⟨rfl, rfl, rfl, rfl⟩ := h
        exact Or.inl ⟨hc, rfl, rfl, rfl, rfl⟩
      · rename_i c hc
        split at h
        · cases h
        · rename_i r hr
          split at h
          · cases h
          · rename_i hl
            rw [frI_eq, tabF_eq, frN_eq] at h
            have ih := run_trace h
            rw [LT_piv] at ih
            refine Or.inr ⟨c, r, hc, hr, ?_⟩
            have e : (fun i => (ins.set r c).getD i 0) = up (fun i => ins.getD i 0) r c := by
              funext i
              rw [Nat.blt_eq] at hl
              by_cases ei : i = r
              · subst ei
                rw [up_same]
                simp [List.getD_eq_getElem?_getD, List.getElem?_set_self hl]
              · rw [up_ne ei]
                simp only [List.getD_eq_getElem?_getD]
                rw [List.getElem?_set_ne (Ne.symm ei)]
            rw [e] at ih
            exact ih
