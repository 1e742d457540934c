/-! the 42 RULES, worked -/
def lay0 (k l f m : Nat) : List (List Int) := (List.range (gw k l f + 1)).map fun r => (List.range (2 * gw k l f + 1)).map fun c => tab0 k l f m r c
def ins0 (k l f : Nat) : List Nat := (List.range (gw k l f)).map fun i => gw k l f + i
def runR (k l f m : Nat) : Option (List (List Int) × Int × List Nat × Nat) := runL (gw k l f) 40 (lay0 k l f m) 1 (ins0 k l f) 0
def sumZ (g : Nat → Int) : Nat → Int
  | 0 => 0
  | n + 1 => sumZ g n + g n
def secZ (T : Nat → Nat → Int) (ins : Nat → Nat) (w i : Nat) : Nat → Int
  | 0 => 0
  | r + 1 => if ins r = i then T r (2 * w) else secZ T ins w i r
/-- of THE MIX of a PLAYER that of WAY i, times Z -/
def shr (T : Nat → Nat → Int) (ins : Nat → Nat) (w p i : Nat) : Int := if p = 0 then T w (w + i) else secZ T ins w i w
/-- what THE MIX of a PLAYER brings PLAYER 0 against WAY i, times Z -/
def erng (k l f m : Nat) (T : Nat → Nat → Int) (ins : Nat → Nat) (p i : Nat) : Int := sumZ (fun q => shr T ins (gw k l f) p q * (if p = 0 then payI k l f m q i else payI k l f m i q)) (gw k l f)
def fctR (k l f m : Nat) (T : Nat → Nat → Int) (d : Int) (ins : Nat → Nat) : Prop :=
  0 < T (gw k l f) (2 * gw k l f) ∧ T (gw k l f) (2 * gw k l f) ≤ 2097151 ∧ -(8 * T (gw k l f) (2 * gw k l f)) ≤ d - bnd k f * T (gw k l f) (2 * gw k l f) ∧ (∀ j, j < gw k l f → d - bnd k f * T (gw k l f) (2 * gw k l f) ≤ erng k l f m T ins 0 j ∧ erng k l f m T ins 0 j ≤ 8 * T (gw k l f) (2 * gw k l f)) ∧ (k = 0 → 0 ≤ d - T (gw k l f) (2 * gw k l f) ∧ d - T (gw k l f) (2 * gw k l f) ≤ 2 * T (gw k l f) (2 * gw k l f) ∧ 2 * T (gw k l f) (2 * gw k l f) ≤ 5 * ((d - T (gw k l f) (2 * gw k l f)).gcd (2 * T (gw k l f) (2 * gw k l f)) : Int))
def allB (g : Nat → Bool) : Nat → Bool
  | 0 => true
  | n + 1 => allB g n && g n
theorem allB_iff (g : Nat → Bool) : ∀ n, allB g n = true ↔ ∀ j, j < n → g j = true
  | 0 => by simp [allB]
  | n + 1 => by
    simp only [allB, Bool.and_eq_true, allB_iff g n]
    constructor
    · intro h j hj
      by_cases e : j = n
      · rw [e]; exact h.2
      · exact h.1 j (by omega)
    · exact fun h => ⟨fun j hj => h j (by omega), h n (by omega)⟩
def fctB (k l f m w : Nat) (T : Nat → Nat → Int) (d : Int) (ins : Nat → Nat) : Bool :=
  frI (T w (2 * w)) fun z => decide (0 < z) && (decide (z ≤ 2097151) && (decide (-(8 * z) ≤ d - bnd k f * z) && ((allB (fun j => frI (erng k l f m T ins 0 j) fun x => decide (d - bnd k f * z ≤ x) && decide (x ≤ 8 * z)) w) && decide (k = 0 → 0 ≤ d - z ∧ d - z ≤ 2 * z ∧ 2 * z ≤ 5 * ((d - z).gcd (2 * z) : Int)))))
def chkR (k l f m : Nat) : Bool := match runR k l f m with
  | none => false
  | some (L, d, ins, _) => fctB k l f m (gw k l f) (LT L) d (fun i => ins.getD i 0)
theorem fct_of {k l f m w : Nat} {T : Nat → Nat → Int} {d : Int} {ins : Nat → Nat} (hw : w = gw k l f) (h : fctB k l f m w T d ins = true) : fctR k l f m T d ins := by
  subst hw
  unfold fctB at h
  simp only [frI_eq, Bool.and_eq_true, decide_eq_true_iff, allB_iff] at h
  exact h
theorem runs0 : ∀ l, l < 2 → ∀ f, f < 5 → l < f → ∀ m, m < 6 → 2 ≤ m → chkR 0 l f m = true := by decide +kernel
theorem runs1 : ∀ l, l < 2 → ∀ f, f < 5 → l < f → chkR 1 l f 0 = true := by decide +kernel
theorem runs2 : ∀ l, l < 2 → ∀ f, f < 5 → l < f → chkR 2 l f 0 = true := by decide +kernel
