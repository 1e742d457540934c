/-! the 42 RULES, worked -/
def lay0 (k l f m : Nat) : List (List Int) := (List.range (gw k l f + 1)).map fun r => (List.range (2 * gw k l f + 1)).map fun c => tab0 k l f m r c
def runR (k l f m : Nat) : Option (List (List Int) × Int × List Nat × Nat) := runL (gw k l f) 40 (lay0 k l f m) 1 ((List.range (gw k l f)).map fun i => gw k l f + i) 0
def chkR (k l f m : Nat) : Bool := match runR k l f m with
  | none => false
  | some (L, d, ins, n) => Nat.blt n 40
theorem runs0 : ∀ l, l < 2 → ∀ f, f < 5 → l < f → ∀ m, m < 6 → 2 ≤ m → chkR 0 l f m = true := by decide +kernel
theorem runs1 : ∀ l, l < 2 → ∀ f, f < 5 → l < f → chkR 1 l f 0 = true := by decide +kernel
theorem runs2 : ∀ l, l < 2 → ∀ f, f < 5 → l < f → chkR 2 l f 0 = true := by decide +kernel
