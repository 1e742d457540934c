/-! whole numbers of the class -/
def dn (d : Nat → Int32) (k : Nat) : Nat := (d k).toInt.toNat
/-- a digit -/
def dok (x : Int32) : Prop := 0 ≤ x.toInt ∧ x.toInt < 1073741824
theorem dok.to {d : Nat → Int32} {k : Nat} (h : dok (d k)) : (d k).toInt = (dn d k : Int) ∧ dn d k < BB := by
  unfold dn
  have h1 := h.1
  have h2 := h.2
  exact ⟨by omega, by show _ < 1073741824; omega⟩
theorem dok.of {x : Int32} {v : Nat} (h : x.toInt = (v : Int)) (hv : v < BB) : dok x := by
  have : v < 1073741824 := hv
  exact ⟨by omega, by omega⟩
theorem dn_up_same (d : Nat → Int32) (k : Nat) {x : Int32} {v : Nat} (h : x.toInt = (v : Int)) : dn (up d k x) k = v := by
  unfold dn
  rw [up_same, h]
  rfl
theorem dn_up_ne {d : Nat → Int32} {k j : Nat} {x : Int32} (h : j ≠ k) : dn (up d k x) j = dn d j := by
  unfold dn
  rw [up_ne h]
/-- m digits, of the value v -/
def BU (d : Nat → Int32) (m v : Nat) : Prop := m ≤ 16 ∧ (∀ k, k < m → dok (d k)) ∧ dval (dn d) m = v
/-- the number v -/
def BR (d : Nat → Int32) (n : Int32) (v : Nat) : Prop := ∃ m : Nat, n.toInt = (m : Int) ∧ BU d m v ∧ (m = 0 ∨ dn d (m - 1) ≠ 0)
theorem BU.dg {d : Nat → Int32} {m v : Nat} (h : BU d m v) : ∀ k, k < m → dn d k < BB := fun k hk => (h.2.1 k hk).to.2
theorem BR.dg {d : Nat → Int32} {n : Int32} {v m : Nat} (h : BR d n v) (hn : n.toInt = (m : Int)) : BU d m v ∧ Dg (dn d) m v := by
  obtain ⟨m', h1, h2, h3⟩ := h
  have : m' = m := by omega
  subst this
  exact ⟨h2, h2.dg, h2.2.2, h3⟩
theorem BU.lt {d : Nat → Int32} {m v : Nat} (h : BU d m v) : v < BB ^ m := by rw [← h.2.2]; exact dval_lt h.dg
theorem z_0 : (0 : Int32).toInt = 0 := by decide
theorem z_1 : (1 : Int32).toInt = 1 := by decide
theorem z_m1 : (-1 : Int32).toInt = -1 := by decide
theorem z_16 : (16 : Int32).toInt = 16 := by decide
theorem zL0 : (0 : Int64).toInt = 0 := by decide
theorem zL1 : (1 : Int64).toInt = 1 := by decide
theorem ne0_iff {d : Nat → Int32} {k : Nat} (h : dok (d k)) : (d k = 0) ↔ dn d k = 0 := by
  rw [i_eq, z_0, h.to.1]
  omega
theorem S_Big_trim {d : Nat → Int32} {n : Int32} {m v : Nat} {Q : Int32 → Prop} (hn : n.toInt = (m : Int)) (h : BU d m v) (hq : ∀ n', BR d n' v → Q n') : P_Big_trim d n Q := by
  have loop : ∀ (j : Nat) (n x : Int32), j ≤ m → n.toInt = (j : Int) → x.toInt = (j : Int) - 1 → (∀ k, j ≤ k → k < m → dn d k = 0) → E_Big_trim_7 d n x Q := by
    intro j
    induction j with
    | zero =>
      intro n x hj hn hx hz
      refine R_Big_trim_7 ⟨fun _ => R_Big_trim_31 (hq _ ⟨0, hn, ⟨by omega, fun k hk => by omega, ?_⟩, Or.inl rfl⟩), fun c => absurd (by rw [i_lt, z_0]; omega) c⟩
      rw [← h.2.2]
      exact (dval_ext (Nat.zero_le m) hz).symm
    | succ j ih =>
      intro n x hj hn hx hz
      have hm := h.1
      have hx' : x.toInt = (j : Int) := by omega
      have hxn := i_nat hx'
      refine R_Big_trim_7 ⟨fun c => absurd c (by rw [i_lt, z_0]; omega), fun _ => ⟨i_in hx' (by omega), fun c => R_Big_trim_31 (hq _ ?_), fun c x2 e2 => ?_⟩⟩
      · rw [hxn] at c
        have hc := mt (ne0_iff (h.2.1 j (by omega))).mpr c
        exact ⟨j + 1, hn, ⟨by omega, fun k hk => h.2.1 k (by omega), by rw [← h.2.2]; exact (dval_ext hj hz).symm⟩, Or.inr hc⟩
      · rw [hxn] at c
        have hc := (ne0_iff (h.2.1 j (by omega))).mp c
        have h2 : x2.toInt = (j : Int) - 1 := by rw [e2]; exact i_add hx' z_m1 (by omega) (by omega)
        refine ih x x2 (by omega) hx' h2 (fun k h1 h2 => ?_)
        by_cases e : k = j
        · rw [e]; exact hc
        · exact hz k (by omega) h2
  refine T_Big_trim (R_Big_trim_0 fun x1 e1 => loop m n x1 (Nat.le_refl m) hn ?_ (fun k h1 h2 => by omega))
  have := h.1
  rw [e1]
  exact i_sub hn z_1 (by omega) (by omega)
theorem S_Big_digit {d : Nat → Int32} {n x : Int32} {v i : Nat} {Q : Int32 → Prop} (h : BR d n v) (hx : x.toInt = (i : Int)) (hq : ∀ r : Int32, r.toInt = ((v / BB ^ i % BB : Nat) : Int) → Q r) : P_Big_digit d n x Q := by
  obtain ⟨m, hn, hu, ht⟩ := h
  have hdg : Dg (dn d) m v := ⟨hu.dg, hu.2.2, ht⟩
  refine T_Big_digit (R_Big_digit_0 ⟨fun c => absurd c (by rw [i_lt, z_0]; omega), fun _ => ⟨fun c => R_Big_digit_21 (R_Big_digit_22 (hq _ ?_)), fun c => ⟨i_in hx ?_, R_Big_digit_22 (hq _ ?_)⟩⟩⟩)
  · rw [i_le, hn, hx] at c
    have h1 := hdg.high
    have h2 : BB ^ m ≤ BB ^ i := Nat.pow_le_pow_right (by decide) (by omega)
    rw [Nat.div_eq_of_lt (by omega), z_0]
    rfl
  · rw [i_le, hn, hx] at c
    have := hu.1
    omega
  · rw [i_le, hn, hx] at c
    rw [i_nat hx, (hu.2.1 i (by omega)).to.1, hdg.dig (by omega)]
theorem S_Big_push {d : Nat → Int32} {n : Int32} {m v c : Nat} {x : Int64} {Q : (Nat → Int32) → Int32 → Prop} (hn : n.toInt = (m : Int)) (h : BU d m v) (hx : x.toInt = (c : Int)) (hc : c < BB) (hroom : c = 0 ∨ m < 16) (ht : c = 0 → (m = 0 ∨ dn d (m - 1) ≠ 0)) (hq : ∀ d' n', BR d' n' (v + c * BB ^ m) → Q d' n') : P_Big_push d n x Q := by
  have hc' : c < 1073741824 := hc
  refine T_Big_push (R_Big_push_0 ⟨fun e => R_Big_push_39 (hq _ _ ?_), fun e => ⟨fun e2 => ?_, fun e2 => ⟨i_in hn ?_, fun x1 e1 => R_Big_push_39 (hq _ _ ?_)⟩⟩⟩)
  · rw [lg_le0, hx, zL0] at e
    have hc0 : c = 0 := by omega
    rw [hc0, Nat.zero_mul, Nat.add_zero]
    exact ⟨m, hn, h, ht hc0⟩
  · rw [lg_le0, hx, zL0] at e
    rw [i_le, hn, z_16] at e2
    omega
  · rw [i_le, hn, z_16] at e2
    omega
  · rw [lg_le0, hx, zL0] at e
    rw [i_le, hn, z_16] at e2
    have hv : (x.toInt32 &&& 1073741823).toInt = (c : Int) := by rw [ji_mask, hx]; omega
    rw [i_nat hn]
    have h0 : ∀ k, k < m → up d m (x.toInt32 &&& 1073741823) k = d k := fun k hk => up_ne (by omega)
    refine ⟨m + 1, by rw [e1]; exact i_add hn z_1 (by omega) (by omega), ⟨by omega, fun k hk => ?_, ?_⟩, Or.inr ?_⟩
    · by_cases e3 : k = m
      · rw [e3, up_same]; exact dok.of hv hc
      · rw [h0 k (by omega)]; exact h.2.1 k (by omega)
    · simp only [dval]
      rw [dn_up_same d m hv, dval_congr (g := dn d) (fun k hk => dn_up_ne (by omega)), h.2.2]
    · rw [Nat.add_sub_cancel, dn_up_same d m hv]
      omega
