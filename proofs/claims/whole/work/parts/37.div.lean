/-! division of the slots -/
theorem dig_shr {y s : Nat} (hs : s ≤ 29) : y * 2 ^ (30 - s) % BB = (y % 2 ^ s) * 2 ^ (30 - s) := by
  have e : BB = 2 ^ s * 2 ^ (30 - s) := by
    rw [← Nat.pow_add, show s + (30 - s) = 30 by omega]
  rw [e, Nat.mul_mod_mul_right]
/-- the digits of a number shifted right -/
theorem shr_step {c x y P R X dv f0 : Nat} (hP : P * R = BB) (hinv : dv * P + f0 = c + (x % P) * X) : (dv + (x / P + (y % P) * R) * X) * P + f0 = c + x * X + (y % P) * (X * BB) := by
  have h1 := Nat.mod_add_div x P
  have e1 : (dv + (x / P + (y % P) * R) * X) * P = dv * P + P * (x / P) * X + (y % P) * (X * (P * R)) := by
    rw [Nat.add_mul, Nat.add_mul, Nat.add_mul, ← Nat.add_assoc]
    congr 1
    · congr 1
      ac_rfl
    · ac_rfl
  have e2 : x * X = (x % P) * X + P * (x / P) * X := by rw [← Nat.add_mul, h1]
  rw [e1, hP, e2]
  omega
theorem S_Mo_divide_left {vv0 : Nat → Value} {f l g wk : Nat → Int32} {tp un : Nat → Int64} {V : Nat → Int} {v4 v5 v7 v9 : Int32} {t n s : Nat} {z : Int} {Q : (Nat → Int32) → (Nat → Int32) → (Nat → Int32) → (Nat → Int32) → (Nat → Int64) → (Nat → Int64) → Prop} (h : MR f l g V) (h4 : v4.toInt = (t : Int)) (ht : t < 1371) (h7 : v7.toInt = (n : Int)) (hn : n ≤ 64) (h9 : v9.toInt = (s : Int)) (hs : s ≤ 29) (h5 : z ≠ 0 → v5.toInt = z.sign) (hok : ∀ k, k ≤ n → okL (tp k)) (htop : nL tp n = 0) (hval : dval (nL tp) n = z.natAbs * 2 ^ s) (hq : ∀ f' l' g', MR f' l' g' (up V t z) → Q f' l' g' wk tp un) : E_Mo_divide_312 vv0 f l g wk tp un v4 v5 v7 v9 0 Q := by
  have hPR : 2 ^ s * 2 ^ (30 - s) = BB := by
    rw [← Nat.pow_add, show s + (30 - s) = 30 by omega]
  have hP1 : 0 < 2 ^ s := Nat.pow_pos (by decide)
  have hR1 : 0 < 2 ^ (30 - s) := Nat.pow_pos (by decide)
  have hR2 : 2 ^ (30 - s) ≤ 2 ^ 30 := Nat.pow_le_pow_right (by decide) (by omega)
  have h30 : ((30 : Int32) - v9).toInt = ((30 - s : Nat) : Int) := by
    rw [i_sub (a := 30) (by decide) h9 (by omega) (by omega)]
    omega
  have loop : ∀ (u i : Nat) (F : Nat → Int32) (x : Int32), i + u = n → x.toInt = (i : Int) → (∀ j, (j < 64 * t ∨ 64 * t + 64 ≤ j) → F j = f j) → (∀ k, k < i → dok (F (64 * t + k))) → dval (ld F t) i * 2 ^ s + nL tp 0 % 2 ^ s = dval (nL tp) i + (nL tp i % 2 ^ s) * BB ^ i → E_Mo_divide_312 vv0 F l g wk tp un v4 v5 v7 v9 x Q := by
    intro u
    induction u with
    | zero =>
      intro i F x hi hx hF hd hinv
      have : i = n := by omega
      subst this
      refine R_Mo_divide_312 ⟨fun _ => R_Mo_divide_373 ?_, fun e => absurd (by rw [i_le]; omega) e⟩
      refine S_Mo_trim (n := i) (z := z) ((h.mx t).congr hF (fun _ _ => rfl) (fun _ _ => rfl)) h4 ht h7 (by omega) hd ?_ h5 fun l' g' hR => hq _ _ _ hR
      rw [htop, Nat.zero_mod, Nat.zero_mul, Nat.add_zero, hval] at hinv
      have hlt : nL tp 0 % 2 ^ s < 2 ^ s := Nat.mod_lt _ hP1
      generalize nL tp 0 % 2 ^ s = y at *
      generalize 2 ^ s = P at *
      have h1 : dval (ld F t) i ≤ z.natAbs := by
        apply Nat.le_of_mul_le_mul_right _ hP1
        omega
      have h2 : z.natAbs ≤ dval (ld F t) i := by
        apply Nat.le_of_lt_succ
        apply Nat.lt_of_mul_lt_mul_right (a := P)
        rw [Nat.succ_mul]
        omega
      omega
    | succ u ih =>
      intro i F x hi hx hF hd hinv
      have hx1 : (x + 1).toInt = ((i + 1 : Nat) : Int) := by rw [i_add hx z_1 (by omega) (by omega)]; omega
      have q0 := (hok i (by omega)).to
      have q1 := (hok (i + 1) (by omega)).to
      have it := ixr h4 hx ht (by omega)
      refine R_Mo_divide_312 ⟨fun e => absurd e (by rw [i_le]; omega), fun _ => ⟨i_in hx (by omega), i_in hx1 (by omega), fun x25 e25 => ⟨it.1, fun x26 e26 => ?_⟩⟩⟩
      rw [it.2]
      rw [i_nat hx, i_nat hx1] at e25
      have a1 : (tp i >>> (v9.toInt64 &&& 63)).toInt = ((nL tp i / 2 ^ s : Nat) : Int) := by
        rw [j_shr h9 (by omega), q0.1]
        norm_cast
      have hb1 : nL tp (i + 1) * 2 ^ (30 - s) ≤ 1073741824 * 1073741824 := Nat.mul_le_mul (by omega) hR2
      have a2 : ((tp (i + 1) <<< (((30 : Int32) - v9).toInt64 &&& 63)) &&& (1073741823 : Int64)).toInt = (((nL tp (i + 1) % 2 ^ s) * 2 ^ (30 - s) : Nat) : Int) := by
        rw [j_mask, j_shlN q1.1 h30 (by omega) (by omega), ← dig_shr hs]
        rfl
      have hl1 : nL tp i / 2 ^ s < 2 ^ (30 - s) := by
        rw [Nat.div_lt_iff_lt_mul hP1, Nat.mul_comm, hPR]
        exact q0.2
      have hl2 : (nL tp (i + 1) % 2 ^ s) * 2 ^ (30 - s) + 2 ^ (30 - s) ≤ 1073741824 := by
        rw [← Nat.succ_mul]
        have : (nL tp (i + 1) % 2 ^ s + 1) * 2 ^ (30 - s) ≤ 2 ^ s * 2 ^ (30 - s) := Nat.mul_le_mul_right _ (Nat.mod_lt _ hP1)
        rw [hPR] at this
        exact this
      have hxv : x25.toInt32.toInt = ((nL tp i / 2 ^ s + (nL tp (i + 1) % 2 ^ s) * 2 ^ (30 - s) : Nat) : Int) := by
        refine j_narN ?_ (by omega)
        rw [e25]
        exact j_addN a1 a2 (by omega)
      generalize x25.toInt32 = w at *
      refine ih (i + 1) _ x26 (by omega) (by rw [e26]; exact hx1) (fun j hj => by rw [up_ne (by omega)]; exact hF j hj) (fun k hk => ?_) ?_
      · by_cases e : k = i
        · rw [e, up_same]; exact dok.of hxv (by show _ < 1073741824; omega)
        · rw [up_ne (by omega)]; exact hd k (by omega)
      · rw [dval_ld1 F t i hxv, BB_succ]
        exact shr_step hPR hinv
  exact loop n 0 f 0 (by omega) z_0 (fun _ _ => rfl) (fun k hk => by omega) (by simp [dval])
theorem lL0 (T : Nat → Int64) : lL T 0 = nL T := by
  funext k
  show nL T (0 + k) = nL T k
  rw [Nat.zero_add]
theorem dval_nL1 (T : Nat → Int64) (i : Nat) {x : Int64} {v : Nat} (h : x.toInt = (v : Int)) : dval (nL (up T i x)) (i + 1) = dval (nL T) i + v * BB ^ i := by
  show dval (nL (up T i x)) i + nL (up T i x) i * BB ^ i = _
  rw [nL_same T i h, dval_congr (g := nL T) (fun k hk => nL_ne (by omega))]
theorem div_step {X Qh D lo W A : Nat} (h : X * BB * Qh * D + (lo + X * W) = A) : X * (W / D + BB * Qh) * D + (lo + X * (W % D)) = A := by
  have h1 := Nat.div_add_mod W D
  rw [← h]
  have e : X * W = X * (W / D) * D + X * (W % D) := by
    have : X * W = X * (D * (W / D) + W % D) := by rw [h1]
    rw [this, Nat.mul_add]
    congr 1
    ac_rfl
  rw [e, Nat.mul_add, Nat.add_mul]
  have e2 : X * (BB * Qh) * D = X * BB * Qh * D := by ac_rfl
  rw [e2]
  omega
theorem S_Mo_divide_loop {vv0 : Nat → Value} {f l g : Nat → Int32} {un : Nat → Int64} {v3 v4 v5 v6 v7 v8 v9 : Int32} {n0 m A D : Nat} {Q : (Nat → Int32) → (Nat → Int32) → (Nat → Int32) → (Nat → Int32) → (Nat → Int64) → (Nat → Int64) → Prop} (h7 : v7.toInt = ((n0 + 1 : Nat) : Int)) (hn : n0 + 1 ≤ 64) (hm : m ≤ 63) (hu : ∀ k, k < n0 + 1 → okL (un k)) (hv0 : 0 < nL un n0) (hD : dval (nL un) (n0 + 1) = D) (hq : ∀ (WK : Nat → Int32) (T : Nat → Int64), (∀ k, k ≤ n0 + 1 → okL (T k)) → nL T (n0 + 1) = 0 → dval (nL T) (n0 + 1) < D → (∀ k, k < m + 1 → dok (WK k)) → dval (dn WK) (m + 1) * D + dval (nL T) (n0 + 1) = A → E_Mo_divide_260 vv0 f l g WK T un v3 v4 v5 v6 v7 v8 v9 Q) : ∀ (i : Nat) (T : Nat → Int64) (WK : Nat → Int32) (x : Int32), i ≤ m + 1 → x.toInt = (i : Int) - 1 → (∀ k, k < n0 + 1 + i → okL (T k)) → (i ≤ m → okL (T (n0 + 1 + i)) ∧ nL T (n0 + 1 + i) = 0) → (∀ k, i ≤ k → k < m + 1 → dok (WK k)) → dval (nL T) (n0 + 1 + i) < D * BB ^ i → BB ^ i * dval (fun k => dn WK (i + k)) (m + 1 - i) * D + dval (nL T) (n0 + 1 + i) = A → E_Mo_divide_233 vv0 f l g WK T un v3 v4 v5 v6 v7 v8 v9 x Q := by
  intro i
  induction i with
  | zero =>
    intro T WK x hi hx hT hz hW hlt hinv
    refine R_Mo_divide_233 ⟨fun _ => ?_, fun c => absurd (by rw [i_lt, z_0]; omega) c⟩
    obtain ⟨z1, z2⟩ := hz (by omega)
    refine hq WK T (fun k hk => ?_) z2 (by simpa using hlt) (fun k hk => hW k (by omega) hk) ?_
    · by_cases e : k = n0 + 1
      · rw [e]; exact z1
      · exact hT k (by omega)
    · simpa using hinv
  | succ j ih =>
    intro T WK x hi hx hT hz hW hlt hinv
    have hx' : x.toInt = (j : Int) := by omega
    have hDlt : D < BB ^ (n0 + 1) := by rw [← hD]; exact dval_lt (fun k hk => (hu k hk).to.2)
    have hD0 : 0 < D := by
      have := dval_top (f := nL un) (m := n0) (by omega)
      have := BB_pos n0
      omega
    have hsp : ∀ (U : Nat → Int64) (c : Nat), dval (nL U) (j + c) = dval (nL U) j + BB ^ j * dval (lL U j) c := fun U c => dval_split (nL U) j c
    obtain ⟨W, hWd⟩ : ∃ W, dval (lL T j) (n0 + 1 + 1) = W := ⟨_, rfl⟩
    have e1 : n0 + 1 + (j + 1) = j + (n0 + 1 + 1) := by omega
    rw [e1, hsp, hWd] at hlt hinv
    have hWlt : W < D * BB := by
      apply Nat.lt_of_mul_lt_mul_left (a := BB ^ j)
      have : BB ^ j * (D * BB) = D * BB ^ (j + 1) := by rw [BB_succ]; ac_rfl
      rw [this]
      omega
    refine R_Mo_divide_233 ⟨fun c => absurd c (by rw [i_lt, z_0]; omega), fun _ => ?_⟩
    refine S_Mo_digit (n0 := n0) (j := j) (W := W) (D := D) h7 hx' hn (by omega) hu (fun k hk => hT _ (by omega)) hv0 hWd (by rw [lL0]; exact hD) hWlt fun r tp' hr hok' hval' hsame => ⟨i_in hx' (by omega), fun x21 e21 => ?_⟩
    rw [i_nat hx']
    have hqB : W / D < BB := by
      rw [Nat.div_lt_iff_lt_mul hD0, Nat.mul_comm]
      exact hWlt
    have hqB' : W / D < 1073741824 := hqB
    have hr32 : r.toInt32.toInt = ((W / D : Nat) : Int) := j_narN hr (by omega)
    generalize r.toInt32 = w at *
    have hmod : W % D < D := Nat.mod_lt _ hD0
    have htopz : nL tp' (j + (n0 + 1)) = 0 := by
      rcases Nat.eq_zero_or_pos (nL tp' (j + (n0 + 1))) with y | y
      · exact y
      · exfalso
        have := dval_top (f := lL tp' j) (m := n0 + 1) (by show nL tp' (j + (n0 + 1)) ≠ 0; omega)
        omega
    have hlow : dval (lL tp' j) (n0 + 1) = W % D := by
      have e := hval'
      change dval (lL tp' j) (n0 + 1) + nL tp' (j + (n0 + 1)) * BB ^ (n0 + 1) = W % D at e
      rw [htopz, Nat.zero_mul] at e
      exact e
    have hbelow : dval (nL tp') j = dval (nL T) j := dval_congr fun k hk => by
      unfold nL
      rw [hsame k (Or.inl hk)]
    have e2 : n0 + 1 + j = j + (n0 + 1) := by omega
    have hlo : dval (nL T) j < BB ^ j := dval_lt fun k hk => (hT k (by omega)).to.2
    refine ih tp' _ x21 (by omega) (by rw [e21, i_add hx' z_m1 (by omega) (by omega)]; omega) (fun k hk => ?_) (fun _ => ?_) (fun k h1 h2 => ?_) ?_ ?_
    · by_cases c : k < j
      · rw [hsame k (Or.inl c)]; exact hT k (by omega)
      · have := hok' (k - j) (by omega)
        rw [show j + (k - j) = k by omega] at this
        exact this
    · rw [e2]
      exact ⟨hok' (n0 + 1) (by omega), htopz⟩
    · by_cases c : k = j
      · rw [c, up_same]; exact dok.of hr32 hqB
      · rw [up_ne c]; exact hW k (by omega) h2
    · rw [e2, hsp, hbelow, hlow]
      have : BB ^ j * (W % D) + BB ^ j ≤ D * BB ^ j := by
        rw [← Nat.mul_succ, Nat.mul_comm]
        exact Nat.mul_le_mul_right _ hmod
      omega
    · rw [e2, hsp, hbelow, hlow]
      have e3 : m + 1 - j = 1 + (m + 1 - (j + 1)) := by omega
      have e4 : dval (fun k => dn (up WK j w) (j + k)) (m + 1 - j) = W / D + BB * dval (fun k => dn WK (j + 1 + k)) (m + 1 - (j + 1)) := by
        rw [e3, dval_split]
        congr 1
        · show 0 + dn (up WK j w) (j + 0) * BB ^ 0 = W / D
          rw [Nat.add_zero, dn_up_same WK j hr32]
          simp
        · rw [Nat.pow_one]
          congr 1
          refine dval_congr fun k hk => ?_
          show dn (up WK j w) (j + (1 + k)) = dn WK (j + 1 + k)
          rw [dn_up_ne (by omega), Nat.add_assoc]
      rw [e4]
      rw [BB_succ] at hinv
      exact div_step hinv
