/-! the slots of the reference: a digit of a quotient -/
theorem kn1 {two v X wl dl : Nat} (hX : 0 < X) (hwl : wl < X) (hv : 0 < v) : (two * X + wl) / (v * X + dl) ≤ two / v := by
  rw [Nat.le_div_iff_mul_le hv]
  have h1 := Nat.div_mul_le_self (two * X + wl) (v * X + dl)
  generalize (two * X + wl) / (v * X + dl) = q at *
  rw [Nat.mul_add] at h1
  have h2 : q * (v * X) = q * v * X := by ac_rfl
  have h3 : q * v * X < (two + 1) * X := by rw [Nat.add_mul]; omega
  have := Nat.lt_of_mul_lt_mul_right h3
  omega
theorem kn2 {q U d Y wl dl : Nat} (hd : 0 < d * Y + dl) (hwl : wl < Y) (h : U < q * d) : (U * Y + wl) / (d * Y + dl) < q := by
  rw [Nat.div_lt_iff_lt_mul hd, Nat.mul_add]
  have h1 : (U + 1) * Y ≤ q * d * Y := Nat.mul_le_mul_right _ h
  have h2 : q * (d * Y) = q * d * Y := by ac_rfl
  rw [Nat.add_mul] at h1
  omega
theorem kn3 {q U d Y wl dl : Nat} (hdl : dl < Y) (h : q * d ≤ U) (hq : q ≤ BB) (hd : BB ≤ d) : q ≤ (U * Y + wl) / (d * Y + dl) + 1 := by
  have hp : 0 < d * Y + dl := by
    have : 0 < d * Y := Nat.mul_pos (Nat.lt_of_lt_of_le (by decide) hd) (by omega)
    omega
  rcases Nat.eq_zero_or_pos q with z | z
  · rw [z]
    exact Nat.zero_le _
  · have : q - 1 ≤ (U * Y + wl) / (d * Y + dl) := by
      rw [Nat.le_div_iff_mul_le hp]
      obtain ⟨p, rfl⟩ : ∃ p, q = p + 1 := ⟨q - 1, by omega⟩
      rw [Nat.add_sub_cancel]
      have h1 : (p + 1) * d * Y ≤ U * Y := Nat.mul_le_mul_right _ h
      have h2 : (p + 1) * dl ≤ BB * Y := Nat.mul_le_mul hq (by omega)
      have h3 : BB * Y ≤ d * Y := Nat.mul_le_mul_right _ hd
      have h4 : (p + 1) * d * Y = p * (d * Y) + d * Y := by rw [Nat.mul_assoc, Nat.add_mul, Nat.one_mul]
      have h5 : (p + 1) * dl = p * dl + dl := by rw [Nat.add_mul, Nat.one_mul]
      rw [Nat.mul_add]
      omega
    omega
def okL (x : Int64) : Prop := 0 ≤ x.toInt ∧ x.toInt < 1073741824
def nL (f : Nat → Int64) (k : Nat) : Nat := (f k).toInt.toNat
def lL (f : Nat → Int64) (j : Nat) : Nat → Nat := fun k => nL f (j + k)
theorem okL.to {f : Nat → Int64} {k : Nat} (h : okL (f k)) : (f k).toInt = (nL f k : Int) ∧ nL f k < 1073741824 := by
  obtain ⟨h1, h2⟩ := h
  unfold nL
  omega
theorem okL.of {x : Int64} {v : Nat} (h : x.toInt = (v : Int)) (hv : v < 1073741824) : okL x := by
  unfold okL
  omega
theorem nL_same (f : Nat → Int64) (k : Nat) {x : Int64} {v : Nat} (h : x.toInt = (v : Int)) : nL (up f k x) k = v := by
  unfold nL
  rw [up_same, h]
  omega
theorem nL_ne {f : Nat → Int64} {k j : Nat} {x : Int64} (h : j ≠ k) : nL (up f k x) j = nL f j := by
  unfold nL
  rw [up_ne h]
theorem dval_lL1 (f : Nat → Int64) (j i : Nat) {x : Int64} {v : Nat} (h : x.toInt = (v : Int)) : dval (lL (up f (j + i) x) j) (i + 1) = dval (lL f j) i + v * BB ^ i := by
  show dval (lL (up f (j + i) x) j) i + nL (up f (j + i) x) (j + i) * BB ^ i = _
  rw [nL_same f (j + i) h]
  congr 1
  exact dval_congr fun k hk => show nL (up f (j + i) x) (j + k) = nL f (j + k) from nL_ne (by omega)
/-- the digit once it is known but for 1: take it off, put back what was too much -/
theorem S_Mo_digit_take {vv0 : Nat → Value} {tp un : Nat → Int64} {v1 v2 : Int32} {v5 : Int64} {n j q W D : Nat} {Q : Int64 → (Nat → Int64) → Prop} (h1 : v1.toInt = (n : Int)) (h2 : v2.toInt = (j : Int)) (h5 : v5.toInt = (q : Int)) (hn : n ≤ 64) (hj : j ≤ 64) (hu : ∀ k, k < n → okL (un k)) (ht : ∀ k, k ≤ n → okL (tp (j + k))) (hW : dval (lL tp j) (n + 1) = W) (hD : dval (lL un 0) n = D) (hD0 : 0 < D) (hlt : W < D * BB) (hq0 : W / D ≤ q) (hq1 : q ≤ W / D + 1) (hqB : q < 1073741824) (hq : ∀ (r : Int64) tp', r.toInt = ((W / D : Nat) : Int) → (∀ k, k ≤ n → okL (tp' (j + k))) → dval (lL tp' j) (n + 1) = W % D → (∀ i, (i < j ∨ j + n < i) → tp' i = tp i) → Q r tp') : E_Mo_digit_138 vv0 tp un v1 v2 v5 Q := by
  have zM : (1073741823 : Int64).toInt = 1073741823 := by decide
  have hDB : D < BB ^ n := by
    rw [← hD]
    refine dval_lt fun k hk => ?_
    have := (hu k hk).to.2
    show nL un (0 + k) < 1073741824
    rw [Nat.zero_add]
    exact this
  have hdm := Nat.div_add_mod W D
  have hml := Nat.mod_lt W hD0
  have hsum : (n : Int) + (j : Int) < 2147483648 := by omega
  have hjn : (v2 + v1).toInt = ((j + n : Nat) : Int) := by rw [i_add h2 h1 (by omega) (by omega)]; omega
  -- put back
  have back : ∀ (m i : Nat) (F G : Nat → Int64) (x5 c : Int64) (x : Int32) (cn : Nat), i + m = n → x.toInt = (i : Int) → c.toInt = (cn : Int) → cn ≤ 1 → x5.toInt = ((W / D : Nat) : Int) → (∀ k, k ≤ n → okL (G (j + k))) → (∀ k, k ≤ n → okL (F (j + k))) → (∀ k, (k < j ∨ j + n < k) → F k = tp k) → (∀ k, j + i ≤ k → F k = G k) → dval (lL F j) i + cn * BB ^ i = dval (lL G j) i + dval (lL un 0) i → dval (lL G j) (n + 1) + D = BB ^ (n + 1) + W % D → E_Mo_digit_298 vv0 F un v1 v2 x5 c x Q := by
    intro m
    induction m with
    | zero =>
      intro i F G x5 c x cn hi hx hc hcn h5 hG hF hout hrest hval htot
      have hin : i = n := by omega
      subst hin
      refine R_Mo_digit_298 ⟨fun _ => R_Mo_digit_354 ⟨i_in hjn (by omega), i_in hjn (by omega), R_Mo_digit_377 ?_⟩, fun e => absurd (by rw [i_le]; omega) e⟩
      rw [i_nat hjn]
      have qF := (hF i (Nat.le_refl i)).to
      have hlow := dval_lt (f := lL F j) (m := i) (fun k hk => (hF k (by omega)).to.2)
      have e1 : F (j + i) = G (j + i) := hrest _ (by omega)
      have htot2 : dval (lL F j) i + (nL F (j + i) + cn) * BB ^ i = BB ^ i * BB + W % D := by
        have e2 : nL F (j + i) = nL G (j + i) := by unfold nL; rw [e1]
        have e3 : dval (lL G j) (i + 1) = dval (lL G j) i + nL G (j + i) * BB ^ i := rfl
        rw [e3, BB_succ] at htot
        rw [hD] at hval
        rw [Nat.add_mul, e2]
        omega
      have hmB : W % D < BB ^ i := by omega
      have htop : nL F (j + i) + cn = BB := by
        have g1 : nL F (j + i) + cn < BB + 1 := by
          refine Nat.lt_of_mul_lt_mul_right (a := BB ^ i) ?_
          rw [Nat.add_mul BB, Nat.mul_comm BB, Nat.one_mul]
          omega
        have g2 : BB < nL F (j + i) + cn + 1 := by
          refine Nat.lt_of_mul_lt_mul_right (a := BB ^ i) ?_
          rw [Nat.add_mul (nL F (j + i) + cn) 1, Nat.mul_comm BB, Nat.one_mul]
          omega
        omega
      have hs : ((F (j + i) + c) &&& (1073741823 : Int64)).toInt = ((0 : Nat) : Int) := by
        rw [j_mask, j_add qF.1 hc (by omega) (by omega)]
        have : ((nL F (j + i) : Int) + (cn : Int)) = 1073741824 := by
          have : nL F (j + i) + cn = 1073741824 := htop
          omega
        rw [this]
        rfl
      refine hq _ _ h5 (fun k hk => ?_) ?_ (fun k hk => by rw [up_ne (by omega)]; exact hout k hk)
      · by_cases e : k = i
        · rw [e, up_same]; exact okL.of hs (by omega)
        · rw [up_ne (by omega)]; exact hF k hk
      · rw [dval_lL1 F j i hs, Nat.zero_mul]
        rw [htop, Nat.mul_comm BB] at htot2
        omega
    | succ m ih =>
      intro i F G x5 c x cn hi hx hc hcn h5 hG hF hout hrest hval htot
      have hjx : (v2 + x).toInt = ((j + i : Nat) : Int) := by rw [i_add h2 hx (by omega) (by omega)]; omega
      refine R_Mo_digit_298 ⟨fun e => absurd e (by rw [i_le]; omega), fun _ => ⟨i_in hjx (by omega), i_in hx (by omega), fun x12 e12 => ⟨i_in hjx (by omega), fun x13 e13 x14 e14 => ?_⟩⟩⟩
      rw [i_nat hjx] at e12 ⊢
      rw [i_nat hx] at e12
      have qF := (hF i (by omega)).to
      have qu := (hu i (by omega)).to
      have e1 : nL F (j + i) = nL G (j + i) := by unfold nL; rw [hrest _ (Nat.le_refl _)]
      have h12 : x12.toInt = ((nL F (j + i) + nL un i + cn : Nat) : Int) := by
        rw [e12, j_add (j_add qF.1 qu.1 (by omega) (by omega)) hc (by omega) (by omega)]
        omega
      have hdig : (x12 &&& (1073741823 : Int64)).toInt = (((nL F (j + i) + nL un i + cn) % BB : Nat) : Int) := by rw [j_mask, h12]; rfl
      have hdl : (nL F (j + i) + nL un i + cn) % BB < 1073741824 := Nat.mod_lt _ (by decide)
      refine ih (i + 1) _ G x5 x13 x14 ((nL F (j + i) + nL un i + cn) / BB) (by omega) (by rw [e14, i_add hx z_1 (by omega) (by omega)]; omega) (by rw [e13, j_shr30, h12]; rfl) ?_ h5 hG (fun k hk => ?_) (fun k hk => by rw [up_ne (by omega)]; exact hout k hk) (fun k hk => by rw [up_ne (by omega)]; exact hrest k (by omega)) ?_ htot
      · show (nL F (j + i) + nL un i + cn) / 1073741824 ≤ 1
        omega
      · by_cases e : k = i
        · rw [e, up_same]; exact okL.of hdig hdl
        · rw [up_ne (by omega)]; exact hF k hk
      · rw [dval_lL1 F j i hdig]
        have cs := carry_step (nL F (j + i) + nL un i + cn) (BB ^ i)
        rw [BB_succ]
        have e3 : dval (lL G j) (i + 1) = dval (lL G j) i + nL G (j + i) * BB ^ i := rfl
        have e4 : dval (lL un 0) (i + 1) = dval (lL un 0) i + nL un (0 + i) * BB ^ i := rfl
        rw [e3, e4, Nat.zero_add, ← e1]
        rw [Nat.add_mul, Nat.add_mul] at cs
        omega
  -- take off
  have take : ∀ (m i : Nat) (F : Nat → Int64) (c : Int64) (x : Int32) (cn : Nat), i + m = n → x.toInt = (i : Int) → c.toInt = (cn : Int) → cn ≤ 1073741824 → (∀ k, k ≤ n → okL (F (j + k))) → (∀ k, (k < j ∨ j + i ≤ k) → F k = tp k) → dval (lL F j) i + q * dval (lL un 0) i = dval (lL tp j) i + cn * BB ^ i → E_Mo_digit_144 vv0 F un v1 v2 v5 c x Q := by
    intro m
    induction m with
    | zero =>
      intro i F c x cn hi hx hc hcn hF hout hval
      have hin : i = n := by omega
      subst hin
      refine R_Mo_digit_144 ⟨fun _ => R_Mo_digit_238 ⟨i_in hjn (by omega), fun x8 e8 => ?_⟩, fun e => absurd (by rw [i_le]; omega) e⟩
      rw [i_nat hjn] at e8
      have qF := (hF i (Nat.le_refl i)).to
      have e1 : nL F (j + i) = nL tp (j + i) := by unfold nL; rw [hout _ (by omega)]
      have h8 : x8.toInt = (nL F (j + i) : Int) - (cn : Int) := by rw [e8, j_sub qF.1 hc (by omega) (by omega)]
      have hlow := dval_lt (f := lL F j) (m := i) (fun k hk => (hF k (by omega)).to.2)
      rw [hD] at hval
      have hWe : dval (lL tp j) i + nL F (j + i) * BB ^ i = W := by rw [e1, ← hW]; rfl
      refine ⟨fun c0 => R_Mo_digit_276 (R_Mo_digit_278 ⟨i_in hjn (by omega), fun c1 => R_Mo_digit_377 ?_, fun c1 => absurd c0 c1⟩), fun c0 => R_Mo_digit_278 ⟨i_in hjn (by omega), fun c1 => absurd c1 c0, fun c1 x10 e10 => ?_⟩⟩
      · rw [lg_ge0, h8, zL0] at c0
        rw [i_nat hjn]
        have h8' : x8.toInt = ((nL F (j + i) - cn : Nat) : Int) := by omega
        have hv := dval_lL1 F j i h8'
        have hle : cn * BB ^ i ≤ nL F (j + i) * BB ^ i := Nat.mul_le_mul_right _ (by omega)
        rw [Nat.sub_mul] at hv
        have htot : dval (lL (up F (j + i) x8) j) (i + 1) + q * D = W := by omega
        have hqe : q = W / D := by
          refine Nat.le_antisymm ?_ hq0
          rw [Nat.le_div_iff_mul_le hD0]
          omega
        refine hq _ _ (by rw [h5, hqe]) (fun k hk => ?_) ?_ (fun k hk => by rw [up_ne (by omega)]; exact hout k (by omega))
        · by_cases e : k = i
          · rw [e, up_same]; exact okL.of h8' (by omega)
          · rw [up_ne (by omega)]; exact hF k hk
        · rw [hqe, Nat.mul_comm] at htot
          omega
      · rw [lg_ge0, h8, zL0] at c0
        rw [i_nat hjn]
        have hs : ((x8 + (1073741823 : Int64)) + (1 : Int64)).toInt = ((nL F (j + i) + 1073741824 - cn : Nat) : Int) := by
          rw [j_add (j_add h8 zM (by omega) (by omega)) zL1 (by omega) (by omega)]
          omega
        generalize ((x8 + (1073741823 : Int64)) + (1 : Int64)) = y at *
        have hv := dval_lL1 F j i hs
        have hle : cn * BB ^ i ≤ (nL F (j + i) + 1073741824) * BB ^ i := Nat.mul_le_mul_right _ (by omega)
        rw [Nat.sub_mul, Nat.add_mul] at hv
        rw [Nat.add_mul] at hle
        have e9 : 1073741824 * BB ^ i = BB ^ (i + 1) := by rw [BB_succ, Nat.mul_comm]
        rw [e9] at hv hle
        have htot : dval (lL (up F (j + i) y) j) (i + 1) + q * D = W + BB ^ (i + 1) := by omega
        have hqe : q = W / D + 1 := by
          rcases Nat.lt_or_ge (W / D) q with z | z
          · omega
          · exfalso
            have e2 : q * D ≤ W / D * D := Nat.mul_le_mul_right _ z
            have e3 := Nat.div_mul_le_self W D
            have e4 : (nL F (j + i) + 1) * BB ^ i ≤ cn * BB ^ i := Nat.mul_le_mul_right _ (by omega)
            rw [Nat.add_mul, Nat.one_mul] at e4
            omega
        have hokU : ∀ k, k ≤ i → okL (up F (j + i) y (j + k)) := fun k hk => by
          by_cases e : k = i
          · rw [e, up_same]; exact okL.of hs (by omega)
          · rw [up_ne (by omega)]; exact hF k hk
        refine back i 0 _ (up F (j + i) y) x10 0 0 0 (by omega) z_0 zL0 (by omega) ?_ hokU hokU (fun k hk => by rw [up_ne (by omega)]; exact hout k (by omega)) (fun _ _ => rfl) (by simp [dval]) ?_
        · rw [e10, j_sub h5 zL1 (by omega) (by omega)]
          omega
        · rw [hqe, Nat.add_mul, Nat.one_mul, Nat.mul_comm (W / D)] at htot
          omega
    | succ m ih =>
      intro i F c x cn hi hx hc hcn hF hout hval
      have hjx : (v2 + x).toInt = ((j + i : Nat) : Int) := by rw [i_add h2 hx (by omega) (by omega)]; omega
      have qF := (hF i (by omega)).to
      have qu := (hu i (by omega)).to
      have e1 : nL F (j + i) = nL tp (j + i) := by unfold nL; rw [hout _ (by omega)]
      have hprod : q * nL un i ≤ 1073741823 * 1073741823 := Nat.mul_le_mul (by omega) (by omega)
      refine R_Mo_digit_144 ⟨fun e => absurd e (by rw [i_le]; omega), fun _ => ⟨i_in hx (by omega), fun x6 e6 => ⟨i_in hjx (by omega), fun x7 e7 => ?_⟩⟩⟩
      rw [i_nat hx] at e6
      rw [i_nat hjx] at e7
      have h6 : x6.toInt = ((q * nL un i + cn : Nat) : Int) := by
        have hm := j_mul h5 qu.1 (by rw [← Int.natCast_mul]; omega) (by rw [← Int.natCast_mul]; omega)
        rw [← Int.natCast_mul] at hm
        rw [e6, j_add hm hc (by omega) (by omega)]
        omega
      have hmask : (x6 &&& (1073741823 : Int64)).toInt = (((q * nL un i + cn) % 1073741824 : Nat) : Int) := by rw [j_mask, h6]; rfl
      have hsh : (x6 >>> ((30 : Int32).toInt64 &&& 63)).toInt = (((q * nL un i + cn) / 1073741824 : Nat) : Int) := by rw [j_shr30, h6]; rfl
      have e4 : dval (lL un 0) (i + 1) = dval (lL un 0) i + nL un (0 + i) * BB ^ i := rfl
      have e3 : dval (lL tp j) (i + 1) = dval (lL tp j) i + nL tp (j + i) * BB ^ i := rfl
      rw [Nat.zero_add] at e4
      generalize hu' : nL un i = u at *
      generalize hP : q * u + cn = P at *
      generalize hF' : nL F (j + i) = T at *
      have h7 : x7.toInt = (T : Int) - ((P % 1073741824 : Nat) : Int) := by rw [e7, j_sub qF.1 hmask (by omega) (by omega)]
      have fin : ∀ (s1 s2 : Int64) (d b : Nat), s1.toInt = (b : Int) → s2.toInt = (d : Int) → d < 1073741824 → b ≤ 1 → d + P % 1073741824 = T + b * 1073741824 → ∀ x9 : Int64, x9 = x6 >>> ((30 : Int32).toInt64 &&& 63) + s1 → E_Mo_digit_231 vv0 F un v1 v2 v5 x9 x (v2 + x) s2 Q := by
        intro s1 s2 d b hb hd hdl hbl heq x9 e9
        refine R_Mo_digit_231 ⟨i_in hjx (by omega), fun x11 e11 => ?_⟩
        rw [i_nat hjx]
        refine ih (i + 1) _ x9 x11 (P / 1073741824 + b) (by omega) (by rw [e11, i_add hx z_1 (by omega) (by omega)]; omega) (by rw [e9, j_add hsh hb (by omega) (by omega)]; omega) (by omega) (fun k hk => ?_) (fun k hk => by rw [up_ne (by omega)]; exact hout k (by omega)) ?_
        · by_cases e : k = i
          · rw [e, up_same]; exact okL.of hd hdl
          · rw [up_ne (by omega)]; exact hF k hk
        · rw [dval_lL1 F j i hd, e4, e3, BB_succ, ← e1]
          have g1 : d + (q * u + cn) = T + (P / 1073741824 + b) * 1073741824 := by omega
          have g2 : (d + (q * u + cn)) * BB ^ i = (T + (P / 1073741824 + b) * 1073741824) * BB ^ i := by rw [g1]
          rw [Nat.add_mul, Nat.add_mul, Nat.add_mul] at g2
          have g3 : (P / 1073741824 + b) * (BB ^ i * BB) = (P / 1073741824 + b) * 1073741824 * BB ^ i := by
            show (P / 1073741824 + b) * (BB ^ i * 1073741824) = _
            ac_rfl
          rw [g3, Nat.mul_add, ← Nat.mul_assoc]
          omega
      refine ⟨fun c0 => R_Mo_digit_199 (R_Mo_digit_200 fun x9 e9 => ⟨fun c1 => R_Mo_digit_229 (fin 0 x7 (T - P % 1073741824) 0 zL0 ?_ ?_ (by omega) ?_ x9 e9), fun c1 => absurd c0 c1⟩), fun c0 => R_Mo_digit_200 fun x9 e9 => ⟨fun c1 => absurd c1 c0, fun c1 => fin 1 _ (T + 1073741824 - P % 1073741824) 1 zL1 ?_ ?_ (by omega) ?_ x9 e9⟩⟩
      · rw [lg_ge0, h7, zL0] at c0
        omega
      · omega
      · rw [lg_ge0, h7, zL0] at c0
        omega
      · rw [lg_ge0, h7, zL0] at c0
        rw [j_add (j_add h7 zM (by omega) (by omega)) zL1 (by omega) (by omega)]
        omega
      · rw [lg_ge0, h7, zL0] at c0
        omega
      · rw [lg_ge0, h7, zL0] at c0
        omega
  exact R_Mo_digit_138 (take n 0 tp 0 0 0 (by omega) z_0 zL0 (by omega) ht (fun _ _ => rfl) (by simp [dval]))
