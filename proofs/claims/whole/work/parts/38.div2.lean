/-! division of the slots: the whole -/
theorem S_Mo_divide_end {vv0 : Nat → Value} {f l g WK : Nat → Int32} {T un : Nat → Int64} {V : Nat → Int} {v3 v4 v5 v6 v7 v8 v9 : Int32} {q t n m s : Nat} {zq zr : Int} {Q : (Nat → Int32) → (Nat → Int32) → (Nat → Int32) → (Nat → Int32) → (Nat → Int64) → (Nat → Int64) → Prop} (h : MR f l g V) (h3 : v3.toInt = (q : Int)) (hqs : q < 1371) (h4 : v4.toInt = (t : Int)) (ht : t < 1371) (h7 : v7.toInt = (n : Int)) (hn : n ≤ 64) (h8 : v8.toInt = (m : Int)) (hm : m ≤ 63) (h9 : v9.toInt = (s : Int)) (hs : s ≤ 29) (h56 : zq ≠ 0 → (v5 * v6).toInt = zq.sign) (h5 : zr ≠ 0 → v5.toInt = zr.sign) (hok : ∀ k, k ≤ n → okL (T k)) (htop : nL T n = 0) (hval : dval (nL T) n = zr.natAbs * 2 ^ s) (hW : ∀ k, k < m + 1 → dok (WK k)) (hWv : dval (dn WK) (m + 1) = zq.natAbs) (hq : ∀ f' l' g' wk' tp' un', MR f' l' g' (up (up V q zq) t zr) → Q f' l' g' wk' tp' un') : E_Mo_divide_260 vv0 f l g WK T un v3 v4 v5 v6 v7 v8 v9 Q := by
  have loop : ∀ (u i : Nat) (F : Nat → Int32) (x : Int32), i + u = m + 1 → x.toInt = (i : Int) → (∀ j, (j < 64 * q ∨ 64 * q + 64 ≤ j) → F j = f j) → (∀ k, k < i → F (64 * q + k) = WK k) → E_Mo_divide_263 vv0 F l g WK T un v3 v4 v5 v6 v7 v8 v9 x Q := by
    intro u
    induction u with
    | zero =>
      intro i F x hi hx hF hd
      have : i = m + 1 := by omega
      subst this
      have h81 : (v8 + 1).toInt = ((m + 1 : Nat) : Int) := by rw [i_add h8 z_1 (by omega) (by omega)]; omega
      refine R_Mo_divide_263 ⟨fun _ => R_Mo_divide_295 ?_, fun e => absurd (by rw [i_lt]; omega) e⟩
      refine S_Mo_trim (n := m + 1) (z := zq) ((h.mx q).congr hF (fun _ _ => rfl) (fun _ _ => rfl)) h3 hqs h81 (by omega) (fun k hk => by rw [hd k hk]; exact hW k hk) ?_ h56 fun l' g' hR => ?_
      · rw [← hWv]
        refine dval_congr fun k hk => ?_
        show dn F (64 * q + k) = dn WK k
        unfold dn
        rw [hd k hk]
      · exact S_Mo_divide_left hR h4 ht h7 hn h9 hs h5 hok htop hval fun f' l' g' hR' => hq _ _ _ _ _ _ hR'
    | succ u ih =>
      intro i F x hi hx hF hd
      have it := ixr h3 hx hqs (by omega)
      refine R_Mo_divide_263 ⟨fun e => absurd e (by rw [i_lt]; omega), fun _ => ⟨i_in hx (by omega), it.1, fun x22 e22 => ?_⟩⟩
      rw [it.2, i_nat hx]
      refine ih (i + 1) _ x22 (by omega) (by rw [e22, i_add hx z_1 (by omega) (by omega)]; omega) (fun j hj => by rw [up_ne (by omega)]; exact hF j hj) (fun k hk => ?_)
      by_cases e : k = i
      · rw [e, up_same]
      · rw [up_ne (by omega)]; exact hd k (by omega)
  exact R_Mo_divide_260 (loop (m + 1) 0 f 0 (by omega) z_0 (fun _ _ => rfl) (fun k hk => by omega))
theorem shl_step {dv cn X BM bi P : Nat} (h : dv + cn * X = BM * P) : dv + (bi * P + cn) % BB * X + (bi * P + cn) / BB * (X * BB) = (BM + X * bi) * P := by
  have cs := carry_step (bi * P + cn) X
  rw [Nat.add_mul] at cs
  rw [Nat.add_mul, show X * bi * P = bi * P * X by ac_rfl]
  omega
theorem td_small {a b : Int} (h : a.natAbs < b.natAbs) : a.tdiv b = 0 ∧ a.tmod b = a := by
  obtain ⟨h1, -, -, -⟩ := td_all a b
  rw [Nat.div_eq_of_lt h] at h1
  have h2 : a.tdiv b = 0 := by omega
  have h3 := Int.tmod_add_mul_tdiv a b
  rw [h2, Int.mul_zero, Int.add_zero] at h3
  exact ⟨h2, h3⟩
theorem S_Mo_divide {vv0 : Nat → Value} {f l g wk : Nat → Int32} {tp un : Nat → Int64} {V : Nat → Int} {v1 v2 v3 v4 : Int32} {a b q t : Nat} {Q : (Nat → Int32) → (Nat → Int32) → (Nat → Int32) → (Nat → Int32) → (Nat → Int64) → (Nat → Int64) → Prop} (h : MR f l g V) (h1 : v1.toInt = (a : Int)) (ha : a < 1371) (h2 : v2.toInt = (b : Int)) (hb : b < 1371) (h3 : v3.toInt = (q : Int)) (hqs : q < 1371) (h4 : v4.toInt = (t : Int)) (ht : t < 1371) (hqt : q ≠ t) (hB0 : V b ≠ 0) (hA : (V a).natAbs < BB ^ 63) (hq : ∀ f' l' g' wk' tp' un', MR f' l' g' (up (up V q ((V a).tdiv (V b))) t ((V a).tmod (V b))) → Q f' l' g' wk' tp' un') : P_Mo_divide vv0 f l g wk tp un v1 v2 v3 v4 Q := by
  obtain ⟨ma, hma, hla, hda, hhia, hloa, hga, hlea, -⟩ := (h a ha).of
  obtain ⟨mb, hmb, hlb, hdb, hhib, hlob, hgb, -, hzb⟩ := (h b hb).of
  have hma63 := hlea 63 hA
  have na := i_nat h1
  have nb := i_nat h2
  obtain ⟨tq, tr, tsq, tsr⟩ := td_all (V a) (V b)
  have short : (V a).natAbs < (V b).natAbs → E_Mo_divide_49 vv0 f l g wk tp un v1 v3 v4 Q := by
    intro hlt
    obtain ⟨e1, e2⟩ := td_small hlt
    refine R_Mo_divide_49 (S_Mo_copy h h1 ha h4 ht fun f' l' g' hR => S_Mo_set hR h3 hqs zL0 (by omega) fun f'' l'' g'' hR' => hq _ _ _ _ _ _ ?_)
    rw [e1, e2, up_comm V _ _ hqt]
    exact hR'
  have hmb0 : 0 < mb := by
    rcases Nat.eq_zero_or_pos mb with y | y
    · exfalso
      have := hzb.mp y
      omega
    · exact y
  obtain ⟨n0, hn0⟩ : ∃ n0, mb = n0 + 1 := ⟨mb - 1, by omega⟩
  subst hn0
  refine T_Mo_divide (R_Mo_divide_0 ⟨i_in h1 ha, fun x1 e1 => ⟨i_in h2 hb, fun x2 e2 => ⟨i_in h2 hb, fun x3 e3 => ⟨i_in h1 ha, fun x4 e4 => ?_⟩⟩⟩⟩)
  rw [na] at e1 e4
  rw [nb] at e2 e3
  have h5 : x1.toInt = (V a).sign := by rw [e1]; exact hga
  have h6 : x2.toInt = (V b).sign := by rw [e2]; exact hgb
  have h7 : x3.toInt = ((n0 + 1 : Nat) : Int) := by rw [e3]; exact hlb
  have h8 : x4.toInt = (ma : Int) - ((n0 + 1 : Nat) : Int) := by
    rw [e4]
    exact i_sub hla h7 (by omega) (by omega)
  clear e1 e2 e3 e4
  have shortlen : x4 < 0 → (V a).natAbs < (V b).natAbs := by
    intro c
    rw [i_lt, z_0] at c
    have k1 := hlob (by omega)
    have k2 : BB ^ ma ≤ BB ^ (n0 + 1 - 1) := Nat.pow_le_pow_right (by decide) (by omega)
    omega
  refine ⟨fun c => short (shortlen c), fun c => ?_⟩
  rw [i_lt, z_0] at c
  refine S_Mo_compareSizes h h1 ha h2 hb fun r5 hr5 => ⟨fun c5 => ?_, fun c5 => short ?_⟩
  · rw [i_le, z_0, hr5] at c5
    have hge : (V b).natAbs ≤ (V a).natAbs := by
      unfold cmpN at c5
      split at c5
      · omega
      · omega
    obtain ⟨m, hm⟩ : ∃ m, ma = n0 + 1 + m := ⟨ma - (n0 + 1), by omega⟩
    have h8' : x4.toInt = (m : Int) := by omega
    have sa := sgn_cases (V a)
    have sb := sgn_cases (V b)
    have h56 : (V a).tdiv (V b) ≠ 0 → (x1 * x2).toInt = ((V a).tdiv (V b)).sign := fun e => by
      rw [← tsq e]
      have : -1 ≤ (V a).sign * (V b).sign ∧ (V a).sign * (V b).sign ≤ 1 := by
        rcases sa with ⟨-, y⟩ | ⟨-, y⟩ | ⟨-, y⟩ <;> rcases sb with ⟨-, y'⟩ | ⟨-, y'⟩ | ⟨-, y'⟩ <;> rw [y, y'] <;> decide
      exact i_mul h5 h6 (by omega) (by omega)
    have h5' : (V a).tmod (V b) ≠ 0 → x1.toInt = ((V a).tmod (V b)).sign := fun e => by rw [← tsr e]; exact h5
    have hBpos : 0 < (V b).natAbs := by omega
    have hdtop := hdb n0 (by omega)
    have hlob' := hlob (by omega)
    rw [Nat.add_sub_cancel] at hlob'
    generalize hAA : (V a).natAbs = A at *
    generalize hBB' : (V b).natAbs = B at *
    have hdt : B / BB ^ n0 % BB = B / BB ^ n0 := by
      apply Nat.mod_eq_of_lt
      rw [Nat.div_lt_iff_lt_mul (BB_pos n0), Nat.mul_comm, ← BB_succ]
      exact hhib
    have hdt1 : 0 < B / BB ^ n0 := Nat.div_pos hlob' (BB_pos n0)
    have hdt2 : B / BB ^ n0 < 1073741824 := by
      rw [← hdt]
      exact Nat.mod_lt _ (by decide)
    have hBd : B < (B / BB ^ n0 + 1) * BB ^ n0 := by
      have := Nat.div_add_mod B (BB ^ n0)
      have h3 := Nat.mod_lt B (BB_pos n0)
      rw [Nat.add_mul, Nat.one_mul, Nat.mul_comm]
      omega
    rw [hdt] at hdtop
    -- behind the shift
    have main : ∀ (s : Nat) (v9 : Int32), v9.toInt = (s : Int) → s ≤ 29 → B / BB ^ n0 * 2 ^ s < 1073741824 → E_Mo_divide_94 vv0 f l g wk tp un v1 v2 v3 v4 x1 x2 x3 x4 v9 Q := by
      intro s v9 h9 hs hsB
      have hP1 : 0 < 2 ^ s := Nat.pow_pos (by decide)
      have hP2 : 2 ^ s ≤ 2 ^ 29 := Nat.pow_le_pow_right (by decide) hs
      have hPR : 2 ^ s * 2 ^ (30 - s) = BB := by
        rw [← Nat.pow_add, show s + (30 - s) = 30 by omega]
      have hBs : B * 2 ^ s < BB ^ (n0 + 1) := by
        have e1 : B / BB ^ n0 < 2 ^ (30 - s) := by
          apply Nat.lt_of_mul_lt_mul_left (a := 2 ^ s)
          rw [hPR, Nat.mul_comm]
          exact hsB
        have e2 : (B / BB ^ n0 + 1) * 2 ^ s ≤ BB := by
          have e2' := Nat.mul_le_mul_right (2 ^ s) (Nat.succ_le_of_lt e1)
          rw [Nat.mul_comm (2 ^ (30 - s)), hPR] at e2'
          exact e2'
        have e3 : B * 2 ^ s < (B / BB ^ n0 + 1) * BB ^ n0 * 2 ^ s := Nat.mul_lt_mul_of_pos_right hBd hP1
        have e4 : (B / BB ^ n0 + 1) * BB ^ n0 * 2 ^ s = (B / BB ^ n0 + 1) * 2 ^ s * BB ^ n0 := by ac_rfl
        have e5 : (B / BB ^ n0 + 1) * 2 ^ s * BB ^ n0 ≤ BB * BB ^ n0 := Nat.mul_le_mul_right _ e2
        rw [BB_succ, Nat.mul_comm (BB ^ n0)]
        omega
      generalize hPP : 2 ^ s = P at *
      -- the digits below
      have tops : ∀ (U : Nat → Int64), (∀ k, k < n0 + 1 → okL (U k)) → dval (nL U) (n0 + 1) = B * P → E_Mo_divide_154 vv0 f l g wk tp U v1 v3 v4 x1 x2 x3 x4 v9 Q := by
        intro U hU hUv
        have hU0 : 0 < nL U n0 := by
          rcases Nat.eq_zero_or_pos (nL U n0) with y | y
          · exfalso
            have e1 : dval (nL U) (n0 + 1) = dval (nL U) n0 := by
              show dval (nL U) n0 + nL U n0 * BB ^ n0 = _
              rw [y, Nat.zero_mul, Nat.add_zero]
            have e2 : dval (nL U) n0 < BB ^ n0 := dval_lt fun k hk => (hU k (by omega)).to.2
            have e3 : B * 1 ≤ B * P := Nat.mul_le_mul_left _ hP1
            omega
          · exact y
        have go : ∀ (T : Nat → Int64) (x16 : Int32), x16.toInt = (m : Int) → (∀ k, k < n0 + 1 + (m + 1) → okL (T k)) → dval (nL T) (n0 + 1 + (m + 1)) = A * P → E_Mo_divide_233 vv0 f l g wk T U v3 v4 x1 x2 x3 x4 v9 x16 Q := by
          intro T x16 h16 hT hTv
          refine S_Mo_divide_loop (A := A * P) (D := B * P) (m := m) h7 (by omega) (by omega) hU hU0 hUv (fun WK T' hT' hT0 hTl hWK hWv => ?_) (m + 1) T wk x16 (Nat.le_refl _) (by omega) hT (fun e => by omega) (fun k h1 h2 => by omega) ?_ ?_
          · have hBP : 0 < B * P := Nat.mul_pos hBpos hP1
            have eq1 : dval (dn WK) (m + 1) = A / B := by
              have : A * P / (B * P) = dval (dn WK) (m + 1) := by
                rw [← hWv, Nat.mul_comm _ (B * P), Nat.mul_add_div hBP, Nat.div_eq_of_lt hTl, Nat.add_zero]
              rw [← this, Nat.mul_div_mul_right _ _ hP1]
            have eq2 : dval (nL T') (n0 + 1) = A % B * P := by
              have : A * P % (B * P) = dval (nL T') (n0 + 1) := by
                rw [← hWv, Nat.mul_comm _ (B * P), Nat.mul_add_mod, Nat.mod_eq_of_lt hTl]
              rw [← this, Nat.mul_mod_mul_right]
            refine S_Mo_divide_end (zq := (V a).tdiv (V b)) (zr := (V a).tmod (V b)) (s := s) h h3 hqs h4 ht h7 (by omega) h8' (by omega) h9 hs h56 h5' hT' hT0 ?_ hWK ?_ hq
            · rw [eq2, tr, hPP]
            · rw [eq1, tq]
          · rw [hTv]
            have e1 : A * P < BB ^ (n0 + 1 + m) * P := Nat.mul_lt_mul_of_pos_right (by rw [← hm]; exact hhia) hP1
            have e2 : BB ^ n0 * P ≤ B * P := Nat.mul_le_mul_right _ hlob'
            have e3 : BB ^ (n0 + 1 + m) * P = BB ^ n0 * P * BB ^ (m + 1) := by
              rw [show n0 + 1 + m = n0 + (m + 1) by omega, Nat.pow_add]
              ac_rfl
            have e4 : BB ^ n0 * P * BB ^ (m + 1) ≤ B * P * BB ^ (m + 1) := Nat.mul_le_mul_right _ e2
            omega
          · rw [Nat.sub_self, hTv]
            simp [dval]
        have loop : ∀ (u i : Nat) (T : Nat → Int64) (c : Int64) (cn : Nat) (x : Int32), i + u = ma → x.toInt = (i : Int) → c.toInt = (cn : Int) → cn < P → (∀ k, k < i → okL (T k)) → dval (nL T) i + cn * BB ^ i = A % BB ^ i * P → E_Mo_divide_160 vv0 f l g wk T U v1 v3 v4 x1 x2 x3 x4 v9 c x Q := by
          intro u
          induction u with
          | zero =>
            intro i T c cn x hi hx hc hcn hT hinv
            have : i = ma := by omega
            subst this
            have h78 : (x3 + x4).toInt = (i : Int) := by rw [i_add h7 h8' (by omega) (by omega)]; omega
            refine R_Mo_divide_160 ⟨fun _ => R_Mo_divide_217 ⟨i_in h78 (by omega), ?_⟩, fun e => absurd (by rw [i_le]; omega) e⟩
            rw [i_nat h78]
            rw [Nat.mod_eq_of_lt hhia] at hinv
            refine go _ x4 h8' (fun k hk => ?_) ?_
            · by_cases e : k = i
              · rw [e, up_same]; exact okL.of hc (by omega)
              · rw [up_ne e]; exact hT k (by omega)
            · rw [show n0 + 1 + (m + 1) = i + 1 by omega, dval_nL1 T i hc]
              exact hinv
          | succ u ih =>
            intro i T c cn x hi hx hc hcn hT hinv
            have ia := ixr h1 hx ha (by omega)
            have h78 : (x3 + x4).toInt = (ma : Int) := by rw [i_add h7 h8' (by omega) (by omega)]; omega
            refine R_Mo_divide_160 ⟨fun e => absurd e (by rw [i_le]; omega), fun _ => ⟨ia.1, fun x16 e16 => ⟨i_in hx (by omega), fun x17 e17 x18 e18 => ?_⟩⟩⟩
            rw [ia.2] at e16
            rw [i_nat hx]
            have da := hda i (by omega)
            have bA : A / BB ^ i % BB < 1073741824 := Nat.mod_lt _ (by decide)
            have hmod : A % BB ^ (i + 1) = A % BB ^ i + BB ^ i * (A / BB ^ i % BB) := Nat.mod_pow_succ
            generalize A / BB ^ i % BB = ai at *
            have hpr : ai * P + P ≤ 1073741824 * P := by
              rw [← Nat.succ_mul]
              exact Nat.mul_le_mul_right _ bA
            have hsh := j_shlN (k := s) (i_wide da) h9 (by omega) (by rw [hPP]; omega)
            rw [hPP] at hsh
            have h16 : x16.toInt = ((ai * P + cn : Nat) : Int) := by
              rw [e16]
              exact j_addN hsh hc (by omega)
            have hdig : (x16 &&& (1073741823 : Int64)).toInt = (((ai * P + cn) % BB : Nat) : Int) := by rw [j_mask, h16]; rfl
            generalize (x16 &&& (1073741823 : Int64)) = w at *
            refine ih (i + 1) _ x17 ((ai * P + cn) / BB) x18 (by omega) (by rw [e18, i_add hx z_1 (by omega) (by omega)]; omega) (by rw [e17, j_shr30, h16]; rfl) ?_ (fun k hk => ?_) ?_
            · exact Nat.div_lt_of_lt_mul (show _ < 1073741824 * P by omega)
            · by_cases e : k = i
              · rw [e, up_same]; exact okL.of hdig (Nat.mod_lt _ (by decide))
              · rw [up_ne e]; exact hT k (by omega)
            · rw [dval_nL1 T i hdig, hmod, BB_succ]
              exact shl_step hinv
        exact R_Mo_divide_154 (loop ma 0 tp 0 0 0 (by omega) z_0 zL0 hP1 (fun k hk => by omega) (by simp [dval, Nat.mod_one]))
      have loop : ∀ (u i : Nat) (U : Nat → Int64) (c : Int64) (cn : Nat) (x : Int32), i + u = n0 + 1 → x.toInt = (i : Int) → c.toInt = (cn : Int) → cn < P → (∀ k, k < i → okL (U k)) → dval (nL U) i + cn * BB ^ i = B % BB ^ i * P → E_Mo_divide_100 vv0 f l g wk tp U v1 v2 v3 v4 x1 x2 x3 x4 v9 c x Q := by
        intro u
        induction u with
        | zero =>
          intro i U c cn x hi hx hc hcn hT hinv
          have : i = n0 + 1 := by omega
          subst this
          refine R_Mo_divide_100 ⟨fun _ => tops U hT ?_, fun e => absurd (by rw [i_le]; omega) e⟩
          rw [Nat.mod_eq_of_lt hhib] at hinv
          rcases Nat.eq_zero_or_pos cn with y | y
          · rw [y, Nat.zero_mul, Nat.add_zero] at hinv
            exact hinv
          · exfalso
            have : 1 * BB ^ (n0 + 1) ≤ cn * BB ^ (n0 + 1) := Nat.mul_le_mul_right _ y
            omega
        | succ u ih =>
          intro i U c cn x hi hx hc hcn hT hinv
          have ib := ixr h2 hx hb (by omega)
          refine R_Mo_divide_100 ⟨fun e => absurd e (by rw [i_le]; omega), fun _ => ⟨ib.1, fun x13 e13 => ⟨i_in hx (by omega), fun x14 e14 x15 e15 => ?_⟩⟩⟩
          rw [ib.2] at e13
          rw [i_nat hx]
          have db := hdb i (by omega)
          have bB : B / BB ^ i % BB < 1073741824 := Nat.mod_lt _ (by decide)
          have hmod : B % BB ^ (i + 1) = B % BB ^ i + BB ^ i * (B / BB ^ i % BB) := Nat.mod_pow_succ
          generalize B / BB ^ i % BB = bi at *
          have hpr : bi * P + P ≤ 1073741824 * P := by
            rw [← Nat.succ_mul]
            exact Nat.mul_le_mul_right _ bB
          have hsh := j_shlN (k := s) (i_wide db) h9 (by omega) (by rw [hPP]; omega)
          rw [hPP] at hsh
          have h13 : x13.toInt = ((bi * P + cn : Nat) : Int) := by
            rw [e13]
            exact j_addN hsh hc (by omega)
          have hdig : (x13 &&& (1073741823 : Int64)).toInt = (((bi * P + cn) % BB : Nat) : Int) := by rw [j_mask, h13]; rfl
          generalize (x13 &&& (1073741823 : Int64)) = w at *
          refine ih (i + 1) _ x14 ((bi * P + cn) / BB) x15 (by omega) (by rw [e15, i_add hx z_1 (by omega) (by omega)]; omega) (by rw [e14, j_shr30, h13]; rfl) ?_ (fun k hk => ?_) ?_
          · exact Nat.div_lt_of_lt_mul (show _ < 1073741824 * P by omega)
          · by_cases e : k = i
            · rw [e, up_same]; exact okL.of hdig (Nat.mod_lt _ (by decide))
            · rw [up_ne e]; exact hT k (by omega)
          · rw [dval_nL1 U i hdig, hmod, BB_succ]
            exact shl_step hinv
      exact R_Mo_divide_94 (loop (n0 + 1) 0 un 0 0 0 (by omega) z_0 zL0 hP1 (fun k hk => by omega) (by simp [dval, Nat.mod_one]))
    have zT : (536870912 : Int32).toInt = 536870912 := by decide
    have hxb : ((64 : Int32) * v2 + x3 - 1).toInt = ((64 * b + n0 : Nat) : Int) := by
      rw [i_sub (ix h2 h7 hb (by omega)) z_1 (by omega) (by omega)]
      omega
    have norm : ∀ (u s : Nat) (v9 : Int32), s + u = 29 → v9.toInt = (s : Int) → B / BB ^ n0 * 2 ^ s < 1073741824 → E_Mo_divide_66 vv0 f l g wk tp un v1 v2 v3 v4 x1 x2 x3 x4 v9 Q := by
      intro u
      induction u with
      | zero =>
        intro s v9 hsu h9 hlt
        have hs29 : s = 29 := by omega
        refine R_Mo_divide_66 ⟨i_in hxb (by omega), fun _ => main s v9 h9 (by omega) hlt, fun e => absurd ?_ e⟩
        rw [i_nat hxb, i_le, zT, i_shl hdtop h9 (by omega) (by omega)]
        have : 1 * 2 ^ s ≤ B / BB ^ n0 * 2 ^ s := Nat.mul_le_mul_right _ hdt1
        rw [hs29] at this ⊢
        omega
      | succ u ih =>
        intro s v9 hsu h9 hlt
        refine R_Mo_divide_66 ⟨i_in hxb (by omega), fun _ => main s v9 h9 (by omega) hlt, fun e x12 e12 => ?_⟩
        rw [i_nat hxb, i_le, zT, i_shl hdtop h9 (by omega) (by omega)] at e
        refine ih (s + 1) x12 (by omega) (by rw [e12, i_add h9 z_1 (by omega) (by omega)]; omega) ?_
        rw [Nat.pow_succ, ← Nat.mul_assoc]
        omega
    exact R_Mo_divide_63 (norm 29 0 0 (by omega) z_0 (by rw [Nat.pow_zero, Nat.mul_one]; exact hdt2))
  · rw [i_le, z_0, hr5] at c5
    unfold cmpN at c5
    split at c5
    · assumption
    · split at c5 <;> omega
