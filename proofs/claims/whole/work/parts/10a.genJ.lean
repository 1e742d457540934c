/-! FlungFingers.isWithin(III)Z -/
def M_F_isWithin : rxM := (yX11_isWithin, cX11_isWithin, 3, (some .boolean))
theorem gM_F_isWithin : rx_gM M_F_isWithin 3 := ⟨rx_tw 553 (by decide +kernel) rfl, tw_99, ⟨by decide +kernel, by decide +kernel, by decide +kernel⟩, by decide⟩
def G_F_isWithin  : va_W := []
def K_F_isWithin (Q : Int32 → Prop) : rxR := fun r w => (∃ (rr : Int32), r = some (.int rr) ∧ w = G_F_isWithin  ∧ Q rr)
theorem I_F_isWithin {Q : Int32 → Prop} {rr : Int32} (h : Q rr) : K_F_isWithin Q (some (.int rr)) (G_F_isWithin ) := ⟨rr, rfl, rfl, h⟩
def P_F_isWithin (v0 : Int32) (v1 : Int32) (v2 : Int32) (Q : Int32 → Prop) : Prop := rx_Sem M_F_isWithin 1 [.int v0, .int v1, .int v2] (G_F_isWithin ) (K_F_isWithin Q)
theorem U_F_isWithin {v0 : Int32} {v1 : Int32} {v2 : Int32} {Q : Int32 → Prop} (h : P_F_isWithin v0 v1 v2 Q) {k : rxR} (hk0 : ∀ (rr : Int32), Q rr → k (some (.int rr)) (G_F_isWithin )) : rx_Sem M_F_isWithin 1 [.int v0, .int v1, .int v2] (G_F_isWithin ) k := rx_mono h (fun r w h => by obtain ⟨rr, rfl, rfl, hq⟩ := h; exact hk0 rr hq)
def B_F_isWithin : List (Nat × List rxOp) := [(0, [o_il 0, o_il 1, o_ic (fun x y => x < y) 14 [], o_il 0, o_il 2, o_ic (fun x y => y < x) 14 [], o_c (.int 1), o_go 15 []]),
  (14, [o_c (.int 0), o_go 15 []]),
  (15, [o_rz])]
theorem D_F_isWithin_0 : rx_dl cX11_isWithin [(0, .iload_n 0, 1), (1, .iload_n 1, 1), (2, .if_icmp .lt 12, 3), (5, .iload_n 0, 1), (6, .iload_n 2, 1), (7, .if_icmp .gt 7, 3), (10, .iconst 1, 1), (11, .goto 4, 3)] := by decide +kernel
theorem D_F_isWithin_14 : rx_dl cX11_isWithin [(14, .iconst 0, 1)] := by decide +kernel
theorem D_F_isWithin_15 : rx_dl cX11_isWithin [(15, .ireturn, 1)] := by decide +kernel
set_option maxRecDepth 20000 in
theorem V_F_isWithin : rx_vB RX11 cX11_isWithin 3 (some .boolean) 1 B_F_isWithin := rx_vB_cons (rx_vc (pc' := 1) (ok_iload_n (rx_dg D_F_isWithin_0 0 rfl) rfl) (rx_vc (pc' := 2) (ok_iload_n (rx_dg D_F_isWithin_0 1 rfl) rfl) (rx_vc (pc' := 5) (ok_iclt (rx_dg D_F_isWithin_0 2 rfl) (by decide)) (rx_vc (pc' := 6) (ok_iload_n (rx_dg D_F_isWithin_0 3 rfl) rfl) (rx_vc (pc' := 7) (ok_iload_n (rx_dg D_F_isWithin_0 4 rfl) rfl) (rx_vc (pc' := 10) (ok_icgt (rx_dg D_F_isWithin_0 5 rfl) (by decide)) (rx_vc (pc' := 11) (ok_iconst (rx_dg D_F_isWithin_0 6 rfl) (by decide)) (rx_vc (pc' := 14) (ok_goto (rx_dg D_F_isWithin_0 7 rfl) (by decide)) (trivial))))))))) (rx_vB_cons (rx_vc (pc' := 15) (ok_iconst (rx_dg D_F_isWithin_14 0 rfl) (by decide)) (rx_vc (pc' := 15) (ok_fall) (trivial))) (rx_vB_cons (rx_vc (pc' := 16) (ok_zret (rx_dg D_F_isWithin_15 0 rfl) rfl) (trivial)) (rx_vn)))
def E_F_isWithin_0 (v0 : Int32) (v1 : Int32) (v2 : Int32) (Q : Int32 → Prop) : Prop := rx_Ex B_F_isWithin (K_F_isWithin Q) 0 [(0, .int v0), (1, .int v1), (2, .int v2)] [] (G_F_isWithin )
def E_F_isWithin_14 (Q : Int32 → Prop) : Prop := rx_Ex B_F_isWithin (K_F_isWithin Q) 14 [] [] (G_F_isWithin )
def E_F_isWithin_15 (s0 : Int32) (Q : Int32 → Prop) : Prop := rx_Ex B_F_isWithin (K_F_isWithin Q) 15 [] [.int s0] (G_F_isWithin )
theorem R_F_isWithin_0 {v0 : Int32} {v1 : Int32} {v2 : Int32} {Q : Int32 → Prop} (h :
  (v0 < v1 →
    E_F_isWithin_14 Q) ∧ (¬ v0 < v1 →
    (v2 < v0 →
      E_F_isWithin_14 Q) ∧ (¬ v2 < v0 →
      E_F_isWithin_15 (1 : Int32) Q))) : E_F_isWithin_0 v0 v1 v2 Q := rx_step _ rfl (h)
theorem R_F_isWithin_14 {Q : Int32 → Prop} (h :
  E_F_isWithin_15 (0 : Int32) Q) : E_F_isWithin_14 Q := rx_step _ rfl (h)
theorem R_F_isWithin_15 {s0 : Int32} {Q : Int32 → Prop} (h :
  rx_bool s0 ∧
  Q s0) : E_F_isWithin_15 s0 Q := rx_step _ rfl (And.intro (h).1 (I_F_isWithin ((h).2)))
theorem T_F_isWithin {v0 : Int32} {v1 : Int32} {v2 : Int32} {Q : Int32 → Prop} (h : E_F_isWithin_0 v0 v1 v2 Q) : P_F_isWithin v0 v1 v2 Q := rx_sound (by decide) V_F_isWithin (Nat.le_of_ble_eq_true rfl) h

/-! java/util/Arrays.fill([II)V -/
def M_Ja_fill : rxM := (yJ7_fill_53178, cJ7_fill_53178, 4, none)
theorem gM_Ja_fill : rx_gM M_Ja_fill 2 := ⟨rx_tw 576 (by decide +kernel) rfl, tw_112, ⟨by decide +kernel, by decide +kernel, by decide +kernel⟩, by decide⟩
def G_Ja_fill (af : Nat → Int32) (alen : Nat) : va_W := [(0, .inl (0, alen, .inl af))]
def K_Ja_fill (alen : Nat) (Q : (Nat → Int32) → Prop) : rxR := fun r w => (∃ (af' : Nat → Int32), r = none ∧ w = G_Ja_fill af' alen ∧ Q af')
theorem I_Ja_fill {alen : Nat} {Q : (Nat → Int32) → Prop} {af' : Nat → Int32} (h : Q af') : K_Ja_fill alen Q (none) (G_Ja_fill af' alen) := ⟨af', rfl, rfl, h⟩
def P_Ja_fill (af : Nat → Int32) (alen : Nat) (v1 : Int32) (Q : (Nat → Int32) → Prop) : Prop := rx_Sem M_Ja_fill 1 [.ref 0, .int v1] (G_Ja_fill af alen) (K_Ja_fill alen Q)
theorem U_Ja_fill {af : Nat → Int32} {alen : Nat} {v1 : Int32} {Q : (Nat → Int32) → Prop} (h : P_Ja_fill af alen v1 Q) {k : rxR} (hk0 : ∀ (af' : Nat → Int32), Q af' → k (none) (G_Ja_fill af' alen)) : rx_Sem M_Ja_fill 1 [.ref 0, .int v1] (G_Ja_fill af alen) k := rx_mono h (fun r w h => by obtain ⟨af', rfl, rfl, hq⟩ := h; exact hk0 af' hq)
def B_Ja_fill : List (Nat × List rxOp) := [(0, [o_c (.int 0), o_is 2, o_al 0, o_len, o_ni, o_is 3, o_go 5 [0, 1, 2, 3]]),
  (5, [o_il 2, o_il 3, o_ic (fun x y => y ≤ x) 20 [], o_al 0, o_il 2, o_il 1, o_ias, o_inc 2 (1), o_go 5 [0, 1, 2, 3]]),
  (20, [o_rv])]
theorem D_Ja_fill_0 : rx_dl cJ7_fill_53178 [(0, .iconst 0, 1), (1, .istore_n 2, 1), (2, .aload_n 0, 1), (3, .arraylength, 1), (4, .istore_n 3, 1)] := by decide +kernel
theorem D_Ja_fill_5 : rx_dl cJ7_fill_53178 [(5, .iload_n 2, 1), (6, .iload_n 3, 1), (7, .if_icmp .ge 13, 3), (10, .aload_n 0, 1), (11, .iload_n 2, 1), (12, .iload_n 1, 1), (13, .iastore, 1), (14, .iinc 2 1, 3), (17, .goto (-12), 3)] := by decide +kernel
theorem D_Ja_fill_20 : rx_dl cJ7_fill_53178 [(20, .return_, 1)] := by decide +kernel
set_option maxRecDepth 20000 in
theorem V_Ja_fill : rx_vB RJ7 cJ7_fill_53178 4 none 1 B_Ja_fill := rx_vB_cons (rx_vc (pc' := 1) (ok_iconst (rx_dg D_Ja_fill_0 0 rfl) (by decide)) (rx_vc (pc' := 2) (ok_istore_n (rx_dg D_Ja_fill_0 1 rfl) rfl (by decide)) (rx_vc (pc' := 3) (ok_aload_n (rx_dg D_Ja_fill_0 2 rfl) rfl) (rx_vc (pc' := 4) (ok_len (rx_dg D_Ja_fill_0 3 rfl)) (rx_vc (pc' := 4) (ok_ni) (rx_vc (pc' := 5) (ok_istore_n (rx_dg D_Ja_fill_0 4 rfl) rfl (by decide)) (rx_vc (pc' := 5) (ok_fall) (trivial)))))))) (rx_vB_cons (rx_vc (pc' := 6) (ok_iload_n (rx_dg D_Ja_fill_5 0 rfl) rfl) (rx_vc (pc' := 7) (ok_iload_n (rx_dg D_Ja_fill_5 1 rfl) rfl) (rx_vc (pc' := 10) (ok_icge (rx_dg D_Ja_fill_5 2 rfl) (by decide)) (rx_vc (pc' := 11) (ok_aload_n (rx_dg D_Ja_fill_5 3 rfl) rfl) (rx_vc (pc' := 12) (ok_iload_n (rx_dg D_Ja_fill_5 4 rfl) rfl) (rx_vc (pc' := 13) (ok_iload_n (rx_dg D_Ja_fill_5 5 rfl) rfl) (rx_vc (pc' := 14) (ok_iast (rx_dg D_Ja_fill_5 6 rfl)) (rx_vc (pc' := 17) (ok_iinc (rx_dg D_Ja_fill_5 7 rfl) (by decide) (by decide)) (rx_vc (pc' := 20) (ok_goto (rx_dg D_Ja_fill_5 8 rfl) (by decide)) (trivial)))))))))) (rx_vB_cons (rx_vc (pc' := 21) (ok_vret (rx_dg D_Ja_fill_20 0 rfl) rfl) (trivial)) (rx_vn)))
def E_Ja_fill_0 (af : Nat → Int32) (alen : Nat) (v1 : Int32) (Q : (Nat → Int32) → Prop) : Prop := rx_Ex B_Ja_fill (K_Ja_fill alen Q) 0 [(0, .ref 0), (1, .int v1)] [] (G_Ja_fill af alen)
def E_Ja_fill_5 (af : Nat → Int32) (alen : Nat) (v1 : Int32) (v2 : Int32) (v3 : Int32) (Q : (Nat → Int32) → Prop) : Prop := rx_Ex B_Ja_fill (K_Ja_fill alen Q) 5 [(0, .ref 0), (1, .int v1), (2, .int v2), (3, .int v3)] [] (G_Ja_fill af alen)
def E_Ja_fill_20 (af : Nat → Int32) (alen : Nat) (Q : (Nat → Int32) → Prop) : Prop := rx_Ex B_Ja_fill (K_Ja_fill alen Q) 20 [] [] (G_Ja_fill af alen)
theorem R_Ja_fill_0 {af : Nat → Int32} {alen : Nat} {v1 : Int32} {Q : (Nat → Int32) → Prop} (h :
  ∀ x1 : Int32, x1 = (Int32.ofNat alen) →
  E_Ja_fill_5 af alen v1 (0 : Int32) x1 Q) : E_Ja_fill_0 af alen v1 Q := rx_step _ rfl (h)
theorem R_Ja_fill_5 {af : Nat → Int32} {alen : Nat} {v1 : Int32} {v2 : Int32} {v3 : Int32} {Q : (Nat → Int32) → Prop} (h :
  (v3 ≤ v2 →
    E_Ja_fill_20 af alen Q) ∧ (¬ v3 ≤ v2 →
    vp_in v2 alen ∧
    ∀ x2 : Int32, x2 = v2 + (1 : Int32) →
    E_Ja_fill_5 (up af v2.toNatClampNeg v1) alen v1 x2 v3 Q)) : E_Ja_fill_5 af alen v1 v2 v3 Q := rx_step _ rfl (h)
theorem R_Ja_fill_20 {af : Nat → Int32} {alen : Nat} {Q : (Nat → Int32) → Prop} (h :
  Q af) : E_Ja_fill_20 af alen Q := rx_step _ rfl (I_Ja_fill (h))
theorem T_Ja_fill {af : Nat → Int32} {alen : Nat} {v1 : Int32} {Q : (Nat → Int32) → Prop} (h : E_Ja_fill_0 af alen v1 Q) : P_Ja_fill af alen v1 Q := rx_sound (by decide) V_Ja_fill (Nat.le_of_ble_eq_true rfl) h

/-! java/util/Arrays.fill([JJ)V -/
def M_Ja_fillL : rxM := (yJ7_fill_d0a16, cJ7_fill_d0a16, 5, none)
theorem gM_Ja_fillL : rx_gM M_Ja_fillL 2 := ⟨rx_tw 616 (by decide +kernel) rfl, tw_112, ⟨by decide +kernel, by decide +kernel, by decide +kernel⟩, by decide⟩
def G_Ja_fillL (afL : Nat → Int64) (alen : Nat) : va_W := [(0, .inl (1, alen, .inr (.inl afL)))]
def K_Ja_fillL (alen : Nat) (Q : (Nat → Int64) → Prop) : rxR := fun r w => (∃ (afL' : Nat → Int64), r = none ∧ w = G_Ja_fillL afL' alen ∧ Q afL')
theorem I_Ja_fillL {alen : Nat} {Q : (Nat → Int64) → Prop} {afL' : Nat → Int64} (h : Q afL') : K_Ja_fillL alen Q (none) (G_Ja_fillL afL' alen) := ⟨afL', rfl, rfl, h⟩
def P_Ja_fillL (afL : Nat → Int64) (alen : Nat) (v1 : Int64) (Q : (Nat → Int64) → Prop) : Prop := rx_Sem M_Ja_fillL 1 [.ref 0, .long v1] (G_Ja_fillL afL alen) (K_Ja_fillL alen Q)
theorem U_Ja_fillL {afL : Nat → Int64} {alen : Nat} {v1 : Int64} {Q : (Nat → Int64) → Prop} (h : P_Ja_fillL afL alen v1 Q) {k : rxR} (hk0 : ∀ (afL' : Nat → Int64), Q afL' → k (none) (G_Ja_fillL afL' alen)) : rx_Sem M_Ja_fillL 1 [.ref 0, .long v1] (G_Ja_fillL afL alen) k := rx_mono h (fun r w h => by obtain ⟨afL', rfl, rfl, hq⟩ := h; exact hk0 afL' hq)
def B_Ja_fillL : List (Nat × List rxOp) := [(0, [o_c (.int 0), o_is 3, o_al 0, o_len, o_ni, o_is 4, o_go 6 [0, 1, 3, 4]]),
  (6, [o_il 3, o_il 4, o_ic (fun x y => y ≤ x) 22 [], o_al 0, o_il 3, o_ll 1, o_las, o_inc 3 (1), o_go 6 [0, 1, 3, 4]]),
  (22, [o_rv])]
theorem D_Ja_fillL_0 : rx_dl cJ7_fill_d0a16 [(0, .iconst 0, 1), (1, .istore_n 3, 1), (2, .aload_n 0, 1), (3, .arraylength, 1), (4, .istore 4, 2)] := by decide +kernel
theorem D_Ja_fillL_6 : rx_dl cJ7_fill_d0a16 [(6, .iload_n 3, 1), (7, .iload 4, 2), (9, .if_icmp .ge 13, 3), (12, .aload_n 0, 1), (13, .iload_n 3, 1), (14, .lload_n 1, 1), (15, .lastore, 1), (16, .iinc 3 1, 3), (19, .goto (-13), 3)] := by decide +kernel
theorem D_Ja_fillL_22 : rx_dl cJ7_fill_d0a16 [(22, .return_, 1)] := by decide +kernel
set_option maxRecDepth 20000 in
theorem V_Ja_fillL : rx_vB RJ7 cJ7_fill_d0a16 5 none 1 B_Ja_fillL := rx_vB_cons (rx_vc (pc' := 1) (ok_iconst (rx_dg D_Ja_fillL_0 0 rfl) (by decide)) (rx_vc (pc' := 2) (ok_istore_n (rx_dg D_Ja_fillL_0 1 rfl) rfl (by decide)) (rx_vc (pc' := 3) (ok_aload_n (rx_dg D_Ja_fillL_0 2 rfl) rfl) (rx_vc (pc' := 4) (ok_len (rx_dg D_Ja_fillL_0 3 rfl)) (rx_vc (pc' := 4) (ok_ni) (rx_vc (pc' := 6) (ok_istore (rx_dg D_Ja_fillL_0 4 rfl) (by decide)) (rx_vc (pc' := 6) (ok_fall) (trivial)))))))) (rx_vB_cons (rx_vc (pc' := 7) (ok_iload_n (rx_dg D_Ja_fillL_6 0 rfl) rfl) (rx_vc (pc' := 9) (ok_iload (rx_dg D_Ja_fillL_6 1 rfl)) (rx_vc (pc' := 12) (ok_icge (rx_dg D_Ja_fillL_6 2 rfl) (by decide)) (rx_vc (pc' := 13) (ok_aload_n (rx_dg D_Ja_fillL_6 3 rfl) rfl) (rx_vc (pc' := 14) (ok_iload_n (rx_dg D_Ja_fillL_6 4 rfl) rfl) (rx_vc (pc' := 15) (ok_lload_n (rx_dg D_Ja_fillL_6 5 rfl) rfl) (rx_vc (pc' := 16) (ok_last (rx_dg D_Ja_fillL_6 6 rfl)) (rx_vc (pc' := 19) (ok_iinc (rx_dg D_Ja_fillL_6 7 rfl) (by decide) (by decide)) (rx_vc (pc' := 22) (ok_goto (rx_dg D_Ja_fillL_6 8 rfl) (by decide)) (trivial)))))))))) (rx_vB_cons (rx_vc (pc' := 23) (ok_vret (rx_dg D_Ja_fillL_22 0 rfl) rfl) (trivial)) (rx_vn)))
def E_Ja_fillL_0 (afL : Nat → Int64) (alen : Nat) (v1 : Int64) (Q : (Nat → Int64) → Prop) : Prop := rx_Ex B_Ja_fillL (K_Ja_fillL alen Q) 0 [(0, .ref 0), (1, .long v1)] [] (G_Ja_fillL afL alen)
def E_Ja_fillL_6 (afL : Nat → Int64) (alen : Nat) (v1 : Int64) (v3 : Int32) (v4 : Int32) (Q : (Nat → Int64) → Prop) : Prop := rx_Ex B_Ja_fillL (K_Ja_fillL alen Q) 6 [(0, .ref 0), (1, .long v1), (3, .int v3), (4, .int v4)] [] (G_Ja_fillL afL alen)
def E_Ja_fillL_22 (afL : Nat → Int64) (alen : Nat) (Q : (Nat → Int64) → Prop) : Prop := rx_Ex B_Ja_fillL (K_Ja_fillL alen Q) 22 [] [] (G_Ja_fillL afL alen)
theorem R_Ja_fillL_0 {afL : Nat → Int64} {alen : Nat} {v1 : Int64} {Q : (Nat → Int64) → Prop} (h :
  ∀ x1 : Int32, x1 = (Int32.ofNat alen) →
  E_Ja_fillL_6 afL alen v1 (0 : Int32) x1 Q) : E_Ja_fillL_0 afL alen v1 Q := rx_step _ rfl (h)
theorem R_Ja_fillL_6 {afL : Nat → Int64} {alen : Nat} {v1 : Int64} {v3 : Int32} {v4 : Int32} {Q : (Nat → Int64) → Prop} (h :
  (v4 ≤ v3 →
    E_Ja_fillL_22 afL alen Q) ∧ (¬ v4 ≤ v3 →
    vp_in v3 alen ∧
    ∀ x2 : Int32, x2 = v3 + (1 : Int32) →
    E_Ja_fillL_6 (up afL v3.toNatClampNeg v1) alen v1 x2 v4 Q)) : E_Ja_fillL_6 afL alen v1 v3 v4 Q := rx_step _ rfl (h)
theorem R_Ja_fillL_22 {afL : Nat → Int64} {alen : Nat} {Q : (Nat → Int64) → Prop} (h :
  Q afL) : E_Ja_fillL_22 afL alen Q := rx_step _ rfl (I_Ja_fillL (h))
theorem T_Ja_fillL {afL : Nat → Int64} {alen : Nat} {v1 : Int64} {Q : (Nat → Int64) → Prop} (h : E_Ja_fillL_0 afL alen v1 Q) : P_Ja_fillL afL alen v1 Q := rx_sound (by decide) V_Ja_fillL (Nat.le_of_ble_eq_true rfl) h

/-! java/lang/Long.compare(JJ)I -/
def M_Jl_compare : rxM := (yJ13_compare_74951, cJ13_compare_74951, 4, (some .int))
theorem gM_Jl_compare : rx_gM M_Jl_compare 2 := ⟨rx_tw 668 (by decide +kernel) rfl, tw_114, ⟨by decide +kernel, by decide +kernel, by decide +kernel⟩, by decide⟩
def G_Jl_compare  : va_W := []
def K_Jl_compare (Q : Int32 → Prop) : rxR := fun r w => (∃ (rr : Int32), r = some (.int rr) ∧ w = G_Jl_compare  ∧ Q rr)
theorem I_Jl_compare {Q : Int32 → Prop} {rr : Int32} (h : Q rr) : K_Jl_compare Q (some (.int rr)) (G_Jl_compare ) := ⟨rr, rfl, rfl, h⟩
def P_Jl_compare (v0 : Int64) (v2 : Int64) (Q : Int32 → Prop) : Prop := rx_Sem M_Jl_compare 1 [.long v0, .long v2] (G_Jl_compare ) (K_Jl_compare Q)
theorem U_Jl_compare {v0 : Int64} {v2 : Int64} {Q : Int32 → Prop} (h : P_Jl_compare v0 v2 Q) {k : rxR} (hk0 : ∀ (rr : Int32), Q rr → k (some (.int rr)) (G_Jl_compare )) : rx_Sem M_Jl_compare 1 [.long v0, .long v2] (G_Jl_compare ) k := rx_mono h (fun r w h => by obtain ⟨rr, rfl, rfl, hq⟩ := h; exact hk0 rr hq)
def B_Jl_compare : List (Nat × List rxOp) := [(0, [o_ll 0, o_ll 2, o_jc, o_if (fun x => 0 ≤ x) 10 [0, 2], o_c (.int (-1)), o_go 21 []]),
  (10, [o_ll 0, o_ll 2, o_jc, o_ifn 20 [], o_c (.int 0), o_go 21 []]),
  (20, [o_c (.int 1), o_go 21 []]),
  (21, [o_ri])]
theorem D_Jl_compare_0 : rx_dl cJ13_compare_74951 [(0, .lload_n 0, 1), (1, .lload_n 2, 1), (2, .lcmp, 1), (3, .ifCond .ge 7, 3), (6, .iconst (-1), 1), (7, .goto 14, 3)] := by decide +kernel
theorem D_Jl_compare_10 : rx_dl cJ13_compare_74951 [(10, .lload_n 0, 1), (11, .lload_n 2, 1), (12, .lcmp, 1), (13, .ifCond .ne 7, 3), (16, .iconst 0, 1), (17, .goto 4, 3)] := by decide +kernel
theorem D_Jl_compare_20 : rx_dl cJ13_compare_74951 [(20, .iconst 1, 1)] := by decide +kernel
theorem D_Jl_compare_21 : rx_dl cJ13_compare_74951 [(21, .ireturn, 1)] := by decide +kernel
set_option maxRecDepth 20000 in
theorem V_Jl_compare : rx_vB RJ13 cJ13_compare_74951 4 (some .int) 1 B_Jl_compare := rx_vB_cons (rx_vc (pc' := 1) (ok_lload_n (rx_dg D_Jl_compare_0 0 rfl) rfl) (rx_vc (pc' := 2) (ok_lload_n (rx_dg D_Jl_compare_0 1 rfl) rfl) (rx_vc (pc' := 3) (ok_lcmp (rx_dg D_Jl_compare_0 2 rfl)) (rx_vc (pc' := 6) (ok_ifge (rx_dg D_Jl_compare_0 3 rfl) (by decide)) (rx_vc (pc' := 7) (ok_iconst (rx_dg D_Jl_compare_0 4 rfl) (by decide)) (rx_vc (pc' := 10) (ok_goto (rx_dg D_Jl_compare_0 5 rfl) (by decide)) (trivial))))))) (rx_vB_cons (rx_vc (pc' := 11) (ok_lload_n (rx_dg D_Jl_compare_10 0 rfl) rfl) (rx_vc (pc' := 12) (ok_lload_n (rx_dg D_Jl_compare_10 1 rfl) rfl) (rx_vc (pc' := 13) (ok_lcmp (rx_dg D_Jl_compare_10 2 rfl)) (rx_vc (pc' := 16) (ok_ifne (rx_dg D_Jl_compare_10 3 rfl) (by decide)) (rx_vc (pc' := 17) (ok_iconst (rx_dg D_Jl_compare_10 4 rfl) (by decide)) (rx_vc (pc' := 20) (ok_goto (rx_dg D_Jl_compare_10 5 rfl) (by decide)) (trivial))))))) (rx_vB_cons (rx_vc (pc' := 21) (ok_iconst (rx_dg D_Jl_compare_20 0 rfl) (by decide)) (rx_vc (pc' := 21) (ok_fall) (trivial))) (rx_vB_cons (rx_vc (pc' := 22) (ok_iret (rx_dg D_Jl_compare_21 0 rfl) rfl) (trivial)) (rx_vn))))
def E_Jl_compare_0 (v0 : Int64) (v2 : Int64) (Q : Int32 → Prop) : Prop := rx_Ex B_Jl_compare (K_Jl_compare Q) 0 [(0, .long v0), (2, .long v2)] [] (G_Jl_compare )
def E_Jl_compare_10 (v0 : Int64) (v2 : Int64) (Q : Int32 → Prop) : Prop := rx_Ex B_Jl_compare (K_Jl_compare Q) 10 [(0, .long v0), (2, .long v2)] [] (G_Jl_compare )
def E_Jl_compare_20 (Q : Int32 → Prop) : Prop := rx_Ex B_Jl_compare (K_Jl_compare Q) 20 [] [] (G_Jl_compare )
def E_Jl_compare_21 (s0 : Int32) (Q : Int32 → Prop) : Prop := rx_Ex B_Jl_compare (K_Jl_compare Q) 21 [] [.int s0] (G_Jl_compare )
theorem R_Jl_compare_0 {v0 : Int64} {v2 : Int64} {Q : Int32 → Prop} (h :
  (0 ≤ (lg_cmp v0 v2) →
    E_Jl_compare_10 v0 v2 Q) ∧ (¬ 0 ≤ (lg_cmp v0 v2) →
    E_Jl_compare_21 (-1 : Int32) Q)) : E_Jl_compare_0 v0 v2 Q := rx_step _ rfl (h)
theorem R_Jl_compare_10 {v0 : Int64} {v2 : Int64} {Q : Int32 → Prop} (h :
  (¬ (lg_cmp v0 v2) = 0 →
    E_Jl_compare_20 Q) ∧ ((lg_cmp v0 v2) = 0 →
    E_Jl_compare_21 (0 : Int32) Q)) : E_Jl_compare_10 v0 v2 Q := rx_step _ rfl (h)
theorem R_Jl_compare_20 {Q : Int32 → Prop} (h :
  E_Jl_compare_21 (1 : Int32) Q) : E_Jl_compare_20 Q := rx_step _ rfl (h)
theorem R_Jl_compare_21 {s0 : Int32} {Q : Int32 → Prop} (h :
  Q s0) : E_Jl_compare_21 s0 Q := rx_step _ rfl (I_Jl_compare (h))
theorem T_Jl_compare {v0 : Int64} {v2 : Int64} {Q : Int32 → Prop} (h : E_Jl_compare_0 v0 v2 Q) : P_Jl_compare v0 v2 Q := rx_sound (by decide) V_Jl_compare (Nat.le_of_ble_eq_true rfl) h

/-! FlungFingers.isEither(I)Z -/
def M_F_isEither : rxM := (yX11_isEither, cX11_isEither, 1, (some .boolean))
theorem gM_F_isEither : rx_gM M_F_isEither 1 := ⟨rx_tw 556 (by decide +kernel) rfl, tw_99, ⟨by decide +kernel, by decide +kernel, by decide +kernel⟩, by decide⟩
def G_F_isEither  : va_W := []
def K_F_isEither (Q : Int32 → Prop) : rxR := fun r w => (∃ (rr : Int32), r = some (.int rr) ∧ w = G_F_isEither  ∧ Q rr)
theorem I_F_isEither {Q : Int32 → Prop} {rr : Int32} (h : Q rr) : K_F_isEither Q (some (.int rr)) (G_F_isEither ) := ⟨rr, rfl, rfl, h⟩
def P_F_isEither (v0 : Int32) (Q : Int32 → Prop) : Prop := rx_Sem M_F_isEither 1 [.int v0] (G_F_isEither ) (K_F_isEither Q)
theorem U_F_isEither {v0 : Int32} {Q : Int32 → Prop} (h : P_F_isEither v0 Q) {k : rxR} (hk0 : ∀ (rr : Int32), Q rr → k (some (.int rr)) (G_F_isEither )) : rx_Sem M_F_isEither 1 [.int v0] (G_F_isEither ) k := rx_mono h (fun r w h => by obtain ⟨rr, rfl, rfl, hq⟩ := h; exact hk0 rr hq)
def B_F_isEither : List (Nat × List rxOp) := [(0, [o_il 0, o_if (fun x => x = 0) 9 [], o_il 0, o_c (.int 1), o_icn 13 [], o_go 9 []]),
  (9, [o_c (.int 1), o_go 14 []]),
  (13, [o_c (.int 0), o_go 14 []]),
  (14, [o_rz])]
theorem D_F_isEither_0 : rx_dl cX11_isEither [(0, .iload_n 0, 1), (1, .ifCond .eq 8, 3), (4, .iload_n 0, 1), (5, .iconst 1, 1), (6, .if_icmp .ne 7, 3)] := by decide +kernel
theorem D_F_isEither_9 : rx_dl cX11_isEither [(9, .iconst 1, 1), (10, .goto 4, 3)] := by decide +kernel
theorem D_F_isEither_13 : rx_dl cX11_isEither [(13, .iconst 0, 1)] := by decide +kernel
theorem D_F_isEither_14 : rx_dl cX11_isEither [(14, .ireturn, 1)] := by decide +kernel
set_option maxRecDepth 20000 in
theorem V_F_isEither : rx_vB RX11 cX11_isEither 1 (some .boolean) 1 B_F_isEither := rx_vB_cons (rx_vc (pc' := 1) (ok_iload_n (rx_dg D_F_isEither_0 0 rfl) rfl) (rx_vc (pc' := 4) (ok_ifeq (rx_dg D_F_isEither_0 1 rfl) (by decide)) (rx_vc (pc' := 5) (ok_iload_n (rx_dg D_F_isEither_0 2 rfl) rfl) (rx_vc (pc' := 6) (ok_iconst (rx_dg D_F_isEither_0 3 rfl) (by decide)) (rx_vc (pc' := 9) (ok_icne (rx_dg D_F_isEither_0 4 rfl) (by decide)) (rx_vc (pc' := 9) (ok_fall) (trivial))))))) (rx_vB_cons (rx_vc (pc' := 10) (ok_iconst (rx_dg D_F_isEither_9 0 rfl) (by decide)) (rx_vc (pc' := 13) (ok_goto (rx_dg D_F_isEither_9 1 rfl) (by decide)) (trivial))) (rx_vB_cons (rx_vc (pc' := 14) (ok_iconst (rx_dg D_F_isEither_13 0 rfl) (by decide)) (rx_vc (pc' := 14) (ok_fall) (trivial))) (rx_vB_cons (rx_vc (pc' := 15) (ok_zret (rx_dg D_F_isEither_14 0 rfl) rfl) (trivial)) (rx_vn))))
def E_F_isEither_0 (v0 : Int32) (Q : Int32 → Prop) : Prop := rx_Ex B_F_isEither (K_F_isEither Q) 0 [(0, .int v0)] [] (G_F_isEither )
def E_F_isEither_9 (Q : Int32 → Prop) : Prop := rx_Ex B_F_isEither (K_F_isEither Q) 9 [] [] (G_F_isEither )
def E_F_isEither_13 (Q : Int32 → Prop) : Prop := rx_Ex B_F_isEither (K_F_isEither Q) 13 [] [] (G_F_isEither )
def E_F_isEither_14 (s0 : Int32) (Q : Int32 → Prop) : Prop := rx_Ex B_F_isEither (K_F_isEither Q) 14 [] [.int s0] (G_F_isEither )
theorem R_F_isEither_0 {v0 : Int32} {Q : Int32 → Prop} (h :
  (v0 = 0 →
    E_F_isEither_9 Q) ∧ (¬ v0 = 0 →
    (¬ v0 = (1 : Int32) →
      E_F_isEither_13 Q) ∧ (v0 = (1 : Int32) →
      E_F_isEither_9 Q))) : E_F_isEither_0 v0 Q := rx_step _ rfl (h)
theorem R_F_isEither_9 {Q : Int32 → Prop} (h :
  E_F_isEither_14 (1 : Int32) Q) : E_F_isEither_9 Q := rx_step _ rfl (h)
theorem R_F_isEither_13 {Q : Int32 → Prop} (h :
  E_F_isEither_14 (0 : Int32) Q) : E_F_isEither_13 Q := rx_step _ rfl (h)
theorem R_F_isEither_14 {s0 : Int32} {Q : Int32 → Prop} (h :
  rx_bool s0 ∧
  Q s0) : E_F_isEither_14 s0 Q := rx_step _ rfl (And.intro (h).1 (I_F_isEither ((h).2)))
theorem T_F_isEither {v0 : Int32} {Q : Int32 → Prop} (h : E_F_isEither_0 v0 Q) : P_F_isEither v0 Q := rx_sound (by decide) V_F_isEither (Nat.le_of_ble_eq_true rfl) h

/-! java/lang/Integer.numberOfTrailingZeros(I)I -/
def M_Ji_numberOfTrailingZeros : rxM := (yJ6_numberOfTrailingZeros_0f7a4, cJ6_numberOfTrailingZeros_0f7a4, 2, (some .int))
theorem gM_Ji_numberOfTrailingZeros : rx_gM M_Ji_numberOfTrailingZeros 1 := ⟨rx_tw 900 (by decide +kernel) rfl, tw_116, ⟨by decide +kernel, by decide +kernel, by decide +kernel⟩, by decide⟩
def G_Ji_numberOfTrailingZeros  : va_W := []
def K_Ji_numberOfTrailingZeros (Q : Int32 → Prop) : rxR := fun r w => (∃ (rr : Int32), r = some (.int rr) ∧ w = G_Ji_numberOfTrailingZeros  ∧ Q rr)
theorem I_Ji_numberOfTrailingZeros {Q : Int32 → Prop} {rr : Int32} (h : Q rr) : K_Ji_numberOfTrailingZeros Q (some (.int rr)) (G_Ji_numberOfTrailingZeros ) := ⟨rr, rfl, rfl, h⟩
def P_Ji_numberOfTrailingZeros (v0 : Int32) (Q : Int32 → Prop) : Prop := rx_Sem M_Ji_numberOfTrailingZeros 1 [.int v0] (G_Ji_numberOfTrailingZeros ) (K_Ji_numberOfTrailingZeros Q)
theorem U_Ji_numberOfTrailingZeros {v0 : Int32} {Q : Int32 → Prop} (h : P_Ji_numberOfTrailingZeros v0 Q) {k : rxR} (hk0 : ∀ (rr : Int32), Q rr → k (some (.int rr)) (G_Ji_numberOfTrailingZeros )) : rx_Sem M_Ji_numberOfTrailingZeros 1 [.int v0] (G_Ji_numberOfTrailingZeros ) k := rx_mono h (fun r w h => by obtain ⟨rr, rfl, rfl, hq⟩ := h; exact hk0 rr hq)
def B_Ji_numberOfTrailingZeros : List (Nat × List rxOp) := [(0, [o_il 0, o_c (.int (-1)), o_ii (fun x y => x ^^^ y), o_il 0, o_c (.int 1), o_ii (fun x y => x - y), o_ii (fun x y => x &&& y), o_ni, o_is 0, o_il 0, o_if (fun x => 0 < x) 17 [0], o_il 0, o_c (.int 32), o_ii (fun x y => x &&& y), o_ri]),
  (17, [o_c (.int 1), o_is 1, o_il 0, o_c (.int (65536)), o_ic (fun x y => x ≤ y) 34 [0, 1], o_inc 1 (16), o_il 0, o_c (.int 16), o_ii (fun x y => (x.toUInt32 >>> (y.toUInt32 &&& Int32.toUInt32 31)).toInt32), o_ni, o_is 0, o_go 34 [0, 1]]),
  (34, [o_il 0, o_c (.int 256), o_ic (fun x y => x ≤ y) 49 [0, 1], o_inc 1 (8), o_il 0, o_c (.int 8), o_ii (fun x y => (x.toUInt32 >>> (y.toUInt32 &&& Int32.toUInt32 31)).toInt32), o_ni, o_is 0, o_go 49 [0, 1]]),
  (49, [o_il 0, o_c (.int 16), o_ic (fun x y => x ≤ y) 62 [0, 1], o_inc 1 (4), o_il 0, o_c (.int 4), o_ii (fun x y => (x.toUInt32 >>> (y.toUInt32 &&& Int32.toUInt32 31)).toInt32), o_ni, o_is 0, o_go 62 [0, 1]]),
  (62, [o_il 0, o_c (.int 4), o_ic (fun x y => x ≤ y) 74 [0, 1], o_inc 1 (2), o_il 0, o_c (.int 2), o_ii (fun x y => (x.toUInt32 >>> (y.toUInt32 &&& Int32.toUInt32 31)).toInt32), o_ni, o_is 0, o_go 74 [0, 1]]),
  (74, [o_il 1, o_il 0, o_c (.int 1), o_ii (fun x y => (x.toUInt32 >>> (y.toUInt32 &&& Int32.toUInt32 31)).toInt32), o_ii (fun x y => x + y), o_ri])]
theorem D_Ji_numberOfTrailingZeros_0 : rx_dl cJ6_numberOfTrailingZeros_0f7a4 [(0, .iload_n 0, 1), (1, .iconst (-1), 1), (2, .ixor, 1), (3, .iload_n 0, 1), (4, .iconst 1, 1), (5, .isub, 1), (6, .iand, 1), (7, .istore_n 0, 1), (8, .iload_n 0, 1), (9, .ifCond .gt 8, 3), (12, .iload_n 0, 1), (13, .bipush 32, 2), (15, .iand, 1), (16, .ireturn, 1)] := by decide +kernel
theorem D_Ji_numberOfTrailingZeros_17 : rx_dl cJ6_numberOfTrailingZeros_0f7a4 [(17, .iconst 1, 1), (18, .istore_n 1, 1), (19, .iload_n 0, 1), (20, .ldc_w 264, 3), (23, .if_icmp .le 11, 3), (26, .iinc 1 16, 3), (29, .iload_n 0, 1), (30, .bipush 16, 2), (32, .iushr, 1), (33, .istore_n 0, 1)] := by decide +kernel
theorem D_Ji_numberOfTrailingZeros_34 : rx_dl cJ6_numberOfTrailingZeros_0f7a4 [(34, .iload_n 0, 1), (35, .sipush 256, 3), (38, .if_icmp .le 11, 3), (41, .iinc 1 8, 3), (44, .iload_n 0, 1), (45, .bipush 8, 2), (47, .iushr, 1), (48, .istore_n 0, 1)] := by decide +kernel
theorem D_Ji_numberOfTrailingZeros_49 : rx_dl cJ6_numberOfTrailingZeros_0f7a4 [(49, .iload_n 0, 1), (50, .bipush 16, 2), (52, .if_icmp .le 10, 3), (55, .iinc 1 4, 3), (58, .iload_n 0, 1), (59, .iconst 4, 1), (60, .iushr, 1), (61, .istore_n 0, 1)] := by decide +kernel
theorem D_Ji_numberOfTrailingZeros_62 : rx_dl cJ6_numberOfTrailingZeros_0f7a4 [(62, .iload_n 0, 1), (63, .iconst 4, 1), (64, .if_icmp .le 10, 3), (67, .iinc 1 2, 3), (70, .iload_n 0, 1), (71, .iconst 2, 1), (72, .iushr, 1), (73, .istore_n 0, 1)] := by decide +kernel
theorem D_Ji_numberOfTrailingZeros_74 : rx_dl cJ6_numberOfTrailingZeros_0f7a4 [(74, .iload_n 1, 1), (75, .iload_n 0, 1), (76, .iconst 1, 1), (77, .iushr, 1), (78, .iadd, 1), (79, .ireturn, 1)] := by decide +kernel
set_option maxRecDepth 20000 in
theorem V_Ji_numberOfTrailingZeros : rx_vB RJ6 cJ6_numberOfTrailingZeros_0f7a4 2 (some .int) 1 B_Ji_numberOfTrailingZeros := rx_vB_cons (rx_vc (pc' := 1) (ok_iload_n (rx_dg D_Ji_numberOfTrailingZeros_0 0 rfl) rfl) (rx_vc (pc' := 2) (ok_iconst (rx_dg D_Ji_numberOfTrailingZeros_0 1 rfl) (by decide)) (rx_vc (pc' := 3) (ok_ixor (rx_dg D_Ji_numberOfTrailingZeros_0 2 rfl)) (rx_vc (pc' := 4) (ok_iload_n (rx_dg D_Ji_numberOfTrailingZeros_0 3 rfl) rfl) (rx_vc (pc' := 5) (ok_iconst (rx_dg D_Ji_numberOfTrailingZeros_0 4 rfl) (by decide)) (rx_vc (pc' := 6) (ok_isub (rx_dg D_Ji_numberOfTrailingZeros_0 5 rfl)) (rx_vc (pc' := 7) (ok_iand (rx_dg D_Ji_numberOfTrailingZeros_0 6 rfl)) (rx_vc (pc' := 7) (ok_ni) (rx_vc (pc' := 8) (ok_istore_n (rx_dg D_Ji_numberOfTrailingZeros_0 7 rfl) rfl (by decide)) (rx_vc (pc' := 9) (ok_iload_n (rx_dg D_Ji_numberOfTrailingZeros_0 8 rfl) rfl) (rx_vc (pc' := 12) (ok_ifgt (rx_dg D_Ji_numberOfTrailingZeros_0 9 rfl) (by decide)) (rx_vc (pc' := 13) (ok_iload_n (rx_dg D_Ji_numberOfTrailingZeros_0 10 rfl) rfl) (rx_vc (pc' := 15) (ok_bipush (rx_dg D_Ji_numberOfTrailingZeros_0 11 rfl) (by decide)) (rx_vc (pc' := 16) (ok_iand (rx_dg D_Ji_numberOfTrailingZeros_0 12 rfl)) (rx_vc (pc' := 17) (ok_iret (rx_dg D_Ji_numberOfTrailingZeros_0 13 rfl) rfl) (trivial)))))))))))))))) (rx_vB_cons (rx_vc (pc' := 18) (ok_iconst (rx_dg D_Ji_numberOfTrailingZeros_17 0 rfl) (by decide)) (rx_vc (pc' := 19) (ok_istore_n (rx_dg D_Ji_numberOfTrailingZeros_17 1 rfl) rfl (by decide)) (rx_vc (pc' := 20) (ok_iload_n (rx_dg D_Ji_numberOfTrailingZeros_17 2 rfl) rfl) (rx_vc (pc' := 23) (ok_ldcw (rx_dg D_Ji_numberOfTrailingZeros_17 3 rfl) tw_901) (rx_vc (pc' := 26) (ok_icle (rx_dg D_Ji_numberOfTrailingZeros_17 4 rfl) (by decide)) (rx_vc (pc' := 29) (ok_iinc (rx_dg D_Ji_numberOfTrailingZeros_17 5 rfl) (by decide) (by decide)) (rx_vc (pc' := 30) (ok_iload_n (rx_dg D_Ji_numberOfTrailingZeros_17 6 rfl) rfl) (rx_vc (pc' := 32) (ok_bipush (rx_dg D_Ji_numberOfTrailingZeros_17 7 rfl) (by decide)) (rx_vc (pc' := 33) (ok_iushr (rx_dg D_Ji_numberOfTrailingZeros_17 8 rfl)) (rx_vc (pc' := 33) (ok_ni) (rx_vc (pc' := 34) (ok_istore_n (rx_dg D_Ji_numberOfTrailingZeros_17 9 rfl) rfl (by decide)) (rx_vc (pc' := 34) (ok_fall) (trivial))))))))))))) (rx_vB_cons (rx_vc (pc' := 35) (ok_iload_n (rx_dg D_Ji_numberOfTrailingZeros_34 0 rfl) rfl) (rx_vc (pc' := 38) (ok_sipush (rx_dg D_Ji_numberOfTrailingZeros_34 1 rfl) (by decide)) (rx_vc (pc' := 41) (ok_icle (rx_dg D_Ji_numberOfTrailingZeros_34 2 rfl) (by decide)) (rx_vc (pc' := 44) (ok_iinc (rx_dg D_Ji_numberOfTrailingZeros_34 3 rfl) (by decide) (by decide)) (rx_vc (pc' := 45) (ok_iload_n (rx_dg D_Ji_numberOfTrailingZeros_34 4 rfl) rfl) (rx_vc (pc' := 47) (ok_bipush (rx_dg D_Ji_numberOfTrailingZeros_34 5 rfl) (by decide)) (rx_vc (pc' := 48) (ok_iushr (rx_dg D_Ji_numberOfTrailingZeros_34 6 rfl)) (rx_vc (pc' := 48) (ok_ni) (rx_vc (pc' := 49) (ok_istore_n (rx_dg D_Ji_numberOfTrailingZeros_34 7 rfl) rfl (by decide)) (rx_vc (pc' := 49) (ok_fall) (trivial))))))))))) (rx_vB_cons (rx_vc (pc' := 50) (ok_iload_n (rx_dg D_Ji_numberOfTrailingZeros_49 0 rfl) rfl) (rx_vc (pc' := 52) (ok_bipush (rx_dg D_Ji_numberOfTrailingZeros_49 1 rfl) (by decide)) (rx_vc (pc' := 55) (ok_icle (rx_dg D_Ji_numberOfTrailingZeros_49 2 rfl) (by decide)) (rx_vc (pc' := 58) (ok_iinc (rx_dg D_Ji_numberOfTrailingZeros_49 3 rfl) (by decide) (by decide)) (rx_vc (pc' := 59) (ok_iload_n (rx_dg D_Ji_numberOfTrailingZeros_49 4 rfl) rfl) (rx_vc (pc' := 60) (ok_iconst (rx_dg D_Ji_numberOfTrailingZeros_49 5 rfl) (by decide)) (rx_vc (pc' := 61) (ok_iushr (rx_dg D_Ji_numberOfTrailingZeros_49 6 rfl)) (rx_vc (pc' := 61) (ok_ni) (rx_vc (pc' := 62) (ok_istore_n (rx_dg D_Ji_numberOfTrailingZeros_49 7 rfl) rfl (by decide)) (rx_vc (pc' := 62) (ok_fall) (trivial))))))))))) (rx_vB_cons (rx_vc (pc' := 63) (ok_iload_n (rx_dg D_Ji_numberOfTrailingZeros_62 0 rfl) rfl) (rx_vc (pc' := 64) (ok_iconst (rx_dg D_Ji_numberOfTrailingZeros_62 1 rfl) (by decide)) (rx_vc (pc' := 67) (ok_icle (rx_dg D_Ji_numberOfTrailingZeros_62 2 rfl) (by decide)) (rx_vc (pc' := 70) (ok_iinc (rx_dg D_Ji_numberOfTrailingZeros_62 3 rfl) (by decide) (by decide)) (rx_vc (pc' := 71) (ok_iload_n (rx_dg D_Ji_numberOfTrailingZeros_62 4 rfl) rfl) (rx_vc (pc' := 72) (ok_iconst (rx_dg D_Ji_numberOfTrailingZeros_62 5 rfl) (by decide)) (rx_vc (pc' := 73) (ok_iushr (rx_dg D_Ji_numberOfTrailingZeros_62 6 rfl)) (rx_vc (pc' := 73) (ok_ni) (rx_vc (pc' := 74) (ok_istore_n (rx_dg D_Ji_numberOfTrailingZeros_62 7 rfl) rfl (by decide)) (rx_vc (pc' := 74) (ok_fall) (trivial))))))))))) (rx_vB_cons (rx_vc (pc' := 75) (ok_iload_n (rx_dg D_Ji_numberOfTrailingZeros_74 0 rfl) rfl) (rx_vc (pc' := 76) (ok_iload_n (rx_dg D_Ji_numberOfTrailingZeros_74 1 rfl) rfl) (rx_vc (pc' := 77) (ok_iconst (rx_dg D_Ji_numberOfTrailingZeros_74 2 rfl) (by decide)) (rx_vc (pc' := 78) (ok_iushr (rx_dg D_Ji_numberOfTrailingZeros_74 3 rfl)) (rx_vc (pc' := 79) (ok_iadd (rx_dg D_Ji_numberOfTrailingZeros_74 4 rfl)) (rx_vc (pc' := 80) (ok_iret (rx_dg D_Ji_numberOfTrailingZeros_74 5 rfl) rfl) (trivial))))))) (rx_vn))))))
def E_Ji_numberOfTrailingZeros_0 (v0 : Int32) (Q : Int32 → Prop) : Prop := rx_Ex B_Ji_numberOfTrailingZeros (K_Ji_numberOfTrailingZeros Q) 0 [(0, .int v0)] [] (G_Ji_numberOfTrailingZeros )
def E_Ji_numberOfTrailingZeros_17 (v0 : Int32) (Q : Int32 → Prop) : Prop := rx_Ex B_Ji_numberOfTrailingZeros (K_Ji_numberOfTrailingZeros Q) 17 [(0, .int v0)] [] (G_Ji_numberOfTrailingZeros )
def E_Ji_numberOfTrailingZeros_34 (v0 : Int32) (v1 : Int32) (Q : Int32 → Prop) : Prop := rx_Ex B_Ji_numberOfTrailingZeros (K_Ji_numberOfTrailingZeros Q) 34 [(0, .int v0), (1, .int v1)] [] (G_Ji_numberOfTrailingZeros )
def E_Ji_numberOfTrailingZeros_49 (v0 : Int32) (v1 : Int32) (Q : Int32 → Prop) : Prop := rx_Ex B_Ji_numberOfTrailingZeros (K_Ji_numberOfTrailingZeros Q) 49 [(0, .int v0), (1, .int v1)] [] (G_Ji_numberOfTrailingZeros )
def E_Ji_numberOfTrailingZeros_62 (v0 : Int32) (v1 : Int32) (Q : Int32 → Prop) : Prop := rx_Ex B_Ji_numberOfTrailingZeros (K_Ji_numberOfTrailingZeros Q) 62 [(0, .int v0), (1, .int v1)] [] (G_Ji_numberOfTrailingZeros )
def E_Ji_numberOfTrailingZeros_74 (v0 : Int32) (v1 : Int32) (Q : Int32 → Prop) : Prop := rx_Ex B_Ji_numberOfTrailingZeros (K_Ji_numberOfTrailingZeros Q) 74 [(0, .int v0), (1, .int v1)] [] (G_Ji_numberOfTrailingZeros )
theorem R_Ji_numberOfTrailingZeros_0 {v0 : Int32} {Q : Int32 → Prop} (h :
  ∀ x1 : Int32, x1 = ((v0 ^^^ (-1 : Int32)) &&& (v0 - (1 : Int32))) →
  (0 < x1 →
    E_Ji_numberOfTrailingZeros_17 x1 Q) ∧ (¬ 0 < x1 →
    Q (x1 &&& (32 : Int32)))) : E_Ji_numberOfTrailingZeros_0 v0 Q := rx_step _ rfl (fun x1 ex1 => And.intro ((h) x1 ex1).1 (fun cc1 => I_Ji_numberOfTrailingZeros (((h) x1 ex1).2 cc1)))
theorem R_Ji_numberOfTrailingZeros_17 {v0 : Int32} {Q : Int32 → Prop} (h :
  (v0 ≤ (65536 : Int32) →
    E_Ji_numberOfTrailingZeros_34 v0 (1 : Int32) Q) ∧ (¬ v0 ≤ (65536 : Int32) →
    ∀ x2 : Int32, x2 = (1 : Int32) + (16 : Int32) →
    ∀ x3 : Int32, x3 = (v0.toUInt32 >>> ((16 : Int32).toUInt32 &&& Int32.toUInt32 31)).toInt32 →
    E_Ji_numberOfTrailingZeros_34 x3 x2 Q)) : E_Ji_numberOfTrailingZeros_17 v0 Q := rx_step _ rfl (h)
theorem R_Ji_numberOfTrailingZeros_34 {v0 : Int32} {v1 : Int32} {Q : Int32 → Prop} (h :
  (v0 ≤ (256 : Int32) →
    E_Ji_numberOfTrailingZeros_49 v0 v1 Q) ∧ (¬ v0 ≤ (256 : Int32) →
    ∀ x4 : Int32, x4 = v1 + (8 : Int32) →
    ∀ x5 : Int32, x5 = (v0.toUInt32 >>> ((8 : Int32).toUInt32 &&& Int32.toUInt32 31)).toInt32 →
    E_Ji_numberOfTrailingZeros_49 x5 x4 Q)) : E_Ji_numberOfTrailingZeros_34 v0 v1 Q := rx_step _ rfl (h)
theorem R_Ji_numberOfTrailingZeros_49 {v0 : Int32} {v1 : Int32} {Q : Int32 → Prop} (h :
  (v0 ≤ (16 : Int32) →
    E_Ji_numberOfTrailingZeros_62 v0 v1 Q) ∧ (¬ v0 ≤ (16 : Int32) →
    ∀ x6 : Int32, x6 = v1 + (4 : Int32) →
    ∀ x7 : Int32, x7 = (v0.toUInt32 >>> ((4 : Int32).toUInt32 &&& Int32.toUInt32 31)).toInt32 →
    E_Ji_numberOfTrailingZeros_62 x7 x6 Q)) : E_Ji_numberOfTrailingZeros_49 v0 v1 Q := rx_step _ rfl (h)
theorem R_Ji_numberOfTrailingZeros_62 {v0 : Int32} {v1 : Int32} {Q : Int32 → Prop} (h :
  (v0 ≤ (4 : Int32) →
    E_Ji_numberOfTrailingZeros_74 v0 v1 Q) ∧ (¬ v0 ≤ (4 : Int32) →
    ∀ x8 : Int32, x8 = v1 + (2 : Int32) →
    ∀ x9 : Int32, x9 = (v0.toUInt32 >>> ((2 : Int32).toUInt32 &&& Int32.toUInt32 31)).toInt32 →
    E_Ji_numberOfTrailingZeros_74 x9 x8 Q)) : E_Ji_numberOfTrailingZeros_62 v0 v1 Q := rx_step _ rfl (h)
theorem R_Ji_numberOfTrailingZeros_74 {v0 : Int32} {v1 : Int32} {Q : Int32 → Prop} (h :
  Q (v1 + (v0.toUInt32 >>> ((1 : Int32).toUInt32 &&& Int32.toUInt32 31)).toInt32)) : E_Ji_numberOfTrailingZeros_74 v0 v1 Q := rx_step _ rfl (I_Ji_numberOfTrailingZeros (h))
theorem T_Ji_numberOfTrailingZeros {v0 : Int32} {Q : Int32 → Prop} (h : E_Ji_numberOfTrailingZeros_0 v0 Q) : P_Ji_numberOfTrailingZeros v0 Q := rx_sound (by decide) V_Ji_numberOfTrailingZeros (Nat.le_of_ble_eq_true rfl) h

/-! java/lang/Integer.compare(II)I -/
def M_Ji_compare : rxM := (yJ6_compare_7cf53, cJ6_compare_7cf53, 2, (some .int))
theorem gM_Ji_compare : rx_gM M_Ji_compare 2 := ⟨rx_tw 1193 (by decide +kernel) rfl, tw_116, ⟨by decide +kernel, by decide +kernel, by decide +kernel⟩, by decide⟩
def G_Ji_compare  : va_W := []
def K_Ji_compare (Q : Int32 → Prop) : rxR := fun r w => (∃ (rr : Int32), r = some (.int rr) ∧ w = G_Ji_compare  ∧ Q rr)
theorem I_Ji_compare {Q : Int32 → Prop} {rr : Int32} (h : Q rr) : K_Ji_compare Q (some (.int rr)) (G_Ji_compare ) := ⟨rr, rfl, rfl, h⟩
def P_Ji_compare (v0 : Int32) (v1 : Int32) (Q : Int32 → Prop) : Prop := rx_Sem M_Ji_compare 1 [.int v0, .int v1] (G_Ji_compare ) (K_Ji_compare Q)
theorem U_Ji_compare {v0 : Int32} {v1 : Int32} {Q : Int32 → Prop} (h : P_Ji_compare v0 v1 Q) {k : rxR} (hk0 : ∀ (rr : Int32), Q rr → k (some (.int rr)) (G_Ji_compare )) : rx_Sem M_Ji_compare 1 [.int v0, .int v1] (G_Ji_compare ) k := rx_mono h (fun r w h => by obtain ⟨rr, rfl, rfl, hq⟩ := h; exact hk0 rr hq)
def B_Ji_compare : List (Nat × List rxOp) := [(0, [o_il 0, o_il 1, o_ic (fun x y => y ≤ x) 9 [0, 1], o_c (.int (-1)), o_go 19 []]),
  (9, [o_il 0, o_il 1, o_icn 18 [], o_c (.int 0), o_go 19 []]),
  (18, [o_c (.int 1), o_go 19 []]),
  (19, [o_ri])]
theorem D_Ji_compare_0 : rx_dl cJ6_compare_7cf53 [(0, .iload_n 0, 1), (1, .iload_n 1, 1), (2, .if_icmp .ge 7, 3), (5, .iconst (-1), 1), (6, .goto 13, 3)] := by decide +kernel
theorem D_Ji_compare_9 : rx_dl cJ6_compare_7cf53 [(9, .iload_n 0, 1), (10, .iload_n 1, 1), (11, .if_icmp .ne 7, 3), (14, .iconst 0, 1), (15, .goto 4, 3)] := by decide +kernel
theorem D_Ji_compare_18 : rx_dl cJ6_compare_7cf53 [(18, .iconst 1, 1)] := by decide +kernel
theorem D_Ji_compare_19 : rx_dl cJ6_compare_7cf53 [(19, .ireturn, 1)] := by decide +kernel
set_option maxRecDepth 20000 in
theorem V_Ji_compare : rx_vB RJ6 cJ6_compare_7cf53 2 (some .int) 1 B_Ji_compare := rx_vB_cons (rx_vc (pc' := 1) (ok_iload_n (rx_dg D_Ji_compare_0 0 rfl) rfl) (rx_vc (pc' := 2) (ok_iload_n (rx_dg D_Ji_compare_0 1 rfl) rfl) (rx_vc (pc' := 5) (ok_icge (rx_dg D_Ji_compare_0 2 rfl) (by decide)) (rx_vc (pc' := 6) (ok_iconst (rx_dg D_Ji_compare_0 3 rfl) (by decide)) (rx_vc (pc' := 9) (ok_goto (rx_dg D_Ji_compare_0 4 rfl) (by decide)) (trivial)))))) (rx_vB_cons (rx_vc (pc' := 10) (ok_iload_n (rx_dg D_Ji_compare_9 0 rfl) rfl) (rx_vc (pc' := 11) (ok_iload_n (rx_dg D_Ji_compare_9 1 rfl) rfl) (rx_vc (pc' := 14) (ok_icne (rx_dg D_Ji_compare_9 2 rfl) (by decide)) (rx_vc (pc' := 15) (ok_iconst (rx_dg D_Ji_compare_9 3 rfl) (by decide)) (rx_vc (pc' := 18) (ok_goto (rx_dg D_Ji_compare_9 4 rfl) (by decide)) (trivial)))))) (rx_vB_cons (rx_vc (pc' := 19) (ok_iconst (rx_dg D_Ji_compare_18 0 rfl) (by decide)) (rx_vc (pc' := 19) (ok_fall) (trivial))) (rx_vB_cons (rx_vc (pc' := 20) (ok_iret (rx_dg D_Ji_compare_19 0 rfl) rfl) (trivial)) (rx_vn))))
def E_Ji_compare_0 (v0 : Int32) (v1 : Int32) (Q : Int32 → Prop) : Prop := rx_Ex B_Ji_compare (K_Ji_compare Q) 0 [(0, .int v0), (1, .int v1)] [] (G_Ji_compare )
def E_Ji_compare_9 (v0 : Int32) (v1 : Int32) (Q : Int32 → Prop) : Prop := rx_Ex B_Ji_compare (K_Ji_compare Q) 9 [(0, .int v0), (1, .int v1)] [] (G_Ji_compare )
def E_Ji_compare_18 (Q : Int32 → Prop) : Prop := rx_Ex B_Ji_compare (K_Ji_compare Q) 18 [] [] (G_Ji_compare )
def E_Ji_compare_19 (s0 : Int32) (Q : Int32 → Prop) : Prop := rx_Ex B_Ji_compare (K_Ji_compare Q) 19 [] [.int s0] (G_Ji_compare )
theorem R_Ji_compare_0 {v0 : Int32} {v1 : Int32} {Q : Int32 → Prop} (h :
  (v1 ≤ v0 →
    E_Ji_compare_9 v0 v1 Q) ∧ (¬ v1 ≤ v0 →
    E_Ji_compare_19 (-1 : Int32) Q)) : E_Ji_compare_0 v0 v1 Q := rx_step _ rfl (h)
theorem R_Ji_compare_9 {v0 : Int32} {v1 : Int32} {Q : Int32 → Prop} (h :
  (¬ v0 = v1 →
    E_Ji_compare_18 Q) ∧ (v0 = v1 →
    E_Ji_compare_19 (0 : Int32) Q)) : E_Ji_compare_9 v0 v1 Q := rx_step _ rfl (h)
theorem R_Ji_compare_18 {Q : Int32 → Prop} (h :
  E_Ji_compare_19 (1 : Int32) Q) : E_Ji_compare_18 Q := rx_step _ rfl (h)
theorem R_Ji_compare_19 {s0 : Int32} {Q : Int32 → Prop} (h :
  Q s0) : E_Ji_compare_19 s0 Q := rx_step _ rfl (I_Ji_compare (h))
theorem T_Ji_compare {v0 : Int32} {v1 : Int32} {Q : Int32 → Prop} (h : E_Ji_compare_0 v0 v1 Q) : P_Ji_compare v0 v1 Q := rx_sound (by decide) V_Ji_compare (Nat.le_of_ble_eq_true rfl) h
