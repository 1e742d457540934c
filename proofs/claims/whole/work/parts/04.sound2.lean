section RXOK2
variable {own : String} {cc : ByteArray} {nL : Nat} {rt : Option FieldType} {δ pc : Nat}
theorem ok_ii {f : Int32 → Int32 → Int32} (hr : ∀ {p : Program} {l : Launch} {e : Env} {R : Room} {s : State} {m : MethodId} {args : Array Value} {below : List Frame} {meth : Method} {c : Code} {H : Heap} {locs : List Loc} {cells slots : Nat} {Q : State → Prop} {ls : Array Slot} {rest : List Value} {x y : Int32}, p.tables.exec = Jvm.exec → c.code = cc → W p l e R s m args below meth c H locs cells slots Q (F0 m (pc + 1) ls (.int (f x y) :: rest)) → W p l e R s m args below meth c H locs cells slots Q (F0 m pc ls (.int y :: .int x :: rest))) : rx_ok own cc nL rt δ pc (o_ii f) (pc + 1) := by
  intro p l e R s m args below meth c D cs ad A H0 ids cells slots Q C lv st w k J Kr H locs ls ho hw kk jj rr
  unfold o_ii at ho
  split at ho
  · exact hr C.1 C.2.1 (kk _ _ _ _ _ _ ho hw)
  · exact ho.elim
theorem ok_iadd (d : decode cc pc = .ok (.iadd, 1)) : rx_ok own cc nL rt δ pc (o_ii (fun x y => x + y)) (pc + 1) := ok_ii (fun hx hb k => lv_iadd hx hb d k)
theorem ok_isub (d : decode cc pc = .ok (.isub, 1)) : rx_ok own cc nL rt δ pc (o_ii (fun x y => x - y)) (pc + 1) := ok_ii (fun hx hb k => lv_isub hx hb d k)
theorem ok_imul (d : decode cc pc = .ok (.imul, 1)) : rx_ok own cc nL rt δ pc (o_ii (fun x y => x * y)) (pc + 1) := ok_ii (fun hx hb k => lv_imul hx hb d k)
theorem ok_iand (d : decode cc pc = .ok (.iand, 1)) : rx_ok own cc nL rt δ pc (o_ii (fun x y => x &&& y)) (pc + 1) := ok_ii (fun hx hb k => lv_iand hx hb d k)
theorem ok_ior (d : decode cc pc = .ok (.ior, 1)) : rx_ok own cc nL rt δ pc (o_ii (fun x y => x ||| y)) (pc + 1) := ok_ii (fun hx hb k => lv_ior hx hb d k)
theorem ok_ixor (d : decode cc pc = .ok (.ixor, 1)) : rx_ok own cc nL rt δ pc (o_ii (fun x y => x ^^^ y)) (pc + 1) := ok_ii (fun hx hb k => lv_ixor hx hb d k)
theorem ok_ishl (d : decode cc pc = .ok (.ishl, 1)) : rx_ok own cc nL rt δ pc (o_ii (fun x y => x <<< (y &&& 31))) (pc + 1) := ok_ii (fun hx hb k => lv_ishl hx hb d k)
theorem ok_ishr (d : decode cc pc = .ok (.ishr, 1)) : rx_ok own cc nL rt δ pc (o_ii (fun x y => x >>> (y &&& 31))) (pc + 1) := ok_ii (fun hx hb k => lv_ishr hx hb d k)
theorem ok_iushr (d : decode cc pc = .ok (.iushr, 1)) : rx_ok own cc nL rt δ pc (o_ii (fun x y => (x.toUInt32 >>> (y.toUInt32 &&& Int32.toUInt32 31)).toInt32)) (pc + 1) := ok_ii (fun hx hb k => lv_iushr hx hb d rfl k)
theorem ok_idiv (d : decode cc pc = .ok (.idiv, 1)) : rx_ok own cc nL rt δ pc (o_id (fun x y => x / y)) (pc + 1) := by
  intro p l e R s m args below meth c D cs ad A H0 ids cells slots Q C lv st w k J Kr H locs ls ho hw kk jj rr
  unfold o_id at ho
  split at ho
  · exact lv_idiv C.1 C.2.1 d ho.1 (kk _ _ _ _ _ _ ho.2 hw)
  · exact ho.elim
theorem ok_irem (d : decode cc pc = .ok (.irem, 1)) : rx_ok own cc nL rt δ pc (o_id (fun x y => x - x / y * y)) (pc + 1) := by
  intro p l e R s m args below meth c D cs ad A H0 ids cells slots Q C lv st w k J Kr H locs ls ho hw kk jj rr
  unfold o_id at ho
  split at ho
  · exact lv_irem C.1 C.2.1 d ho.1 (kk _ _ _ _ _ _ ho.2 hw)
  · exact ho.elim
theorem ok_jj {f : Int64 → Int64 → Int64} (hr : ∀ {p : Program} {l : Launch} {e : Env} {R : Room} {s : State} {m : MethodId} {args : Array Value} {below : List Frame} {meth : Method} {c : Code} {H : Heap} {locs : List Loc} {cells slots : Nat} {Q : State → Prop} {ls : Array Slot} {rest : List Value} {x y : Int64}, p.tables.exec = Jvm.exec → c.code = cc → W p l e R s m args below meth c H locs cells slots Q (F0 m (pc + 1) ls (.long (f x y) :: rest)) → W p l e R s m args below meth c H locs cells slots Q (F0 m pc ls (.long y :: .long x :: rest))) : rx_ok own cc nL rt δ pc (o_jj f) (pc + 1) := by
  intro p l e R s m args below meth c D cs ad A H0 ids cells slots Q C lv st w k J Kr H locs ls ho hw kk jj rr
  unfold o_jj at ho
  split at ho
  · exact hr C.1 C.2.1 (kk _ _ _ _ _ _ ho hw)
  · exact ho.elim
theorem ok_ladd (d : decode cc pc = .ok (.ladd, 1)) : rx_ok own cc nL rt δ pc (o_jj (fun x y => x + y)) (pc + 1) := ok_jj (fun hx hb k => lv_ladd hx hb d k)
theorem ok_lsub (d : decode cc pc = .ok (.lsub, 1)) : rx_ok own cc nL rt δ pc (o_jj (fun x y => x - y)) (pc + 1) := ok_jj (fun hx hb k => lv_lsub hx hb d k)
theorem ok_lmul (d : decode cc pc = .ok (.lmul, 1)) : rx_ok own cc nL rt δ pc (o_jj (fun x y => x * y)) (pc + 1) := ok_jj (fun hx hb k => lv_lmul hx hb d k)
theorem ok_land (d : decode cc pc = .ok (.land, 1)) : rx_ok own cc nL rt δ pc (o_jj (fun x y => x &&& y)) (pc + 1) := ok_jj (fun hx hb k => lv_land hx hb d k)
theorem ok_ldiv (d : decode cc pc = .ok (.ldiv, 1)) : rx_ok own cc nL rt δ pc (o_jd (fun x y => x / y)) (pc + 1) := by
  intro p l e R s m args below meth c D cs ad A H0 ids cells slots Q C lv st w k J Kr H locs ls ho hw kk jj rr
  unfold o_jd at ho
  split at ho
  · exact lv_ldiv C.1 C.2.1 d ho.1 (kk _ _ _ _ _ _ ho.2 hw)
  · exact ho.elim
theorem ok_lrem (d : decode cc pc = .ok (.lrem, 1)) : rx_ok own cc nL rt δ pc (o_jd (fun x y => x - x / y * y)) (pc + 1) := by
  intro p l e R s m args below meth c D cs ad A H0 ids cells slots Q C lv st w k J Kr H locs ls ho hw kk jj rr
  unfold o_jd at ho
  split at ho
  · exact lv_lrem C.1 C.2.1 d ho.1 (kk _ _ _ _ _ _ ho.2 hw)
  · exact ho.elim
theorem ok_lneg (d : decode cc pc = .ok (.lneg, 1)) : rx_ok own cc nL rt δ pc (o_j1 (fun x => -x)) (pc + 1) := by
  intro p l e R s m args below meth c D cs ad A H0 ids cells slots Q C lv st w k J Kr H locs ls ho hw kk jj rr
  unfold o_j1 at ho
  split at ho
  · exact lv_lneg C.1 C.2.1 d (kk _ _ _ _ _ _ ho hw)
  · exact ho.elim
theorem ok_lshl (d : decode cc pc = .ok (.lshl, 1)) : rx_ok own cc nL rt δ pc (o_ji (fun x y => x <<< (y.toInt64 &&& 63))) (pc + 1) := by
  intro p l e R s m args below meth c D cs ad A H0 ids cells slots Q C lv st w k J Kr H locs ls ho hw kk jj rr
  unfold o_ji at ho
  split at ho
  · exact lv_lshl C.1 C.2.1 d rfl (kk _ _ _ _ _ _ ho hw)
  · exact ho.elim
theorem ok_lshr (d : decode cc pc = .ok (.lshr, 1)) : rx_ok own cc nL rt δ pc (o_ji (fun x y => x >>> (y.toInt64 &&& 63))) (pc + 1) := by
  intro p l e R s m args below meth c D cs ad A H0 ids cells slots Q C lv st w k J Kr H locs ls ho hw kk jj rr
  unfold o_ji at ho
  split at ho
  · exact lv_lshr C.1 C.2.1 d rfl (kk _ _ _ _ _ _ ho hw)
  · exact ho.elim
theorem ok_lushr (d : decode cc pc = .ok (.lushr, 1)) : rx_ok own cc nL rt δ pc (o_ji (fun x y => (x.toUInt64 >>> (y.toInt64.toUInt64 &&& Int64.toUInt64 63)).toInt64)) (pc + 1) := by
  intro p l e R s m args below meth c D cs ad A H0 ids cells slots Q C lv st w k J Kr H locs ls ho hw kk jj rr
  unfold o_ji at ho
  split at ho
  · exact lv_lushr C.1 C.2.1 d rfl (kk _ _ _ _ _ _ ho hw)
  · exact ho.elim
theorem ok_lcmp (d : decode cc pc = .ok (.lcmp, 1)) : rx_ok own cc nL rt δ pc o_jc (pc + 1) := by
  intro p l e R s m args below meth c D cs ad A H0 ids cells slots Q C lv st w k J Kr H locs ls ho hw kk jj rr
  unfold o_jc at ho
  split at ho
  · exact W.lcmp C.1 C.2.1 d (kk _ _ _ _ _ _ ho hw)
  · exact ho.elim
theorem ok_i2l (d : decode cc pc = .ok (.i2l, 1)) : rx_ok own cc nL rt δ pc o_i2l (pc + 1) := by
  intro p l e R s m args below meth c D cs ad A H0 ids cells slots Q C lv st w k J Kr H locs ls ho hw kk jj rr
  unfold o_i2l at ho
  split at ho
  · exact lv_i2l C.1 C.2.1 d rfl (kk _ _ _ _ _ _ ho hw)
  · exact ho.elim
theorem ok_l2i (d : decode cc pc = .ok (.l2i, 1)) : rx_ok own cc nL rt δ pc o_l2i (pc + 1) := by
  intro p l e R s m args below meth c D cs ad A H0 ids cells slots Q C lv st w k J Kr H locs ls ho hw kk jj rr
  unfold o_l2i at ho
  split at ho
  · exact lv_l2i C.1 C.2.1 d rfl (kk _ _ _ _ _ _ ho hw)
  · exact ho.elim
theorem ok_dup (d : decode cc pc = .ok (.dup, 1)) : rx_ok own cc nL rt δ pc o_dup (pc + 1) := by
  intro p l e R s m args below meth c D cs ad A H0 ids cells slots Q C lv st w k J Kr H locs ls ho hw kk jj rr
  unfold o_dup at ho
  split at ho
  · split at ho
    · rename_i hv
      exact lv_dup C.1 C.2.1 d ((rx_cat_v _ _).trans ((rx_wide_ff _).mp hv)) (kk _ _ _ _ _ _ ho hw)
    · exact ho.elim
  · exact ho.elim
theorem ok_pop (d : decode cc pc = .ok (.pop, 1)) : rx_ok own cc nL rt δ pc o_pop (pc + 1) := by
  intro p l e R s m args below meth c D cs ad A H0 ids cells slots Q C lv st w k J Kr H locs ls ho hw kk jj rr
  unfold o_pop at ho
  split at ho
  · split at ho
    · rename_i hv
      exact lv_pop C.1 C.2.1 d ((rx_cat_v _ _).trans ((rx_wide_ff _).mp hv)) (kk _ _ _ _ _ _ ho hw)
    · exact ho.elim
  · exact ho.elim
theorem ok_dup2 (d : decode cc pc = .ok (.dup2, 1)) : rx_ok own cc nL rt δ pc o_dup2 (pc + 1) := by
  intro p l e R s m args below meth c D cs ad A H0 ids cells slots Q C lv st w k J Kr H locs ls ho hw kk jj rr
  unfold o_dup2 at ho
  split at ho
  · split at ho
    · rename_i hv
      exact lv_dup2_2 C.1 C.2.1 d ((rx_cat_v _ _).trans ((rx_wide_iff _).mp hv)) (kk _ _ _ _ _ _ ho hw)
    · rename_i hv
      split at ho
      · split at ho
        · rename_i hu
          exact lv_dup2_11 C.1 C.2.1 d ((rx_cat_v _ _).trans ((rx_wide_ff _).mp hv)) ((rx_cat_v _ _).trans ((rx_wide_ff _).mp hu)) (kk _ _ _ _ _ _ ho hw)
        · exact ho.elim
      · exact ho.elim
  · exact ho.elim
theorem rx_Wd_pk {D : va_G} {cs : Nat → ClassId} {ad : Nat → Nat} {A : Nat → Prop} {H0 : Heap} {ids pk : List Nat} {lv : rxL} {w : va_W} {H : Heap} {locs : List Loc} {ls : Array Slot} (h : rx_Wd nL D cs ad A H0 ids lv w H locs ls) : rx_Wd nL D cs ad A H0 ids (rx_pk lv pk) w H locs ls :=
  ⟨h.1, h.2.1, h.2.2.1, rx_has_sub h.2.2.2.1 (rx_l_sub (fun _ hq => rx_pk_mem hq)), h.2.2.2.2⟩
theorem ok_goto {off : Int} {t : Nat} {pk : List Nat} (d : decode cc pc = .ok (.goto off, 3)) (ht : (pc : Int) + off = (t : Int)) {pc' : Nat} : rx_ok own cc nL rt δ pc (o_go t pk) pc' := by
  intro p l e R s m args below meth c D cs ad A H0 ids cells slots Q C lv st w k J Kr H locs ls ho hw kk jj rr
  exact lv_goto C.1 C.2.1 d ht (jj _ _ _ _ _ _ _ ho (rx_Wd_pk hw))
theorem ok_fall {pk : List Nat} {pc' : Nat} : rx_ok own cc nL rt δ pc (o_go pc pk) pc' := by
  intro p l e R s m args below meth c D cs ad A H0 ids cells slots Q C lv st w k J Kr H locs ls ho hw kk jj rr
  exact jj _ _ _ _ _ _ _ ho (rx_Wd_pk hw)
theorem ok_if {cn : ClassFile.Cond} {cp : Int32 → Prop} {off : Int} {t : Nat} {pk : List Nat} (hr : ∀ {p : Program} {l : Launch} {e : Env} {R : Room} {s : State} {m : MethodId} {args : Array Value} {below : List Frame} {meth : Method} {c : Code} {H : Heap} {locs : List Loc} {cells slots : Nat} {Q : State → Prop} {ls : Array Slot} {rest : List Value} {x : Int32}, p.tables.exec = Jvm.exec → c.code = cc → (cp x → W p l e R s m args below meth c H locs cells slots Q (F0 m t ls rest)) → (¬ cp x → W p l e R s m args below meth c H locs cells slots Q (F0 m (pc + 3) ls rest)) → W p l e R s m args below meth c H locs cells slots Q (F0 m pc ls (.int x :: rest))) : rx_ok own cc nL rt δ pc (o_if cp t pk) (pc + 3) := by
  intro p l e R s m args below meth c D cs ad A H0 ids cells slots Q C lv st w k J Kr H locs ls ho hw kk jj rr
  unfold o_if at ho
  split at ho
  · exact hr C.1 C.2.1 (fun h => jj _ _ _ _ _ _ _ (ho.1 h) (rx_Wd_pk hw)) (fun h => kk _ _ _ _ _ _ (ho.2 h) hw)
  · exact ho.elim
theorem ok_ifeq {off : Int} {t : Nat} {pk : List Nat} (d : decode cc pc = .ok (.ifCond .eq off, 3)) (ht : (pc : Int) + off = (t : Int)) : rx_ok own cc nL rt δ pc (o_if (fun x => x = 0) t pk) (pc + 3) := ok_if (cn := .eq) (off := off) (fun hx hb a b => lv_if_eq hx hb d ht a b)
theorem ok_ifne {off : Int} {t : Nat} {pk : List Nat} (d : decode cc pc = .ok (.ifCond .ne off, 3)) (ht : (pc : Int) + off = (t : Int)) : rx_ok own cc nL rt δ pc (o_ifn t pk) (pc + 3) := by
  intro p l e R s m args below meth c D cs ad A H0 ids cells slots Q C lv st w k J Kr H locs ls ho hw kk jj rr
  unfold o_ifn at ho
  split at ho
  · exact lv_if_ne C.1 C.2.1 d ht (fun h => jj _ _ _ _ _ _ _ (ho.1 h) (rx_Wd_pk hw)) (fun h => kk _ _ _ _ _ _ (ho.2 h) hw)
  · exact ho.elim
theorem ok_iflt {off : Int} {t : Nat} {pk : List Nat} (d : decode cc pc = .ok (.ifCond .lt off, 3)) (ht : (pc : Int) + off = (t : Int)) : rx_ok own cc nL rt δ pc (o_if (fun x => x < 0) t pk) (pc + 3) := ok_if (cn := .eq) (off := off) (fun hx hb a b => lv_if_lt hx hb d ht a b)
theorem ok_ifge {off : Int} {t : Nat} {pk : List Nat} (d : decode cc pc = .ok (.ifCond .ge off, 3)) (ht : (pc : Int) + off = (t : Int)) : rx_ok own cc nL rt δ pc (o_if (fun x => 0 ≤ x) t pk) (pc + 3) := ok_if (cn := .eq) (off := off) (fun hx hb a b => lv_if_ge hx hb d ht a b)
theorem ok_ifgt {off : Int} {t : Nat} {pk : List Nat} (d : decode cc pc = .ok (.ifCond .gt off, 3)) (ht : (pc : Int) + off = (t : Int)) : rx_ok own cc nL rt δ pc (o_if (fun x => 0 < x) t pk) (pc + 3) := ok_if (cn := .eq) (off := off) (fun hx hb a b => lv_if_gt hx hb d ht a b)
theorem ok_ifle {off : Int} {t : Nat} {pk : List Nat} (d : decode cc pc = .ok (.ifCond .le off, 3)) (ht : (pc : Int) + off = (t : Int)) : rx_ok own cc nL rt δ pc (o_if (fun x => x ≤ 0) t pk) (pc + 3) := ok_if (cn := .eq) (off := off) (fun hx hb a b => lv_if_le hx hb d ht a b)
theorem ok_ic {cp : Int32 → Int32 → Prop} {t : Nat} {pk : List Nat} (hr : ∀ {p : Program} {l : Launch} {e : Env} {R : Room} {s : State} {m : MethodId} {args : Array Value} {below : List Frame} {meth : Method} {c : Code} {H : Heap} {locs : List Loc} {cells slots : Nat} {Q : State → Prop} {ls : Array Slot} {rest : List Value} {x y : Int32}, p.tables.exec = Jvm.exec → c.code = cc → (cp x y → W p l e R s m args below meth c H locs cells slots Q (F0 m t ls rest)) → (¬ cp x y → W p l e R s m args below meth c H locs cells slots Q (F0 m (pc + 3) ls rest)) → W p l e R s m args below meth c H locs cells slots Q (F0 m pc ls (.int y :: .int x :: rest))) : rx_ok own cc nL rt δ pc (o_ic cp t pk) (pc + 3) := by
  intro p l e R s m args below meth c D cs ad A H0 ids cells slots Q C lv st w k J Kr H locs ls ho hw kk jj rr
  unfold o_ic at ho
  split at ho
  · exact hr C.1 C.2.1 (fun h => jj _ _ _ _ _ _ _ (ho.1 h) (rx_Wd_pk hw)) (fun h => kk _ _ _ _ _ _ (ho.2 h) hw)
  · exact ho.elim
theorem ok_iceq {off : Int} {t : Nat} {pk : List Nat} (d : decode cc pc = .ok (.if_icmp .eq off, 3)) (ht : (pc : Int) + off = (t : Int)) : rx_ok own cc nL rt δ pc (o_ic (fun x y => x = y) t pk) (pc + 3) := ok_ic (fun hx hb a b => lv_icmp_eq hx hb d ht a b)
theorem ok_icne {off : Int} {t : Nat} {pk : List Nat} (d : decode cc pc = .ok (.if_icmp .ne off, 3)) (ht : (pc : Int) + off = (t : Int)) : rx_ok own cc nL rt δ pc (o_icn t pk) (pc + 3) := by
  intro p l e R s m args below meth c D cs ad A H0 ids cells slots Q C lv st w k J Kr H locs ls ho hw kk jj rr
  unfold o_icn at ho
  split at ho
  · exact lv_icmp_ne C.1 C.2.1 d ht (fun h => jj _ _ _ _ _ _ _ (ho.1 h) (rx_Wd_pk hw)) (fun h => kk _ _ _ _ _ _ (ho.2 h) hw)
  · exact ho.elim
theorem ok_iclt {off : Int} {t : Nat} {pk : List Nat} (d : decode cc pc = .ok (.if_icmp .lt off, 3)) (ht : (pc : Int) + off = (t : Int)) : rx_ok own cc nL rt δ pc (o_ic (fun x y => x < y) t pk) (pc + 3) := ok_ic (fun hx hb a b => lv_icmp_lt hx hb d ht a b)
theorem ok_icge {off : Int} {t : Nat} {pk : List Nat} (d : decode cc pc = .ok (.if_icmp .ge off, 3)) (ht : (pc : Int) + off = (t : Int)) : rx_ok own cc nL rt δ pc (o_ic (fun x y => y ≤ x) t pk) (pc + 3) := ok_ic (fun hx hb a b => lv_icmp_ge hx hb d ht a b)
theorem ok_icgt {off : Int} {t : Nat} {pk : List Nat} (d : decode cc pc = .ok (.if_icmp .gt off, 3)) (ht : (pc : Int) + off = (t : Int)) : rx_ok own cc nL rt δ pc (o_ic (fun x y => y < x) t pk) (pc + 3) := ok_ic (fun hx hb a b => lv_icmp_gt hx hb d ht a b)
theorem ok_icle {off : Int} {t : Nat} {pk : List Nat} (d : decode cc pc = .ok (.if_icmp .le off, 3)) (ht : (pc : Int) + off = (t : Int)) : rx_ok own cc nL rt δ pc (o_ic (fun x y => x ≤ y) t pk) (pc + 3) := ok_ic (fun hx hb a b => lv_icmp_le hx hb d ht a b)
theorem ok_iret (d : decode cc pc = .ok (.ireturn, 1)) (hr : rt = some .int) {pc' : Nat} : rx_ok own cc nL rt δ pc o_ri pc' := by
  intro p l e R s m args below meth c D cs ad A H0 ids cells slots Q C lv st w k J Kr H locs ls ho hw kk jj rr
  unfold o_ri at ho
  split at ho
  · exact rr _ _ _ _ _ _ _ _ ho hw d (Or.inl ⟨rfl, _, rfl, Or.inl hr⟩)
  · exact ho.elim
theorem ok_zret (d : decode cc pc = .ok (.ireturn, 1)) (hr : rt = some .boolean) {pc' : Nat} : rx_ok own cc nL rt δ pc o_rz pc' := by
  intro p l e R s m args below meth c D cs ad A H0 ids cells slots Q C lv st w k J Kr H locs ls ho hw kk jj rr
  unfold o_rz at ho
  split at ho
  · exact rr _ _ _ _ _ _ _ _ ho.2 hw d (Or.inl ⟨rfl, _, rfl, Or.inr ⟨hr, ho.1⟩⟩)
  · exact ho.elim
theorem ok_lret (d : decode cc pc = .ok (.lreturn, 1)) (hr : rt = some .long) {pc' : Nat} : rx_ok own cc nL rt δ pc o_rl pc' := by
  intro p l e R s m args below meth c D cs ad A H0 ids cells slots Q C lv st w k J Kr H locs ls ho hw kk jj rr
  unfold o_rl at ho
  split at ho
  · exact rr _ _ _ _ _ _ _ _ ho hw d (Or.inr (Or.inl ⟨rfl, _, rfl, hr⟩))
  · exact ho.elim
theorem ok_vret (d : decode cc pc = .ok (.return_, 1)) (hr : rt = none) {pc' : Nat} : rx_ok own cc nL rt δ pc o_rv pc' := by
  intro p l e R s m args below meth c D cs ad A H0 ids cells slots Q C lv st w k J Kr H locs ls ho hw kk jj rr
  unfold o_rv at ho
  split at ho
  · exact rr _ _ _ _ _ _ _ _ ho hw d (Or.inr (Or.inr (Or.inl ⟨rfl, rfl, hr⟩)))
  · exact ho.elim
theorem ok_aret {n : String} (d : decode cc pc = .ok (.areturn, 1)) (hr : rt = some (.object n)) {pc' : Nat} : rx_ok own cc nL rt δ pc o_ra pc' := by
  intro p l e R s m args below meth c D cs ad A H0 ids cells slots Q C lv st w k J Kr H locs ls ho hw kk jj rr
  unfold o_ra at ho
  split at ho
  · exact rr _ _ _ _ _ _ _ _ ho hw d (Or.inr (Or.inr (Or.inr ⟨rfl, _, n, rfl, hr⟩)))
  · exact ho.elim
end RXOK2
