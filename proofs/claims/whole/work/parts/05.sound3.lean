/-! heap rows -/
theorem rx_le2 (t : Nat) (h : t ≤ 2) : t = 0 ∨ t = 1 ∨ t = 2 := by omega
theorem rx_w_get {ad : Nat → Nat} {cs : Nat → ClassId} {w : va_W} {k : Nat} {a : Nat} {e : va_E} (h : w[k]? = some (a, e)) : (rx_w ad cs w)[k]? = some (ad a, rx_e ad cs e) := by
  simp [rx_w, h]
theorem rx_w_set {ad : Nat → Nat} {cs : Nat → ClassId} (w : va_W) (k : Nat) (a : Nat) (e : va_E) : rx_w ad cs (w.set k (a, e)) = (rx_w ad cs w).set k (ad a, rx_e ad cs e) := by
  simp [rx_w, List.map_set]
theorem rx_ty0 (cs : Nat → ClassId) : (rx_ty cs)[0]? = some (cs 0, .int) := rfl
theorem rx_ty1 (cs : Nat → ClassId) : (rx_ty cs)[1]? = some (cs 1, .long) := rfl
theorem rx_ty2 (cs : Nat → ClassId) : (rx_ty cs)[2]? = some (cs 2, .boolean) := rfl
/-- a class of the tables: its place, its field words -/
def rx_cl (ci : Nat) (C : String) (T : u_T) (N : Nat) : Prop := vwCl[ci]? = some (C, T, N) ∧ (∀ w ∈ u_ws C T N, w ∈ rx_tbl) ∧ (∃ ty0 : Nat → FieldType, ∀ k, k < N → parseFieldDescriptor (T k).2.2.1 = some (ty0 k)) ∧ (∀ a, a < N → ∀ b, b < N → a ≠ b → (T a).2.1 ≠ (T b).2.1)
theorem rx_arI_spec {w : va_W} {t a n : Nat} {f : Nat → Int32} (h : rx_arI w t a = some (n, f)) : rx_get w a = some (.inl (t, n, .inl f)) := by
  unfold rx_arI at h
  split at h
  · rename_i t' n' f' hg
    split at h
    · rename_i hb
      cases h
      rw [hg, Nat.eq_of_beq_eq_true hb]
    · cases h
  · cases h
theorem rx_arJ_spec {w : va_W} {a n : Nat} {f : Nat → Int64} (h : rx_arJ w a = some (n, f)) : rx_get w a = some (.inl (1, n, .inr (.inl f))) := by
  unfold rx_arJ at h
  split at h
  · rename_i t' n' f' hg
    split at h
    · rename_i hb
      cases h
      rw [hg, Nat.eq_of_beq_eq_true hb]
    · cases h
  · cases h
section RXOK3
variable {own : String} {cc : ByteArray} {nL : Nat} {rt : Option FieldType} {δ pc : Nat}
theorem ok_get {i ci j : Nat} {C : String} {T : u_T} {N : Nat} (d : decode cc pc = .ok (.getfield i, 3)) (hc : rx_cl ci C T N) (hj : j < N) (hl : Cond.fieldLink own i (T j).1 (T j).2.1 (T j).2.2.1 ∈ rx_tbl) : rx_ok own cc nL rt δ pc (o_gf ci j) (pc + 3) := by
  intro p l e R s m args below meth c D cs ad A H0 ids cells slots Q Cx lv st w k J Kr H locs ls ho hw kk jj rr
  unfold o_gf at ho
  split at ho
  · split at ho
    · rename_i a st' c' fs hg
      split at ho
      · rename_i v hb hn
        obtain ⟨q, h1, h2⟩ := rx_get_at hg
        rw [Nat.eq_of_beq_eq_true hb] at h1
        refine va_get (v := rx_v ad v) Cx.1 Cx.2.1 Cx.2.2.2.2.1 hc.2.1 Cx.2.2.2.1 Cx.2.2.2.2.2.1 hw.1 q (rx_w_get h1) hc.1 j hj (Cx.2.2.2.2.1 _ hl) (fun _ h9 => h9) ?_ d (kk _ _ _ _ _ _ ho hw)
        rw [rx_nth_eq] at hn
        simp [hn]
      · exact ho.elim
    · exact ho.elim
  · exact ho.elim
theorem rx_putW {i ci j : Nat} {C : String} {T : u_T} {N : Nat} {ty : FieldType} {v : Value} {a : Nat} (d : decode cc pc = .ok (.putfield i, 3)) (hc : rx_cl ci C T N) (hj : j < N) (hl : Cond.fieldLink own i (T j).1 (T j).2.1 (T j).2.2.1 ∈ rx_tbl) (hfin : (T j).2.2.2 = false) (hd : parseFieldDescriptor (T j).2.2.1 = some ty)
    {p : Program} {l : Launch} {e : Env} {R : Room} {s : State} {m : MethodId} {args : Array Value} {below : List Frame} {meth : Method} {c : Code} {D : va_G} {cs : Nat → ClassId} {ad : Nat → Nat} {A : Nat → Prop} {H0 : Heap} {ids : List Nat} {cells slots : Nat} {Q : State → Prop}
    (Cx : rx_Cx own cc nL rt δ p R s m args meth c D cs A H0 cells slots) {lv : rxL} {st : List Value} {w : va_W} {k : va_W → Prop} {H : Heap} {locs : List Loc} {ls : Array Slot}
    (hn : narrow ty (rx_v ad v) = rx_v ad v) (hfit : fits ty (rx_v ad v) = true) (ho : rx_put ci j a v w k) (hw : rx_Wd nL D cs ad A H0 ids lv w H locs ls)
    (kk : ∀ w' H' locs', k w' → rx_Wd nL D cs ad A H0 ids lv w' H' locs' ls → W p l e R s m args below meth c H' locs' cells slots Q (F0 m (pc + 3) ls (st.map (rx_v ad)))) :
    W p l e R s m args below meth c H locs cells slots Q (F0 m pc ls (rx_v ad v :: .ref (ad a) :: st.map (rx_v ad))) := by
  unfold rx_put at ho
  split at ho
  · rename_i c' fs hg
    split at ho
    · rename_i v0 hb hn0
      obtain ⟨q, h1, h2⟩ := rx_get_at hg
      rw [Nat.eq_of_beq_eq_true hb] at h1
      obtain ⟨hc1, hc2, ⟨ty0, hty0⟩, hc4⟩ := hc
      have hlen : j < fs.length := by
        rw [rx_nth_eq] at hn0
        exact (List.getElem?_eq_some_iff.mp hn0).1
      refine va_put (v := rx_v ad v) (ty := ty) Cx.1 Cx.2.1 Cx.2.2.2.2.1 hc2 ty0 hty0 hc4 Cx.2.2.2.1 Cx.2.2.2.2.2.1 hw.1 hw.2.1 hw.2.2.1 q (rx_w_get h1) hc1 j hj (Cx.2.2.2.2.1 _ hl) (fun _ h9 => h9) hfin hd hn hfit (by simpa using hlen) d (fun H1 locs1 g1 g2 g3 => ?_)
      refine kk _ H1 locs1 ho ⟨?_, ?_, g3, hw.2.2.2.1, by rw [rx_set_ids]; exact hw.2.2.2.2⟩
      · rw [h2, rx_w_set, Nat.eq_of_beq_eq_true hb, rx_upd_eq]
        simpa [rx_e, List.map_set] using g1
      · rw [h2, rx_w_set, Nat.eq_of_beq_eq_true hb, rx_upd_eq]
        simpa [rx_e, List.map_set] using g2
    · exact ho.elim
  · exact ho.elim
theorem ok_puti {i ci j : Nat} {C : String} {T : u_T} {N : Nat} (d : decode cc pc = .ok (.putfield i, 3)) (hc : rx_cl ci C T N) (hj : j < N) (hl : Cond.fieldLink own i (T j).1 (T j).2.1 (T j).2.2.1 ∈ rx_tbl) (hfin : (T j).2.2.2 = false) (hd : parseFieldDescriptor (T j).2.2.1 = some .int) : rx_ok own cc nL rt δ pc (o_pfi ci j) (pc + 3) := by
  intro p l e R s m args below meth c D cs ad A H0 ids cells slots Q Cx lv st w k J Kr H locs ls ho hw kk jj rr
  unfold o_pfi at ho
  split at ho
  · rename_i x a st'
    exact rx_putW (v := .int x) d hc hj hl hfin hd Cx rfl rfl ho hw (fun w' H' locs' h1 h2 => kk _ _ _ _ _ _ h1 h2)
  · exact ho.elim
theorem ok_putz {i ci j : Nat} {C : String} {T : u_T} {N : Nat} (d : decode cc pc = .ok (.putfield i, 3)) (hc : rx_cl ci C T N) (hj : j < N) (hl : Cond.fieldLink own i (T j).1 (T j).2.1 (T j).2.2.1 ∈ rx_tbl) (hfin : (T j).2.2.2 = false) (hd : parseFieldDescriptor (T j).2.2.1 = some .boolean) : rx_ok own cc nL rt δ pc (o_pfz ci j) (pc + 3) := by
  intro p l e R s m args below meth c D cs ad A H0 ids cells slots Q Cx lv st w k J Kr H locs ls ho hw kk jj rr
  unfold o_pfz at ho
  split at ho
  · rename_i x a st'
    have hn : narrow .boolean (Value.int x) = .int x := by rcases ho.1 with rfl | rfl <;> rfl
    have hf : fits .boolean (Value.int x) = true := by rcases ho.1 with rfl | rfl <;> rfl
    exact rx_putW (v := .int x) d hc hj hl hfin hd Cx hn hf ho.2 hw (fun w' H' locs' h1 h2 => kk _ _ _ _ _ _ h1 h2)
  · exact ho.elim
theorem ok_putl {i ci j : Nat} {C : String} {T : u_T} {N : Nat} (d : decode cc pc = .ok (.putfield i, 3)) (hc : rx_cl ci C T N) (hj : j < N) (hl : Cond.fieldLink own i (T j).1 (T j).2.1 (T j).2.2.1 ∈ rx_tbl) (hfin : (T j).2.2.2 = false) (hd : parseFieldDescriptor (T j).2.2.1 = some .long) : rx_ok own cc nL rt δ pc (o_pfl ci j) (pc + 3) := by
  intro p l e R s m args below meth c D cs ad A H0 ids cells slots Q Cx lv st w k J Kr H locs ls ho hw kk jj rr
  unfold o_pfl at ho
  split at ho
  · rename_i x a st'
    exact rx_putW (v := .long x) d hc hj hl hfin hd Cx rfl rfl ho hw (fun w' H' locs' h1 h2 => kk _ _ _ _ _ _ h1 h2)
  · exact ho.elim
theorem ok_puta {i ci j : Nat} {C : String} {T : u_T} {N : Nat} (d : decode cc pc = .ok (.putfield i, 3)) (hc : rx_cl ci C T N) (hj : j < N) (hl : Cond.fieldLink own i (T j).1 (T j).2.1 (T j).2.2.1 ∈ rx_tbl) (hfin : (T j).2.2.2 = false) (hd : parseFieldDescriptor (T j).2.2.1 = some (.array .long)) : rx_ok own cc nL rt δ pc (o_pfa ci j) (pc + 3) := by
  intro p l e R s m args below meth c D cs ad A H0 ids cells slots Q Cx lv st w k J Kr H locs ls ho hw kk jj rr
  unfold o_pfa at ho
  split at ho
  · rename_i x a st'
    exact rx_putW (v := .ref x) d hc hj hl hfin hd Cx rfl rfl ho hw (fun w' H' locs' h1 h2 => kk _ _ _ _ _ _ h1 h2)
  · exact ho.elim
theorem ok_iald (d : decode cc pc = .ok (.iaload, 1)) : rx_ok own cc nL rt δ pc (o_ia 0) (pc + 1) := by
  intro p l e R s m args below meth c D cs ad A H0 ids cells slots Q Cx lv st w k J Kr H locs ls ho hw kk jj rr
  unfold o_ia at ho
  split at ho
  · split at ho
    · rename_i i a st' n f hg
      obtain ⟨q, h1, h2⟩ := rx_get_at (rx_arI_spec hg)
      exact va_iald Cx.1 Cx.2.1 Cx.2.2.2.2.2.1 hw.1 q 0 (rx_w_get h1) rfl ho.1 d (kk _ _ _ _ _ _ ho.2 hw)
    · exact ho.elim
  · exact ho.elim
theorem ok_zald (d : decode cc pc = .ok (.baload, 1)) : rx_ok own cc nL rt δ pc (o_ia 2) (pc + 1) := by
  intro p l e R s m args below meth c D cs ad A H0 ids cells slots Q Cx lv st w k J Kr H locs ls ho hw kk jj rr
  unfold o_ia at ho
  split at ho
  · split at ho
    · rename_i i a st' n f hg
      obtain ⟨q, h1, h2⟩ := rx_get_at (rx_arI_spec hg)
      exact va_zald Cx.1 Cx.2.1 Cx.2.2.2.2.2.1 hw.1 q 2 (rx_w_get h1) rfl ho.1 d (kk _ _ _ _ _ _ ho.2 hw)
    · exact ho.elim
  · exact ho.elim
theorem ok_lald (d : decode cc pc = .ok (.laload, 1)) : rx_ok own cc nL rt δ pc o_la (pc + 1) := by
  intro p l e R s m args below meth c D cs ad A H0 ids cells slots Q Cx lv st w k J Kr H locs ls ho hw kk jj rr
  unfold o_la at ho
  split at ho
  · split at ho
    · rename_i i a st' n f hg
      obtain ⟨q, h1, h2⟩ := rx_get_at (rx_arJ_spec hg)
      exact va_lald Cx.1 Cx.2.1 Cx.2.2.2.2.2.1 hw.1 q 1 (rx_w_get h1) rfl ho.1 d (kk _ _ _ _ _ _ ho.2 hw)
    · exact ho.elim
  · exact ho.elim
theorem ok_len (d : decode cc pc = .ok (.arraylength, 1)) : rx_ok own cc nL rt δ pc o_len (pc + 1) := by
  intro p l e R s m args below meth c D cs ad A H0 ids cells slots Q Cx lv st w k J Kr H locs ls ho hw kk jj rr
  unfold o_len at ho
  split at ho
  · split at ho
    · rename_i a st' t n f hg
      split at ho
      · rename_i hb
        obtain ⟨q, h1, h2⟩ := rx_get_at hg
        have ht : t ≤ 2 := Nat.le_of_ble_eq_true hb
        rcases rx_le2 t ht with rfl | rfl | rfl
        · exact va_alen Cx.1 Cx.2.1 Cx.2.2.2.2.2.1 hw.1 q 0 (rx_w_get h1) (rx_ty0 cs) rfl d (kk _ _ _ _ _ _ ho hw)
        · exact va_alen Cx.1 Cx.2.1 Cx.2.2.2.2.2.1 hw.1 q 1 (rx_w_get h1) (rx_ty1 cs) rfl d (kk _ _ _ _ _ _ ho hw)
        · exact va_alen Cx.1 Cx.2.1 Cx.2.2.2.2.2.1 hw.1 q 2 (rx_w_get h1) (rx_ty2 cs) rfl d (kk _ _ _ _ _ _ ho hw)
      · exact ho.elim
    · exact ho.elim
  · exact ho.elim
theorem ok_iast (d : decode cc pc = .ok (.iastore, 1)) : rx_ok own cc nL rt δ pc o_ias (pc + 1) := by
  intro p l e R s m args below meth c D cs ad A H0 ids cells slots Q Cx lv st w k J Kr H locs ls ho hw kk jj rr
  unfold o_ias at ho
  split at ho
  · split at ho
    · rename_i x i a st' n f hg
      obtain ⟨q, h1, h2⟩ := rx_get_at (rx_arI_spec hg)
      refine va_iast Cx.1 Cx.2.1 Cx.2.2.2.2.2.1 hw.1 hw.2.1 hw.2.2.1 q 0 (rx_w_get h1) rfl ho.1 d (fun H1 locs1 g1 g2 g3 => kk _ _ _ _ _ _ ho.2 ⟨?_, ?_, g3, hw.2.2.2.1, by rw [rx_set_ids]; exact hw.2.2.2.2⟩)
      · rw [h2, rx_w_set]; exact g1
      · rw [h2, rx_w_set]; exact g2
    · exact ho.elim
  · exact ho.elim
theorem ok_zast (d : decode cc pc = .ok (.bastore, 1)) : rx_ok own cc nL rt δ pc o_zas (pc + 1) := by
  intro p l e R s m args below meth c D cs ad A H0 ids cells slots Q Cx lv st w k J Kr H locs ls ho hw kk jj rr
  unfold o_zas at ho
  split at ho
  · split at ho
    · rename_i x i a st' n f hg
      obtain ⟨q, h1, h2⟩ := rx_get_at (rx_arI_spec hg)
      refine va_zast Cx.1 Cx.2.1 Cx.2.2.2.2.2.1 hw.1 hw.2.1 hw.2.2.1 q 2 (rx_w_get h1) rfl ho.1 d (fun H1 locs1 g1 g2 g3 => kk _ _ _ _ _ _ ho.2 ⟨?_, ?_, g3, hw.2.2.2.1, by rw [rx_set_ids]; exact hw.2.2.2.2⟩)
      · rw [h2, rx_w_set]; exact g1
      · rw [h2, rx_w_set]; exact g2
    · exact ho.elim
  · exact ho.elim
theorem ok_last (d : decode cc pc = .ok (.lastore, 1)) : rx_ok own cc nL rt δ pc o_las (pc + 1) := by
  intro p l e R s m args below meth c D cs ad A H0 ids cells slots Q Cx lv st w k J Kr H locs ls ho hw kk jj rr
  unfold o_las at ho
  split at ho
  · split at ho
    · rename_i x i a st' n f hg
      obtain ⟨q, h1, h2⟩ := rx_get_at (rx_arJ_spec hg)
      refine va_last Cx.1 Cx.2.1 Cx.2.2.2.2.2.1 hw.1 hw.2.1 hw.2.2.1 q 1 (rx_w_get h1) rfl ho.1 d (fun H1 locs1 g1 g2 g3 => kk _ _ _ _ _ _ ho.2 ⟨?_, ?_, g3, hw.2.2.2.1, by rw [rx_set_ids]; exact hw.2.2.2.2⟩)
      · rw [h2, rx_w_set]; exact g1
      · rw [h2, rx_w_set]; exact g2
    · exact ho.elim
  · exact ho.elim
theorem ok_copy {i : Nat} (d : decode cc pc = .ok (.invokestatic i, 3)) (hl : Cond.methodLink own i arraycopyName ∈ rx_tbl) (h1 : Cond.native arraycopyName ∈ rx_tbl) (h2 : Cond.static arraycopyName ∈ rx_tbl) (h3 : Cond.initialized "java/lang/System" ∈ rx_tbl) (hδ : 1 ≤ δ) : rx_ok own cc nL rt δ pc o_cp (pc + 3) := by
  intro p l e R s m args below meth c D cs ad A H0 ids cells slots Q Cx lv st w k J Kr H locs ls ho hw kk jj rr
  unfold o_cp at ho
  split at ho
  · split at ho
    · rename_i n dp dd sp b n0 f n1 g hg0 hg1
      obtain ⟨⟨a1, a2, a3, a4, a5⟩, ho⟩ := ho
      obtain ⟨q0, e1, e2⟩ := rx_get_at (rx_arI_spec hg0)
      obtain ⟨q1, e3, e4⟩ := rx_get_at (rx_arI_spec hg1)
      have hnw : nativeFrameWords "java/lang/System" "arraycopy" 5 + 11 ≤ 64 := by decide
      have hfr : δ ≤ R.frames := Cx.2.2.2.2.2.2.1
      have hlo : 64 * δ ≤ R.locals := Cx.2.2.2.2.2.2.2.1
      refine va_copyi (rest := []) Cx.1 Cx.2.1 (Cx.2.2.1.trans hw.2.2.2.1.1.symm) Cx.2.2.2.1 (Cx.2.2.2.2.1 _ hl) (Cx.2.2.2.2.1 _ h1) (Cx.2.2.2.2.1 _ h2) (Cx.2.2.2.2.1 _ h3) Cx.2.2.2.2.2.1 hw.1 hw.2.1 hw.2.2.1 q0 q1 0 0 (ty := .int) (rx_w_get e1) (rx_w_get e3) rfl rfl rfl a1 a2 a3 a4 a5 (fun _ _ => rfl) (by omega) (by simp only [List.map_nil, List.sum_nil]; omega) d (fun H1 locs1 g1 g2 g3 => kk _ _ _ _ _ _ ho ⟨?_, ?_, g3, hw.2.2.2.1, by rw [rx_set_ids]; exact hw.2.2.2.2⟩)
      · rw [e4, rx_w_set]; exact g1
      · rw [e4, rx_w_set]; exact g2
    · exact ho.elim
  · exact ho.elim
end RXOK3
