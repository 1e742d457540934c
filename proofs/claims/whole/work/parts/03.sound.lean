/-! what the abstract machine says holds of the machine -/
theorem rx_look_mem {lv : rxL} {i : Nat} {v : Value} (h : rx_look lv i = some v) : (i, v) ∈ lv := by
  induction lv with
  | nil => simp [rx_look] at h
  | cons q l ih =>
    obtain ⟨j, u⟩ := q
    cases hb : Nat.beq j i with
    | true =>
      simp only [rx_look, hb, Option.some.injEq] at h
      rw [Nat.eq_of_beq_eq_true hb, h]
      exact List.mem_cons_self
    | false =>
      simp only [rx_look, hb] at h
      exact List.mem_cons_of_mem _ (ih h)
theorem rx_get_mem {w : va_W} {i : Nat} {e : va_E} (h : rx_get w i = some e) : (i, e) ∈ w := by
  induction w with
  | nil => simp [rx_get] at h
  | cons q l ih =>
    obtain ⟨j, u⟩ := q
    cases hb : Nat.beq j i with
    | true =>
      simp only [rx_get, hb, Option.some.injEq] at h
      rw [Nat.eq_of_beq_eq_true hb, h]
      exact List.mem_cons_self
    | false =>
      simp only [rx_get, hb] at h
      exact List.mem_cons_of_mem _ (ih h)
theorem rx_get_none {w : va_W} {i : Nat} (h : rx_get w i = none) : ∀ e, (i, e) ∉ w := by
  induction w with
  | nil => intro e he; cases he
  | cons q l ih =>
    obtain ⟨j, u⟩ := q
    intro e he
    cases hb : Nat.beq j i with
    | true => simp [rx_get, hb] at h
    | false =>
      simp only [rx_get, hb] at h
      rcases List.mem_cons.mp he with he | he
      · cases he
        rw [Nat.beq_refl] at hb
        cases hb
      · exact ih h e he
theorem rx_get_at {w : va_W} {a : Nat} {e : va_E} (h : rx_get w a = some e) : ∃ k : Nat, w[k]? = some (a, e) ∧ ∀ x, rx_set w a x = w.set k (a, x) := by
  induction w with
  | nil => simp [rx_get] at h
  | cons q l ih =>
    obtain ⟨j, u⟩ := q
    cases hb : Nat.beq j a with
    | true =>
      simp only [rx_get, hb, Option.some.injEq] at h
      have hj := Nat.eq_of_beq_eq_true hb
      subst hj
      subst h
      exact ⟨0, rfl, fun x => by simp [rx_set]⟩
    | false =>
      simp only [rx_get, hb] at h
      obtain ⟨k, h1, h2⟩ := ih h
      exact ⟨k + 1, h1, fun x => by simp [rx_set, hb, h2 x]⟩
theorem rx_set_ids (w : va_W) (a : Nat) (x : va_E) : (rx_set w a x).map (·.1) = w.map (·.1) := by
  induction w with
  | nil => rfl
  | cons q l ih =>
    obtain ⟨j, u⟩ := q
    cases hb : Nat.beq j a <;> simp [rx_set, hb, ih]
theorem rx_nth_eq {α : Type} : ∀ (l : List α) (n : Nat), rx_nth l n = l[n]?
  | [], n => by simp [rx_nth]
  | a :: l, 0 => by simp [rx_nth]
  | a :: l, n + 1 => by simp [rx_nth, rx_nth_eq l n]
theorem rx_upd_eq {α : Type} : ∀ (l : List α) (n : Nat) (x : α), rx_upd l n x = l.set n x
  | [], n, x => by simp [rx_upd]
  | a :: l, 0, x => by simp [rx_upd]
  | a :: l, n + 1, x => by simp [rx_upd, rx_upd_eq l n x]
theorem rx_cat_v (ad : Nat → Nat) (v : Value) : (rx_v ad v).category = v.category := by cases v <;> rfl
theorem rx_wide_iff (v : Value) : rx_wide v = true ↔ v.category = 2 := by cases v <;> simp [rx_wide, Value.category]
theorem rx_wide_ff (v : Value) : rx_wide v = false ↔ v.category = 1 := by cases v <;> simp [rx_wide, Value.category]
theorem rx_has_sub {ls : Array Slot} {nL : Nat} {l l' : rxL} (h : lv_has ls nL l) (hm : ∀ q ∈ l', q ∈ l) : lv_has ls nL l' := ⟨h.1, h.2.1, fun q hq => h.2.2 q (hm q hq)⟩
theorem rx_pk_mem {lv : rxL} : ∀ {is : List Nat} {q : Nat × Value}, q ∈ rx_pk lv is → q ∈ lv
  | [], q, h => by cases h
  | i :: is, q, h => by
    cases hl : rx_look lv i with
    | none =>
      simp only [rx_pk, hl] at h
      exact rx_pk_mem h
    | some v =>
      simp only [rx_pk, hl, List.mem_cons] at h
      rcases h with rfl | h
      · exact rx_look_mem hl
      · exact rx_pk_mem h
theorem rx_l_sub {ad : Nat → Nat} {l l' : rxL} (hm : ∀ q ∈ l', q ∈ l) : ∀ q ∈ rx_l ad l', q ∈ rx_l ad l := by
  intro q hq
  obtain ⟨q0, h1, h2⟩ := List.mem_map.mp hq
  exact List.mem_map.mpr ⟨q0, hm q0 h1, h2⟩
theorem rx_fl1_mem {i : Nat} : ∀ {lv : rxL} {q : Nat × Value}, q ∈ rx_fl1 i lv → q ∈ lv ∧ q.1 ≠ i ∧ ¬ (q.1 + 1 = i ∧ q.2.category = 2)
  | [], q, h => by cases h
  | (j, v) :: l, q, h => by
    have step : q ∈ rx_fl1 i l → q ∈ (j, v) :: l ∧ q.1 ≠ i ∧ ¬ (q.1 + 1 = i ∧ q.2.category = 2) := fun h => by
      obtain ⟨h1, h2⟩ := rx_fl1_mem h
      exact ⟨List.mem_cons_of_mem _ h1, h2⟩
    cases h1 : Nat.beq j i with
    | true =>
      simp only [rx_fl1, h1] at h
      exact step h
    | false =>
      have hn : j ≠ i := Nat.ne_of_beq_eq_false h1
      cases h2 : Nat.beq (j + 1) i with
      | true =>
        cases h3 : rx_wide v with
        | true =>
          simp only [rx_fl1, h1, h2, h3] at h
          exact step h
        | false =>
          simp only [rx_fl1, h1, h2, h3, List.mem_cons] at h
          rcases h with rfl | h
          · exact ⟨List.mem_cons_self, hn, fun z => by have := (rx_wide_ff v).mp h3; have z2 := z.2; simp only at z2; omega⟩
          · exact step h
      | false =>
        have hn2 : j + 1 ≠ i := Nat.ne_of_beq_eq_false h2
        cases h3 : rx_wide v <;>
        · simp only [rx_fl1, h1, h2, h3, List.mem_cons] at h
          rcases h with rfl | h
          · exact ⟨List.mem_cons_self, hn, fun z => hn2 z.1⟩
          · exact step h
theorem rx_fl2_mem {i : Nat} : ∀ {lv : rxL} {q : Nat × Value}, q ∈ rx_fl2 i lv → q ∈ lv ∧ q.1 ≠ i ∧ q.1 ≠ i + 1 ∧ ¬ (q.1 + 1 = i ∧ q.2.category = 2)
  | [], q, h => by cases h
  | (j, v) :: l, q, h => by
    have step : q ∈ rx_fl2 i l → q ∈ (j, v) :: l ∧ q.1 ≠ i ∧ q.1 ≠ i + 1 ∧ ¬ (q.1 + 1 = i ∧ q.2.category = 2) := fun h => by
      obtain ⟨h1, h2⟩ := rx_fl2_mem h
      exact ⟨List.mem_cons_of_mem _ h1, h2⟩
    cases h1 : Nat.beq j i with
    | true =>
      simp only [rx_fl2, h1] at h
      exact step h
    | false =>
      have hn : j ≠ i := Nat.ne_of_beq_eq_false h1
      cases h0 : Nat.beq j (i + 1) with
      | true =>
        simp only [rx_fl2, h1, h0] at h
        exact step h
      | false =>
        have hn0 : j ≠ i + 1 := Nat.ne_of_beq_eq_false h0
        cases h2 : Nat.beq (j + 1) i with
        | true =>
          cases h3 : rx_wide v with
          | true =>
            simp only [rx_fl2, h1, h0, h2, h3] at h
            exact step h
          | false =>
            simp only [rx_fl2, h1, h0, h2, h3, List.mem_cons] at h
            rcases h with rfl | h
            · exact ⟨List.mem_cons_self, hn, hn0, fun z => by have := (rx_wide_ff v).mp h3; have z2 := z.2; simp only at z2; omega⟩
            · exact step h
        | false =>
          have hn2 : j + 1 ≠ i := Nat.ne_of_beq_eq_false h2
          cases h3 : rx_wide v <;>
          · simp only [rx_fl2, h1, h0, h2, h3, List.mem_cons] at h
            rcases h with rfl | h
            · exact ⟨List.mem_cons_self, hn, hn0, fun z => hn2 z.1⟩
            · exact step h
theorem rx_has1 {ad : Nat → Nat} {ls : Array Slot} {nL i : Nat} {v u : Value} {lv : rxL} (hu : u = rx_v ad v) (h : lv_has ls nL ((i, u) :: (rx_l ad lv).filter (fun q => !(q.1 == i) && !(q.1 + 1 == i && q.2.category == 2)))) : lv_has ls nL (rx_l ad ((i, v) :: rx_fl1 i lv)) := by
  refine rx_has_sub h (fun q hq => ?_)
  rcases List.mem_cons.mp hq with rfl | hq
  · rw [hu]; exact List.mem_cons_self
  · obtain ⟨q0, h1, rfl⟩ := List.mem_map.mp hq
    obtain ⟨h2, h3, h4⟩ := rx_fl1_mem h1
    refine List.mem_cons_of_mem _ (List.mem_filter.mpr ⟨List.mem_map.mpr ⟨q0, h2, rfl⟩, ?_⟩)
    simp only [rx_cat_v, Bool.and_eq_true, Bool.not_eq_true', beq_eq_false_iff_ne, ne_eq, Bool.and_eq_false_iff]
    refine ⟨h3, ?_⟩
    by_cases hz : q0.1 + 1 = i
    · exact Or.inr (fun z => h4 ⟨hz, z⟩)
    · exact Or.inl hz
theorem rx_has2 {ad : Nat → Nat} {ls : Array Slot} {nL i : Nat} {v u : Value} {lv : rxL} (hu : u = rx_v ad v) (h : lv_has ls nL ((i, u) :: (rx_l ad lv).filter (fun q => !(q.1 == i) && (!(q.1 == i + 1) && !(q.1 + 1 == i && q.2.category == 2))))) : lv_has ls nL (rx_l ad ((i, v) :: rx_fl2 i lv)) := by
  refine rx_has_sub h (fun q hq => ?_)
  rcases List.mem_cons.mp hq with rfl | hq
  · rw [hu]; exact List.mem_cons_self
  · obtain ⟨q0, h1, rfl⟩ := List.mem_map.mp hq
    obtain ⟨h2, h3, h5, h4⟩ := rx_fl2_mem h1
    refine List.mem_cons_of_mem _ (List.mem_filter.mpr ⟨List.mem_map.mpr ⟨q0, h2, rfl⟩, ?_⟩)
    simp only [rx_cat_v, Bool.and_eq_true, Bool.not_eq_true', beq_eq_false_iff_ne, ne_eq, Bool.and_eq_false_iff]
    refine ⟨h3, h5, ?_⟩
    by_cases hz : q0.1 + 1 = i
    · exact Or.inr (fun z => h4 ⟨hz, z⟩)
    · exact Or.inl hz
theorem rx_loc {ad : Nat → Nat} {ls : Array Slot} {nL i : Nat} {v : Value} {lv : rxL} (h : lv_has ls nL (rx_l ad lv)) (hl : rx_look lv i = some v) : ls[i]? = some (.val (rx_v ad v)) :=
  h.2.2 (i, rx_v ad v) (List.mem_map.mpr ⟨(i, v), rx_look_mem hl, rfl⟩)
theorem rx_loc_k {ad : Nat → Nat} {i : Nat} {v : Value} {lv : rxL} (hl : rx_look lv i = some v) : ∃ k : Nat, (rx_l ad lv)[k]? = some (i, rx_v ad v) :=
  List.getElem?_of_mem (List.mem_map.mpr ⟨(i, v), rx_look_mem hl, rfl⟩)
-- the context of a method, the world at a point, and what it is for an operation to be right
def rx_Cx (own : String) (cc : ByteArray) (nL : Nat) (rt : Option FieldType) (δ : Nat) (p : Program) (R : Room) (s : State) (m : MethodId) (args : Array Value) (meth : Method) (c : Code) (D : va_G) (cs : Nat → ClassId) (A : Nat → Prop) (H0 : Heap) (cells slots : Nat) : Prop :=
  p.tables.exec = Jvm.exec ∧ c.code = cc ∧ c.maxLocals = nL ∧ s.vm.findClass own = some m.cls ∧ (∀ w ∈ rx_tbl, w.before args s = true) ∧ va_K D vwCl (rx_ty cs) s ∧ δ ≤ R.frames ∧ 64 * δ ≤ R.locals ∧ (∀ q : Nat, H0.size ≤ q → A q) ∧ cells ≤ R.cells ∧ slots ≤ R.slots ∧ rx_N s
def rx_Wd (nL : Nat) (D : va_G) (cs : Nat → ClassId) (ad : Nat → Nat) (A : Nat → Prop) (H0 : Heap) (ids : List Nat) (lv : rxL) (w : va_W) (H : Heap) (locs : List Loc) (ls : Array Slot) : Prop :=
  va_P D vwCl (rx_w ad cs w) H ∧ va_D A (rx_w ad cs w) ∧ va_S A H0 H locs ∧ lv_has ls nL (rx_l ad lv) ∧ w.map (·.1) = ids
def rx_isret (rt : Option FieldType) (ins : Instr) (r : Option Value) : Prop :=
  (ins = .ireturn ∧ ∃ x : Int32, r = some (.int x) ∧ (rt = some .int ∨ (rt = some .boolean ∧ rx_bool x))) ∨ (ins = .lreturn ∧ ∃ x : Int64, r = some (.long x) ∧ rt = some .long) ∨ (ins = .return_ ∧ r = none ∧ rt = none) ∨ (ins = .areturn ∧ ∃ (a : Nat) (n : String), r = some (.ref a) ∧ rt = some (.object n))
def rx_ok (own : String) (cc : ByteArray) (nL : Nat) (rt : Option FieldType) (δ pc : Nat) (o : rxOp) (pc' : Nat) : Prop :=
  ∀ (p : Program) (l : Launch) (e : Env) (R : Room) (s : State) (m : MethodId) (args : Array Value) (below : List Frame) (meth : Method) (c : Code) (D : va_G) (cs : Nat → ClassId) (ad : Nat → Nat) (A : Nat → Prop) (H0 : Heap) (ids : List Nat) (cells slots : Nat) (Q : State → Prop),
  rx_Cx own cc nL rt δ p R s m args meth c D cs A H0 cells slots → ∀ (lv : rxL) (st : List Value) (w : va_W) (k : rxK) (J : rxJ) (Kr : rxR) (H : Heap) (locs : List Loc) (ls : Array Slot),
  o lv st w k J Kr → rx_Wd nL D cs ad A H0 ids lv w H locs ls →
  (∀ lv' st' w' H' locs' ls', k lv' st' w' → rx_Wd nL D cs ad A H0 ids lv' w' H' locs' ls' → W p l e R s m args below meth c H' locs' cells slots Q (F0 m pc' ls' (st'.map (rx_v ad)))) →
  (∀ t lv' st' w' H' locs' ls', J t lv' st' w' → rx_Wd nL D cs ad A H0 ids lv' w' H' locs' ls' → W p l e R s m args below meth c H' locs' cells slots Q (F0 m t ls' (st'.map (rx_v ad)))) →
  (∀ r w' lv' H' locs' ls' pc1 ins, Kr r w' → rx_Wd nL D cs ad A H0 ids lv' w' H' locs' ls' → decode cc pc1 = .ok (ins, 1) → rx_isret rt ins r → W p l e R s m args below meth c H' locs' cells slots Q (F0 m pc1 ls' (r.toList.map (rx_v ad)))) →
  W p l e R s m args below meth c H locs cells slots Q (F0 m pc ls (st.map (rx_v ad)))
section RXOK
variable {own : String} {cc : ByteArray} {nL : Nat} {rt : Option FieldType} {δ pc : Nat}
theorem ok_iconst {n : Int} {v : Int32} (d : decode cc pc = .ok (.iconst n, 1)) (hv : Int32.ofInt n = v) : rx_ok own cc nL rt δ pc (o_c (.int v)) (pc + 1) := by
  intro p l e R s m args below meth c D cs ad A H0 ids cells slots Q C lv st w k J Kr H locs ls ho hw kk jj rr
  exact lv_iconst C.1 C.2.1 d hv (kk lv (.int v :: st) w H locs ls ho hw)
theorem ok_bipush {n : Int} {v : Int32} (d : decode cc pc = .ok (.bipush n, 2)) (hv : (Int8.ofInt n).toInt32 = v) : rx_ok own cc nL rt δ pc (o_c (.int v)) (pc + 2) := by
  intro p l e R s m args below meth c D cs ad A H0 ids cells slots Q C lv st w k J Kr H locs ls ho hw kk jj rr
  exact lv_bipush C.1 C.2.1 d hv (kk lv (.int v :: st) w H locs ls ho hw)
theorem ok_sipush {n : Int} {v : Int32} (d : decode cc pc = .ok (.sipush n, 3)) (hv : (Int16.ofInt n).toInt32 = v) : rx_ok own cc nL rt δ pc (o_c (.int v)) (pc + 3) := by
  intro p l e R s m args below meth c D cs ad A H0 ids cells slots Q C lv st w k J Kr H locs ls ho hw kk jj rr
  exact lv_sipush C.1 C.2.1 d hv (kk lv (.int v :: st) w H locs ls ho hw)
theorem ok_lconst {n : Fin 2} {v : Int64} (d : decode cc pc = .ok (.lconst n, 1)) (hv : Int64.ofNat (n : Nat) = v) : rx_ok own cc nL rt δ pc (o_c (.long v)) (pc + 1) := by
  intro p l e R s m args below meth c D cs ad A H0 ids cells slots Q C lv st w k J Kr H locs ls ho hw kk jj rr
  exact lv_lconst C.1 C.2.1 d hv (kk lv (.long v :: st) w H locs ls ho hw)
theorem ok_ldc {i : Nat} {v : Int32} (d : decode cc pc = .ok (.ldc i, 2)) (hc : Cond.constant own i v ∈ rx_tbl) : rx_ok own cc nL rt δ pc (o_c (.int v)) (pc + 2) := by
  intro p l e R s m args below meth c D cs ad A H0 ids cells slots Q C lv st w k J Kr H locs ls ho hw kk jj rr
  exact lv_ldc C.1 C.2.1 C.2.2.2.1 (C.2.2.2.2.1 _ hc) d (kk lv (.int v :: st) w H locs ls ho hw)
theorem ok_ldcw {i : Nat} {v : Int32} (d : decode cc pc = .ok (.ldc_w i, 3)) (hc : Cond.constant own i v ∈ rx_tbl) : rx_ok own cc nL rt δ pc (o_c (.int v)) (pc + 3) := by
  intro p l e R s m args below meth c D cs ad A H0 ids cells slots Q C lv st w k J Kr H locs ls ho hw kk jj rr
  exact lv_ldcw C.1 C.2.1 C.2.2.2.1 (C.2.2.2.2.1 _ hc) d (kk lv (.int v :: st) w H locs ls ho hw)
theorem ok_ldc2 {i : Nat} {v : Int64} (d : decode cc pc = .ok (.ldc2_w i, 3)) (hc : Cond.constantLong own i v ∈ rx_tbl) : rx_ok own cc nL rt δ pc (o_c (.long v)) (pc + 3) := by
  intro p l e R s m args below meth c D cs ad A H0 ids cells slots Q C lv st w k J Kr H locs ls ho hw kk jj rr
  exact lv_ldc2 C.1 C.2.1 C.2.2.2.1 (C.2.2.2.2.1 _ hc) d (kk lv (.long v :: st) w H locs ls ho hw)
theorem ok_iload_n {k : Fin 4} {i : Nat} (d : decode cc pc = .ok (.iload_n k, 1)) (hi : (k : Nat) = i) : rx_ok own cc nL rt δ pc (o_il i) (pc + 1) := by
  intro p l e R s m args below meth c D cs ad A H0 ids cells slots Q C lv st w k J Kr H locs ls ho hw kk jj rr
  unfold o_il at ho
  split at ho
  · rename_i x hx
    exact lv_iload_n C.1 C.2.1 d hi (rx_loc hw.2.2.2.1 hx) (kk _ _ _ _ _ _ ho hw)
  · exact ho.elim
theorem ok_iload {i : Nat} (d : decode cc pc = .ok (.iload i, 2)) : rx_ok own cc nL rt δ pc (o_il i) (pc + 2) := by
  intro p l e R s m args below meth c D cs ad A H0 ids cells slots Q C lv st w k J Kr H locs ls ho hw kk jj rr
  unfold o_il at ho
  split at ho
  · rename_i x hx
    exact lv_iload C.1 C.2.1 d (rx_loc hw.2.2.2.1 hx) (kk _ _ _ _ _ _ ho hw)
  · exact ho.elim
theorem ok_lload_n {k : Fin 4} {i : Nat} (d : decode cc pc = .ok (.lload_n k, 1)) (hi : (k : Nat) = i) : rx_ok own cc nL rt δ pc (o_ll i) (pc + 1) := by
  intro p l e R s m args below meth c D cs ad A H0 ids cells slots Q C lv st w k J Kr H locs ls ho hw kk jj rr
  unfold o_ll at ho
  split at ho
  · rename_i x hx
    exact lv_lload_n C.1 C.2.1 d hi (rx_loc hw.2.2.2.1 hx) (kk _ _ _ _ _ _ ho hw)
  · exact ho.elim
theorem ok_lload {i : Nat} (d : decode cc pc = .ok (.lload i, 2)) : rx_ok own cc nL rt δ pc (o_ll i) (pc + 2) := by
  intro p l e R s m args below meth c D cs ad A H0 ids cells slots Q C lv st w k J Kr H locs ls ho hw kk jj rr
  unfold o_ll at ho
  split at ho
  · rename_i x hx
    exact lv_lload C.1 C.2.1 d (rx_loc hw.2.2.2.1 hx) (kk _ _ _ _ _ _ ho hw)
  · exact ho.elim
theorem ok_aload_n {k : Fin 4} {i : Nat} (d : decode cc pc = .ok (.aload_n k, 1)) (hi : (k : Nat) = i) : rx_ok own cc nL rt δ pc (o_al i) (pc + 1) := by
  intro p l e R s m args below meth c D cs ad A H0 ids cells slots Q C lv st w k J Kr H locs ls ho hw kk jj rr
  unfold o_al at ho
  split at ho
  · rename_i x hx
    exact lv_aload_n C.1 C.2.1 d hi (rx_loc hw.2.2.2.1 hx) (kk _ _ _ _ _ _ ho hw)
  · exact ho.elim
theorem ok_aload {i : Nat} (d : decode cc pc = .ok (.aload i, 2)) : rx_ok own cc nL rt δ pc (o_al i) (pc + 2) := by
  intro p l e R s m args below meth c D cs ad A H0 ids cells slots Q C lv st w k J Kr H locs ls ho hw kk jj rr
  unfold o_al at ho
  split at ho
  · rename_i x hx
    exact lv_aload C.1 C.2.1 d (rx_loc hw.2.2.2.1 hx) (kk _ _ _ _ _ _ ho hw)
  · exact ho.elim
theorem ok_istore_n {k : Fin 4} {i : Nat} (d : decode cc pc = .ok (.istore_n k, 1)) (hi : (k : Nat) = i) (hn : i < nL) : rx_ok own cc nL rt δ pc (o_is i) (pc + 1) := by
  intro p l e R s m args below meth c D cs ad A H0 ids cells slots Q C lv st w k J Kr H locs ls ho hw kk jj rr
  unfold o_is at ho
  split at ho
  · exact lv_istore_n C.1 C.2.1 d hi hw.2.2.2.1 hn rfl (fun ls' hl' => kk _ _ _ _ _ _ ho ⟨hw.1, hw.2.1, hw.2.2.1, rx_has1 rfl hl', hw.2.2.2.2⟩)
  · exact ho.elim
theorem ok_istore {i : Nat} (d : decode cc pc = .ok (.istore i, 2)) (hn : i < nL) : rx_ok own cc nL rt δ pc (o_is i) (pc + 2) := by
  intro p l e R s m args below meth c D cs ad A H0 ids cells slots Q C lv st w k J Kr H locs ls ho hw kk jj rr
  unfold o_is at ho
  split at ho
  · exact lv_istore C.1 C.2.1 d hw.2.2.2.1 hn rfl (fun ls' hl' => kk _ _ _ _ _ _ ho ⟨hw.1, hw.2.1, hw.2.2.1, rx_has1 rfl hl', hw.2.2.2.2⟩)
  · exact ho.elim
theorem ok_lstore_n {k : Fin 4} {i : Nat} (d : decode cc pc = .ok (.lstore_n k, 1)) (hi : (k : Nat) = i) (hn : i + 1 < nL) : rx_ok own cc nL rt δ pc (o_ls i) (pc + 1) := by
  intro p l e R s m args below meth c D cs ad A H0 ids cells slots Q C lv st w k J Kr H locs ls ho hw kk jj rr
  unfold o_ls at ho
  split at ho
  · exact lv_lstore_n C.1 C.2.1 d hi hw.2.2.2.1 hn rfl (fun ls' hl' => kk _ _ _ _ _ _ ho ⟨hw.1, hw.2.1, hw.2.2.1, rx_has2 rfl hl', hw.2.2.2.2⟩)
  · exact ho.elim
theorem ok_lstore {i : Nat} (d : decode cc pc = .ok (.lstore i, 2)) (hn : i + 1 < nL) : rx_ok own cc nL rt δ pc (o_ls i) (pc + 2) := by
  intro p l e R s m args below meth c D cs ad A H0 ids cells slots Q C lv st w k J Kr H locs ls ho hw kk jj rr
  unfold o_ls at ho
  split at ho
  · exact lv_lstore C.1 C.2.1 d hw.2.2.2.1 hn rfl (fun ls' hl' => kk _ _ _ _ _ _ ho ⟨hw.1, hw.2.1, hw.2.2.1, rx_has2 rfl hl', hw.2.2.2.2⟩)
  · exact ho.elim
theorem ok_astore_n {k : Fin 4} {i : Nat} (d : decode cc pc = .ok (.astore_n k, 1)) (hi : (k : Nat) = i) (hn : i < nL) : rx_ok own cc nL rt δ pc (o_as i) (pc + 1) := by
  intro p l e R s m args below meth c D cs ad A H0 ids cells slots Q C lv st w k J Kr H locs ls ho hw kk jj rr
  unfold o_as at ho
  split at ho
  · exact lv_astore_n C.1 C.2.1 d hi hw.2.2.2.1 hn rfl (fun ls' hl' => kk _ _ _ _ _ _ ho ⟨hw.1, hw.2.1, hw.2.2.1, rx_has1 rfl hl', hw.2.2.2.2⟩)
  · exact ho.elim
theorem ok_astore {i : Nat} (d : decode cc pc = .ok (.astore i, 2)) (hn : i < nL) : rx_ok own cc nL rt δ pc (o_as i) (pc + 2) := by
  intro p l e R s m args below meth c D cs ad A H0 ids cells slots Q C lv st w k J Kr H locs ls ho hw kk jj rr
  unfold o_as at ho
  split at ho
  · exact lv_astore C.1 C.2.1 d hw.2.2.2.1 hn rfl (fun ls' hl' => kk _ _ _ _ _ _ ho ⟨hw.1, hw.2.1, hw.2.2.1, rx_has1 rfl hl', hw.2.2.2.2⟩)
  · exact ho.elim
theorem ok_iinc {i : Nat} {n : Int} {v : Int32} (d : decode cc pc = .ok (.iinc i n, 3)) (hv : Int32.ofInt n = v) (hn : i < nL) : rx_ok own cc nL rt δ pc (o_inc i v) (pc + 3) := by
  intro p l e R s m args below meth c D cs ad A H0 ids cells slots Q C lv st w k J Kr H locs ls ho hw kk jj rr
  unfold o_inc at ho
  split at ho
  · rename_i x hx
    obtain ⟨q, hq⟩ := rx_loc_k (ad := ad) hx
    exact lv_iinc (v := x + v) C.1 C.2.1 d hw.2.2.2.1 hq (by rw [hv]) hn rfl (fun ls' hl' => kk _ _ _ _ _ _ (ho _ rfl) ⟨hw.1, hw.2.1, hw.2.2.1, rx_has1 rfl hl', hw.2.2.2.2⟩)
  · exact ho.elim
theorem ok_ni : rx_ok own cc nL rt δ pc o_ni pc := by
  intro p l e R s m args below meth c D cs ad A H0 ids cells slots Q C lv st w k J Kr H locs ls ho hw kk jj rr
  unfold o_ni at ho
  split at ho
  · exact kk _ _ _ _ _ _ (ho _ rfl) hw
  · exact ho.elim
theorem ok_nl : rx_ok own cc nL rt δ pc o_nl pc := by
  intro p l e R s m args below meth c D cs ad A H0 ids cells slots Q C lv st w k J Kr H locs ls ho hw kk jj rr
  unfold o_nl at ho
  split at ho
  · exact kk _ _ _ _ _ _ (ho _ rfl) hw
  · exact ho.elim
end RXOK
