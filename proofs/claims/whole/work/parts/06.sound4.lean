/-! calls -/
theorem rx_P_mem {D : va_G} {ad : Nat → Nat} {cs : Nat → ClassId} {w : va_W} {H : Heap} : va_P D vwCl (rx_w ad cs w) H ↔ ∀ q ∈ w, va_at D vwCl (ad q.1, rx_e ad cs q.2) H := by
  constructor
  · intro h q hq
    obtain ⟨k, hk⟩ := List.getElem?_of_mem hq
    exact h k _ (rx_w_get (a := q.1) (e := q.2) hk)
  · intro h k q hk
    simp only [rx_w, List.getElem?_map, Option.map_eq_some_iff] at hk
    obtain ⟨q0, h1, rfl⟩ := hk
    exact h q0 (List.mem_of_getElem? h1)
theorem rx_D_inj {A : Nat → Prop} {ad : Nat → Nat} {cs : Nat → ClassId} {w : va_W} (h : va_D A (rx_w ad cs w)) {q q' : Nat × va_E} (h1 : q ∈ w) (h2 : q' ∈ w) (e : ad q.1 = ad q'.1) : q = q' := by
  obtain ⟨k, hk⟩ := List.getElem?_of_mem h1
  obtain ⟨k', hk'⟩ := List.getElem?_of_mem h2
  have := h.1 k k' _ _ (rx_w_get (ad := ad) (cs := cs) (a := q.1) (e := q.2) hk) (rx_w_get (a := q'.1) (e := q'.2) hk') e
  subst this
  rw [hk] at hk'
  exact Option.some.inj hk'
theorem rx_D_A {A : Nat → Prop} {ad : Nat → Nat} {cs : Nat → ClassId} {w : va_W} (h : va_D A (rx_w ad cs w)) {q : Nat × va_E} (h1 : q ∈ w) : A (ad q.1) := by
  obtain ⟨k, hk⟩ := List.getElem?_of_mem h1
  exact h.2 k _ (rx_w_get (ad := ad) (cs := cs) (a := q.1) (e := q.2) hk)
theorem rx_D_congr {A : Nat → Prop} {ws ws' : va_W} (he : ws.map (·.1) = ws'.map (·.1)) (h : va_D A ws) : va_D A ws' := by
  have key : ∀ (k : Nat) (q : Nat × va_E), ws'[k]? = some q → ∃ q0, ws[k]? = some q0 ∧ q0.1 = q.1 := by
    intro k q hk
    have h1 : (ws.map (·.1))[k]? = some q.1 := by rw [he]; simp [hk]
    simp only [List.getElem?_map, Option.map_eq_some_iff] at h1
    exact h1
  refine ⟨fun i j p q hi hj hpq => ?_, fun k q hk => ?_⟩
  · obtain ⟨p0, a1, a2⟩ := key i p hi
    obtain ⟨q0, b1, b2⟩ := key j q hj
    exact h.1 i j p0 q0 a1 b1 (a2.trans (hpq.trans b2.symm))
  · obtain ⟨q0, b1, b2⟩ := key k q hk
    rw [← b2]
    exact h.2 k q0 b1
theorem rx_w_ids {ad : Nat → Nat} {cs : Nat → ClassId} {w w' : va_W} (h : w.map (·.1) = w'.map (·.1)) : (rx_w ad cs w).map (·.1) = (rx_w ad cs w').map (·.1) := by
  have h1 := congrArg (List.map ad) h
  simpa [rx_w, List.map_map, Function.comp_def] using h1
theorem rx_nd_nodup : ∀ {l : List Nat}, rx_nd l = true → l.Nodup
  | [], _ => List.nodup_nil
  | a :: l, h => by
    simp only [rx_nd, Bool.and_eq_true, List.all_eq_true] at h
    refine List.nodup_cons.mpr ⟨fun hm => ?_, rx_nd_nodup h.2⟩
    have := h.1 a hm
    simp at this
theorem rx_sel_spec {w : va_W} : ∀ {ids : List Nat} {wc : va_W}, rx_sel w ids = some wc → wc.map (·.1) = ids ∧ ∀ q ∈ wc, q ∈ w
  | [], wc, h => by
    cases h
    exact ⟨rfl, fun q hq => by cases hq⟩
  | i :: ids, wc, h => by
    cases h1 : rx_get w i with
    | none => simp [rx_sel, h1] at h
    | some e =>
      cases h2 : rx_sel w ids with
      | none => simp [rx_sel, h1, h2] at h
      | some l =>
        simp only [rx_sel, h1, h2, Option.some.injEq] at h
        obtain ⟨g1, g2⟩ := rx_sel_spec h2
        subst h
        refine ⟨by simp [g1], fun q hq => ?_⟩
        rcases List.mem_cons.mp hq with rfl | hq
        · exact rx_get_mem h1
        · exact g2 q hq
theorem rx_sel_D {A : Nat → Prop} {ad : Nat → Nat} {cs : Nat → ClassId} {w wc : va_W} {ids : List Nat} (hn : rx_nd ids = true) (hs : rx_sel w ids = some wc) (h : va_D A (rx_w ad cs w)) : va_D (fun _ => True) (rx_w ad cs wc) := by
  obtain ⟨h1, h2⟩ := rx_sel_spec hs
  refine ⟨fun i j p q hi hj hpq => ?_, fun _ _ _ => trivial⟩
  simp only [rx_w, List.getElem?_map, Option.map_eq_some_iff] at hi hj
  obtain ⟨p0, a1, rfl⟩ := hi
  obtain ⟨q0, b1, rfl⟩ := hj
  have e := rx_D_inj h (h2 p0 (List.mem_of_getElem? a1)) (h2 q0 (List.mem_of_getElem? b1)) hpq
  subst e
  have ga : ids[i]? = some p0.1 := by rw [← h1]; simp [a1]
  have gb : ids[j]? = some p0.1 := by rw [← h1]; simp [b1]
  have hnd := rx_nd_nodup hn
  obtain ⟨li, ei⟩ := List.getElem?_eq_some_iff.mp ga
  obtain ⟨lj, ej⟩ := List.getElem?_eq_some_iff.mp gb
  exact (List.getElem_inj hnd).mp (ei.trans ej.symm)
theorem rx_mrg_ids (w' w : va_W) : (rx_mrg w' w).map (·.1) = w.map (·.1) := by
  induction w with
  | nil => rfl
  | cons q l ih =>
    obtain ⟨i, e⟩ := q
    simp [rx_mrg, ih]
theorem rx_mrg_mem {w' : va_W} : ∀ {w : va_W} {q : Nat × va_E}, q ∈ rx_mrg w' w → ∃ e, (q.1, e) ∈ w ∧ (rx_get w' q.1 = some q.2 ∨ (rx_get w' q.1 = none ∧ e = q.2))
  | [], q, h => by cases h
  | (i, e) :: l, q, h => by
    simp only [rx_mrg, List.mem_cons] at h
    rcases h with rfl | h
    · refine ⟨e, List.mem_cons_self, ?_⟩
      cases hg : rx_get w' i with
      | none => exact Or.inr ⟨rfl, rfl⟩
      | some x => exact Or.inl rfl
    · obtain ⟨e', h1, h2⟩ := rx_mrg_mem h
      exact ⟨e', List.mem_cons_of_mem _ h1, h2⟩
theorem rx_join {D : va_G} {A : Nat → Prop} {ad : Nat → Nat} {cs : Nat → ClassId} {w wc w2 : va_W} {ids : List Nat} {H H1 : Heap} (hP : va_P D vwCl (rx_w ad cs w) H) (hD : va_D A (rx_w ad cs w)) (hs : rx_sel w ids = some wc) (hP1 : va_P D vwCl (rx_w ad cs w2) H1) (hi : w2.map (·.1) = wc.map (·.1)) (hk : ∀ q : Nat, q < H.size → ¬ va_A (rx_w ad cs wc) H.size q → H1[q]? = H[q]?) :
    va_P D vwCl (rx_w ad cs (rx_mrg w2 w)) H1 ∧ va_D A (rx_w ad cs (rx_mrg w2 w)) := by
  obtain ⟨s1, s2⟩ := rx_sel_spec hs
  refine ⟨rx_P_mem.mpr fun q hq => ?_, rx_D_congr (rx_w_ids (rx_mrg_ids w2 w).symm) hD⟩
  obtain ⟨e, h1, h2⟩ := rx_mrg_mem hq
  rcases h2 with h2 | ⟨h2, rfl⟩
  · exact rx_P_mem.mp hP1 (q.1, q.2) (rx_get_mem h2)
  · have hat := rx_P_mem.mp hP (q.1, q.2) h1
    refine hat.kept (hk _ hat.lt fun hA => ?_)
    rcases hA with ⟨k, e', h⟩ | h
    · simp only [rx_w, List.getElem?_map, Option.map_eq_some_iff] at h
      obtain ⟨q0, g1, g2⟩ := h
      have g3 : q0 ∈ wc := List.mem_of_getElem? g1
      have g4 := rx_D_inj hD (s2 q0 g3) h1 (congrArg (·.1) g2)
      have g5 : q.1 ∈ w2.map (·.1) := by
        rw [hi]
        exact List.mem_map.mpr ⟨q0, g3, by rw [g4]⟩
      obtain ⟨q1, g6, g7⟩ := List.mem_map.mp g5
      exact rx_get_none h2 q1.2 (by rw [← g7]; exact g6)
    · exact absurd hat.lt (by simpa using h)
theorem rx_free {A : Nat → Prop} {ad : Nat → Nat} {cs : Nat → ClassId} {w wc : va_W} {ids : List Nat} {H0 H : Heap} {locs : List Loc} (hD : va_D A (rx_w ad cs w)) (hs : rx_sel w ids = some wc) (hS : va_S A H0 H locs) (hA : ∀ q, H0.size ≤ q → A q) : ∀ q, va_A (rx_w ad cs wc) H.size q → A q := by
  intro q h
  rcases h with ⟨k, e, h⟩ | h
  · simp only [rx_w, List.getElem?_map, Option.map_eq_some_iff] at h
    obtain ⟨q0, g1, g2⟩ := h
    have := rx_D_A hD ((rx_sel_spec hs).2 q0 (List.mem_of_getElem? g1))
    have e1 : ad q0.1 = q := congrArg (·.1) g2
    rw [← e1]
    exact this
  · exact hA q (Nat.le_trans hS.1 h)
theorem rx_cont {p : Program} {l : Launch} {e : Env} {R : Room} {s : State} {m : MethodId} {args : Array Value} {below : List Frame} {meth : Method} {c : Code} {H : Heap} {locs : List Loc} {cells slots : Nat} {Q : State → Prop}
    {pc : Nat} {ls : Array Slot} {rest st0 : List Value} {a : Array Value} {A0 : Nat → Prop} {H0 : Heap} {ad : Nat → Nat} {cs : Nat → ClassId} {D : va_G} {w : va_W} {k : rxR}
    (hr : va_Run p l e R s m args below meth c H locs cells slots 0 0 (F0 m pc ls st0) rest (rx_Qc ad cs D H.size w k a) (va_A (rx_w ad cs w) H.size)) (hS : va_S A0 H0 H locs) (hf : ∀ q, va_A (rx_w ad cs w) H.size q → A0 q)
    (kk : ∀ (r : Option Value) (w' : va_W) (H1 : Heap) (locs1 : List Loc), k r w' → w'.map (·.1) = w.map (·.1) → va_P D vwCl (rx_w ad cs w') H1 → (∀ q : Nat, q < H.size → ¬ va_A (rx_w ad cs w) H.size q → H1[q]? = H[q]?) → va_S A0 H0 H1 locs1 → W p l e R s m args below meth c H1 locs1 cells slots Q (F0 m (pc + 3) ls ((r.map (rx_v ad)).toList ++ rest))) : W p l e R s m args below meth c H locs cells slots Q (F0 m pc ls st0) := by
  intro T hT X
  obtain ⟨v, st₀, t, T', L, h0, X', hL, e1, e2, ⟨⟨r, w', hv, hk1, hi, hP⟩, hz, hk⟩, st⟩ := hr T hT X
  cases hv
  rw [h0] at hz hk
  obtain ⟨t2, a1, b1⟩ := kk r w' T'.heap (locs ++ L) hk1 hi (by rw [e1]; exact hP) (fun q h1 h2 => by rw [e1]; exact hk q h1 h2)
    ⟨Nat.le_trans hS.1 (by rw [e1]; exact hz), fun q h1 h2 => by rw [e1, hk q (Nat.lt_of_lt_of_le h1 hS.1) (fun z => h2 (hf q z))]; exact hS.2.1 q h1 h2, fun q hq => by
      rcases List.mem_append.mp hq with h | h
      · exact hS.2.2 q h
      · exact hf _ (hL q h)⟩ T' rfl X'
  exact ⟨t2, st t2 a1, b1⟩
/-- what the tables say of a method that is called with n parameters -/
def rx_gM (M : rxM) (n : Nat) : Prop := Cond.code M.1 M.2.1 M.2.2.1 M.2.2.2 ∈ rx_tbl ∧ Cond.initialized M.1.cls ∈ rx_tbl ∧ (M.1.cls ≠ "java/lang/invoke/MethodHandle" ∧ M.1.cls ≠ "java/lang/invoke/VarHandle" ∧ (parseMethodDescriptor M.1.desc).map (fun d => d.parameters.length) = some n) ∧ M.2.2.1 ≤ 40
theorem rx_gin {M : rxM} {n : Nat} (h : rx_gM M n) : GoodIn rx_tbl (rx_ws M) := by
  have hg : ∀ w ∈ rx_tbl, (w.onTables && w.keeps) = true ∨ ∃ ty, w = .arrayClass ty := fun w hw => good_of_word (List.mem_filter.mp hw).2
  intro w hw
  rcases List.mem_cons.mp hw with rfl | hw
  · exact ⟨h.1, hg _ h.1⟩
  · exact ⟨hw, hg w hw⟩
theorem rx_args_spec : ∀ {n : Nat} {st acc av st' : List Value}, rx_args n st acc = some (av, st') → ∃ pre : List Value, av = pre.reverse ++ acc ∧ st = pre ++ st' ∧ pre.length = n
  | 0, st, acc, av, st', h => by
    simp only [rx_args, Option.some.injEq, Prod.mk.injEq] at h
    exact ⟨[], by simp [h.1], by simp [h.2], rfl⟩
  | n + 1, [], acc, av, st', h => by simp [rx_args] at h
  | n + 1, v :: st, acc, av, st', h => by
    simp only [rx_args] at h
    obtain ⟨pre, h1, h2, h3⟩ := rx_args_spec h
    exact ⟨v :: pre, by simp [h1], by simp [h2], by simp [h3]⟩
theorem rx_cat_sum (ad : Nat → Nat) : ∀ (st : List Value), ((st.map (rx_v ad)).map fun v => v.category).sum = rx_cat st
  | [] => rfl
  | v :: st => by
    have := rx_cat_sum ad st
    simp only [List.map_cons, List.sum_cons, rx_cat, rx_cat_v, this]
    cases h : rx_wide v with
    | true => rw [(rx_wide_iff v).mp h]
    | false => rw [(rx_wide_ff v).mp h]
theorem rx_nest_on {w : Cond} (hw : w ∈ rx_nest) : w.onTables = true := by
  have h1 := (List.mem_filter.mp hw).2
  unfold rx_isNest at h1
  split at h1
  · rfl
  · cases h1
theorem rx_Pc_blind {av : List Value} {sz : Nat} {D : va_G} {ws : va_W} {tys : List (ClassId × FieldType)} : FrameBlind (va_Pc av (fun U => U.heap.size = sz ∧ va_P D vwCl ws U.heap ∧ va_K D vwCl tys U ∧ va_D (fun _ => True) ws ∧ rx_N U)) := by
  intro a U g mk q
  obtain ⟨q0, q1, qP, qK, qD, qN⟩ := q
  exact ⟨q0, q1, qP, va_K.moved (u := U) (U := U.calling g mk a) (Vm.Alike.refl U.vm) qK, qD, fun w hw => va_Nw.same (rx_nest_on hw) (u := U) rfl (qN w hw)⟩
theorem rx_N_warm {s U : State} (hW : s.WarmedH U.vm) (h : rx_N s) : rx_N U := by
  intro w hw
  have h1 := (List.mem_filter.mp hw).2
  have h2 := h w hw
  unfold rx_isNest at h1
  split at h1
  · exact va_Nw.warmM hW h2
  · cases h1
section RXCALL
variable {own : String} {cc : ByteArray} {nL : Nat} {rt : Option FieldType} {δ pc : Nat}
/-- how a call is linked: a virtual one, a static one, a static one of a nest mate -/
def rx_lnk (own : String) (cc : ByteArray) (pc i : Nat) (M : rxM) (na : Nat) (rc : Option Nat) : Prop :=
  (∃ (n ci : Nat) (T : u_T) (N : Nat), na = n + 1 ∧ rc = some ci ∧ vwCl[ci]? = some (M.1.cls, T, N) ∧ rx_gM M n ∧ decode cc pc = .ok (.invokevirtual i, 3) ∧ Cond.methodLink own i M.1 ∈ rx_tbl ∧ Cond.instanceMethod M.1 ∈ rx_tbl ∧ Cond.selects M.1.cls M.1 M.1 ∈ rx_tbl) ∨
  (rc = none ∧ rx_gM M na ∧ decode cc pc = .ok (.invokestatic i, 3) ∧ Cond.methodLink own i M.1 ∈ rx_tbl ∧ Cond.static M.1 ∈ rx_tbl) ∨
  (∃ host, rc = none ∧ rx_gM M na ∧ decode cc pc = .ok (.invokestatic i, 3) ∧ Cond.methodLinkNest own i M.1 host ∈ rx_nest ∧ Cond.static M.1 ∈ rx_tbl)
theorem rx_chk_spec {ci : Nat} {av : List Value} {w : va_W} (h : rx_chk (some ci) av w = true) : ∃ (a : Nat) (as : List Value) (fs : List Value), av = .ref a :: as ∧ rx_get w a = some (.inr (ci, fs)) := by
  unfold rx_chk at h
  split at h
  · rename_i e
    cases e
  · rename_i ci' e
    cases e
    split at h
    · rename_i a as
      split at h
      · rename_i c fs hg
        exact ⟨a, as, fs, rfl, by rw [hg, Nat.eq_of_beq_eq_true h]⟩
      · cases h
    · cases h
theorem rx_call {i : Nat} {M : rxM} {δ' na : Nat} {rc : Option Nat} {ids : List Nat} (hl : rx_lnk own cc pc i M na rc) (hδ : δ' + 1 ≤ δ) (hn : rx_nd ids = true)
    {p : Program} {l : Launch} {e : Env} {R : Room} {s : State} {m : MethodId} {args : Array Value} {below : List Frame} {meth : Method} {c : Code} {D : va_G} {cs : Nat → ClassId} {ad ad' : Nat → Nat} {A : Nat → Prop} {H0 : Heap} {ids0 : List Nat} {cells slots : Nat} {Q : State → Prop}
    (Cx : rx_Cx own cc nL rt δ p R s m args meth c D cs A H0 cells slots) {lv : rxL} {st av st' av' : List Value} {w wc wr : va_W} {H : Heap} {locs : List Loc} {ls : Array Slot} {k : rxR}
    (ha : rx_args na st [] = some (av, st')) (hb : rx_cat st' ≤ 8) (hck : rx_chk rc av w = true) (hsel : rx_sel w ids = some wc) (hr1 : av'.map (rx_v ad') = av.map (rx_v ad)) (hr2 : rx_w ad' cs wr = rx_w ad cs wc)
    (ho : rx_Sem M δ' av' wr k) (hw : rx_Wd nL D cs ad A H0 ids0 lv w H locs ls)
    (kk : ∀ (r : Option Value) (w' : va_W) (H1 : Heap) (locs1 : List Loc), k r w' → w'.map (·.1) = wr.map (·.1) → va_P D vwCl (rx_w ad' cs w') H1 → (∀ q : Nat, q < H.size → ¬ va_A (rx_w ad cs wc) H.size q → H1[q]? = H[q]?) → va_S A H0 H1 locs1 → W p l e R s m args below meth c H1 locs1 cells slots Q (F0 m (pc + 3) ls ((r.map (rx_v ad')).toList ++ st'.map (rx_v ad)))) :
    W p l e R s m args below meth c H locs cells slots Q (F0 m pc ls (st.map (rx_v ad))) := by
  obtain ⟨pre, e1, e2, e3⟩ := rx_args_spec ha
  obtain ⟨hx, hcc, hml, hown, hts, hK, hfr, hlo, hA, hce, hsl, hN⟩ := Cx
  obtain ⟨hP, hD, hS, hlv, hi⟩ := hw
  have hFc := rx_free (ad := ad) (cs := cs) hD hsel hS hA
  have hPc : va_P D vwCl (rx_w ad cs wc) H := rx_P_mem.mpr fun q hq => rx_P_mem.mp hP q ((rx_sel_spec hsel).2 q hq)
  have hDc : va_D (fun _ => True) (rx_w ad cs wc) := rx_sel_D hn hsel hD
  have hM := ho l D cs ad' H.size
  rw [hr1, hr2] at hM
  have hroom : (rx_rm δ').frames + 1 ≤ R.frames := by show δ' + 1 ≤ R.frames; omega
  have hgo : va_Run p l e R s m args below meth c H locs cells slots 0 0 (F0 m pc ls (st.map (rx_v ad))) (st'.map (rx_v ad)) (rx_Qc ad' cs D H.size wr k (av.map (rx_v ad)).toArray) (va_A (rx_w ad cs wc) H.size) := by
    have hpre : ∀ U : State, U.heap = H → s.WarmedH U.vm → va_Pc (av.map (rx_v ad)) (fun U => U.heap.size = H.size ∧ va_P D vwCl (rx_w ad cs wc) U.heap ∧ va_K D vwCl (rx_ty cs) U ∧ va_D (fun _ => True) (rx_w ad cs wc) ∧ rx_N U) (av.map (rx_v ad)).toArray U :=
      fun U hU hW => ⟨rfl, by rw [hU], by rw [hU]; exact hPc, va_K.moved hW.alike hK, hDc, rx_N_warm hW hN⟩
    have hcat : 2 * (F0 m pc ls (st.map (rx_v ad))).monitorRoom + ((st'.map (rx_v ad)).map fun v => v.category).sum ≤ 8 := lv_room (by rw [rx_cat_sum]; exact hb)
    have hcell : cells + 0 ≤ R.cells ∧ slots + 0 ≤ R.slots := ⟨hce, hsl⟩
    rcases hl with ⟨n, ci, T, N, f1, f2, f3, f4, f5, f6, f7, f8⟩ | ⟨f2, f4, f5, f6, f7⟩ | ⟨host, f2, f4, f5, f6, f7⟩
    · subst f2
      obtain ⟨a, as, fs, g1, g2⟩ := rx_chk_spec hck
      have hlo2 : 8 + (M.2.2.1 + 11) + (rx_rm δ').locals ≤ R.locals := by have := f4.2.2.2; show 8 + (M.2.2.1 + 11) + 64 * δ' ≤ R.locals; omega
      have hlen : as.length = n := by
        have h0 : av.length = na := by rw [e1]; simp [e3]
        rw [g1] at h0
        simp only [List.length_cons] at h0
        omega
      have hrec : ∃ cellB : Cell, H[ad a]? = some cellB ∧ cellB.vm.isStatics = false ∧ s.vm.findClass M.1.cls = some cellB.cls := by
        obtain ⟨q, h1, -⟩ := rx_get_at g2
        exact va_recv (ci := ci) (q0 := q) hK hP f3 (rx_w_get h1)
      have hav : av.map (rx_v ad) = Value.ref (ad a) :: as.map (rx_v ad) := by rw [g1]; rfl
      rw [hav] at hM hpre ⊢
      refine va_runV (As := as.map (rx_v ad)) (b := ad a) (Ts := rx_tbl) ⟨hx, hcc, hml, hown, hts⟩ hM ⟨callB_of n hts (rx_gin f4) rfl rfl rfl (hts _ f4.2.1) (hts _ f6) f4.2.2.1 ⟨hroom, hlo2⟩, hts _ f7, hts _ f8⟩ ⟨rx_Pc_blind, hrec, hpre⟩ rfl (by simp [hlen]) hlv.1 ?_ hcat f5 hcell
      show st.map (rx_v ad) = _
      have h5 : pre = av.reverse := by rw [e1]; simp
      rw [e2, h5, g1]
      simp [rx_v]
    · subst f2
      have hlo2 : 8 + (M.2.2.1 + 11) + (rx_rm δ').locals ≤ R.locals := by have := f4.2.2.2; show 8 + (M.2.2.1 + 11) + 64 * δ' ≤ R.locals; omega
      have hlen : av.length = na := by rw [e1]; simp [e3]
      refine va_runS (As := av.map (rx_v ad)) (Ts := rx_tbl) ⟨hx, hcc, hml, hown, hts⟩ hM ⟨callB_of na hts (rx_gin f4) rfl rfl rfl (hts _ f4.2.1) (hts _ f6) f4.2.2.1 ⟨hroom, hlo2⟩, hts _ f7⟩ ⟨rx_Pc_blind, hpre⟩ rfl (by simp [hlen]) hlv.1 ?_ hcat f5 hcell
      show st.map (rx_v ad) = _
      have h5 : pre = av.reverse := by rw [e1]; simp
      rw [e2, h5]
      simp
    · subst f2
      have hlo2 : 8 + (M.2.2.1 + 11) + (rx_rm δ').locals ≤ R.locals := by have := f4.2.2.2; show 8 + (M.2.2.1 + 11) + 64 * δ' ≤ R.locals; omega
      have hlen : av.length = na := by rw [e1]; simp [e3]
      refine va_runSN (As := av.map (rx_v ad)) (Ts := rx_tbl) (host := host) ⟨hx, hcc, hml, hown, hts⟩ hM ⟨va_cnB na hts (rx_gin f4) rfl rfl rfl (hN _ f6) (hts _ f4.2.1) f4.2.2.1 ⟨hroom, hlo2⟩, hts _ f7, trivial⟩ ⟨rx_Pc_blind, hpre⟩ rfl (by simp [hlen]) hlv.1 ?_ hcat f5 hcell
      show st.map (rx_v ad) = _
      have h5 : pre = av.reverse := by rw [e1]; simp
      rw [e2, h5]
      simp
  have hgo2 := hgo
  rw [← hr2] at hgo2 hFc kk
  exact rx_cont hgo2 hS hFc kk
end RXCALL
