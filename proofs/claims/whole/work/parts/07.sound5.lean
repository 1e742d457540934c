/-! calls as operations, renaming, and the whole -/
theorem rx_ix_spec : ∀ {ids : List Nat} {i n j : Nat}, rx_ix ids i n = some j → n ≤ j ∧ rx_nth ids (j - n) = some i
  | [], i, n, j, h => by simp [rx_ix] at h
  | a :: ids, i, n, j, h => by
    cases hb : Nat.beq a i with
    | true =>
      simp only [rx_ix, hb, Option.some.injEq] at h
      subst h
      rw [Nat.sub_self]
      exact ⟨Nat.le_refl _, by simp [rx_nth, Nat.eq_of_beq_eq_true hb]⟩
    | false =>
      simp only [rx_ix, hb] at h
      obtain ⟨h1, h2⟩ := rx_ix_spec h
      refine ⟨by omega, ?_⟩
      have e : j - n = (j - (n + 1)) + 1 := by omega
      rw [e]
      exact h2
def rx_ad (ids : List Nat) (ad : Nat → Nat) : Nat → Nat := fun j => match rx_nth ids j with
  | some i => ad i
  | none => 0
theorem rx_rv_spec {ids : List Nat} {ad : Nat → Nat} {v v' : Value} (h : rx_rv ids v = some v') : rx_v (rx_ad ids ad) v' = rx_v ad v := by
  unfold rx_rv at h
  split at h
  · split at h
    · rename_i i j hj
      cases h
      have := (rx_ix_spec hj).2
      rw [Nat.sub_zero] at this
      simp [rx_v, rx_ad, this]
    · cases h
  · cases h; rfl
  · cases h; rfl
  · cases h
theorem rx_rl_spec {ids : List Nat} {ad : Nat → Nat} : ∀ {l l' : List Value}, rx_rl ids l = some l' → l'.map (rx_v (rx_ad ids ad)) = l.map (rx_v ad)
  | [], l', h => by cases h; rfl
  | v :: l, l', h => by
    cases h1 : rx_rv ids v with
    | none => simp [rx_rl, h1] at h
    | some v' =>
      cases h2 : rx_rl ids l with
      | none => simp [rx_rl, h1, h2] at h
      | some l2 =>
        simp only [rx_rl, h1, h2, Option.some.injEq] at h
        subst h
        simp [rx_rv_spec h1, rx_rl_spec h2]
theorem rx_re_spec {ids : List Nat} {ad : Nat → Nat} {cs : Nat → ClassId} {e e' : va_E} (h : rx_re ids e = some e') : rx_e (rx_ad ids ad) cs e' = rx_e ad cs e := by
  unfold rx_re at h
  split at h
  · cases h
    rfl
  · split at h
    · rename_i hl
      cases h
      simp [rx_e, rx_rl_spec hl]
    · cases h
theorem rx_rw_spec {ids : List Nat} {ad : Nat → Nat} {cs : Nat → ClassId} : ∀ {w wr : va_W} {n : Nat}, (∀ j i, rx_nth (w.map (·.1)) j = some i → rx_nth ids (n + j) = some i) → rx_rw ids w n = some wr → rx_w (rx_ad ids ad) cs wr = rx_w ad cs w ∧ wr.map (fun q => rx_nth ids q.1) = w.map (fun q => some q.1)
  | [], wr, n, _, h => by cases h; exact ⟨rfl, rfl⟩
  | (i, e) :: w, wr, n, hn, h => by
    cases h1 : rx_re ids e with
    | none => simp [rx_rw, h1] at h
    | some e' =>
      cases h2 : rx_rw ids w (n + 1) with
      | none => simp [rx_rw, h1, h2] at h
      | some l2 =>
        simp only [rx_rw, h1, h2, Option.some.injEq] at h
        subst h
        have hi : rx_nth ids n = some i := hn 0 i rfl
        obtain ⟨g1, g2⟩ := rx_rw_spec (ad := ad) (cs := cs) (fun j i' hj => by
          have := hn (j + 1) i' hj
          rw [show n + (j + 1) = n + 1 + j by omega] at this
          exact this) h2
        refine ⟨?_, ?_⟩
        · simp only [rx_w, List.map_cons] at g1 ⊢
          rw [g1, rx_re_spec h1]
          simp [rx_ad, hi]
        · simp [g2, hi]
theorem rx_uv_spec {ids : List Nat} {ad : Nat → Nat} {v v' : Value} (h : rx_uv ids v = some v') : rx_v ad v' = rx_v (rx_ad ids ad) v := by
  unfold rx_uv at h
  split at h
  · split at h
    · rename_i i j hj
      cases h
      simp [rx_v, rx_ad, hj]
    · cases h
  · cases h; rfl
  · cases h; rfl
  · cases h
theorem rx_ul_spec {ids : List Nat} {ad : Nat → Nat} : ∀ {l l' : List Value}, rx_ul ids l = some l' → l'.map (rx_v ad) = l.map (rx_v (rx_ad ids ad))
  | [], l', h => by cases h; rfl
  | v :: l, l', h => by
    cases h1 : rx_uv ids v with
    | none => simp [rx_ul, h1] at h
    | some v' =>
      cases h2 : rx_ul ids l with
      | none => simp [rx_ul, h1, h2] at h
      | some l2 =>
        simp only [rx_ul, h1, h2, Option.some.injEq] at h
        subst h
        simp [rx_uv_spec h1, rx_ul_spec h2]
theorem rx_ue_spec {ids : List Nat} {ad : Nat → Nat} {cs : Nat → ClassId} {e e' : va_E} (h : rx_ue ids e = some e') : rx_e ad cs e' = rx_e (rx_ad ids ad) cs e := by
  unfold rx_ue at h
  split at h
  · cases h
    rfl
  · split at h
    · rename_i hl
      cases h
      simp [rx_e, rx_ul_spec hl]
    · cases h
theorem rx_uw_spec {ids : List Nat} {ad : Nat → Nat} {cs : Nat → ClassId} : ∀ {w w2 : va_W}, rx_uw ids w = some w2 → rx_w ad cs w2 = rx_w (rx_ad ids ad) cs w ∧ w2.map (fun q => some q.1) = w.map (fun q => rx_nth ids q.1)
  | [], w2, h => by cases h; exact ⟨rfl, rfl⟩
  | (j, e) :: w, w2, h => by
    cases h0 : rx_nth ids j with
    | none => simp [rx_uw, h0] at h
    | some i =>
      cases h1 : rx_ue ids e with
      | none => simp [rx_uw, h0, h1] at h
      | some e' =>
        cases h2 : rx_uw ids w with
        | none => simp [rx_uw, h0, h1, h2] at h
        | some l2 =>
          simp only [rx_uw, h0, h1, h2, Option.some.injEq] at h
          subst h
          obtain ⟨g1, g2⟩ := rx_uw_spec (ad := ad) (cs := cs) h2
          refine ⟨?_, ?_⟩
          · simp only [rx_w, List.map_cons] at g1 ⊢
            rw [g1, rx_ue_spec h1]
            simp [rx_ad, h0]
          · simp [g2, h0]
section RXOK5
variable {own : String} {cc : ByteArray} {nL : Nat} {rt : Option FieldType} {δ pc : Nat}
theorem ok_ca {i : Nat} {M : rxM} {δ' na : Nat} {rc : Option Nat} {ids : List Nat} (hl : rx_lnk own cc pc i M na rc) (hδ : δ' + 1 ≤ δ) (hn : rx_nd ids = true) : rx_ok own cc nL rt δ pc (o_ca M δ' rc na ids) (pc + 3) := by
  intro p l e R s m args below meth c D cs ad A H0 ids0 cells slots Q Cx lv st w k J Kr H locs ls ho hw kk jj rr
  unfold o_ca at ho
  split at ho
  · rename_i av st' ha
    split at ho
    · rename_i wc hb hck hsel
      refine rx_call (ad' := ad) hl hδ hn Cx ha (Nat.le_of_ble_eq_true hb) hck hsel rfl rfl ho hw (fun r w' H1 locs1 g1 g2 g3 g4 g5 => ?_)
      obtain ⟨j1, j2⟩ := rx_join hw.1 hw.2.1 hsel g3 g2 g4
      have hk := kk _ _ _ H1 locs1 ls g1 ⟨j1, j2, g5, hw.2.2.2.1, by rw [rx_mrg_ids]; exact hw.2.2.2.2⟩
      cases r with
      | none => exact hk
      | some v => exact hk
    · exact ho.elim
  · exact ho.elim
theorem ok_cr {i : Nat} {M : rxM} {δ' na : Nat} {rc : Option Nat} (hl : rx_lnk own cc pc i M na rc) (hδ : δ' + 1 ≤ δ) : rx_ok own cc nL rt δ pc (o_cr M δ' rc na) (pc + 3) := by
  intro p l e R s m args below meth c D cs ad A H0 ids0 cells slots Q Cx lv st w k J Kr H locs ls ho hw kk jj rr
  unfold o_cr at ho
  split at ho
  · rename_i av st' ha
    generalize rx_aids w av = ids at ho
    unfold rx_crb at ho
    split at ho
    · rename_i wc hb hck hn hsel
      split at ho
      · rename_i av' wr hr1 hr2
        have hs1 := (rx_sel_spec hsel).1
        obtain ⟨q1, q2⟩ := rx_rw_spec (ids := ids) (ad := ad) (cs := cs) (n := 0) (fun j i hj => by rw [hs1] at hj; rw [Nat.zero_add]; exact hj) hr2
        refine rx_call (ad' := rx_ad ids ad) hl hδ hn Cx ha (Nat.le_of_ble_eq_true hb) hck hsel (rx_rl_spec hr1) q1 ho hw (fun r w' H1 locs1 g1 g2 g3 g4 g5 => ?_)
        have key : ∀ w2, rx_uw ids w' = some w2 → va_P D vwCl (rx_w ad cs (rx_mrg w2 w)) H1 ∧ va_D A (rx_w ad cs (rx_mrg w2 w)) := by
          intro w2 hu
          obtain ⟨u1, u2⟩ := rx_uw_spec (ad := ad) (cs := cs) hu
          refine rx_join hw.1 hw.2.1 hsel (by rw [u1]; exact g3) ?_ g4
          have h3 : w2.map (fun q => some q.1) = wc.map (fun q => some q.1) := by
            rw [u2, ← q2]
            have := congrArg (List.map (rx_nth ids)) g2
            simpa [List.map_map, Function.comp_def] using this
          have h4 : (w2.map (·.1)).map some = (wc.map (·.1)).map some := by simpa [List.map_map, Function.comp_def] using h3
          exact (List.map_inj_right (fun _ _ h => Option.some.inj h)).mp h4
        split at g1
        · rename_i w2 hu
          obtain ⟨j1, j2⟩ := key w2 hu
          exact kk _ _ _ H1 locs1 ls g1 ⟨j1, j2, g5, hw.2.2.2.1, by rw [rx_mrg_ids]; exact hw.2.2.2.2⟩
        · rename_i x w2 hu
          obtain ⟨j1, j2⟩ := key w2 hu
          exact kk _ _ _ H1 locs1 ls g1 ⟨j1, j2, g5, hw.2.2.2.1, by rw [rx_mrg_ids]; exact hw.2.2.2.2⟩
        · rename_i x w2 hu
          obtain ⟨j1, j2⟩ := key w2 hu
          exact kk _ _ _ H1 locs1 ls g1 ⟨j1, j2, g5, hw.2.2.2.1, by rw [rx_mrg_ids]; exact hw.2.2.2.2⟩
        · exact g1.elim
      · exact ho.elim
    · exact ho.elim
  · exact ho.elim
/-- a switch: the cases in their order from lo on -/
def rx_tok (pc : Nat) : List (Int32 × Nat) → Int → List Int → Bool
  | [], _, [] => true
  | (c, t) :: l, lo, o :: os => decide (c.toInt = lo) && decide ((pc : Int) + o = (t : Int)) && rx_tok pc l (lo + 1) os
  | _, _, _ => false
theorem rx_tsw_in {pc : Nat} {x : Int32} {K : Nat → Prop} {d : Nat} : ∀ {l : List (Int32 × Nat)} {lo : Int} {os : List Int}, rx_tok pc l lo os = true → rx_tsw x K d l → (∃ (o : Int) (t : Nat), lo ≤ x.toInt ∧ os[(x.toInt - lo).toNat]? = some o ∧ (pc : Int) + o = (t : Int) ∧ K t) ∨ ((x.toInt < lo ∨ lo + os.length ≤ x.toInt) ∧ K d)
  | [], lo, [], _, h => by
    refine Or.inr ⟨?_, h⟩
    simp only [List.length_nil]
    omega
  | [], lo, o :: os, ht, h => by simp [rx_tok] at ht
  | (c, t) :: l, lo, [], ht, h => by simp [rx_tok] at ht
  | (c, t) :: l, lo, o :: os, ht, h => by
    simp only [rx_tok, Bool.and_eq_true, decide_eq_true_eq] at ht
    obtain ⟨⟨h1, h2⟩, h3⟩ := ht
    by_cases hx : x = c
    · subst hx
      exact Or.inl ⟨o, t, by omega, by rw [h1, Int.sub_self]; rfl, h2, h.1 rfl⟩
    · have hne : x.toInt ≠ lo := fun e => hx (Int32.toInt_inj.mp (by rw [h1]; exact e))
      rcases rx_tsw_in h3 (h.2 hx) with ⟨o', t', g1, g2, g3, g4⟩ | ⟨g1, g2⟩
      · refine Or.inl ⟨o', t', by omega, ?_, g3, g4⟩
        have e : (x.toInt - lo).toNat = (x.toInt - (lo + 1)).toNat + 1 := by omega
        rw [e]
        exact g2
      · refine Or.inr ⟨?_, g2⟩
        simp only [List.length_cons]
        omega
theorem ok_tsw {dflt lo hi : Int} {offs : Array Int} {len : Nat} {l : List (Int32 × Nat)} {dt : Nat} {pk : List Nat} (d : decode cc pc = .ok (.tableswitch dflt lo hi offs, len)) (hd : (pc : Int) + dflt = (dt : Int)) (hh : hi = lo + offs.toList.length - 1) (hl : rx_tok pc l lo offs.toList = true) {pc' : Nat} : rx_ok own cc nL rt δ pc (o_tsw l dt pk) pc' := by
  intro p l' e R s m args below meth c D cs ad A H0 ids0 cells slots Q Cx lv st w k J Kr H locs ls ho hw kk jj rr
  unfold o_tsw at ho
  split at ho
  · rename_i x st'
    rcases rx_tsw_in hl ho with ⟨o, t, g1, g2, g3, g4⟩ | ⟨g1, g2⟩
    · have hlt := (List.getElem?_eq_some_iff.mp g2).1
      exact lv_tableIn (tgt := t) Cx.1 Cx.2.1 d (by omega) (by omega) (by rw [← Array.getElem?_toList]; exact g2) g3 (jj _ _ _ _ _ _ _ g4 (rx_Wd_pk hw))
    · exact lv_tableOut (tgt := dt) Cx.1 Cx.2.1 d (by omega) hd (jj _ _ _ _ _ _ _ g2 (rx_Wd_pk hw))
  · exact ho.elim
end RXOK5
-- blocks
def rx_vb (own : String) (cc : ByteArray) (nL : Nat) (rt : Option FieldType) (δ : Nat) : List rxOp → Nat → Prop
  | [], _ => True
  | o :: os, pc => ∃ pc', rx_ok own cc nL rt δ pc o pc' ∧ rx_vb own cc nL rt δ os pc'
theorem rx_vc {own : String} {cc : ByteArray} {nL : Nat} {rt : Option FieldType} {δ pc pc' : Nat} {o : rxOp} {os : List rxOp} (h : rx_ok own cc nL rt δ pc o pc') (t : rx_vb own cc nL rt δ os pc') : rx_vb own cc nL rt δ (o :: os) pc := ⟨pc', h, t⟩
def rx_vB (own : String) (cc : ByteArray) (nL : Nat) (rt : Option FieldType) (δ : Nat) (B : List (Nat × List rxOp)) : Prop := ∀ q ∈ B, rx_vb own cc nL rt δ q.2 q.1
theorem rx_vn {own : String} {cc : ByteArray} {nL : Nat} {rt : Option FieldType} {δ : Nat} : rx_vB own cc nL rt δ [] := fun _ h => by cases h
theorem rx_vB_cons {own : String} {cc : ByteArray} {nL : Nat} {rt : Option FieldType} {δ i : Nat} {os : List rxOp} {B : List (Nat × List rxOp)} (h : rx_vb own cc nL rt δ os i) (t : rx_vB own cc nL rt δ B) : rx_vB own cc nL rt δ ((i, os) :: B) := fun q hq => by
  rcases List.mem_cons.mp hq with rfl | hq
  · exact h
  · exact t q hq
theorem rx_lk_mem {B : List (Nat × List rxOp)} {i : Nat} {os : List rxOp} (h : rx_lk B i = some os) : (i, os) ∈ B := by
  induction B with
  | nil => simp [rx_lk] at h
  | cons q l ih =>
    obtain ⟨j, u⟩ := q
    cases hb : Nat.beq j i with
    | true =>
      simp only [rx_lk, hb, Option.some.injEq] at h
      rw [Nat.eq_of_beq_eq_true hb, h]
      exact List.mem_cons_self
    | false =>
      simp only [rx_lk, hb] at h
      exact List.mem_cons_of_mem _ (ih h)
section RXRUN
variable {own : String} {cc : ByteArray} {nL : Nat} {rt : Option FieldType} {δ : Nat}
  {p : Program} {l : Launch} {e : Env} {R : Room} {s : State} {m : MethodId} {args : Array Value} {below : List Frame} {meth : Method} {c : Code} {D : va_G} {cs : Nat → ClassId} {ad : Nat → Nat} {A : Nat → Prop} {H0 : Heap} {ids : List Nat} {cells slots : Nat} {Q : State → Prop}
theorem rx_run_sound (Cx : rx_Cx own cc nL rt δ p R s m args meth c D cs A H0 cells slots) {J : rxJ} {Kr : rxR}
    (jj : ∀ t lv' st' w' H' locs' ls', J t lv' st' w' → rx_Wd nL D cs ad A H0 ids lv' w' H' locs' ls' → W p l e R s m args below meth c H' locs' cells slots Q (F0 m t ls' (st'.map (rx_v ad))))
    (rr : ∀ r w' lv' H' locs' ls' pc1 ins, Kr r w' → rx_Wd nL D cs ad A H0 ids lv' w' H' locs' ls' → decode cc pc1 = .ok (ins, 1) → rx_isret rt ins r → W p l e R s m args below meth c H' locs' cells slots Q (F0 m pc1 ls' (r.toList.map (rx_v ad)))) :
    ∀ (os : List rxOp) (pc : Nat) (lv : rxL) (st : List Value) (w : va_W) (H : Heap) (locs : List Loc) (ls : Array Slot), rx_vb own cc nL rt δ os pc → rx_run os lv st w J Kr → rx_Wd nL D cs ad A H0 ids lv w H locs ls → W p l e R s m args below meth c H locs cells slots Q (F0 m pc ls (st.map (rx_v ad)))
  | [], pc, lv, st, w, H, locs, ls, _, h, _ => h.elim
  | o :: os, pc, lv, st, w, H, locs, ls, ⟨pc', hv, ht⟩, h, hw =>
    hv p l e R s m args below meth c D cs ad A H0 ids cells slots Q Cx lv st w _ J Kr H locs ls h hw (fun lv' st' w' H' locs' ls' hk hw' => rx_run_sound Cx jj rr os pc' lv' st' w' H' locs' ls' ht hk hw') jj rr
theorem rx_Ex_sound (Cx : rx_Cx own cc nL rt δ p R s m args meth c D cs A H0 cells slots) {B : List (Nat × List rxOp)} (hB : rx_vB own cc nL rt δ B) {Kr : rxR}
    (rr : ∀ r w' lv' H' locs' ls' pc1 ins, Kr r w' → rx_Wd nL D cs ad A H0 ids lv' w' H' locs' ls' → decode cc pc1 = .ok (ins, 1) → rx_isret rt ins r → W p l e R s m args below meth c H' locs' cells slots Q (F0 m pc1 ls' (r.toList.map (rx_v ad))))
    {pc : Nat} {lv : rxL} {st : List Value} {w : va_W} (h : rx_Ex B Kr pc lv st w) {H : Heap} {locs : List Loc} {ls : Array Slot} (hw : rx_Wd nL D cs ad A H0 ids lv w H locs ls) : W p l e R s m args below meth c H locs cells slots Q (F0 m pc ls (st.map (rx_v ad))) := by
  refine h (fun pc lv st w => ∀ H locs ls, rx_Wd nL D cs ad A H0 ids lv w H locs ls → W p l e R s m args below meth c H locs cells slots Q (F0 m pc ls (st.map (rx_v ad)))) ?_ H locs ls hw
  intro X pc lv st w os hX hl hr H locs ls hw
  exact rx_run_sound Cx (fun t lv' st' w' H' locs' ls' h1 h2 => hX t lv' st' w' h1 H' locs' ls' h2) rr os pc lv st w H locs ls (hB _ (rx_lk_mem hl)) hr hw
end RXRUN
theorem rx_lva_eq (ad : Nat → Nat) : ∀ (av : List Value) (i : Nat), lv_args i (av.map (rx_v ad)) = rx_l ad (rx_lva i av)
  | [], i => rfl
  | v :: av, i => by
    have h : (if (rx_v ad v).category = 2 then i + 2 else i + 1) = (match rx_wide v with
      | true => i + 2
      | false => i + 1) := by
      rw [rx_cat_v]
      cases hw : rx_wide v with
      | true => rw [if_pos ((rx_wide_iff v).mp hw)]
      | false => rw [if_neg (by rw [(rx_wide_ff v).mp hw]; decide)]
    simp only [List.map_cons, lv_args, rx_lva, rx_l]
    rw [h, rx_lva_eq ad av]
    rfl
theorem rx_slots_len (ad : Nat → Nat) : ∀ (av : List Value), (lg_sl (av.map (rx_v ad))).length = rx_cat av
  | [] => rfl
  | v :: av => by
    have ih := rx_slots_len ad av
    simp only [lg_sl, List.map_cons, List.flatMap_cons, List.length_append, rx_cat, rx_cat_v] at ih ⊢
    rw [ih]
    cases hw : rx_wide v with
    | true => rw [if_pos ((rx_wide_iff v).mp hw)]; rfl
    | false => rw [if_neg (by rw [(rx_wide_ff v).mp hw]; decide)]; rfl
/-- a method's blocks are right: what they say holds of it -/
theorem rx_sound {M : rxM} {δ : Nat} {B : List (Nat × List rxOp)} (hy : plainName M.1.cls = true) (hB : rx_vB M.1.cls M.2.1 M.2.2.1 M.2.2.2 δ B) {av : List Value} {w : va_W} {k : rxR} (hlen : rx_cat av ≤ M.2.2.1) (h : rx_Ex B k 0 (rx_lva 0 av) [] w) : rx_Sem M δ av w k := by
  intro l D cs ad sz
  refine Met.ofW (cc := M.2.1) (maxL := M.2.2.1) (ret := M.2.2.2) hy rfl ?_
  intro p e s m args below meth c s₁ B0 hml hv
  obtain ⟨rfl, hsz, hP, hK, hD0, hN⟩ := hv
  have hts0 := atoms_spec (ws := rx_ws M) B0.pre
  have hts : ∀ w ∈ rx_tbl, w.before (av.map (rx_v ad)).toArray s = true := fun w hw => hts0 w (List.mem_cons_of_mem _ hw)
  have hown : s.vm.findClass M.1.cls = some m.cls := findClass_of_methodNamed B0.named
  have hlocks := B0.notSynchronized
  have hr := B0.returns
  subst hsz
  have hD := hD0.self (sz := s.heap.size)
  have hl := lv_entry (av.map (rx_v ad)) (n := M.2.2.1) (by rw [rx_slots_len]; exact hlen)
  rw [lg_entry_eq]
  generalize (lg_sl (av.map (rx_v ad)) ++ List.replicate (M.2.2.1 - (lg_sl (av.map (rx_v ad))).length) Slot.unset).toArray = ls at hl ⊢
  rw [rx_lva_eq] at hl
  refine rx_Ex_sound (st := []) (ids := w.map (·.1)) (A := va_A (rx_w ad cs w) s.heap.size) (H0 := s.heap) (rt := M.2.2.2) ⟨B0.exec, B0.bytes, hml, hown, hts, hK, Nat.le_refl _, Nat.le_refl _, fun q hq => Or.inr hq, Nat.le_refl _, Nat.le_refl _, hN⟩ hB ?_ h ⟨hP, hD, va_S.rf, hl, rfl⟩
  intro r w' lv' H' locs' ls' pc1 ins hk hw hd hret
  obtain ⟨g1, g2, g3, g4, g5⟩ := hw
  have fin : ∀ t : State, t.heap = H' → rx_Qc ad cs D s.heap.size w k (av.map (rx_v ad)).toArray s (.returned (r.map (rx_v ad))) t := fun t ht => ⟨⟨r, w', rfl, hk, g5, by rw [ht]; exact g1⟩, g3.F ht⟩
  rcases hret with ⟨rfl, x, rfl, h1⟩ | ⟨rfl, x, rfl, h1⟩ | ⟨rfl, rfl, h1⟩ | ⟨rfl, a, n, rfl, h1⟩
  · rcases h1 with h1 | ⟨h1, h2⟩
    · exact W.iret B0.exec B0.bytes (hr.trans h1) (fun t ht _ => fin t ht) g3.2.2 hd hlocks
    · exact W.zret B0.exec B0.bytes (hr.trans h1) (by rcases h2 with rfl | rfl <;> rfl) (fun t ht _ => fin t ht) g3.2.2 hd hlocks
  · exact W.lret B0.exec B0.bytes (hr.trans h1) (fun t ht _ => fin t ht) g3.2.2 hd hlocks
  · exact W.vret B0.exec B0.bytes (hr.trans h1) (fun t ht _ => fin t ht) g3.2.2 hd hlocks
  · exact W.aret B0.exec B0.bytes (hr.trans h1) (Or.inl ⟨n, rfl⟩) (Or.inr ⟨_, rfl⟩) (fun t ht _ => fin t ht) g3.2.2 hd hlocks
