/-! the law's own steps in the abstract machine: the script is read at its cell, the loop's next turn is an exit -/
def ub {α : Type} (f : Nat → α) (k : Nat) (x : α) : Nat → α := fun j => match Nat.beq j k with
  | true => x
  | false => f j
def o_sl (L : Nat) (xs : Nat → Int32) : rxOp := fun lv st w k _ _ => match st with
  | .int i :: .ref a :: st => match Nat.beq a 999 with
    | true => vp_in i L ∧ k lv (.int (xs i.toNatClampNeg) :: st) w
    | false => False
  | _ => False
def o_sn (L : Nat) : rxOp := fun lv st w k _ _ => match st with
  | .ref a :: st => match Nat.beq a 999 with
    | true => k lv (.int (Int32.ofNat L) :: st) w
    | false => False
  | _ => False
def rx_okX (b L : Nat) (xs : Nat → Int32) (own : String) (cc : ByteArray) (nL : Nat) (rt : Option FieldType) (δ pc : Nat) (o : rxOp) (pc' : Nat) : Prop :=
  ∀ (p : Program) (l : Launch) (e : Env) (R : Room) (s : State) (m : MethodId) (args : Array Value) (below : List Frame) (meth : Method) (c : Code) (D : va_G) (cs : Nat → ClassId) (ad : Nat → Nat) (A : Nat → Prop) (H0 : Heap) (ids : List Nat) (cells slots : Nat) (Q : State → Prop),
  rx_Cx own cc nL rt δ p R s m args meth c D cs A H0 cells slots → (va_X b L xs s H0 ∧ b < H0.size ∧ ¬ A b ∧ ad 999 = b) → ∀ (lv : rxL) (st : List Value) (w : va_W) (k : rxK) (J : rxJ) (Kr : rxR) (H : Heap) (locs : List Loc) (ls : Array Slot),
  o lv st w k J Kr → rx_Wd nL D cs ad A H0 ids lv w H locs ls →
  (∀ lv' st' w' H' locs' ls', k lv' st' w' → rx_Wd nL D cs ad A H0 ids lv' w' H' locs' ls' → W p l e R s m args below meth c H' locs' cells slots Q (F0 m pc' ls' (st'.map (rx_v ad)))) →
  (∀ t lv' st' w' H' locs' ls', J t lv' st' w' → rx_Wd nL D cs ad A H0 ids lv' w' H' locs' ls' → W p l e R s m args below meth c H' locs' cells slots Q (F0 m t ls' (st'.map (rx_v ad)))) →
  (∀ r w' lv' H' locs' ls' pc1 ins, Kr r w' → rx_Wd nL D cs ad A H0 ids lv' w' H' locs' ls' → decode cc pc1 = .ok (ins, 1) → rx_isret rt ins r → W p l e R s m args below meth c H' locs' cells slots Q (F0 m pc1 ls' (r.toList.map (rx_v ad)))) →
  W p l e R s m args below meth c H locs cells slots Q (F0 m pc ls (st.map (rx_v ad)))
section LRX
variable {b L : Nat} {xs : Nat → Int32} {own : String} {cc : ByteArray} {nL : Nat} {rt : Option FieldType} {δ pc pc' : Nat}
theorem okX_of {o : rxOp} (h : rx_ok own cc nL rt δ pc o pc') : rx_okX b L xs own cc nL rt δ pc o pc' := fun p l e R s m args below meth c D cs ad A H0 ids cells slots Q Cx _ => h p l e R s m args below meth c D cs ad A H0 ids cells slots Q Cx
theorem okX_sl (d : decode cc pc = .ok (.iaload, 1)) : rx_okX b L xs own cc nL rt δ pc (o_sl L xs) (pc + 1) := by
  intro p l e R s m args below meth c D cs ad A H0 ids cells slots Q Cx hX lv st w k J Kr H locs ls ho hw kk jj rr
  unfold o_sl at ho
  split at ho
  · rename_i i a st'
    split at ho
    · rename_i ha
      have e9 : ad a = b := by rw [Nat.eq_of_beq_eq_true ha]; exact hX.2.2.2
      show W p l e R s m args below meth c H locs cells slots Q (F0 m pc ls (.int i :: .ref (ad a) :: st'.map (rx_v ad)))
      rw [e9]
      exact va_sld Cx.1 Cx.2.1 hX.1 hX.2.1 hX.2.2.1 hw.2.2.1 ho.1 d (kk _ _ _ _ _ _ ho.2 hw)
    · exact ho.elim
  · exact ho.elim
theorem okX_sn (d : decode cc pc = .ok (.arraylength, 1)) : rx_okX b L xs own cc nL rt δ pc (o_sn L) (pc + 1) := by
  intro p l e R s m args below meth c D cs ad A H0 ids cells slots Q Cx hX lv st w k J Kr H locs ls ho hw kk jj rr
  unfold o_sn at ho
  split at ho
  · rename_i a st'
    split at ho
    · rename_i ha
      have e9 : ad a = b := by rw [Nat.eq_of_beq_eq_true ha]; exact hX.2.2.2
      show W p l e R s m args below meth c H locs cells slots Q (F0 m pc ls (.ref (ad a) :: st'.map (rx_v ad)))
      rw [e9]
      exact va_slen Cx.1 Cx.2.1 hX.1 hX.2.1 hX.2.2.1 hw.2.2.1 d (kk _ _ _ _ _ _ ho hw)
    · exact ho.elim
  · exact ho.elim
end LRX
def rx_vbX (b L : Nat) (xs : Nat → Int32) (own : String) (cc : ByteArray) (nL : Nat) (rt : Option FieldType) (δ : Nat) : List rxOp → Nat → Prop
  | [], _ => True
  | o :: os, pc => ∃ pc', rx_okX b L xs own cc nL rt δ pc o pc' ∧ rx_vbX b L xs own cc nL rt δ os pc'
def rx_vBX (b L : Nat) (xs : Nat → Int32) (own : String) (cc : ByteArray) (nL : Nat) (rt : Option FieldType) (δ : Nat) (B : List (Nat × List rxOp)) : Prop := ∀ q ∈ B, rx_vbX b L xs own cc nL rt δ q.2 q.1
section LRY
variable {b L : Nat} {xs : Nat → Int32} {own : String} {cc : ByteArray} {nL : Nat} {rt : Option FieldType} {δ : Nat}
theorem rx_vcX {pc pc' : Nat} {o : rxOp} {os : List rxOp} (h : rx_okX b L xs own cc nL rt δ pc o pc') (t : rx_vbX b L xs own cc nL rt δ os pc') : rx_vbX b L xs own cc nL rt δ (o :: os) pc := ⟨pc', h, t⟩
theorem rx_vnX : rx_vBX b L xs own cc nL rt δ [] := fun _ h => by cases h
theorem rx_vBX_cons {i : Nat} {os : List rxOp} {B : List (Nat × List rxOp)} (h : rx_vbX b L xs own cc nL rt δ os i) (t : rx_vBX b L xs own cc nL rt δ B) : rx_vBX b L xs own cc nL rt δ ((i, os) :: B) := fun q hq => by
  rcases List.mem_cons.mp hq with rfl | hq
  · exact h
  · exact t q hq
theorem rx_vBX_app {B B' : List (Nat × List rxOp)} (h : rx_vBX b L xs own cc nL rt δ B) (t : rx_vBX b L xs own cc nL rt δ B') : rx_vBX b L xs own cc nL rt δ (B ++ B') := fun q hq => by
  rcases List.mem_append.mp hq with hq | hq
  · exact h q hq
  · exact t q hq
end LRY
/-- as rx_Ex, with exits J0 -/
def rx_Ex2 (B : List (Nat × List rxOp)) (J0 : rxJ) (R : rxR) : rxJ := fun pc lv st w =>
  ∀ P : rxJ, (∀ pc lv st w, J0 pc lv st w → P pc lv st w) → (∀ (X : rxJ) (pc : Nat) (lv : rxL) (st : List Value) (w : va_W) (os : List rxOp), (∀ pc lv st w, X pc lv st w → P pc lv st w) → rx_lk B pc = some os → rx_run os lv st w X R → P pc lv st w) → P pc lv st w
theorem rx_step2 {B : List (Nat × List rxOp)} {J0 : rxJ} {R : rxR} {pc : Nat} {lv : rxL} {st : List Value} {w : va_W} (os : List rxOp) (h : rx_lk B pc = some os) (hr : rx_run os lv st w (rx_Ex2 B J0 R) R) : rx_Ex2 B J0 R pc lv st w :=
  fun P hJ hP => hP (rx_Ex2 B J0 R) pc lv st w os (fun _ _ _ _ hX => hX P hJ hP) h hr
theorem rx_base2 {B : List (Nat × List rxOp)} {J0 : rxJ} {R : rxR} {pc : Nat} {lv : rxL} {st : List Value} {w : va_W} (h : J0 pc lv st w) : rx_Ex2 B J0 R pc lv st w := fun _ hJ _ => hJ _ _ _ _ h
section LRUN
variable {b L : Nat} {xs : Nat → Int32} {own : String} {cc : ByteArray} {nL : Nat} {rt : Option FieldType} {δ : Nat}
  {p : Program} {l : Launch} {e : Env} {R : Room} {s : State} {m : MethodId} {args : Array Value} {below : List Frame} {meth : Method} {c : Code} {D : va_G} {cs : Nat → ClassId} {ad : Nat → Nat} {A : Nat → Prop} {H0 : Heap} {ids : List Nat} {cells slots : Nat} {Q : State → Prop}
theorem rx_runX_sound (Cx : rx_Cx own cc nL rt δ p R s m args meth c D cs A H0 cells slots) (hX : va_X b L xs s H0 ∧ b < H0.size ∧ ¬ A b ∧ ad 999 = b) {J : rxJ} {Kr : rxR}
    (jj : ∀ t lv' st' w' H' locs' ls', J t lv' st' w' → rx_Wd nL D cs ad A H0 ids lv' w' H' locs' ls' → W p l e R s m args below meth c H' locs' cells slots Q (F0 m t ls' (st'.map (rx_v ad))))
    (rr : ∀ r w' lv' H' locs' ls' pc1 ins, Kr r w' → rx_Wd nL D cs ad A H0 ids lv' w' H' locs' ls' → decode cc pc1 = .ok (ins, 1) → rx_isret rt ins r → W p l e R s m args below meth c H' locs' cells slots Q (F0 m pc1 ls' (r.toList.map (rx_v ad)))) :
    ∀ (os : List rxOp) (pc : Nat) (lv : rxL) (st : List Value) (w : va_W) (H : Heap) (locs : List Loc) (ls : Array Slot), rx_vbX b L xs own cc nL rt δ os pc → rx_run os lv st w J Kr → rx_Wd nL D cs ad A H0 ids lv w H locs ls → W p l e R s m args below meth c H locs cells slots Q (F0 m pc ls (st.map (rx_v ad)))
  | [], pc, lv, st, w, H, locs, ls, _, h, _ => h.elim
  | o :: os, pc, lv, st, w, H, locs, ls, ⟨pc', hv, ht⟩, h, hw =>
    hv p l e R s m args below meth c D cs ad A H0 ids cells slots Q Cx hX lv st w _ J Kr H locs ls h hw (fun lv' st' w' H' locs' ls' hk hw' => rx_runX_sound Cx hX jj rr os pc' lv' st' w' H' locs' ls' ht hk hw') jj rr
theorem rx_Ex2_sound (Cx : rx_Cx own cc nL rt δ p R s m args meth c D cs A H0 cells slots) (hX : va_X b L xs s H0 ∧ b < H0.size ∧ ¬ A b ∧ ad 999 = b) {B : List (Nat × List rxOp)} (hB : rx_vBX b L xs own cc nL rt δ B) {J0 : rxJ} {Kr : rxR}
    (jj : ∀ t lv' st' w' H' locs' ls', J0 t lv' st' w' → rx_Wd nL D cs ad A H0 ids lv' w' H' locs' ls' → W p l e R s m args below meth c H' locs' cells slots Q (F0 m t ls' (st'.map (rx_v ad))))
    (rr : ∀ r w' lv' H' locs' ls' pc1 ins, Kr r w' → rx_Wd nL D cs ad A H0 ids lv' w' H' locs' ls' → decode cc pc1 = .ok (ins, 1) → rx_isret rt ins r → W p l e R s m args below meth c H' locs' cells slots Q (F0 m pc1 ls' (r.toList.map (rx_v ad))))
    {pc : Nat} {lv : rxL} {st : List Value} {w : va_W} (h : rx_Ex2 B J0 Kr pc lv st w) {H : Heap} {locs : List Loc} {ls : Array Slot} (hw : rx_Wd nL D cs ad A H0 ids lv w H locs ls) : W p l e R s m args below meth c H locs cells slots Q (F0 m pc ls (st.map (rx_v ad))) := by
  refine h (fun pc lv st w => ∀ H locs ls, rx_Wd nL D cs ad A H0 ids lv w H locs ls → W p l e R s m args below meth c H locs cells slots Q (F0 m pc ls (st.map (rx_v ad)))) ?_ ?_ H locs ls hw
  · intro t lv st w h1 H locs ls h2
    exact jj t lv st w H locs ls h1 h2
  · intro X pc lv st w os hX' hl hr H locs ls hw
    exact rx_runX_sound Cx hX (fun t lv' st' w' H' locs' ls' h1 h2 => hX' t lv' st' w' h1 H' locs' ls' h2) rr os pc lv st w H locs ls (hB _ (rx_lk_mem hl)) hr hw
end LRUN
