/-! An abstract machine over worlds whose references are ids; what it proves holds of the machine (by the kit's rows). -/
abbrev rxL : Type := List (Nat × Value)
abbrev rxK : Type := rxL → List Value → va_W → Prop
abbrev rxJ : Type := Nat → rxL → List Value → va_W → Prop
abbrev rxR : Type := Option Value → va_W → Prop
abbrev rxOp : Type := rxL → List Value → va_W → rxK → rxJ → rxR → Prop
abbrev rxM : Type := MethodName × ByteArray × Nat × Option FieldType
def up {α : Type} (f : Nat → α) (k : Nat) (x : α) : Nat → α := fun j => if j = k then x else f j
def rx_look : rxL → Nat → Option Value
  | [], _ => none
  | (i, v) :: l, j => match Nat.beq i j with
    | true => some v
    | false => rx_look l j
def rx_get : va_W → Nat → Option va_E
  | [], _ => none
  | (i, e) :: l, j => match Nat.beq i j with
    | true => some e
    | false => rx_get l j
def rx_set : va_W → Nat → va_E → va_W
  | [], _, _ => []
  | (i, e) :: l, j, x => match Nat.beq i j with
    | true => (i, x) :: l
    | false => (i, e) :: rx_set l j x
def rx_nth {α : Type} : List α → Nat → Option α
  | [], _ => none
  | a :: _, 0 => some a
  | _ :: l, n + 1 => rx_nth l n
def rx_upd {α : Type} : List α → Nat → α → List α
  | [], _, _ => []
  | _ :: l, 0, x => x :: l
  | a :: l, n + 1, x => a :: rx_upd l n x
def rx_pk (lv : rxL) : List Nat → rxL
  | [] => []
  | i :: is => match rx_look lv i with
    | some v => (i, v) :: rx_pk lv is
    | none => rx_pk lv is
def rx_wide (v : Value) : Bool := match v with
  | .long _ => true
  | .double _ => true
  | _ => false
def rx_fl1 (i : Nat) : rxL → rxL
  | [] => []
  | (j, v) :: l => match Nat.beq j i, Nat.beq (j + 1) i, rx_wide v with
    | true, _, _ => rx_fl1 i l
    | false, true, true => rx_fl1 i l
    | false, _, _ => (j, v) :: rx_fl1 i l
def rx_fl2 (i : Nat) : rxL → rxL
  | [] => []
  | (j, v) :: l => match Nat.beq j i, Nat.beq j (i + 1), Nat.beq (j + 1) i, rx_wide v with
    | true, _, _, _ => rx_fl2 i l
    | false, true, _, _ => rx_fl2 i l
    | false, false, true, true => rx_fl2 i l
    | false, false, _, _ => (j, v) :: rx_fl2 i l
def rx_args : Nat → List Value → List Value → Option (List Value × List Value)
  | 0, st, acc => some (acc, st)
  | n + 1, v :: st, acc => rx_args n st (v :: acc)
  | _ + 1, [], _ => none
def rx_psh (r : Option Value) (st : List Value) : List Value := match r with
  | some v => v :: st
  | none => st
def rx_sel (w : va_W) : List Nat → Option va_W
  | [] => some []
  | i :: is => match rx_get w i, rx_sel w is with
    | some e, some l => some ((i, e) :: l)
    | _, _ => none
def rx_mrg (w' : va_W) : va_W → va_W
  | [] => []
  | (i, e) :: l => (i, match rx_get w' i with
    | some x => x
    | none => e) :: rx_mrg w' l
def rx_cat : List Value → Nat
  | [] => 0
  | v :: l => (match rx_wide v with
    | true => 2
    | false => 1) + rx_cat l
/-- renaming: ids of the caller to places of the callee's list, and back -/
def rx_ix : List Nat → Nat → Nat → Option Nat
  | [], _, _ => none
  | i :: is, j, n => match Nat.beq i j with
    | true => some n
    | false => rx_ix is j (n + 1)
def rx_rv (ids : List Nat) (v : Value) : Option Value := match v with
  | .ref i => match rx_ix ids i 0 with
    | some j => some (.ref j)
    | none => none
  | .int x => some (.int x)
  | .long x => some (.long x)
  | _ => none
def rx_rl (ids : List Nat) : List Value → Option (List Value)
  | [] => some []
  | v :: l => match rx_rv ids v, rx_rl ids l with
    | some v', some l' => some (v' :: l')
    | _, _ => none
def rx_re (ids : List Nat) (e : va_E) : Option va_E := match e with
  | .inl x => some (.inl x)
  | .inr (c, fs) => match rx_rl ids fs with
    | some fs' => some (.inr (c, fs'))
    | none => none
def rx_rw (ids : List Nat) : va_W → Nat → Option va_W
  | [], _ => some []
  | (_, e) :: l, n => match rx_re ids e, rx_rw ids l (n + 1) with
    | some e', some l' => some ((n, e') :: l')
    | _, _ => none
def rx_uv (ids : List Nat) (v : Value) : Option Value := match v with
  | .ref j => match rx_nth ids j with
    | some i => some (.ref i)
    | none => none
  | .int x => some (.int x)
  | .long x => some (.long x)
  | _ => none
def rx_ul (ids : List Nat) : List Value → Option (List Value)
  | [] => some []
  | v :: l => match rx_uv ids v, rx_ul ids l with
    | some v', some l' => some (v' :: l')
    | _, _ => none
def rx_ue (ids : List Nat) (e : va_E) : Option va_E := match e with
  | .inl x => some (.inl x)
  | .inr (c, fs) => match rx_ul ids fs with
    | some fs' => some (.inr (c, fs'))
    | none => none
def rx_uw (ids : List Nat) : va_W → Option va_W
  | [] => some []
  | (j, e) :: l => match rx_nth ids j, rx_ue ids e, rx_uw ids l with
    | some i, some e', some l' => some ((i, e') :: l')
    | _, _, _ => none
-- what the abstract things stand for
def rx_v (ad : Nat → Nat) (v : Value) : Value := match v with
  | .ref i => .ref (ad i)
  | v => v
def rx_e (ad : Nat → Nat) (cs : Nat → ClassId) (e : va_E) : va_E := match e with
  | .inl (t, x) => .inl (cs t, x)
  | .inr (c, fs) => .inr (c, fs.map (rx_v ad))
def rx_w (ad : Nat → Nat) (cs : Nat → ClassId) (w : va_W) : va_W := w.map (fun q => (ad q.1, rx_e ad cs q.2))
def rx_l (ad : Nat → Nat) (lv : rxL) : rxL := lv.map (fun q => (q.1, rx_v ad q.2))
def rx_ty (cs : Nat → ClassId) : List (ClassId × FieldType) := [(cs 0, .int), (cs 1, .long), (cs 2, .boolean)]
def rx_rm (δ : Nat) : Room := { frames := δ, cells := 0, slots := 0, locals := 64 * δ }
def rx_isNest (w : Cond) : Bool := match w with
  | .methodLinkNest _ _ _ _ => true
  | _ => false
/-- the words that a call hands on; those of nest mates go by the state -/
def rx_tbl : List Cond := lw_tbl.filter goodWord
def rx_nest : List Cond := lw_tbl.filter rx_isNest
def rx_N (U : State) : Prop := ∀ w ∈ rx_nest, va_Nw w U
def rx_ws (M : rxM) : List Cond := .code M.1 M.2.1 M.2.2.1 M.2.2.2 :: rx_tbl
def rx_Qc (ad : Nat → Nat) (cs : Nat → ClassId) (D : va_G) (sz : Nat) (w : va_W) (k : rxR) : Array Value → State → Outcome → State → Prop := fun _ st oc t =>
  (∃ (r : Option Value) (w' : va_W), oc = .returned (r.map (rx_v ad)) ∧ k r w' ∧ w'.map (·.1) = w.map (·.1) ∧ va_P D vwCl (rx_w ad cs w') t.heap) ∧ va_F (va_A (rx_w ad cs w) sz) st t
/-- what a method does, said of worlds: from the world w with the arguments av it comes back with k -/
def rx_Sem (M : rxM) (δ : Nat) (av : List Value) (w : va_W) (k : rxR) : Prop :=
  ∀ (l : Launch) (D : va_G) (cs : Nat → ClassId) (ad : Nat → Nat) (sz : Nat), Met l M.1 (rx_ws M) (rx_rm δ)
    (va_Pc (av.map (rx_v ad)) (fun U => U.heap.size = sz ∧ va_P D vwCl (rx_w ad cs w) U.heap ∧ va_K D vwCl (rx_ty cs) U ∧ va_D (fun _ => True) (rx_w ad cs w) ∧ rx_N U))
    (rx_Qc ad cs D sz w k) 0 0 (va_A (rx_w ad cs w) sz)
-- a run of a stretch of operations; the least closed predicate over blocks
def rx_run : List rxOp → rxL → List Value → va_W → rxJ → rxR → Prop
  | [], _, _, _, _, _ => False
  | o :: os, lv, st, w, J, R => o lv st w (fun lv st w => rx_run os lv st w J R) J R
def rx_lk : List (Nat × List rxOp) → Nat → Option (List rxOp)
  | [], _ => none
  | (i, os) :: l, j => match Nat.beq i j with
    | true => some os
    | false => rx_lk l j
def rx_Ex (B : List (Nat × List rxOp)) (R : rxR) : rxJ := fun pc lv st w =>
  ∀ P : rxJ, (∀ (X : rxJ) (pc : Nat) (lv : rxL) (st : List Value) (w : va_W) (os : List rxOp), (∀ pc lv st w, X pc lv st w → P pc lv st w) → rx_lk B pc = some os → rx_run os lv st w X R → P pc lv st w) → P pc lv st w
theorem rx_step {B : List (Nat × List rxOp)} {R : rxR} {pc : Nat} {lv : rxL} {st : List Value} {w : va_W} (os : List rxOp) (h : rx_lk B pc = some os) (hr : rx_run os lv st w (rx_Ex B R) R) : rx_Ex B R pc lv st w :=
  fun P hP => hP (rx_Ex B R) pc lv st w os (fun _ _ _ _ hX => hX P hP) h hr
-- the operations
def o_c (v : Value) : rxOp := fun lv st w k _ _ => k lv (v :: st) w
def o_il (i : Nat) : rxOp := fun lv st w k _ _ => match rx_look lv i with
  | some (.int x) => k lv (.int x :: st) w
  | _ => False
def o_ll (i : Nat) : rxOp := fun lv st w k _ _ => match rx_look lv i with
  | some (.long x) => k lv (.long x :: st) w
  | _ => False
def o_al (i : Nat) : rxOp := fun lv st w k _ _ => match rx_look lv i with
  | some (.ref x) => k lv (.ref x :: st) w
  | _ => False
def o_is (i : Nat) : rxOp := fun lv st w k _ _ => match st with
  | .int x :: st => k ((i, .int x) :: rx_fl1 i lv) st w
  | _ => False
def o_ls (i : Nat) : rxOp := fun lv st w k _ _ => match st with
  | .long x :: st => k ((i, .long x) :: rx_fl2 i lv) st w
  | _ => False
def o_as (i : Nat) : rxOp := fun lv st w k _ _ => match st with
  | .ref x :: st => k ((i, .ref x) :: rx_fl1 i lv) st w
  | _ => False
def o_inc (i : Nat) (n : Int32) : rxOp := fun lv st w k _ _ => match rx_look lv i with
  | some (.int x) => ∀ y : Int32, y = x + n → k ((i, .int y) :: rx_fl1 i lv) st w
  | _ => False
/-- a name for the number on top -/
def o_ni : rxOp := fun lv st w k _ _ => match st with
  | .int x :: st => ∀ y : Int32, y = x → k lv (.int y :: st) w
  | _ => False
def o_nl : rxOp := fun lv st w k _ _ => match st with
  | .long x :: st => ∀ y : Int64, y = x → k lv (.long y :: st) w
  | _ => False
def o_ii (f : Int32 → Int32 → Int32) : rxOp := fun lv st w k _ _ => match st with
  | .int y :: .int x :: st => k lv (.int (f x y) :: st) w
  | _ => False
def o_id (f : Int32 → Int32 → Int32) : rxOp := fun lv st w k _ _ => match st with
  | .int y :: .int x :: st => ¬ y = 0 ∧ k lv (.int (f x y) :: st) w
  | _ => False
def o_jj (f : Int64 → Int64 → Int64) : rxOp := fun lv st w k _ _ => match st with
  | .long y :: .long x :: st => k lv (.long (f x y) :: st) w
  | _ => False
def o_jd (f : Int64 → Int64 → Int64) : rxOp := fun lv st w k _ _ => match st with
  | .long y :: .long x :: st => ¬ y = 0 ∧ k lv (.long (f x y) :: st) w
  | _ => False
/-- shifts of longs -/
def o_ji (f : Int64 → Int32 → Int64) : rxOp := fun lv st w k _ _ => match st with
  | .int y :: .long x :: st => k lv (.long (f x y) :: st) w
  | _ => False
def o_jc : rxOp := fun lv st w k _ _ => match st with
  | .long y :: .long x :: st => k lv (.int (lg_cmp x y) :: st) w
  | _ => False
def o_j1 (f : Int64 → Int64) : rxOp := fun lv st w k _ _ => match st with
  | .long x :: st => k lv (.long (f x) :: st) w
  | _ => False
def o_i2l : rxOp := fun lv st w k _ _ => match st with
  | .int x :: st => k lv (.long x.toInt64 :: st) w
  | _ => False
def o_l2i : rxOp := fun lv st w k _ _ => match st with
  | .long x :: st => k lv (.int x.toInt32 :: st) w
  | _ => False
def o_dup : rxOp := fun lv st w k _ _ => match st with
  | v :: st => match rx_wide v with
    | false => k lv (v :: v :: st) w
    | true => False
  | _ => False
def o_dup2 : rxOp := fun lv st w k _ _ => match st with
  | v :: st => match rx_wide v with
    | true => k lv (v :: v :: st) w
    | false => match st with
      | u :: st => match rx_wide u with
        | false => k lv (v :: u :: v :: u :: st) w
        | true => False
      | _ => False
  | _ => False
def o_pop : rxOp := fun lv st w k _ _ => match st with
  | v :: st => match rx_wide v with
    | false => k lv st w
    | true => False
  | _ => False
def o_go (t : Nat) (pk : List Nat) : rxOp := fun lv st w _ J _ => J t (rx_pk lv pk) st w
def o_if (c : Int32 → Prop) (t : Nat) (pk : List Nat) : rxOp := fun lv st w k J _ => match st with
  | .int x :: st => (c x → J t (rx_pk lv pk) st w) ∧ (¬ c x → k lv st w)
  | _ => False
def o_ic (c : Int32 → Int32 → Prop) (t : Nat) (pk : List Nat) : rxOp := fun lv st w k J _ => match st with
  | .int y :: .int x :: st => (c x y → J t (rx_pk lv pk) st w) ∧ (¬ c x y → k lv st w)
  | _ => False
def o_ifn (t : Nat) (pk : List Nat) : rxOp := fun lv st w k J _ => match st with
  | .int x :: st => (¬ x = 0 → J t (rx_pk lv pk) st w) ∧ (x = 0 → k lv st w)
  | _ => False
def o_icn (t : Nat) (pk : List Nat) : rxOp := fun lv st w k J _ => match st with
  | .int y :: .int x :: st => (¬ x = y → J t (rx_pk lv pk) st w) ∧ (x = y → k lv st w)
  | _ => False
def rx_tsw (x : Int32) (K : Nat → Prop) (d : Nat) : List (Int32 × Nat) → Prop
  | [] => K d
  | (c, t) :: l => (x = c → K t) ∧ (¬ x = c → rx_tsw x K d l)
def o_tsw (l : List (Int32 × Nat)) (d : Nat) (pk : List Nat) : rxOp := fun lv st w _ J _ => match st with
  | .int x :: st => rx_tsw x (fun t => J t (rx_pk lv pk) st w) d l
  | _ => False
def o_gf (ci j : Nat) : rxOp := fun lv st w k _ _ => match st with
  | .ref a :: st => match rx_get w a with
    | some (.inr (c, fs)) => match Nat.beq c ci, rx_nth fs j with
      | true, some v => k lv (v :: st) w
      | _, _ => False
    | _ => False
  | _ => False
def rx_put (ci j : Nat) (a : Nat) (v : Value) (w : va_W) (k : va_W → Prop) : Prop := match rx_get w a with
  | some (.inr (c, fs)) => match Nat.beq c ci, rx_nth fs j with
    | true, some _ => k (rx_set w a (.inr (c, rx_upd fs j v)))
    | _, _ => False
  | _ => False
def o_pfi (ci j : Nat) : rxOp := fun lv st w k _ _ => match st with
  | .int x :: .ref a :: st => rx_put ci j a (.int x) w (fun w => k lv st w)
  | _ => False
def rx_bool (x : Int32) : Prop := x = 0 ∨ x = 1
def o_pfz (ci j : Nat) : rxOp := fun lv st w k _ _ => match st with
  | .int x :: .ref a :: st => rx_bool x ∧ rx_put ci j a (.int x) w (fun w => k lv st w)
  | _ => False
def o_pfl (ci j : Nat) : rxOp := fun lv st w k _ _ => match st with
  | .long x :: .ref a :: st => rx_put ci j a (.long x) w (fun w => k lv st w)
  | _ => False
def o_pfa (ci j : Nat) : rxOp := fun lv st w k _ _ => match st with
  | .ref x :: .ref a :: st => rx_put ci j a (.ref x) w (fun w => k lv st w)
  | _ => False
def rx_arI (w : va_W) (t a : Nat) : Option (Nat × (Nat → Int32)) := match rx_get w a with
  | some (.inl (t', n, .inl f)) => match Nat.beq t' t with
    | true => some (n, f)
    | false => none
  | _ => none
def rx_arJ (w : va_W) (a : Nat) : Option (Nat × (Nat → Int64)) := match rx_get w a with
  | some (.inl (t', n, .inr (.inl f))) => match Nat.beq t' 1 with
    | true => some (n, f)
    | false => none
  | _ => none
def o_ia (t : Nat) : rxOp := fun lv st w k _ _ => match st with
  | .int i :: .ref a :: st => match rx_arI w t a with
    | some (n, f) => vp_in i n ∧ k lv (.int (f i.toNatClampNeg) :: st) w
    | none => False
  | _ => False
def o_la : rxOp := fun lv st w k _ _ => match st with
  | .int i :: .ref a :: st => match rx_arJ w a with
    | some (n, f) => vp_in i n ∧ k lv (.long (f i.toNatClampNeg) :: st) w
    | none => False
  | _ => False
def o_ias : rxOp := fun lv st w k _ _ => match st with
  | .int x :: .int i :: .ref a :: st => match rx_arI w 0 a with
    | some (n, f) => vp_in i n ∧ k lv st (rx_set w a (.inl (0, n, .inl (up f i.toNatClampNeg x))))
    | none => False
  | _ => False
def o_zas : rxOp := fun lv st w k _ _ => match st with
  | .int x :: .int i :: .ref a :: st => match rx_arI w 2 a with
    | some (n, f) => vp_in i n ∧ k lv st (rx_set w a (.inl (2, n, .inl (up f i.toNatClampNeg (vp_nar .boolean x)))))
    | none => False
  | _ => False
def o_las : rxOp := fun lv st w k _ _ => match st with
  | .long x :: .int i :: .ref a :: st => match rx_arJ w a with
    | some (n, f) => vp_in i n ∧ k lv st (rx_set w a (.inl (1, n, .inr (.inl (up f i.toNatClampNeg x)))))
    | none => False
  | _ => False
def o_len : rxOp := fun lv st w k _ _ => match st with
  | .ref a :: st => match rx_get w a with
    | some (.inl (t, n, _)) => match Nat.ble t 2 with
      | true => k lv (.int (Int32.ofNat n) :: st) w
      | false => False
    | _ => False
  | _ => False
def o_cp : rxOp := fun lv st w k _ _ => match st with
  | [.int n, .int dp, .ref d, .int sp, .ref b] => match rx_arI w 0 b, rx_arI w 0 d with
    | some (n0, f), some (n1, g) => (¬ sp < 0 ∧ ¬ dp < 0 ∧ ¬ n < 0 ∧ sp.toNatClampNeg + n.toNatClampNeg ≤ n0 ∧ dp.toNatClampNeg + n.toNatClampNeg ≤ n1) ∧ k lv [] (rx_set w d (.inl (0, n1, .inl (va_cpy f g sp.toNatClampNeg dp.toNatClampNeg n.toNatClampNeg))))
    | _, _ => False
  | _ => False
def rx_chk (rc : Option Nat) (av : List Value) (w : va_W) : Bool := match rc with
  | none => true
  | some ci => match av with
    | .ref a :: _ => match rx_get w a with
      | some (.inr (c, _)) => Nat.beq c ci
      | _ => false
    | _ => false
def o_ca (M : rxM) (δ : Nat) (rc : Option Nat) (na : Nat) (ids : List Nat) : rxOp := fun lv st w k _ _ => match rx_args na st [] with
  | some (av, st) => match Nat.ble (rx_cat st) 8, rx_chk rc av w, rx_sel w ids with
    | true, true, some wc => rx_Sem M δ av wc (fun r w' => k lv (rx_psh r st) (rx_mrg w' w))
    | _, _, _ => False
  | none => False
def rx_rfs : List Value → List Nat
  | [] => []
  | .ref a :: l => a :: rx_rfs l
  | _ :: l => rx_rfs l
def rx_rf2 (w : va_W) : List Value → List Nat
  | [] => []
  | .ref a :: l => match rx_get w a with
    | some (.inr (_, fs)) => a :: (rx_rfs fs ++ rx_rf2 w l)
    | _ => a :: rx_rf2 w l
  | _ :: l => rx_rf2 w l
def rx_aids (w : va_W) : List Value → List Nat
  | [] => []
  | .ref a :: l => match rx_get w a with
    | some (.inr (_, fs)) => a :: (rx_rf2 w fs ++ rx_aids w l)
    | _ => a :: rx_aids w l
  | _ :: l => rx_aids w l
def rx_nd : List Nat → Bool
  | [] => true
  | a :: l => (l.all (fun b => !(Nat.beq a b))) && rx_nd l
def rx_crb (M : rxM) (δ : Nat) (rc : Option Nat) (av st : List Value) (ids : List Nat) (lv : rxL) (w : va_W) (k : rxK) : Prop :=
  match Nat.ble (rx_cat st) 8, rx_chk rc av w, rx_nd ids, rx_sel w ids with
    | true, true, true, some wc => match rx_rl ids av, rx_rw ids wc 0 with
      | some av', some wr => rx_Sem M δ av' wr (fun r w' => match r, rx_uw ids w' with
        | none, some w2 => k lv st (rx_mrg w2 w)
        | some (.int x), some w2 => k lv (.int x :: st) (rx_mrg w2 w)
        | some (.long x), some w2 => k lv (.long x :: st) (rx_mrg w2 w)
        | _, _ => False)
      | _, _ => False
    | _, _, _, _ => False
/-- a call of a method whose world has ids of its own: 0, 1, ..: its arguments' cells and the cells that these hold -/
def o_cr (M : rxM) (δ : Nat) (rc : Option Nat) (na : Nat) : rxOp := fun lv st w k _ _ => match rx_args na st [] with
  | some (av, st) => rx_crb M δ rc av st (rx_aids w av) lv w k
  | none => False
def o_ri : rxOp := fun _ st w _ _ R => match st with
  | [.int x] => R (some (.int x)) w
  | _ => False
def o_rz : rxOp := fun _ st w _ _ R => match st with
  | [.int x] => rx_bool x ∧ R (some (.int x)) w
  | _ => False
def o_rl : rxOp := fun _ st w _ _ R => match st with
  | [.long x] => R (some (.long x)) w
  | _ => False
def o_ra : rxOp := fun _ st w _ _ R => match st with
  | [.ref x] => R (some (.ref x)) w
  | _ => False
def o_rv : rxOp := fun _ st w _ _ R => match st with
  | [] => R none w
  | _ => False
def rx_lva : Nat → List Value → rxL
  | _, [] => []
  | i, v :: l => (i, v) :: rx_lva (match rx_wide v with
    | true => i + 2
    | false => i + 1) l
