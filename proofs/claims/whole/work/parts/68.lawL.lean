/-! THE CLAIM OUT OF ONE WALK OF THE LAW'S BODY. Your part is whole_start (and what it stands on); all else here is the same for every law, but numbers. -/
def R_law : String := "FlungFingersLaw"
def lw_P (b : Addr) (xs : List Int32) (args : Array Value) (s : State) : Prop := args = #[.ref b] ∧ s.IntsAt b xs ∧ xs.length ≤ 2560 ∧ (Jvm.Cond.and given_1 narrow_1).before args s = true
def lw_Q (_ : Array Value) (s : State) (o : Outcome) (t : State) : Prop := o = .returned (some (.int 1)) ∧ Framed s o t [] 600000 7302250
def lw_Z (below : List Frame) (a : Array Value) (s : State) : State → Prop := fun t => ∃ o, t.status = .running ∧ Ended t below o ∧ lw_Q a s o t
/-- the law's own end, with 1 on the stack, nothing written that was there before, its room as the claim has it -/
theorem lw_ret {p : Program} {l : Launch} {e : Env} {s : State} {m : MethodId} {below : List Frame} {meth : Method} {c : Code} {b : Nat} (hx : p.tables.exec = Jvm.exec) (hb : c.code = code) (hr : meth.sig.returnType = ret) (hlocks : meth.locks = false) {pc : Nat} {H : Heap} {ls : Array Slot} (hdg : decode code pc = .ok (.ireturn, 1)) : W p l e room_1 s m #[Value.ref b] below meth c H [] 600000 7302250 (lw_Z below #[Value.ref b] s) (F0 m pc ls [.int 1]) := by
  intro T hT X
  obtain ⟨fs, hret, hrun, hended, hW, hframe⟩ := X.leave (v := some (.int 1)) (hlocks := hlocks) (fun h => by rw [hr] at h; cases h)
  have hmeth' : T.vm.method? m = some meth := X.method'
  refine ⟨T.setFrames fs, ?_, .returned (some (.int 1)), hrun, hended, rfl, ⟨_, rfl⟩, hW, hframe⟩
  jvm_step X.here [X.here.top, hx, hb, hdg, hmeth', hr, ret, narrow_b1]
  (try refine ⟨rfl, ?_⟩); (try refine ⟨rfl, ?_⟩)
  first | (intro acts; rw [hret _ acts rfl rfl rfl]) | rw [hret _ _ rfl rfl rfl]
  exact Steps.refl _
/-- what holds at the law's entry: the machine, the code, the tables' words (any of lw_tbl by 'hts w (by decide +kernel)'), the script of L ints xs at the cell b, what the Statement gives of the start (any of its parts by flat_of_before) -/
def lw_At (p : Program) (s : State) (m : MethodId) (meth : Method) (c : Code) (b L : Nat) (xs : Nat → Int32) : Prop :=
  p.tables.exec = Jvm.exec ∧ c.code = code ∧ meth.sig.returnType = ret ∧ c.maxLocals = 4 ∧ s.vm.findClass R_law = some m.cls ∧ (∀ w ∈ lw_tbl, w.before #[Value.ref b] s = true) ∧ va_X b L xs s s.heap ∧ b < s.heap.size ∧ meth.locks = false ∧ (Jvm.Cond.and given_1 narrow_1).before #[Value.ref b] s = true
section LOOP
variable {p : Program} {l : Launch} {e : Env} {s : State} {m : MethodId} {below : List Frame} {meth : Method} {c : Code} {D : va_G} {cs : Nat → ClassId} {b L : Nat} {xs : Nat → Int32}
theorem rx_N_of {args : Array Value} (hts : ∀ w ∈ lw_tbl, w.before args s = true) : rx_N s := by
  intro w hw
  obtain ⟨h1, h2⟩ := List.mem_filter.mp hw
  refine va_Nw.of ?_ (hts w h1)
  cases w <;> first | rfl | cases h2
theorem law_one (hL : L ≤ 2560) (C0 : lw_At p s m meth c b L xs) (hK : va_K D vwCl (rx_ty cs) s) {i : Nat} (hi : i ≤ L + 5) (nxt : i + 5 ≤ L → ∀ (ad : Nat → Nat) (ci : Nat → Int32) (cl : Nat → Int64) (cI : Nat → Nat → Int32) (cJ : Nat → Nat → Int64) (mi : Nat → Int32) (mI : Nat → Nat → Int32) (mJ : Nat → Nat → Int64) (H : Heap) (locs : List Loc) (ls : Array Slot), ST ci cl cI cJ mi mI mJ → ad 999 = b → rx_Wd 4 D cs ad (fun q : Nat => s.heap.size ≤ q) s.heap ((GL ci cl cI cJ mi mI mJ).map (·.1)) [(0, .ref 999), (1, .ref 100), (2, .ref 0), (3, .int (nI (i + 5)))] (GL ci cl cI cJ mi mI mJ) H locs ls → W p l e room_1 s m #[Value.ref b] below meth c H locs 600000 7302250 (lw_Z below #[Value.ref b] s) (F0 m 18 ls [])) : ∀ (ad : Nat → Nat) (ci : Nat → Int32) (cl : Nat → Int64) (cI : Nat → Nat → Int32) (cJ : Nat → Nat → Int64) (mi : Nat → Int32) (mI : Nat → Nat → Int32) (mJ : Nat → Nat → Int64) (H : Heap) (locs : List Loc) (ls : Array Slot), ST ci cl cI cJ mi mI mJ → ad 999 = b → rx_Wd 4 D cs ad (fun q : Nat => s.heap.size ≤ q) s.heap ((GL ci cl cI cJ mi mI mJ).map (·.1)) [(0, .ref 999), (1, .ref 100), (2, .ref 0), (3, .int (nI i))] (GL ci cl cI cJ mi mI mJ) H locs ls → W p l e room_1 s m #[Value.ref b] below meth c H locs 600000 7302250 (lw_Z below #[Value.ref b] s) (F0 m 18 ls []) := by
  intro ad ci cl cI cJ mi mI mJ H locs ls hT h9 hw
  obtain ⟨hx, hb, hr, hml, hown, hts, hX, hbl, hlocks, hgv⟩ := id C0
  have hbA : ¬ (fun q : Nat => s.heap.size ≤ q) b := Nat.not_le.mpr hbl
  refine rx_Ex2_sound (own := RL) (cc := code) (nL := 4) (rt := some .boolean) (δ := 16) (b := b) (L := L) (xs := xs) (B := B_law L xs) (J0 := fun t lv st w => i + 5 ≤ L ∧ t = 18 ∧ st = [] ∧ lv = [(0, .ref 999), (1, .ref 100), (2, .ref 0), (3, .int (nI (i + 5)))] ∧ ((∃ (ci : Nat → Int32) (cl : Nat → Int64) (cI : Nat → Nat → Int32) (cJ : Nat → Nat → Int64) (mi : Nat → Int32) (mI : Nat → Nat → Int32) (mJ : Nat → Nat → Int64), ST ci cl cI cJ mi mI mJ ∧ w = GL ci cl cI cJ mi mI mJ) ∨ (∃ (ci : Nat → Int32) (cl : Nat → Int64) (cI : Nat → Nat → Int32) (cJ : Nat → Nat → Int64) (mi : Nat → Int32) (mI : Nat → Nat → Int32) (mJ : Nat → Nat → Int64), ST ci cl cI (ub (ub cJ 6 (cJ 7)) 7 (cJ 6)) mi mI mJ ∧ w = GLs ci cl cI cJ mi mI mJ))) (Kr := fun r _ => r = some (.int 1)) (st := []) ⟨hx, hb, hml, hown, fun w hw => hts w (List.mem_filter.mp hw).1, hK, by decide, by decide, fun _ h => h, Nat.le_refl _, Nat.le_refl _, rx_N_of hts⟩ ⟨hX, hbl, hbA, h9⟩ V_law ?_ ?_ ?_ hw
  · intro t lv' st' w' H' locs' ls' hj hw'
    obtain ⟨hi5, rfl, rfl, rfl, hj⟩ := hj
    rcases hj with ⟨ci, cl, cI, cJ, mi, mI, mJ, hT', rfl⟩ | ⟨ci, cl, cI, cJ, mi, mI, mJ, hT', rfl⟩
    · exact nxt hi5 ad _ _ _ _ _ _ _ H' locs' ls' hT' h9 hw'
    · exact nxt hi5 (swp ad) _ _ _ _ _ _ _ H' locs' ls' hT' h9 (sw_Wd hw')
  · intro r w' lv' H' locs' ls' pc1 ins hr1 hw' hd hret
    subst hr1
    rcases hret with ⟨rfl, -⟩ | ⟨-, x, h, -⟩ | ⟨-, h, -⟩ | ⟨-, a, n, h, -⟩
    · refine va_forget (fun q hq => hw'.2.2.1.2.2 q hq) ?_
      exact lw_ret hx hb hr hlocks hd
    · cases h
    · cases h
    · cases h
  · have hLi : (Int32.ofNat L - 5).toInt = (L : Int) - 5 := i_sub (nI_toInt (show L < 2 ^ 31 by omega)) (show (5 : Int32).toInt = 5 by decide) (by omega) (by omega)
    have hii : (nI i).toInt = (i : Int) := nI_toInt (by omega)
    refine law_18 hT (fun _ => rfl) (fun cc => ?_)
    rw [i_lt, hLi, hii] at cc
    have hi5 : i + 5 ≤ L := by omega
    have e5 : nI i + 5 = nI (i + 5) := nI_add i 5
    have g : ∀ k : Nat, k < 5 → vp_in (nI i + nI k) L := fun k hk => by rw [nI_add]; exact vp_in_nI (by omega) (by omega)
    refine law_26 hT (fun ci cl cI cJ mi mI mJ h => nx_of ⟨hi5, rfl, rfl, by rw [e5], Or.inl ⟨_, _, _, _, _, _, _, h, rfl⟩⟩) (fun ci cl cI cJ mi mI mJ h => nxs_of ⟨hi5, rfl, rfl, by rw [e5], Or.inr ⟨_, _, _, _, _, _, _, h, rfl⟩⟩) (vp_in_nI (by omega) (by omega)) (g 1 (by omega)) (g 2 (by omega)) (g 3 (by omega)) (g 4 (by omega))
theorem law_loop (hL : L ≤ 2560) (C0 : lw_At p s m meth c b L xs) (hK : va_K D vwCl (rx_ty cs) s) : ∀ (n i : Nat), L < i + n → i ≤ L + 5 → ∀ (ad : Nat → Nat) (ci : Nat → Int32) (cl : Nat → Int64) (cI : Nat → Nat → Int32) (cJ : Nat → Nat → Int64) (mi : Nat → Int32) (mI : Nat → Nat → Int32) (mJ : Nat → Nat → Int64) (H : Heap) (locs : List Loc) (ls : Array Slot), ST ci cl cI cJ mi mI mJ → ad 999 = b → rx_Wd 4 D cs ad (fun q : Nat => s.heap.size ≤ q) s.heap ((GL ci cl cI cJ mi mI mJ).map (·.1)) [(0, .ref 999), (1, .ref 100), (2, .ref 0), (3, .int (nI i))] (GL ci cl cI cJ mi mI mJ) H locs ls → W p l e room_1 s m #[Value.ref b] below meth c H locs 600000 7302250 (lw_Z below #[Value.ref b] s) (F0 m 18 ls []) := by
  intro n
  induction n with
  | zero => intro i h1 h2; exact law_one hL C0 hK h2 (fun h => absurd h (by omega))
  | succ n ih => intro i h1 h2; exact law_one hL C0 hK h2 (fun h => ih (i + 5) (by omega) (by omega))
end LOOP
