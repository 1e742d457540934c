/-! the state of the class and of the reference, in parts -/
def PG (k : Nat) (l : Nat) (f : Nat) (m : Nat) (r_kind : Int32) (r_low : Int32) (r_high : Int32) (r_multiple : Int32) (r_throwCount : Int32) (r_wayCount : Int32) (r_thrown : Nat → Int32) (r_called : Nat → Int32) (g_ways : Int32) (g_isWorked : Int32) (g_d : Int64) (g_z : Int64) (g_turns : Int32) (g_cells : Nat → Int64) (g_second : Nat → Int64) (fr_signum : Int32) (above_n : Int32) (above_d : Nat → Int32) (below_n : Int32) (below_d : Nat → Int32) (m_kind : Int32) (m_low : Int32) (m_high : Int32) (m_multiple : Int32) (m_throwsMany : Int32) (m_ways : Int32) (m_greatest : Int32) (m_came : Int32) (m_limb : Nat → Int32) (m_length : Nat → Int32) (m_sign : Nat → Int32) (m_ins : Nat → Int32) : Prop := ∃ (T : Nat → Nat → Int) (d : Int) (ins : Nat → Nat) (n : Nat) (p : Int) (q : Nat) (V : Nat → Int), CR k l f m r_kind r_low r_high r_multiple r_throwCount r_wayCount r_thrown r_called ∧ GameOf k l f m T d ins n ∧ GWo k l f T d ins n g_ways g_isWorked g_d g_z g_turns g_cells g_second ∧ FS fr_signum above_n above_d below_n below_d p q ∧ MGd k l f m T d ins n m_kind m_low m_high m_multiple m_throwsMany m_ways m_greatest m_came m_ins V ∧ MR m_limb m_length m_sign V ∧ FM V p q
def PM (l : Nat) (f : Nat) (me_rows : Nat → Int32) (me_lengths : Nat → Int32) (m_row : Nat → Int32) (m_rowSize : Nat → Int32) : Prop := ∃ (tt : Nat → Nat → Nat) (len : Nat → Nat), MenR l f me_rows me_lengths tt len ∧ MenR l f m_row m_rowSize tt len
def PO (x_oddsNow : Int32) (m_odds : Int32) : Prop := ∃ odds : Nat, (1 ≤ odds ∧ odds ≤ 100000) ∧ x_oddsNow.toInt = (odds : Int) ∧ m_odds.toInt = (odds : Int)
def PS (r_kind : Int32) (r_low : Int32) (r_high : Int32) (sl_filled : Int32) (sl_goal : Int32) (sl_rounds : Int32) (sl_noted : Nat → Int32) (sl_disputed : Nat → Int32) (sl_now : Nat → Int64) (m_kind : Int32) (m_low : Int32) (m_high : Int32) (m_goal : Int32) (m_rounds : Int32) (m_mark : Nat → Int32) (m_isDisputed : Nat → Int32) : Prop := ∃ (c : SlC) (n : Nat), KlR c r_kind r_low r_high sl_goal ∧ MkR c n sl_noted sl_disputed ∧ sl_rounds.toInt = (n : Int) ∧ FiR c n sl_filled sl_now ∧ KlR c m_kind m_low m_high m_goal ∧ MkR c n m_mark m_isDisputed ∧ m_rounds.toInt = (n : Int)
def PB (be_size : Int32) (be_slack : Int32) (be_at : Nat → Int32) (be_scorer : Nat → Int32) (m_heardMany : Int32) (m_beat : Int32) (m_beatOf : Nat → Int32) (m_scoredBy : Nat → Int32) : Prop := ∃ (hm : Nat) (bt : Nat → Nat) (sb : Nat → Int) (sl : Nat), sl ≤ 1000 ∧ BtR be_size be_at be_scorer hm bt sb ∧ be_slack.toInt = (sl : Int) ∧ BtR m_heardMany m_beatOf m_scoredBy hm bt sb ∧ m_beat.toInt = (sl : Int)
def PL (le_games : Int32) (le_open : Int32) (le_points : Nat → Int32) (le_one : Nat → Int32) (le_other : Nat → Int32) (le_resultCount : Int32) (le_results : Nat → Int32) (m_games : Int32) (m_leftMany : Int32) (m_has : Nat → Int32) (m_leftA : Nat → Int32) (m_leftB : Nat → Int32) (m_toldMany : Int32) (m_results : Nat → Int32) : Prop := ∃ (G O : Nat) (P A B : Nat → Nat) (C : Nat) (R : Nat → Nat), LgR le_games le_open le_points le_one le_other le_resultCount le_results G O P A B C R ∧ LgR m_games m_leftMany m_has m_leftA m_leftB m_toldMany m_results G O P A B C R
theorem MGd.off {k l f m : Nat} {T : Nat → Nat → Int} {d : Int} {ins : Nat → Nat} {n : Nat} {mk ml mh mm mn mw mg mc : Int32} {mi : Nat → Int32} {V V' : Nat → Int} {L : List Nat} (h : MGd k l f m T d ins n mk ml mh mm mn mw mg mc mi V) (hO : Off L V V') (hL : L.all (fun s => decide (1340 ≤ s ∧ s ≠ 1343 ∧ s ≠ 1358)) = true) : MGd k l f m T d ins n mk ml mh mm mn mw mg mc mi V' := by
  obtain ⟨h1, h2, h3, h4, h5, h6, h7, h8, h9⟩ := h
  have hw := (gw_le h1.1).2
  have no : ∀ s, (s < 1340 ∨ s = 1343 ∨ s = 1358) → s ∉ L := fun s hs hm => by
    have := of_decide_eq_true (List.all_eq_true.mp hL s hm)
    omega
  refine ⟨h1, h2, h3, h4, h5, h6, fun r j hr hj => ?_, ?_, ?_⟩
  · rw [hO _ (no _ (Or.inl (by omega)))]
    exact h7 r j hr hj
  · rw [hO _ (no _ (Or.inr (Or.inl rfl))), h8]
  · rw [hO _ (no _ (Or.inr (Or.inr rfl))), h9]
theorem FM.of {V V' : Nat → Int} {p : Int} {q : Nat} {L : List Nat} (h : FM V p q) (hO : Off L V V') (hL : L.all (fun s => decide (s ≠ 1344 ∧ s ≠ 1345)) = true) : FM V' p q := by
  have no : ∀ s, (s = 1344 ∨ s = 1345) → s ∉ L := fun s hs hm => by
    have := of_decide_eq_true (List.all_eq_true.mp hL s hm)
    omega
  exact h.off (hO _ (no _ (Or.inl rfl))) (hO _ (no _ (Or.inr rfl)))
theorem anN_uniq {k l f : Nat} {tt : Nat → Nat → Nat} {len : Nat → Nat} {odds : Nat} {a e r r' : Int} (h : anN k l f tt len odds a e r) (h' : anN k l f tt len odds a e r') : r = r' := by
  rcases h with ⟨h1, h2⟩ | ⟨h1, h2, h3⟩ | ⟨h1, h2, K, h3⟩ <;> rcases h' with ⟨g1, g2⟩ | ⟨g1, g2, g3⟩ | ⟨g1, g2, K', g3⟩
  · rw [h1, g1]
  · exact absurd g2 h2
  · exact absurd g2 h2
  · exact absurd h2 g2
  · rw [h1, g1]
  · rw [h3] at g3; cases g3
  · exact absurd h2 g2
  · rw [h3] at g3; cases g3
  · rw [h1, g1]
theorem anN_3 {k l f : Nat} {tt : Nat → Nat → Nat} {len : Nat → Nat} {odds : Nat} {a e r : Int} (h : anN k l f tt len odds a e r) : r = -2 ∨ r = -3 ∨ r = -1 := by
  rcases h with ⟨h1, -⟩ | ⟨h1, -⟩ | ⟨h1, -⟩
  · exact Or.inl h1
  · exact Or.inr (Or.inl h1)
  · exact Or.inr (Or.inr h1)
def slN (c : SlC) (k lo hi G : Nat) (mk : Nat → Int) (dp : Nat → Bool) : SlC := (k, lo, hi, G, mk, dp)
theorem NV_congr {c c' : SlC} {i : Nat} (h0 : c.k = c'.k ∧ c.lo = c'.lo ∧ c.hi = c'.hi ∧ c.G = c'.G) (h : ∀ j, j < 2 * i → c.mk j = c'.mk j ∧ c.dp j = c'.dp j) {nw : Nat → Int64} (hN : NV (waS c i) nw) : NV (waS c' i) nw := by
  intro x y hx hy
  rw [← waS_congr h0.1 h0.2.1 h0.2.2.1 h0.2.2.2 h]
  exact hN x y hx hy
theorem FiR_round {c : SlC} {n : Nat} {fil : Int32} {nw : Nat → Int64} {a b : Int} {x y : Bool} (h : FiR c n fil nw) : FiR (slN c c.k c.lo c.hi c.G (up (up c.mk (2 * n) a) (2 * n + 1) b) (up (up c.dp (2 * n) x) (2 * n + 1) y)) (n + 1) fil nw := by
  rcases h with h | ⟨f, h1, h2, h3⟩
  · exact Or.inl h
  · refine Or.inr ⟨f, h1, by omega, NV_congr (c := c) (c' := slN c c.k c.lo c.hi c.G (up (up c.mk (2 * n) a) (2 * n + 1) b) (up (up c.dp (2 * n) x) (2 * n + 1) y)) ⟨rfl, rfl, rfl, rfl⟩ (fun j hj => ?_) h3⟩
    refine ⟨?_, ?_⟩
    · show c.mk j = up (up c.mk (2 * n) a) (2 * n + 1) b j
      rw [up_ne (by omega), up_ne (by omega)]
    · show c.dp j = up (up c.dp (2 * n) x) (2 * n + 1) y j
      rw [up_ne (by omega), up_ne (by omega)]
theorem MkR_round {c : SlC} {n : Nat} {nt ds : Nat → Int32} {v1 v2 : Int32} (h : MkR c n nt ds) (hn : n < 40) (h1 : okM v1.toInt) (h2 : okM v2.toInt) : MkR (slN c c.k c.lo c.hi c.G (up (up c.mk (2 * n) v1.toInt) (2 * n + 1) v2.toInt) (up (up c.dp (2 * n) false) (2 * n + 1) false)) (n + 1) (up (up nt (2 * n) v1) (2 * n + 1) v2) (up (up ds (2 * n) 0) (2 * n + 1) 0) := by
  refine ⟨by omega, fun j hj => ?_⟩
  show (up (up nt (2 * n) v1) (2 * n + 1) v2 j).toInt = up (up c.mk (2 * n) v1.toInt) (2 * n + 1) v2.toInt j ∧ -1 ≤ up (up c.mk (2 * n) v1.toInt) (2 * n + 1) v2.toInt j ∧ up (up c.mk (2 * n) v1.toInt) (2 * n + 1) v2.toInt j ≤ 60 ∧ up (up ds (2 * n) 0) (2 * n + 1) 0 j = if up (up c.dp (2 * n) false) (2 * n + 1) false j = true then 1 else 0
  by_cases e1 : j = 2 * n + 1
  · rw [e1, up_same, up_same, up_same, up_same]
    exact ⟨rfl, h2.1, h2.2, rfl⟩
  · rw [up_ne e1, up_ne e1, up_ne e1, up_ne e1]
    by_cases e2 : j = 2 * n
    · rw [e2, up_same, up_same, up_same, up_same]
      exact ⟨rfl, h1.1, h1.2, rfl⟩
    · rw [up_ne e2, up_ne e2, up_ne e2, up_ne e2]
      exact h.2 j (by omega)
theorem MkR_disp {c : SlC} {n : Nat} {nt ds : Nat → Int32} {v : Int32} {i : Nat} (h : MkR c n nt ds) (hv : v = 0 ∨ v = 1) : MkR (slN c c.k c.lo c.hi c.G c.mk (up c.dp i (decide (v = 1)))) n nt (up ds i v) := by
  refine ⟨h.1, fun j hj => ?_⟩
  show (nt j).toInt = c.mk j ∧ -1 ≤ c.mk j ∧ c.mk j ≤ 60 ∧ up ds i v j = if up c.dp i (decide (v = 1)) j = true then 1 else 0
  obtain ⟨h1, h2, h3, h4⟩ := h.2 j hj
  refine ⟨h1, h2, h3, ?_⟩
  by_cases e : j = i
  · rw [e, up_same, up_same]
    rcases hv with rfl | rfl
    · rfl
    · rfl
  · rw [up_ne e, up_ne e]
    exact h4
