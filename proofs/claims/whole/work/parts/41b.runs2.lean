/-! the GAME of a RULE -/
/-- T, d, ins, n: what THE STEPS come to -/
def GameOf (k l f m : Nat) (T : Nat → Nat → Int) (d : Int) (ins : Nat → Nat) (n : Nat) : Prop := ∃ L insL, runR k l f m = some (L, d, insL, n) ∧ T = LT L ∧ ins = (fun i => insL.getD i 0)
theorem GameOf.uniq {k l f m : Nat} {T T' : Nat → Nat → Int} {d d' : Int} {ins ins' : Nat → Nat} {n n' : Nat} (h : GameOf k l f m T d ins n) (h' : GameOf k l f m T' d' ins' n') : T' = T ∧ d' = d ∧ ins' = ins ∧ n' = n := by
  obtain ⟨L, i1, h1, h2, h3⟩ := h
  obtain ⟨L', i1', h1', h2', h3'⟩ := h'
  rw [h1] at h1'
  simp only [Option.some.injEq, Prod.mk.injEq] at h1'
  obtain ⟨e1, e2, e3, e4⟩ := h1'
  subst e1 e2 e3 e4
  exact ⟨by rw [h2, h2'], rfl, by rw [h3, h3'], rfl⟩
theorem chk_all {k l f m : Nat} (h : RuleOK k l f m) : chkR k l f m = true := by
  obtain ⟨h1, h2, h3, h4, h5, h6⟩ := h
  by_cases e0 : k = 0
  · subst e0
    have := h5 rfl
    exact runs0 l (by omega) f (by omega) (by omega) m (by omega) (by omega)
  · have hm := h6 e0
    subst hm
    by_cases e1 : k = 1
    · subst e1
      exact runs1 l (by omega) f (by omega) (by omega)
    · have e2 : k = 2 := by omega
      subst e2
      exact runs2 l (by omega) f (by omega) (by omega)
theorem GameOf.ex {k l f m : Nat} (h : RuleOK k l f m) : ∃ T d ins n, GameOf k l f m T d ins n := by
  have hc := chk_all h
  unfold chkR at hc
  split at hc
  · cases hc
  · rename_i L d insL n e
    exact ⟨_, d, _, n, L, insL, e, rfl, rfl⟩
theorem GameOf.fct {k l f m : Nat} {T : Nat → Nat → Int} {d : Int} {ins : Nat → Nat} {n : Nat} (h : GameOf k l f m T d ins n) (hr : RuleOK k l f m) : fctR k l f m T d ins := by
  have hc := chk_all hr
  obtain ⟨L, insL, e, e2, e3⟩ := h
  unfold chkR at hc
  rw [e] at hc
  rw [e2, e3]
  exact fct_of rfl hc
/-- the table as it is laid -/
def T0 (k l f m : Nat) : Nat → Nat → Int := LT (lay0 k l f m)
def I0 (k l f : Nat) : Nat → Nat := fun i => (ins0 k l f).getD i 0
theorem T0_eq {k l f m r j : Nat} (hr : r ≤ gw k l f) (hj : j ≤ 2 * gw k l f) : T0 k l f m r j = tab0 k l f m r j := by
  have hr' : r < gw k l f + 1 := by omega
  have hj' : j < 2 * gw k l f + 1 := by omega
  unfold T0 LT lay0
  simp [List.getD_eq_getElem?_getD, hr', hj']
theorem I0_eq {k l f i : Nat} (hi : i < gw k l f) : I0 k l f i = gw k l f + i := by
  unfold I0 ins0
  simp [List.getD_eq_getElem?_getD, hi]
theorem GameOf.trace {k l f m : Nat} {T : Nat → Nat → Int} {d : Int} {ins : Nat → Nat} {n : Nat} (h : GameOf k l f m T d ins n) : Trace (gw k l f) 40 (T0 k l f m) 1 (I0 k l f) 0 T d ins n := by
  obtain ⟨L, insL, e, e2, e3⟩ := h
  rw [e2, e3]
  exact run_trace e
theorem Trace.fin {w : Nat} : ∀ {u : Nat} {T : Nat → Nat → Int} {d : Int} {ins : Nat → Nat} {n : Nat} {T' : Nat → Nat → Int} {d' : Int} {ins' : Nat → Nat} {n' : Nat}, Trace w u T d ins n T' d' ins' n' → Bd T' w ∧ (0 < d' ∧ d' < 67108864) ∧ fstC T' w (2 * w) 0 = none ∧ n' ≤ n + u
  | 0, _, _, _, _, _, _, _, _, h => False.elim h
  | u + 1, T, d, ins, n, T', d', ins', n', h => by
    obtain ⟨h1, h2, h3⟩ := h
    rcases h3 with ⟨h3, e1, e2, e3, e4⟩ | ⟨c, r, -, -, h4⟩
    · subst e1 e2 e3 e4
      exact ⟨h1, h2, h3, by omega⟩
    · have := Trace.fin h4
      exact ⟨this.1, this.2.1, this.2.2.1, by omega⟩
theorem GameOf.bd {k l f m : Nat} {T : Nat → Nat → Int} {d : Int} {ins : Nat → Nat} {n : Nat} (h : GameOf k l f m T d ins n) : Bd T (gw k l f) ∧ (0 < d ∧ d < 67108864) ∧ fstC T (gw k l f) (2 * gw k l f) 0 = none ∧ n ≤ 40 := by
  have := h.trace.fin
  exact ⟨this.1, this.2.1, this.2.2.1, by omega⟩
