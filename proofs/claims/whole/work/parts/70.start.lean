/-! before the law's first turn -/
theorem iw_117 : Cond.classLink RL 7 RX11 ∈ rx_tbl := rx_tw 117 (by decide +kernel) rfl
theorem iw_118 : Cond.instantiable RX11 10 ∈ rx_tbl := rx_tw 118 (by decide +kernel) rfl
theorem iw_119 : Cond.methodLink RL 9 yX11_init ∈ rx_tbl := rx_tw 119 (by decide +kernel) rfl
theorem iw_120 : Cond.instanceMethod yX11_init ∈ rx_tbl := rx_tw 120 (by decide +kernel) rfl
theorem iw_1272 : Cond.classLink RL 10 RX12 ∈ rx_tbl := rx_tw 1272 (by decide +kernel) rfl
theorem iw_1273 : Cond.instantiable RX12 45 ∈ rx_tbl := rx_tw 1273 (by decide +kernel) rfl
theorem iw_1274 : Cond.methodLink RL 12 yX12_init ∈ rx_tbl := rx_tw 1274 (by decide +kernel) rfl
theorem iw_1275 : Cond.instanceMethod yX12_init ∈ rx_tbl := rx_tw 1275 (by decide +kernel) rfl
theorem BR_0 : BR (fun _ => 0) 0 0 := ⟨0, rfl, ⟨by omega, fun k hk => absurd hk (Nat.not_lt_zero _), rfl⟩, Or.inl rfl⟩
def slI : SlC := (0, 1, 2, 1, fun _ => 0, fun _ => false)
theorem slI_ok : slI.ok := by
  show (0 ≤ 2 ∧ 1 ≤ 2 ∧ 2 ≤ 5 ∧ (0 = 2 → 2 ≤ 4) ∧ 1 ≤ 1 ∧ 1 ≤ 21)
  omega
theorem ST_init {bn rk rl rf rm rtc rwc : Int32} {bd rth rca : Nat → Int32} {mi : Nat → Int32} {mI : Nat → Nat → Int32} {mJ : Nat → Nat → Int64} (hB0 : BR bd bn 1 ∧ CR 0 1 2 2 rk rl rf rm rtc rwc rth rca) (hM : InM mi mI) : ST (ci0 bn rk rl rf rm rtc rwc) cl0 (cI0 bd rth rca) cJ0 mi mI mJ := by
  obtain ⟨hB, hC⟩ := hB0
  obtain ⟨T, d, ins, n, V, hG, hMd, hR, v4, v5, w1, w2, w3, w4, w5, w6, w7, w8, w9, w10⟩ := hM
  have z20 : (20 : Int32).toInt = ((20 : Nat) : Int) := by decide
  have z1 : (1 : Int32).toInt = ((1 : Nat) : Int) := by decide
  have z2 : (2 : Int32).toInt = ((2 : Nat) : Int) := by decide
  have z0 : (0 : Int32).toInt = ((0 : Nat) : Int) := by decide
  have z100 : (100 : Int32).toInt = ((100 : Nat) : Int) := by decide
  have hq : qa 0 1 = 0 := by decide
  have hb : qb 0 1 = 1 := by decide
  refine ⟨0, 1, 2, 2, ?_, ?_, ?_, ?_, ?_, ?_⟩
  · refine ⟨T, d, ins, n, 0, 1, V, hC, hG, Or.inl rfl, ⟨⟨by omega, ?_, ?_⟩, ?_, ?_, rfl⟩, hMd, hR, ⟨by omega, ?_, ?_⟩⟩
    · rw [hq]; exact Nat.lt_of_le_of_lt (Nat.zero_le _) small15
    · rw [hb]; exact Nat.lt_trans (by omega) small15
    · rw [hq]; exact BR_0
    · rw [hb]; exact hB
    · rw [v4, hq]; rfl
    · rw [v5, hb]; rfl
  · exact ⟨fun _ _ => 0, fun _ => 0, fun man _ => ⟨z0, Nat.zero_le _, fun i hi => absurd hi (Nat.not_lt_zero _)⟩, fun man _ => ⟨by rw [w9]; exact z0, Nat.zero_le _, fun i hi => absurd hi (Nat.not_lt_zero _)⟩⟩
  · exact ⟨20, by omega, z20, by rw [w1]; exact z20⟩
  · exact ⟨slI, 0, ⟨slI_ok, hC.2.1, hC.2.2.1, hC.2.2.2.1, z1⟩, ⟨by omega, fun j hj => absurd hj (by omega)⟩, z0, Or.inl rfl, ⟨slI_ok, hMd.1.2.1, hMd.1.2.2.1, hMd.2.1, by rw [w2]; exact z1⟩, ⟨by omega, fun j hj => absurd hj (by omega)⟩, by rw [w3]; exact z0⟩
  · exact ⟨0, fun _ => 0, fun _ => 0, 100, by omega, ⟨by omega, z0, fun i hi => absurd hi (by omega), fun r hr => absurd hr (by omega)⟩, z100, ⟨by omega, by rw [w4]; exact z0, fun i hi => absurd hi (by omega), fun r hr => absurd hr (by omega)⟩, by rw [w5]; exact z100⟩
  · exact ⟨0, 0, fun _ => 0, fun _ => 0, fun _ => 0, 0, fun _ => 0, ⟨by omega, by omega, by omega, z0, z0, fun t _ => ⟨z0, Nat.zero_le _⟩, fun i hi => absurd hi (by omega), z0, fun i hi => absurd hi (by omega)⟩, ⟨by omega, by omega, by omega, by rw [w6]; exact z0, by rw [w7]; exact z0, fun t _ => ⟨by rw [w10]; exact z0, Nat.zero_le _⟩, fun i hi => absurd hi (by omega), by rw [w8]; exact z0, fun i hi => absurd hi (by omega)⟩⟩
theorem va_K_of {args : Array Value} {s : State} (hts : ∀ w ∈ rx_tbl, w.before args s = true) : ∃ (D : va_G) (cs : Nat → ClassId), va_K D vwCl (rx_ty cs) s := by
  obtain ⟨c0, i0, h0⟩ := u_known (C := RX0) (T := TX0) (N := 6) (n := 6) hts cl_0.2.1 (hts (.instantiable RX0 6) iw_448)
  obtain ⟨c1, i1, h1⟩ := u_known (C := RX1) (T := TX1) (N := 2) (n := 2) hts cl_1.2.1 (hts (.instantiable RX1 2) iw_225)
  obtain ⟨c2, i2, h2⟩ := u_known (C := RX2) (T := TX2) (N := 5) (n := 5) hts cl_2.2.1 (hts (.instantiable RX2 5) iw_219)
  obtain ⟨c3, i3, h3⟩ := u_known (C := RX3) (T := TX3) (N := 9) (n := 9) hts cl_3.2.1 (hts (.instantiable RX3 9) iw_180)
  obtain ⟨c4, i4, h4⟩ := u_known (C := RX4) (T := TX4) (N := 9) (n := 9) hts cl_4.2.1 (hts (.instantiable RX4 9) iw_477)
  obtain ⟨c5, i5, h5⟩ := u_known (C := RX5) (T := TX5) (N := 7) (n := 7) hts cl_5.2.1 (hts (.instantiable RX5 7) iw_266)
  obtain ⟨c6, i6, h6⟩ := u_known (C := RX6) (T := TX6) (N := 7) (n := 7) hts cl_6.2.1 (hts (.instantiable RX6 7) iw_297)
  obtain ⟨c7, i7, h7⟩ := u_known (C := RX7) (T := TX7) (N := 17) (n := 17) hts cl_7.2.1 (hts (.instantiable RX7 17) iw_349)
  obtain ⟨c8, i8, h8⟩ := u_known (C := RX8) (T := TX8) (N := 8) (n := 8) hts cl_8.2.1 (hts (.instantiable RX8 8) iw_126)
  obtain ⟨c9, i9, h9⟩ := u_known (C := RX9) (T := TX9) (N := 9) (n := 9) hts cl_9.2.1 (hts (.instantiable RX9 9) iw_411)
  obtain ⟨c10, i10, h10⟩ := u_known (C := RX10) (T := TX10) (N := 4) (n := 4) hts cl_10.2.1 (hts (.instantiable RX10 4) iw_303)
  obtain ⟨c11, i11, h11⟩ := u_known (C := RX11) (T := TX11) (N := 10) (n := 10) hts cl_11.2.1 (hts (.instantiable RX11 10) iw_118)
  obtain ⟨c12, i12, h12⟩ := u_known (C := RX12) (T := TX12) (N := 45) (n := 45) hts cl_12.2.1 (hts (.instantiable RX12 45) iw_1273)
  obtain ⟨a0, kA0, m0, f0, g0, e0⟩ := Cond.arrayClass_spec (hts _ iw_178)
  obtain ⟨a1, kA1, m1, f1, g1, e1⟩ := Cond.arrayClass_spec (hts _ iw_217)
  obtain ⟨a2, kA2, m2, f2, g2, e2⟩ := Cond.arrayClass_spec (hts _ iw_446)
  refine ⟨(fun k => [c0, c1, c2, c3, c4, c5, c6, c7, c8, c9, c10, c11, c12].getD k 0, fun k => match k with
    | 0 => i0
    | 1 => i1
    | 2 => i2
    | 3 => i3
    | 4 => i4
    | 5 => i5
    | 6 => i6
    | 7 => i7
    | 8 => i8
    | 9 => i9
    | 10 => i10
    | 11 => i11
    | _ => i12), fun k => [a0, a1, a2].getD k 0, fun k q hq => ?_, fun k q hq => ?_⟩
  · match k, hq with
    | 0, hq => cases hq; exact h0
    | 1, hq => cases hq; exact h1
    | 2, hq => cases hq; exact h2
    | 3, hq => cases hq; exact h3
    | 4, hq => cases hq; exact h4
    | 5, hq => cases hq; exact h5
    | 6, hq => cases hq; exact h6
    | 7, hq => cases hq; exact h7
    | 8, hq => cases hq; exact h8
    | 9, hq => cases hq; exact h9
    | 10, hq => cases hq; exact h10
    | 11, hq => cases hq; exact h11
    | 12, hq => cases hq; exact h12
    | k + 13, hq => simp [vwCl] at hq
  · match k, hq with
    | 0, hq => cases hq; exact ⟨fun n z => ⟨fun j h => (by cases h), kA0, g0, m0, e0⟩, f0⟩
    | 1, hq => cases hq; exact ⟨fun n z => ⟨fun j h => (by cases h), kA1, g1, m1, e1⟩, f1⟩
    | 2, hq => cases hq; exact ⟨fun n z => ⟨fun j h => (by cases h), kA2, g2, m2, e2⟩, f2⟩
    | k + 3, hq => simp [rx_ty] at hq
def adA (b h0 h1 : Nat) (u v : Nat → Nat) : Nat → Nat := fun i => match Nat.beq i 999 with
  | true => b
  | false => match Nat.ble 100 i with
    | true => adF h0 u i
    | false => adM h1 v i
theorem di_L_0 : decode code 0 = .ok (.new 7, 3) := by decide +kernel
theorem di_L_3 : decode code 3 = .ok (.dup, 1) := by decide +kernel
theorem di_L_4 : decode code 4 = .ok (.invokespecial 9, 3) := by decide +kernel
theorem di_L_7 : decode code 7 = .ok (.astore_n 1, 1) := by decide +kernel
theorem di_L_8 : decode code 8 = .ok (.new 10, 3) := by decide +kernel
theorem di_L_11 : decode code 11 = .ok (.dup, 1) := by decide +kernel
theorem di_L_12 : decode code 12 = .ok (.invokespecial 12, 3) := by decide +kernel
theorem di_L_15 : decode code 15 = .ok (.astore_n 2, 1) := by decide +kernel
theorem di_L_16 : decode code 16 = .ok (.iconst 0, 1) := by decide +kernel
theorem di_L_17 : decode code 17 = .ok (.istore_n 3, 1) := by decide +kernel
section LAST
variable {D : va_G} {wr w1 : va_W} {x : Nat × va_E} {H H1 : Heap} {A : Nat → Prop}
theorem last_at : (wr ++ [x])[wr.length]? = some x := by simp
theorem last_P (hP : va_P D vwCl (wr ++ [x]) H) : va_P D vwCl [x] H := by
  intro k q hk
  match k, hk with
  | 0, hk => cases hk; exact hP wr.length x last_at
  | k + 1, hk => simp at hk
theorem one_D : va_D (fun _ => True) [x] := by
  refine ⟨fun i j p q hi hj _ => ?_, fun _ _ _ => trivial⟩
  have h1 := (List.getElem?_eq_some_iff.mp hi).1
  have h2 := (List.getElem?_eq_some_iff.mp hj).1
  simp only [List.length_cons, List.length_nil] at h1 h2
  omega
theorem last_A {n q : Nat} (h : va_A [x] n q) : q = x.1 ∨ n ≤ q := by
  rcases h with ⟨k, e, hk⟩ | h
  · match k, hk with
    | 0, hk => cases hk; exact Or.inl rfl
    | k + 1, hk => simp at hk
  · exact Or.inr h
theorem last_F {H0 : Heap} {locs : List Loc} (hD : va_D A (wr ++ [x])) (hS : va_S A H0 H locs) (hA : ∀ q, H0.size ≤ q → A q) : ∀ q, va_A [x] H.size q → A q := by
  intro q h
  rcases last_A h with h | h
  · rw [h]; exact hD.2 wr.length x last_at
  · exact hA q (Nat.le_trans hS.1 h)
theorem last_J (hP : va_P D vwCl (wr ++ [x]) H) (hD : va_D A (wr ++ [x])) (hk : ∀ q : Nat, q < H.size → ¬ va_A [x] H.size q → H1[q]? = H[q]?) (hF : ∀ q, va_A [x] H.size q → A q) (hP1 : va_P D vwCl w1 H1) (hD1 : va_D (va_A [x] H.size) w1) : va_P D vwCl (wr ++ w1) H1 ∧ va_D A (wr ++ w1) := by
  have old : ∀ (k : Nat) (q : Nat × va_E), wr[k]? = some q → (wr ++ [x])[k]? = some q ∧ k < wr.length := fun k q h => by
    have hl := (List.getElem?_eq_some_iff.mp h).1
    exact ⟨by rw [List.getElem?_append_left hl]; exact h, hl⟩
  have far : ∀ (k : Nat) (q : Nat × va_E), wr[k]? = some q → q.1 ≠ x.1 ∧ q.1 < H.size := fun k q h => by
    obtain ⟨h1, h2⟩ := old k q h
    refine ⟨fun e => ?_, (hP k q h1).lt⟩
    have := hD.1 k wr.length q x h1 last_at e
    omega
  constructor
  · intro k q h
    by_cases hl : k < wr.length
    · rw [List.getElem?_append_left hl] at h
      obtain ⟨h1, h2⟩ := far k q h
      refine (hP k q (old k q h).1).kept (hk q.1 h2 fun z => ?_)
      rcases last_A z with z | z
      · exact h1 z
      · omega
    · rw [List.getElem?_append_right (by omega)] at h
      exact hP1 _ q h
  · refine va_D.app ⟨fun i j p q hi hj e => hD.1 i j p q (old i p hi).1 (old j q hj).1 e, fun k q h => hD.2 k q (old k q h).1⟩ (hD1.weaken (fun _ q _ h => hF q.1 h)) (fun i j p q hi hj e => ?_)
    obtain ⟨h1, h2⟩ := far i p hi
    rcases last_A (hD1.2 j q hj) with z | z
    · exact h1 (e.trans z)
    · omega
end LAST
section START
variable {b h0 h1 : Nat} {u v : Nat → Nat} {cs : Nat → ClassId} {ci : Nat → Int32} {cl : Nat → Int64} {cI : Nat → Nat → Int32} {cJ : Nat → Nat → Int64} {mi : Nat → Int32} {mI : Nat → Nat → Int32} {mJ : Nat → Nat → Int64}
theorem w_F : rx_w (adA b h0 h1 u v) cs (GLF ci cl cI cJ) = rx_w (adF h0 u) cs (GLF ci cl cI cJ) := rfl
theorem w_M : rx_w (adA b h0 h1 u v) cs (GLM mi mI mJ) = rx_w (adM h1 v) cs (GLM mi mI mJ) := rfl
theorem w_all (b : Nat) : rx_w (adA b h0 h1 u v) cs (GL ci cl cI cJ mi mI mJ) = rx_w (adF h0 u) cs (GLF ci cl cI cJ) ++ rx_w (adM h1 v) cs (GLM mi mI mJ) := by
  rw [GL_eq, ← w_F (b := b) (h1 := h1) (v := v), ← w_M (b := b) (h0 := h0) (u := u)]
  exact List.map_append
theorem start_loop {p : Program} {l : Launch} {e : Env} {s : State} {m : MethodId} {below : List Frame} {meth : Method} {c : Code} {D : va_G} {L : Nat} {xs : Nat → Int32} {cells slots : Nat} {bn rk rl rf rm rtc rwc : Int32} {bd rth rca : Nat → Int32} {H : Heap} {locs : List Loc} {ls : Array Slot} (hL : L ≤ 2560) (C0 : lw_At p s m meth c b L xs) (hK : va_K D vwCl (rx_ty cs) s) (hBR : BR bd bn 1 ∧ CR 0 1 2 2 rk rl rf rm rtc rwc rth rca) (hIM : InM mi mI) (hc : cells ≤ 600000) (hs : slots ≤ 7302250)
    (hP : va_P D vwCl (rx_w (adA b h0 h1 u v) cs (GL (ci0 bn rk rl rf rm rtc rwc) cl0 (cI0 bd rth rca) cJ0 mi mI mJ)) H) (hD : va_D (fun q : Nat => s.heap.size ≤ q) (rx_w (adA b h0 h1 u v) cs (GL (ci0 bn rk rl rf rm rtc rwc) cl0 (cI0 bd rth rca) cJ0 mi mI mJ))) (hS : va_S (fun q : Nat => s.heap.size ≤ q) s.heap H locs) (hl : lv_has ls 4 [(0, .ref b), (1, .ref h0), (2, .ref h1), (3, .int (nI 0))]) : W p l e room_1 s m #[Value.ref b] below meth c H locs cells slots (lw_Z below #[Value.ref b] s) (F0 m 18 ls []) := by
  refine W.widen (k := 600000) (n := 7302250) hc hs ?_
  exact law_loop hL C0 hK (L + 1) 0 (by omega) (by omega) (adA b h0 h1 u v) (ci0 bn rk rl rf rm rtc rwc) cl0 (cI0 bd rth rca) cJ0 mi mI mJ H locs ls (ST_init hBR hIM) rfl ⟨hP, hD, hS, hl, rfl⟩
end START
