theorem rx_mono {M : rxM} {δ : Nat} {av : List Value} {w : va_W} {k k' : rxR} (h : rx_Sem M δ av w k) (hk : ∀ r w', k r w' → k' r w') : rx_Sem M δ av w k' := by
  intro l D cs ad sz p e h1 h2 h3 s m args below h4 h5 h6 h7
  obtain ⟨n, o, a1, a2, a3, ⟨⟨⟨r, w', b1, b2, b3⟩, b4⟩, b5⟩⟩ := h l D cs ad sz p e h1 h2 h3 s m args below h4 h5 h6 h7
  exact ⟨n, o, a1, a2, a3, ⟨⟨⟨r, w', b1, hk r w' b2, b3⟩, b4⟩, b5⟩⟩
def rx_fn (l : List Value) (k : Nat) : Value := match rx_nth l k with
  | some v => v
  | none => .null
abbrev rx_dl (cc : ByteArray) (L : List (Nat × Instr × Nat)) : Prop := ∀ q ∈ L, decode cc q.1 = .ok q.2
theorem rx_dg {cc : ByteArray} {L : List (Nat × Instr × Nat)} (h : rx_dl cc L) (k : Nat) {pc : Nat} {q : Instr × Nat} (hk : rx_nth L k = some (pc, q)) : decode cc pc = .ok q := by
  rw [rx_nth_eq] at hk
  exact h (pc, q) (List.mem_of_getElem? hk)
theorem rx_tw {w : Cond} (i : Nat) (h : lw_tbl[i]? = some w) (hg : goodWord w = true) : w ∈ rx_tbl := List.mem_filter.mpr ⟨List.mem_of_getElem? h, hg⟩
theorem rx_tn {w : Cond} (i : Nat) (h : lw_tbl[i]? = some w) (hg : rx_isNest w = true) : w ∈ rx_nest := List.mem_filter.mpr ⟨List.mem_of_getElem? h, hg⟩
