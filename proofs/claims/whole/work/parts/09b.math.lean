/-! Math of the JDK: the kit's rows as operations -/
def o_mi (f : Int32 → Int32 → Int32) : rxOp := fun lv st w k _ _ => match st with
  | .int y :: .int x :: st => match Nat.ble (rx_cat st) 8 with
    | true => ∀ r : Int32, r = f x y → k lv (.int r :: st) w
    | false => False
  | _ => False
def o_mj (f : Int64 → Int64 → Int64) : rxOp := fun lv st w k _ _ => match st with
  | .long y :: .long x :: st => match Nat.ble (rx_cat st) 8 with
    | true => ∀ r : Int64, r = f x y → k lv (.long r :: st) w
    | false => False
  | _ => False
def o_ma (f : Int64 → Int64) : rxOp := fun lv st w k _ _ => match st with
  | .long x :: st => match Nat.ble (rx_cat st) 8 with
    | true => ∀ r : Int64, r = f x → k lv (.long r :: st) w
    | false => False
  | _ => False
theorem mc_mmax : Cond.code Lib.Math.max.name Lib.Math.max.code 2 (some .int) ∈ rx_tbl := rx_tw 755 (by decide +kernel) rfl
theorem ms_mmax : Cond.static Lib.Math.max.name ∈ rx_tbl := rx_tw 754 (by decide +kernel) rfl
theorem mn_mmax : Cond.initialized "java/lang/Math" ∈ rx_tbl := rx_tw 113 (by decide +kernel) rfl
theorem ok_mmax {own : String} {cc : ByteArray} {nL : Nat} {rt : Option FieldType} {δ pc i : Nat} (d : decode cc pc = .ok (.invokestatic i, 3)) (hl : Cond.methodLink own i Lib.Math.max.name ∈ rx_tbl) (hδ : 1 ≤ δ) : rx_ok own cc nL rt δ pc (o_mi (fun x y => if x < y then y else x)) (pc + 3) := by
  intro p l e R s m args below meth c D cs ad A H0 ids cells slots Q Cx lv st w k J Kr H locs ls ho hw kk jj rr
  unfold o_mi at ho
  split at ho
  · split at ho
    · rename_i st' hb
      have hfr : δ ≤ R.frames := Cx.2.2.2.2.2.2.1
      have hlo : 64 * δ ≤ R.locals := Cx.2.2.2.2.2.2.2.1
      have h8 := Nat.le_of_ble_eq_true hb
      exact va_mmax Cx.1 Cx.2.1 (Cx.2.2.1.trans hw.2.2.2.1.1.symm) Cx.2.2.2.1 (Cx.2.2.2.2.1 _ hl) (Cx.2.2.2.2.1 _ ms_mmax) (Cx.2.2.2.2.1 _ mn_mmax) (Cx.2.2.2.2.1 _ mc_mmax) (by omega) (by rw [rx_cat_sum]; omega) Cx.2.2.2.2.2.2.2.2.2.1 Cx.2.2.2.2.2.2.2.2.2.2.1 d (kk _ _ _ _ _ _ (ho _ rfl) hw)
    · exact ho.elim
  · exact ho.elim
theorem mc_mmin : Cond.code Lib.Math.min.name Lib.Math.min.code 2 (some .int) ∈ rx_tbl := rx_tw 904 (by decide +kernel) rfl
theorem ms_mmin : Cond.static Lib.Math.min.name ∈ rx_tbl := rx_tw 903 (by decide +kernel) rfl
theorem mn_mmin : Cond.initialized "java/lang/Math" ∈ rx_tbl := rx_tw 113 (by decide +kernel) rfl
theorem ok_mmin {own : String} {cc : ByteArray} {nL : Nat} {rt : Option FieldType} {δ pc i : Nat} (d : decode cc pc = .ok (.invokestatic i, 3)) (hl : Cond.methodLink own i Lib.Math.min.name ∈ rx_tbl) (hδ : 1 ≤ δ) : rx_ok own cc nL rt δ pc (o_mi (fun x y => if y < x then y else x)) (pc + 3) := by
  intro p l e R s m args below meth c D cs ad A H0 ids cells slots Q Cx lv st w k J Kr H locs ls ho hw kk jj rr
  unfold o_mi at ho
  split at ho
  · split at ho
    · rename_i st' hb
      have hfr : δ ≤ R.frames := Cx.2.2.2.2.2.2.1
      have hlo : 64 * δ ≤ R.locals := Cx.2.2.2.2.2.2.2.1
      have h8 := Nat.le_of_ble_eq_true hb
      exact va_mmin Cx.1 Cx.2.1 (Cx.2.2.1.trans hw.2.2.2.1.1.symm) Cx.2.2.2.1 (Cx.2.2.2.2.1 _ hl) (Cx.2.2.2.2.1 _ ms_mmin) (Cx.2.2.2.2.1 _ mn_mmin) (Cx.2.2.2.2.1 _ mc_mmin) (by omega) (by rw [rx_cat_sum]; omega) Cx.2.2.2.2.2.2.2.2.2.1 Cx.2.2.2.2.2.2.2.2.2.2.1 d (kk _ _ _ _ _ _ (ho _ rfl) hw)
    · exact ho.elim
  · exact ho.elim
theorem mc_mmaxl : Cond.code Lib.MathLoose.max_long.x Lib.MathLoose.max_long.code 4 (some .long) ∈ rx_tbl := rx_tw 646 (by decide +kernel) rfl
theorem ms_mmaxl : Cond.static Lib.MathLoose.max_long.x ∈ rx_tbl := rx_tw 645 (by decide +kernel) rfl
theorem mn_mmaxl : Cond.initialized "java/lang/Math" ∈ rx_tbl := rx_tw 113 (by decide +kernel) rfl
theorem ok_mmaxl {own : String} {cc : ByteArray} {nL : Nat} {rt : Option FieldType} {δ pc i : Nat} (d : decode cc pc = .ok (.invokestatic i, 3)) (hl : Cond.methodLink own i Lib.MathLoose.max_long.x ∈ rx_tbl) (hδ : 1 ≤ δ) : rx_ok own cc nL rt δ pc (o_mj (fun x y => if y < x then x else y)) (pc + 3) := by
  intro p l e R s m args below meth c D cs ad A H0 ids cells slots Q Cx lv st w k J Kr H locs ls ho hw kk jj rr
  unfold o_mj at ho
  split at ho
  · split at ho
    · rename_i st' hb
      have hfr : δ ≤ R.frames := Cx.2.2.2.2.2.2.1
      have hlo : 64 * δ ≤ R.locals := Cx.2.2.2.2.2.2.2.1
      have h8 := Nat.le_of_ble_eq_true hb
      exact va_mmax_long Cx.1 Cx.2.1 (Cx.2.2.1.trans hw.2.2.2.1.1.symm) Cx.2.2.2.1 (Cx.2.2.2.2.1 _ hl) (Cx.2.2.2.2.1 _ ms_mmaxl) (Cx.2.2.2.2.1 _ mn_mmaxl) (Cx.2.2.2.2.1 _ mc_mmaxl) (by omega) (by rw [rx_cat_sum]; omega) Cx.2.2.2.2.2.2.2.2.2.1 Cx.2.2.2.2.2.2.2.2.2.2.1 d (kk _ _ _ _ _ _ (ho _ rfl) hw)
    · exact ho.elim
  · exact ho.elim
theorem mc_mminl : Cond.code Lib.MathLoose.min_long.x Lib.MathLoose.min_long.code 4 (some .long) ∈ rx_tbl := rx_tw 767 (by decide +kernel) rfl
theorem ms_mminl : Cond.static Lib.MathLoose.min_long.x ∈ rx_tbl := rx_tw 766 (by decide +kernel) rfl
theorem mn_mminl : Cond.initialized "java/lang/Math" ∈ rx_tbl := rx_tw 113 (by decide +kernel) rfl
theorem ok_mminl {own : String} {cc : ByteArray} {nL : Nat} {rt : Option FieldType} {δ pc i : Nat} (d : decode cc pc = .ok (.invokestatic i, 3)) (hl : Cond.methodLink own i Lib.MathLoose.min_long.x ∈ rx_tbl) (hδ : 1 ≤ δ) : rx_ok own cc nL rt δ pc (o_mj (fun x y => if y < x then y else x)) (pc + 3) := by
  intro p l e R s m args below meth c D cs ad A H0 ids cells slots Q Cx lv st w k J Kr H locs ls ho hw kk jj rr
  unfold o_mj at ho
  split at ho
  · split at ho
    · rename_i st' hb
      have hfr : δ ≤ R.frames := Cx.2.2.2.2.2.2.1
      have hlo : 64 * δ ≤ R.locals := Cx.2.2.2.2.2.2.2.1
      have h8 := Nat.le_of_ble_eq_true hb
      exact va_mmin_long Cx.1 Cx.2.1 (Cx.2.2.1.trans hw.2.2.2.1.1.symm) Cx.2.2.2.1 (Cx.2.2.2.2.1 _ hl) (Cx.2.2.2.2.1 _ ms_mminl) (Cx.2.2.2.2.1 _ mn_mminl) (Cx.2.2.2.2.1 _ mc_mminl) (by omega) (by rw [rx_cat_sum]; omega) Cx.2.2.2.2.2.2.2.2.2.1 Cx.2.2.2.2.2.2.2.2.2.2.1 d (kk _ _ _ _ _ _ (ho _ rfl) hw)
    · exact ho.elim
  · exact ho.elim
theorem mc_mabsl : Cond.code Lib.MathLoose.abs_long.x Lib.MathLoose.abs_long.code 2 (some .long) ∈ rx_tbl := rx_tw 661 (by decide +kernel) rfl
theorem ms_mabsl : Cond.static Lib.MathLoose.abs_long.x ∈ rx_tbl := rx_tw 660 (by decide +kernel) rfl
theorem mn_mabsl : Cond.initialized "java/lang/Math" ∈ rx_tbl := rx_tw 113 (by decide +kernel) rfl
theorem ok_mabsl {own : String} {cc : ByteArray} {nL : Nat} {rt : Option FieldType} {δ pc i : Nat} (d : decode cc pc = .ok (.invokestatic i, 3)) (hl : Cond.methodLink own i Lib.MathLoose.abs_long.x ∈ rx_tbl) (hδ : 1 ≤ δ) : rx_ok own cc nL rt δ pc (o_ma (fun x => if 0 < x then x else -x)) (pc + 3) := by
  intro p l e R s m args below meth c D cs ad A H0 ids cells slots Q Cx lv st w k J Kr H locs ls ho hw kk jj rr
  unfold o_ma at ho
  split at ho
  · split at ho
    · rename_i st' hb
      have hfr : δ ≤ R.frames := Cx.2.2.2.2.2.2.1
      have hlo : 64 * δ ≤ R.locals := Cx.2.2.2.2.2.2.2.1
      have h8 := Nat.le_of_ble_eq_true hb
      exact va_mabs_long Cx.1 Cx.2.1 (Cx.2.2.1.trans hw.2.2.2.1.1.symm) Cx.2.2.2.1 (Cx.2.2.2.2.1 _ hl) (Cx.2.2.2.2.1 _ ms_mabsl) (Cx.2.2.2.2.1 _ mn_mabsl) (Cx.2.2.2.2.1 _ mc_mabsl) (by omega) (by rw [rx_cat_sum]; omega) Cx.2.2.2.2.2.2.2.2.2.1 Cx.2.2.2.2.2.2.2.2.2.2.1 d (kk _ _ _ _ _ _ (ho _ rfl) hw)
    · exact ho.elim
  · exact ho.elim
