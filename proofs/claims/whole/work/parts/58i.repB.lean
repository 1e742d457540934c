/-! AN ANSWER in the reference: answer -/
section REPB
variable {vv : Nat → Value} {k l f m odds : Nat} {T : Nat → Nat → Int} {d : Int} {ins : Nat → Nat} {n : Nat} {mk ml mh mm mn mw mg mc mo each all : Int32} {fl ll gl wk gin counts lens rows : Nat → Int32} {tp un mean : Nat → Int64} {V : Nat → Int} {tt : Nat → Nat → Nat} {len : Nat → Nat}
theorem S_Mo_isLoss {v : Int32} {Q : Int32 → Prop} (hr : RuleOK k l f m) (hg : mg.toInt = (bnd k f : Int)) (hq : ∀ r : Int32, (r = 1 ∧ (0 ≤ v.toInt ∧ v.toInt ≤ 1000 * (bnd k f : Int))) ∨ (r = 0 ∧ ¬ (0 ≤ v.toInt ∧ v.toInt ≤ 1000 * (bnd k f : Int))) → Q r) : P_Mo_isLoss vv mg v Q := by
  have hb9 := bnd_9 hr
  have hm : (1000 * mg).toInt = 1000 * (bnd k f : Int) := i_mul (show (1000 : Int32).toInt = 1000 by decide) hg (by omega) (by omega)
  refine T_Mo_isLoss (R_Mo_isLoss_0 (S_Mo_in fun r1 e1 => ?_))
  rw [Int32.toInt_toInt64, Int32.toInt_toInt64, hm, show (0 : Int64).toInt = 0 by decide] at e1
  refine ⟨?_, hq r1 e1⟩
  rcases e1 with q | q
  · rw [q.1]; exact rb1
  · rw [q.1]; exact rb0
def AML : List Nat := ANL ++ TLL
theorem AML_hi : ∀ s, s ∈ AML → 1326 ≤ s := by decide
theorem S_Mo_answer {v1 v2 : Int32} {Q : Int32 → Int32 → Int32 → (Nat → Int32) → (Nat → Int32) → (Nat → Int32) → (Nat → Int32) → (Nat → Int64) → (Nat → Int64) → (Nat → Int32) → (Nat → Int64) → Prop} (hr : RuleOK k l f m) (hG : GameOf k l f m T d ins n) (hD : MGd k l f m T d ins n mk ml mh mm mn mw mg mc gin V) (hR : MR fl ll gl V) (hM : MenR l f rows lens tt len) (hx : mo.toInt = (odds : Int)) (ho : 1 ≤ odds ∧ odds ≤ 100000) (hqN : ∀ r : Int32, anN k l f tt len odds v1.toInt v2.toInt r.toInt → (okA k f v1.toInt v2.toInt → anZ k l f m T d ins tt len odds v1.toInt v2.toInt = none) → ∀ each' all' fl' ll' gl' wk' tp' un' counts' mean' V', MR fl' ll' gl' V' → Off AML V V' → Q r each' all' fl' ll' gl' wk' tp' un' counts' mean') (hq : okA k f v1.toInt v2.toInt → ∀ K b t lw, anZ k l f m T d ins tt len odds v1.toInt v2.toInt = some (K, b, t, lw) → ∀ (r : Int32) each' all' fl' ll' gl' wk' tp' un' counts' mean' V', r.toInt = (b : Int) → MR fl' ll' gl' V' → Off (1344 :: 1345 :: AML) V V' → FM V' t (1000 * lw.toNat) → Q r each' all' fl' ll' gl' wk' tp' un' counts' mean') : P_Mo_answer vv mk ml mm mn mw mg mo each all fl ll gl wk tp un gin lens rows counts mean v1 v2 Q := by
  have hb9 := bnd_9 hr
  obtain ⟨g1, g2, g3, g4, g5, g6, g7, g8, g9⟩ := hD
  have bad : ¬ okA k f v1.toInt v2.toInt → E_Mo_answer_15 vv mk ml mm mn mw mg mo each all fl ll gl wk tp un gin lens rows counts mean Q := fun z => R_Mo_answer_15 (hqN _ (Or.inl ⟨by decide, z⟩) (fun o => absurd o z) _ _ _ _ _ _ _ _ _ _ V hR (Off.refl _ V))
  refine T_Mo_answer (R_Mo_answer_0 (S_Mo_isMan fun r1 e1 => ⟨fun z => bad fun q => (bz e1).mp z q.1, fun z => S_Mo_isLoss hr g4 fun r2 e2 => R_Mo_answer_12 ⟨fun y => R_Mo_answer_18 ?_, fun y => bad fun q => (bz e2).mp y q.2⟩⟩))
  have ok : okA k f v1.toInt v2.toInt := ⟨Classical.not_not.mp (mt (bz e1).mpr z), Classical.not_not.mp (mt (bz e2).mpr y)⟩
  have ok1 := ok.1
  have ok2 := ok.2
  have hlen := (hM v1.toInt.toNat (by omega)).2.1
  refine S_Mo_findForeseen (man := v1.toInt.toNat) g1 hM hR (by omega) (by omega) hx ho fun r3 F1 L1 G1 W1 T1 U1 C1 V1 e3 hC hR1 hO1 => ?_
  have hO1' : Off AML V V1 := hO1.mono (by decide)
  cases hf : frs (gn l f) (tt v1.toInt.toNat) (len v1.toInt.toNat) odds 4 with
  | none =>
    rw [hf] at e3
    have e3' : r3.toInt = -1 := e3
    exact ⟨fun q => absurd q (by rw [i_le, z_0, e3']; omega), fun _ => hqN _ (Or.inr (Or.inl ⟨by decide, ok, hf⟩)) (fun _ => by unfold anZ; rw [hf]) _ _ _ _ _ _ _ _ _ _ V1 hR1 hO1'⟩
  | some K =>
    rw [hf] at e3
    have e3' : r3.toInt = (K : Int) := e3
    have hcf := cf_bd (l := l) (f := f) (t := tt v1.toInt.toNat) (K := K) (c := cxt (gn l f) (tt v1.toInt.toNat) K (len v1.toInt.toNat)) hlen
    have hw25 := gw_le hr
    refine ⟨fun _ => R_Mo_answer_29 (S_Mo_findAnswer (cf := cfA l f tt len v1.toInt K) g1 hG g3 g4 g6 (g7.off hO1' hw25.2 AML_hi) (by rw [hO1' _ (by decide), g8]) (by rw [hO1' _ (by decide), g9]) hR1 (hC K hf) hcf rfl ⟨ok2.1, by omega⟩ fun r11 each' all' F2 L2 G2 W2 T2 U2 mean' V2 hal hR2 hO2 hmm hme hS => ?_), fun q => absurd (by rw [i_le, z_0, e3']; omega) q⟩
    have hO2' : Off AML V V2 := hO1'.trans (hO2.mono (by decide))
    cases hb : bsI (gaR k l f m T ins (cfA l f tt len v1.toInt K)) (stR k l f m T d ins v2.toInt) (gw k l f) with
    | none =>
      rw [hb] at hS
      have hS' : r11.toInt = -1 := hS
      refine ⟨fun _ => R_Mo_answer_49 (hqN _ (Or.inr (Or.inr ⟨hS', ok, K, hf⟩)) (fun _ => ?_) _ _ _ _ _ _ _ _ _ _ V2 hR2 hO2'), fun q => absurd (by rw [i_lt, z_0, hS']; omega) q⟩
      unfold anZ
      rw [hf]
      dsimp only
      rw [hb]
    | some o =>
      obtain ⟨b, t, lw⟩ := o
      rw [hb] at hS
      obtain ⟨s1, s2, s3, s4, s5, s6, s7, s8, s9⟩ := hS
      have han : anZ k l f m T d ins tt len odds v1.toInt v2.toInt = some (K, b, t, lw) := by
        unfold anZ
        rw [hf]
        dsimp only
        rw [hb]
      refine ⟨fun q => absurd q (by rw [i_lt, z_0, s1]; omega), fun _ => S_Mo_tell hR2 c1353 (by omega) c1354 (by omega) (by omega) s5.1 (powB (pow2 (by omega) (by omega)) (by omega)) (powB (pow2 (by omega) (by omega)) (by omega)) fun F3 L3 G3 W3 T3 U3 V3 hR3 hO3 n3 d3 => R_Mo_answer_49 (hq ok K b t lw han r11 _ _ _ _ _ _ _ _ _ _ V3 s1 hR3 ((hO2'.mono (fun s q => List.mem_cons_of_mem _ (List.mem_cons_of_mem _ q))).trans (hO3.mono (by decide))) ?_)⟩
      have hDn : V2 1354 = ((V2 1354).toNat : Int) := by omega
      rw [hDn] at n3 d3
      have hF : FM V3 (V2 1353) (V2 1354).toNat := FM.told rfl (by omega) n3 d3
      refine hF.congr (by omega) ?_
      rw [show ((1000 * lw.toNat : Nat) : Int) = 1000 * lw by omega, ← hDn]
      exact s6
end REPB
