/-! AN ANSWER in the reference: what the mixed share brings -/
section REPX
variable {vv : Nat → Value} {k l f m odds : Nat} {T : Nat → Nat → Int} {d : Int} {ins : Nat → Nat} {n : Nat} {mk ml mh mm mn mw mg mc mo each all : Int32} {fl ll gl wk gin : Nat → Int32} {V : Nat → Int}
theorem S_Mo_mixedTimes {v1 v2 : Int32} {b j : Nat} {Q : (Nat → Int32) → (Nat → Int32) → (Nat → Int32) → (Nat → Int32) → Prop} (h : MRu k l f m mk ml mm mn) (hG : GameOf k l f m T d ins n) (hw : mw.toInt = (gw k l f : Int)) (hI : IR gin ins (gw k l f)) (hM : GM V T (gw k l f)) (hZ : V 1358 = T (gw k l f) (2 * gw k l f)) (hR : MR fl ll gl V) (h1 : v1.toInt = (b : Int)) (hb : b < gw k l f) (h2 : v2.toInt = (j : Int)) (hj : j < gw k l f) (hN : 0 ≤ V 1353 ∧ V 1353 ≤ 52428775000) (hD : 0 < V 1354 ∧ V 1354 ≤ 33554416000) (hq : ∀ fl' ll' gl' wk' V', MR fl' ll' gl' V' → Off [1340, 1341, 1357, 1361, 1370] V V' → V' 1357 = erng k l f m T ins 0 j * (V 1354 - V 1353) + T (gw k l f) (2 * gw k l f) * payI k l f m b j * V 1353 → Q fl' ll' gl' wk') : P_Mo_mixedTimes vv mk ml mm mn mw fl ll gl wk gin v1 v2 1357 Q := by
  have hr := h.1
  obtain ⟨f1, f2, f3, f4, _⟩ := hG.fct hr
  have hp := pay_bd hr hb hj
  have hej := f4 j hj
  refine T_Mo_mixedTimes (R_Mo_mixedTimes_0 (S_Mo_bringsTimes (p := 0) h hG hw hI hM hR i_0 h2 hj c1340 (by omega) (by omega) (by omega) fun F1 L1 G1 W1 V1 hR1 a1 hO1 => ?_))
  have z1 : V1 1358 = T (gw k l f) (2 * gw k l f) := by rw [hO1 _ (by decide), hZ]
  have n1 : V1 1353 = V 1353 := hO1 _ (by decide)
  have m1 : V1 1354 = V 1354 := hO1 _ (by decide)
  have hO1' : Off [1340, 1341, 1357, 1361, 1370] V V1 := hO1.mono (by decide)
  generalize hER : erng k l f m T ins 0 j = E at *
  generalize hZZ : T (gw k l f) (2 * gw k l f) = z at *
  generalize hNN : V 1353 = N at *
  generalize hDD : V 1354 = D at *
  have hE : -16777208 ≤ E ∧ E ≤ 16777208 := ⟨by omega, by omega⟩
  refine S_Mo_less hR1 c1354 (by omega) c1353 (by omega) c1341 (by omega) (by rw [m1]; exact powB (pow2 (by omega) (by omega)) (by omega)) (by rw [n1]; exact powB (pow2 (by omega) (by omega)) (by omega)) fun F2 L2 G2 hR2 => R_Mo_mixedTimes_22 ?_
  rw [m1, n1] at hR2
  refine S_Mo_times 2 2 hR2 c1340 (by omega) c1341 (by omega) c1340 (by omega) (by rw [up_ne (by decide), a1]; exact pow2 (by omega) (by omega)) (by rw [up_same]; exact pow2 (by omega) (by omega)) (by omega) fun F3 L3 G3 W3 hR3 => S_Mo_payOf h h1 hb h2 hj fun r12 e12 => R_Mo_mixedTimes_45 ?_
  rw [up_same, up_ne (show (1340 : Nat) ≠ 1341 by decide), a1] at hR3
  generalize hPY : payI k l f m b j = Y at *
  have k1 := mulR_bd (a := E) (b := D - N) (A := 16777208) (B := 52428775000) hE ⟨by omega, by omega⟩ (by omega)
  have k2 := mulR_bd (a := z) (b := Y) (A := 2097151) (B := 8) ⟨by omega, f2⟩ hp (by omega)
  have k3 := mulR_bd (a := z * Y) (b := N) (A := 16777208) (B := 52428775000) ⟨by omega, by omega⟩ ⟨by omega, hN.2⟩ (by omega)
  have z3 : up (up V1 1341 (D - N)) 1340 (E * (D - N)) 1358 = z := by rw [up_ne (by decide), up_ne (by decide), z1]
  refine S_Mo_timesSmall 1 1 hR3 c1358 (by omega) (i_wide e12) (by omega) c1341 (by omega) (by rw [z3]; exact pow1 (by omega)) (pow1 (by omega)) (by omega) fun F4 L4 G4 W4 hR4 => ?_
  rw [z3] at hR4
  have n4 : up (up (up (up V1 1341 (D - N)) 1340 (E * (D - N))) 1370 Y) 1341 (z * Y) 1353 = N := by rw [up_ne (by decide), up_ne (by decide), up_ne (by decide), up_ne (by decide), n1]
  refine S_Mo_times 2 2 hR4 c1341 (by omega) c1353 (by omega) c1341 (by omega) (by rw [up_same]; exact pow2 (by omega) (by omega)) (by rw [n4]; exact pow2 (by omega) (by omega)) (by omega) fun F5 L5 G5 W5 hR5 => R_Mo_mixedTimes_65 ?_
  rw [n4, up_same] at hR5
  have a5 : up (up (up (up (up V1 1341 (D - N)) 1340 (E * (D - N))) 1370 Y) 1341 (z * Y)) 1341 (z * Y * N) 1340 = E * (D - N) := by rw [up_ne (by decide), up_ne (by decide), up_ne (by decide), up_same]
  have b5 : up (up (up (up (up V1 1341 (D - N)) 1340 (E * (D - N))) 1370 Y) 1341 (z * Y)) 1341 (z * Y * N) 1341 = z * Y * N := up_same ..
  refine S_Mo_add hR5 c1340 (by omega) c1341 (by omega) c1357 (by omega) (by rw [a5]; exact powB (pow2 (by omega) (by omega)) (by omega)) (by rw [b5]; exact powB (pow2 (by omega) (by omega)) (by omega)) fun F6 L6 G6 hR6 => hq F6 L6 G6 W5 _ hR6 ((((((hO1'.up _ (by decide)).up _ (by decide)).up _ (by decide)).up _ (by decide)).up _ (by decide)).up _ (by decide)) ?_
  rw [up_same, a5, b5]
end REPX
