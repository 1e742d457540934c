/-! count, both sides -/
def cnZ (a0 a1 a2 a3 a4 a5 a6 a7 a8 a9 a10 a11 v : Int) : Int := if v = 0 then a0 else if v = 1 then a1 else if v = 2 then a2 else if v = 3 then a3 else if v = 4 then a4 else if v = 5 then a5 else if v = 6 then a6 else if v = 7 then a7 else if v = 8 then a8 else if v = 9 then a9 else if v = 10 then a10 else if v = 11 then a11 else -2
section CNT
variable {vv vv' vv2 : Nat → Value} {k l f m : Nat} {rk rl rf rm rtc rwc mn mw xo sg sr bz' bk lg lo v1 : Int32} {rth rca : Nat → Int32} {vvr : Nat → Value}
theorem S_F_count {Q : Int32 → Prop} (h : CR k l f m rk rl rf rm rtc rwc rth rca) (hq : ∀ r : Int32, r.toInt = cnZ rk.toInt rl.toInt rf.toInt (gw k l f : Int) sr.toInt bz'.toInt lg.toInt lo.toInt xo.toInt bk.toInt sg.toInt rm.toInt v1.toInt → Q r) : P_F_count vvr vv vv' vv2 xo rk rl rf rm rwc sg sr bz' bk lg lo v1 Q := by
  unfold cnZ at hq
  refine T_F_count (R_F_count_0 ?_)
  refine ⟨fun e => R_F_count_64 ?_, fun n0 => ?_⟩
  · rw [if_pos (show v1.toInt = 0 by rw [e]; decide)] at hq
    exact hq _ rfl
  refine ⟨fun e => R_F_count_72 ?_, fun n1 => ?_⟩
  · rw [if_neg (show ¬ v1.toInt = 0 from fun q => n0 (by rw [i_eq, q]; decide)), if_pos (show v1.toInt = 1 by rw [e]; decide)] at hq
    exact hq _ rfl
  refine ⟨fun e => R_F_count_80 ?_, fun n2 => ?_⟩
  · rw [if_neg (show ¬ v1.toInt = 0 from fun q => n0 (by rw [i_eq, q]; decide)), if_neg (show ¬ v1.toInt = 1 from fun q => n1 (by rw [i_eq, q]; decide)), if_pos (show v1.toInt = 2 by rw [e]; decide)] at hq
    exact hq _ rfl
  refine ⟨fun e => R_F_count_88 ?_, fun n3 => ?_⟩
  · rw [if_neg (show ¬ v1.toInt = 0 from fun q => n0 (by rw [i_eq, q]; decide)), if_neg (show ¬ v1.toInt = 1 from fun q => n1 (by rw [i_eq, q]; decide)), if_neg (show ¬ v1.toInt = 2 from fun q => n2 (by rw [i_eq, q]; decide)), if_pos (show v1.toInt = 3 by rw [e]; decide)] at hq
    exact hq _ h.wc
  refine ⟨fun e => R_F_count_96 ?_, fun n4 => ?_⟩
  · rw [if_neg (show ¬ v1.toInt = 0 from fun q => n0 (by rw [i_eq, q]; decide)), if_neg (show ¬ v1.toInt = 1 from fun q => n1 (by rw [i_eq, q]; decide)), if_neg (show ¬ v1.toInt = 2 from fun q => n2 (by rw [i_eq, q]; decide)), if_neg (show ¬ v1.toInt = 3 from fun q => n3 (by rw [i_eq, q]; decide)), if_pos (show v1.toInt = 4 by rw [e]; decide)] at hq
    exact hq _ rfl
  refine ⟨fun e => R_F_count_104 ?_, fun n5 => ?_⟩
  · rw [if_neg (show ¬ v1.toInt = 0 from fun q => n0 (by rw [i_eq, q]; decide)), if_neg (show ¬ v1.toInt = 1 from fun q => n1 (by rw [i_eq, q]; decide)), if_neg (show ¬ v1.toInt = 2 from fun q => n2 (by rw [i_eq, q]; decide)), if_neg (show ¬ v1.toInt = 3 from fun q => n3 (by rw [i_eq, q]; decide)), if_neg (show ¬ v1.toInt = 4 from fun q => n4 (by rw [i_eq, q]; decide)), if_pos (show v1.toInt = 5 by rw [e]; decide)] at hq
    exact hq _ rfl
  refine ⟨fun e => R_F_count_112 ?_, fun n6 => ?_⟩
  · rw [if_neg (show ¬ v1.toInt = 0 from fun q => n0 (by rw [i_eq, q]; decide)), if_neg (show ¬ v1.toInt = 1 from fun q => n1 (by rw [i_eq, q]; decide)), if_neg (show ¬ v1.toInt = 2 from fun q => n2 (by rw [i_eq, q]; decide)), if_neg (show ¬ v1.toInt = 3 from fun q => n3 (by rw [i_eq, q]; decide)), if_neg (show ¬ v1.toInt = 4 from fun q => n4 (by rw [i_eq, q]; decide)), if_neg (show ¬ v1.toInt = 5 from fun q => n5 (by rw [i_eq, q]; decide)), if_pos (show v1.toInt = 6 by rw [e]; decide)] at hq
    exact hq _ rfl
  refine ⟨fun e => R_F_count_120 ?_, fun n7 => ?_⟩
  · rw [if_neg (show ¬ v1.toInt = 0 from fun q => n0 (by rw [i_eq, q]; decide)), if_neg (show ¬ v1.toInt = 1 from fun q => n1 (by rw [i_eq, q]; decide)), if_neg (show ¬ v1.toInt = 2 from fun q => n2 (by rw [i_eq, q]; decide)), if_neg (show ¬ v1.toInt = 3 from fun q => n3 (by rw [i_eq, q]; decide)), if_neg (show ¬ v1.toInt = 4 from fun q => n4 (by rw [i_eq, q]; decide)), if_neg (show ¬ v1.toInt = 5 from fun q => n5 (by rw [i_eq, q]; decide)), if_neg (show ¬ v1.toInt = 6 from fun q => n6 (by rw [i_eq, q]; decide)), if_pos (show v1.toInt = 7 by rw [e]; decide)] at hq
    exact hq _ rfl
  refine ⟨fun e => R_F_count_128 ?_, fun n8 => ?_⟩
  · rw [if_neg (show ¬ v1.toInt = 0 from fun q => n0 (by rw [i_eq, q]; decide)), if_neg (show ¬ v1.toInt = 1 from fun q => n1 (by rw [i_eq, q]; decide)), if_neg (show ¬ v1.toInt = 2 from fun q => n2 (by rw [i_eq, q]; decide)), if_neg (show ¬ v1.toInt = 3 from fun q => n3 (by rw [i_eq, q]; decide)), if_neg (show ¬ v1.toInt = 4 from fun q => n4 (by rw [i_eq, q]; decide)), if_neg (show ¬ v1.toInt = 5 from fun q => n5 (by rw [i_eq, q]; decide)), if_neg (show ¬ v1.toInt = 6 from fun q => n6 (by rw [i_eq, q]; decide)), if_neg (show ¬ v1.toInt = 7 from fun q => n7 (by rw [i_eq, q]; decide)), if_pos (show v1.toInt = 8 by rw [e]; decide)] at hq
    exact hq _ rfl
  refine ⟨fun e => R_F_count_133 ?_, fun n9 => ?_⟩
  · rw [if_neg (show ¬ v1.toInt = 0 from fun q => n0 (by rw [i_eq, q]; decide)), if_neg (show ¬ v1.toInt = 1 from fun q => n1 (by rw [i_eq, q]; decide)), if_neg (show ¬ v1.toInt = 2 from fun q => n2 (by rw [i_eq, q]; decide)), if_neg (show ¬ v1.toInt = 3 from fun q => n3 (by rw [i_eq, q]; decide)), if_neg (show ¬ v1.toInt = 4 from fun q => n4 (by rw [i_eq, q]; decide)), if_neg (show ¬ v1.toInt = 5 from fun q => n5 (by rw [i_eq, q]; decide)), if_neg (show ¬ v1.toInt = 6 from fun q => n6 (by rw [i_eq, q]; decide)), if_neg (show ¬ v1.toInt = 7 from fun q => n7 (by rw [i_eq, q]; decide)), if_neg (show ¬ v1.toInt = 8 from fun q => n8 (by rw [i_eq, q]; decide)), if_pos (show v1.toInt = 9 by rw [e]; decide)] at hq
    exact hq _ rfl
  refine ⟨fun e => R_F_count_141 ?_, fun n10 => ?_⟩
  · rw [if_neg (show ¬ v1.toInt = 0 from fun q => n0 (by rw [i_eq, q]; decide)), if_neg (show ¬ v1.toInt = 1 from fun q => n1 (by rw [i_eq, q]; decide)), if_neg (show ¬ v1.toInt = 2 from fun q => n2 (by rw [i_eq, q]; decide)), if_neg (show ¬ v1.toInt = 3 from fun q => n3 (by rw [i_eq, q]; decide)), if_neg (show ¬ v1.toInt = 4 from fun q => n4 (by rw [i_eq, q]; decide)), if_neg (show ¬ v1.toInt = 5 from fun q => n5 (by rw [i_eq, q]; decide)), if_neg (show ¬ v1.toInt = 6 from fun q => n6 (by rw [i_eq, q]; decide)), if_neg (show ¬ v1.toInt = 7 from fun q => n7 (by rw [i_eq, q]; decide)), if_neg (show ¬ v1.toInt = 8 from fun q => n8 (by rw [i_eq, q]; decide)), if_neg (show ¬ v1.toInt = 9 from fun q => n9 (by rw [i_eq, q]; decide)), if_pos (show v1.toInt = 10 by rw [e]; decide)] at hq
    exact hq _ rfl
  refine ⟨fun e => R_F_count_149 ?_, fun n11 => ?_⟩
  · rw [if_neg (show ¬ v1.toInt = 0 from fun q => n0 (by rw [i_eq, q]; decide)), if_neg (show ¬ v1.toInt = 1 from fun q => n1 (by rw [i_eq, q]; decide)), if_neg (show ¬ v1.toInt = 2 from fun q => n2 (by rw [i_eq, q]; decide)), if_neg (show ¬ v1.toInt = 3 from fun q => n3 (by rw [i_eq, q]; decide)), if_neg (show ¬ v1.toInt = 4 from fun q => n4 (by rw [i_eq, q]; decide)), if_neg (show ¬ v1.toInt = 5 from fun q => n5 (by rw [i_eq, q]; decide)), if_neg (show ¬ v1.toInt = 6 from fun q => n6 (by rw [i_eq, q]; decide)), if_neg (show ¬ v1.toInt = 7 from fun q => n7 (by rw [i_eq, q]; decide)), if_neg (show ¬ v1.toInt = 8 from fun q => n8 (by rw [i_eq, q]; decide)), if_neg (show ¬ v1.toInt = 9 from fun q => n9 (by rw [i_eq, q]; decide)), if_neg (show ¬ v1.toInt = 10 from fun q => n10 (by rw [i_eq, q]; decide)), if_pos (show v1.toInt = 11 by rw [e]; decide)] at hq
    exact hq _ rfl
  rw [if_neg (show ¬ v1.toInt = 0 from fun q => n0 (by rw [i_eq, q]; decide)), if_neg (show ¬ v1.toInt = 1 from fun q => n1 (by rw [i_eq, q]; decide)), if_neg (show ¬ v1.toInt = 2 from fun q => n2 (by rw [i_eq, q]; decide)), if_neg (show ¬ v1.toInt = 3 from fun q => n3 (by rw [i_eq, q]; decide)), if_neg (show ¬ v1.toInt = 4 from fun q => n4 (by rw [i_eq, q]; decide)), if_neg (show ¬ v1.toInt = 5 from fun q => n5 (by rw [i_eq, q]; decide)), if_neg (show ¬ v1.toInt = 6 from fun q => n6 (by rw [i_eq, q]; decide)), if_neg (show ¬ v1.toInt = 7 from fun q => n7 (by rw [i_eq, q]; decide)), if_neg (show ¬ v1.toInt = 8 from fun q => n8 (by rw [i_eq, q]; decide)), if_neg (show ¬ v1.toInt = 9 from fun q => n9 (by rw [i_eq, q]; decide)), if_neg (show ¬ v1.toInt = 10 from fun q => n10 (by rw [i_eq, q]; decide)), if_neg (show ¬ v1.toInt = 11 from fun q => n11 (by rw [i_eq, q]; decide))] at hq
  exact R_F_count_157 (hq _ (by decide))
theorem S_Mo_count {Q : Int32 → Prop} (hq : ∀ r : Int32, r.toInt = cnZ rk.toInt rl.toInt rf.toInt mw.toInt sr.toInt bz'.toInt lg.toInt lo.toInt xo.toInt bk.toInt sg.toInt rm.toInt v1.toInt → Q r) : P_Mo_count vv rk rl rf rm mw xo sg sr bz' bk lg lo v1 Q := by
  unfold cnZ at hq
  refine T_Mo_count (R_Mo_count_0 ?_)
  refine ⟨fun e => R_Mo_count_64 ?_, fun n0 => ?_⟩
  · rw [if_pos (show v1.toInt = 0 by rw [e]; decide)] at hq
    exact hq _ rfl
  refine ⟨fun e => R_Mo_count_69 ?_, fun n1 => ?_⟩
  · rw [if_neg (show ¬ v1.toInt = 0 from fun q => n0 (by rw [i_eq, q]; decide)), if_pos (show v1.toInt = 1 by rw [e]; decide)] at hq
    exact hq _ rfl
  refine ⟨fun e => R_Mo_count_74 ?_, fun n2 => ?_⟩
  · rw [if_neg (show ¬ v1.toInt = 0 from fun q => n0 (by rw [i_eq, q]; decide)), if_neg (show ¬ v1.toInt = 1 from fun q => n1 (by rw [i_eq, q]; decide)), if_pos (show v1.toInt = 2 by rw [e]; decide)] at hq
    exact hq _ rfl
  refine ⟨fun e => R_Mo_count_79 ?_, fun n3 => ?_⟩
  · rw [if_neg (show ¬ v1.toInt = 0 from fun q => n0 (by rw [i_eq, q]; decide)), if_neg (show ¬ v1.toInt = 1 from fun q => n1 (by rw [i_eq, q]; decide)), if_neg (show ¬ v1.toInt = 2 from fun q => n2 (by rw [i_eq, q]; decide)), if_pos (show v1.toInt = 3 by rw [e]; decide)] at hq
    exact hq _ rfl
  refine ⟨fun e => R_Mo_count_84 ?_, fun n4 => ?_⟩
  · rw [if_neg (show ¬ v1.toInt = 0 from fun q => n0 (by rw [i_eq, q]; decide)), if_neg (show ¬ v1.toInt = 1 from fun q => n1 (by rw [i_eq, q]; decide)), if_neg (show ¬ v1.toInt = 2 from fun q => n2 (by rw [i_eq, q]; decide)), if_neg (show ¬ v1.toInt = 3 from fun q => n3 (by rw [i_eq, q]; decide)), if_pos (show v1.toInt = 4 by rw [e]; decide)] at hq
    exact hq _ rfl
  refine ⟨fun e => R_Mo_count_89 ?_, fun n5 => ?_⟩
  · rw [if_neg (show ¬ v1.toInt = 0 from fun q => n0 (by rw [i_eq, q]; decide)), if_neg (show ¬ v1.toInt = 1 from fun q => n1 (by rw [i_eq, q]; decide)), if_neg (show ¬ v1.toInt = 2 from fun q => n2 (by rw [i_eq, q]; decide)), if_neg (show ¬ v1.toInt = 3 from fun q => n3 (by rw [i_eq, q]; decide)), if_neg (show ¬ v1.toInt = 4 from fun q => n4 (by rw [i_eq, q]; decide)), if_pos (show v1.toInt = 5 by rw [e]; decide)] at hq
    exact hq _ rfl
  refine ⟨fun e => R_Mo_count_94 ?_, fun n6 => ?_⟩
  · rw [if_neg (show ¬ v1.toInt = 0 from fun q => n0 (by rw [i_eq, q]; decide)), if_neg (show ¬ v1.toInt = 1 from fun q => n1 (by rw [i_eq, q]; decide)), if_neg (show ¬ v1.toInt = 2 from fun q => n2 (by rw [i_eq, q]; decide)), if_neg (show ¬ v1.toInt = 3 from fun q => n3 (by rw [i_eq, q]; decide)), if_neg (show ¬ v1.toInt = 4 from fun q => n4 (by rw [i_eq, q]; decide)), if_neg (show ¬ v1.toInt = 5 from fun q => n5 (by rw [i_eq, q]; decide)), if_pos (show v1.toInt = 6 by rw [e]; decide)] at hq
    exact hq _ rfl
  refine ⟨fun e => R_Mo_count_99 ?_, fun n7 => ?_⟩
  · rw [if_neg (show ¬ v1.toInt = 0 from fun q => n0 (by rw [i_eq, q]; decide)), if_neg (show ¬ v1.toInt = 1 from fun q => n1 (by rw [i_eq, q]; decide)), if_neg (show ¬ v1.toInt = 2 from fun q => n2 (by rw [i_eq, q]; decide)), if_neg (show ¬ v1.toInt = 3 from fun q => n3 (by rw [i_eq, q]; decide)), if_neg (show ¬ v1.toInt = 4 from fun q => n4 (by rw [i_eq, q]; decide)), if_neg (show ¬ v1.toInt = 5 from fun q => n5 (by rw [i_eq, q]; decide)), if_neg (show ¬ v1.toInt = 6 from fun q => n6 (by rw [i_eq, q]; decide)), if_pos (show v1.toInt = 7 by rw [e]; decide)] at hq
    exact hq _ rfl
  refine ⟨fun e => R_Mo_count_104 ?_, fun n8 => ?_⟩
  · rw [if_neg (show ¬ v1.toInt = 0 from fun q => n0 (by rw [i_eq, q]; decide)), if_neg (show ¬ v1.toInt = 1 from fun q => n1 (by rw [i_eq, q]; decide)), if_neg (show ¬ v1.toInt = 2 from fun q => n2 (by rw [i_eq, q]; decide)), if_neg (show ¬ v1.toInt = 3 from fun q => n3 (by rw [i_eq, q]; decide)), if_neg (show ¬ v1.toInt = 4 from fun q => n4 (by rw [i_eq, q]; decide)), if_neg (show ¬ v1.toInt = 5 from fun q => n5 (by rw [i_eq, q]; decide)), if_neg (show ¬ v1.toInt = 6 from fun q => n6 (by rw [i_eq, q]; decide)), if_neg (show ¬ v1.toInt = 7 from fun q => n7 (by rw [i_eq, q]; decide)), if_pos (show v1.toInt = 8 by rw [e]; decide)] at hq
    exact hq _ rfl
  refine ⟨fun e => R_Mo_count_109 ?_, fun n9 => ?_⟩
  · rw [if_neg (show ¬ v1.toInt = 0 from fun q => n0 (by rw [i_eq, q]; decide)), if_neg (show ¬ v1.toInt = 1 from fun q => n1 (by rw [i_eq, q]; decide)), if_neg (show ¬ v1.toInt = 2 from fun q => n2 (by rw [i_eq, q]; decide)), if_neg (show ¬ v1.toInt = 3 from fun q => n3 (by rw [i_eq, q]; decide)), if_neg (show ¬ v1.toInt = 4 from fun q => n4 (by rw [i_eq, q]; decide)), if_neg (show ¬ v1.toInt = 5 from fun q => n5 (by rw [i_eq, q]; decide)), if_neg (show ¬ v1.toInt = 6 from fun q => n6 (by rw [i_eq, q]; decide)), if_neg (show ¬ v1.toInt = 7 from fun q => n7 (by rw [i_eq, q]; decide)), if_neg (show ¬ v1.toInt = 8 from fun q => n8 (by rw [i_eq, q]; decide)), if_pos (show v1.toInt = 9 by rw [e]; decide)] at hq
    exact hq _ rfl
  refine ⟨fun e => R_Mo_count_114 ?_, fun n10 => ?_⟩
  · rw [if_neg (show ¬ v1.toInt = 0 from fun q => n0 (by rw [i_eq, q]; decide)), if_neg (show ¬ v1.toInt = 1 from fun q => n1 (by rw [i_eq, q]; decide)), if_neg (show ¬ v1.toInt = 2 from fun q => n2 (by rw [i_eq, q]; decide)), if_neg (show ¬ v1.toInt = 3 from fun q => n3 (by rw [i_eq, q]; decide)), if_neg (show ¬ v1.toInt = 4 from fun q => n4 (by rw [i_eq, q]; decide)), if_neg (show ¬ v1.toInt = 5 from fun q => n5 (by rw [i_eq, q]; decide)), if_neg (show ¬ v1.toInt = 6 from fun q => n6 (by rw [i_eq, q]; decide)), if_neg (show ¬ v1.toInt = 7 from fun q => n7 (by rw [i_eq, q]; decide)), if_neg (show ¬ v1.toInt = 8 from fun q => n8 (by rw [i_eq, q]; decide)), if_neg (show ¬ v1.toInt = 9 from fun q => n9 (by rw [i_eq, q]; decide)), if_pos (show v1.toInt = 10 by rw [e]; decide)] at hq
    exact hq _ rfl
  refine ⟨fun e => R_Mo_count_119 ?_, fun n11 => ?_⟩
  · rw [if_neg (show ¬ v1.toInt = 0 from fun q => n0 (by rw [i_eq, q]; decide)), if_neg (show ¬ v1.toInt = 1 from fun q => n1 (by rw [i_eq, q]; decide)), if_neg (show ¬ v1.toInt = 2 from fun q => n2 (by rw [i_eq, q]; decide)), if_neg (show ¬ v1.toInt = 3 from fun q => n3 (by rw [i_eq, q]; decide)), if_neg (show ¬ v1.toInt = 4 from fun q => n4 (by rw [i_eq, q]; decide)), if_neg (show ¬ v1.toInt = 5 from fun q => n5 (by rw [i_eq, q]; decide)), if_neg (show ¬ v1.toInt = 6 from fun q => n6 (by rw [i_eq, q]; decide)), if_neg (show ¬ v1.toInt = 7 from fun q => n7 (by rw [i_eq, q]; decide)), if_neg (show ¬ v1.toInt = 8 from fun q => n8 (by rw [i_eq, q]; decide)), if_neg (show ¬ v1.toInt = 9 from fun q => n9 (by rw [i_eq, q]; decide)), if_neg (show ¬ v1.toInt = 10 from fun q => n10 (by rw [i_eq, q]; decide)), if_pos (show v1.toInt = 11 by rw [e]; decide)] at hq
    exact hq _ rfl
  rw [if_neg (show ¬ v1.toInt = 0 from fun q => n0 (by rw [i_eq, q]; decide)), if_neg (show ¬ v1.toInt = 1 from fun q => n1 (by rw [i_eq, q]; decide)), if_neg (show ¬ v1.toInt = 2 from fun q => n2 (by rw [i_eq, q]; decide)), if_neg (show ¬ v1.toInt = 3 from fun q => n3 (by rw [i_eq, q]; decide)), if_neg (show ¬ v1.toInt = 4 from fun q => n4 (by rw [i_eq, q]; decide)), if_neg (show ¬ v1.toInt = 5 from fun q => n5 (by rw [i_eq, q]; decide)), if_neg (show ¬ v1.toInt = 6 from fun q => n6 (by rw [i_eq, q]; decide)), if_neg (show ¬ v1.toInt = 7 from fun q => n7 (by rw [i_eq, q]; decide)), if_neg (show ¬ v1.toInt = 8 from fun q => n8 (by rw [i_eq, q]; decide)), if_neg (show ¬ v1.toInt = 9 from fun q => n9 (by rw [i_eq, q]; decide)), if_neg (show ¬ v1.toInt = 10 from fun q => n10 (by rw [i_eq, q]; decide)), if_neg (show ¬ v1.toInt = 11 from fun q => n11 (by rw [i_eq, q]; decide))] at hq
  exact R_Mo_count_124 (hq _ (by decide))
end CNT
