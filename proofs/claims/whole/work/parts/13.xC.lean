def f_Lw_feed (a0 : Nat) (x1 : Int32) (x2 : Int32) (x3 : Int32) (x4 : Int32) (x5 : Int32) (a6 : Nat) (h : hp_M) : Option (Int32 × hp_M) := (onO h a0 9 (f_SS_feed a0 x1 x2 x3 x4 x5 h)).bind fun r1 => if r1.1 = 1 then (some (1, r1.2.2)) else if ¬ r1.1 = 0 then none else (paL r1.2.2 a6 0 (Int32.toInt64 r1.2.1)).bind fun h3 => some (0, h3)
set_option maxRecDepth 100000 in
set_option maxHeartbeats 4000000 in
theorem c_Lw_feed (l : Launch) (w : hp_W) (hst : l.stackTraces = false) (a0 : Nat) (x1 : Int32) (x2 : Int32) (x3 : Int32) (x4 : Int32) (x5 : Int32) (a6 : Nat) (h : hp_M) (out : Int32 × hp_M) (hX : f_Lw_feed a0 x1 x2 x3 x4 x5 a6 h = some out) : CTW l w yL_feed cL_feed 8 (some .int) [(0, 16, 19, 13)] ({ frames := 7, cells := 1, slots := 6, locals := 225 }) [.ref a0, .int x1, .int x2, .int x3, .int x4, .int x5, .ref a6] h (some (.int out.1)) out.2 := by
  unfold f_Lw_feed at hX
  refine ctw_of (by decide) (Nat.le_of_ble_eq_true rfl) hX ?_
  intro p e s m args below meth c Q C hr hlk htab hQ
  refine j_aload C dL_feed_0 rfl ?_
  refine j_iconst C (v := 0) dL_feed_2 (by decide) ?_
  refine j_aload_n C dL_feed_3 (i := 0) rfl rfl ?_
  refine j_iload_n C dL_feed_4 (i := 1) rfl rfl ?_
  refine j_iload_n C dL_feed_5 (i := 2) rfl rfl ?_
  refine j_iload_n C dL_feed_6 (i := 3) rfl rfl ?_
  refine j_iload C dL_feed_7 rfl ?_
  refine j_iload C dL_feed_9 rfl ?_
  refine j_callVX C (As := [.int _, .int _, .int _, .int _, .int _]) (rest := [_, _]) k_L_7 ⟨Nat.le_of_ble_eq_true rfl, Nat.le_of_ble_eq_true rfl⟩ rfl (Nat.le_of_ble_eq_true rfl) ⟨Nat.le_of_ble_eq_true rfl, Nat.le_of_ble_eq_true rfl⟩ rfl dL_feed_11 (fun r0 q0 => c_SS_feed l w hst _ _ _ _ _ _ _ _ q0) (fun r1 er1 hr0 => ?_) (fun r1 er1 hr0 nr1 => ?_)
  · refine jx_ite (fun q2 => ?_) (fun q2 => ?_)
    · refine jx_E "java/lang/IllegalStateException" (by rw [q2]; rfl) ?_
      refine jx_catch C [] ⟨0, 16, 19, 13⟩ [] htab (fun z hz => nomatch hz) (by decide) (by decide) tl_13 tc_1 (fun qx => ?_)
      refine j_astore C [(7, _), (0, _), (1, _), (2, _), (3, _), (4, _), (5, _), (6, _)] dL_feed_19 (by decide) rfl ?_
      refine j_iconst C (v := 1) dL_feed_21 (by decide) ?_
      exact e_iretM C hQ hr rfl hlk dL_feed_22 (Nat.le_of_ble_eq_true rfl) (Nat.le_of_ble_eq_true rfl)
    · refine jx_ite (fun _ => jx_none) (fun z => absurd hr0 z)
  refine j_iteF (by omega) ?_
  refine j_iteF (by omega) ?_
  refine j_i2l C dL_feed_14 ?_
  refine j_lastore C dL_feed_15 (fun h3 eh3 => ?_)
  refine j_goto C (tgt := 23) dL_feed_16 (by decide) ?_
  refine j_iconst C (v := 0) dL_feed_23 (by decide) ?_
  exact e_iretM C hQ hr rfl hlk dL_feed_24 (Nat.le_of_ble_eq_true rfl) (Nat.le_of_ble_eq_true rfl)
def f_Lw_trim (a0 : Nat) (x1 : Int32) (a2 : Nat) (h : hp_M) : Option (Int32 × hp_M) := (onO h a0 9 (f_SS_trim a0 x1 h)).bind fun r1 => if r1.1 = 2 then (some (1, r1.2.2)) else if ¬ r1.1 = 0 then none else (paL r1.2.2 a2 0 (Int32.toInt64 r1.2.1)).bind fun h3 => some (0, h3)
set_option maxRecDepth 100000 in
set_option maxHeartbeats 4000000 in
theorem c_Lw_trim (l : Launch) (w : hp_W) (hst : l.stackTraces = false) (a0 : Nat) (x1 : Int32) (a2 : Nat) (h : hp_M) (out : Int32 × hp_M) (hX : f_Lw_trim a0 x1 a2 h = some out) : CTW l w yL_trim cL_trim 4 (some .int) [(0, 9, 12, 19)] ({ frames := 7, cells := 1, slots := 6, locals := 221 }) [.ref a0, .int x1, .ref a2] h (some (.int out.1)) out.2 := by
  unfold f_Lw_trim at hX
  refine ctw_of (by decide) (Nat.le_of_ble_eq_true rfl) hX ?_
  intro p e s m args below meth c Q C hr hlk htab hQ
  refine j_aload_n C dL_trim_0 (i := 2) rfl rfl ?_
  refine j_iconst C (v := 0) dL_trim_1 (by decide) ?_
  refine j_aload_n C dL_trim_2 (i := 0) rfl rfl ?_
  refine j_iload_n C dL_trim_3 (i := 1) rfl rfl ?_
  refine j_callVX C (As := [.int _]) (rest := [_, _]) k_L_15 ⟨Nat.le_of_ble_eq_true rfl, Nat.le_of_ble_eq_true rfl⟩ rfl (Nat.le_of_ble_eq_true rfl) ⟨Nat.le_of_ble_eq_true rfl, Nat.le_of_ble_eq_true rfl⟩ rfl dL_trim_4 (fun r0 q0 => c_SS_trim l w hst _ _ _ _ q0) (fun r1 er1 hr0 => ?_) (fun r1 er1 hr0 nr1 => ?_)
  · refine jx_ite (fun q2 => ?_) (fun q2 => ?_)
    · refine jx_E "java/lang/IllegalArgumentException" (by rw [q2]; rfl) ?_
      refine jx_catch C [] ⟨0, 9, 12, 19⟩ [] htab (fun z hz => nomatch hz) (by decide) (by decide) tl_19 tc_2 (fun qx => ?_)
      refine j_astore_n C [(3, _), (0, _), (1, _), (2, _)] dL_trim_12 (i := 3) rfl (by decide) rfl ?_
      refine j_iconst C (v := 1) dL_trim_13 (by decide) ?_
      exact e_iretM C hQ hr rfl hlk dL_trim_14 (Nat.le_of_ble_eq_true rfl) (Nat.le_of_ble_eq_true rfl)
    · refine jx_ite (fun _ => jx_none) (fun z => absurd hr0 z)
  refine j_iteF (by omega) ?_
  refine j_iteF (by omega) ?_
  refine j_i2l C dL_trim_7 ?_
  refine j_lastore C dL_trim_8 (fun h3 eh3 => ?_)
  refine j_goto C (tgt := 15) dL_trim_9 (by decide) ?_
  refine j_iconst C (v := 0) dL_trim_15 (by decide) ?_
  exact e_iretM C hQ hr rfl hlk dL_trim_16 (Nat.le_of_ble_eq_true rfl) (Nat.le_of_ble_eq_true rfl)
def f_Lw_count (fl : Nat) (a0 : Nat) (x1 : Int32) (a2 : Nat) (h : hp_M) : Option (Int32 × hp_M) := (onO h a0 9 (f_SS_count fl a0 x1 h)).bind fun r1 => if r1.1 = 3 then (some (1, r1.2.2)) else if ¬ r1.1 = 0 then none else (paL r1.2.2 a2 0 (Int32.toInt64 r1.2.1)).bind fun h3 => some (0, h3)
set_option maxRecDepth 100000 in
set_option maxHeartbeats 4000000 in
theorem c_Lw_count (l : Launch) (w : hp_W) (hst : l.stackTraces = false) (fl : Nat) (a0 : Nat) (x1 : Int32) (a2 : Nat) (h : hp_M) (out : Int32 × hp_M) (hX : f_Lw_count fl a0 x1 a2 h = some out) : CTW l w yL_count cL_count 4 (some .int) [(0, 9, 12, 24)] ({ frames := 10, cells := 1, slots := 6, locals := 292 }) [.ref a0, .int x1, .ref a2] h (some (.int out.1)) out.2 := by
  unfold f_Lw_count at hX
  refine ctw_of (by decide) (Nat.le_of_ble_eq_true rfl) hX ?_
  intro p e s m args below meth c Q C hr hlk htab hQ
  refine j_aload_n C dL_count_0 (i := 2) rfl rfl ?_
  refine j_iconst C (v := 0) dL_count_1 (by decide) ?_
  refine j_aload_n C dL_count_2 (i := 0) rfl rfl ?_
  refine j_iload_n C dL_count_3 (i := 1) rfl rfl ?_
  refine j_callVX C (As := [.int _]) (rest := [_, _]) k_L_21 ⟨Nat.le_of_ble_eq_true rfl, Nat.le_of_ble_eq_true rfl⟩ rfl (Nat.le_of_ble_eq_true rfl) ⟨Nat.le_of_ble_eq_true rfl, Nat.le_of_ble_eq_true rfl⟩ rfl dL_count_4 (fun r0 q0 => c_SS_count l w hst fl _ _ _ _ q0) (fun r1 er1 hr0 => ?_) (fun r1 er1 hr0 nr1 => ?_)
  · refine jx_ite (fun q2 => ?_) (fun q2 => ?_)
    · refine jx_E "java/lang/IndexOutOfBoundsException" (by rw [q2]; rfl) ?_
      refine jx_catch C [] ⟨0, 9, 12, 24⟩ [] htab (fun z hz => nomatch hz) (by decide) (by decide) tl_24 tc_3 (fun qx => ?_)
      refine j_astore_n C [(3, _), (0, _), (1, _), (2, _)] dL_count_12 (i := 3) rfl (by decide) rfl ?_
      refine j_iconst C (v := 1) dL_count_13 (by decide) ?_
      exact e_iretM C hQ hr rfl hlk dL_count_14 (Nat.le_of_ble_eq_true rfl) (Nat.le_of_ble_eq_true rfl)
    · refine jx_ite (fun _ => jx_none) (fun z => absurd hr0 z)
  refine j_iteF (by omega) ?_
  refine j_iteF (by omega) ?_
  refine j_i2l C dL_count_7 ?_
  refine j_lastore C dL_count_8 (fun h3 eh3 => ?_)
  refine j_goto C (tgt := 15) dL_count_9 (by decide) ?_
  refine j_iconst C (v := 0) dL_count_15 (by decide) ?_
  exact e_iretM C hQ hr rfl hlk dL_count_16 (Nat.le_of_ble_eq_true rfl) (Nat.le_of_ble_eq_true rfl)
def f_Lw_planet (a0 : Nat) (x1 : Int32) (x2 : Int32) (a3 : Nat) (h : hp_M) : Option (Int32 × hp_M) := (onO h a0 9 (f_SS_planet a0 x1 x2 h)).bind fun r1 => if r1.1 = 3 then (some (1, r1.2.2)) else if ¬ r1.1 = 0 then none else (paL r1.2.2 a3 0 (Int32.toInt64 r1.2.1)).bind fun h3 => some (0, h3)
set_option maxRecDepth 100000 in
set_option maxHeartbeats 4000000 in
theorem c_Lw_planet (l : Launch) (w : hp_W) (hst : l.stackTraces = false) (a0 : Nat) (x1 : Int32) (x2 : Int32) (a3 : Nat) (h : hp_M) (out : Int32 × hp_M) (hX : f_Lw_planet a0 x1 x2 a3 h = some out) : CTW l w yL_planet cL_planet 5 (some .int) [(0, 10, 13, 24)] ({ frames := 7, cells := 1, slots := 6, locals := 222 }) [.ref a0, .int x1, .int x2, .ref a3] h (some (.int out.1)) out.2 := by
  unfold f_Lw_planet at hX
  refine ctw_of (by decide) (Nat.le_of_ble_eq_true rfl) hX ?_
  intro p e s m args below meth c Q C hr hlk htab hQ
  refine j_aload_n C dL_planet_0 (i := 3) rfl rfl ?_
  refine j_iconst C (v := 0) dL_planet_1 (by decide) ?_
  refine j_aload_n C dL_planet_2 (i := 0) rfl rfl ?_
  refine j_iload_n C dL_planet_3 (i := 1) rfl rfl ?_
  refine j_iload_n C dL_planet_4 (i := 2) rfl rfl ?_
  refine j_callVX C (As := [.int _, .int _]) (rest := [_, _]) k_L_26 ⟨Nat.le_of_ble_eq_true rfl, Nat.le_of_ble_eq_true rfl⟩ rfl (Nat.le_of_ble_eq_true rfl) ⟨Nat.le_of_ble_eq_true rfl, Nat.le_of_ble_eq_true rfl⟩ rfl dL_planet_5 (fun r0 q0 => c_SS_planet l w hst _ _ _ _ _ q0) (fun r1 er1 hr0 => ?_) (fun r1 er1 hr0 nr1 => ?_)
  · refine jx_ite (fun q2 => ?_) (fun q2 => ?_)
    · refine jx_E "java/lang/IndexOutOfBoundsException" (by rw [q2]; rfl) ?_
      refine jx_catch C [] ⟨0, 10, 13, 24⟩ [] htab (fun z hz => nomatch hz) (by decide) (by decide) tl_24 tc_3 (fun qx => ?_)
      refine j_astore C [(4, _), (0, _), (1, _), (2, _), (3, _)] dL_planet_13 (by decide) rfl ?_
      refine j_iconst C (v := 1) dL_planet_15 (by decide) ?_
      exact e_iretM C hQ hr rfl hlk dL_planet_16 (Nat.le_of_ble_eq_true rfl) (Nat.le_of_ble_eq_true rfl)
    · refine jx_ite (fun _ => jx_none) (fun z => absurd hr0 z)
  refine j_iteF (by omega) ?_
  refine j_iteF (by omega) ?_
  refine j_i2l C dL_planet_8 ?_
  refine j_lastore C dL_planet_9 (fun h3 eh3 => ?_)
  refine j_goto C (tgt := 17) dL_planet_10 (by decide) ?_
  refine j_iconst C (v := 0) dL_planet_17 (by decide) ?_
  exact e_iretM C hQ hr rfl hlk dL_planet_18 (Nat.le_of_ble_eq_true rfl) (Nat.le_of_ble_eq_true rfl)
def f_Lw_set (a0 : Nat) (x1 : Int32) (x2 : Int32) (a3 : Nat) (h : hp_M) : Option (Int32 × hp_M) := (onO h a0 9 (f_SS_set a0 x1 x2 h)).bind fun r1 => if r1.1 = 3 then (some (1, r1.2.2)) else if r1.1 = 2 then (some (2, r1.2.2)) else if ¬ r1.1 = 0 then none else (paL r1.2.2 a3 0 (Int32.toInt64 r1.2.1)).bind fun h4 => some (0, h4)
set_option maxRecDepth 100000 in
set_option maxHeartbeats 4000000 in
theorem c_Lw_set (l : Launch) (w : hp_W) (hst : l.stackTraces = false) (a0 : Nat) (x1 : Int32) (x2 : Int32) (a3 : Nat) (h : hp_M) (out : Int32 × hp_M) (hX : f_Lw_set a0 x1 x2 a3 h = some out) : CTW l w yL_set cL_set 5 (some .int) [(0, 10, 13, 24), (0, 10, 17, 19)] ({ frames := 7, cells := 1, slots := 6, locals := 223 }) [.ref a0, .int x1, .int x2, .ref a3] h (some (.int out.1)) out.2 := by
  unfold f_Lw_set at hX
  refine ctw_of (by decide) (Nat.le_of_ble_eq_true rfl) hX ?_
  intro p e s m args below meth c Q C hr hlk htab hQ
  refine j_aload_n C dL_set_0 (i := 3) rfl rfl ?_
  refine j_iconst C (v := 0) dL_set_1 (by decide) ?_
  refine j_aload_n C dL_set_2 (i := 0) rfl rfl ?_
  refine j_iload_n C dL_set_3 (i := 1) rfl rfl ?_
  refine j_iload_n C dL_set_4 (i := 2) rfl rfl ?_
  refine j_callVX C (As := [.int _, .int _]) (rest := [_, _]) k_L_30 ⟨Nat.le_of_ble_eq_true rfl, Nat.le_of_ble_eq_true rfl⟩ rfl (Nat.le_of_ble_eq_true rfl) ⟨Nat.le_of_ble_eq_true rfl, Nat.le_of_ble_eq_true rfl⟩ rfl dL_set_5 (fun r0 q0 => c_SS_set l w hst _ _ _ _ _ q0) (fun r1 er1 hr0 => ?_) (fun r1 er1 hr0 nr1 => ?_)
  · refine jx_ite (fun q2 => ?_) (fun q2 => ?_)
    · refine jx_E "java/lang/IndexOutOfBoundsException" (by rw [q2]; rfl) ?_
      refine jx_catch C [] ⟨0, 10, 13, 24⟩ [⟨0, 10, 17, 19⟩] htab (fun z hz => nomatch hz) (by decide) (by decide) tl_24 tc_3 (fun qx => ?_)
      refine j_astore C [(4, _), (0, _), (1, _), (2, _), (3, _)] dL_set_13 (by decide) rfl ?_
      refine j_iconst C (v := 1) dL_set_15 (by decide) ?_
      exact e_iretM C hQ hr rfl hlk dL_set_16 (Nat.le_of_ble_eq_true rfl) (Nat.le_of_ble_eq_true rfl)
    · refine jx_ite (fun q3 => ?_) (fun q3 => ?_)
      · refine jx_E "java/lang/IllegalArgumentException" (by rw [q3]; rfl) ?_
        refine jx_catch C [⟨0, 10, 13, 24⟩] ⟨0, 10, 17, 19⟩ [] htab (fun z hz => by cases List.mem_singleton.mp hz; exact Or.inr ⟨by decide, _, tl_24, C.2.1.2.2.2.2.2.2.2.2.2.2.2⟩) (by decide) (by decide) tl_19 tc_2 (fun qx => ?_)
        refine j_astore C [(4, _), (0, _), (1, _), (2, _), (3, _)] dL_set_17 (by decide) rfl ?_
        refine j_iconst C (v := 2) dL_set_19 (by decide) ?_
        exact e_iretM C hQ hr rfl hlk dL_set_20 (Nat.le_of_ble_eq_true rfl) (Nat.le_of_ble_eq_true rfl)
      · refine jx_ite (fun _ => jx_none) (fun z => absurd hr0 z)
  refine j_iteF (by omega) ?_
  refine j_iteF (by omega) ?_
  refine j_iteF (by omega) ?_
  refine j_i2l C dL_set_8 ?_
  refine j_lastore C dL_set_9 (fun h4 eh4 => ?_)
  refine j_goto C (tgt := 21) dL_set_10 (by decide) ?_
  refine j_iconst C (v := 0) dL_set_21 (by decide) ?_
  exact e_iretM C hQ hr rfl hlk dL_set_22 (Nat.le_of_ble_eq_true rfl) (Nat.le_of_ble_eq_true rfl)
def f_Lw_gap (a0 : Nat) (x1 : Int32) (x2 : Int32) (a3 : Nat) (h : hp_M) : Option (Int32 × hp_M) := (onO h a0 9 (f_SS_gap a0 x1 x2 h)).bind fun r1 => if r1.1 = 3 then (some (1, r1.2.2)) else if ¬ r1.1 = 0 then none else (paL r1.2.2 a3 0 (Int32.toInt64 r1.2.1)).bind fun h3 => some (0, h3)
set_option maxRecDepth 100000 in
set_option maxHeartbeats 4000000 in
theorem c_Lw_gap (l : Launch) (w : hp_W) (hst : l.stackTraces = false) (a0 : Nat) (x1 : Int32) (x2 : Int32) (a3 : Nat) (h : hp_M) (out : Int32 × hp_M) (hX : f_Lw_gap a0 x1 x2 a3 h = some out) : CTW l w yL_gap cL_gap 5 (some .int) [(0, 10, 13, 24)] ({ frames := 7, cells := 1, slots := 6, locals := 222 }) [.ref a0, .int x1, .int x2, .ref a3] h (some (.int out.1)) out.2 := by
  unfold f_Lw_gap at hX
  refine ctw_of (by decide) (Nat.le_of_ble_eq_true rfl) hX ?_
  intro p e s m args below meth c Q C hr hlk htab hQ
  refine j_aload_n C dL_gap_0 (i := 3) rfl rfl ?_
  refine j_iconst C (v := 0) dL_gap_1 (by decide) ?_
  refine j_aload_n C dL_gap_2 (i := 0) rfl rfl ?_
  refine j_iload_n C dL_gap_3 (i := 1) rfl rfl ?_
  refine j_iload_n C dL_gap_4 (i := 2) rfl rfl ?_
  refine j_callVX C (As := [.int _, .int _]) (rest := [_, _]) k_L_33 ⟨Nat.le_of_ble_eq_true rfl, Nat.le_of_ble_eq_true rfl⟩ rfl (Nat.le_of_ble_eq_true rfl) ⟨Nat.le_of_ble_eq_true rfl, Nat.le_of_ble_eq_true rfl⟩ rfl dL_gap_5 (fun r0 q0 => c_SS_gap l w hst _ _ _ _ _ q0) (fun r1 er1 hr0 => ?_) (fun r1 er1 hr0 nr1 => ?_)
  · refine jx_ite (fun q2 => ?_) (fun q2 => ?_)
    · refine jx_E "java/lang/IndexOutOfBoundsException" (by rw [q2]; rfl) ?_
      refine jx_catch C [] ⟨0, 10, 13, 24⟩ [] htab (fun z hz => nomatch hz) (by decide) (by decide) tl_24 tc_3 (fun qx => ?_)
      refine j_astore C [(4, _), (0, _), (1, _), (2, _), (3, _)] dL_gap_13 (by decide) rfl ?_
      refine j_iconst C (v := 1) dL_gap_15 (by decide) ?_
      exact e_iretM C hQ hr rfl hlk dL_gap_16 (Nat.le_of_ble_eq_true rfl) (Nat.le_of_ble_eq_true rfl)
    · refine jx_ite (fun _ => jx_none) (fun z => absurd hr0 z)
  refine j_iteF (by omega) ?_
  refine j_iteF (by omega) ?_
  refine j_i2l C dL_gap_8 ?_
  refine j_lastore C dL_gap_9 (fun h3 eh3 => ?_)
  refine j_goto C (tgt := 17) dL_gap_10 (by decide) ?_
  refine j_iconst C (v := 0) dL_gap_17 (by decide) ?_
  exact e_iretM C hQ hr rfl hlk dL_gap_18 (Nat.le_of_ble_eq_true rfl) (Nat.le_of_ble_eq_true rfl)
def f_Lw_meets (a0 : Nat) (x1 : Int32) (x2 : Int32) (x3 : Int32) (a4 : Nat) (h : hp_M) : Option (Int32 × hp_M) := jn (fun (u4 : Int64) (u5 : Int32) (u6 : Nat) (h7 : hp_M) => (paL h7 u6 u5 u4).bind fun h8 => some (0, h8)) fun (j3 : Int64 → Int32 → Nat → hp_M → Option (Int32 × hp_M)) => (onO h a0 9 (f_SS_meets a0 x1 x2 x3 h)).bind fun r9 => if r9.1 = 3 then (some (1, r9.2.2)) else if ¬ r9.1 = 0 then none else if r9.2.1 = 0 then (j3 0 0 a4 r9.2.2) else (j3 1 0 a4 r9.2.2)
set_option maxRecDepth 100000 in
set_option maxHeartbeats 4000000 in
theorem c_Lw_meets (l : Launch) (w : hp_W) (hst : l.stackTraces = false) (a0 : Nat) (x1 : Int32) (x2 : Int32) (x3 : Int32) (a4 : Nat) (h : hp_M) (out : Int32 × hp_M) (hX : f_Lw_meets a0 x1 x2 x3 a4 h = some out) : CTW l w yL_meets cL_meets 6 (some .int) [(0, 19, 22, 24)] ({ frames := 8, cells := 1, slots := 6, locals := 250 }) [.ref a0, .int x1, .int x2, .int x3, .ref a4] h (some (.int out.1)) out.2 := by
  unfold f_Lw_meets at hX
  refine ctw_of (by decide) (Nat.le_of_ble_eq_true rfl) hX ?_
  intro p e s m args below meth c Q C hr hlk htab hQ
  refine j_jn (P := fun (j3 : Int64 → Int32 → Nat → hp_M → Option (Int32 × hp_M)) => ∀ (u4 : Int64) (u5 : Int32) (u6 : Nat) (h7 : hp_M), J p l e ({ frames := 8, cells := 1, slots := 6, locals := 250 }) s m args below meth c Q w 6 1 6 18 [] [.long u4, .int u5, .ref u6] h7 (j3 u4 u5 u6 h7) out) ?_ (fun j3 hj3 => ?_)
  · intro u4 u5 u6 h7
    refine j_lastore C dL_meets_18 (fun h8 eh8 => ?_)
    refine j_goto C (tgt := 26) dL_meets_19 (by decide) ?_
    refine j_iconst C (v := 0) dL_meets_26 (by decide) ?_
    exact e_iretM C hQ hr rfl hlk dL_meets_27 (Nat.le_of_ble_eq_true rfl) (Nat.le_of_ble_eq_true rfl)
  · refine j_aload C dL_meets_0 rfl ?_
    refine j_iconst C (v := 0) dL_meets_2 (by decide) ?_
    refine j_aload_n C dL_meets_3 (i := 0) rfl rfl ?_
    refine j_iload_n C dL_meets_4 (i := 1) rfl rfl ?_
    refine j_iload_n C dL_meets_5 (i := 2) rfl rfl ?_
    refine j_iload_n C dL_meets_6 (i := 3) rfl rfl ?_
    refine j_callVX C (As := [.int _, .int _, .int _]) (rest := [_, _]) k_L_36 ⟨Nat.le_of_ble_eq_true rfl, Nat.le_of_ble_eq_true rfl⟩ rfl (Nat.le_of_ble_eq_true rfl) ⟨Nat.le_of_ble_eq_true rfl, Nat.le_of_ble_eq_true rfl⟩ rfl dL_meets_7 (fun r0 q0 => c_SS_meets l w hst _ _ _ _ _ _ q0) (fun r9 er9 hr0 => ?_) (fun r9 er9 hr0 nr9 => ?_)
    · refine jx_ite (fun q10 => ?_) (fun q10 => ?_)
      · refine jx_E "java/lang/IndexOutOfBoundsException" (by rw [q10]; rfl) ?_
        refine jx_catch C [] ⟨0, 19, 22, 24⟩ [] htab (fun z hz => nomatch hz) (by decide) (by decide) tl_24 tc_3 (fun qx => ?_)
        refine j_astore C [(5, _), (0, _), (1, _), (2, _), (3, _), (4, _)] dL_meets_22 (by decide) rfl ?_
        refine j_iconst C (v := 1) dL_meets_24 (by decide) ?_
        exact e_iretM C hQ hr rfl hlk dL_meets_25 (Nat.le_of_ble_eq_true rfl) (Nat.le_of_ble_eq_true rfl)
      · refine jx_ite (fun _ => jx_none) (fun z => absurd hr0 z)
    refine j_iteF (by omega) ?_
    refine j_iteF (by omega) ?_
    refine j_ifeq C (tgt := 17) dL_meets_10 (by decide) (fun q11 => ?_) (fun q11 => ?_)
    · refine j_lconst C (v := 0) dL_meets_17 rfl ?_
      exact j_sub [] rfl (hj3 _ _ _ _)
    · refine j_lconst C (v := 1) dL_meets_13 rfl ?_
      refine j_goto C (tgt := 18) dL_meets_14 (by decide) ?_
      exact j_sub [] rfl (hj3 _ _ _ _)
def f_Lw_letter (a0 : Nat) (x1 : Int32) (x2 : Int32) (a3 : Nat) (h : hp_M) : Option (Int32 × hp_M) := (onO h a0 9 (f_SS_letter a0 x1 x2 h)).bind fun r1 => if r1.1 = 3 then (some (1, r1.2.2)) else if ¬ r1.1 = 0 then none else (paL r1.2.2 a3 0 (Int32.toInt64 r1.2.1)).bind fun h3 => some (0, h3)
set_option maxRecDepth 100000 in
set_option maxHeartbeats 4000000 in
theorem c_Lw_letter (l : Launch) (w : hp_W) (hst : l.stackTraces = false) (a0 : Nat) (x1 : Int32) (x2 : Int32) (a3 : Nat) (h : hp_M) (out : Int32 × hp_M) (hX : f_Lw_letter a0 x1 x2 a3 h = some out) : CTW l w yL_letter cL_letter 5 (some .int) [(0, 10, 13, 24)] ({ frames := 7, cells := 1, slots := 6, locals := 222 }) [.ref a0, .int x1, .int x2, .ref a3] h (some (.int out.1)) out.2 := by
  unfold f_Lw_letter at hX
  refine ctw_of (by decide) (Nat.le_of_ble_eq_true rfl) hX ?_
  intro p e s m args below meth c Q C hr hlk htab hQ
  refine j_aload_n C dL_letter_0 (i := 3) rfl rfl ?_
  refine j_iconst C (v := 0) dL_letter_1 (by decide) ?_
  refine j_aload_n C dL_letter_2 (i := 0) rfl rfl ?_
  refine j_iload_n C dL_letter_3 (i := 1) rfl rfl ?_
  refine j_iload_n C dL_letter_4 (i := 2) rfl rfl ?_
  refine j_callVX C (As := [.int _, .int _]) (rest := [_, _]) k_L_40 ⟨Nat.le_of_ble_eq_true rfl, Nat.le_of_ble_eq_true rfl⟩ rfl (Nat.le_of_ble_eq_true rfl) ⟨Nat.le_of_ble_eq_true rfl, Nat.le_of_ble_eq_true rfl⟩ rfl dL_letter_5 (fun r0 q0 => c_SS_letter l w hst _ _ _ _ _ q0) (fun r1 er1 hr0 => ?_) (fun r1 er1 hr0 nr1 => ?_)
  · refine jx_ite (fun q2 => ?_) (fun q2 => ?_)
    · refine jx_E "java/lang/IndexOutOfBoundsException" (by rw [q2]; rfl) ?_
      refine jx_catch C [] ⟨0, 10, 13, 24⟩ [] htab (fun z hz => nomatch hz) (by decide) (by decide) tl_24 tc_3 (fun qx => ?_)
      refine j_astore C [(4, _), (0, _), (1, _), (2, _), (3, _)] dL_letter_13 (by decide) rfl ?_
      refine j_iconst C (v := 1) dL_letter_15 (by decide) ?_
      exact e_iretM C hQ hr rfl hlk dL_letter_16 (Nat.le_of_ble_eq_true rfl) (Nat.le_of_ble_eq_true rfl)
    · refine jx_ite (fun _ => jx_none) (fun z => absurd hr0 z)
  refine j_iteF (by omega) ?_
  refine j_iteF (by omega) ?_
  refine j_i2l C dL_letter_8 ?_
  refine j_lastore C dL_letter_9 (fun h3 eh3 => ?_)
  refine j_goto C (tgt := 17) dL_letter_10 (by decide) ?_
  refine j_iconst C (v := 0) dL_letter_17 (by decide) ?_
  exact e_iretM C hQ hr rfl hlk dL_letter_18 (Nat.le_of_ble_eq_true rfl) (Nat.le_of_ble_eq_true rfl)
def f_Lw_wrote (a0 : Nat) (x1 : Int32) (a2 : Nat) (h : hp_M) : Option (Int32 × hp_M) := (onO h a0 9 (f_SS_wrote a0 x1 h)).bind fun r1 => if r1.1 = 3 then (some (1, r1.2.2)) else if ¬ r1.1 = 0 then none else (paL r1.2.2 a2 0 (Int32.toInt64 r1.2.1)).bind fun h3 => some (0, h3)
set_option maxRecDepth 100000 in
set_option maxHeartbeats 4000000 in
theorem c_Lw_wrote (l : Launch) (w : hp_W) (hst : l.stackTraces = false) (a0 : Nat) (x1 : Int32) (a2 : Nat) (h : hp_M) (out : Int32 × hp_M) (hX : f_Lw_wrote a0 x1 a2 h = some out) : CTW l w yL_wrote cL_wrote 4 (some .int) [(0, 9, 12, 24)] ({ frames := 7, cells := 1, slots := 6, locals := 221 }) [.ref a0, .int x1, .ref a2] h (some (.int out.1)) out.2 := by
  unfold f_Lw_wrote at hX
  refine ctw_of (by decide) (Nat.le_of_ble_eq_true rfl) hX ?_
  intro p e s m args below meth c Q C hr hlk htab hQ
  refine j_aload_n C dL_wrote_0 (i := 2) rfl rfl ?_
  refine j_iconst C (v := 0) dL_wrote_1 (by decide) ?_
  refine j_aload_n C dL_wrote_2 (i := 0) rfl rfl ?_
  refine j_iload_n C dL_wrote_3 (i := 1) rfl rfl ?_
  refine j_callVX C (As := [.int _]) (rest := [_, _]) k_L_43 ⟨Nat.le_of_ble_eq_true rfl, Nat.le_of_ble_eq_true rfl⟩ rfl (Nat.le_of_ble_eq_true rfl) ⟨Nat.le_of_ble_eq_true rfl, Nat.le_of_ble_eq_true rfl⟩ rfl dL_wrote_4 (fun r0 q0 => c_SS_wrote l w hst _ _ _ _ q0) (fun r1 er1 hr0 => ?_) (fun r1 er1 hr0 nr1 => ?_)
  · refine jx_ite (fun q2 => ?_) (fun q2 => ?_)
    · refine jx_E "java/lang/IndexOutOfBoundsException" (by rw [q2]; rfl) ?_
      refine jx_catch C [] ⟨0, 9, 12, 24⟩ [] htab (fun z hz => nomatch hz) (by decide) (by decide) tl_24 tc_3 (fun qx => ?_)
      refine j_astore_n C [(3, _), (0, _), (1, _), (2, _)] dL_wrote_12 (i := 3) rfl (by decide) rfl ?_
      refine j_iconst C (v := 1) dL_wrote_13 (by decide) ?_
      exact e_iretM C hQ hr rfl hlk dL_wrote_14 (Nat.le_of_ble_eq_true rfl) (Nat.le_of_ble_eq_true rfl)
    · refine jx_ite (fun _ => jx_none) (fun z => absurd hr0 z)
  refine j_iteF (by omega) ?_
  refine j_iteF (by omega) ?_
  refine j_i2l C dL_wrote_7 ?_
  refine j_lastore C dL_wrote_8 (fun h3 eh3 => ?_)
  refine j_goto C (tgt := 15) dL_wrote_9 (by decide) ?_
  refine j_iconst C (v := 0) dL_wrote_15 (by decide) ?_
  exact e_iretM C hQ hr rfl hlk dL_wrote_16 (Nat.le_of_ble_eq_true rfl) (Nat.le_of_ble_eq_true rfl)
def f_Lw_pass (fl : Nat) (a0 : Nat) (x1 : Int32) (a2 : Nat) (h : hp_M) : Option (Int32 × hp_M) := (onO h a0 9 (f_SS_pass fl a0 x1 h)).bind fun r1 => if r1.1 = 2 then (some (1, r1.2.2)) else if ¬ r1.1 = 0 then none else (paL r1.2.2 a2 0 (Int32.toInt64 r1.2.1)).bind fun h3 => some (0, h3)
set_option maxRecDepth 100000 in
set_option maxHeartbeats 4000000 in
theorem c_Lw_pass (l : Launch) (w : hp_W) (hst : l.stackTraces = false) (fl : Nat) (a0 : Nat) (x1 : Int32) (a2 : Nat) (h : hp_M) (out : Int32 × hp_M) (hX : f_Lw_pass fl a0 x1 a2 h = some out) : CTW l w yL_pass cL_pass 4 (some .int) [(0, 9, 12, 19)] ({ frames := 12, cells := 1, slots := 6, locals := 344 }) [.ref a0, .int x1, .ref a2] h (some (.int out.1)) out.2 := by
  unfold f_Lw_pass at hX
  refine ctw_of (by decide) (Nat.le_of_ble_eq_true rfl) hX ?_
  intro p e s m args below meth c Q C hr hlk htab hQ
  refine j_aload_n C dL_pass_0 (i := 2) rfl rfl ?_
  refine j_iconst C (v := 0) dL_pass_1 (by decide) ?_
  refine j_aload_n C dL_pass_2 (i := 0) rfl rfl ?_
  refine j_iload_n C dL_pass_3 (i := 1) rfl rfl ?_
  refine j_callVX C (As := [.int _]) (rest := [_, _]) k_L_46 ⟨Nat.le_of_ble_eq_true rfl, Nat.le_of_ble_eq_true rfl⟩ rfl (Nat.le_of_ble_eq_true rfl) ⟨Nat.le_of_ble_eq_true rfl, Nat.le_of_ble_eq_true rfl⟩ rfl dL_pass_4 (fun r0 q0 => c_SS_pass l w hst fl _ _ _ _ q0) (fun r1 er1 hr0 => ?_) (fun r1 er1 hr0 nr1 => ?_)
  · refine jx_ite (fun q2 => ?_) (fun q2 => ?_)
    · refine jx_E "java/lang/IllegalArgumentException" (by rw [q2]; rfl) ?_
      refine jx_catch C [] ⟨0, 9, 12, 19⟩ [] htab (fun z hz => nomatch hz) (by decide) (by decide) tl_19 tc_2 (fun qx => ?_)
      refine j_astore_n C [(3, _), (0, _), (1, _), (2, _)] dL_pass_12 (i := 3) rfl (by decide) rfl ?_
      refine j_iconst C (v := 1) dL_pass_13 (by decide) ?_
      exact e_iretM C hQ hr rfl hlk dL_pass_14 (Nat.le_of_ble_eq_true rfl) (Nat.le_of_ble_eq_true rfl)
    · refine jx_ite (fun _ => jx_none) (fun z => absurd hr0 z)
  refine j_iteF (by omega) ?_
  refine j_iteF (by omega) ?_
  refine j_i2l C dL_pass_7 ?_
  refine j_lastore C dL_pass_8 (fun h3 eh3 => ?_)
  refine j_goto C (tgt := 15) dL_pass_9 (by decide) ?_
  refine j_iconst C (v := 0) dL_pass_15 (by decide) ?_
  exact e_iretM C hQ hr rfl hlk dL_pass_16 (Nat.le_of_ble_eq_true rfl) (Nat.le_of_ble_eq_true rfl)
def f_Lw_byteAt (a0 : Nat) (x1 : Int32) (a2 : Nat) (h : hp_M) : Option (Int32 × hp_M) := (onO h a0 9 (f_SS_byteAt a0 x1 h)).bind fun r1 => if r1.1 = 3 then (some (1, r1.2.2)) else if ¬ r1.1 = 0 then none else (paL r1.2.2 a2 0 (Int32.toInt64 r1.2.1)).bind fun h3 => some (0, h3)
set_option maxRecDepth 100000 in
set_option maxHeartbeats 4000000 in
theorem c_Lw_byteAt (l : Launch) (w : hp_W) (hst : l.stackTraces = false) (a0 : Nat) (x1 : Int32) (a2 : Nat) (h : hp_M) (out : Int32 × hp_M) (hX : f_Lw_byteAt a0 x1 a2 h = some out) : CTW l w yL_byteAt cL_byteAt 4 (some .int) [(0, 9, 12, 24)] ({ frames := 7, cells := 1, slots := 6, locals := 221 }) [.ref a0, .int x1, .ref a2] h (some (.int out.1)) out.2 := by
  unfold f_Lw_byteAt at hX
  refine ctw_of (by decide) (Nat.le_of_ble_eq_true rfl) hX ?_
  intro p e s m args below meth c Q C hr hlk htab hQ
  refine j_aload_n C dL_byteAt_0 (i := 2) rfl rfl ?_
  refine j_iconst C (v := 0) dL_byteAt_1 (by decide) ?_
  refine j_aload_n C dL_byteAt_2 (i := 0) rfl rfl ?_
  refine j_iload_n C dL_byteAt_3 (i := 1) rfl rfl ?_
  refine j_callVX C (As := [.int _]) (rest := [_, _]) k_L_49 ⟨Nat.le_of_ble_eq_true rfl, Nat.le_of_ble_eq_true rfl⟩ rfl (Nat.le_of_ble_eq_true rfl) ⟨Nat.le_of_ble_eq_true rfl, Nat.le_of_ble_eq_true rfl⟩ rfl dL_byteAt_4 (fun r0 q0 => c_SS_byteAt l w hst _ _ _ _ q0) (fun r1 er1 hr0 => ?_) (fun r1 er1 hr0 nr1 => ?_)
  · refine jx_ite (fun q2 => ?_) (fun q2 => ?_)
    · refine jx_E "java/lang/IndexOutOfBoundsException" (by rw [q2]; rfl) ?_
      refine jx_catch C [] ⟨0, 9, 12, 24⟩ [] htab (fun z hz => nomatch hz) (by decide) (by decide) tl_24 tc_3 (fun qx => ?_)
      refine j_astore_n C [(3, _), (0, _), (1, _), (2, _)] dL_byteAt_12 (i := 3) rfl (by decide) rfl ?_
      refine j_iconst C (v := 1) dL_byteAt_13 (by decide) ?_
      exact e_iretM C hQ hr rfl hlk dL_byteAt_14 (Nat.le_of_ble_eq_true rfl) (Nat.le_of_ble_eq_true rfl)
    · refine jx_ite (fun _ => jx_none) (fun z => absurd hr0 z)
  refine j_iteF (by omega) ?_
  refine j_iteF (by omega) ?_
  refine j_i2l C dL_byteAt_7 ?_
  refine j_lastore C dL_byteAt_8 (fun h3 eh3 => ?_)
  refine j_goto C (tgt := 15) dL_byteAt_9 (by decide) ?_
  refine j_iconst C (v := 0) dL_byteAt_15 (by decide) ?_
  exact e_iretM C hQ hr rfl hlk dL_byteAt_16 (Nat.le_of_ble_eq_true rfl) (Nat.le_of_ble_eq_true rfl)
def f_Lw_translate (fl : Nat) (a0 : Nat) (x1 : Int32) (x2 : Int32) (a3 : Nat) (h : hp_M) : Option (Int32 × hp_M) := (onO h a0 9 (f_SS_translate fl a0 x1 x2 h)).bind fun r1 => if r1.1 = 3 then (some (1, r1.2.2)) else if ¬ r1.1 = 0 then none else (paL r1.2.2 a3 0 (Int32.toInt64 r1.2.1)).bind fun h3 => some (0, h3)
set_option maxRecDepth 100000 in
set_option maxHeartbeats 4000000 in
theorem c_Lw_translate (l : Launch) (w : hp_W) (hst : l.stackTraces = false) (fl : Nat) (a0 : Nat) (x1 : Int32) (x2 : Int32) (a3 : Nat) (h : hp_M) (out : Int32 × hp_M) (hX : f_Lw_translate fl a0 x1 x2 a3 h = some out) : CTW l w yL_translate cL_translate 5 (some .int) [(0, 10, 13, 24)] ({ frames := 7, cells := 1, slots := 6, locals := 222 }) [.ref a0, .int x1, .int x2, .ref a3] h (some (.int out.1)) out.2 := by
  unfold f_Lw_translate at hX
  refine ctw_of (by decide) (Nat.le_of_ble_eq_true rfl) hX ?_
  intro p e s m args below meth c Q C hr hlk htab hQ
  refine j_aload_n C dL_translate_0 (i := 3) rfl rfl ?_
  refine j_iconst C (v := 0) dL_translate_1 (by decide) ?_
  refine j_aload_n C dL_translate_2 (i := 0) rfl rfl ?_
  refine j_iload_n C dL_translate_3 (i := 1) rfl rfl ?_
  refine j_iload_n C dL_translate_4 (i := 2) rfl rfl ?_
  refine j_callVX C (As := [.int _, .int _]) (rest := [_, _]) k_L_52 ⟨Nat.le_of_ble_eq_true rfl, Nat.le_of_ble_eq_true rfl⟩ rfl (Nat.le_of_ble_eq_true rfl) ⟨Nat.le_of_ble_eq_true rfl, Nat.le_of_ble_eq_true rfl⟩ rfl dL_translate_5 (fun r0 q0 => c_SS_translate l w hst fl _ _ _ _ _ q0) (fun r1 er1 hr0 => ?_) (fun r1 er1 hr0 nr1 => ?_)
  · refine jx_ite (fun q2 => ?_) (fun q2 => ?_)
    · refine jx_E "java/lang/IndexOutOfBoundsException" (by rw [q2]; rfl) ?_
      refine jx_catch C [] ⟨0, 10, 13, 24⟩ [] htab (fun z hz => nomatch hz) (by decide) (by decide) tl_24 tc_3 (fun qx => ?_)
      refine j_astore C [(4, _), (0, _), (1, _), (2, _), (3, _)] dL_translate_13 (by decide) rfl ?_
      refine j_iconst C (v := 1) dL_translate_15 (by decide) ?_
      exact e_iretM C hQ hr rfl hlk dL_translate_16 (Nat.le_of_ble_eq_true rfl) (Nat.le_of_ble_eq_true rfl)
    · refine jx_ite (fun _ => jx_none) (fun z => absurd hr0 z)
  refine j_iteF (by omega) ?_
  refine j_iteF (by omega) ?_
  refine j_i2l C dL_translate_8 ?_
  refine j_lastore C dL_translate_9 (fun h3 eh3 => ?_)
  refine j_goto C (tgt := 17) dL_translate_10 (by decide) ?_
  refine j_iconst C (v := 0) dL_translate_17 (by decide) ?_
  exact e_iretM C hQ hr rfl hlk dL_translate_18 (Nat.le_of_ble_eq_true rfl) (Nat.le_of_ble_eq_true rfl)
def f_Lw_foresee (fl : Nat) (a0 : Nat) (x1 : Int32) (x2 : Int32) (a3 : Nat) (h : hp_M) : Option (Int32 × hp_M) := (onO h a0 9 (f_SS_foresee fl a0 x1 x2 h)).bind fun r1 => if r1.1 = 2 then (some (1, r1.2.2)) else if r1.1 = 3 then (some (2, r1.2.2)) else if ¬ r1.1 = 0 then none else (paL r1.2.2 a3 0 (Int32.toInt64 r1.2.1)).bind fun h4 => some (0, h4)
set_option maxRecDepth 100000 in
set_option maxHeartbeats 4000000 in
theorem c_Lw_foresee (l : Launch) (w : hp_W) (hst : l.stackTraces = false) (fl : Nat) (a0 : Nat) (x1 : Int32) (x2 : Int32) (a3 : Nat) (h : hp_M) (out : Int32 × hp_M) (hX : f_Lw_foresee fl a0 x1 x2 a3 h = some out) : CTW l w yL_foresee cL_foresee 5 (some .int) [(0, 10, 13, 19), (0, 10, 17, 24)] ({ frames := 12, cells := 1, slots := 6, locals := 346 }) [.ref a0, .int x1, .int x2, .ref a3] h (some (.int out.1)) out.2 := by
  unfold f_Lw_foresee at hX
  refine ctw_of (by decide) (Nat.le_of_ble_eq_true rfl) hX ?_
  intro p e s m args below meth c Q C hr hlk htab hQ
  refine j_aload_n C dL_foresee_0 (i := 3) rfl rfl ?_
  refine j_iconst C (v := 0) dL_foresee_1 (by decide) ?_
  refine j_aload_n C dL_foresee_2 (i := 0) rfl rfl ?_
  refine j_iload_n C dL_foresee_3 (i := 1) rfl rfl ?_
  refine j_iload_n C dL_foresee_4 (i := 2) rfl rfl ?_
  refine j_callVX C (As := [.int _, .int _]) (rest := [_, _]) k_L_55 ⟨Nat.le_of_ble_eq_true rfl, Nat.le_of_ble_eq_true rfl⟩ rfl (Nat.le_of_ble_eq_true rfl) ⟨Nat.le_of_ble_eq_true rfl, Nat.le_of_ble_eq_true rfl⟩ rfl dL_foresee_5 (fun r0 q0 => c_SS_foresee l w hst fl _ _ _ _ _ q0) (fun r1 er1 hr0 => ?_) (fun r1 er1 hr0 nr1 => ?_)
  · refine jx_ite (fun q2 => ?_) (fun q2 => ?_)
    · refine jx_E "java/lang/IllegalArgumentException" (by rw [q2]; rfl) ?_
      refine jx_catch C [] ⟨0, 10, 13, 19⟩ [⟨0, 10, 17, 24⟩] htab (fun z hz => nomatch hz) (by decide) (by decide) tl_19 tc_2 (fun qx => ?_)
      refine j_astore C [(4, _), (0, _), (1, _), (2, _), (3, _)] dL_foresee_13 (by decide) rfl ?_
      refine j_iconst C (v := 1) dL_foresee_15 (by decide) ?_
      exact e_iretM C hQ hr rfl hlk dL_foresee_16 (Nat.le_of_ble_eq_true rfl) (Nat.le_of_ble_eq_true rfl)
    · refine jx_ite (fun q3 => ?_) (fun q3 => ?_)
      · refine jx_E "java/lang/IndexOutOfBoundsException" (by rw [q3]; rfl) ?_
        refine jx_catch C [⟨0, 10, 13, 19⟩] ⟨0, 10, 17, 24⟩ [] htab (fun z hz => by cases List.mem_singleton.mp hz; exact Or.inr ⟨by decide, _, tl_19, C.2.1.2.2.2.2.2.2.2.2.2.2.1⟩) (by decide) (by decide) tl_24 tc_3 (fun qx => ?_)
        refine j_astore C [(4, _), (0, _), (1, _), (2, _), (3, _)] dL_foresee_17 (by decide) rfl ?_
        refine j_iconst C (v := 2) dL_foresee_19 (by decide) ?_
        exact e_iretM C hQ hr rfl hlk dL_foresee_20 (Nat.le_of_ble_eq_true rfl) (Nat.le_of_ble_eq_true rfl)
      · refine jx_ite (fun _ => jx_none) (fun z => absurd hr0 z)
  refine j_iteF (by omega) ?_
  refine j_iteF (by omega) ?_
  refine j_iteF (by omega) ?_
  refine j_i2l C dL_foresee_8 ?_
  refine j_lastore C dL_foresee_9 (fun h4 eh4 => ?_)
  refine j_goto C (tgt := 21) dL_foresee_10 (by decide) ?_
  refine j_iconst C (v := 0) dL_foresee_21 (by decide) ?_
  exact e_iretM C hQ hr rfl hlk dL_foresee_22 (Nat.le_of_ble_eq_true rfl) (Nat.le_of_ble_eq_true rfl)
def f_Lw_next (fl : Nat) (a0 : Nat) (x1 : Int32) (x2 : Int32) (x3 : Int32) (a4 : Nat) (h : hp_M) : Option (Int32 × hp_M) := (onO h a0 9 (f_SS_next fl a0 x1 x2 x3 h)).bind fun r1 => if r1.1 = 3 then (some (1, r1.2.2)) else if ¬ r1.1 = 0 then none else (paL r1.2.2 a4 0 (Int32.toInt64 r1.2.1)).bind fun h3 => some (0, h3)
set_option maxRecDepth 100000 in
set_option maxHeartbeats 4000000 in
theorem c_Lw_next (l : Launch) (w : hp_W) (hst : l.stackTraces = false) (fl : Nat) (a0 : Nat) (x1 : Int32) (x2 : Int32) (x3 : Int32) (a4 : Nat) (h : hp_M) (out : Int32 × hp_M) (hX : f_Lw_next fl a0 x1 x2 x3 a4 h = some out) : CTW l w yL_next cL_next 6 (some .int) [(0, 12, 15, 24)] ({ frames := 9, cells := 1, slots := 6, locals := 267 }) [.ref a0, .int x1, .int x2, .int x3, .ref a4] h (some (.int out.1)) out.2 := by
  unfold f_Lw_next at hX
  refine ctw_of (by decide) (Nat.le_of_ble_eq_true rfl) hX ?_
  intro p e s m args below meth c Q C hr hlk htab hQ
  refine j_aload C dL_next_0 rfl ?_
  refine j_iconst C (v := 0) dL_next_2 (by decide) ?_
  refine j_aload_n C dL_next_3 (i := 0) rfl rfl ?_
  refine j_iload_n C dL_next_4 (i := 1) rfl rfl ?_
  refine j_iload_n C dL_next_5 (i := 2) rfl rfl ?_
  refine j_iload_n C dL_next_6 (i := 3) rfl rfl ?_
  refine j_callVX C (As := [.int _, .int _, .int _]) (rest := [_, _]) k_L_58 ⟨Nat.le_of_ble_eq_true rfl, Nat.le_of_ble_eq_true rfl⟩ rfl (Nat.le_of_ble_eq_true rfl) ⟨Nat.le_of_ble_eq_true rfl, Nat.le_of_ble_eq_true rfl⟩ rfl dL_next_7 (fun r0 q0 => c_SS_next l w hst fl _ _ _ _ _ _ q0) (fun r1 er1 hr0 => ?_) (fun r1 er1 hr0 nr1 => ?_)
  · refine jx_ite (fun q2 => ?_) (fun q2 => ?_)
    · refine jx_E "java/lang/IndexOutOfBoundsException" (by rw [q2]; rfl) ?_
      refine jx_catch C [] ⟨0, 12, 15, 24⟩ [] htab (fun z hz => nomatch hz) (by decide) (by decide) tl_24 tc_3 (fun qx => ?_)
      refine j_astore C [(5, _), (0, _), (1, _), (2, _), (3, _), (4, _)] dL_next_15 (by decide) rfl ?_
      refine j_iconst C (v := 1) dL_next_17 (by decide) ?_
      exact e_iretM C hQ hr rfl hlk dL_next_18 (Nat.le_of_ble_eq_true rfl) (Nat.le_of_ble_eq_true rfl)
    · refine jx_ite (fun _ => jx_none) (fun z => absurd hr0 z)
  refine j_iteF (by omega) ?_
  refine j_iteF (by omega) ?_
  refine j_i2l C dL_next_10 ?_
  refine j_lastore C dL_next_11 (fun h3 eh3 => ?_)
  refine j_goto C (tgt := 19) dL_next_12 (by decide) ?_
  refine j_iconst C (v := 0) dL_next_19 (by decide) ?_
  exact e_iretM C hQ hr rfl hlk dL_next_20 (Nat.le_of_ble_eq_true rfl) (Nat.le_of_ble_eq_true rfl)
def f_Lw_again (fl : Nat) (a0 : Nat) (x1 : Int32) (a2 : Nat) (h : hp_M) : Option (Int32 × hp_M) := (onO h a0 9 (f_SS_again fl a0 x1 h)).bind fun r1 => if r1.1 = 2 then (some (1, r1.2.2)) else if ¬ r1.1 = 0 then none else (paL r1.2.2 a2 0 (Int32.toInt64 r1.2.1)).bind fun h3 => some (0, h3)
set_option maxRecDepth 100000 in
set_option maxHeartbeats 4000000 in
theorem c_Lw_again (l : Launch) (w : hp_W) (hst : l.stackTraces = false) (fl : Nat) (a0 : Nat) (x1 : Int32) (a2 : Nat) (h : hp_M) (out : Int32 × hp_M) (hX : f_Lw_again fl a0 x1 a2 h = some out) : CTW l w yL_again cL_again 4 (some .int) [(0, 9, 12, 19)] ({ frames := 9, cells := 1, slots := 6, locals := 265 }) [.ref a0, .int x1, .ref a2] h (some (.int out.1)) out.2 := by
  unfold f_Lw_again at hX
  refine ctw_of (by decide) (Nat.le_of_ble_eq_true rfl) hX ?_
  intro p e s m args below meth c Q C hr hlk htab hQ
  refine j_aload_n C dL_again_0 (i := 2) rfl rfl ?_
  refine j_iconst C (v := 0) dL_again_1 (by decide) ?_
  refine j_aload_n C dL_again_2 (i := 0) rfl rfl ?_
  refine j_iload_n C dL_again_3 (i := 1) rfl rfl ?_
  refine j_callVX C (As := [.int _]) (rest := [_, _]) k_L_62 ⟨Nat.le_of_ble_eq_true rfl, Nat.le_of_ble_eq_true rfl⟩ rfl (Nat.le_of_ble_eq_true rfl) ⟨Nat.le_of_ble_eq_true rfl, Nat.le_of_ble_eq_true rfl⟩ rfl dL_again_4 (fun r0 q0 => c_SS_again l w hst fl _ _ _ _ q0) (fun r1 er1 hr0 => ?_) (fun r1 er1 hr0 nr1 => ?_)
  · refine jx_ite (fun q2 => ?_) (fun q2 => ?_)
    · refine jx_E "java/lang/IllegalArgumentException" (by rw [q2]; rfl) ?_
      refine jx_catch C [] ⟨0, 9, 12, 19⟩ [] htab (fun z hz => nomatch hz) (by decide) (by decide) tl_19 tc_2 (fun qx => ?_)
      refine j_astore_n C [(3, _), (0, _), (1, _), (2, _)] dL_again_12 (i := 3) rfl (by decide) rfl ?_
      refine j_iconst C (v := 1) dL_again_13 (by decide) ?_
      exact e_iretM C hQ hr rfl hlk dL_again_14 (Nat.le_of_ble_eq_true rfl) (Nat.le_of_ble_eq_true rfl)
    · refine jx_ite (fun _ => jx_none) (fun z => absurd hr0 z)
  refine j_iteF (by omega) ?_
  refine j_iteF (by omega) ?_
  refine j_i2l C dL_again_7 ?_
  refine j_lastore C dL_again_8 (fun h3 eh3 => ?_)
  refine j_goto C (tgt := 15) dL_again_9 (by decide) ?_
  refine j_iconst C (v := 0) dL_again_15 (by decide) ?_
  exact e_iretM C hQ hr rfl hlk dL_again_16 (Nat.le_of_ble_eq_true rfl) (Nat.le_of_ble_eq_true rfl)
def f_Lw_advise (fl : Nat) (a0 : Nat) (x1 : Int32) (x2 : Int32) (a3 : Nat) (h : hp_M) : Option (Int32 × hp_M) := (onO h a0 9 (f_SS_advise fl a0 x1 x2 h)).bind fun r1 => if r1.1 = 3 then (some (1, r1.2.2)) else if r1.1 = 2 then (some (2, r1.2.2)) else if ¬ r1.1 = 0 then none else (paL r1.2.2 a3 0 (Int32.toInt64 r1.2.1)).bind fun h4 => some (0, h4)
set_option maxRecDepth 100000 in
set_option maxHeartbeats 4000000 in
theorem c_Lw_advise (l : Launch) (w : hp_W) (hst : l.stackTraces = false) (fl : Nat) (a0 : Nat) (x1 : Int32) (x2 : Int32) (a3 : Nat) (h : hp_M) (out : Int32 × hp_M) (hX : f_Lw_advise fl a0 x1 x2 a3 h = some out) : CTW l w yL_advise cL_advise 5 (some .int) [(0, 10, 13, 24), (0, 10, 17, 19)] ({ frames := 12, cells := 1, slots := 6, locals := 349 }) [.ref a0, .int x1, .int x2, .ref a3] h (some (.int out.1)) out.2 := by
  unfold f_Lw_advise at hX
  refine ctw_of (by decide) (Nat.le_of_ble_eq_true rfl) hX ?_
  intro p e s m args below meth c Q C hr hlk htab hQ
  refine j_aload_n C dL_advise_0 (i := 3) rfl rfl ?_
  refine j_iconst C (v := 0) dL_advise_1 (by decide) ?_
  refine j_aload_n C dL_advise_2 (i := 0) rfl rfl ?_
  refine j_iload_n C dL_advise_3 (i := 1) rfl rfl ?_
  refine j_iload_n C dL_advise_4 (i := 2) rfl rfl ?_
  refine j_callVX C (As := [.int _, .int _]) (rest := [_, _]) k_L_65 ⟨Nat.le_of_ble_eq_true rfl, Nat.le_of_ble_eq_true rfl⟩ rfl (Nat.le_of_ble_eq_true rfl) ⟨Nat.le_of_ble_eq_true rfl, Nat.le_of_ble_eq_true rfl⟩ rfl dL_advise_5 (fun r0 q0 => c_SS_advise l w hst fl _ _ _ _ _ q0) (fun r1 er1 hr0 => ?_) (fun r1 er1 hr0 nr1 => ?_)
  · refine jx_ite (fun q2 => ?_) (fun q2 => ?_)
    · refine jx_E "java/lang/IndexOutOfBoundsException" (by rw [q2]; rfl) ?_
      refine jx_catch C [] ⟨0, 10, 13, 24⟩ [⟨0, 10, 17, 19⟩] htab (fun z hz => nomatch hz) (by decide) (by decide) tl_24 tc_3 (fun qx => ?_)
      refine j_astore C [(4, _), (0, _), (1, _), (2, _), (3, _)] dL_advise_13 (by decide) rfl ?_
      refine j_iconst C (v := 1) dL_advise_15 (by decide) ?_
      exact e_iretM C hQ hr rfl hlk dL_advise_16 (Nat.le_of_ble_eq_true rfl) (Nat.le_of_ble_eq_true rfl)
    · refine jx_ite (fun q3 => ?_) (fun q3 => ?_)
      · refine jx_E "java/lang/IllegalArgumentException" (by rw [q3]; rfl) ?_
        refine jx_catch C [⟨0, 10, 13, 24⟩] ⟨0, 10, 17, 19⟩ [] htab (fun z hz => by cases List.mem_singleton.mp hz; exact Or.inr ⟨by decide, _, tl_24, C.2.1.2.2.2.2.2.2.2.2.2.2.2⟩) (by decide) (by decide) tl_19 tc_2 (fun qx => ?_)
        refine j_astore C [(4, _), (0, _), (1, _), (2, _), (3, _)] dL_advise_17 (by decide) rfl ?_
        refine j_iconst C (v := 2) dL_advise_19 (by decide) ?_
        exact e_iretM C hQ hr rfl hlk dL_advise_20 (Nat.le_of_ble_eq_true rfl) (Nat.le_of_ble_eq_true rfl)
      · refine jx_ite (fun _ => jx_none) (fun z => absurd hr0 z)
  refine j_iteF (by omega) ?_
  refine j_iteF (by omega) ?_
  refine j_iteF (by omega) ?_
  refine j_i2l C dL_advise_8 ?_
  refine j_lastore C dL_advise_9 (fun h4 eh4 => ?_)
  refine j_goto C (tgt := 21) dL_advise_10 (by decide) ?_
  refine j_iconst C (v := 0) dL_advise_21 (by decide) ?_
  exact e_iretM C hQ hr rfl hlk dL_advise_22 (Nat.le_of_ble_eq_true rfl) (Nat.le_of_ble_eq_true rfl)
