def f_Sk_day (a0 : Nat) (h : hp_M) : Option (Int32) := (gI h a0 7 4).bind fun v1 => some v1
set_option maxRecDepth 100000 in
set_option maxHeartbeats 4000000 in
theorem c_Sk_day (l : Launch) (w : hp_W) (a0 : Nat) (h : hp_M) (out : Int32) (hX : f_Sk_day a0 h = some out) : CT l w yX8_day cX8_day 1 (some .int) ({ frames := 0, cells := 0, slots := 0, locals := 0 }) [.ref a0] h (some (.int out)) h := by
  unfold f_Sk_day at hX
  refine ct_of (by decide +kernel) (Nat.le_of_ble_eq_true rfl) hX ?_
  intro p e s m args below meth c Q C hr hlk hnm hQ
  refine j_aload_n C dX8_day_0 (i := 0) rfl rfl ?_
  refine j_getI C g_X8_46 dX8_day_1 (fun v1 ev1 => ?_)
  exact e_iretR C hQ hr rfl hlk dX8_day_4 (Nat.le_of_ble_eq_true rfl) (Nat.le_of_ble_eq_true rfl)
def f_Sk_paper (a0 : Nat) (h : hp_M) : Option (Nat) := (gR h a0 7 3).bind fun v1 => some v1
set_option maxRecDepth 100000 in
set_option maxHeartbeats 4000000 in
theorem c_Sk_paper (l : Launch) (w : hp_W) (a0 : Nat) (h : hp_M) (out : Nat) (hX : f_Sk_paper a0 h = some out) : CT l w yX8_paper cX8_paper 1 (some (.object "ShadowSpell$Paper")) ({ frames := 0, cells := 0, slots := 0, locals := 0 }) [.ref a0] h (some (.ref out)) h := by
  unfold f_Sk_paper at hX
  refine ct_of (by decide +kernel) (Nat.le_of_ble_eq_true rfl) hX ?_
  intro p e s m args below meth c Q C hr hlk hnm hQ
  refine j_aload_n C dX8_paper_0 (i := 0) rfl rfl ?_
  refine j_getR C g_X8_24 dX8_paper_1 (fun v1 ev1 => ?_)
  exact e_aretR C hQ hr (by first | exact Or.inl ⟨_, rfl⟩ | exact Or.inr ⟨_, rfl⟩) hlk dX8_paper_4 (Nat.le_of_ble_eq_true rfl) (Nat.le_of_ble_eq_true rfl)
def f_Sk_hasPlanet (a0 : Nat) (x1 : Int32) (h : hp_M) : Option (Int32) := jn (some 0) fun (j2 : Option (Int32)) => if x1 < 0 then (j2) else ((gI h a0 7 1).bind fun v4 => if v4 ≤ x1 then (j2) else (some 1))
set_option maxRecDepth 100000 in
set_option maxHeartbeats 4000000 in
theorem c_Sk_hasPlanet (l : Launch) (w : hp_W) (a0 : Nat) (x1 : Int32) (h : hp_M) (out : Int32) (hX : f_Sk_hasPlanet a0 x1 h = some out) : CT l w yX8_hasPlanet cX8_hasPlanet 2 (some .boolean) ({ frames := 0, cells := 0, slots := 0, locals := 0 }) [.ref a0, .int x1] h (some (.int out)) h := by
  unfold f_Sk_hasPlanet at hX
  refine ct_of (by decide +kernel) (Nat.le_of_ble_eq_true rfl) hX ?_
  intro p e s m args below meth c Q C hr hlk hnm hQ
  refine j_jn (P := fun j2 => J p l e ({ frames := 0, cells := 0, slots := 0, locals := 0 }) s m args below meth c Q w 2 0 0 16 [] [] h (j2) out) ?_ (fun j2 hj2 => ?_)
  · refine j_iconst C (v := 0) dX8_hasPlanet_16 (by decide) ?_
    exact e_iretR C hQ hr rfl hlk dX8_hasPlanet_17 (Nat.le_of_ble_eq_true rfl) (Nat.le_of_ble_eq_true rfl)
  · refine j_iload_n C dX8_hasPlanet_0 (i := 1) rfl rfl ?_
    refine j_iflt C (tgt := 16) dX8_hasPlanet_1 (by decide) (fun q3 => ?_) (fun q3 => ?_)
    · exact j_sub [] rfl (hj2)
    · refine j_iload_n C dX8_hasPlanet_4 (i := 1) rfl rfl ?_
      refine j_aload_n C dX8_hasPlanet_5 (i := 0) rfl rfl ?_
      refine j_getI C g_X8_38 dX8_hasPlanet_6 (fun v4 ev4 => ?_)
      refine j_icmpge C (tgt := 16) dX8_hasPlanet_9 (by decide) (fun q5 => ?_) (fun q5 => ?_)
      · exact j_sub [] rfl (hj2)
      · refine j_iconst C (v := 1) dX8_hasPlanet_12 (by decide) ?_
        refine j_goto C (tgt := 17) dX8_hasPlanet_13 (by decide) ?_
        exact e_iretR C hQ hr rfl hlk dX8_hasPlanet_17 (Nat.le_of_ble_eq_true rfl) (Nat.le_of_ble_eq_true rfl)
def f_Sk_angleOf (a0 : Nat) (x1 : Int32) (h : hp_M) : Option (Int32) := (onO h a0 7 (f_Sk_hasPlanet a0 x1 h)).bind fun r1 => if r1 = 0 then (some 0) else ((gR h a0 7 0).bind fun v3 => (gaR h 3 v3 x1).bind fun v4 => (onO h v4 3 (f_Pl_angle v4 h)).bind fun r5 => some r5)
set_option maxRecDepth 100000 in
set_option maxHeartbeats 4000000 in
theorem c_Sk_angleOf (l : Launch) (w : hp_W) (a0 : Nat) (x1 : Int32) (h : hp_M) (out : Int32) (hX : f_Sk_angleOf a0 x1 h = some out) : CT l w yX8_angleOf cX8_angleOf 2 (some .int) ({ frames := 1, cells := 0, slots := 0, locals := 21 }) [.ref a0, .int x1] h (some (.int out)) h := by
  unfold f_Sk_angleOf at hX
  refine ct_of (by decide +kernel) (Nat.le_of_ble_eq_true rfl) hX ?_
  intro p e s m args below meth c Q C hr hlk hnm hQ
  refine j_aload_n C dX8_angleOf_0 (i := 0) rfl rfl ?_
  refine j_iload_n C dX8_angleOf_1 (i := 1) rfl rfl ?_
  refine j_callVi C (As := [.int _]) (rest := []) k_X8_62 ⟨Nat.le_of_ble_eq_true rfl, Nat.le_of_ble_eq_true rfl⟩ rfl (Nat.le_of_ble_eq_true rfl) ⟨Nat.le_of_ble_eq_true rfl, Nat.le_of_ble_eq_true rfl⟩ rfl dX8_angleOf_2 (fun r0 q0 => c_Sk_hasPlanet l w _ _ _ _ q0) (fun r1 er1 nr1 => ?_)
  refine j_ifeq C (tgt := 20) dX8_angleOf_5 (by decide) (fun q2 => ?_) (fun q2 => ?_)
  · refine j_iconst C (v := 0) dX8_angleOf_20 (by decide) ?_
    exact e_iretR C hQ hr rfl hlk dX8_angleOf_21 (Nat.le_of_ble_eq_true rfl) (Nat.le_of_ble_eq_true rfl)
  · refine j_aload_n C dX8_angleOf_8 (i := 0) rfl rfl ?_
    refine j_getR C g_X8_11 dX8_angleOf_9 (fun v3 ev3 => ?_)
    refine j_iload_n C dX8_angleOf_12 (i := 1) rfl rfl ?_
    refine j_aaload C (t := 3) rfl dX8_angleOf_13 (fun v4 ev4 => ?_)
    refine j_callVi C (As := []) (rest := []) k_X8_69 ⟨Nat.le_of_ble_eq_true rfl, Nat.le_of_ble_eq_true rfl⟩ rfl (Nat.le_of_ble_eq_true rfl) ⟨Nat.le_of_ble_eq_true rfl, Nat.le_of_ble_eq_true rfl⟩ rfl dX8_angleOf_14 (fun r0 q0 => c_Pl_angle l w _ _ _ q0) (fun r5 er5 nr5 => ?_)
    refine j_goto C (tgt := 21) dX8_angleOf_17 (by decide) ?_
    exact e_iretR C hQ hr rfl hlk dX8_angleOf_21 (Nat.le_of_ble_eq_true rfl) (Nat.le_of_ble_eq_true rfl)
def f_Sk_lapOf (a0 : Nat) (x1 : Int32) (h : hp_M) : Option (Int32) := (onO h a0 7 (f_Sk_hasPlanet a0 x1 h)).bind fun r1 => if r1 = 0 then (some 0) else ((gR h a0 7 0).bind fun v3 => (gaR h 3 v3 x1).bind fun v4 => (onO h v4 3 (f_Pl_lap v4 h)).bind fun r5 => some r5)
set_option maxRecDepth 100000 in
set_option maxHeartbeats 4000000 in
theorem c_Sk_lapOf (l : Launch) (w : hp_W) (a0 : Nat) (x1 : Int32) (h : hp_M) (out : Int32) (hX : f_Sk_lapOf a0 x1 h = some out) : CT l w yX8_lapOf cX8_lapOf 2 (some .int) ({ frames := 1, cells := 0, slots := 0, locals := 21 }) [.ref a0, .int x1] h (some (.int out)) h := by
  unfold f_Sk_lapOf at hX
  refine ct_of (by decide +kernel) (Nat.le_of_ble_eq_true rfl) hX ?_
  intro p e s m args below meth c Q C hr hlk hnm hQ
  refine j_aload_n C dX8_lapOf_0 (i := 0) rfl rfl ?_
  refine j_iload_n C dX8_lapOf_1 (i := 1) rfl rfl ?_
  refine j_callVi C (As := [.int _]) (rest := []) k_X8_62 ⟨Nat.le_of_ble_eq_true rfl, Nat.le_of_ble_eq_true rfl⟩ rfl (Nat.le_of_ble_eq_true rfl) ⟨Nat.le_of_ble_eq_true rfl, Nat.le_of_ble_eq_true rfl⟩ rfl dX8_lapOf_2 (fun r0 q0 => c_Sk_hasPlanet l w _ _ _ _ q0) (fun r1 er1 nr1 => ?_)
  refine j_ifeq C (tgt := 20) dX8_lapOf_5 (by decide) (fun q2 => ?_) (fun q2 => ?_)
  · refine j_iconst C (v := 0) dX8_lapOf_20 (by decide) ?_
    exact e_iretR C hQ hr rfl hlk dX8_lapOf_21 (Nat.le_of_ble_eq_true rfl) (Nat.le_of_ble_eq_true rfl)
  · refine j_aload_n C dX8_lapOf_8 (i := 0) rfl rfl ?_
    refine j_getR C g_X8_11 dX8_lapOf_9 (fun v3 ev3 => ?_)
    refine j_iload_n C dX8_lapOf_12 (i := 1) rfl rfl ?_
    refine j_aaload C (t := 3) rfl dX8_lapOf_13 (fun v4 ev4 => ?_)
    refine j_callVi C (As := []) (rest := []) k_X8_72 ⟨Nat.le_of_ble_eq_true rfl, Nat.le_of_ble_eq_true rfl⟩ rfl (Nat.le_of_ble_eq_true rfl) ⟨Nat.le_of_ble_eq_true rfl, Nat.le_of_ble_eq_true rfl⟩ rfl dX8_lapOf_14 (fun r0 q0 => c_Pl_lap l w _ _ _ q0) (fun r5 er5 nr5 => ?_)
    refine j_goto C (tgt := 21) dX8_lapOf_17 (by decide) ?_
    exact e_iretR C hQ hr rfl hlk dX8_lapOf_21 (Nat.le_of_ble_eq_true rfl) (Nat.le_of_ble_eq_true rfl)
def f_Sk_gapOf (a0 : Nat) (x1 : Int32) (x2 : Int32) (h : hp_M) : Option (Int32) := jn (some 0) fun (j10 : Option (Int32)) => (onO h a0 7 (f_Sk_hasPlanet a0 x1 h)).bind fun r11 => if r11 = 0 then (j10) else ((onO h a0 7 (f_Sk_hasPlanet a0 x2 h)).bind fun r13 => if r13 = 0 then (j10) else ((gR h a0 7 0).bind fun v15 => (gaR h 3 v15 x1).bind fun v16 => (onO h v16 3 (f_Pl_angle v16 h)).bind fun r17 => (gR h a0 7 0).bind fun v18 => (gaR h 3 v18 x2).bind fun v19 => (onO h v19 3 (f_Pl_angle v19 h)).bind fun r20 => (f_Pl_shortest (r17 - r20) h).bind fun r21 => some r21))
set_option maxRecDepth 100000 in
set_option maxHeartbeats 4000000 in
theorem c_Sk_gapOf (l : Launch) (w : hp_W) (a0 : Nat) (x1 : Int32) (x2 : Int32) (h : hp_M) (out : Int32) (hX : f_Sk_gapOf a0 x1 x2 h = some out) : CT l w yX8_gapOf cX8_gapOf 3 (some .int) ({ frames := 1, cells := 0, slots := 0, locals := 21 }) [.ref a0, .int x1, .int x2] h (some (.int out)) h := by
  unfold f_Sk_gapOf at hX
  refine ct_of (by decide +kernel) (Nat.le_of_ble_eq_true rfl) hX ?_
  intro p e s m args below meth c Q C hr hlk hnm hQ
  refine j_jn (P := fun j10 => J p l e ({ frames := 1, cells := 0, slots := 0, locals := 21 }) s m args below meth c Q w 3 0 0 41 [] [] h (j10) out) ?_ (fun j10 hj10 => ?_)
  · refine j_iconst C (v := 0) dX8_gapOf_41 (by decide) ?_
    exact e_iretR C hQ hr rfl hlk dX8_gapOf_42 (Nat.le_of_ble_eq_true rfl) (Nat.le_of_ble_eq_true rfl)
  · refine j_aload_n C dX8_gapOf_0 (i := 0) rfl rfl ?_
    refine j_iload_n C dX8_gapOf_1 (i := 1) rfl rfl ?_
    refine j_callVi C (As := [.int _]) (rest := []) k_X8_62 ⟨Nat.le_of_ble_eq_true rfl, Nat.le_of_ble_eq_true rfl⟩ rfl (Nat.le_of_ble_eq_true rfl) ⟨Nat.le_of_ble_eq_true rfl, Nat.le_of_ble_eq_true rfl⟩ rfl dX8_gapOf_2 (fun r0 q0 => c_Sk_hasPlanet l w _ _ _ _ q0) (fun r11 er11 nr11 => ?_)
    refine j_ifeq C (tgt := 41) dX8_gapOf_5 (by decide) (fun q12 => ?_) (fun q12 => ?_)
    · exact j_sub [] rfl (hj10)
    · refine j_aload_n C dX8_gapOf_8 (i := 0) rfl rfl ?_
      refine j_iload_n C dX8_gapOf_9 (i := 2) rfl rfl ?_
      refine j_callVi C (As := [.int _]) (rest := []) k_X8_62 ⟨Nat.le_of_ble_eq_true rfl, Nat.le_of_ble_eq_true rfl⟩ rfl (Nat.le_of_ble_eq_true rfl) ⟨Nat.le_of_ble_eq_true rfl, Nat.le_of_ble_eq_true rfl⟩ rfl dX8_gapOf_10 (fun r0 q0 => c_Sk_hasPlanet l w _ _ _ _ q0) (fun r13 er13 nr13 => ?_)
      refine j_ifeq C (tgt := 41) dX8_gapOf_13 (by decide) (fun q14 => ?_) (fun q14 => ?_)
      · exact j_sub [] rfl (hj10)
      · refine j_aload_n C dX8_gapOf_16 (i := 0) rfl rfl ?_
        refine j_getR C g_X8_11 dX8_gapOf_17 (fun v15 ev15 => ?_)
        refine j_iload_n C dX8_gapOf_20 (i := 1) rfl rfl ?_
        refine j_aaload C (t := 3) rfl dX8_gapOf_21 (fun v16 ev16 => ?_)
        refine j_callVi C (As := []) (rest := []) k_X8_69 ⟨Nat.le_of_ble_eq_true rfl, Nat.le_of_ble_eq_true rfl⟩ rfl (Nat.le_of_ble_eq_true rfl) ⟨Nat.le_of_ble_eq_true rfl, Nat.le_of_ble_eq_true rfl⟩ rfl dX8_gapOf_22 (fun r0 q0 => c_Pl_angle l w _ _ _ q0) (fun r17 er17 nr17 => ?_)
        refine j_aload_n C dX8_gapOf_25 (i := 0) rfl rfl ?_
        refine j_getR C g_X8_11 dX8_gapOf_26 (fun v18 ev18 => ?_)
        refine j_iload_n C dX8_gapOf_29 (i := 2) rfl rfl ?_
        refine j_aaload C (t := 3) rfl dX8_gapOf_30 (fun v19 ev19 => ?_)
        refine j_callVi C (As := []) (rest := [_]) k_X8_69 ⟨Nat.le_of_ble_eq_true rfl, Nat.le_of_ble_eq_true rfl⟩ rfl (Nat.le_of_ble_eq_true rfl) ⟨Nat.le_of_ble_eq_true rfl, Nat.le_of_ble_eq_true rfl⟩ rfl dX8_gapOf_31 (fun r0 q0 => c_Pl_angle l w _ _ _ q0) (fun r20 er20 nr20 => ?_)
        refine j_isub C dX8_gapOf_34 ?_
        refine j_callSi C (As := [.int _]) (rest := []) k_X8_82 ⟨Nat.le_of_ble_eq_true rfl, Nat.le_of_ble_eq_true rfl⟩ rfl (Nat.le_of_ble_eq_true rfl) ⟨Nat.le_of_ble_eq_true rfl, Nat.le_of_ble_eq_true rfl⟩ rfl dX8_gapOf_35 (fun r0 q0 => c_Pl_shortest l w _ _ _ q0) (fun r21 er21 nr21 => ?_)
        refine j_goto C (tgt := 42) dX8_gapOf_38 (by decide) ?_
        exact e_iretR C hQ hr rfl hlk dX8_gapOf_42 (Nat.le_of_ble_eq_true rfl) (Nat.le_of_ble_eq_true rfl)
def f_Sk_isRetro (a0 : Nat) (x1 : Int32) (h : hp_M) : Option (Int32) := jn (some 0) fun (j6 : Option (Int32)) => (onO h a0 7 (f_Sk_hasPlanet a0 x1 h)).bind fun r7 => if r7 = 0 then (j6) else ((gR h a0 7 0).bind fun v9 => (gaR h 3 v9 x1).bind fun v10 => (gI h a0 7 4).bind fun v11 => (onO h v10 3 (f_Pl_isRetro v10 v11 h)).bind fun r12 => if r12 = 0 then (j6) else (some 1))
set_option maxRecDepth 100000 in
set_option maxHeartbeats 4000000 in
theorem c_Sk_isRetro (l : Launch) (w : hp_W) (a0 : Nat) (x1 : Int32) (h : hp_M) (out : Int32) (hX : f_Sk_isRetro a0 x1 h = some out) : CT l w yX8_isRetro cX8_isRetro 2 (some .boolean) ({ frames := 1, cells := 0, slots := 0, locals := 21 }) [.ref a0, .int x1] h (some (.int out)) h := by
  unfold f_Sk_isRetro at hX
  refine ct_of (by decide +kernel) (Nat.le_of_ble_eq_true rfl) hX ?_
  intro p e s m args below meth c Q C hr hlk hnm hQ
  refine j_jn (P := fun j6 => J p l e ({ frames := 1, cells := 0, slots := 0, locals := 21 }) s m args below meth c Q w 2 0 0 28 [] [] h (j6) out) ?_ (fun j6 hj6 => ?_)
  · refine j_iconst C (v := 0) dX8_isRetro_28 (by decide) ?_
    exact e_iretR C hQ hr rfl hlk dX8_isRetro_29 (Nat.le_of_ble_eq_true rfl) (Nat.le_of_ble_eq_true rfl)
  · refine j_aload_n C dX8_isRetro_0 (i := 0) rfl rfl ?_
    refine j_iload_n C dX8_isRetro_1 (i := 1) rfl rfl ?_
    refine j_callVi C (As := [.int _]) (rest := []) k_X8_62 ⟨Nat.le_of_ble_eq_true rfl, Nat.le_of_ble_eq_true rfl⟩ rfl (Nat.le_of_ble_eq_true rfl) ⟨Nat.le_of_ble_eq_true rfl, Nat.le_of_ble_eq_true rfl⟩ rfl dX8_isRetro_2 (fun r0 q0 => c_Sk_hasPlanet l w _ _ _ _ q0) (fun r7 er7 nr7 => ?_)
    refine j_ifeq C (tgt := 28) dX8_isRetro_5 (by decide) (fun q8 => ?_) (fun q8 => ?_)
    · exact j_sub [] rfl (hj6)
    · refine j_aload_n C dX8_isRetro_8 (i := 0) rfl rfl ?_
      refine j_getR C g_X8_11 dX8_isRetro_9 (fun v9 ev9 => ?_)
      refine j_iload_n C dX8_isRetro_12 (i := 1) rfl rfl ?_
      refine j_aaload C (t := 3) rfl dX8_isRetro_13 (fun v10 ev10 => ?_)
      refine j_aload_n C dX8_isRetro_14 (i := 0) rfl rfl ?_
      refine j_getI C g_X8_46 dX8_isRetro_15 (fun v11 ev11 => ?_)
      refine j_callVi C (As := [.int _]) (rest := []) k_X8_75 ⟨Nat.le_of_ble_eq_true rfl, Nat.le_of_ble_eq_true rfl⟩ rfl (Nat.le_of_ble_eq_true rfl) ⟨Nat.le_of_ble_eq_true rfl, Nat.le_of_ble_eq_true rfl⟩ rfl dX8_isRetro_18 (fun r0 q0 => c_Pl_isRetro l w _ _ _ _ q0) (fun r12 er12 nr12 => ?_)
      refine j_ifeq C (tgt := 28) dX8_isRetro_21 (by decide) (fun q13 => ?_) (fun q13 => ?_)
      · exact j_sub [] rfl (hj6)
      · refine j_iconst C (v := 1) dX8_isRetro_24 (by decide) ?_
        refine j_goto C (tgt := 29) dX8_isRetro_25 (by decide) ?_
        exact e_iretR C hQ hr rfl hlk dX8_isRetro_29 (Nat.le_of_ble_eq_true rfl) (Nat.le_of_ble_eq_true rfl)
def f_Sk_isInside (a0 : Nat) (x1 : Int32) (x2 : Int32) (h : hp_M) : Option (Int32) := jn (some 0) fun (j9 : Option (Int32)) => (onO h a0 7 (f_Sk_hasPlanet a0 x1 h)).bind fun r10 => if r10 = 0 then (j9) else ((onO h a0 7 (f_Sk_hasPlanet a0 x2 h)).bind fun r12 => if r12 = 0 then (j9) else ((gR h a0 7 0).bind fun v14 => (gaR h 3 v14 x1).bind fun v15 => (onO h v15 3 (f_Pl_rail v15 h)).bind fun r16 => (gR h a0 7 0).bind fun v17 => (gaR h 3 v17 x2).bind fun v18 => (onO h v18 3 (f_Pl_rail v18 h)).bind fun r19 => if r19 < r16 then (j9) else (some 1)))
set_option maxRecDepth 100000 in
set_option maxHeartbeats 4000000 in
theorem c_Sk_isInside (l : Launch) (w : hp_W) (a0 : Nat) (x1 : Int32) (x2 : Int32) (h : hp_M) (out : Int32) (hX : f_Sk_isInside a0 x1 x2 h = some out) : CT l w yX8_isInside cX8_isInside 3 (some .boolean) ({ frames := 1, cells := 0, slots := 0, locals := 21 }) [.ref a0, .int x1, .int x2] h (some (.int out)) h := by
  unfold f_Sk_isInside at hX
  refine ct_of (by decide +kernel) (Nat.le_of_ble_eq_true rfl) hX ?_
  intro p e s m args below meth c Q C hr hlk hnm hQ
  refine j_jn (P := fun j9 => J p l e ({ frames := 1, cells := 0, slots := 0, locals := 21 }) s m args below meth c Q w 3 0 0 41 [] [] h (j9) out) ?_ (fun j9 hj9 => ?_)
  · refine j_iconst C (v := 0) dX8_isInside_41 (by decide) ?_
    exact e_iretR C hQ hr rfl hlk dX8_isInside_42 (Nat.le_of_ble_eq_true rfl) (Nat.le_of_ble_eq_true rfl)
  · refine j_aload_n C dX8_isInside_0 (i := 0) rfl rfl ?_
    refine j_iload_n C dX8_isInside_1 (i := 1) rfl rfl ?_
    refine j_callVi C (As := [.int _]) (rest := []) k_X8_62 ⟨Nat.le_of_ble_eq_true rfl, Nat.le_of_ble_eq_true rfl⟩ rfl (Nat.le_of_ble_eq_true rfl) ⟨Nat.le_of_ble_eq_true rfl, Nat.le_of_ble_eq_true rfl⟩ rfl dX8_isInside_2 (fun r0 q0 => c_Sk_hasPlanet l w _ _ _ _ q0) (fun r10 er10 nr10 => ?_)
    refine j_ifeq C (tgt := 41) dX8_isInside_5 (by decide) (fun q11 => ?_) (fun q11 => ?_)
    · exact j_sub [] rfl (hj9)
    · refine j_aload_n C dX8_isInside_8 (i := 0) rfl rfl ?_
      refine j_iload_n C dX8_isInside_9 (i := 2) rfl rfl ?_
      refine j_callVi C (As := [.int _]) (rest := []) k_X8_62 ⟨Nat.le_of_ble_eq_true rfl, Nat.le_of_ble_eq_true rfl⟩ rfl (Nat.le_of_ble_eq_true rfl) ⟨Nat.le_of_ble_eq_true rfl, Nat.le_of_ble_eq_true rfl⟩ rfl dX8_isInside_10 (fun r0 q0 => c_Sk_hasPlanet l w _ _ _ _ q0) (fun r12 er12 nr12 => ?_)
      refine j_ifeq C (tgt := 41) dX8_isInside_13 (by decide) (fun q13 => ?_) (fun q13 => ?_)
      · exact j_sub [] rfl (hj9)
      · refine j_aload_n C dX8_isInside_16 (i := 0) rfl rfl ?_
        refine j_getR C g_X8_11 dX8_isInside_17 (fun v14 ev14 => ?_)
        refine j_iload_n C dX8_isInside_20 (i := 1) rfl rfl ?_
        refine j_aaload C (t := 3) rfl dX8_isInside_21 (fun v15 ev15 => ?_)
        refine j_callVi C (As := []) (rest := []) k_X8_92 ⟨Nat.le_of_ble_eq_true rfl, Nat.le_of_ble_eq_true rfl⟩ rfl (Nat.le_of_ble_eq_true rfl) ⟨Nat.le_of_ble_eq_true rfl, Nat.le_of_ble_eq_true rfl⟩ rfl dX8_isInside_22 (fun r0 q0 => c_Pl_rail l w _ _ _ q0) (fun r16 er16 nr16 => ?_)
        refine j_aload_n C dX8_isInside_25 (i := 0) rfl rfl ?_
        refine j_getR C g_X8_11 dX8_isInside_26 (fun v17 ev17 => ?_)
        refine j_iload_n C dX8_isInside_29 (i := 2) rfl rfl ?_
        refine j_aaload C (t := 3) rfl dX8_isInside_30 (fun v18 ev18 => ?_)
        refine j_callVi C (As := []) (rest := [_]) k_X8_92 ⟨Nat.le_of_ble_eq_true rfl, Nat.le_of_ble_eq_true rfl⟩ rfl (Nat.le_of_ble_eq_true rfl) ⟨Nat.le_of_ble_eq_true rfl, Nat.le_of_ble_eq_true rfl⟩ rfl dX8_isInside_31 (fun r0 q0 => c_Pl_rail l w _ _ _ q0) (fun r19 er19 nr19 => ?_)
        refine j_icmpgt C (tgt := 41) dX8_isInside_34 (by decide) (fun q20 => ?_) (fun q20 => ?_)
        · exact j_sub [] rfl (hj9)
        · refine j_iconst C (v := 1) dX8_isInside_37 (by decide) ?_
          refine j_goto C (tgt := 42) dX8_isInside_38 (by decide) ?_
          exact e_iretR C hQ hr rfl hlk dX8_isInside_42 (Nat.le_of_ble_eq_true rfl) (Nat.le_of_ble_eq_true rfl)
def f_Sk_areMet (a0 : Nat) (x1 : Int32) (x2 : Int32) (x3 : Int32) (h : hp_M) : Option (Int32) := (onO h a0 7 (f_Sk_hasPlanet a0 x1 h)).bind fun r1 => if r1 = 0 then (some 0) else ((onO h a0 7 (f_Sk_hasPlanet a0 x2 h)).bind fun r3 => if r3 = 0 then (some 0) else (jn (fun (u6 : Int32) => (gR h a0 7 0).bind fun v7 => (gaR h 3 v7 x1).bind fun v8 => (onO h v8 3 (f_Pl_angle v8 h)).bind fun r9 => (gR h a0 7 0).bind fun v10 => (gaR h 3 v10 x2).bind fun v11 => (onO h v11 3 (f_Pl_angle v11 h)).bind fun r12 => (f_Pl_shortest ((r9 - r12) - u6) h).bind fun r13 => (gR h a0 7 0).bind fun v14 => (gaR h 3 v14 x1).bind fun v15 => (onO h v15 3 (f_Pl_angleBefore v15 h)).bind fun r16 => (gR h a0 7 0).bind fun v17 => (gaR h 3 v17 x2).bind fun v18 => (onO h v18 3 (f_Pl_angleBefore v18 h)).bind fun r19 => (f_Pl_shortest ((r16 - r19) - u6) h).bind fun r20 => if r13 = 0 then (some 1) else (jn (fun (u23 : Int32) => jn (some 0) fun (j24 : Option (Int32)) => if u23 = 0 then (j24) else (if 180 ≤ ((iabs r20) + (iabs r13)) then (j24) else (some 1))) fun (j22 : Int32 → Option (Int32)) => jn (j22 1) fun (j27 : Option (Int32)) => jn (jn (j22 0) fun (j29 : Option (Int32)) => if r20 ≤ 0 then (j29) else (if 0 ≤ r13 then (j29) else (j27))) fun (j28 : Option (Int32)) => if 0 ≤ r20 then (j28) else (if 0 < r13 then (j27) else (j28)))) fun (j5 : Int32 → Option (Int32)) => if x3 = 0 then (j5 0) else (j5 180)))
set_option maxRecDepth 100000 in
set_option maxHeartbeats 4000000 in
theorem c_Sk_areMet (l : Launch) (w : hp_W) (a0 : Nat) (x1 : Int32) (x2 : Int32) (x3 : Int32) (h : hp_M) (out : Int32) (hX : f_Sk_areMet a0 x1 x2 x3 h = some out) : CT l w yX8_areMet cX8_areMet 8 (some .boolean) ({ frames := 6, cells := 0, slots := 0, locals := 200 }) [.ref a0, .int x1, .int x2, .int x3] h (some (.int out)) h := by
  unfold f_Sk_areMet at hX
  refine ct_of (by decide +kernel) (Nat.le_of_ble_eq_true rfl) hX ?_
  intro p e s m args below meth c Q C hr hlk hnm hQ
  refine j_aload_n C dX8_areMet_0 (i := 0) rfl rfl ?_
  refine j_iload_n C dX8_areMet_1 (i := 1) rfl rfl ?_
  refine j_callVi C (As := [.int _]) (rest := []) k_X8_62 ⟨Nat.le_of_ble_eq_true rfl, Nat.le_of_ble_eq_true rfl⟩ rfl (Nat.le_of_ble_eq_true rfl) ⟨Nat.le_of_ble_eq_true rfl, Nat.le_of_ble_eq_true rfl⟩ rfl dX8_areMet_2 (fun r0 q0 => c_Sk_hasPlanet l w _ _ _ _ q0) (fun r1 er1 nr1 => ?_)
  refine j_ifeq C (tgt := 16) dX8_areMet_5 (by decide) (fun q2 => ?_) (fun q2 => ?_)
  · refine j_iconst C (v := 0) dX8_areMet_16 (by decide) ?_
    exact e_iretR C hQ hr rfl hlk dX8_areMet_17 (Nat.le_of_ble_eq_true rfl) (Nat.le_of_ble_eq_true rfl)
  · refine j_aload_n C dX8_areMet_8 (i := 0) rfl rfl ?_
    refine j_iload_n C dX8_areMet_9 (i := 2) rfl rfl ?_
    refine j_callVi C (As := [.int _]) (rest := []) k_X8_62 ⟨Nat.le_of_ble_eq_true rfl, Nat.le_of_ble_eq_true rfl⟩ rfl (Nat.le_of_ble_eq_true rfl) ⟨Nat.le_of_ble_eq_true rfl, Nat.le_of_ble_eq_true rfl⟩ rfl dX8_areMet_10 (fun r0 q0 => c_Sk_hasPlanet l w _ _ _ _ q0) (fun r3 er3 nr3 => ?_)
    refine j_ifne C (tgt := 18) dX8_areMet_13 (by decide) (fun q4 => ?_) (fun q4 => ?_)
    · refine j_iconst C (v := 0) dX8_areMet_16 (by decide) ?_
      exact e_iretR C hQ hr rfl hlk dX8_areMet_17 (Nat.le_of_ble_eq_true rfl) (Nat.le_of_ble_eq_true rfl)
    · refine j_jn (P := fun (j5 : Int32 → Option (Int32)) => ∀ (u6 : Int32), J p l e ({ frames := 6, cells := 0, slots := 0, locals := 200 }) s m args below meth c Q w 8 0 0 29 [(0, .ref a0), (1, .int x1), (2, .int x2)] [.int u6] h (j5 u6) out) ?_ (fun j5 hj5 => ?_)
      · intro u6
        refine j_istore C [(4, _), (0, _), (1, _), (2, _)] dX8_areMet_29 (by decide) rfl ?_
        refine j_aload_n C dX8_areMet_31 (i := 0) rfl rfl ?_
        refine j_getR C g_X8_11 dX8_areMet_32 (fun v7 ev7 => ?_)
        refine j_iload_n C dX8_areMet_35 (i := 1) rfl rfl ?_
        refine j_aaload C (t := 3) rfl dX8_areMet_36 (fun v8 ev8 => ?_)
        refine j_callVi C (As := []) (rest := []) k_X8_69 ⟨Nat.le_of_ble_eq_true rfl, Nat.le_of_ble_eq_true rfl⟩ rfl (Nat.le_of_ble_eq_true rfl) ⟨Nat.le_of_ble_eq_true rfl, Nat.le_of_ble_eq_true rfl⟩ rfl dX8_areMet_37 (fun r0 q0 => c_Pl_angle l w _ _ _ q0) (fun r9 er9 nr9 => ?_)
        refine j_aload_n C dX8_areMet_40 (i := 0) rfl rfl ?_
        refine j_getR C g_X8_11 dX8_areMet_41 (fun v10 ev10 => ?_)
        refine j_iload_n C dX8_areMet_44 (i := 2) rfl rfl ?_
        refine j_aaload C (t := 3) rfl dX8_areMet_45 (fun v11 ev11 => ?_)
        refine j_callVi C (As := []) (rest := [_]) k_X8_69 ⟨Nat.le_of_ble_eq_true rfl, Nat.le_of_ble_eq_true rfl⟩ rfl (Nat.le_of_ble_eq_true rfl) ⟨Nat.le_of_ble_eq_true rfl, Nat.le_of_ble_eq_true rfl⟩ rfl dX8_areMet_46 (fun r0 q0 => c_Pl_angle l w _ _ _ q0) (fun r12 er12 nr12 => ?_)
        refine j_isub C dX8_areMet_49 ?_
        refine j_iload C dX8_areMet_50 rfl ?_
        refine j_isub C dX8_areMet_52 ?_
        refine j_callSi C (As := [.int _]) (rest := []) k_X8_82 ⟨Nat.le_of_ble_eq_true rfl, Nat.le_of_ble_eq_true rfl⟩ rfl (Nat.le_of_ble_eq_true rfl) ⟨Nat.le_of_ble_eq_true rfl, Nat.le_of_ble_eq_true rfl⟩ rfl dX8_areMet_53 (fun r0 q0 => c_Pl_shortest l w _ _ _ q0) (fun r13 er13 nr13 => ?_)
        refine j_istore C [(5, _), (4, _), (0, _), (1, _), (2, _)] dX8_areMet_56 (by decide) rfl ?_
        refine j_aload_n C dX8_areMet_58 (i := 0) rfl rfl ?_
        refine j_getR C g_X8_11 dX8_areMet_59 (fun v14 ev14 => ?_)
        refine j_iload_n C dX8_areMet_62 (i := 1) rfl rfl ?_
        refine j_aaload C (t := 3) rfl dX8_areMet_63 (fun v15 ev15 => ?_)
        refine j_callVi C (As := []) (rest := []) k_X8_86 ⟨Nat.le_of_ble_eq_true rfl, Nat.le_of_ble_eq_true rfl⟩ rfl (Nat.le_of_ble_eq_true rfl) ⟨Nat.le_of_ble_eq_true rfl, Nat.le_of_ble_eq_true rfl⟩ rfl dX8_areMet_64 (fun r0 q0 => c_Pl_angleBefore l w _ _ _ q0) (fun r16 er16 nr16 => ?_)
        refine j_aload_n C dX8_areMet_67 (i := 0) rfl rfl ?_
        refine j_getR C g_X8_11 dX8_areMet_68 (fun v17 ev17 => ?_)
        refine j_iload_n C dX8_areMet_71 (i := 2) rfl rfl ?_
        refine j_aaload C (t := 3) rfl dX8_areMet_72 (fun v18 ev18 => ?_)
        refine j_callVi C (As := []) (rest := [_]) k_X8_86 ⟨Nat.le_of_ble_eq_true rfl, Nat.le_of_ble_eq_true rfl⟩ rfl (Nat.le_of_ble_eq_true rfl) ⟨Nat.le_of_ble_eq_true rfl, Nat.le_of_ble_eq_true rfl⟩ rfl dX8_areMet_73 (fun r0 q0 => c_Pl_angleBefore l w _ _ _ q0) (fun r19 er19 nr19 => ?_)
        refine j_isub C dX8_areMet_76 ?_
        refine j_iload C dX8_areMet_77 rfl ?_
        refine j_isub C dX8_areMet_79 ?_
        refine j_callSi C (As := [.int _]) (rest := []) k_X8_82 ⟨Nat.le_of_ble_eq_true rfl, Nat.le_of_ble_eq_true rfl⟩ rfl (Nat.le_of_ble_eq_true rfl) ⟨Nat.le_of_ble_eq_true rfl, Nat.le_of_ble_eq_true rfl⟩ rfl dX8_areMet_80 (fun r0 q0 => c_Pl_shortest l w _ _ _ q0) (fun r20 er20 nr20 => ?_)
        refine j_istore C [(6, _), (5, _), (4, _), (0, _), (1, _), (2, _)] dX8_areMet_83 (by decide) rfl ?_
        refine j_iload C dX8_areMet_85 rfl ?_
        refine j_ifne C (tgt := 92) dX8_areMet_87 (by decide) (fun q21 => ?_) (fun q21 => ?_)
        · refine j_iconst C (v := 1) dX8_areMet_90 (by decide) ?_
          exact e_iretR C hQ hr rfl hlk dX8_areMet_91 (Nat.le_of_ble_eq_true rfl) (Nat.le_of_ble_eq_true rfl)
        · refine j_jn (P := fun (j22 : Int32 → Option (Int32)) => ∀ (u23 : Int32), J p l e ({ frames := 6, cells := 0, slots := 0, locals := 200 }) s m args below meth c Q w 8 0 0 117 [(5, .int r13), (6, .int r20)] [.int u23] h (j22 u23) out) ?_ (fun j22 hj22 => ?_)
          · intro u23
            refine j_jn (P := fun j24 => J p l e ({ frames := 6, cells := 0, slots := 0, locals := 200 }) s m args below meth c Q w 8 0 0 145 [] [] h (j24) out) ?_ (fun j24 hj24 => ?_)
            · refine j_iconst C (v := 0) dX8_areMet_145 (by decide) ?_
              exact e_iretR C hQ hr rfl hlk dX8_areMet_146 (Nat.le_of_ble_eq_true rfl) (Nat.le_of_ble_eq_true rfl)
            · refine j_istore C [(7, _), (5, _), (6, _)] dX8_areMet_117 (by decide) rfl ?_
              refine j_iload C dX8_areMet_119 rfl ?_
              refine j_ifeq C (tgt := 145) dX8_areMet_121 (by decide) (fun q25 => ?_) (fun q25 => ?_)
              · exact j_sub [] rfl (hj24)
              · refine j_iload C dX8_areMet_124 rfl ?_
                refine j_mabs C ⟨k_X8_89, Nat.le_of_ble_eq_true rfl, Nat.le_of_ble_eq_true rfl⟩ (Nat.le_of_ble_eq_true rfl) (Nat.le_of_ble_eq_true rfl) dX8_areMet_126 ?_
                refine j_iload C dX8_areMet_129 rfl ?_
                refine j_mabs C ⟨k_X8_89, Nat.le_of_ble_eq_true rfl, Nat.le_of_ble_eq_true rfl⟩ (Nat.le_of_ble_eq_true rfl) (Nat.le_of_ble_eq_true rfl) dX8_areMet_131 ?_
                refine j_iadd C dX8_areMet_134 ?_
                refine j_sipush C (v := 180) dX8_areMet_135 (by decide) ?_
                refine j_icmpge C (tgt := 145) dX8_areMet_138 (by decide) (fun q26 => ?_) (fun q26 => ?_)
                · exact j_sub [] rfl (hj24)
                · refine j_iconst C (v := 1) dX8_areMet_141 (by decide) ?_
                  refine j_goto C (tgt := 146) dX8_areMet_142 (by decide) ?_
                  exact e_iretR C hQ hr rfl hlk dX8_areMet_146 (Nat.le_of_ble_eq_true rfl) (Nat.le_of_ble_eq_true rfl)
          · refine j_jn (P := fun j27 => J p l e ({ frames := 6, cells := 0, slots := 0, locals := 200 }) s m args below meth c Q w 8 0 0 112 [(5, .int r13), (6, .int r20)] [] h (j27) out) ?_ (fun j27 hj27 => ?_)
            · refine j_iconst C (v := 1) dX8_areMet_112 (by decide) ?_
              refine j_goto C (tgt := 117) dX8_areMet_113 (by decide) ?_
              exact hj22 _
            · refine j_jn (P := fun j28 => J p l e ({ frames := 6, cells := 0, slots := 0, locals := 200 }) s m args below meth c Q w 8 0 0 102 [(5, .int r13), (6, .int r20)] [] h (j28) out) ?_ (fun j28 hj28 => ?_)
              · refine j_jn (P := fun j29 => J p l e ({ frames := 6, cells := 0, slots := 0, locals := 200 }) s m args below meth c Q w 8 0 0 116 [(5, .int r13), (6, .int r20)] [] h (j29) out) ?_ (fun j29 hj29 => ?_)
                · refine j_iconst C (v := 0) dX8_areMet_116 (by decide) ?_
                  exact hj22 _
                · refine j_iload C dX8_areMet_102 rfl ?_
                  refine j_ifle C (tgt := 116) dX8_areMet_104 (by decide) (fun q30 => ?_) (fun q30 => ?_)
                  · exact hj29
                  · refine j_iload C dX8_areMet_107 rfl ?_
                    refine j_ifge C (tgt := 116) dX8_areMet_109 (by decide) (fun q31 => ?_) (fun q31 => ?_)
                    · exact hj29
                    · exact hj27
              · refine j_iload C dX8_areMet_92 rfl ?_
                refine j_ifge C (tgt := 102) dX8_areMet_94 (by decide) (fun q32 => ?_) (fun q32 => ?_)
                · exact j_sub [1, 0] rfl (hj28)
                · refine j_iload C dX8_areMet_97 rfl ?_
                  refine j_ifgt C (tgt := 112) dX8_areMet_99 (by decide) (fun q33 => ?_) (fun q33 => ?_)
                  · exact j_sub [1, 0] rfl (hj27)
                  · exact j_sub [1, 0] rfl (hj28)
      · refine j_iload_n C dX8_areMet_18 (i := 3) rfl rfl ?_
        refine j_ifeq C (tgt := 28) dX8_areMet_19 (by decide) (fun q34 => ?_) (fun q34 => ?_)
        · refine j_iconst C (v := 0) dX8_areMet_28 (by decide) ?_
          exact j_sub [0, 1, 2] rfl (hj5 _)
        · refine j_sipush C (v := 180) dX8_areMet_22 (by decide) ?_
          refine j_goto C (tgt := 29) dX8_areMet_25 (by decide) ?_
          exact j_sub [0, 1, 2] rfl (hj5 _)
def f_Pr_asked (x0 : Int32) (x1 : Int32) (x2 : Int32) (a3 : Nat) (h : hp_M) : Option (Int32) := if x0 = 0 then (some x1) else if x0 = 1 then ((onO h a3 7 (f_Sk_day a3 h)).bind fun r3 => some r3) else if x0 = 2 then ((onO h a3 7 (f_Sk_paper a3 h)).bind fun r5 => (onO h r5 2 (f_Pp_size r5 h)).bind fun r6 => some r6) else if x0 = 3 then ((onO h a3 7 (f_Sk_angleOf a3 x1 h)).bind fun r8 => some r8) else if x0 = 4 then ((onO h a3 7 (f_Sk_lapOf a3 x1 h)).bind fun r10 => some r10) else if x0 = 5 then ((onO h a3 7 (f_Sk_gapOf a3 x1 x2 h)).bind fun r12 => some r12) else if x0 = 6 then ((onO h a3 7 (f_Sk_isRetro a3 x1 h)).bind fun r14 => (f_Pr_truth r14 h).bind fun r15 => some r15) else if x0 = 7 then (jn (fun (u20 : Int32) => (f_Pr_truth u20 h).bind fun r21 => some r21) fun (j19 : Int32 → Option (Int32)) => jn (j19 0) fun (j25 : Option (Int32)) => (onO h a3 7 (f_Sk_isInside a3 x1 x2 h)).bind fun r26 => if r26 = 0 then (j25) else ((onO h a3 7 (f_Sk_areMet a3 x1 x2 0 h)).bind fun r28 => if r28 = 0 then (j25) else (j19 1))) else ((onO h a3 7 (f_Sk_areMet a3 x1 x2 1 h)).bind fun r30 => (f_Pr_truth r30 h).bind fun r31 => some r31)
set_option maxRecDepth 100000 in
set_option maxHeartbeats 4000000 in
theorem c_Pr_asked (l : Launch) (w : hp_W) (x0 : Int32) (x1 : Int32) (x2 : Int32) (a3 : Nat) (h : hp_M) (out : Int32) (hX : f_Pr_asked x0 x1 x2 a3 h = some out) : CT l w yX5_asked cX5_asked 4 (some .int) ({ frames := 7, cells := 0, slots := 0, locals := 227 }) [.int x0, .int x1, .int x2, .ref a3] h (some (.int out)) h := by
  unfold f_Pr_asked at hX
  refine ct_of (by decide +kernel) (Nat.le_of_ble_eq_true rfl) hX ?_
  intro p e s m args below meth c Q C hr hlk hnm hQ
  refine j_iload_n C dX5_asked_0 (i := 0) rfl rfl ?_
  refine j_ite (fun q1 => ?_) (fun q1 => ?_)
  · refine j_tin C (tgt := 48) dX5_asked_1 (by rw [q1]; decide) (by rw [q1]; decide) (by rw [q1]; rfl) (by decide) ?_
    refine j_iload_n C dX5_asked_48 (i := 1) rfl rfl ?_
    exact e_iretR C hQ hr rfl hlk dX5_asked_49 (Nat.le_of_ble_eq_true rfl) (Nat.le_of_ble_eq_true rfl)
  refine j_ite (fun q2 => ?_) (fun q2 => ?_)
  · refine j_tin C (tgt := 50) dX5_asked_1 (by rw [q2]; decide) (by rw [q2]; decide) (by rw [q2]; rfl) (by decide) ?_
    refine j_aload_n C dX5_asked_50 (i := 3) rfl rfl ?_
    refine j_callVi C (As := []) (rest := []) k_X5_56 ⟨Nat.le_of_ble_eq_true rfl, Nat.le_of_ble_eq_true rfl⟩ rfl (Nat.le_of_ble_eq_true rfl) ⟨Nat.le_of_ble_eq_true rfl, Nat.le_of_ble_eq_true rfl⟩ rfl dX5_asked_51 (fun r0 q0 => c_Sk_day l w _ _ _ q0) (fun r3 er3 nr3 => ?_)
    exact e_iretR C hQ hr rfl hlk dX5_asked_54 (Nat.le_of_ble_eq_true rfl) (Nat.le_of_ble_eq_true rfl)
  refine j_ite (fun q4 => ?_) (fun q4 => ?_)
  · refine j_tin C (tgt := 55) dX5_asked_1 (by rw [q4]; decide) (by rw [q4]; decide) (by rw [q4]; rfl) (by decide) ?_
    refine j_aload_n C dX5_asked_55 (i := 3) rfl rfl ?_
    refine j_callVr C (As := []) (rest := []) k_X5_61 ⟨Nat.le_of_ble_eq_true rfl, Nat.le_of_ble_eq_true rfl⟩ rfl (Nat.le_of_ble_eq_true rfl) ⟨Nat.le_of_ble_eq_true rfl, Nat.le_of_ble_eq_true rfl⟩ rfl dX5_asked_56 (fun r0 q0 => c_Sk_paper l w _ _ _ q0) (fun r5 er5 nr5 => ?_)
    refine j_callVi C (As := []) (rest := []) k_X5_65 ⟨Nat.le_of_ble_eq_true rfl, Nat.le_of_ble_eq_true rfl⟩ rfl (Nat.le_of_ble_eq_true rfl) ⟨Nat.le_of_ble_eq_true rfl, Nat.le_of_ble_eq_true rfl⟩ rfl dX5_asked_59 (fun r0 q0 => c_Pp_size l w _ _ _ q0) (fun r6 er6 nr6 => ?_)
    exact e_iretR C hQ hr rfl hlk dX5_asked_62 (Nat.le_of_ble_eq_true rfl) (Nat.le_of_ble_eq_true rfl)
  refine j_ite (fun q7 => ?_) (fun q7 => ?_)
  · refine j_tin C (tgt := 63) dX5_asked_1 (by rw [q7]; decide) (by rw [q7]; decide) (by rw [q7]; rfl) (by decide) ?_
    refine j_aload_n C dX5_asked_63 (i := 3) rfl rfl ?_
    refine j_iload_n C dX5_asked_64 (i := 1) rfl rfl ?_
    refine j_callVi C (As := [.int _]) (rest := []) k_X5_69 ⟨Nat.le_of_ble_eq_true rfl, Nat.le_of_ble_eq_true rfl⟩ rfl (Nat.le_of_ble_eq_true rfl) ⟨Nat.le_of_ble_eq_true rfl, Nat.le_of_ble_eq_true rfl⟩ rfl dX5_asked_65 (fun r0 q0 => c_Sk_angleOf l w _ _ _ _ q0) (fun r8 er8 nr8 => ?_)
    exact e_iretR C hQ hr rfl hlk dX5_asked_68 (Nat.le_of_ble_eq_true rfl) (Nat.le_of_ble_eq_true rfl)
  refine j_ite (fun q9 => ?_) (fun q9 => ?_)
  · refine j_tin C (tgt := 69) dX5_asked_1 (by rw [q9]; decide) (by rw [q9]; decide) (by rw [q9]; rfl) (by decide) ?_
    refine j_aload_n C dX5_asked_69 (i := 3) rfl rfl ?_
    refine j_iload_n C dX5_asked_70 (i := 1) rfl rfl ?_
    refine j_callVi C (As := [.int _]) (rest := []) k_X5_73 ⟨Nat.le_of_ble_eq_true rfl, Nat.le_of_ble_eq_true rfl⟩ rfl (Nat.le_of_ble_eq_true rfl) ⟨Nat.le_of_ble_eq_true rfl, Nat.le_of_ble_eq_true rfl⟩ rfl dX5_asked_71 (fun r0 q0 => c_Sk_lapOf l w _ _ _ _ q0) (fun r10 er10 nr10 => ?_)
    exact e_iretR C hQ hr rfl hlk dX5_asked_74 (Nat.le_of_ble_eq_true rfl) (Nat.le_of_ble_eq_true rfl)
  refine j_ite (fun q11 => ?_) (fun q11 => ?_)
  · refine j_tin C (tgt := 75) dX5_asked_1 (by rw [q11]; decide) (by rw [q11]; decide) (by rw [q11]; rfl) (by decide) ?_
    refine j_aload_n C dX5_asked_75 (i := 3) rfl rfl ?_
    refine j_iload_n C dX5_asked_76 (i := 1) rfl rfl ?_
    refine j_iload_n C dX5_asked_77 (i := 2) rfl rfl ?_
    refine j_callVi C (As := [.int _, .int _]) (rest := []) k_X5_76 ⟨Nat.le_of_ble_eq_true rfl, Nat.le_of_ble_eq_true rfl⟩ rfl (Nat.le_of_ble_eq_true rfl) ⟨Nat.le_of_ble_eq_true rfl, Nat.le_of_ble_eq_true rfl⟩ rfl dX5_asked_78 (fun r0 q0 => c_Sk_gapOf l w _ _ _ _ _ q0) (fun r12 er12 nr12 => ?_)
    exact e_iretR C hQ hr rfl hlk dX5_asked_81 (Nat.le_of_ble_eq_true rfl) (Nat.le_of_ble_eq_true rfl)
  refine j_ite (fun q13 => ?_) (fun q13 => ?_)
  · refine j_tin C (tgt := 82) dX5_asked_1 (by rw [q13]; decide) (by rw [q13]; decide) (by rw [q13]; rfl) (by decide) ?_
    refine j_aload_n C dX5_asked_82 (i := 3) rfl rfl ?_
    refine j_iload_n C dX5_asked_83 (i := 1) rfl rfl ?_
    refine j_callVi C (As := [.int _]) (rest := []) k_X5_79 ⟨Nat.le_of_ble_eq_true rfl, Nat.le_of_ble_eq_true rfl⟩ rfl (Nat.le_of_ble_eq_true rfl) ⟨Nat.le_of_ble_eq_true rfl, Nat.le_of_ble_eq_true rfl⟩ rfl dX5_asked_84 (fun r0 q0 => c_Sk_isRetro l w _ _ _ _ q0) (fun r14 er14 nr14 => ?_)
    refine j_callSi C (As := [.int _]) (rest := []) k_X5_83 ⟨Nat.le_of_ble_eq_true rfl, Nat.le_of_ble_eq_true rfl⟩ rfl (Nat.le_of_ble_eq_true rfl) ⟨Nat.le_of_ble_eq_true rfl, Nat.le_of_ble_eq_true rfl⟩ rfl dX5_asked_87 (fun r0 q0 => c_Pr_truth l w _ _ _ q0) (fun r15 er15 nr15 => ?_)
    exact e_iretR C hQ hr rfl hlk dX5_asked_90 (Nat.le_of_ble_eq_true rfl) (Nat.le_of_ble_eq_true rfl)
  refine j_ite (fun q16 => ?_) (fun q16 => ?_)
  · refine j_tin C (tgt := 91) dX5_asked_1 (by rw [q16]; decide) (by rw [q16]; decide) (by rw [q16]; rfl) (by decide) ?_
    refine j_jn (P := fun (j19 : Int32 → Option (Int32)) => ∀ (u20 : Int32), J p l e ({ frames := 7, cells := 0, slots := 0, locals := 227 }) s m args below meth c Q w 4 0 0 115 [] [.int u20] h (j19 u20) out) ?_ (fun j19 hj19 => ?_)
    · intro u20
      refine j_callSi C (As := [.int _]) (rest := []) k_X5_83 ⟨Nat.le_of_ble_eq_true rfl, Nat.le_of_ble_eq_true rfl⟩ rfl (Nat.le_of_ble_eq_true rfl) ⟨Nat.le_of_ble_eq_true rfl, Nat.le_of_ble_eq_true rfl⟩ rfl dX5_asked_115 (fun r0 q0 => c_Pr_truth l w _ _ _ q0) (fun r21 er21 nr21 => ?_)
      exact e_iretR C hQ hr rfl hlk dX5_asked_118 (Nat.le_of_ble_eq_true rfl) (Nat.le_of_ble_eq_true rfl)
    · refine j_jn (P := fun j25 => J p l e ({ frames := 7, cells := 0, slots := 0, locals := 227 }) s m args below meth c Q w 4 0 0 114 [] [] h (j25) out) ?_ (fun j25 hj25 => ?_)
      · refine j_iconst C (v := 0) dX5_asked_114 (by decide) ?_
        exact hj19 _
      · refine j_aload_n C dX5_asked_91 (i := 3) rfl rfl ?_
        refine j_iload_n C dX5_asked_92 (i := 1) rfl rfl ?_
        refine j_iload_n C dX5_asked_93 (i := 2) rfl rfl ?_
        refine j_callVi C (As := [.int _, .int _]) (rest := []) k_X5_87 ⟨Nat.le_of_ble_eq_true rfl, Nat.le_of_ble_eq_true rfl⟩ rfl (Nat.le_of_ble_eq_true rfl) ⟨Nat.le_of_ble_eq_true rfl, Nat.le_of_ble_eq_true rfl⟩ rfl dX5_asked_94 (fun r0 q0 => c_Sk_isInside l w _ _ _ _ _ q0) (fun r26 er26 nr26 => ?_)
        refine j_ifeq C (tgt := 114) dX5_asked_97 (by decide) (fun q27 => ?_) (fun q27 => ?_)
        · exact j_sub [] rfl (hj25)
        · refine j_aload_n C dX5_asked_100 (i := 3) rfl rfl ?_
          refine j_iload_n C dX5_asked_101 (i := 1) rfl rfl ?_
          refine j_iload_n C dX5_asked_102 (i := 2) rfl rfl ?_
          refine j_iconst C (v := 0) dX5_asked_103 (by decide) ?_
          refine j_callVi C (As := [.int _, .int _, .int _]) (rest := []) k_X5_91 ⟨Nat.le_of_ble_eq_true rfl, Nat.le_of_ble_eq_true rfl⟩ rfl (Nat.le_of_ble_eq_true rfl) ⟨Nat.le_of_ble_eq_true rfl, Nat.le_of_ble_eq_true rfl⟩ rfl dX5_asked_104 (fun r0 q0 => c_Sk_areMet l w _ _ _ _ _ _ q0) (fun r28 er28 nr28 => ?_)
          refine j_ifeq C (tgt := 114) dX5_asked_107 (by decide) (fun q29 => ?_) (fun q29 => ?_)
          · exact j_sub [] rfl (hj25)
          · refine j_iconst C (v := 1) dX5_asked_110 (by decide) ?_
            refine j_goto C (tgt := 115) dX5_asked_111 (by decide) ?_
            exact j_sub [] rfl (hj19 _)
  refine j_tout C (tgt := 119) dX5_asked_1 (sw_out 8 (fun i hi => by rcases (show i = 0 ∨ i = 1 ∨ i = 2 ∨ i = 3 ∨ i = 4 ∨ i = 5 ∨ i = 6 ∨ i = 7 by omega) with rfl | rfl | rfl | rfl | rfl | rfl | rfl | rfl <;> first | exact q1 | exact q2 | exact q4 | exact q7 | exact q9 | exact q11 | exact q13 | exact q16) (by decide) (by decide) (by decide)) (by decide) ?_
  refine j_aload_n C dX5_asked_119 (i := 3) rfl rfl ?_
  refine j_iload_n C dX5_asked_120 (i := 1) rfl rfl ?_
  refine j_iload_n C dX5_asked_121 (i := 2) rfl rfl ?_
  refine j_iconst C (v := 1) dX5_asked_122 (by decide) ?_
  refine j_callVi C (As := [.int _, .int _, .int _]) (rest := []) k_X5_91 ⟨Nat.le_of_ble_eq_true rfl, Nat.le_of_ble_eq_true rfl⟩ rfl (Nat.le_of_ble_eq_true rfl) ⟨Nat.le_of_ble_eq_true rfl, Nat.le_of_ble_eq_true rfl⟩ rfl dX5_asked_123 (fun r0 q0 => c_Sk_areMet l w _ _ _ _ _ _ q0) (fun r30 er30 nr30 => ?_)
  refine j_callSi C (As := [.int _]) (rest := []) k_X5_83 ⟨Nat.le_of_ble_eq_true rfl, Nat.le_of_ble_eq_true rfl⟩ rfl (Nat.le_of_ble_eq_true rfl) ⟨Nat.le_of_ble_eq_true rfl, Nat.le_of_ble_eq_true rfl⟩ rfl dX5_asked_126 (fun r0 q0 => c_Pr_truth l w _ _ _ q0) (fun r31 er31 nr31 => ?_)
  exact e_iretR C hQ hr rfl hlk dX5_asked_129 (Nat.le_of_ble_eq_true rfl) (Nat.le_of_ble_eq_true rfl)
def f_Pr_reckon_b12 (fl : Nat) (a0 : Nat) (x2 : Int32) (a3 : Nat) (k120 : hp_M → Option (Int32 × hp_M)) : Nat → Int32 → hp_M → Option (Int32 × hp_M)
  | 0, _, _ => none
  | n + 1, x4, h => if x2 ≤ x4 then (k120 h) else ((gI h a0 4 3).bind fun v1019 => if v1019 ≤ x4 then (k120 h) else (jn (fun (h1030 : hp_M) => f_Pr_reckon_b12 fl a0 x2 a3 k120 n (x4 + 1) h1030) fun (j1029 : hp_M → Option (Int32 × hp_M)) => (gR h a0 4 0).bind fun v1031 => (gaI h v1031 x4).bind fun v1032 => if 9 ≤ v1032 then (if 11 ≤ v1032 then ((onO h a0 4 (f_Pr_pop a0 h)).bind fun r1035 => (onO r1035.2 a0 4 (f_Pr_pop a0 r1035.2)).bind fun r1036 => (f_Pr_joined v1032 r1036.1 r1035.1 r1036.2).bind fun r1037 => (onO r1036.2 a0 4 (f_Pr_push a0 r1037 r1036.2)).bind fun h1038 => j1029 h1038) else ((onO h a0 4 (f_Pr_pop a0 h)).bind fun r1039 => (f_Pr_turned v1032 r1039.1 r1039.2).bind fun r1040 => (onO r1039.2 a0 4 (f_Pr_push a0 r1040 r1039.2)).bind fun h1041 => j1029 h1041)) else ((gR h a0 4 1).bind fun v1042 => (gaI h v1042 x4).bind fun v1043 => (gR h a0 4 2).bind fun v1044 => (gaI h v1044 x4).bind fun v1045 => (f_Pr_asked v1032 v1043 v1045 a3 h).bind fun r1046 => (onO h a0 4 (f_Pr_push a0 r1046 h)).bind fun h1047 => j1029 h1047)))
def f_Pr_reckon (fl : Nat) (a0 : Nat) (x1 : Int32) (x2 : Int32) (a3 : Nat) (h : hp_M) : Option (Int32 × hp_M) := (pF h a0 4 5 (.int 0)).bind fun h1 => f_Pr_reckon_b12 fl a0 x2 a3 (fun (h2 : hp_M) => (onO h2 a0 4 (f_Pr_pop a0 h2)).bind fun r3 => some (r3.1, r3.2)) fl (imax x1 0) h1
set_option maxRecDepth 100000 in
set_option maxHeartbeats 4000000 in
theorem b_Pr_reckon_12 {p : Program} {l : Launch} {e : Env} {s : State} {m : MethodId} {args : Array Value} {below : List Frame} {meth : Method} {c : Code} {Q : State → Prop} {w : hp_W} {out : Int32 × hp_M} (fl : Nat)   (a0 : Nat) (x2 : Int32) (a3 : Nat) (k120 : hp_M → Option (Int32 × hp_M)) (C : Cx p m c cX5_reckon 7 s args RX5 w) (hr : meth.sig.returnType = some .int) (hlk : meth.locks = false) (hnm : meth.name = "reckon") (hQ : QM below w args s ({ frames := 8, cells := 0, slots := 0, locals := 250 }) (some .int) (some (.int out.1)) out.2 = Q) (hk120 : ∀ (hz : hp_M), J p l e ({ frames := 8, cells := 0, slots := 0, locals := 250 }) s m args below meth c Q w 7 0 0 120 [(0, .ref a0)] [] hz (k120 hz) out) : ∀ (n : Nat) (x4 : Int32) (h : hp_M), J p l e ({ frames := 8, cells := 0, slots := 0, locals := 250 }) s m args below meth c Q w 7 0 0 12 [(0, .ref a0), (2, .int x2), (3, .ref a3), (4, .int x4)] [] h (f_Pr_reckon_b12 fl a0 x2 a3 k120 n x4 h) out := by
  intro n
  induction n with
  | zero => intro x4 h; exact j_none
  | succ n ih =>
    intro x4 h
    rw [f_Pr_reckon_b12]
    refine j_iload C dX5_reckon_12 rfl ?_
    refine j_iload_n C dX5_reckon_14 (i := 2) rfl rfl ?_
    refine j_icmpge C (tgt := 120) dX5_reckon_15 (by decide) (fun q1018 => ?_) (fun q1018 => ?_)
    · exact j_sub [0] rfl (hk120 _)
    · refine j_iload C dX5_reckon_18 rfl ?_
      refine j_aload_n C dX5_reckon_20 (i := 0) rfl rfl ?_
      refine j_getI C g_X5_24 dX5_reckon_21 (fun v1019 ev1019 => ?_)
      refine j_icmpge C (tgt := 120) dX5_reckon_24 (by decide) (fun q1020 => ?_) (fun q1020 => ?_)
      · exact j_sub [0] rfl (hk120 _)
      · refine j_jn (P := fun (j1029 : hp_M → Option (Int32 × hp_M)) => ∀ (h1030 : hp_M), J p l e ({ frames := 8, cells := 0, slots := 0, locals := 250 }) s m args below meth c Q w 7 0 0 114 [(0, .ref a0), (2, .int x2), (3, .ref a3), (4, .int x4)] [] h1030 (j1029 h1030) out) ?_ (fun j1029 hj1029 => ?_)
        · intro h1030
          refine j_iinc C (v := x4 + 1) [(4, _), (0, _), (2, _), (3, _)] dX5_reckon_114 rfl rfl (by decide) rfl ?_
          refine j_goto C (tgt := 12) dX5_reckon_117 (by decide) ?_
          exact j_sub [1, 2, 3, 0] rfl (ih _ _)
        · refine j_aload_n C dX5_reckon_27 (i := 0) rfl rfl ?_
          refine j_getR C g_X5_11 dX5_reckon_28 (fun v1031 ev1031 => ?_)
          refine j_iload C dX5_reckon_31 rfl ?_
          refine j_iaload C dX5_reckon_33 (fun v1032 ev1032 => ?_)
          refine j_istore C [(5, _), (0, _), (2, _), (3, _), (4, _)] dX5_reckon_34 (by decide) rfl ?_
          refine j_iload C dX5_reckon_36 rfl ?_
          refine j_bipush C (v := 9) dX5_reckon_38 (by decide) ?_
          refine j_icmpge C (tgt := 70) dX5_reckon_40 (by decide) (fun q1033 => ?_) (fun q1033 => ?_)
          · refine j_iload C dX5_reckon_70 rfl ?_
            refine j_bipush C (v := 11) dX5_reckon_72 (by decide) ?_
            refine j_icmpge C (tgt := 93) dX5_reckon_74 (by decide) (fun q1034 => ?_) (fun q1034 => ?_)
            · refine j_aload_n C dX5_reckon_93 (i := 0) rfl rfl ?_
              refine j_callVim C (As := []) (rest := []) k_X5_45 ⟨Nat.le_of_ble_eq_true rfl, Nat.le_of_ble_eq_true rfl⟩ rfl (Nat.le_of_ble_eq_true rfl) ⟨Nat.le_of_ble_eq_true rfl, Nat.le_of_ble_eq_true rfl⟩ rfl dX5_reckon_94 (fun r0 q0 => c_Pr_pop l w _ _ _ q0) (fun r1035 er1035 nr1035 => ?_)
              refine j_istore C [(6, _), (5, _), (0, _), (2, _), (3, _), (4, _)] dX5_reckon_97 (by decide) rfl ?_
              refine j_aload_n C dX5_reckon_99 (i := 0) rfl rfl ?_
              refine j_iload C dX5_reckon_100 rfl ?_
              refine j_aload_n C dX5_reckon_102 (i := 0) rfl rfl ?_
              refine j_callVim C (As := []) (rest := [_, _]) k_X5_45 ⟨Nat.le_of_ble_eq_true rfl, Nat.le_of_ble_eq_true rfl⟩ rfl (Nat.le_of_ble_eq_true rfl) ⟨Nat.le_of_ble_eq_true rfl, Nat.le_of_ble_eq_true rfl⟩ rfl dX5_reckon_103 (fun r0 q0 => c_Pr_pop l w _ _ _ q0) (fun r1036 er1036 nr1036 => ?_)
              refine j_iload C dX5_reckon_106 rfl ?_
              refine j_callSi C (As := [.int _, .int _, .int _]) (rest := [_]) k_X5_52 ⟨Nat.le_of_ble_eq_true rfl, Nat.le_of_ble_eq_true rfl⟩ rfl (Nat.le_of_ble_eq_true rfl) ⟨Nat.le_of_ble_eq_true rfl, Nat.le_of_ble_eq_true rfl⟩ rfl dX5_reckon_108 (fun r0 q0 => c_Pr_joined l w _ _ _ _ _ q0) (fun r1037 er1037 nr1037 => ?_)
              refine j_callVv C (As := [.int _]) (rest := []) k_X5_41 ⟨Nat.le_of_ble_eq_true rfl, Nat.le_of_ble_eq_true rfl⟩ rfl (Nat.le_of_ble_eq_true rfl) ⟨Nat.le_of_ble_eq_true rfl, Nat.le_of_ble_eq_true rfl⟩ rfl dX5_reckon_111 (fun r0 q0 => c_Pr_push l w _ _ _ _ q0) (fun h1038 eh1038 _ => ?_)
              exact j_sub [2, 3, 4, 5] rfl (hj1029 _)
            · refine j_aload_n C dX5_reckon_77 (i := 0) rfl rfl ?_
              refine j_iload C dX5_reckon_78 rfl ?_
              refine j_aload_n C dX5_reckon_80 (i := 0) rfl rfl ?_
              refine j_callVim C (As := []) (rest := [_, _]) k_X5_45 ⟨Nat.le_of_ble_eq_true rfl, Nat.le_of_ble_eq_true rfl⟩ rfl (Nat.le_of_ble_eq_true rfl) ⟨Nat.le_of_ble_eq_true rfl, Nat.le_of_ble_eq_true rfl⟩ rfl dX5_reckon_81 (fun r0 q0 => c_Pr_pop l w _ _ _ q0) (fun r1039 er1039 nr1039 => ?_)
              refine j_callSi C (As := [.int _, .int _]) (rest := [_]) k_X5_49 ⟨Nat.le_of_ble_eq_true rfl, Nat.le_of_ble_eq_true rfl⟩ rfl (Nat.le_of_ble_eq_true rfl) ⟨Nat.le_of_ble_eq_true rfl, Nat.le_of_ble_eq_true rfl⟩ rfl dX5_reckon_84 (fun r0 q0 => c_Pr_turned l w _ _ _ _ q0) (fun r1040 er1040 nr1040 => ?_)
              refine j_callVv C (As := [.int _]) (rest := []) k_X5_41 ⟨Nat.le_of_ble_eq_true rfl, Nat.le_of_ble_eq_true rfl⟩ rfl (Nat.le_of_ble_eq_true rfl) ⟨Nat.le_of_ble_eq_true rfl, Nat.le_of_ble_eq_true rfl⟩ rfl dX5_reckon_87 (fun r0 q0 => c_Pr_push l w _ _ _ _ q0) (fun h1041 eh1041 _ => ?_)
              refine j_goto C (tgt := 114) dX5_reckon_90 (by decide) ?_
              exact j_sub [1, 2, 3, 4] rfl (hj1029 _)
          · refine j_aload_n C dX5_reckon_43 (i := 0) rfl rfl ?_
            refine j_iload C dX5_reckon_44 rfl ?_
            refine j_aload_n C dX5_reckon_46 (i := 0) rfl rfl ?_
            refine j_getR C g_X5_15 dX5_reckon_47 (fun v1042 ev1042 => ?_)
            refine j_iload C dX5_reckon_50 rfl ?_
            refine j_iaload C dX5_reckon_52 (fun v1043 ev1043 => ?_)
            refine j_aload_n C dX5_reckon_53 (i := 0) rfl rfl ?_
            refine j_getR C g_X5_18 dX5_reckon_54 (fun v1044 ev1044 => ?_)
            refine j_iload C dX5_reckon_57 rfl ?_
            refine j_iaload C dX5_reckon_59 (fun v1045 ev1045 => ?_)
            refine j_aload_n C dX5_reckon_60 (i := 3) rfl rfl ?_
            refine j_callSi C (As := [.int _, .int _, .int _, .ref _]) (rest := [_]) k_X5_37 ⟨Nat.le_of_ble_eq_true rfl, Nat.le_of_ble_eq_true rfl⟩ rfl (Nat.le_of_ble_eq_true rfl) ⟨Nat.le_of_ble_eq_true rfl, Nat.le_of_ble_eq_true rfl⟩ rfl dX5_reckon_61 (fun r0 q0 => c_Pr_asked l w _ _ _ _ _ _ q0) (fun r1046 er1046 nr1046 => ?_)
            refine j_callVv C (As := [.int _]) (rest := []) k_X5_41 ⟨Nat.le_of_ble_eq_true rfl, Nat.le_of_ble_eq_true rfl⟩ rfl (Nat.le_of_ble_eq_true rfl) ⟨Nat.le_of_ble_eq_true rfl, Nat.le_of_ble_eq_true rfl⟩ rfl dX5_reckon_64 (fun r0 q0 => c_Pr_push l w _ _ _ _ q0) (fun h1047 eh1047 _ => ?_)
            refine j_goto C (tgt := 114) dX5_reckon_67 (by decide) ?_
            exact j_sub [1, 2, 3, 4] rfl (hj1029 _)
set_option maxRecDepth 100000 in
set_option maxHeartbeats 4000000 in
theorem c_Pr_reckon (l : Launch) (w : hp_W) (fl : Nat) (a0 : Nat) (x1 : Int32) (x2 : Int32) (a3 : Nat) (h : hp_M) (out : Int32 × hp_M) (hX : f_Pr_reckon fl a0 x1 x2 a3 h = some out) : CT l w yX5_reckon cX5_reckon 7 (some .int) ({ frames := 8, cells := 0, slots := 0, locals := 250 }) [.ref a0, .int x1, .int x2, .ref a3] h (some (.int out.1)) out.2 := by
  unfold f_Pr_reckon at hX
  refine ct_of (by decide +kernel) (Nat.le_of_ble_eq_true rfl) hX ?_
  intro p e s m args below meth c Q C hr hlk hnm hQ
  refine j_aload_n C dX5_reckon_0 (i := 0) rfl rfl ?_
  refine j_iconst C (v := 0) dX5_reckon_1 (by decide) ?_
  refine j_putI C p_X5_28 (fun q => nomatch q) dX5_reckon_2 (fun h1 eh1 => ?_)
  refine j_iload_n C dX5_reckon_5 (i := 1) rfl rfl ?_
  refine j_iconst C (v := 0) dX5_reckon_6 (by decide) ?_
  refine j_mmax C ⟨k_X5_31, Nat.le_of_ble_eq_true rfl, Nat.le_of_ble_eq_true rfl⟩ (Nat.le_of_ble_eq_true rfl) (Nat.le_of_ble_eq_true rfl) dX5_reckon_7 ?_
  refine j_istore C [(4, _), (0, _), (1, _), (2, _), (3, _)] dX5_reckon_10 (by decide) rfl ?_
  refine j_sub [1, 3, 4, 0] rfl (b_Pr_reckon_12 fl  _ _ _ _ C hr hlk hnm hQ (fun h2 => ?_) _ _ _)
  refine j_aload_n C dX5_reckon_120 (i := 0) rfl rfl ?_
  refine j_callVim C (As := []) (rest := []) k_X5_45 ⟨Nat.le_of_ble_eq_true rfl, Nat.le_of_ble_eq_true rfl⟩ rfl (Nat.le_of_ble_eq_true rfl) ⟨Nat.le_of_ble_eq_true rfl, Nat.le_of_ble_eq_true rfl⟩ rfl dX5_reckon_121 (fun r0 q0 => c_Pr_pop l w _ _ _ q0) (fun r3 er3 nr3 => ?_)
  exact e_iretM C hQ hr rfl hlk dX5_reckon_124 (Nat.le_of_ble_eq_true rfl) (Nat.le_of_ble_eq_true rfl)
def f_Bk_holds (fl : Nat) (a0 : Nat) (x1 : Int32) (a2 : Nat) (h : hp_M) : Option (Int32 × hp_M) := jn (fun (h9 : hp_M) => some (0, h9)) fun (j8 : hp_M → Option (Int32 × hp_M)) => (onO h a0 1 (f_Bk_isRule a0 x1 h)).bind fun r10 => if r10 = 0 then (j8 h) else ((gR h a0 1 6).bind fun v12 => (gR h a0 1 7).bind fun v13 => (gaI h v13 x1).bind fun v14 => (gR h a0 1 8).bind fun v15 => (gaI h v15 x1).bind fun v16 => (onO h v12 4 (f_Pr_reckon fl v12 v14 v16 a2 h)).bind fun r17 => if r17.1 = 0 then (j8 r17.2) else (some (1, r17.2)))
set_option maxRecDepth 100000 in
set_option maxHeartbeats 4000000 in
theorem c_Bk_holds (l : Launch) (w : hp_W) (fl : Nat) (a0 : Nat) (x1 : Int32) (a2 : Nat) (h : hp_M) (out : Int32 × hp_M) (hX : f_Bk_holds fl a0 x1 a2 h = some out) : CT l w yX1_holds cX1_holds 3 (some .boolean) ({ frames := 9, cells := 0, slots := 0, locals := 276 }) [.ref a0, .int x1, .ref a2] h (some (.int out.1)) out.2 := by
  unfold f_Bk_holds at hX
  refine ct_of (by decide +kernel) (Nat.le_of_ble_eq_true rfl) hX ?_
  intro p e s m args below meth c Q C hr hlk hnm hQ
  refine j_jn (P := fun (j8 : hp_M → Option (Int32 × hp_M)) => ∀ (h9 : hp_M), J p l e ({ frames := 9, cells := 0, slots := 0, locals := 276 }) s m args below meth c Q w 3 0 0 35 [] [] h9 (j8 h9) out) ?_ (fun j8 hj8 => ?_)
  · intro h9
    refine j_iconst C (v := 0) dX1_holds_35 (by decide) ?_
    exact e_iretM C hQ hr rfl hlk dX1_holds_36 (Nat.le_of_ble_eq_true rfl) (Nat.le_of_ble_eq_true rfl)
  · refine j_aload_n C dX1_holds_0 (i := 0) rfl rfl ?_
    refine j_iload_n C dX1_holds_1 (i := 1) rfl rfl ?_
    refine j_callVi C (As := [.int _]) (rest := []) k_X1_90 ⟨Nat.le_of_ble_eq_true rfl, Nat.le_of_ble_eq_true rfl⟩ rfl (Nat.le_of_ble_eq_true rfl) ⟨Nat.le_of_ble_eq_true rfl, Nat.le_of_ble_eq_true rfl⟩ rfl dX1_holds_2 (fun r0 q0 => c_Bk_isRule l w _ _ _ _ q0) (fun r10 er10 nr10 => ?_)
    refine j_ifeq C (tgt := 35) dX1_holds_5 (by decide) (fun q11 => ?_) (fun q11 => ?_)
    · exact j_sub [] rfl (hj8 _)
    · refine j_aload_n C dX1_holds_8 (i := 0) rfl rfl ?_
      refine j_getR C g_X1_31 dX1_holds_9 (fun v12 ev12 => ?_)
      refine j_aload_n C dX1_holds_12 (i := 0) rfl rfl ?_
      refine j_getR C g_X1_35 dX1_holds_13 (fun v13 ev13 => ?_)
      refine j_iload_n C dX1_holds_16 (i := 1) rfl rfl ?_
      refine j_iaload C dX1_holds_17 (fun v14 ev14 => ?_)
      refine j_aload_n C dX1_holds_18 (i := 0) rfl rfl ?_
      refine j_getR C g_X1_39 dX1_holds_19 (fun v15 ev15 => ?_)
      refine j_iload_n C dX1_holds_22 (i := 1) rfl rfl ?_
      refine j_iaload C dX1_holds_23 (fun v16 ev16 => ?_)
      refine j_aload_n C dX1_holds_24 (i := 2) rfl rfl ?_
      refine j_callVim C (As := [.int _, .int _, .ref _]) (rest := []) k_X1_93 ⟨Nat.le_of_ble_eq_true rfl, Nat.le_of_ble_eq_true rfl⟩ rfl (Nat.le_of_ble_eq_true rfl) ⟨Nat.le_of_ble_eq_true rfl, Nat.le_of_ble_eq_true rfl⟩ rfl dX1_holds_25 (fun r0 q0 => c_Pr_reckon l w fl _ _ _ _ _ _ q0) (fun r17 er17 nr17 => ?_)
      refine j_ifeq C (tgt := 35) dX1_holds_28 (by decide) (fun q18 => ?_) (fun q18 => ?_)
      · exact j_sub [] rfl (hj8 _)
      · refine j_iconst C (v := 1) dX1_holds_31 (by decide) ?_
        refine j_goto C (tgt := 36) dX1_holds_32 (by decide) ?_
        exact e_iretM C hQ hr rfl hlk dX1_holds_36 (Nat.le_of_ble_eq_true rfl) (Nat.le_of_ble_eq_true rfl)
def f_Bk_sumOf (fl : Nat) (a0 : Nat) (x1 : Int32) (a2 : Nat) (h : hp_M) : Option (Int32 × hp_M) := (onO h a0 1 (f_Bk_isRule a0 x1 h)).bind fun r1 => if r1 = 0 then (some (0, h)) else ((gR h a0 1 6).bind fun v3 => (gR h a0 1 8).bind fun v4 => (gaI h v4 x1).bind fun v5 => (gR h a0 1 9).bind fun v6 => (gaI h v6 x1).bind fun v7 => (onO h v3 4 (f_Pr_reckon fl v3 v5 v7 a2 h)).bind fun r8 => some (r8.1, r8.2))
set_option maxRecDepth 100000 in
set_option maxHeartbeats 4000000 in
theorem c_Bk_sumOf (l : Launch) (w : hp_W) (fl : Nat) (a0 : Nat) (x1 : Int32) (a2 : Nat) (h : hp_M) (out : Int32 × hp_M) (hX : f_Bk_sumOf fl a0 x1 a2 h = some out) : CT l w yX1_sumOf cX1_sumOf 3 (some .int) ({ frames := 9, cells := 0, slots := 0, locals := 276 }) [.ref a0, .int x1, .ref a2] h (some (.int out.1)) out.2 := by
  unfold f_Bk_sumOf at hX
  refine ct_of (by decide +kernel) (Nat.le_of_ble_eq_true rfl) hX ?_
  intro p e s m args below meth c Q C hr hlk hnm hQ
  refine j_aload_n C dX1_sumOf_0 (i := 0) rfl rfl ?_
  refine j_iload_n C dX1_sumOf_1 (i := 1) rfl rfl ?_
  refine j_callVi C (As := [.int _]) (rest := []) k_X1_90 ⟨Nat.le_of_ble_eq_true rfl, Nat.le_of_ble_eq_true rfl⟩ rfl (Nat.le_of_ble_eq_true rfl) ⟨Nat.le_of_ble_eq_true rfl, Nat.le_of_ble_eq_true rfl⟩ rfl dX1_sumOf_2 (fun r0 q0 => c_Bk_isRule l w _ _ _ _ q0) (fun r1 er1 nr1 => ?_)
  refine j_ifeq C (tgt := 31) dX1_sumOf_5 (by decide) (fun q2 => ?_) (fun q2 => ?_)
  · refine j_iconst C (v := 0) dX1_sumOf_31 (by decide) ?_
    exact e_iretM C hQ hr rfl hlk dX1_sumOf_32 (Nat.le_of_ble_eq_true rfl) (Nat.le_of_ble_eq_true rfl)
  · refine j_aload_n C dX1_sumOf_8 (i := 0) rfl rfl ?_
    refine j_getR C g_X1_31 dX1_sumOf_9 (fun v3 ev3 => ?_)
    refine j_aload_n C dX1_sumOf_12 (i := 0) rfl rfl ?_
    refine j_getR C g_X1_39 dX1_sumOf_13 (fun v4 ev4 => ?_)
    refine j_iload_n C dX1_sumOf_16 (i := 1) rfl rfl ?_
    refine j_iaload C dX1_sumOf_17 (fun v5 ev5 => ?_)
    refine j_aload_n C dX1_sumOf_18 (i := 0) rfl rfl ?_
    refine j_getR C g_X1_42 dX1_sumOf_19 (fun v6 ev6 => ?_)
    refine j_iload_n C dX1_sumOf_22 (i := 1) rfl rfl ?_
    refine j_iaload C dX1_sumOf_23 (fun v7 ev7 => ?_)
    refine j_aload_n C dX1_sumOf_24 (i := 2) rfl rfl ?_
    refine j_callVim C (As := [.int _, .int _, .ref _]) (rest := []) k_X1_93 ⟨Nat.le_of_ble_eq_true rfl, Nat.le_of_ble_eq_true rfl⟩ rfl (Nat.le_of_ble_eq_true rfl) ⟨Nat.le_of_ble_eq_true rfl, Nat.le_of_ble_eq_true rfl⟩ rfl dX1_sumOf_25 (fun r0 q0 => c_Pr_reckon l w fl _ _ _ _ _ _ q0) (fun r8 er8 nr8 => ?_)
    refine j_goto C (tgt := 32) dX1_sumOf_28 (by decide) ?_
    exact e_iretM C hQ hr rfl hlk dX1_sumOf_32 (Nat.le_of_ble_eq_true rfl) (Nat.le_of_ble_eq_true rfl)
def f_Sc_init (a0 : Nat) (a1 : Nat) (h : hp_M) : Option (hp_M) := (pF (hN h (aR 2 401 (fun _ => none))) a0 6 1 (.ref h.2)).bind fun h1 => (pF (hN h1 (aI 401 (fun _ => 0))) a0 6 2 (.ref h1.2)).bind fun h2 => (pF (hN h2 (aI 401 (fun _ => 0))) a0 6 3 (.ref h2.2)).bind fun h3 => (pF (hN h3 (aL 401 (fun _ => 0))) a0 6 4 (.ref h3.2)).bind fun h4 => (pF (hN h4 (aI 401 (fun _ => 0))) a0 6 5 (.ref h4.2)).bind fun h5 => (pF h5 a0 6 0 (.ref a1)).bind fun h6 => some h6
set_option maxRecDepth 100000 in
set_option maxHeartbeats 4000000 in
theorem c_Sc_init (l : Launch) (w : hp_W) (a0 : Nat) (a1 : Nat) (h : hp_M) (out : hp_M) (hX : f_Sc_init a0 a1 h = some out) : CT l w yX7_init cX7_init 2 none ({ frames := 1, cells := 5, slots := 2005, locals := 32 }) [.ref a0, .ref a1] h none out := by
  unfold f_Sc_init at hX
  refine ct_of (by decide +kernel) (Nat.le_of_ble_eq_true rfl) hX ?_
  intro p e s m args below meth c Q C hr hlk hnm hQ
  refine j_aload_n C dX7_init_0 (i := 0) rfl rfl ?_
  refine j_objInit C k_X7_3 k_oi k_oc dX7_init_1 (Nat.le_of_ble_eq_true rfl) (Nat.le_of_ble_eq_true rfl) ?_
  refine j_aload_n C dX7_init_4 (i := 0) rfl rfl ?_
  refine j_sipush C (v := 401) dX7_init_5 (by decide) ?_
  refine j_newR C (N := 401) (t := 2) rfl v_X7_9 C.2.1.2.2.2.2.2.2.2.1 (by decide) (by decide) (Nat.le_of_ble_eq_true rfl) (Nat.le_of_ble_eq_true rfl) (Nat.le_of_ble_eq_true rfl) dX7_init_8 ?_
  refine j_putR C p_X7_11 (fun _ => hnm) dX7_init_11 rfl rfl (fun h1 eh1 => ?_)
  refine j_aload_n C dX7_init_14 (i := 0) rfl rfl ?_
  refine j_sipush C (v := 401) dX7_init_15 (by decide) ?_
  refine j_newI C (N := 401) k_arr_int (by decide) (by decide) (Nat.le_of_ble_eq_true rfl) (Nat.le_of_ble_eq_true rfl) (Nat.le_of_ble_eq_true rfl) dX7_init_18 ?_
  refine j_putR C p_X7_15 (fun _ => hnm) dX7_init_20 rfl rfl (fun h2 eh2 => ?_)
  refine j_aload_n C dX7_init_23 (i := 0) rfl rfl ?_
  refine j_sipush C (v := 401) dX7_init_24 (by decide) ?_
  refine j_newI C (N := 401) k_arr_int (by decide) (by decide) (Nat.le_of_ble_eq_true rfl) (Nat.le_of_ble_eq_true rfl) (Nat.le_of_ble_eq_true rfl) dX7_init_27 ?_
  refine j_putR C p_X7_19 (fun _ => hnm) dX7_init_29 rfl rfl (fun h3 eh3 => ?_)
  refine j_aload_n C dX7_init_32 (i := 0) rfl rfl ?_
  refine j_sipush C (v := 401) dX7_init_33 (by decide) ?_
  refine j_newL C (N := 401) k_arr_long (by decide) (by decide) (Nat.le_of_ble_eq_true rfl) (Nat.le_of_ble_eq_true rfl) (Nat.le_of_ble_eq_true rfl) dX7_init_36 ?_
  refine j_putR C p_X7_22 (fun _ => hnm) dX7_init_38 rfl rfl (fun h4 eh4 => ?_)
  refine j_aload_n C dX7_init_41 (i := 0) rfl rfl ?_
  refine j_sipush C (v := 401) dX7_init_42 (by decide) ?_
  refine j_newI C (N := 401) k_arr_int (by decide) (by decide) (Nat.le_of_ble_eq_true rfl) (Nat.le_of_ble_eq_true rfl) (Nat.le_of_ble_eq_true rfl) dX7_init_45 ?_
  refine j_putR C p_X7_26 (fun _ => hnm) dX7_init_47 rfl rfl (fun h5 eh5 => ?_)
  refine j_aload_n C dX7_init_50 (i := 0) rfl rfl ?_
  refine j_aload_n C dX7_init_51 (i := 1) rfl rfl ?_
  refine j_putR C p_X7_29 (fun _ => hnm) dX7_init_52 rfl rfl (fun h6 eh6 => ?_)
  exact e_vretM C hQ hr hlk dX7_init_55 (Nat.le_of_ble_eq_true rfl) (Nat.le_of_ble_eq_true rfl)
def f_Sc_skipBlanks_b0 (fl : Nat) (a0 : Nat) : Nat → hp_M → Option (hp_M)
  | 0, _ => none
  | n + 1, h => (gI h a0 6 8).bind fun v1001 => (gR h a0 6 0).bind fun v1002 => (onO h v1002 8 (f_Tp_size v1002 h)).bind fun r1003 => if r1003 ≤ v1001 then (some h) else (jn ((gI h a0 6 8).bind fun v1012 => (pF h a0 6 8 (.int (v1012 + 1))).bind fun h1013 => f_Sc_skipBlanks_b0 fl a0 n h1013) fun (j1011 : Option (hp_M)) => (gR h a0 6 0).bind fun v1014 => (gI h a0 6 8).bind fun v1015 => (onO h v1014 8 (f_Tp_at v1014 v1015 h)).bind fun r1016 => if r1016 = 32 then (j1011) else ((gR h a0 6 0).bind fun v1018 => (gI h a0 6 8).bind fun v1019 => (onO h v1018 8 (f_Tp_at v1018 v1019 h)).bind fun r1020 => if r1020 = 10 then (j1011) else (some h)))
def f_Sc_skipBlanks (fl : Nat) (a0 : Nat) (h : hp_M) : Option (hp_M) := f_Sc_skipBlanks_b0 fl a0 fl h
set_option maxRecDepth 100000 in
set_option maxHeartbeats 4000000 in
theorem b_Sc_skipBlanks_0 {p : Program} {l : Launch} {e : Env} {s : State} {m : MethodId} {args : Array Value} {below : List Frame} {meth : Method} {c : Code} {Q : State → Prop} {w : hp_W} {out : hp_M} (fl : Nat)   (a0 : Nat) (C : Cx p m c cX7_skipBlanks 1 s args RX7 w) (hr : meth.sig.returnType = none) (hlk : meth.locks = false) (hnm : meth.name = "skipBlanks") (hQ : QM below w args s ({ frames := 1, cells := 0, slots := 0, locals := 21 }) none none out = Q)  : ∀ (n : Nat) (h : hp_M), J p l e ({ frames := 1, cells := 0, slots := 0, locals := 21 }) s m args below meth c Q w 1 0 0 0 [(0, .ref a0)] [] h (f_Sc_skipBlanks_b0 fl a0 n h) out := by
  intro n
  induction n with
  | zero => intro h; exact j_none
  | succ n ih =>
    intro h
    rw [f_Sc_skipBlanks_b0]
    refine j_aload_n C dX7_skipBlanks_0 (i := 0) rfl rfl ?_
    refine j_getI C g_X7_37 dX7_skipBlanks_1 (fun v1001 ev1001 => ?_)
    refine j_aload_n C dX7_skipBlanks_4 (i := 0) rfl rfl ?_
    refine j_getR C g_X7_29 dX7_skipBlanks_5 (fun v1002 ev1002 => ?_)
    refine j_callVi C (As := []) (rest := [_]) k_X7_70 ⟨Nat.le_of_ble_eq_true rfl, Nat.le_of_ble_eq_true rfl⟩ rfl (Nat.le_of_ble_eq_true rfl) ⟨Nat.le_of_ble_eq_true rfl, Nat.le_of_ble_eq_true rfl⟩ rfl dX7_skipBlanks_8 (fun r0 q0 => c_Tp_size l w _ _ _ q0) (fun r1003 er1003 nr1003 => ?_)
    refine j_icmpge C (tgt := 59) dX7_skipBlanks_11 (by decide) (fun q1004 => ?_) (fun q1004 => ?_)
    · exact e_vretM C hQ hr hlk dX7_skipBlanks_59 (Nat.le_of_ble_eq_true rfl) (Nat.le_of_ble_eq_true rfl)
    · refine j_jn (P := fun j1011 => J p l e ({ frames := 1, cells := 0, slots := 0, locals := 21 }) s m args below meth c Q w 1 0 0 46 [(0, .ref a0)] [] h (j1011) out) ?_ (fun j1011 hj1011 => ?_)
      · refine j_aload_n C dX7_skipBlanks_46 (i := 0) rfl rfl ?_
        refine j_dup C dX7_skipBlanks_47 rfl ?_
        refine j_getI C g_X7_37 dX7_skipBlanks_48 (fun v1012 ev1012 => ?_)
        refine j_iconst C (v := 1) dX7_skipBlanks_51 (by decide) ?_
        refine j_iadd C dX7_skipBlanks_52 ?_
        refine j_putI C p_X7_37 (fun q => nomatch q) dX7_skipBlanks_53 (fun h1013 eh1013 => ?_)
        refine j_goto C (tgt := 0) dX7_skipBlanks_56 (by decide) ?_
        exact ih _
      · refine j_aload_n C dX7_skipBlanks_14 (i := 0) rfl rfl ?_
        refine j_getR C g_X7_29 dX7_skipBlanks_15 (fun v1014 ev1014 => ?_)
        refine j_aload_n C dX7_skipBlanks_18 (i := 0) rfl rfl ?_
        refine j_getI C g_X7_37 dX7_skipBlanks_19 (fun v1015 ev1015 => ?_)
        refine j_callVi C (As := [.int _]) (rest := []) k_X7_64 ⟨Nat.le_of_ble_eq_true rfl, Nat.le_of_ble_eq_true rfl⟩ rfl (Nat.le_of_ble_eq_true rfl) ⟨Nat.le_of_ble_eq_true rfl, Nat.le_of_ble_eq_true rfl⟩ rfl dX7_skipBlanks_22 (fun r0 q0 => c_Tp_at l w _ _ _ _ q0) (fun r1016 er1016 nr1016 => ?_)
        refine j_bipush C (v := 32) dX7_skipBlanks_25 (by decide) ?_
        refine j_icmpeq C (tgt := 46) dX7_skipBlanks_27 (by decide) (fun q1017 => ?_) (fun q1017 => ?_)
        · exact hj1011
        · refine j_aload_n C dX7_skipBlanks_30 (i := 0) rfl rfl ?_
          refine j_getR C g_X7_29 dX7_skipBlanks_31 (fun v1018 ev1018 => ?_)
          refine j_aload_n C dX7_skipBlanks_34 (i := 0) rfl rfl ?_
          refine j_getI C g_X7_37 dX7_skipBlanks_35 (fun v1019 ev1019 => ?_)
          refine j_callVi C (As := [.int _]) (rest := []) k_X7_64 ⟨Nat.le_of_ble_eq_true rfl, Nat.le_of_ble_eq_true rfl⟩ rfl (Nat.le_of_ble_eq_true rfl) ⟨Nat.le_of_ble_eq_true rfl, Nat.le_of_ble_eq_true rfl⟩ rfl dX7_skipBlanks_38 (fun r0 q0 => c_Tp_at l w _ _ _ _ q0) (fun r1020 er1020 nr1020 => ?_)
          refine j_bipush C (v := 10) dX7_skipBlanks_41 (by decide) ?_
          refine j_icmpne C (tgt := 59) dX7_skipBlanks_43 (by decide) (fun q1021 => ?_) (fun q1021 => ?_)
          · exact hj1011
          · exact e_vretM C hQ hr hlk dX7_skipBlanks_59 (Nat.le_of_ble_eq_true rfl) (Nat.le_of_ble_eq_true rfl)
set_option maxRecDepth 100000 in
set_option maxHeartbeats 4000000 in
theorem c_Sc_skipBlanks (l : Launch) (w : hp_W) (fl : Nat) (a0 : Nat) (h : hp_M) (out : hp_M) (hX : f_Sc_skipBlanks fl a0 h = some out) : CT l w yX7_skipBlanks cX7_skipBlanks 1 none ({ frames := 1, cells := 0, slots := 0, locals := 21 }) [.ref a0] h none out := by
  unfold f_Sc_skipBlanks at hX
  refine ct_of (by decide +kernel) (Nat.le_of_ble_eq_true rfl) hX ?_
  intro p e s m args below meth c Q C hr hlk hnm hQ
  refine j_sub [0] rfl (b_Sc_skipBlanks_0 fl  _ C hr hlk hnm hQ  _ _)
def f_Sc_isLetter (x0 : Int32) (h : hp_M) : Option (Int32) := jn (some 0) fun (j1 : Option (Int32)) => if x0 < 97 then (j1) else (if 122 < x0 then (j1) else (some 1))
set_option maxRecDepth 100000 in
set_option maxHeartbeats 4000000 in
theorem c_Sc_isLetter (l : Launch) (w : hp_W) (x0 : Int32) (h : hp_M) (out : Int32) (hX : f_Sc_isLetter x0 h = some out) : CT l w yX7_isLetter cX7_isLetter 1 (some .boolean) ({ frames := 0, cells := 0, slots := 0, locals := 0 }) [.int x0] h (some (.int out)) h := by
  unfold f_Sc_isLetter at hX
  refine ct_of (by decide +kernel) (Nat.le_of_ble_eq_true rfl) hX ?_
  intro p e s m args below meth c Q C hr hlk hnm hQ
  refine j_jn (P := fun j1 => J p l e ({ frames := 0, cells := 0, slots := 0, locals := 0 }) s m args below meth c Q w 1 0 0 16 [] [] h (j1) out) ?_ (fun j1 hj1 => ?_)
  · refine j_iconst C (v := 0) dX7_isLetter_16 (by decide) ?_
    exact e_iretR C hQ hr rfl hlk dX7_isLetter_17 (Nat.le_of_ble_eq_true rfl) (Nat.le_of_ble_eq_true rfl)
  · refine j_iload_n C dX7_isLetter_0 (i := 0) rfl rfl ?_
    refine j_bipush C (v := 97) dX7_isLetter_1 (by decide) ?_
    refine j_icmplt C (tgt := 16) dX7_isLetter_3 (by decide) (fun q2 => ?_) (fun q2 => ?_)
    · exact j_sub [] rfl (hj1)
    · refine j_iload_n C dX7_isLetter_6 (i := 0) rfl rfl ?_
      refine j_bipush C (v := 122) dX7_isLetter_7 (by decide) ?_
      refine j_icmpgt C (tgt := 16) dX7_isLetter_9 (by decide) (fun q3 => ?_) (fun q3 => ?_)
      · exact j_sub [] rfl (hj1)
      · refine j_iconst C (v := 1) dX7_isLetter_12 (by decide) ?_
        refine j_goto C (tgt := 17) dX7_isLetter_13 (by decide) ?_
        exact e_iretR C hQ hr rfl hlk dX7_isLetter_17 (Nat.le_of_ble_eq_true rfl) (Nat.le_of_ble_eq_true rfl)
def f_Sc_isDigit (x0 : Int32) (h : hp_M) : Option (Int32) := jn (some 0) fun (j1 : Option (Int32)) => if x0 < 48 then (j1) else (if 57 < x0 then (j1) else (some 1))
set_option maxRecDepth 100000 in
set_option maxHeartbeats 4000000 in
theorem c_Sc_isDigit (l : Launch) (w : hp_W) (x0 : Int32) (h : hp_M) (out : Int32) (hX : f_Sc_isDigit x0 h = some out) : CT l w yX7_isDigit cX7_isDigit 1 (some .boolean) ({ frames := 0, cells := 0, slots := 0, locals := 0 }) [.int x0] h (some (.int out)) h := by
  unfold f_Sc_isDigit at hX
  refine ct_of (by decide +kernel) (Nat.le_of_ble_eq_true rfl) hX ?_
  intro p e s m args below meth c Q C hr hlk hnm hQ
  refine j_jn (P := fun j1 => J p l e ({ frames := 0, cells := 0, slots := 0, locals := 0 }) s m args below meth c Q w 1 0 0 16 [] [] h (j1) out) ?_ (fun j1 hj1 => ?_)
  · refine j_iconst C (v := 0) dX7_isDigit_16 (by decide) ?_
    exact e_iretR C hQ hr rfl hlk dX7_isDigit_17 (Nat.le_of_ble_eq_true rfl) (Nat.le_of_ble_eq_true rfl)
  · refine j_iload_n C dX7_isDigit_0 (i := 0) rfl rfl ?_
    refine j_bipush C (v := 48) dX7_isDigit_1 (by decide) ?_
    refine j_icmplt C (tgt := 16) dX7_isDigit_3 (by decide) (fun q2 => ?_) (fun q2 => ?_)
    · exact j_sub [] rfl (hj1)
    · refine j_iload_n C dX7_isDigit_6 (i := 0) rfl rfl ?_
      refine j_bipush C (v := 57) dX7_isDigit_7 (by decide) ?_
      refine j_icmpgt C (tgt := 16) dX7_isDigit_9 (by decide) (fun q3 => ?_) (fun q3 => ?_)
      · exact j_sub [] rfl (hj1)
      · refine j_iconst C (v := 1) dX7_isDigit_12 (by decide) ?_
        refine j_goto C (tgt := 17) dX7_isDigit_13 (by decide) ?_
        exact e_iretR C hQ hr rfl hlk dX7_isDigit_17 (Nat.le_of_ble_eq_true rfl) (Nat.le_of_ble_eq_true rfl)
def f_Sc_codeOf (x0 : Int32) (h : hp_M) : Option (Int32) := (f_Sc_isLetter x0 h).bind fun r1 => if r1 = 0 then (some ((x0 - 48) + 27)) else (some ((x0 - 97) + 1))
set_option maxRecDepth 100000 in
set_option maxHeartbeats 4000000 in
theorem c_Sc_codeOf (l : Launch) (w : hp_W) (x0 : Int32) (h : hp_M) (out : Int32) (hX : f_Sc_codeOf x0 h = some out) : CT l w yX7_codeOf cX7_codeOf 1 (some .int) ({ frames := 1, cells := 0, slots := 0, locals := 20 }) [.int x0] h (some (.int out)) h := by
  unfold f_Sc_codeOf at hX
  refine ct_of (by decide +kernel) (Nat.le_of_ble_eq_true rfl) hX ?_
  intro p e s m args below meth c Q C hr hlk hnm hQ
  refine j_iload_n C dX7_codeOf_0 (i := 0) rfl rfl ?_
  refine j_callSi C (As := [.int _]) (rest := []) k_X7_74 ⟨Nat.le_of_ble_eq_true rfl, Nat.le_of_ble_eq_true rfl⟩ rfl (Nat.le_of_ble_eq_true rfl) ⟨Nat.le_of_ble_eq_true rfl, Nat.le_of_ble_eq_true rfl⟩ rfl dX7_codeOf_1 (fun r0 q0 => c_Sc_isLetter l w _ _ _ q0) (fun r1 er1 nr1 => ?_)
  refine j_ifeq C (tgt := 16) dX7_codeOf_4 (by decide) (fun q2 => ?_) (fun q2 => ?_)
  · refine j_iload_n C dX7_codeOf_16 (i := 0) rfl rfl ?_
    refine j_bipush C (v := 48) dX7_codeOf_17 (by decide) ?_
    refine j_isub C dX7_codeOf_19 ?_
    refine j_bipush C (v := 27) dX7_codeOf_20 (by decide) ?_
    refine j_iadd C dX7_codeOf_22 ?_
    exact e_iretR C hQ hr rfl hlk dX7_codeOf_23 (Nat.le_of_ble_eq_true rfl) (Nat.le_of_ble_eq_true rfl)
  · refine j_iload_n C dX7_codeOf_7 (i := 0) rfl rfl ?_
    refine j_bipush C (v := 97) dX7_codeOf_8 (by decide) ?_
    refine j_isub C dX7_codeOf_10 ?_
    refine j_iconst C (v := 1) dX7_codeOf_11 (by decide) ?_
    refine j_iadd C dX7_codeOf_12 ?_
    refine j_goto C (tgt := 23) dX7_codeOf_13 (by decide) ?_
    exact e_iretR C hQ hr rfl hlk dX7_codeOf_23 (Nat.le_of_ble_eq_true rfl) (Nat.le_of_ble_eq_true rfl)
def f_Sc_readWord_b5 (w : hp_W) (fl : Nat) (a0 : Nat) (x1 : Int32) (k94 : hp_M → Option (Nat × hp_M)) : Nat → hp_M → Option (Nat × hp_M)
  | 0, _ => none
  | n + 1, h => (gI h a0 6 8).bind fun v1021 => (gR h a0 6 0).bind fun v1022 => (onO h v1022 8 (f_Tp_size v1022 h)).bind fun r1023 => if r1023 ≤ v1021 then (k94 h) else (jn ((gL h a0 6 9).bind fun v1034 => (gR h a0 6 0).bind fun v1035 => (gI h a0 6 8).bind fun v1036 => (onO h v1035 8 (f_Tp_at v1035 v1036 h)).bind fun r1037 => (f_Sc_codeOf r1037 h).bind fun r1038 => (pF h a0 6 9 (.long ((v1034 * 37) + (Int32.toInt64 r1038)))).bind fun h1039 => (gI h1039 a0 6 8).bind fun v1040 => (pF h1039 a0 6 8 (.int (v1040 + 1))).bind fun h1041 => f_Sc_readWord_b5 w fl a0 x1 k94 n h1041) fun (j1033 : Option (Nat × hp_M)) => (gR h a0 6 0).bind fun v1042 => (gI h a0 6 8).bind fun v1043 => (onO h v1042 8 (f_Tp_at v1042 v1043 h)).bind fun r1044 => (f_Sc_isLetter r1044 h).bind fun r1045 => if r1045 = 0 then ((gR h a0 6 0).bind fun v1047 => (gI h a0 6 8).bind fun v1048 => (onO h v1047 8 (f_Tp_at v1047 v1048 h)).bind fun r1049 => (f_Sc_isDigit r1049 h).bind fun r1050 => if r1050 = 0 then (k94 h) else (j1033)) else (j1033))
def f_Sc_readWord (w : hp_W) (fl : Nat) (a0 : Nat) (h : hp_M) : Option (Nat × hp_M) := (gI h a0 6 8).bind fun v1 => f_Sc_readWord_b5 w fl a0 v1 (fun (h2 : hp_M) => (gI h2 a0 6 8).bind fun v3 => if (v3 - v1) ≤ 12 then ((gR h2 a0 6 0).bind fun v5 => (gI h2 a0 6 8).bind fun v6 => (f_Kd_ofWord w fl v5 v1 (v6 - v1) h2).bind fun r7 => some (r7, h2)) else (some ((w_kd w 1), h2))) fl h
set_option maxRecDepth 100000 in
set_option maxHeartbeats 4000000 in
theorem b_Sc_readWord_5 {p : Program} {l : Launch} {e : Env} {s : State} {m : MethodId} {args : Array Value} {below : List Frame} {meth : Method} {c : Code} {Q : State → Prop} {w : hp_W} {out : Nat × hp_M} (fl : Nat)   (a0 : Nat) (x1 : Int32) (k94 : hp_M → Option (Nat × hp_M)) (C : Cx p m c cX7_readWord 2 s args RX7 w) (hr : meth.sig.returnType = some (.object "ShadowSpell$Kind")) (hlk : meth.locks = false) (hnm : meth.name = "readWord") (hQ : QM below w args s ({ frames := 8, cells := 0, slots := 0, locals := 247 }) (some (.object "ShadowSpell$Kind")) (some (.ref out.1)) out.2 = Q) (hk94 : ∀ (hz : hp_M), J p l e ({ frames := 8, cells := 0, slots := 0, locals := 247 }) s m args below meth c Q w 2 0 0 94 [(0, .ref a0), (1, .int x1)] [] hz (k94 hz) out) : ∀ (n : Nat) (h : hp_M), J p l e ({ frames := 8, cells := 0, slots := 0, locals := 247 }) s m args below meth c Q w 2 0 0 5 [(0, .ref a0), (1, .int x1)] [] h (f_Sc_readWord_b5 w fl a0 x1 k94 n h) out := by
  intro n
  induction n with
  | zero => intro h; exact j_none
  | succ n ih =>
    intro h
    rw [f_Sc_readWord_b5]
    refine j_aload_n C dX7_readWord_5 (i := 0) rfl rfl ?_
    refine j_getI C g_X7_37 dX7_readWord_6 (fun v1021 ev1021 => ?_)
    refine j_aload_n C dX7_readWord_9 (i := 0) rfl rfl ?_
    refine j_getR C g_X7_29 dX7_readWord_10 (fun v1022 ev1022 => ?_)
    refine j_callVi C (As := []) (rest := [_]) k_X7_70 ⟨Nat.le_of_ble_eq_true rfl, Nat.le_of_ble_eq_true rfl⟩ rfl (Nat.le_of_ble_eq_true rfl) ⟨Nat.le_of_ble_eq_true rfl, Nat.le_of_ble_eq_true rfl⟩ rfl dX7_readWord_13 (fun r0 q0 => c_Tp_size l w _ _ _ q0) (fun r1023 er1023 nr1023 => ?_)
    refine j_icmpge C (tgt := 94) dX7_readWord_16 (by decide) (fun q1024 => ?_) (fun q1024 => ?_)
    · exact hk94 _
    · refine j_jn (P := fun j1033 => J p l e ({ frames := 8, cells := 0, slots := 0, locals := 247 }) s m args below meth c Q w 2 0 0 53 [(0, .ref a0), (1, .int x1)] [] h (j1033) out) ?_ (fun j1033 hj1033 => ?_)
      · refine j_aload_n C dX7_readWord_53 (i := 0) rfl rfl ?_
        refine j_aload_n C dX7_readWord_54 (i := 0) rfl rfl ?_
        refine j_getL C g_X7_57 dX7_readWord_55 (fun v1034 ev1034 => ?_)
        refine j_ldc2 C dX7_readWord_58 q_X7_94 ?_
        refine j_lmul C dX7_readWord_61 ?_
        refine j_aload_n C dX7_readWord_62 (i := 0) rfl rfl ?_
        refine j_getR C g_X7_29 dX7_readWord_63 (fun v1035 ev1035 => ?_)
        refine j_aload_n C dX7_readWord_66 (i := 0) rfl rfl ?_
        refine j_getI C g_X7_37 dX7_readWord_67 (fun v1036 ev1036 => ?_)
        refine j_callVi C (As := [.int _]) (rest := [_, _]) k_X7_64 ⟨Nat.le_of_ble_eq_true rfl, Nat.le_of_ble_eq_true rfl⟩ rfl (Nat.le_of_ble_eq_true rfl) ⟨Nat.le_of_ble_eq_true rfl, Nat.le_of_ble_eq_true rfl⟩ rfl dX7_readWord_70 (fun r0 q0 => c_Tp_at l w _ _ _ _ q0) (fun r1037 er1037 nr1037 => ?_)
        refine j_callSi C (As := [.int _]) (rest := [_, _]) k_X7_96 ⟨Nat.le_of_ble_eq_true rfl, Nat.le_of_ble_eq_true rfl⟩ rfl (Nat.le_of_ble_eq_true rfl) ⟨Nat.le_of_ble_eq_true rfl, Nat.le_of_ble_eq_true rfl⟩ rfl dX7_readWord_73 (fun r0 q0 => c_Sc_codeOf l w _ _ _ q0) (fun r1038 er1038 nr1038 => ?_)
        refine j_i2l C dX7_readWord_76 ?_
        refine j_ladd C dX7_readWord_77 ?_
        refine j_putL C p_X7_57 (fun q => nomatch q) dX7_readWord_78 (fun h1039 eh1039 => ?_)
        refine j_aload_n C dX7_readWord_81 (i := 0) rfl rfl ?_
        refine j_dup C dX7_readWord_82 rfl ?_
        refine j_getI C g_X7_37 dX7_readWord_83 (fun v1040 ev1040 => ?_)
        refine j_iconst C (v := 1) dX7_readWord_86 (by decide) ?_
        refine j_iadd C dX7_readWord_87 ?_
        refine j_putI C p_X7_37 (fun q => nomatch q) dX7_readWord_88 (fun h1041 eh1041 => ?_)
        refine j_goto C (tgt := 5) dX7_readWord_91 (by decide) ?_
        exact ih _
      · refine j_aload_n C dX7_readWord_19 (i := 0) rfl rfl ?_
        refine j_getR C g_X7_29 dX7_readWord_20 (fun v1042 ev1042 => ?_)
        refine j_aload_n C dX7_readWord_23 (i := 0) rfl rfl ?_
        refine j_getI C g_X7_37 dX7_readWord_24 (fun v1043 ev1043 => ?_)
        refine j_callVi C (As := [.int _]) (rest := []) k_X7_64 ⟨Nat.le_of_ble_eq_true rfl, Nat.le_of_ble_eq_true rfl⟩ rfl (Nat.le_of_ble_eq_true rfl) ⟨Nat.le_of_ble_eq_true rfl, Nat.le_of_ble_eq_true rfl⟩ rfl dX7_readWord_27 (fun r0 q0 => c_Tp_at l w _ _ _ _ q0) (fun r1044 er1044 nr1044 => ?_)
        refine j_callSi C (As := [.int _]) (rest := []) k_X7_74 ⟨Nat.le_of_ble_eq_true rfl, Nat.le_of_ble_eq_true rfl⟩ rfl (Nat.le_of_ble_eq_true rfl) ⟨Nat.le_of_ble_eq_true rfl, Nat.le_of_ble_eq_true rfl⟩ rfl dX7_readWord_30 (fun r0 q0 => c_Sc_isLetter l w _ _ _ q0) (fun r1045 er1045 nr1045 => ?_)
        refine j_ifne C (tgt := 53) dX7_readWord_33 (by decide) (fun q1046 => ?_) (fun q1046 => ?_)
        · refine j_aload_n C dX7_readWord_36 (i := 0) rfl rfl ?_
          refine j_getR C g_X7_29 dX7_readWord_37 (fun v1047 ev1047 => ?_)
          refine j_aload_n C dX7_readWord_40 (i := 0) rfl rfl ?_
          refine j_getI C g_X7_37 dX7_readWord_41 (fun v1048 ev1048 => ?_)
          refine j_callVi C (As := [.int _]) (rest := []) k_X7_64 ⟨Nat.le_of_ble_eq_true rfl, Nat.le_of_ble_eq_true rfl⟩ rfl (Nat.le_of_ble_eq_true rfl) ⟨Nat.le_of_ble_eq_true rfl, Nat.le_of_ble_eq_true rfl⟩ rfl dX7_readWord_44 (fun r0 q0 => c_Tp_at l w _ _ _ _ q0) (fun r1049 er1049 nr1049 => ?_)
          refine j_callSi C (As := [.int _]) (rest := []) k_X7_81 ⟨Nat.le_of_ble_eq_true rfl, Nat.le_of_ble_eq_true rfl⟩ rfl (Nat.le_of_ble_eq_true rfl) ⟨Nat.le_of_ble_eq_true rfl, Nat.le_of_ble_eq_true rfl⟩ rfl dX7_readWord_47 (fun r0 q0 => c_Sc_isDigit l w _ _ _ q0) (fun r1050 er1050 nr1050 => ?_)
          refine j_ifeq C (tgt := 94) dX7_readWord_50 (by decide) (fun q1051 => ?_) (fun q1051 => ?_)
          · exact hk94 _
          · exact hj1033
        · exact hj1033
set_option maxRecDepth 100000 in
set_option maxHeartbeats 4000000 in
theorem c_Sc_readWord (l : Launch) (w : hp_W) (fl : Nat) (a0 : Nat) (h : hp_M) (out : Nat × hp_M) (hX : f_Sc_readWord w fl a0 h = some out) : CT l w yX7_readWord cX7_readWord 2 (some (.object "ShadowSpell$Kind")) ({ frames := 8, cells := 0, slots := 0, locals := 247 }) [.ref a0] h (some (.ref out.1)) out.2 := by
  unfold f_Sc_readWord at hX
  refine ct_of (by decide +kernel) (Nat.le_of_ble_eq_true rfl) hX ?_
  intro p e s m args below meth c Q C hr hlk hnm hQ
  refine j_aload_n C dX7_readWord_0 (i := 0) rfl rfl ?_
  refine j_getI C g_X7_37 dX7_readWord_1 (fun v1 ev1 => ?_)
  refine j_istore_n C [(1, _), (0, _)] dX7_readWord_4 (i := 1) rfl (by decide) rfl ?_
  refine j_sub [1, 0] rfl (b_Sc_readWord_5 fl  _ _ _ C hr hlk hnm hQ (fun h2 => ?_) _ _)
  refine j_aload_n C dX7_readWord_94 (i := 0) rfl rfl ?_
  refine j_getI C g_X7_37 dX7_readWord_95 (fun v3 ev3 => ?_)
  refine j_iload_n C dX7_readWord_98 (i := 1) rfl rfl ?_
  refine j_isub C dX7_readWord_99 ?_
  refine j_bipush C (v := 12) dX7_readWord_100 (by decide) ?_
  refine j_icmple C (tgt := 111) dX7_readWord_102 (by decide) (fun q4 => ?_) (fun q4 => ?_)
  · refine j_aload_n C dX7_readWord_111 (i := 0) rfl rfl ?_
    refine j_getR C g_X7_29 dX7_readWord_112 (fun v5 ev5 => ?_)
    refine j_iload_n C dX7_readWord_115 (i := 1) rfl rfl ?_
    refine j_aload_n C dX7_readWord_116 (i := 0) rfl rfl ?_
    refine j_getI C g_X7_37 dX7_readWord_117 (fun v6 ev6 => ?_)
    refine j_iload_n C dX7_readWord_120 (i := 1) rfl rfl ?_
    refine j_isub C dX7_readWord_121 ?_
    refine j_callSr C (As := [.ref _, .int _, .int _]) (rest := []) k_X7_99 ⟨Nat.le_of_ble_eq_true rfl, Nat.le_of_ble_eq_true rfl⟩ rfl (Nat.le_of_ble_eq_true rfl) ⟨Nat.le_of_ble_eq_true rfl, Nat.le_of_ble_eq_true rfl⟩ rfl dX7_readWord_122 (fun r0 q0 => c_Kd_ofWord l w fl _ _ _ _ _ q0) (fun r7 er7 nr7 => ?_)
    exact e_aretM C hQ hr (by first | exact Or.inl ⟨_, rfl⟩ | exact Or.inr ⟨_, rfl⟩) hlk dX7_readWord_125 (Nat.le_of_ble_eq_true rfl) (Nat.le_of_ble_eq_true rfl)
  · refine j_kind C s_X7_54 (by decide) dX7_readWord_105 ?_
    refine j_goto C (tgt := 125) dX7_readWord_108 (by decide) ?_
    exact e_aretM C hQ hr (by first | exact Or.inl ⟨_, rfl⟩ | exact Or.inr ⟨_, rfl⟩) hlk dX7_readWord_125 (Nat.le_of_ble_eq_true rfl) (Nat.le_of_ble_eq_true rfl)
def f_Sc_readNumber_b5 (w : hp_W) (fl : Nat) (a0 : Nat) (x1 : Int32) (k75 : hp_M → Option (Nat × hp_M)) : Nat → hp_M → Option (Nat × hp_M)
  | 0, _ => none
  | n + 1, h => (gI h a0 6 8).bind fun v1016 => (gR h a0 6 0).bind fun v1017 => (onO h v1017 8 (f_Tp_size v1017 h)).bind fun r1018 => if r1018 ≤ v1016 then (k75 h) else ((gR h a0 6 0).bind fun v1020 => (gI h a0 6 8).bind fun v1021 => (onO h v1020 8 (f_Tp_at v1020 v1021 h)).bind fun r1022 => (f_Sc_isDigit r1022 h).bind fun r1023 => if r1023 = 0 then (k75 h) else ((gI h a0 6 10).bind fun v1025 => (gR h a0 6 0).bind fun v1026 => (gI h a0 6 8).bind fun v1027 => (onO h v1026 8 (f_Tp_at v1026 v1027 h)).bind fun r1028 => (pF h a0 6 10 (.int (((v1025 * 10) + r1028) - 48))).bind fun h1029 => (gI h1029 a0 6 8).bind fun v1030 => (pF h1029 a0 6 8 (.int (v1030 + 1))).bind fun h1031 => f_Sc_readNumber_b5 w fl a0 x1 k75 n h1031))
def f_Sc_readNumber (w : hp_W) (fl : Nat) (a0 : Nat) (h : hp_M) : Option (Nat × hp_M) := (gI h a0 6 8).bind fun v1 => f_Sc_readNumber_b5 w fl a0 v1 (fun (h2 : hp_M) => (gI h2 a0 6 8).bind fun v3 => if (v3 - v1) ≤ 6 then (some ((w_kd w 3), h2)) else (some ((w_kd w 1), h2))) fl h
set_option maxRecDepth 100000 in
set_option maxHeartbeats 4000000 in
theorem b_Sc_readNumber_5 {p : Program} {l : Launch} {e : Env} {s : State} {m : MethodId} {args : Array Value} {below : List Frame} {meth : Method} {c : Code} {Q : State → Prop} {w : hp_W} {out : Nat × hp_M} (fl : Nat)   (a0 : Nat) (x1 : Int32) (k75 : hp_M → Option (Nat × hp_M)) (C : Cx p m c cX7_readNumber 2 s args RX7 w) (hr : meth.sig.returnType = some (.object "ShadowSpell$Kind")) (hlk : meth.locks = false) (hnm : meth.name = "readNumber") (hQ : QM below w args s ({ frames := 1, cells := 0, slots := 0, locals := 21 }) (some (.object "ShadowSpell$Kind")) (some (.ref out.1)) out.2 = Q) (hk75 : ∀ (hz : hp_M), J p l e ({ frames := 1, cells := 0, slots := 0, locals := 21 }) s m args below meth c Q w 2 0 0 75 [(0, .ref a0), (1, .int x1)] [] hz (k75 hz) out) : ∀ (n : Nat) (h : hp_M), J p l e ({ frames := 1, cells := 0, slots := 0, locals := 21 }) s m args below meth c Q w 2 0 0 5 [(0, .ref a0), (1, .int x1)] [] h (f_Sc_readNumber_b5 w fl a0 x1 k75 n h) out := by
  intro n
  induction n with
  | zero => intro h; exact j_none
  | succ n ih =>
    intro h
    rw [f_Sc_readNumber_b5]
    refine j_aload_n C dX7_readNumber_5 (i := 0) rfl rfl ?_
    refine j_getI C g_X7_37 dX7_readNumber_6 (fun v1016 ev1016 => ?_)
    refine j_aload_n C dX7_readNumber_9 (i := 0) rfl rfl ?_
    refine j_getR C g_X7_29 dX7_readNumber_10 (fun v1017 ev1017 => ?_)
    refine j_callVi C (As := []) (rest := [_]) k_X7_70 ⟨Nat.le_of_ble_eq_true rfl, Nat.le_of_ble_eq_true rfl⟩ rfl (Nat.le_of_ble_eq_true rfl) ⟨Nat.le_of_ble_eq_true rfl, Nat.le_of_ble_eq_true rfl⟩ rfl dX7_readNumber_13 (fun r0 q0 => c_Tp_size l w _ _ _ q0) (fun r1018 er1018 nr1018 => ?_)
    refine j_icmpge C (tgt := 75) dX7_readNumber_16 (by decide) (fun q1019 => ?_) (fun q1019 => ?_)
    · exact hk75 _
    · refine j_aload_n C dX7_readNumber_19 (i := 0) rfl rfl ?_
      refine j_getR C g_X7_29 dX7_readNumber_20 (fun v1020 ev1020 => ?_)
      refine j_aload_n C dX7_readNumber_23 (i := 0) rfl rfl ?_
      refine j_getI C g_X7_37 dX7_readNumber_24 (fun v1021 ev1021 => ?_)
      refine j_callVi C (As := [.int _]) (rest := []) k_X7_64 ⟨Nat.le_of_ble_eq_true rfl, Nat.le_of_ble_eq_true rfl⟩ rfl (Nat.le_of_ble_eq_true rfl) ⟨Nat.le_of_ble_eq_true rfl, Nat.le_of_ble_eq_true rfl⟩ rfl dX7_readNumber_27 (fun r0 q0 => c_Tp_at l w _ _ _ _ q0) (fun r1022 er1022 nr1022 => ?_)
      refine j_callSi C (As := [.int _]) (rest := []) k_X7_81 ⟨Nat.le_of_ble_eq_true rfl, Nat.le_of_ble_eq_true rfl⟩ rfl (Nat.le_of_ble_eq_true rfl) ⟨Nat.le_of_ble_eq_true rfl, Nat.le_of_ble_eq_true rfl⟩ rfl dX7_readNumber_30 (fun r0 q0 => c_Sc_isDigit l w _ _ _ q0) (fun r1023 er1023 nr1023 => ?_)
      refine j_ifeq C (tgt := 75) dX7_readNumber_33 (by decide) (fun q1024 => ?_) (fun q1024 => ?_)
      · exact hk75 _
      · refine j_aload_n C dX7_readNumber_36 (i := 0) rfl rfl ?_
        refine j_aload_n C dX7_readNumber_37 (i := 0) rfl rfl ?_
        refine j_getI C g_X7_61 dX7_readNumber_38 (fun v1025 ev1025 => ?_)
        refine j_bipush C (v := 10) dX7_readNumber_41 (by decide) ?_
        refine j_imul C dX7_readNumber_43 ?_
        refine j_aload_n C dX7_readNumber_44 (i := 0) rfl rfl ?_
        refine j_getR C g_X7_29 dX7_readNumber_45 (fun v1026 ev1026 => ?_)
        refine j_aload_n C dX7_readNumber_48 (i := 0) rfl rfl ?_
        refine j_getI C g_X7_37 dX7_readNumber_49 (fun v1027 ev1027 => ?_)
        refine j_callVi C (As := [.int _]) (rest := [_, _]) k_X7_64 ⟨Nat.le_of_ble_eq_true rfl, Nat.le_of_ble_eq_true rfl⟩ rfl (Nat.le_of_ble_eq_true rfl) ⟨Nat.le_of_ble_eq_true rfl, Nat.le_of_ble_eq_true rfl⟩ rfl dX7_readNumber_52 (fun r0 q0 => c_Tp_at l w _ _ _ _ q0) (fun r1028 er1028 nr1028 => ?_)
        refine j_iadd C dX7_readNumber_55 ?_
        refine j_bipush C (v := 48) dX7_readNumber_56 (by decide) ?_
        refine j_isub C dX7_readNumber_58 ?_
        refine j_putI C p_X7_61 (fun q => nomatch q) dX7_readNumber_59 (fun h1029 eh1029 => ?_)
        refine j_aload_n C dX7_readNumber_62 (i := 0) rfl rfl ?_
        refine j_dup C dX7_readNumber_63 rfl ?_
        refine j_getI C g_X7_37 dX7_readNumber_64 (fun v1030 ev1030 => ?_)
        refine j_iconst C (v := 1) dX7_readNumber_67 (by decide) ?_
        refine j_iadd C dX7_readNumber_68 ?_
        refine j_putI C p_X7_37 (fun q => nomatch q) dX7_readNumber_69 (fun h1031 eh1031 => ?_)
        refine j_goto C (tgt := 5) dX7_readNumber_72 (by decide) ?_
        exact ih _
set_option maxRecDepth 100000 in
set_option maxHeartbeats 4000000 in
theorem c_Sc_readNumber (l : Launch) (w : hp_W) (fl : Nat) (a0 : Nat) (h : hp_M) (out : Nat × hp_M) (hX : f_Sc_readNumber w fl a0 h = some out) : CT l w yX7_readNumber cX7_readNumber 2 (some (.object "ShadowSpell$Kind")) ({ frames := 1, cells := 0, slots := 0, locals := 21 }) [.ref a0] h (some (.ref out.1)) out.2 := by
  unfold f_Sc_readNumber at hX
  refine ct_of (by decide +kernel) (Nat.le_of_ble_eq_true rfl) hX ?_
  intro p e s m args below meth c Q C hr hlk hnm hQ
  refine j_aload_n C dX7_readNumber_0 (i := 0) rfl rfl ?_
  refine j_getI C g_X7_37 dX7_readNumber_1 (fun v1 ev1 => ?_)
  refine j_istore_n C [(1, _), (0, _)] dX7_readNumber_4 (i := 1) rfl (by decide) rfl ?_
  refine j_sub [1, 0] rfl (b_Sc_readNumber_5 fl  _ _ _ C hr hlk hnm hQ (fun h2 => ?_) _ _)
  refine j_aload_n C dX7_readNumber_75 (i := 0) rfl rfl ?_
  refine j_getI C g_X7_37 dX7_readNumber_76 (fun v3 ev3 => ?_)
  refine j_iload_n C dX7_readNumber_79 (i := 1) rfl rfl ?_
  refine j_isub C dX7_readNumber_80 ?_
  refine j_bipush C (v := 6) dX7_readNumber_81 (by decide) ?_
  refine j_icmple C (tgt := 92) dX7_readNumber_83 (by decide) (fun q4 => ?_) (fun q4 => ?_)
  · refine j_kind C s_X7_103 (by decide) dX7_readNumber_92 ?_
    exact e_aretM C hQ hr (by first | exact Or.inl ⟨_, rfl⟩ | exact Or.inr ⟨_, rfl⟩) hlk dX7_readNumber_95 (Nat.le_of_ble_eq_true rfl) (Nat.le_of_ble_eq_true rfl)
  · refine j_kind C s_X7_54 (by decide) dX7_readNumber_86 ?_
    refine j_goto C (tgt := 95) dX7_readNumber_89 (by decide) ?_
    exact e_aretM C hQ hr (by first | exact Or.inl ⟨_, rfl⟩ | exact Or.inr ⟨_, rfl⟩) hlk dX7_readNumber_95 (Nat.le_of_ble_eq_true rfl) (Nat.le_of_ble_eq_true rfl)
def f_Sc_readToken (w : hp_W) (fl : Nat) (a0 : Nat) (h : hp_M) : Option (Nat × hp_M) := (pF h a0 6 9 (.long 0)).bind fun h1 => (pF h1 a0 6 10 (.int 0)).bind fun h2 => (gI h2 a0 6 8).bind fun v3 => (gR h2 a0 6 0).bind fun v4 => (onO h2 v4 8 (f_Tp_size v4 h2)).bind fun r5 => if v3 < r5 then ((gR h2 a0 6 0).bind fun v7 => (gI h2 a0 6 8).bind fun v8 => (onO h2 v7 8 (f_Tp_at v7 v8 h2)).bind fun r9 => (f_Sc_isLetter r9 h2).bind fun r10 => if r10 = 0 then ((f_Sc_isDigit r9 h2).bind fun r12 => if r12 = 0 then ((gR h2 a0 6 0).bind fun v14 => (gI h2 a0 6 8).bind fun v15 => (f_Kd_ofSymbol w fl v14 v15 h2).bind fun r16 => (gI h2 a0 6 8).bind fun v17 => (f_Kd_length w r16 h2).bind fun r18 => (pF h2 a0 6 8 (.int (v17 + r18))).bind fun h19 => some (r16, h19)) else ((onO h2 a0 6 (f_Sc_readNumber w fl a0 h2)).bind fun r20 => some (r20.1, r20.2))) else ((onO h2 a0 6 (f_Sc_readWord w fl a0 h2)).bind fun r21 => some (r21.1, r21.2))) else (some ((w_kd w 0), h2))
set_option maxRecDepth 100000 in
set_option maxHeartbeats 4000000 in
theorem c_Sc_readToken (l : Launch) (w : hp_W) (fl : Nat) (a0 : Nat) (h : hp_M) (out : Nat × hp_M) (hX : f_Sc_readToken w fl a0 h = some out) : CT l w yX7_readToken cX7_readToken 3 (some (.object "ShadowSpell$Kind")) ({ frames := 9, cells := 0, slots := 0, locals := 268 }) [.ref a0] h (some (.ref out.1)) out.2 := by
  unfold f_Sc_readToken at hX
  refine ct_of (by decide +kernel) (Nat.le_of_ble_eq_true rfl) hX ?_
  intro p e s m args below meth c Q C hr hlk hnm hQ
  refine j_aload_n C dX7_readToken_0 (i := 0) rfl rfl ?_
  refine j_lconst C (v := 0) dX7_readToken_1 rfl ?_
  refine j_putL C p_X7_57 (fun q => nomatch q) dX7_readToken_2 (fun h1 eh1 => ?_)
  refine j_aload_n C dX7_readToken_5 (i := 0) rfl rfl ?_
  refine j_iconst C (v := 0) dX7_readToken_6 (by decide) ?_
  refine j_putI C p_X7_61 (fun q => nomatch q) dX7_readToken_7 (fun h2 eh2 => ?_)
  refine j_aload_n C dX7_readToken_10 (i := 0) rfl rfl ?_
  refine j_getI C g_X7_37 dX7_readToken_11 (fun v3 ev3 => ?_)
  refine j_aload_n C dX7_readToken_14 (i := 0) rfl rfl ?_
  refine j_getR C g_X7_29 dX7_readToken_15 (fun v4 ev4 => ?_)
  refine j_callVi C (As := []) (rest := [_]) k_X7_70 ⟨Nat.le_of_ble_eq_true rfl, Nat.le_of_ble_eq_true rfl⟩ rfl (Nat.le_of_ble_eq_true rfl) ⟨Nat.le_of_ble_eq_true rfl, Nat.le_of_ble_eq_true rfl⟩ rfl dX7_readToken_18 (fun r0 q0 => c_Tp_size l w _ _ _ q0) (fun r5 er5 nr5 => ?_)
  refine j_icmplt C (tgt := 28) dX7_readToken_21 (by decide) (fun q6 => ?_) (fun q6 => ?_)
  · refine j_aload_n C dX7_readToken_28 (i := 0) rfl rfl ?_
    refine j_getR C g_X7_29 dX7_readToken_29 (fun v7 ev7 => ?_)
    refine j_aload_n C dX7_readToken_32 (i := 0) rfl rfl ?_
    refine j_getI C g_X7_37 dX7_readToken_33 (fun v8 ev8 => ?_)
    refine j_callVi C (As := [.int _]) (rest := []) k_X7_64 ⟨Nat.le_of_ble_eq_true rfl, Nat.le_of_ble_eq_true rfl⟩ rfl (Nat.le_of_ble_eq_true rfl) ⟨Nat.le_of_ble_eq_true rfl, Nat.le_of_ble_eq_true rfl⟩ rfl dX7_readToken_36 (fun r0 q0 => c_Tp_at l w _ _ _ _ q0) (fun r9 er9 nr9 => ?_)
    refine j_istore_n C [(1, _), (0, _)] dX7_readToken_39 (i := 1) rfl (by decide) rfl ?_
    refine j_iload_n C dX7_readToken_40 (i := 1) rfl rfl ?_
    refine j_callSi C (As := [.int _]) (rest := []) k_X7_74 ⟨Nat.le_of_ble_eq_true rfl, Nat.le_of_ble_eq_true rfl⟩ rfl (Nat.le_of_ble_eq_true rfl) ⟨Nat.le_of_ble_eq_true rfl, Nat.le_of_ble_eq_true rfl⟩ rfl dX7_readToken_41 (fun r0 q0 => c_Sc_isLetter l w _ _ _ q0) (fun r10 er10 nr10 => ?_)
    refine j_ifeq C (tgt := 52) dX7_readToken_44 (by decide) (fun q11 => ?_) (fun q11 => ?_)
    · refine j_iload_n C dX7_readToken_52 (i := 1) rfl rfl ?_
      refine j_callSi C (As := [.int _]) (rest := []) k_X7_81 ⟨Nat.le_of_ble_eq_true rfl, Nat.le_of_ble_eq_true rfl⟩ rfl (Nat.le_of_ble_eq_true rfl) ⟨Nat.le_of_ble_eq_true rfl, Nat.le_of_ble_eq_true rfl⟩ rfl dX7_readToken_53 (fun r0 q0 => c_Sc_isDigit l w _ _ _ q0) (fun r12 er12 nr12 => ?_)
      refine j_ifeq C (tgt := 64) dX7_readToken_56 (by decide) (fun q13 => ?_) (fun q13 => ?_)
      · refine j_aload_n C dX7_readToken_64 (i := 0) rfl rfl ?_
        refine j_getR C g_X7_29 dX7_readToken_65 (fun v14 ev14 => ?_)
        refine j_aload_n C dX7_readToken_68 (i := 0) rfl rfl ?_
        refine j_getI C g_X7_37 dX7_readToken_69 (fun v15 ev15 => ?_)
        refine j_callSr C (As := [.ref _, .int _]) (rest := []) k_X7_87 ⟨Nat.le_of_ble_eq_true rfl, Nat.le_of_ble_eq_true rfl⟩ rfl (Nat.le_of_ble_eq_true rfl) ⟨Nat.le_of_ble_eq_true rfl, Nat.le_of_ble_eq_true rfl⟩ rfl dX7_readToken_72 (fun r0 q0 => c_Kd_ofSymbol l w fl _ _ _ _ q0) (fun r16 er16 nr16 => ?_)
        refine j_astore_n C [(2, _), (1, _), (0, _)] dX7_readToken_75 (i := 2) rfl (by decide) rfl ?_
        refine j_aload_n C dX7_readToken_76 (i := 0) rfl rfl ?_
        refine j_dup C dX7_readToken_77 rfl ?_
        refine j_getI C g_X7_37 dX7_readToken_78 (fun v17 ev17 => ?_)
        refine j_aload_n C dX7_readToken_81 (i := 2) rfl rfl ?_
        refine j_callO C (As := []) (rest := [_, _]) k_X7_91 ⟨Nat.le_of_ble_eq_true rfl, Nat.le_of_ble_eq_true rfl⟩ rfl (Nat.le_of_ble_eq_true rfl) ⟨Nat.le_of_ble_eq_true rfl, Nat.le_of_ble_eq_true rfl⟩ rfl dX7_readToken_82 (fun r0 q0 => by obtain ⟨v9, h9, -⟩ := Option.bind_eq_some_iff.mp (show (kText w _).bind _ = some _ from q0); obtain ⟨i9, g9, -⟩ := Option.bind_eq_some_iff.mp (show (kx w _).bind _ = some _ from h9); exact kd_O C g9) (fun r0 q0 => c_Kd_length l w _ _ _ q0) (fun r18 er18 _ => ?_)
        refine j_iadd C dX7_readToken_85 ?_
        refine j_putI C p_X7_37 (fun q => nomatch q) dX7_readToken_86 (fun h19 eh19 => ?_)
        refine j_aload_n C dX7_readToken_89 (i := 2) rfl rfl ?_
        exact e_aretM C hQ hr (by first | exact Or.inl ⟨_, rfl⟩ | exact Or.inr ⟨_, rfl⟩) hlk dX7_readToken_90 (Nat.le_of_ble_eq_true rfl) (Nat.le_of_ble_eq_true rfl)
      · refine j_aload_n C dX7_readToken_59 (i := 0) rfl rfl ?_
        refine j_callVrm C (As := []) (rest := []) k_X7_84 ⟨Nat.le_of_ble_eq_true rfl, Nat.le_of_ble_eq_true rfl⟩ rfl (Nat.le_of_ble_eq_true rfl) ⟨Nat.le_of_ble_eq_true rfl, Nat.le_of_ble_eq_true rfl⟩ rfl dX7_readToken_60 (fun r0 q0 => c_Sc_readNumber l w fl _ _ _ q0) (fun r20 er20 nr20 => ?_)
        exact e_aretM C hQ hr (by first | exact Or.inl ⟨_, rfl⟩ | exact Or.inr ⟨_, rfl⟩) hlk dX7_readToken_63 (Nat.le_of_ble_eq_true rfl) (Nat.le_of_ble_eq_true rfl)
    · refine j_aload_n C dX7_readToken_47 (i := 0) rfl rfl ?_
      refine j_callVrm C (As := []) (rest := []) k_X7_78 ⟨Nat.le_of_ble_eq_true rfl, Nat.le_of_ble_eq_true rfl⟩ rfl (Nat.le_of_ble_eq_true rfl) ⟨Nat.le_of_ble_eq_true rfl, Nat.le_of_ble_eq_true rfl⟩ rfl dX7_readToken_48 (fun r0 q0 => c_Sc_readWord l w fl _ _ _ q0) (fun r21 er21 nr21 => ?_)
      exact e_aretM C hQ hr (by first | exact Or.inl ⟨_, rfl⟩ | exact Or.inr ⟨_, rfl⟩) hlk dX7_readToken_51 (Nat.le_of_ble_eq_true rfl) (Nat.le_of_ble_eq_true rfl)
  · refine j_kind C s_X7_50 (by decide) dX7_readToken_24 ?_
    exact e_aretM C hQ hr (by first | exact Or.inl ⟨_, rfl⟩ | exact Or.inr ⟨_, rfl⟩) hlk dX7_readToken_27 (Nat.le_of_ble_eq_true rfl) (Nat.le_of_ble_eq_true rfl)
def f_Sc_scan_b17 (w : hp_W) (fl : Nat) (a0 : Nat) : Nat → Int32 → hp_M → Option (hp_M)
  | 0, _, _ => none
  | n + 1, x1, h => (gI h a0 6 6).bind fun v1004 => if 401 ≤ v1004 then (some h) else (if x1 = 0 then (some h) else (jn (fun (u1012 : Int32) (u1013 : Nat) (h1014 : hp_M) => jn (fun (u1034 : Int32) (h1035 : hp_M) => (gI h1035 a0 6 6).bind fun v1036 => (pF h1035 a0 6 6 (.int (v1036 + 1))).bind fun h1037 => f_Sc_scan_b17 w fl a0 n u1034 h1037) fun (j1033 : Int32 → hp_M → Option (hp_M)) => jn (fun (h1064 : hp_M) => j1033 0 h1064) fun (j1063 : hp_M → Option (hp_M)) => (gR h1014 a0 6 1).bind fun v1065 => (gI h1014 a0 6 6).bind fun v1066 => (paK w h1014 v1065 v1066 u1013).bind fun h1067 => (gR h1067 a0 6 2).bind fun v1068 => (gI h1067 a0 6 6).bind fun v1069 => (paI h1067 v1068 v1069 u1012).bind fun h1070 => (gR h1070 a0 6 3).bind fun v1071 => (gI h1070 a0 6 6).bind fun v1072 => (gI h1070 a0 6 8).bind fun v1073 => (paI h1070 v1071 v1072 (v1073 - u1012)).bind fun h1074 => (gR h1074 a0 6 4).bind fun v1075 => (gI h1074 a0 6 6).bind fun v1076 => (gL h1074 a0 6 9).bind fun v1077 => (paL h1074 v1075 v1076 v1077).bind fun h1078 => (gR h1078 a0 6 5).bind fun v1079 => (gI h1078 a0 6 6).bind fun v1080 => (gI h1078 a0 6 10).bind fun v1081 => (paI h1078 v1079 v1080 v1081).bind fun h1082 => if u1013 = (w_kd w 0) then (j1063 h1082) else (if u1013 = (w_kd w 1) then (j1063 h1082) else (j1033 1 h1082))) fun (j1011 : Int32 → Nat → hp_M → Option (hp_M)) => (onO h a0 6 (f_Sc_skipBlanks fl a0 h)).bind fun h1085 => (gI h1085 a0 6 8).bind fun v1086 => (onO h1085 a0 6 (f_Sc_readToken w fl a0 h1085)).bind fun r1087 => (gI r1087.2 a0 6 6).bind fun v1088 => if v1088 = 400 then (if r1087.1 = (w_kd w 0) then (j1011 v1086 r1087.1 r1087.2) else (j1011 v1086 (w_kd w 1) r1087.2)) else (j1011 v1086 r1087.1 r1087.2)))
def f_Sc_scan (w : hp_W) (fl : Nat) (a0 : Nat) (h : hp_M) : Option (hp_M) := (pF h a0 6 7 (.int 0)).bind fun h1 => (pF h1 a0 6 8 (.int 0)).bind fun h2 => (pF h2 a0 6 6 (.int 0)).bind fun h3 => f_Sc_scan_b17 w fl a0 fl 1 h3
set_option maxRecDepth 100000 in
set_option maxHeartbeats 4000000 in
theorem b_Sc_scan_17 {p : Program} {l : Launch} {e : Env} {s : State} {m : MethodId} {args : Array Value} {below : List Frame} {meth : Method} {c : Code} {Q : State → Prop} {w : hp_W} {out : hp_M} (fl : Nat)   (a0 : Nat) (C : Cx p m c cX7_scan 4 s args RX7 w) (hr : meth.sig.returnType = none) (hlk : meth.locks = false) (hnm : meth.name = "scan") (hQ : QM below w args s ({ frames := 10, cells := 0, slots := 0, locals := 290 }) none none out = Q)  : ∀ (n : Nat) (x1 : Int32) (h : hp_M), J p l e ({ frames := 10, cells := 0, slots := 0, locals := 290 }) s m args below meth c Q w 4 0 0 17 [(0, .ref a0), (1, .int x1)] [] h (f_Sc_scan_b17 w fl a0 n x1 h) out := by
  intro n
  induction n with
  | zero => intro x1 h; exact j_none
  | succ n ih =>
    intro x1 h
    rw [f_Sc_scan_b17]
    refine j_aload_n C dX7_scan_17 (i := 0) rfl rfl ?_
    refine j_getI C g_X7_40 dX7_scan_18 (fun v1004 ev1004 => ?_)
    refine j_sipush C (v := 401) dX7_scan_21 (by decide) ?_
    refine j_icmpge C (tgt := 160) dX7_scan_24 (by decide) (fun q1005 => ?_) (fun q1005 => ?_)
    · exact e_vretM C hQ hr hlk dX7_scan_160 (Nat.le_of_ble_eq_true rfl) (Nat.le_of_ble_eq_true rfl)
    · refine j_iload_n C dX7_scan_27 (i := 1) rfl rfl ?_
      refine j_ifeq C (tgt := 160) dX7_scan_28 (by decide) (fun q1006 => ?_) (fun q1006 => ?_)
      · exact e_vretM C hQ hr hlk dX7_scan_160 (Nat.le_of_ble_eq_true rfl) (Nat.le_of_ble_eq_true rfl)
      · refine j_jn (P := fun (j1011 : Int32 → Nat → hp_M → Option (hp_M)) => ∀ (u1012 : Int32) (u1013 : Nat) (h1014 : hp_M), J p l e ({ frames := 10, cells := 0, slots := 0, locals := 290 }) s m args below meth c Q w 4 0 0 66 [(0, .ref a0), (2, .int u1012), (3, .ref u1013)] [] h1014 (j1011 u1012 u1013 h1014) out) ?_ (fun j1011 hj1011 => ?_)
        · intro u1012 u1013 h1014
          refine j_jn (P := fun (j1033 : Int32 → hp_M → Option (hp_M)) => ∀ (u1034 : Int32) (h1035 : hp_M), J p l e ({ frames := 10, cells := 0, slots := 0, locals := 290 }) s m args below meth c Q w 4 0 0 146 [(0, .ref a0)] [.int u1034] h1035 (j1033 u1034 h1035) out) ?_ (fun j1033 hj1033 => ?_)
          · intro u1034 h1035
            refine j_istore_n C [(1, _), (0, _)] dX7_scan_146 (i := 1) rfl (by decide) rfl ?_
            refine j_aload_n C dX7_scan_147 (i := 0) rfl rfl ?_
            refine j_dup C dX7_scan_148 rfl ?_
            refine j_getI C g_X7_40 dX7_scan_149 (fun v1036 ev1036 => ?_)
            refine j_iconst C (v := 1) dX7_scan_152 (by decide) ?_
            refine j_iadd C dX7_scan_153 ?_
            refine j_putI C p_X7_40 (fun q => nomatch q) dX7_scan_154 (fun h1037 eh1037 => ?_)
            refine j_goto C (tgt := 17) dX7_scan_157 (by decide) ?_
            exact j_sub [1, 0] rfl (ih _ _)
          · refine j_jn (P := fun (j1063 : hp_M → Option (hp_M)) => ∀ (h1064 : hp_M), J p l e ({ frames := 10, cells := 0, slots := 0, locals := 290 }) s m args below meth c Q w 4 0 0 145 [(0, .ref a0)] [] h1064 (j1063 h1064) out) ?_ (fun j1063 hj1063 => ?_)
            · intro h1064
              refine j_iconst C (v := 0) dX7_scan_145 (by decide) ?_
              exact hj1033 _ _
            · refine j_aload_n C dX7_scan_66 (i := 0) rfl rfl ?_
              refine j_getR C g_X7_11 dX7_scan_67 (fun v1065 ev1065 => ?_)
              refine j_aload_n C dX7_scan_70 (i := 0) rfl rfl ?_
              refine j_getI C g_X7_40 dX7_scan_71 (fun v1066 ev1066 => ?_)
              refine j_aload_n C dX7_scan_74 (i := 3) rfl rfl ?_
              refine j_aastoreK C dX7_scan_75 (fun h1067 eh1067 => ?_)
              refine j_aload_n C dX7_scan_76 (i := 0) rfl rfl ?_
              refine j_getR C g_X7_15 dX7_scan_77 (fun v1068 ev1068 => ?_)
              refine j_aload_n C dX7_scan_80 (i := 0) rfl rfl ?_
              refine j_getI C g_X7_40 dX7_scan_81 (fun v1069 ev1069 => ?_)
              refine j_iload_n C dX7_scan_84 (i := 2) rfl rfl ?_
              refine j_iastore C dX7_scan_85 (fun h1070 eh1070 => ?_)
              refine j_aload_n C dX7_scan_86 (i := 0) rfl rfl ?_
              refine j_getR C g_X7_19 dX7_scan_87 (fun v1071 ev1071 => ?_)
              refine j_aload_n C dX7_scan_90 (i := 0) rfl rfl ?_
              refine j_getI C g_X7_40 dX7_scan_91 (fun v1072 ev1072 => ?_)
              refine j_aload_n C dX7_scan_94 (i := 0) rfl rfl ?_
              refine j_getI C g_X7_37 dX7_scan_95 (fun v1073 ev1073 => ?_)
              refine j_iload_n C dX7_scan_98 (i := 2) rfl rfl ?_
              refine j_isub C dX7_scan_99 ?_
              refine j_iastore C dX7_scan_100 (fun h1074 eh1074 => ?_)
              refine j_aload_n C dX7_scan_101 (i := 0) rfl rfl ?_
              refine j_getR C g_X7_22 dX7_scan_102 (fun v1075 ev1075 => ?_)
              refine j_aload_n C dX7_scan_105 (i := 0) rfl rfl ?_
              refine j_getI C g_X7_40 dX7_scan_106 (fun v1076 ev1076 => ?_)
              refine j_aload_n C dX7_scan_109 (i := 0) rfl rfl ?_
              refine j_getL C g_X7_57 dX7_scan_110 (fun v1077 ev1077 => ?_)
              refine j_lastore C dX7_scan_113 (fun h1078 eh1078 => ?_)
              refine j_aload_n C dX7_scan_114 (i := 0) rfl rfl ?_
              refine j_getR C g_X7_26 dX7_scan_115 (fun v1079 ev1079 => ?_)
              refine j_aload_n C dX7_scan_118 (i := 0) rfl rfl ?_
              refine j_getI C g_X7_40 dX7_scan_119 (fun v1080 ev1080 => ?_)
              refine j_aload_n C dX7_scan_122 (i := 0) rfl rfl ?_
              refine j_getI C g_X7_61 dX7_scan_123 (fun v1081 ev1081 => ?_)
              refine j_iastore C dX7_scan_126 (fun h1082 eh1082 => ?_)
              refine j_aload_n C dX7_scan_127 (i := 3) rfl rfl ?_
              refine j_kind C s_X7_50 (by decide) dX7_scan_128 ?_
              refine j_acmpeq C (tgt := 145) dX7_scan_131 (by decide) (fun q1083 => ?_) (fun q1083 => ?_)
              · exact j_sub [0] rfl (hj1063 _)
              · refine j_aload_n C dX7_scan_134 (i := 3) rfl rfl ?_
                refine j_kind C s_X7_54 (by decide) dX7_scan_135 ?_
                refine j_acmpeq C (tgt := 145) dX7_scan_138 (by decide) (fun q1084 => ?_) (fun q1084 => ?_)
                · exact j_sub [0] rfl (hj1063 _)
                · refine j_iconst C (v := 1) dX7_scan_141 (by decide) ?_
                  refine j_goto C (tgt := 146) dX7_scan_142 (by decide) ?_
                  exact j_sub [0] rfl (hj1033 _ _)
        · refine j_aload_n C dX7_scan_31 (i := 0) rfl rfl ?_
          refine j_callVv C (As := []) (rest := []) k_X7_43 ⟨Nat.le_of_ble_eq_true rfl, Nat.le_of_ble_eq_true rfl⟩ rfl (Nat.le_of_ble_eq_true rfl) ⟨Nat.le_of_ble_eq_true rfl, Nat.le_of_ble_eq_true rfl⟩ rfl dX7_scan_32 (fun r0 q0 => c_Sc_skipBlanks l w fl _ _ _ q0) (fun h1085 eh1085 _ => ?_)
          refine j_aload_n C dX7_scan_35 (i := 0) rfl rfl ?_
          refine j_getI C g_X7_37 dX7_scan_36 (fun v1086 ev1086 => ?_)
          refine j_istore_n C [(2, _), (0, _), (1, _)] dX7_scan_39 (i := 2) rfl (by decide) rfl ?_
          refine j_aload_n C dX7_scan_40 (i := 0) rfl rfl ?_
          refine j_callVrm C (As := []) (rest := []) k_X7_46 ⟨Nat.le_of_ble_eq_true rfl, Nat.le_of_ble_eq_true rfl⟩ rfl (Nat.le_of_ble_eq_true rfl) ⟨Nat.le_of_ble_eq_true rfl, Nat.le_of_ble_eq_true rfl⟩ rfl dX7_scan_41 (fun r0 q0 => c_Sc_readToken l w fl _ _ _ q0) (fun r1087 er1087 nr1087 => ?_)
          refine j_astore_n C [(3, _), (2, _), (0, _), (1, _)] dX7_scan_44 (i := 3) rfl (by decide) rfl ?_
          refine j_aload_n C dX7_scan_45 (i := 0) rfl rfl ?_
          refine j_getI C g_X7_40 dX7_scan_46 (fun v1088 ev1088 => ?_)
          refine j_sipush C (v := 400) dX7_scan_49 (by decide) ?_
          refine j_icmpne C (tgt := 66) dX7_scan_52 (by decide) (fun q1089 => ?_) (fun q1089 => ?_)
          · refine j_aload_n C dX7_scan_55 (i := 3) rfl rfl ?_
            refine j_kind C s_X7_50 (by decide) dX7_scan_56 ?_
            refine j_acmpeq C (tgt := 66) dX7_scan_59 (by decide) (fun q1090 => ?_) (fun q1090 => ?_)
            · exact j_sub [2, 1, 0] rfl (hj1011 _ _ _)
            · refine j_kind C s_X7_54 (by decide) dX7_scan_62 ?_
              refine j_astore_n C [(3, _), (2, _), (0, _), (1, _)] dX7_scan_65 (i := 3) rfl (by decide) rfl ?_
              exact j_sub [2, 1, 0] rfl (hj1011 _ _ _)
          · exact j_sub [2, 1, 0] rfl (hj1011 _ _ _)
set_option maxRecDepth 100000 in
set_option maxHeartbeats 4000000 in
theorem c_Sc_scan (l : Launch) (w : hp_W) (fl : Nat) (a0 : Nat) (h : hp_M) (out : hp_M) (hX : f_Sc_scan w fl a0 h = some out) : CT l w yX7_scan cX7_scan 4 none ({ frames := 10, cells := 0, slots := 0, locals := 290 }) [.ref a0] h none out := by
  unfold f_Sc_scan at hX
  refine ct_of (by decide +kernel) (Nat.le_of_ble_eq_true rfl) hX ?_
  intro p e s m args below meth c Q C hr hlk hnm hQ
  refine j_aload_n C dX7_scan_0 (i := 0) rfl rfl ?_
  refine j_iconst C (v := 0) dX7_scan_1 (by decide) ?_
  refine j_putI C p_X7_33 (fun q => nomatch q) dX7_scan_2 (fun h1 eh1 => ?_)
  refine j_aload_n C dX7_scan_5 (i := 0) rfl rfl ?_
  refine j_iconst C (v := 0) dX7_scan_6 (by decide) ?_
  refine j_putI C p_X7_37 (fun q => nomatch q) dX7_scan_7 (fun h2 eh2 => ?_)
  refine j_iconst C (v := 1) dX7_scan_10 (by decide) ?_
  refine j_istore_n C [(1, _), (0, _)] dX7_scan_11 (i := 1) rfl (by decide) rfl ?_
  refine j_aload_n C dX7_scan_12 (i := 0) rfl rfl ?_
  refine j_iconst C (v := 0) dX7_scan_13 (by decide) ?_
  refine j_putI C p_X7_40 (fun q => nomatch q) dX7_scan_14 (fun h3 eh3 => ?_)
  refine j_sub [1, 0] rfl (b_Sc_scan_17 fl  _ C hr hlk hnm hQ  _ _ _)
def f_Sc_isAt (a0 : Nat) (a1 : Nat) (h : hp_M) : Option (Int32) := jn (some 0) fun (j6 : Option (Int32)) => (gI h a0 6 7).bind fun v7 => (gI h a0 6 6).bind fun v8 => if v8 ≤ v7 then (j6) else ((gR h a0 6 1).bind fun v10 => (gI h a0 6 7).bind fun v11 => (gaR h 2 v10 v11).bind fun v12 => if v12 = a1 then (some 1) else (j6))
set_option maxRecDepth 100000 in
set_option maxHeartbeats 4000000 in
theorem c_Sc_isAt (l : Launch) (w : hp_W) (a0 : Nat) (a1 : Nat) (h : hp_M) (out : Int32) (hX : f_Sc_isAt a0 a1 h = some out) : CT l w yX7_isAt cX7_isAt 2 (some .boolean) ({ frames := 0, cells := 0, slots := 0, locals := 0 }) [.ref a0, .ref a1] h (some (.int out)) h := by
  unfold f_Sc_isAt at hX
  refine ct_of (by decide +kernel) (Nat.le_of_ble_eq_true rfl) hX ?_
  intro p e s m args below meth c Q C hr hlk hnm hQ
  refine j_jn (P := fun j6 => J p l e ({ frames := 0, cells := 0, slots := 0, locals := 0 }) s m args below meth c Q w 2 0 0 28 [] [] h (j6) out) ?_ (fun j6 hj6 => ?_)
  · refine j_iconst C (v := 0) dX7_isAt_28 (by decide) ?_
    exact e_iretR C hQ hr rfl hlk dX7_isAt_29 (Nat.le_of_ble_eq_true rfl) (Nat.le_of_ble_eq_true rfl)
  · refine j_aload_n C dX7_isAt_0 (i := 0) rfl rfl ?_
    refine j_getI C g_X7_33 dX7_isAt_1 (fun v7 ev7 => ?_)
    refine j_aload_n C dX7_isAt_4 (i := 0) rfl rfl ?_
    refine j_getI C g_X7_40 dX7_isAt_5 (fun v8 ev8 => ?_)
    refine j_icmpge C (tgt := 28) dX7_isAt_8 (by decide) (fun q9 => ?_) (fun q9 => ?_)
    · exact j_sub [] rfl (hj6)
    · refine j_aload_n C dX7_isAt_11 (i := 0) rfl rfl ?_
      refine j_getR C g_X7_11 dX7_isAt_12 (fun v10 ev10 => ?_)
      refine j_aload_n C dX7_isAt_15 (i := 0) rfl rfl ?_
      refine j_getI C g_X7_33 dX7_isAt_16 (fun v11 ev11 => ?_)
      refine j_aaload C (t := 2) rfl dX7_isAt_19 (fun v12 ev12 => ?_)
      refine j_aload_n C dX7_isAt_20 (i := 1) rfl rfl ?_
      refine j_acmpne C (tgt := 28) dX7_isAt_21 (by decide) (fun q13 => ?_) (fun q13 => ?_)
      · refine j_iconst C (v := 1) dX7_isAt_24 (by decide) ?_
        refine j_goto C (tgt := 29) dX7_isAt_25 (by decide) ?_
        exact e_iretR C hQ hr rfl hlk dX7_isAt_29 (Nat.le_of_ble_eq_true rfl) (Nat.le_of_ble_eq_true rfl)
      · exact j_sub [] rfl (hj6)
def f_Sc_take (a0 : Nat) (a1 : Nat) (h : hp_M) : Option (Int32 × hp_M) := (gI h a0 6 7).bind fun v1 => (gI h a0 6 6).bind fun v2 => if v2 ≤ v1 then (some (0, h)) else ((gR h a0 6 1).bind fun v4 => (gI h a0 6 7).bind fun v5 => (gaR h 2 v4 v5).bind fun v6 => if v6 = a1 then ((gI h a0 6 7).bind fun v8 => (pF h a0 6 7 (.int (v8 + 1))).bind fun h9 => some (1, h9)) else (some (0, h)))
set_option maxRecDepth 100000 in
set_option maxHeartbeats 4000000 in
theorem c_Sc_take (l : Launch) (w : hp_W) (a0 : Nat) (a1 : Nat) (h : hp_M) (out : Int32 × hp_M) (hX : f_Sc_take a0 a1 h = some out) : CT l w yX7_take cX7_take 2 (some .boolean) ({ frames := 0, cells := 0, slots := 0, locals := 0 }) [.ref a0, .ref a1] h (some (.int out.1)) out.2 := by
  unfold f_Sc_take at hX
  refine ct_of (by decide +kernel) (Nat.le_of_ble_eq_true rfl) hX ?_
  intro p e s m args below meth c Q C hr hlk hnm hQ
  refine j_aload_n C dX7_take_0 (i := 0) rfl rfl ?_
  refine j_getI C g_X7_33 dX7_take_1 (fun v1 ev1 => ?_)
  refine j_aload_n C dX7_take_4 (i := 0) rfl rfl ?_
  refine j_getI C g_X7_40 dX7_take_5 (fun v2 ev2 => ?_)
  refine j_icmpge C (tgt := 24) dX7_take_8 (by decide) (fun q3 => ?_) (fun q3 => ?_)
  · refine j_iconst C (v := 0) dX7_take_24 (by decide) ?_
    exact e_iretM C hQ hr rfl hlk dX7_take_25 (Nat.le_of_ble_eq_true rfl) (Nat.le_of_ble_eq_true rfl)
  · refine j_aload_n C dX7_take_11 (i := 0) rfl rfl ?_
    refine j_getR C g_X7_11 dX7_take_12 (fun v4 ev4 => ?_)
    refine j_aload_n C dX7_take_15 (i := 0) rfl rfl ?_
    refine j_getI C g_X7_33 dX7_take_16 (fun v5 ev5 => ?_)
    refine j_aaload C (t := 2) rfl dX7_take_19 (fun v6 ev6 => ?_)
    refine j_aload_n C dX7_take_20 (i := 1) rfl rfl ?_
    refine j_acmpeq C (tgt := 26) dX7_take_21 (by decide) (fun q7 => ?_) (fun q7 => ?_)
    · refine j_aload_n C dX7_take_26 (i := 0) rfl rfl ?_
      refine j_dup C dX7_take_27 rfl ?_
      refine j_getI C g_X7_33 dX7_take_28 (fun v8 ev8 => ?_)
      refine j_iconst C (v := 1) dX7_take_31 (by decide) ?_
      refine j_iadd C dX7_take_32 ?_
      refine j_putI C p_X7_33 (fun q => nomatch q) dX7_take_33 (fun h9 eh9 => ?_)
      refine j_iconst C (v := 1) dX7_take_36 (by decide) ?_
      exact e_iretM C hQ hr rfl hlk dX7_take_37 (Nat.le_of_ble_eq_true rfl) (Nat.le_of_ble_eq_true rfl)
    · refine j_iconst C (v := 0) dX7_take_24 (by decide) ?_
      exact e_iretM C hQ hr rfl hlk dX7_take_25 (Nat.le_of_ble_eq_true rfl) (Nat.le_of_ble_eq_true rfl)
def f_Sc_word (a0 : Nat) (h : hp_M) : Option (Int64) := (gI h a0 6 7).bind fun v1 => (gI h a0 6 6).bind fun v2 => if v2 ≤ v1 then (some 0) else ((gR h a0 6 4).bind fun v4 => (gI h a0 6 7).bind fun v5 => (gaL h v4 v5).bind fun v6 => some v6)
set_option maxRecDepth 100000 in
set_option maxHeartbeats 4000000 in
theorem c_Sc_word (l : Launch) (w : hp_W) (a0 : Nat) (h : hp_M) (out : Int64) (hX : f_Sc_word a0 h = some out) : CT l w yX7_word cX7_word 1 (some .long) ({ frames := 0, cells := 0, slots := 0, locals := 0 }) [.ref a0] h (some (.long out)) h := by
  unfold f_Sc_word at hX
  refine ct_of (by decide +kernel) (Nat.le_of_ble_eq_true rfl) hX ?_
  intro p e s m args below meth c Q C hr hlk hnm hQ
  refine j_aload_n C dX7_word_0 (i := 0) rfl rfl ?_
  refine j_getI C g_X7_33 dX7_word_1 (fun v1 ev1 => ?_)
  refine j_aload_n C dX7_word_4 (i := 0) rfl rfl ?_
  refine j_getI C g_X7_40 dX7_word_5 (fun v2 ev2 => ?_)
  refine j_icmpge C (tgt := 23) dX7_word_8 (by decide) (fun q3 => ?_) (fun q3 => ?_)
  · refine j_lconst C (v := 0) dX7_word_23 rfl ?_
    exact e_lretR C hQ hr hlk dX7_word_24 (Nat.le_of_ble_eq_true rfl) (Nat.le_of_ble_eq_true rfl)
  · refine j_aload_n C dX7_word_11 (i := 0) rfl rfl ?_
    refine j_getR C g_X7_22 dX7_word_12 (fun v4 ev4 => ?_)
    refine j_aload_n C dX7_word_15 (i := 0) rfl rfl ?_
    refine j_getI C g_X7_33 dX7_word_16 (fun v5 ev5 => ?_)
    refine j_laload C dX7_word_19 (fun v6 ev6 => ?_)
    refine j_goto C (tgt := 24) dX7_word_20 (by decide) ?_
    exact e_lretR C hQ hr hlk dX7_word_24 (Nat.le_of_ble_eq_true rfl) (Nat.le_of_ble_eq_true rfl)
def f_Sc_start (a0 : Nat) (h : hp_M) : Option (Int32) := (gI h a0 6 7).bind fun v1 => (gI h a0 6 6).bind fun v2 => if v2 ≤ v1 then (some 0) else ((gR h a0 6 2).bind fun v4 => (gI h a0 6 7).bind fun v5 => (gaI h v4 v5).bind fun v6 => some v6)
set_option maxRecDepth 100000 in
set_option maxHeartbeats 4000000 in
theorem c_Sc_start (l : Launch) (w : hp_W) (a0 : Nat) (h : hp_M) (out : Int32) (hX : f_Sc_start a0 h = some out) : CT l w yX7_start cX7_start 1 (some .int) ({ frames := 0, cells := 0, slots := 0, locals := 0 }) [.ref a0] h (some (.int out)) h := by
  unfold f_Sc_start at hX
  refine ct_of (by decide +kernel) (Nat.le_of_ble_eq_true rfl) hX ?_
  intro p e s m args below meth c Q C hr hlk hnm hQ
  refine j_aload_n C dX7_start_0 (i := 0) rfl rfl ?_
  refine j_getI C g_X7_33 dX7_start_1 (fun v1 ev1 => ?_)
  refine j_aload_n C dX7_start_4 (i := 0) rfl rfl ?_
  refine j_getI C g_X7_40 dX7_start_5 (fun v2 ev2 => ?_)
  refine j_icmpge C (tgt := 23) dX7_start_8 (by decide) (fun q3 => ?_) (fun q3 => ?_)
  · refine j_iconst C (v := 0) dX7_start_23 (by decide) ?_
    exact e_iretR C hQ hr rfl hlk dX7_start_24 (Nat.le_of_ble_eq_true rfl) (Nat.le_of_ble_eq_true rfl)
  · refine j_aload_n C dX7_start_11 (i := 0) rfl rfl ?_
    refine j_getR C g_X7_15 dX7_start_12 (fun v4 ev4 => ?_)
    refine j_aload_n C dX7_start_15 (i := 0) rfl rfl ?_
    refine j_getI C g_X7_33 dX7_start_16 (fun v5 ev5 => ?_)
    refine j_iaload C dX7_start_19 (fun v6 ev6 => ?_)
    refine j_goto C (tgt := 24) dX7_start_20 (by decide) ?_
    exact e_iretR C hQ hr rfl hlk dX7_start_24 (Nat.le_of_ble_eq_true rfl) (Nat.le_of_ble_eq_true rfl)
def f_Sc_number (a0 : Nat) (h : hp_M) : Option (Int32) := (gI h a0 6 7).bind fun v1 => (gI h a0 6 6).bind fun v2 => if v2 ≤ v1 then (some 0) else ((gR h a0 6 5).bind fun v4 => (gI h a0 6 7).bind fun v5 => (gaI h v4 v5).bind fun v6 => some v6)
set_option maxRecDepth 100000 in
set_option maxHeartbeats 4000000 in
theorem c_Sc_number (l : Launch) (w : hp_W) (a0 : Nat) (h : hp_M) (out : Int32) (hX : f_Sc_number a0 h = some out) : CT l w yX7_number cX7_number 1 (some .int) ({ frames := 0, cells := 0, slots := 0, locals := 0 }) [.ref a0] h (some (.int out)) h := by
  unfold f_Sc_number at hX
  refine ct_of (by decide +kernel) (Nat.le_of_ble_eq_true rfl) hX ?_
  intro p e s m args below meth c Q C hr hlk hnm hQ
  refine j_aload_n C dX7_number_0 (i := 0) rfl rfl ?_
  refine j_getI C g_X7_33 dX7_number_1 (fun v1 ev1 => ?_)
  refine j_aload_n C dX7_number_4 (i := 0) rfl rfl ?_
  refine j_getI C g_X7_40 dX7_number_5 (fun v2 ev2 => ?_)
  refine j_icmpge C (tgt := 23) dX7_number_8 (by decide) (fun q3 => ?_) (fun q3 => ?_)
  · refine j_iconst C (v := 0) dX7_number_23 (by decide) ?_
    exact e_iretR C hQ hr rfl hlk dX7_number_24 (Nat.le_of_ble_eq_true rfl) (Nat.le_of_ble_eq_true rfl)
  · refine j_aload_n C dX7_number_11 (i := 0) rfl rfl ?_
    refine j_getR C g_X7_26 dX7_number_12 (fun v4 ev4 => ?_)
    refine j_aload_n C dX7_number_15 (i := 0) rfl rfl ?_
    refine j_getI C g_X7_33 dX7_number_16 (fun v5 ev5 => ?_)
    refine j_iaload C dX7_number_19 (fun v6 ev6 => ?_)
    refine j_goto C (tgt := 24) dX7_number_20 (by decide) ?_
    exact e_iretR C hQ hr rfl hlk dX7_number_24 (Nat.le_of_ble_eq_true rfl) (Nat.le_of_ble_eq_true rfl)
def f_Sc_length (a0 : Nat) (h : hp_M) : Option (Int32) := (gI h a0 6 7).bind fun v1 => (gI h a0 6 6).bind fun v2 => if v2 ≤ v1 then (some 0) else ((gR h a0 6 3).bind fun v4 => (gI h a0 6 7).bind fun v5 => (gaI h v4 v5).bind fun v6 => some v6)
set_option maxRecDepth 100000 in
set_option maxHeartbeats 4000000 in
theorem c_Sc_length (l : Launch) (w : hp_W) (a0 : Nat) (h : hp_M) (out : Int32) (hX : f_Sc_length a0 h = some out) : CT l w yX7_length cX7_length 1 (some .int) ({ frames := 0, cells := 0, slots := 0, locals := 0 }) [.ref a0] h (some (.int out)) h := by
  unfold f_Sc_length at hX
  refine ct_of (by decide +kernel) (Nat.le_of_ble_eq_true rfl) hX ?_
  intro p e s m args below meth c Q C hr hlk hnm hQ
  refine j_aload_n C dX7_length_0 (i := 0) rfl rfl ?_
  refine j_getI C g_X7_33 dX7_length_1 (fun v1 ev1 => ?_)
  refine j_aload_n C dX7_length_4 (i := 0) rfl rfl ?_
  refine j_getI C g_X7_40 dX7_length_5 (fun v2 ev2 => ?_)
  refine j_icmpge C (tgt := 23) dX7_length_8 (by decide) (fun q3 => ?_) (fun q3 => ?_)
  · refine j_iconst C (v := 0) dX7_length_23 (by decide) ?_
    exact e_iretR C hQ hr rfl hlk dX7_length_24 (Nat.le_of_ble_eq_true rfl) (Nat.le_of_ble_eq_true rfl)
  · refine j_aload_n C dX7_length_11 (i := 0) rfl rfl ?_
    refine j_getR C g_X7_19 dX7_length_12 (fun v4 ev4 => ?_)
    refine j_aload_n C dX7_length_15 (i := 0) rfl rfl ?_
    refine j_getI C g_X7_33 dX7_length_16 (fun v5 ev5 => ?_)
    refine j_iaload C dX7_length_19 (fun v6 ev6 => ?_)
    refine j_goto C (tgt := 24) dX7_length_20 (by decide) ?_
    exact e_iretR C hQ hr rfl hlk dX7_length_24 (Nat.le_of_ble_eq_true rfl) (Nat.le_of_ble_eq_true rfl)
def f_Sc_signAt (a0 : Nat) (x1 : Int32) (h : hp_M) : Option (Int32) := (gI h a0 6 7).bind fun v1 => (gI h a0 6 6).bind fun v2 => if v2 ≤ v1 then (some 0) else ((gR h a0 6 0).bind fun v4 => (gR h a0 6 2).bind fun v5 => (gI h a0 6 7).bind fun v6 => (gaI h v5 v6).bind fun v7 => (onO h v4 8 (f_Tp_at v4 (v7 + x1) h)).bind fun r8 => some r8)
set_option maxRecDepth 100000 in
set_option maxHeartbeats 4000000 in
theorem c_Sc_signAt (l : Launch) (w : hp_W) (a0 : Nat) (x1 : Int32) (h : hp_M) (out : Int32) (hX : f_Sc_signAt a0 x1 h = some out) : CT l w yX7_signAt cX7_signAt 2 (some .int) ({ frames := 1, cells := 0, slots := 0, locals := 21 }) [.ref a0, .int x1] h (some (.int out)) h := by
  unfold f_Sc_signAt at hX
  refine ct_of (by decide +kernel) (Nat.le_of_ble_eq_true rfl) hX ?_
  intro p e s m args below meth c Q C hr hlk hnm hQ
  refine j_aload_n C dX7_signAt_0 (i := 0) rfl rfl ?_
  refine j_getI C g_X7_33 dX7_signAt_1 (fun v1 ev1 => ?_)
  refine j_aload_n C dX7_signAt_4 (i := 0) rfl rfl ?_
  refine j_getI C g_X7_40 dX7_signAt_5 (fun v2 ev2 => ?_)
  refine j_icmpge C (tgt := 32) dX7_signAt_8 (by decide) (fun q3 => ?_) (fun q3 => ?_)
  · refine j_iconst C (v := 0) dX7_signAt_32 (by decide) ?_
    exact e_iretR C hQ hr rfl hlk dX7_signAt_33 (Nat.le_of_ble_eq_true rfl) (Nat.le_of_ble_eq_true rfl)
  · refine j_aload_n C dX7_signAt_11 (i := 0) rfl rfl ?_
    refine j_getR C g_X7_29 dX7_signAt_12 (fun v4 ev4 => ?_)
    refine j_aload_n C dX7_signAt_15 (i := 0) rfl rfl ?_
    refine j_getR C g_X7_15 dX7_signAt_16 (fun v5 ev5 => ?_)
    refine j_aload_n C dX7_signAt_19 (i := 0) rfl rfl ?_
    refine j_getI C g_X7_33 dX7_signAt_20 (fun v6 ev6 => ?_)
    refine j_iaload C dX7_signAt_23 (fun v7 ev7 => ?_)
    refine j_iload_n C dX7_signAt_24 (i := 1) rfl rfl ?_
    refine j_iadd C dX7_signAt_25 ?_
    refine j_callVi C (As := [.int _]) (rest := []) k_X7_64 ⟨Nat.le_of_ble_eq_true rfl, Nat.le_of_ble_eq_true rfl⟩ rfl (Nat.le_of_ble_eq_true rfl) ⟨Nat.le_of_ble_eq_true rfl, Nat.le_of_ble_eq_true rfl⟩ rfl dX7_signAt_26 (fun r0 q0 => c_Tp_at l w _ _ _ _ q0) (fun r8 er8 nr8 => ?_)
    refine j_goto C (tgt := 33) dX7_signAt_29 (by decide) ?_
    exact e_iretR C hQ hr rfl hlk dX7_signAt_33 (Nat.le_of_ble_eq_true rfl) (Nat.le_of_ble_eq_true rfl)
def f_Sc_kind (w : hp_W) (a0 : Nat) (h : hp_M) : Option (Nat) := (gI h a0 6 7).bind fun v1 => (gI h a0 6 6).bind fun v2 => if v2 ≤ v1 then (some (w_kd w 1)) else ((gR h a0 6 1).bind fun v4 => (gI h a0 6 7).bind fun v5 => (gaR h 2 v4 v5).bind fun v6 => some v6)
set_option maxRecDepth 100000 in
set_option maxHeartbeats 4000000 in
theorem c_Sc_kind (l : Launch) (w : hp_W) (a0 : Nat) (h : hp_M) (out : Nat) (hX : f_Sc_kind w a0 h = some out) : CT l w yX7_kind cX7_kind 1 (some (.object "ShadowSpell$Kind")) ({ frames := 0, cells := 0, slots := 0, locals := 0 }) [.ref a0] h (some (.ref out)) h := by
  unfold f_Sc_kind at hX
  refine ct_of (by decide +kernel) (Nat.le_of_ble_eq_true rfl) hX ?_
  intro p e s m args below meth c Q C hr hlk hnm hQ
  refine j_aload_n C dX7_kind_0 (i := 0) rfl rfl ?_
  refine j_getI C g_X7_33 dX7_kind_1 (fun v1 ev1 => ?_)
  refine j_aload_n C dX7_kind_4 (i := 0) rfl rfl ?_
  refine j_getI C g_X7_40 dX7_kind_5 (fun v2 ev2 => ?_)
  refine j_icmpge C (tgt := 23) dX7_kind_8 (by decide) (fun q3 => ?_) (fun q3 => ?_)
  · refine j_kind C s_X7_54 (by decide) dX7_kind_23 ?_
    exact e_aretR C hQ hr (by first | exact Or.inl ⟨_, rfl⟩ | exact Or.inr ⟨_, rfl⟩) hlk dX7_kind_26 (Nat.le_of_ble_eq_true rfl) (Nat.le_of_ble_eq_true rfl)
  · refine j_aload_n C dX7_kind_11 (i := 0) rfl rfl ?_
    refine j_getR C g_X7_11 dX7_kind_12 (fun v4 ev4 => ?_)
    refine j_aload_n C dX7_kind_15 (i := 0) rfl rfl ?_
    refine j_getI C g_X7_33 dX7_kind_16 (fun v5 ev5 => ?_)
    refine j_aaload C (t := 2) rfl dX7_kind_19 (fun v6 ev6 => ?_)
    refine j_goto C (tgt := 26) dX7_kind_20 (by decide) ?_
    exact e_aretR C hQ hr (by first | exact Or.inl ⟨_, rfl⟩ | exact Or.inr ⟨_, rfl⟩) hlk dX7_kind_26 (Nat.le_of_ble_eq_true rfl) (Nat.le_of_ble_eq_true rfl)
def f_Sc_takeAny (a0 : Nat) (h : hp_M) : Option (Int32 × hp_M) := (gI h a0 6 7).bind fun v1 => (gI h a0 6 6).bind fun v2 => if v1 < v2 then ((gI h a0 6 7).bind fun v4 => (pF h a0 6 7 (.int (v4 + 1))).bind fun h5 => some (1, h5)) else (some (0, h))
set_option maxRecDepth 100000 in
set_option maxHeartbeats 4000000 in
theorem c_Sc_takeAny (l : Launch) (w : hp_W) (a0 : Nat) (h : hp_M) (out : Int32 × hp_M) (hX : f_Sc_takeAny a0 h = some out) : CT l w yX7_takeAny cX7_takeAny 1 (some .boolean) ({ frames := 0, cells := 0, slots := 0, locals := 0 }) [.ref a0] h (some (.int out.1)) out.2 := by
  unfold f_Sc_takeAny at hX
  refine ct_of (by decide +kernel) (Nat.le_of_ble_eq_true rfl) hX ?_
  intro p e s m args below meth c Q C hr hlk hnm hQ
  refine j_aload_n C dX7_takeAny_0 (i := 0) rfl rfl ?_
  refine j_getI C g_X7_33 dX7_takeAny_1 (fun v1 ev1 => ?_)
  refine j_aload_n C dX7_takeAny_4 (i := 0) rfl rfl ?_
  refine j_getI C g_X7_40 dX7_takeAny_5 (fun v2 ev2 => ?_)
  refine j_icmplt C (tgt := 13) dX7_takeAny_8 (by decide) (fun q3 => ?_) (fun q3 => ?_)
  · refine j_aload_n C dX7_takeAny_13 (i := 0) rfl rfl ?_
    refine j_dup C dX7_takeAny_14 rfl ?_
    refine j_getI C g_X7_33 dX7_takeAny_15 (fun v4 ev4 => ?_)
    refine j_iconst C (v := 1) dX7_takeAny_18 (by decide) ?_
    refine j_iadd C dX7_takeAny_19 ?_
    refine j_putI C p_X7_33 (fun q => nomatch q) dX7_takeAny_20 (fun h5 eh5 => ?_)
    refine j_iconst C (v := 1) dX7_takeAny_23 (by decide) ?_
    exact e_iretM C hQ hr rfl hlk dX7_takeAny_24 (Nat.le_of_ble_eq_true rfl) (Nat.le_of_ble_eq_true rfl)
  · refine j_iconst C (v := 0) dX7_takeAny_11 (by decide) ?_
    exact e_iretM C hQ hr rfl hlk dX7_takeAny_12 (Nat.le_of_ble_eq_true rfl) (Nat.le_of_ble_eq_true rfl)
def f_Sk_init (fl : Nat) (a0 : Nat) (h : hp_M) : Option (hp_M) := (pF (hN h (aR 3 8 (fun _ => none))) a0 7 0 (.ref h.2)).bind fun h1 => (pF (hN h1 (aI 12 (fun _ => 0))) a0 7 2 (.ref h1.2)).bind fun h2 => (f_Pp_init h2.2 (hN h2 (oC 2 [.null, .int 0]))).bind fun h3 => (pF h3 a0 7 3 (.ref h2.2)).bind fun h4 => if (8 : Int32) ≤ 0 then (none) else ((gR h4 a0 7 0).bind fun v6 => (f_Pl_init h4.2 (hN h4 (oC 3 [.int 0, .int 0, .int 0, .int 0, .int 0, .int 0, .int 0]))).bind fun h7 => (paR h7 3 3 v6 0 h4.2).bind fun h8 => if (8 : Int32) ≤ 1 then (none) else ((gR h8 a0 7 0).bind fun v10 => (f_Pl_init h8.2 (hN h8 (oC 3 [.int 0, .int 0, .int 0, .int 0, .int 0, .int 0, .int 0]))).bind fun h11 => (paR h11 3 3 v10 1 h8.2).bind fun h12 => if (8 : Int32) ≤ 2 then (none) else ((gR h12 a0 7 0).bind fun v14 => (f_Pl_init h12.2 (hN h12 (oC 3 [.int 0, .int 0, .int 0, .int 0, .int 0, .int 0, .int 0]))).bind fun h15 => (paR h15 3 3 v14 2 h12.2).bind fun h16 => if (8 : Int32) ≤ 3 then (none) else ((gR h16 a0 7 0).bind fun v18 => (f_Pl_init h16.2 (hN h16 (oC 3 [.int 0, .int 0, .int 0, .int 0, .int 0, .int 0, .int 0]))).bind fun h19 => (paR h19 3 3 v18 3 h16.2).bind fun h20 => if (8 : Int32) ≤ 4 then (none) else ((gR h20 a0 7 0).bind fun v22 => (f_Pl_init h20.2 (hN h20 (oC 3 [.int 0, .int 0, .int 0, .int 0, .int 0, .int 0, .int 0]))).bind fun h23 => (paR h23 3 3 v22 4 h20.2).bind fun h24 => if (8 : Int32) ≤ 5 then (none) else ((gR h24 a0 7 0).bind fun v26 => (f_Pl_init h24.2 (hN h24 (oC 3 [.int 0, .int 0, .int 0, .int 0, .int 0, .int 0, .int 0]))).bind fun h27 => (paR h27 3 3 v26 5 h24.2).bind fun h28 => if (8 : Int32) ≤ 6 then (none) else ((gR h28 a0 7 0).bind fun v30 => (f_Pl_init h28.2 (hN h28 (oC 3 [.int 0, .int 0, .int 0, .int 0, .int 0, .int 0, .int 0]))).bind fun h31 => (paR h31 3 3 v30 6 h28.2).bind fun h32 => if (8 : Int32) ≤ 7 then (none) else ((gR h32 a0 7 0).bind fun v34 => (f_Pl_init h32.2 (hN h32 (oC 3 [.int 0, .int 0, .int 0, .int 0, .int 0, .int 0, .int 0]))).bind fun h35 => (paR h35 3 3 v34 7 h32.2).bind fun h36 => if (8 : Int32) ≤ 8 then (some h36) else (none)))))))))
set_option maxRecDepth 100000 in
set_option maxHeartbeats 4000000 in
theorem c_Sk_init (l : Launch) (w : hp_W) (fl : Nat) (a0 : Nat) (h : hp_M) (out : hp_M) (hX : f_Sk_init fl a0 h = some out) : CT l w yX8_init cX8_init 2 none ({ frames := 2, cells := 12, slots := 678, locals := 52 }) [.ref a0] h none out := by
  unfold f_Sk_init at hX
  refine ct_of (by decide +kernel) (Nat.le_of_ble_eq_true rfl) hX ?_
  intro p e s m args below meth c Q C hr hlk hnm hQ
  refine j_aload_n C dX8_init_0 (i := 0) rfl rfl ?_
  refine j_objInit C k_X8_1 k_oi k_oc dX8_init_1 (Nat.le_of_ble_eq_true rfl) (Nat.le_of_ble_eq_true rfl) ?_
  refine j_aload_n C dX8_init_4 (i := 0) rfl rfl ?_
  refine j_bipush C (v := 8) dX8_init_5 (by decide) ?_
  refine j_newR C (N := 8) (t := 3) rfl v_X8_9 C.2.1.2.2.2.2.2.2.2.2.1 (by decide) (by decide) (Nat.le_of_ble_eq_true rfl) (Nat.le_of_ble_eq_true rfl) (Nat.le_of_ble_eq_true rfl) dX8_init_7 ?_
  refine j_putR C p_X8_11 (fun _ => hnm) dX8_init_10 rfl rfl (fun h1 eh1 => ?_)
  refine j_aload_n C dX8_init_13 (i := 0) rfl rfl ?_
  refine j_bipush C (v := 12) dX8_init_14 (by decide) ?_
  refine j_newI C (N := 12) k_arr_int (by decide) (by decide) (Nat.le_of_ble_eq_true rfl) (Nat.le_of_ble_eq_true rfl) (Nat.le_of_ble_eq_true rfl) dX8_init_16 ?_
  refine j_putR C p_X8_17 (fun _ => hnm) dX8_init_18 rfl rfl (fun h2 eh2 => ?_)
  refine j_aload_n C dX8_init_21 (i := 0) rfl rfl ?_
  refine j_new C n_X8_21 (Nat.le_of_ble_eq_true rfl) (Nat.le_of_ble_eq_true rfl) dX8_init_22 ?_
  refine j_dup C dX8_init_25 rfl ?_
  refine j_callIN C (As := []) (rest := [_, _]) k_X8_23 ⟨Nat.le_of_ble_eq_true rfl, Nat.le_of_ble_eq_true rfl⟩ rfl (Nat.le_of_ble_eq_true rfl) ⟨Nat.le_of_ble_eq_true rfl, Nat.le_of_ble_eq_true rfl⟩ rfl dX8_init_26 (fun r0 q0 => c_Pp_init l w _ _ _ q0) (fun h3 eh3 => ?_)
  refine j_putR C p_X8_24 (fun _ => hnm) dX8_init_29 rfl rfl (fun h4 eh4 => ?_)
  refine j_iconst C (v := 0) dX8_init_32 (by decide) ?_
  refine j_istore_n C [(1, _), (0, _)] dX8_init_33 (i := 1) rfl (by decide) rfl ?_
  refine j_iload_n C dX8_init_34 (i := 1) rfl rfl ?_
  refine j_bipush C (v := 8) dX8_init_35 (by decide) ?_
  refine j_icmpge C (tgt := 59) dX8_init_37 (by decide) (fun q5 => ?_) (fun q5 => ?_)
  · exact j_none
  · refine j_aload_n C dX8_init_40 (i := 0) rfl rfl ?_
    refine j_getR C g_X8_11 dX8_init_41 (fun v6 ev6 => ?_)
    refine j_iload_n C dX8_init_44 (i := 1) rfl rfl ?_
    refine j_new C n_X8_9 (Nat.le_of_ble_eq_true rfl) (Nat.le_of_ble_eq_true rfl) dX8_init_45 ?_
    refine j_dup C dX8_init_48 rfl ?_
    refine j_callIN C (As := []) (rest := [_, _, _]) k_X8_28 ⟨Nat.le_of_ble_eq_true rfl, Nat.le_of_ble_eq_true rfl⟩ rfl (Nat.le_of_ble_eq_true rfl) ⟨Nat.le_of_ble_eq_true rfl, Nat.le_of_ble_eq_true rfl⟩ rfl dX8_init_49 (fun r0 q0 => c_Pl_init l w _ _ _ q0) (fun h7 eh7 => ?_)
    refine j_aastore C (t := 3) (ci := 3) rfl rfl dX8_init_52 (fun h8 eh8 => ?_)
    refine j_iinc C (v := 1) [(1, _), (0, _)] dX8_init_53 rfl (by decide) (by decide) rfl ?_
    refine j_goto C (tgt := 34) dX8_init_56 (by decide) ?_
    refine j_iload_n C dX8_init_34 (i := 1) rfl rfl ?_
    refine j_bipush C (v := 8) dX8_init_35 (by decide) ?_
    refine j_icmpge C (tgt := 59) dX8_init_37 (by decide) (fun q9 => ?_) (fun q9 => ?_)
    · exact j_none
    · refine j_aload_n C dX8_init_40 (i := 0) rfl rfl ?_
      refine j_getR C g_X8_11 dX8_init_41 (fun v10 ev10 => ?_)
      refine j_iload_n C dX8_init_44 (i := 1) rfl rfl ?_
      refine j_new C n_X8_9 (Nat.le_of_ble_eq_true rfl) (Nat.le_of_ble_eq_true rfl) dX8_init_45 ?_
      refine j_dup C dX8_init_48 rfl ?_
      refine j_callIN C (As := []) (rest := [_, _, _]) k_X8_28 ⟨Nat.le_of_ble_eq_true rfl, Nat.le_of_ble_eq_true rfl⟩ rfl (Nat.le_of_ble_eq_true rfl) ⟨Nat.le_of_ble_eq_true rfl, Nat.le_of_ble_eq_true rfl⟩ rfl dX8_init_49 (fun r0 q0 => c_Pl_init l w _ _ _ q0) (fun h11 eh11 => ?_)
      refine j_aastore C (t := 3) (ci := 3) rfl rfl dX8_init_52 (fun h12 eh12 => ?_)
      refine j_iinc C (v := 2) [(1, _), (0, _)] dX8_init_53 rfl (by decide) (by decide) rfl ?_
      refine j_goto C (tgt := 34) dX8_init_56 (by decide) ?_
      refine j_iload_n C dX8_init_34 (i := 1) rfl rfl ?_
      refine j_bipush C (v := 8) dX8_init_35 (by decide) ?_
      refine j_icmpge C (tgt := 59) dX8_init_37 (by decide) (fun q13 => ?_) (fun q13 => ?_)
      · exact j_none
      · refine j_aload_n C dX8_init_40 (i := 0) rfl rfl ?_
        refine j_getR C g_X8_11 dX8_init_41 (fun v14 ev14 => ?_)
        refine j_iload_n C dX8_init_44 (i := 1) rfl rfl ?_
        refine j_new C n_X8_9 (Nat.le_of_ble_eq_true rfl) (Nat.le_of_ble_eq_true rfl) dX8_init_45 ?_
        refine j_dup C dX8_init_48 rfl ?_
        refine j_callIN C (As := []) (rest := [_, _, _]) k_X8_28 ⟨Nat.le_of_ble_eq_true rfl, Nat.le_of_ble_eq_true rfl⟩ rfl (Nat.le_of_ble_eq_true rfl) ⟨Nat.le_of_ble_eq_true rfl, Nat.le_of_ble_eq_true rfl⟩ rfl dX8_init_49 (fun r0 q0 => c_Pl_init l w _ _ _ q0) (fun h15 eh15 => ?_)
        refine j_aastore C (t := 3) (ci := 3) rfl rfl dX8_init_52 (fun h16 eh16 => ?_)
        refine j_iinc C (v := 3) [(1, _), (0, _)] dX8_init_53 rfl (by decide) (by decide) rfl ?_
        refine j_goto C (tgt := 34) dX8_init_56 (by decide) ?_
        refine j_iload_n C dX8_init_34 (i := 1) rfl rfl ?_
        refine j_bipush C (v := 8) dX8_init_35 (by decide) ?_
        refine j_icmpge C (tgt := 59) dX8_init_37 (by decide) (fun q17 => ?_) (fun q17 => ?_)
        · exact j_none
        · refine j_aload_n C dX8_init_40 (i := 0) rfl rfl ?_
          refine j_getR C g_X8_11 dX8_init_41 (fun v18 ev18 => ?_)
          refine j_iload_n C dX8_init_44 (i := 1) rfl rfl ?_
          refine j_new C n_X8_9 (Nat.le_of_ble_eq_true rfl) (Nat.le_of_ble_eq_true rfl) dX8_init_45 ?_
          refine j_dup C dX8_init_48 rfl ?_
          refine j_callIN C (As := []) (rest := [_, _, _]) k_X8_28 ⟨Nat.le_of_ble_eq_true rfl, Nat.le_of_ble_eq_true rfl⟩ rfl (Nat.le_of_ble_eq_true rfl) ⟨Nat.le_of_ble_eq_true rfl, Nat.le_of_ble_eq_true rfl⟩ rfl dX8_init_49 (fun r0 q0 => c_Pl_init l w _ _ _ q0) (fun h19 eh19 => ?_)
          refine j_aastore C (t := 3) (ci := 3) rfl rfl dX8_init_52 (fun h20 eh20 => ?_)
          refine j_iinc C (v := 4) [(1, _), (0, _)] dX8_init_53 rfl (by decide) (by decide) rfl ?_
          refine j_goto C (tgt := 34) dX8_init_56 (by decide) ?_
          refine j_iload_n C dX8_init_34 (i := 1) rfl rfl ?_
          refine j_bipush C (v := 8) dX8_init_35 (by decide) ?_
          refine j_icmpge C (tgt := 59) dX8_init_37 (by decide) (fun q21 => ?_) (fun q21 => ?_)
          · exact j_none
          · refine j_aload_n C dX8_init_40 (i := 0) rfl rfl ?_
            refine j_getR C g_X8_11 dX8_init_41 (fun v22 ev22 => ?_)
            refine j_iload_n C dX8_init_44 (i := 1) rfl rfl ?_
            refine j_new C n_X8_9 (Nat.le_of_ble_eq_true rfl) (Nat.le_of_ble_eq_true rfl) dX8_init_45 ?_
            refine j_dup C dX8_init_48 rfl ?_
            refine j_callIN C (As := []) (rest := [_, _, _]) k_X8_28 ⟨Nat.le_of_ble_eq_true rfl, Nat.le_of_ble_eq_true rfl⟩ rfl (Nat.le_of_ble_eq_true rfl) ⟨Nat.le_of_ble_eq_true rfl, Nat.le_of_ble_eq_true rfl⟩ rfl dX8_init_49 (fun r0 q0 => c_Pl_init l w _ _ _ q0) (fun h23 eh23 => ?_)
            refine j_aastore C (t := 3) (ci := 3) rfl rfl dX8_init_52 (fun h24 eh24 => ?_)
            refine j_iinc C (v := 5) [(1, _), (0, _)] dX8_init_53 rfl (by decide) (by decide) rfl ?_
            refine j_goto C (tgt := 34) dX8_init_56 (by decide) ?_
            refine j_iload_n C dX8_init_34 (i := 1) rfl rfl ?_
            refine j_bipush C (v := 8) dX8_init_35 (by decide) ?_
            refine j_icmpge C (tgt := 59) dX8_init_37 (by decide) (fun q25 => ?_) (fun q25 => ?_)
            · exact j_none
            · refine j_aload_n C dX8_init_40 (i := 0) rfl rfl ?_
              refine j_getR C g_X8_11 dX8_init_41 (fun v26 ev26 => ?_)
              refine j_iload_n C dX8_init_44 (i := 1) rfl rfl ?_
              refine j_new C n_X8_9 (Nat.le_of_ble_eq_true rfl) (Nat.le_of_ble_eq_true rfl) dX8_init_45 ?_
              refine j_dup C dX8_init_48 rfl ?_
              refine j_callIN C (As := []) (rest := [_, _, _]) k_X8_28 ⟨Nat.le_of_ble_eq_true rfl, Nat.le_of_ble_eq_true rfl⟩ rfl (Nat.le_of_ble_eq_true rfl) ⟨Nat.le_of_ble_eq_true rfl, Nat.le_of_ble_eq_true rfl⟩ rfl dX8_init_49 (fun r0 q0 => c_Pl_init l w _ _ _ q0) (fun h27 eh27 => ?_)
              refine j_aastore C (t := 3) (ci := 3) rfl rfl dX8_init_52 (fun h28 eh28 => ?_)
              refine j_iinc C (v := 6) [(1, _), (0, _)] dX8_init_53 rfl (by decide) (by decide) rfl ?_
              refine j_goto C (tgt := 34) dX8_init_56 (by decide) ?_
              refine j_iload_n C dX8_init_34 (i := 1) rfl rfl ?_
              refine j_bipush C (v := 8) dX8_init_35 (by decide) ?_
              refine j_icmpge C (tgt := 59) dX8_init_37 (by decide) (fun q29 => ?_) (fun q29 => ?_)
              · exact j_none
              · refine j_aload_n C dX8_init_40 (i := 0) rfl rfl ?_
                refine j_getR C g_X8_11 dX8_init_41 (fun v30 ev30 => ?_)
                refine j_iload_n C dX8_init_44 (i := 1) rfl rfl ?_
                refine j_new C n_X8_9 (Nat.le_of_ble_eq_true rfl) (Nat.le_of_ble_eq_true rfl) dX8_init_45 ?_
                refine j_dup C dX8_init_48 rfl ?_
                refine j_callIN C (As := []) (rest := [_, _, _]) k_X8_28 ⟨Nat.le_of_ble_eq_true rfl, Nat.le_of_ble_eq_true rfl⟩ rfl (Nat.le_of_ble_eq_true rfl) ⟨Nat.le_of_ble_eq_true rfl, Nat.le_of_ble_eq_true rfl⟩ rfl dX8_init_49 (fun r0 q0 => c_Pl_init l w _ _ _ q0) (fun h31 eh31 => ?_)
                refine j_aastore C (t := 3) (ci := 3) rfl rfl dX8_init_52 (fun h32 eh32 => ?_)
                refine j_iinc C (v := 7) [(1, _), (0, _)] dX8_init_53 rfl (by decide) (by decide) rfl ?_
                refine j_goto C (tgt := 34) dX8_init_56 (by decide) ?_
                refine j_iload_n C dX8_init_34 (i := 1) rfl rfl ?_
                refine j_bipush C (v := 8) dX8_init_35 (by decide) ?_
                refine j_icmpge C (tgt := 59) dX8_init_37 (by decide) (fun q33 => ?_) (fun q33 => ?_)
                · exact j_none
                · refine j_aload_n C dX8_init_40 (i := 0) rfl rfl ?_
                  refine j_getR C g_X8_11 dX8_init_41 (fun v34 ev34 => ?_)
                  refine j_iload_n C dX8_init_44 (i := 1) rfl rfl ?_
                  refine j_new C n_X8_9 (Nat.le_of_ble_eq_true rfl) (Nat.le_of_ble_eq_true rfl) dX8_init_45 ?_
                  refine j_dup C dX8_init_48 rfl ?_
                  refine j_callIN C (As := []) (rest := [_, _, _]) k_X8_28 ⟨Nat.le_of_ble_eq_true rfl, Nat.le_of_ble_eq_true rfl⟩ rfl (Nat.le_of_ble_eq_true rfl) ⟨Nat.le_of_ble_eq_true rfl, Nat.le_of_ble_eq_true rfl⟩ rfl dX8_init_49 (fun r0 q0 => c_Pl_init l w _ _ _ q0) (fun h35 eh35 => ?_)
                  refine j_aastore C (t := 3) (ci := 3) rfl rfl dX8_init_52 (fun h36 eh36 => ?_)
                  refine j_iinc C (v := 8) [(1, _), (0, _)] dX8_init_53 rfl (by decide) (by decide) rfl ?_
                  refine j_goto C (tgt := 34) dX8_init_56 (by decide) ?_
                  refine j_iload_n C dX8_init_34 (i := 1) rfl rfl ?_
                  refine j_bipush C (v := 8) dX8_init_35 (by decide) ?_
                  refine j_icmpge C (tgt := 59) dX8_init_37 (by decide) (fun q37 => ?_) (fun q37 => ?_)
                  · exact e_vretM C hQ hr hlk dX8_init_59 (Nat.le_of_ble_eq_true rfl) (Nat.le_of_ble_eq_true rfl)
                  · exact j_none
def f_Sk_startWith_b15 (fl : Nat) (a0 : Nat) (a1 : Nat) (k40 : hp_M → Option (hp_M)) : Nat → Int32 → hp_M → Option (hp_M)
  | 0, _, _ => none
  | n + 1, x2, h => (gI h a0 7 1).bind fun v1007 => if v1007 ≤ x2 then (k40 h) else ((gR h a0 7 0).bind fun v1009 => (gaR h 3 v1009 x2).bind fun v1010 => (onO h a1 1 (f_Bk_copyPlanetTo a1 x2 v1010 h)).bind fun h1011 => f_Sk_startWith_b15 fl a0 a1 k40 n (x2 + 1) h1011)
def f_Sk_startWith_b42 (fl : Nat) (a0 : Nat) : Nat → Int32 → hp_M → Option (hp_M)
  | 0, _, _ => none
  | n + 1, x2, h => if 12 ≤ x2 then (some h) else ((gR h a0 7 2).bind fun v1005 => (paI h v1005 x2 0).bind fun h1006 => f_Sk_startWith_b42 fl a0 n (x2 + 1) h1006)
def f_Sk_startWith (fl : Nat) (a0 : Nat) (a1 : Nat) (h : hp_M) : Option (hp_M) := (onO h a1 1 (f_Bk_planets a1 h)).bind fun r1 => (pF h a0 7 1 (.int (imin r1 8))).bind fun h2 => f_Sk_startWith_b15 fl a0 a1 (fun (h3 : hp_M) => f_Sk_startWith_b42 fl a0 fl 0 h3) fl 0 h2
set_option maxRecDepth 100000 in
set_option maxHeartbeats 4000000 in
theorem b_Sk_startWith_15 {p : Program} {l : Launch} {e : Env} {s : State} {m : MethodId} {args : Array Value} {below : List Frame} {meth : Method} {c : Code} {Q : State → Prop} {w : hp_W} {out : hp_M} (fl : Nat)   (a0 : Nat) (a1 : Nat) (k40 : hp_M → Option (hp_M)) (C : Cx p m c cX8_startWith 3 s args RX8 w) (hr : meth.sig.returnType = none) (hlk : meth.locks = false) (hnm : meth.name = "startWith") (hQ : QM below w args s ({ frames := 6, cells := 0, slots := 0, locals := 200 }) none none out = Q) (hk40 : ∀ (hz : hp_M), J p l e ({ frames := 6, cells := 0, slots := 0, locals := 200 }) s m args below meth c Q w 3 0 0 40 [(0, .ref a0)] [] hz (k40 hz) out) : ∀ (n : Nat) (x2 : Int32) (h : hp_M), J p l e ({ frames := 6, cells := 0, slots := 0, locals := 200 }) s m args below meth c Q w 3 0 0 15 [(0, .ref a0), (1, .ref a1), (2, .int x2)] [] h (f_Sk_startWith_b15 fl a0 a1 k40 n x2 h) out := by
  intro n
  induction n with
  | zero => intro x2 h; exact j_none
  | succ n ih =>
    intro x2 h
    rw [f_Sk_startWith_b15]
    refine j_iload_n C dX8_startWith_15 (i := 2) rfl rfl ?_
    refine j_aload_n C dX8_startWith_16 (i := 0) rfl rfl ?_
    refine j_getI C g_X8_38 dX8_startWith_17 (fun v1007 ev1007 => ?_)
    refine j_icmpge C (tgt := 40) dX8_startWith_20 (by decide) (fun q1008 => ?_) (fun q1008 => ?_)
    · exact j_sub [0] rfl (hk40 _)
    · refine j_aload_n C dX8_startWith_23 (i := 1) rfl rfl ?_
      refine j_iload_n C dX8_startWith_24 (i := 2) rfl rfl ?_
      refine j_aload_n C dX8_startWith_25 (i := 0) rfl rfl ?_
      refine j_getR C g_X8_11 dX8_startWith_26 (fun v1009 ev1009 => ?_)
      refine j_iload_n C dX8_startWith_29 (i := 2) rfl rfl ?_
      refine j_aaload C (t := 3) rfl dX8_startWith_30 (fun v1010 ev1010 => ?_)
      refine j_callVv C (As := [.int _, .ref _]) (rest := []) k_X8_42 ⟨Nat.le_of_ble_eq_true rfl, Nat.le_of_ble_eq_true rfl⟩ rfl (Nat.le_of_ble_eq_true rfl) ⟨Nat.le_of_ble_eq_true rfl, Nat.le_of_ble_eq_true rfl⟩ rfl dX8_startWith_31 (fun r0 q0 => c_Bk_copyPlanetTo l w _ _ _ _ _ q0) (fun h1011 eh1011 _ => ?_)
      refine j_iinc C (v := x2 + 1) [(2, _), (0, _), (1, _)] dX8_startWith_34 rfl rfl (by decide) rfl ?_
      refine j_goto C (tgt := 15) dX8_startWith_37 (by decide) ?_
      exact j_sub [1, 2, 0] rfl (ih _ _)
set_option maxRecDepth 100000 in
set_option maxHeartbeats 4000000 in
theorem b_Sk_startWith_42 {p : Program} {l : Launch} {e : Env} {s : State} {m : MethodId} {args : Array Value} {below : List Frame} {meth : Method} {c : Code} {Q : State → Prop} {w : hp_W} {out : hp_M} (fl : Nat)   (a0 : Nat) (C : Cx p m c cX8_startWith 3 s args RX8 w) (hr : meth.sig.returnType = none) (hlk : meth.locks = false) (hnm : meth.name = "startWith") (hQ : QM below w args s ({ frames := 6, cells := 0, slots := 0, locals := 200 }) none none out = Q)  : ∀ (n : Nat) (x2 : Int32) (h : hp_M), J p l e ({ frames := 6, cells := 0, slots := 0, locals := 200 }) s m args below meth c Q w 3 0 0 42 [(0, .ref a0), (2, .int x2)] [] h (f_Sk_startWith_b42 fl a0 n x2 h) out := by
  intro n
  induction n with
  | zero => intro x2 h; exact j_none
  | succ n ih =>
    intro x2 h
    rw [f_Sk_startWith_b42]
    refine j_iload_n C dX8_startWith_42 (i := 2) rfl rfl ?_
    refine j_bipush C (v := 12) dX8_startWith_43 (by decide) ?_
    refine j_icmpge C (tgt := 61) dX8_startWith_45 (by decide) (fun q1004 => ?_) (fun q1004 => ?_)
    · exact e_vretM C hQ hr hlk dX8_startWith_61 (Nat.le_of_ble_eq_true rfl) (Nat.le_of_ble_eq_true rfl)
    · refine j_aload_n C dX8_startWith_48 (i := 0) rfl rfl ?_
      refine j_getR C g_X8_17 dX8_startWith_49 (fun v1005 ev1005 => ?_)
      refine j_iload_n C dX8_startWith_52 (i := 2) rfl rfl ?_
      refine j_iconst C (v := 0) dX8_startWith_53 (by decide) ?_
      refine j_iastore C dX8_startWith_54 (fun h1006 eh1006 => ?_)
      refine j_iinc C (v := x2 + 1) [(2, _), (0, _)] dX8_startWith_55 rfl rfl (by decide) rfl ?_
      refine j_goto C (tgt := 42) dX8_startWith_58 (by decide) ?_
      exact j_sub [1, 0] rfl (ih _ _)
set_option maxRecDepth 100000 in
set_option maxHeartbeats 4000000 in
theorem c_Sk_startWith (l : Launch) (w : hp_W) (fl : Nat) (a0 : Nat) (a1 : Nat) (h : hp_M) (out : hp_M) (hX : f_Sk_startWith fl a0 a1 h = some out) : CT l w yX8_startWith cX8_startWith 3 none ({ frames := 6, cells := 0, slots := 0, locals := 200 }) [.ref a0, .ref a1] h none out := by
  unfold f_Sk_startWith at hX
  refine ct_of (by decide +kernel) (Nat.le_of_ble_eq_true rfl) hX ?_
  intro p e s m args below meth c Q C hr hlk hnm hQ
  refine j_aload_n C dX8_startWith_0 (i := 0) rfl rfl ?_
  refine j_aload_n C dX8_startWith_1 (i := 1) rfl rfl ?_
  refine j_callVi C (As := []) (rest := [_]) k_X8_29 ⟨Nat.le_of_ble_eq_true rfl, Nat.le_of_ble_eq_true rfl⟩ rfl (Nat.le_of_ble_eq_true rfl) ⟨Nat.le_of_ble_eq_true rfl, Nat.le_of_ble_eq_true rfl⟩ rfl dX8_startWith_2 (fun r0 q0 => c_Bk_planets l w _ _ _ q0) (fun r1 er1 nr1 => ?_)
  refine j_bipush C (v := 8) dX8_startWith_5 (by decide) ?_
  refine j_mmin C ⟨k_X8_32, Nat.le_of_ble_eq_true rfl, Nat.le_of_ble_eq_true rfl⟩ (Nat.le_of_ble_eq_true rfl) (Nat.le_of_ble_eq_true rfl) dX8_startWith_7 ?_
  refine j_putI C p_X8_38 (fun q => nomatch q) dX8_startWith_10 (fun h2 eh2 => ?_)
  refine j_iconst C (v := 0) dX8_startWith_13 (by decide) ?_
  refine j_istore_n C [(2, _), (0, _), (1, _)] dX8_startWith_14 (i := 2) rfl (by decide) rfl ?_
  refine j_sub [1, 2, 0] rfl (b_Sk_startWith_15 fl  _ _ _ C hr hlk hnm hQ (fun h3 => ?_) _ _ _)
  refine j_iconst C (v := 0) dX8_startWith_40 (by decide) ?_
  refine j_istore_n C [(2, _), (0, _)] dX8_startWith_41 (i := 2) rfl (by decide) rfl ?_
  refine j_sub [1, 0] rfl (b_Sk_startWith_42 fl  _ C hr hlk hnm hQ  _ _ _)
def f_Sk_copyFrom_b18 (fl : Nat) (a0 : Nat) (a1 : Nat) (k47 : hp_M → Option (hp_M)) : Nat → Int32 → hp_M → Option (hp_M)
  | 0, _, _ => none
  | n + 1, x2, h => (gI h a0 7 1).bind fun v1011 => if v1011 ≤ x2 then (k47 h) else ((gR h a0 7 0).bind fun v1013 => (gaR h 3 v1013 x2).bind fun v1014 => (gR h a1 7 0).bind fun v1015 => (gaR h 3 v1015 x2).bind fun v1016 => (onO h v1014 3 (f_Pl_copyFrom v1014 v1016 h)).bind fun h1017 => f_Sk_copyFrom_b18 fl a0 a1 k47 n (x2 + 1) h1017)
def f_Sk_copyFrom (fl : Nat) (a0 : Nat) (a1 : Nat) (h : hp_M) : Option (hp_M) := (gI h a1 7 4).bind fun v1 => (pF h a0 7 4 (.int v1)).bind fun h2 => (gI h2 a1 7 1).bind fun v3 => (pF h2 a0 7 1 (.int v3)).bind fun h4 => f_Sk_copyFrom_b18 fl a0 a1 (fun (h5 : hp_M) => (gR h5 a1 7 2).bind fun v6 => (gR h5 a0 7 2).bind fun v7 => (cpI h5 v6 0 v7 0 12).bind fun h8 => (gR h8 a0 7 3).bind fun v9 => (gR h8 a1 7 3).bind fun v10 => (onO h8 v9 2 (f_Pp_copyFrom v9 v10 h8)).bind fun h11 => some h11) fl 0 h4
set_option maxRecDepth 100000 in
set_option maxHeartbeats 4000000 in
theorem b_Sk_copyFrom_18 {p : Program} {l : Launch} {e : Env} {s : State} {m : MethodId} {args : Array Value} {below : List Frame} {meth : Method} {c : Code} {Q : State → Prop} {w : hp_W} {out : hp_M} (fl : Nat)   (a0 : Nat) (a1 : Nat) (k47 : hp_M → Option (hp_M)) (C : Cx p m c cX8_copyFrom 3 s args RX8 w) (hr : meth.sig.returnType = none) (hlk : meth.locks = false) (hnm : meth.name = "copyFrom") (hQ : QM below w args s ({ frames := 7, cells := 0, slots := 0, locals := 221 }) none none out = Q) (hk47 : ∀ (hz : hp_M), J p l e ({ frames := 7, cells := 0, slots := 0, locals := 221 }) s m args below meth c Q w 3 0 0 47 [(0, .ref a0), (1, .ref a1)] [] hz (k47 hz) out) : ∀ (n : Nat) (x2 : Int32) (h : hp_M), J p l e ({ frames := 7, cells := 0, slots := 0, locals := 221 }) s m args below meth c Q w 3 0 0 18 [(0, .ref a0), (1, .ref a1), (2, .int x2)] [] h (f_Sk_copyFrom_b18 fl a0 a1 k47 n x2 h) out := by
  intro n
  induction n with
  | zero => intro x2 h; exact j_none
  | succ n ih =>
    intro x2 h
    rw [f_Sk_copyFrom_b18]
    refine j_iload_n C dX8_copyFrom_18 (i := 2) rfl rfl ?_
    refine j_aload_n C dX8_copyFrom_19 (i := 0) rfl rfl ?_
    refine j_getI C g_X8_38 dX8_copyFrom_20 (fun v1011 ev1011 => ?_)
    refine j_icmpge C (tgt := 47) dX8_copyFrom_23 (by decide) (fun q1012 => ?_) (fun q1012 => ?_)
    · exact j_sub [0, 1] rfl (hk47 _)
    · refine j_aload_n C dX8_copyFrom_26 (i := 0) rfl rfl ?_
      refine j_getR C g_X8_11 dX8_copyFrom_27 (fun v1013 ev1013 => ?_)
      refine j_iload_n C dX8_copyFrom_30 (i := 2) rfl rfl ?_
      refine j_aaload C (t := 3) rfl dX8_copyFrom_31 (fun v1014 ev1014 => ?_)
      refine j_aload_n C dX8_copyFrom_32 (i := 1) rfl rfl ?_
      refine j_getR C g_X8_11 dX8_copyFrom_33 (fun v1015 ev1015 => ?_)
      refine j_iload_n C dX8_copyFrom_36 (i := 2) rfl rfl ?_
      refine j_aaload C (t := 3) rfl dX8_copyFrom_37 (fun v1016 ev1016 => ?_)
      refine j_callVv C (As := [.ref _]) (rest := []) k_X8_49 ⟨Nat.le_of_ble_eq_true rfl, Nat.le_of_ble_eq_true rfl⟩ rfl (Nat.le_of_ble_eq_true rfl) ⟨Nat.le_of_ble_eq_true rfl, Nat.le_of_ble_eq_true rfl⟩ rfl dX8_copyFrom_38 (fun r0 q0 => c_Pl_copyFrom l w _ _ _ _ q0) (fun h1017 eh1017 _ => ?_)
      refine j_iinc C (v := x2 + 1) [(2, _), (0, _), (1, _)] dX8_copyFrom_41 rfl rfl (by decide) rfl ?_
      refine j_goto C (tgt := 18) dX8_copyFrom_44 (by decide) ?_
      exact j_sub [1, 2, 0] rfl (ih _ _)
set_option maxRecDepth 100000 in
set_option maxHeartbeats 4000000 in
theorem c_Sk_copyFrom (l : Launch) (w : hp_W) (fl : Nat) (a0 : Nat) (a1 : Nat) (h : hp_M) (out : hp_M) (hX : f_Sk_copyFrom fl a0 a1 h = some out) : CT l w yX8_copyFrom cX8_copyFrom 3 none ({ frames := 7, cells := 0, slots := 0, locals := 221 }) [.ref a0, .ref a1] h none out := by
  unfold f_Sk_copyFrom at hX
  refine ct_of (by decide +kernel) (Nat.le_of_ble_eq_true rfl) hX ?_
  intro p e s m args below meth c Q C hr hlk hnm hQ
  refine j_aload_n C dX8_copyFrom_0 (i := 0) rfl rfl ?_
  refine j_aload_n C dX8_copyFrom_1 (i := 1) rfl rfl ?_
  refine j_getI C g_X8_46 dX8_copyFrom_2 (fun v1 ev1 => ?_)
  refine j_putI C p_X8_46 (fun q => nomatch q) dX8_copyFrom_5 (fun h2 eh2 => ?_)
  refine j_aload_n C dX8_copyFrom_8 (i := 0) rfl rfl ?_
  refine j_aload_n C dX8_copyFrom_9 (i := 1) rfl rfl ?_
  refine j_getI C g_X8_38 dX8_copyFrom_10 (fun v3 ev3 => ?_)
  refine j_putI C p_X8_38 (fun q => nomatch q) dX8_copyFrom_13 (fun h4 eh4 => ?_)
  refine j_iconst C (v := 0) dX8_copyFrom_16 (by decide) ?_
  refine j_istore_n C [(2, _), (0, _), (1, _)] dX8_copyFrom_17 (i := 2) rfl (by decide) rfl ?_
  refine j_sub [1, 2, 0] rfl (b_Sk_copyFrom_18 fl  _ _ _ C hr hlk hnm hQ (fun h5 => ?_) _ _ _)
  refine j_aload_n C dX8_copyFrom_47 (i := 1) rfl rfl ?_
  refine j_getR C g_X8_17 dX8_copyFrom_48 (fun v6 ev6 => ?_)
  refine j_iconst C (v := 0) dX8_copyFrom_51 (by decide) ?_
  refine j_aload_n C dX8_copyFrom_52 (i := 0) rfl rfl ?_
  refine j_getR C g_X8_17 dX8_copyFrom_53 (fun v7 ev7 => ?_)
  refine j_iconst C (v := 0) dX8_copyFrom_56 (by decide) ?_
  refine j_bipush C (v := 12) dX8_copyFrom_57 (by decide) ?_
  refine j_copy C k_X8_53 (Nat.le_of_ble_eq_true rfl) (Nat.le_of_ble_eq_true rfl) dX8_copyFrom_59 (fun h8 eh8 => ?_)
  refine j_aload_n C dX8_copyFrom_62 (i := 0) rfl rfl ?_
  refine j_getR C g_X8_24 dX8_copyFrom_63 (fun v9 ev9 => ?_)
  refine j_aload_n C dX8_copyFrom_66 (i := 1) rfl rfl ?_
  refine j_getR C g_X8_24 dX8_copyFrom_67 (fun v10 ev10 => ?_)
  refine j_callVv C (As := [.ref _]) (rest := []) k_X8_59 ⟨Nat.le_of_ble_eq_true rfl, Nat.le_of_ble_eq_true rfl⟩ rfl (Nat.le_of_ble_eq_true rfl) ⟨Nat.le_of_ble_eq_true rfl, Nat.le_of_ble_eq_true rfl⟩ rfl dX8_copyFrom_70 (fun r0 q0 => c_Pp_copyFrom l w _ _ _ _ q0) (fun h11 eh11 _ => ?_)
  exact e_vretM C hQ hr hlk dX8_copyFrom_73 (Nat.le_of_ble_eq_true rfl) (Nat.le_of_ble_eq_true rfl)
def f_Sk_planets (a0 : Nat) (h : hp_M) : Option (Int32) := (gI h a0 7 1).bind fun v1 => some v1
set_option maxRecDepth 100000 in
set_option maxHeartbeats 4000000 in
theorem c_Sk_planets (l : Launch) (w : hp_W) (a0 : Nat) (h : hp_M) (out : Int32) (hX : f_Sk_planets a0 h = some out) : CT l w yX8_planets cX8_planets 1 (some .int) ({ frames := 0, cells := 0, slots := 0, locals := 0 }) [.ref a0] h (some (.int out)) h := by
  unfold f_Sk_planets at hX
  refine ct_of (by decide +kernel) (Nat.le_of_ble_eq_true rfl) hX ?_
  intro p e s m args below meth c Q C hr hlk hnm hQ
  refine j_aload_n C dX8_planets_0 (i := 0) rfl rfl ?_
  refine j_getI C g_X8_38 dX8_planets_1 (fun v1 ev1 => ?_)
  exact e_iretR C hQ hr rfl hlk dX8_planets_4 (Nat.le_of_ble_eq_true rfl) (Nat.le_of_ble_eq_true rfl)
def f_Sk_factOf (a0 : Nat) (x1 : Int32) (x2 : Int32) (h : hp_M) : Option (Int32) := (onO h a0 7 (f_Sk_hasPlanet a0 x1 h)).bind fun r1 => if r1 = 0 then (some 0) else ((gR h a0 7 0).bind fun v3 => (gaR h 3 v3 x1).bind fun v4 => (gI h a0 7 4).bind fun v5 => (onO h v4 3 (f_Pl_fact v4 x2 v5 h)).bind fun r6 => some r6)
set_option maxRecDepth 100000 in
set_option maxHeartbeats 4000000 in
theorem c_Sk_factOf (l : Launch) (w : hp_W) (a0 : Nat) (x1 : Int32) (x2 : Int32) (h : hp_M) (out : Int32) (hX : f_Sk_factOf a0 x1 x2 h = some out) : CT l w yX8_factOf cX8_factOf 3 (some .int) ({ frames := 2, cells := 0, slots := 0, locals := 43 }) [.ref a0, .int x1, .int x2] h (some (.int out)) h := by
  unfold f_Sk_factOf at hX
  refine ct_of (by decide +kernel) (Nat.le_of_ble_eq_true rfl) hX ?_
  intro p e s m args below meth c Q C hr hlk hnm hQ
  refine j_aload_n C dX8_factOf_0 (i := 0) rfl rfl ?_
  refine j_iload_n C dX8_factOf_1 (i := 1) rfl rfl ?_
  refine j_callVi C (As := [.int _]) (rest := []) k_X8_62 ⟨Nat.le_of_ble_eq_true rfl, Nat.le_of_ble_eq_true rfl⟩ rfl (Nat.le_of_ble_eq_true rfl) ⟨Nat.le_of_ble_eq_true rfl, Nat.le_of_ble_eq_true rfl⟩ rfl dX8_factOf_2 (fun r0 q0 => c_Sk_hasPlanet l w _ _ _ _ q0) (fun r1 er1 nr1 => ?_)
  refine j_ifeq C (tgt := 25) dX8_factOf_5 (by decide) (fun q2 => ?_) (fun q2 => ?_)
  · refine j_iconst C (v := 0) dX8_factOf_25 (by decide) ?_
    exact e_iretR C hQ hr rfl hlk dX8_factOf_26 (Nat.le_of_ble_eq_true rfl) (Nat.le_of_ble_eq_true rfl)
  · refine j_aload_n C dX8_factOf_8 (i := 0) rfl rfl ?_
    refine j_getR C g_X8_11 dX8_factOf_9 (fun v3 ev3 => ?_)
    refine j_iload_n C dX8_factOf_12 (i := 1) rfl rfl ?_
    refine j_aaload C (t := 3) rfl dX8_factOf_13 (fun v4 ev4 => ?_)
    refine j_iload_n C dX8_factOf_14 (i := 2) rfl rfl ?_
    refine j_aload_n C dX8_factOf_15 (i := 0) rfl rfl ?_
    refine j_getI C g_X8_46 dX8_factOf_16 (fun v5 ev5 => ?_)
    refine j_callVi C (As := [.int _, .int _]) (rest := []) k_X8_66 ⟨Nat.le_of_ble_eq_true rfl, Nat.le_of_ble_eq_true rfl⟩ rfl (Nat.le_of_ble_eq_true rfl) ⟨Nat.le_of_ble_eq_true rfl, Nat.le_of_ble_eq_true rfl⟩ rfl dX8_factOf_19 (fun r0 q0 => c_Pl_fact l w _ _ _ _ _ q0) (fun r6 er6 nr6 => ?_)
    refine j_goto C (tgt := 26) dX8_factOf_22 (by decide) ?_
    exact e_iretR C hQ hr rfl hlk dX8_factOf_26 (Nat.le_of_ble_eq_true rfl) (Nat.le_of_ble_eq_true rfl)
def f_Sk_putAt (a0 : Nat) (x1 : Int32) (x2 : Int32) (h : hp_M) : Option (hp_M) := (onO h a0 7 (f_Sk_hasPlanet a0 x1 h)).bind fun r1 => if r1 = 0 then (some h) else ((gR h a0 7 0).bind fun v3 => (gaR h 3 v3 x1).bind fun v4 => (onO h v4 3 (f_Pl_putAt v4 x2 h)).bind fun h5 => some h5)
set_option maxRecDepth 100000 in
set_option maxHeartbeats 4000000 in
theorem c_Sk_putAt (l : Launch) (w : hp_W) (a0 : Nat) (x1 : Int32) (x2 : Int32) (h : hp_M) (out : hp_M) (hX : f_Sk_putAt a0 x1 x2 h = some out) : CT l w yX8_putAt cX8_putAt 3 none ({ frames := 1, cells := 0, slots := 0, locals := 21 }) [.ref a0, .int x1, .int x2] h none out := by
  unfold f_Sk_putAt at hX
  refine ct_of (by decide +kernel) (Nat.le_of_ble_eq_true rfl) hX ?_
  intro p e s m args below meth c Q C hr hlk hnm hQ
  refine j_aload_n C dX8_putAt_0 (i := 0) rfl rfl ?_
  refine j_iload_n C dX8_putAt_1 (i := 1) rfl rfl ?_
  refine j_callVi C (As := [.int _]) (rest := []) k_X8_62 ⟨Nat.le_of_ble_eq_true rfl, Nat.le_of_ble_eq_true rfl⟩ rfl (Nat.le_of_ble_eq_true rfl) ⟨Nat.le_of_ble_eq_true rfl, Nat.le_of_ble_eq_true rfl⟩ rfl dX8_putAt_2 (fun r0 q0 => c_Sk_hasPlanet l w _ _ _ _ q0) (fun r1 er1 nr1 => ?_)
  refine j_ifeq C (tgt := 18) dX8_putAt_5 (by decide) (fun q2 => ?_) (fun q2 => ?_)
  · exact e_vretM C hQ hr hlk dX8_putAt_18 (Nat.le_of_ble_eq_true rfl) (Nat.le_of_ble_eq_true rfl)
  · refine j_aload_n C dX8_putAt_8 (i := 0) rfl rfl ?_
    refine j_getR C g_X8_11 dX8_putAt_9 (fun v3 ev3 => ?_)
    refine j_iload_n C dX8_putAt_12 (i := 1) rfl rfl ?_
    refine j_aaload C (t := 3) rfl dX8_putAt_13 (fun v4 ev4 => ?_)
    refine j_iload_n C dX8_putAt_14 (i := 2) rfl rfl ?_
    refine j_callVv C (As := [.int _]) (rest := []) k_X8_78 ⟨Nat.le_of_ble_eq_true rfl, Nat.le_of_ble_eq_true rfl⟩ rfl (Nat.le_of_ble_eq_true rfl) ⟨Nat.le_of_ble_eq_true rfl, Nat.le_of_ble_eq_true rfl⟩ rfl dX8_putAt_15 (fun r0 q0 => c_Pl_putAt l w _ _ _ _ q0) (fun h5 eh5 _ => ?_)
    exact e_vretM C hQ hr hlk dX8_putAt_18 (Nat.le_of_ble_eq_true rfl) (Nat.le_of_ble_eq_true rfl)
def f_Sk_writtenBy (a0 : Nat) (x1 : Int32) (h : hp_M) : Option (Int32) := jn (some 0) fun (j3 : Option (Int32)) => if x1 < 0 then (j3) else (if 12 ≤ x1 then (j3) else ((gR h a0 7 2).bind fun v6 => (gaI h v6 x1).bind fun v7 => some v7))
set_option maxRecDepth 100000 in
set_option maxHeartbeats 4000000 in
theorem c_Sk_writtenBy (l : Launch) (w : hp_W) (a0 : Nat) (x1 : Int32) (h : hp_M) (out : Int32) (hX : f_Sk_writtenBy a0 x1 h = some out) : CT l w yX8_writtenBy cX8_writtenBy 2 (some .int) ({ frames := 0, cells := 0, slots := 0, locals := 0 }) [.ref a0, .int x1] h (some (.int out)) h := by
  unfold f_Sk_writtenBy at hX
  refine ct_of (by decide +kernel) (Nat.le_of_ble_eq_true rfl) hX ?_
  intro p e s m args below meth c Q C hr hlk hnm hQ
  refine j_jn (P := fun j3 => J p l e ({ frames := 0, cells := 0, slots := 0, locals := 0 }) s m args below meth c Q w 2 0 0 19 [] [] h (j3) out) ?_ (fun j3 hj3 => ?_)
  · refine j_iconst C (v := 0) dX8_writtenBy_19 (by decide) ?_
    exact e_iretR C hQ hr rfl hlk dX8_writtenBy_20 (Nat.le_of_ble_eq_true rfl) (Nat.le_of_ble_eq_true rfl)
  · refine j_iload_n C dX8_writtenBy_0 (i := 1) rfl rfl ?_
    refine j_iflt C (tgt := 19) dX8_writtenBy_1 (by decide) (fun q4 => ?_) (fun q4 => ?_)
    · exact j_sub [] rfl (hj3)
    · refine j_iload_n C dX8_writtenBy_4 (i := 1) rfl rfl ?_
      refine j_bipush C (v := 12) dX8_writtenBy_5 (by decide) ?_
      refine j_icmpge C (tgt := 19) dX8_writtenBy_7 (by decide) (fun q5 => ?_) (fun q5 => ?_)
      · exact j_sub [] rfl (hj3)
      · refine j_aload_n C dX8_writtenBy_10 (i := 0) rfl rfl ?_
        refine j_getR C g_X8_17 dX8_writtenBy_11 (fun v6 ev6 => ?_)
        refine j_iload_n C dX8_writtenBy_14 (i := 1) rfl rfl ?_
        refine j_iaload C dX8_writtenBy_15 (fun v7 ev7 => ?_)
        refine j_goto C (tgt := 20) dX8_writtenBy_16 (by decide) ?_
        exact e_iretR C hQ hr rfl hlk dX8_writtenBy_20 (Nat.le_of_ble_eq_true rfl) (Nat.le_of_ble_eq_true rfl)
def f_Sk_retros_b4 (fl : Nat) (a0 : Nat) (h : hp_M) : Nat → Int32 → Int32 → Option (Int32)
  | 0, _, _ => none
  | n + 1, x1, x2 => (gI h a0 7 1).bind fun v1001 => if v1001 ≤ x2 then (some x1) else (jn (fun (u1005 : Int32) (u1006 : Int32) => f_Sk_retros_b4 fl a0 h n (u1006 + u1005) (x2 + 1)) fun (j1004 : Int32 → Int32 → Option (Int32)) => (onO h a0 7 (f_Sk_isRetro a0 x2 h)).bind fun r1007 => if r1007 = 0 then (j1004 0 x1) else (j1004 1 x1))
def f_Sk_retros (fl : Nat) (a0 : Nat) (h : hp_M) : Option (Int32) := f_Sk_retros_b4 fl a0 h fl 0 0
set_option maxRecDepth 100000 in
set_option maxHeartbeats 4000000 in
theorem b_Sk_retros_4 {p : Program} {l : Launch} {e : Env} {s : State} {m : MethodId} {args : Array Value} {below : List Frame} {meth : Method} {c : Code} {Q : State → Prop} {w : hp_W} {out : Int32} (fl : Nat)   (a0 : Nat) (h : hp_M) (C : Cx p m c cX8_retros 3 s args RX8 w) (hr : meth.sig.returnType = some .int) (hlk : meth.locks = false) (hnm : meth.name = "retros") (hQ : QM below w args s ({ frames := 2, cells := 0, slots := 0, locals := 42 }) (some .int) (some (.int out)) h = Q)  : ∀ (n : Nat) (x1 : Int32) (x2 : Int32), J p l e ({ frames := 2, cells := 0, slots := 0, locals := 42 }) s m args below meth c Q w 3 0 0 4 [(0, .ref a0), (1, .int x1), (2, .int x2)] [] h (f_Sk_retros_b4 fl a0 h n x1 x2) out := by
  intro n
  induction n with
  | zero => intro x1 x2; exact j_none
  | succ n ih =>
    intro x1 x2
    rw [f_Sk_retros_b4]
    refine j_iload_n C dX8_retros_4 (i := 2) rfl rfl ?_
    refine j_aload_n C dX8_retros_5 (i := 0) rfl rfl ?_
    refine j_getI C g_X8_38 dX8_retros_6 (fun v1001 ev1001 => ?_)
    refine j_icmpge C (tgt := 34) dX8_retros_9 (by decide) (fun q1002 => ?_) (fun q1002 => ?_)
    · refine j_iload_n C dX8_retros_34 (i := 1) rfl rfl ?_
      exact e_iretR C hQ hr rfl hlk dX8_retros_35 (Nat.le_of_ble_eq_true rfl) (Nat.le_of_ble_eq_true rfl)
    · refine j_jn (P := fun (j1004 : Int32 → Int32 → Option (Int32)) => ∀ (u1005 : Int32) (u1006 : Int32), J p l e ({ frames := 2, cells := 0, slots := 0, locals := 42 }) s m args below meth c Q w 3 0 0 26 [(0, .ref a0), (2, .int x2)] [.int u1005, .int u1006] h (j1004 u1005 u1006) out) ?_ (fun j1004 hj1004 => ?_)
      · intro u1005 u1006
        refine j_iadd C dX8_retros_26 ?_
        refine j_istore_n C [(1, _), (0, _), (2, _)] dX8_retros_27 (i := 1) rfl (by decide) rfl ?_
        refine j_iinc C (v := x2 + 1) [(2, _), (1, _), (0, _)] dX8_retros_28 rfl rfl (by decide) rfl ?_
        refine j_goto C (tgt := 4) dX8_retros_31 (by decide) ?_
        exact j_sub [2, 1, 0] rfl (ih _ _)
      · refine j_iload_n C dX8_retros_12 (i := 1) rfl rfl ?_
        refine j_aload_n C dX8_retros_13 (i := 0) rfl rfl ?_
        refine j_iload_n C dX8_retros_14 (i := 2) rfl rfl ?_
        refine j_callVi C (As := [.int _]) (rest := [_]) k_X8_95 ⟨Nat.le_of_ble_eq_true rfl, Nat.le_of_ble_eq_true rfl⟩ rfl (Nat.le_of_ble_eq_true rfl) ⟨Nat.le_of_ble_eq_true rfl, Nat.le_of_ble_eq_true rfl⟩ rfl dX8_retros_15 (fun r0 q0 => c_Sk_isRetro l w _ _ _ _ q0) (fun r1007 er1007 nr1007 => ?_)
        refine j_ifeq C (tgt := 25) dX8_retros_18 (by decide) (fun q1008 => ?_) (fun q1008 => ?_)
        · refine j_iconst C (v := 0) dX8_retros_25 (by decide) ?_
          exact j_sub [0, 2] rfl (hj1004 _ _)
        · refine j_iconst C (v := 1) dX8_retros_21 (by decide) ?_
          refine j_goto C (tgt := 26) dX8_retros_22 (by decide) ?_
          exact j_sub [0, 2] rfl (hj1004 _ _)
set_option maxRecDepth 100000 in
set_option maxHeartbeats 4000000 in
theorem c_Sk_retros (l : Launch) (w : hp_W) (fl : Nat) (a0 : Nat) (h : hp_M) (out : Int32) (hX : f_Sk_retros fl a0 h = some out) : CT l w yX8_retros cX8_retros 3 (some .int) ({ frames := 2, cells := 0, slots := 0, locals := 42 }) [.ref a0] h (some (.int out)) h := by
  unfold f_Sk_retros at hX
  refine ct_of (by decide +kernel) (Nat.le_of_ble_eq_true rfl) hX ?_
  intro p e s m args below meth c Q C hr hlk hnm hQ
  refine j_iconst C (v := 0) dX8_retros_0 (by decide) ?_
  refine j_istore_n C [(1, _), (0, _)] dX8_retros_1 (i := 1) rfl (by decide) rfl ?_
  refine j_iconst C (v := 0) dX8_retros_2 (by decide) ?_
  refine j_istore_n C [(2, _), (1, _), (0, _)] dX8_retros_3 (i := 2) rfl (by decide) rfl ?_
  refine j_sub [2, 1, 0] rfl (b_Sk_retros_4 fl  _ _ C hr hlk hnm hQ  _ _ _)
def f_Sk_transits_b16 (fl : Nat) (a0 : Nat) (x2 : Int32) (h : hp_M) (k48 : Int32 → Option (Int32)) : Nat → Int32 → Int32 → Option (Int32)
  | 0, _, _ => none
  | n + 1, x1, x3 => (gI h a0 7 1).bind fun v2005 => if v2005 ≤ x3 then (k48 x1) else (jn (fun (u2009 : Int32) (u2010 : Int32) => f_Sk_transits_b16 fl a0 x2 h k48 n (u2010 + u2009) (x3 + 1)) fun (j2008 : Int32 → Int32 → Option (Int32)) => (onO h a0 7 (f_Sk_areMet a0 x2 x3 0 h)).bind fun r2011 => if r2011 = 0 then (j2008 0 x1) else (j2008 1 x1))
def f_Sk_transits_b4 (fl : Nat) (a0 : Nat) (h : hp_M) : Nat → Int32 → Int32 → Option (Int32)
  | 0, _, _ => none
  | n + 1, x1, x2 => (gI h a0 7 1).bind fun v1001 => if v1001 ≤ x2 then (some x1) else (f_Sk_transits_b16 fl a0 x2 h (fun (u1003 : Int32) => f_Sk_transits_b4 fl a0 h n u1003 (x2 + 1)) fl x1 (x2 + 1))
def f_Sk_transits (fl : Nat) (a0 : Nat) (h : hp_M) : Option (Int32) := f_Sk_transits_b4 fl a0 h fl 0 0
set_option maxRecDepth 100000 in
set_option maxHeartbeats 4000000 in
theorem b_Sk_transits_16 {p : Program} {l : Launch} {e : Env} {s : State} {m : MethodId} {args : Array Value} {below : List Frame} {meth : Method} {c : Code} {Q : State → Prop} {w : hp_W} {out : Int32} (fl : Nat)   (a0 : Nat) (x2 : Int32) (h : hp_M) (k48 : Int32 → Option (Int32)) (C : Cx p m c cX8_transits 4 s args RX8 w) (hr : meth.sig.returnType = some .int) (hlk : meth.locks = false) (hnm : meth.name = "transits") (hQ : QM below w args s ({ frames := 7, cells := 0, slots := 0, locals := 227 }) (some .int) (some (.int out)) h = Q) (hk48 : ∀ (z1 : Int32), J p l e ({ frames := 7, cells := 0, slots := 0, locals := 227 }) s m args below meth c Q w 4 0 0 48 [(0, .ref a0), (1, .int z1), (2, .int x2)] [] h (k48 z1) out) : ∀ (n : Nat) (x1 : Int32) (x3 : Int32), J p l e ({ frames := 7, cells := 0, slots := 0, locals := 227 }) s m args below meth c Q w 4 0 0 16 [(0, .ref a0), (1, .int x1), (2, .int x2), (3, .int x3)] [] h (f_Sk_transits_b16 fl a0 x2 h k48 n x1 x3) out := by
  intro n
  induction n with
  | zero => intro x1 x3; exact j_none
  | succ n ih =>
    intro x1 x3
    rw [f_Sk_transits_b16]
    refine j_iload_n C dX8_transits_16 (i := 3) rfl rfl ?_
    refine j_aload_n C dX8_transits_17 (i := 0) rfl rfl ?_
    refine j_getI C g_X8_38 dX8_transits_18 (fun v2005 ev2005 => ?_)
    refine j_icmpge C (tgt := 48) dX8_transits_21 (by decide) (fun q2006 => ?_) (fun q2006 => ?_)
    · exact j_sub [0, 1, 2] rfl (hk48 _)
    · refine j_jn (P := fun (j2008 : Int32 → Int32 → Option (Int32)) => ∀ (u2009 : Int32) (u2010 : Int32), J p l e ({ frames := 7, cells := 0, slots := 0, locals := 227 }) s m args below meth c Q w 4 0 0 40 [(0, .ref a0), (2, .int x2), (3, .int x3)] [.int u2009, .int u2010] h (j2008 u2009 u2010) out) ?_ (fun j2008 hj2008 => ?_)
      · intro u2009 u2010
        refine j_iadd C dX8_transits_40 ?_
        refine j_istore_n C [(1, _), (0, _), (2, _), (3, _)] dX8_transits_41 (i := 1) rfl (by decide) rfl ?_
        refine j_iinc C (v := x3 + 1) [(3, _), (1, _), (0, _), (2, _)] dX8_transits_42 rfl rfl (by decide) rfl ?_
        refine j_goto C (tgt := 16) dX8_transits_45 (by decide) ?_
        exact j_sub [2, 1, 3, 0] rfl (ih _ _)
      · refine j_iload_n C dX8_transits_24 (i := 1) rfl rfl ?_
        refine j_aload_n C dX8_transits_25 (i := 0) rfl rfl ?_
        refine j_iload_n C dX8_transits_26 (i := 2) rfl rfl ?_
        refine j_iload_n C dX8_transits_27 (i := 3) rfl rfl ?_
        refine j_iconst C (v := 0) dX8_transits_28 (by decide) ?_
        refine j_callVi C (As := [.int _, .int _, .int _]) (rest := [_]) k_X8_96 ⟨Nat.le_of_ble_eq_true rfl, Nat.le_of_ble_eq_true rfl⟩ rfl (Nat.le_of_ble_eq_true rfl) ⟨Nat.le_of_ble_eq_true rfl, Nat.le_of_ble_eq_true rfl⟩ rfl dX8_transits_29 (fun r0 q0 => c_Sk_areMet l w _ _ _ _ _ _ q0) (fun r2011 er2011 nr2011 => ?_)
        refine j_ifeq C (tgt := 39) dX8_transits_32 (by decide) (fun q2012 => ?_) (fun q2012 => ?_)
        · refine j_iconst C (v := 0) dX8_transits_39 (by decide) ?_
          exact j_sub [0, 2, 3] rfl (hj2008 _ _)
        · refine j_iconst C (v := 1) dX8_transits_35 (by decide) ?_
          refine j_goto C (tgt := 40) dX8_transits_36 (by decide) ?_
          exact j_sub [0, 2, 3] rfl (hj2008 _ _)
set_option maxRecDepth 100000 in
set_option maxHeartbeats 4000000 in
theorem b_Sk_transits_4 {p : Program} {l : Launch} {e : Env} {s : State} {m : MethodId} {args : Array Value} {below : List Frame} {meth : Method} {c : Code} {Q : State → Prop} {w : hp_W} {out : Int32} (fl : Nat)   (a0 : Nat) (h : hp_M) (C : Cx p m c cX8_transits 4 s args RX8 w) (hr : meth.sig.returnType = some .int) (hlk : meth.locks = false) (hnm : meth.name = "transits") (hQ : QM below w args s ({ frames := 7, cells := 0, slots := 0, locals := 227 }) (some .int) (some (.int out)) h = Q)  : ∀ (n : Nat) (x1 : Int32) (x2 : Int32), J p l e ({ frames := 7, cells := 0, slots := 0, locals := 227 }) s m args below meth c Q w 4 0 0 4 [(0, .ref a0), (1, .int x1), (2, .int x2)] [] h (f_Sk_transits_b4 fl a0 h n x1 x2) out := by
  intro n
  induction n with
  | zero => intro x1 x2; exact j_none
  | succ n ih =>
    intro x1 x2
    rw [f_Sk_transits_b4]
    refine j_iload_n C dX8_transits_4 (i := 2) rfl rfl ?_
    refine j_aload_n C dX8_transits_5 (i := 0) rfl rfl ?_
    refine j_getI C g_X8_38 dX8_transits_6 (fun v1001 ev1001 => ?_)
    refine j_icmpge C (tgt := 54) dX8_transits_9 (by decide) (fun q1002 => ?_) (fun q1002 => ?_)
    · refine j_iload_n C dX8_transits_54 (i := 1) rfl rfl ?_
      exact e_iretR C hQ hr rfl hlk dX8_transits_55 (Nat.le_of_ble_eq_true rfl) (Nat.le_of_ble_eq_true rfl)
    · refine j_iload_n C dX8_transits_12 (i := 2) rfl rfl ?_
      refine j_iconst C (v := 1) dX8_transits_13 (by decide) ?_
      refine j_iadd C dX8_transits_14 ?_
      refine j_istore_n C [(3, _), (0, _), (1, _), (2, _)] dX8_transits_15 (i := 3) rfl (by decide) rfl ?_
      refine j_sub [1, 2, 3, 0] rfl (b_Sk_transits_16 fl  _ _ _ _ C hr hlk hnm hQ (fun u1003 => ?_) _ _ _)
      refine j_iinc C (v := x2 + 1) [(2, _), (0, _), (1, _)] dX8_transits_48 rfl rfl (by decide) rfl ?_
      refine j_goto C (tgt := 4) dX8_transits_51 (by decide) ?_
      exact j_sub [1, 2, 0] rfl (ih _ _)
set_option maxRecDepth 100000 in
set_option maxHeartbeats 4000000 in
theorem c_Sk_transits (l : Launch) (w : hp_W) (fl : Nat) (a0 : Nat) (h : hp_M) (out : Int32) (hX : f_Sk_transits fl a0 h = some out) : CT l w yX8_transits cX8_transits 4 (some .int) ({ frames := 7, cells := 0, slots := 0, locals := 227 }) [.ref a0] h (some (.int out)) h := by
  unfold f_Sk_transits at hX
  refine ct_of (by decide +kernel) (Nat.le_of_ble_eq_true rfl) hX ?_
  intro p e s m args below meth c Q C hr hlk hnm hQ
  refine j_iconst C (v := 0) dX8_transits_0 (by decide) ?_
  refine j_istore_n C [(1, _), (0, _)] dX8_transits_1 (i := 1) rfl (by decide) rfl ?_
  refine j_iconst C (v := 0) dX8_transits_2 (by decide) ?_
  refine j_istore_n C [(2, _), (1, _), (0, _)] dX8_transits_3 (i := 2) rfl (by decide) rfl ?_
  refine j_sub [2, 1, 0] rfl (b_Sk_transits_4 fl  _ _ C hr hlk hnm hQ  _ _ _)
def f_Sk_laps_b4 (fl : Nat) (a0 : Nat) (h : hp_M) : Nat → Int32 → Int32 → Option (Int32)
  | 0, _, _ => none
  | n + 1, x1, x2 => (gI h a0 7 1).bind fun v1001 => if v1001 ≤ x2 then (some x1) else ((gR h a0 7 0).bind fun v1003 => (gaR h 3 v1003 x2).bind fun v1004 => (onO h v1004 3 (f_Pl_lap v1004 h)).bind fun r1005 => f_Sk_laps_b4 fl a0 h n (x1 + r1005) (x2 + 1))
def f_Sk_laps (fl : Nat) (a0 : Nat) (h : hp_M) : Option (Int32) := f_Sk_laps_b4 fl a0 h fl 0 0
set_option maxRecDepth 100000 in
set_option maxHeartbeats 4000000 in
theorem b_Sk_laps_4 {p : Program} {l : Launch} {e : Env} {s : State} {m : MethodId} {args : Array Value} {below : List Frame} {meth : Method} {c : Code} {Q : State → Prop} {w : hp_W} {out : Int32} (fl : Nat)   (a0 : Nat) (h : hp_M) (C : Cx p m c cX8_laps 3 s args RX8 w) (hr : meth.sig.returnType = some .int) (hlk : meth.locks = false) (hnm : meth.name = "laps") (hQ : QM below w args s ({ frames := 1, cells := 0, slots := 0, locals := 20 }) (some .int) (some (.int out)) h = Q)  : ∀ (n : Nat) (x1 : Int32) (x2 : Int32), J p l e ({ frames := 1, cells := 0, slots := 0, locals := 20 }) s m args below meth c Q w 3 0 0 4 [(0, .ref a0), (1, .int x1), (2, .int x2)] [] h (f_Sk_laps_b4 fl a0 h n x1 x2) out := by
  intro n
  induction n with
  | zero => intro x1 x2; exact j_none
  | succ n ih =>
    intro x1 x2
    rw [f_Sk_laps_b4]
    refine j_iload_n C dX8_laps_4 (i := 2) rfl rfl ?_
    refine j_aload_n C dX8_laps_5 (i := 0) rfl rfl ?_
    refine j_getI C g_X8_38 dX8_laps_6 (fun v1001 ev1001 => ?_)
    refine j_icmpge C (tgt := 30) dX8_laps_9 (by decide) (fun q1002 => ?_) (fun q1002 => ?_)
    · refine j_iload_n C dX8_laps_30 (i := 1) rfl rfl ?_
      exact e_iretR C hQ hr rfl hlk dX8_laps_31 (Nat.le_of_ble_eq_true rfl) (Nat.le_of_ble_eq_true rfl)
    · refine j_iload_n C dX8_laps_12 (i := 1) rfl rfl ?_
      refine j_aload_n C dX8_laps_13 (i := 0) rfl rfl ?_
      refine j_getR C g_X8_11 dX8_laps_14 (fun v1003 ev1003 => ?_)
      refine j_iload_n C dX8_laps_17 (i := 2) rfl rfl ?_
      refine j_aaload C (t := 3) rfl dX8_laps_18 (fun v1004 ev1004 => ?_)
      refine j_callVi C (As := []) (rest := [_]) k_X8_72 ⟨Nat.le_of_ble_eq_true rfl, Nat.le_of_ble_eq_true rfl⟩ rfl (Nat.le_of_ble_eq_true rfl) ⟨Nat.le_of_ble_eq_true rfl, Nat.le_of_ble_eq_true rfl⟩ rfl dX8_laps_19 (fun r0 q0 => c_Pl_lap l w _ _ _ q0) (fun r1005 er1005 nr1005 => ?_)
      refine j_iadd C dX8_laps_22 ?_
      refine j_istore_n C [(1, _), (0, _), (2, _)] dX8_laps_23 (i := 1) rfl (by decide) rfl ?_
      refine j_iinc C (v := x2 + 1) [(2, _), (1, _), (0, _)] dX8_laps_24 rfl rfl (by decide) rfl ?_
      refine j_goto C (tgt := 4) dX8_laps_27 (by decide) ?_
      exact j_sub [2, 1, 0] rfl (ih _ _)
set_option maxRecDepth 100000 in
set_option maxHeartbeats 4000000 in
theorem c_Sk_laps (l : Launch) (w : hp_W) (fl : Nat) (a0 : Nat) (h : hp_M) (out : Int32) (hX : f_Sk_laps fl a0 h = some out) : CT l w yX8_laps cX8_laps 3 (some .int) ({ frames := 1, cells := 0, slots := 0, locals := 20 }) [.ref a0] h (some (.int out)) h := by
  unfold f_Sk_laps at hX
  refine ct_of (by decide +kernel) (Nat.le_of_ble_eq_true rfl) hX ?_
  intro p e s m args below meth c Q C hr hlk hnm hQ
  refine j_iconst C (v := 0) dX8_laps_0 (by decide) ?_
  refine j_istore_n C [(1, _), (0, _)] dX8_laps_1 (i := 1) rfl (by decide) rfl ?_
  refine j_iconst C (v := 0) dX8_laps_2 (by decide) ?_
  refine j_istore_n C [(2, _), (1, _), (0, _)] dX8_laps_3 (i := 2) rfl (by decide) rfl ?_
  refine j_sub [2, 1, 0] rfl (b_Sk_laps_4 fl  _ _ C hr hlk hnm hQ  _ _ _)
def f_Sk_standsAs_b2 (fl : Nat) (a0 : Nat) (a1 : Nat) (h : hp_M) : Nat → Int32 → Option (Int32)
  | 0, _ => none
  | n + 1, x2 => (gI h a0 7 1).bind fun v1001 => if v1001 ≤ x2 then (some 1) else ((gR h a0 7 0).bind fun v1003 => (gaR h 3 v1003 x2).bind fun v1004 => (onO h v1004 3 (f_Pl_angle v1004 h)).bind fun r1005 => (onO h a1 7 (f_Sk_angleOf a1 x2 h)).bind fun r1006 => if r1005 = r1006 then (f_Sk_standsAs_b2 fl a0 a1 h n (x2 + 1)) else (some 0))
def f_Sk_standsAs (fl : Nat) (a0 : Nat) (a1 : Nat) (h : hp_M) : Option (Int32) := f_Sk_standsAs_b2 fl a0 a1 h fl 0
set_option maxRecDepth 100000 in
set_option maxHeartbeats 4000000 in
theorem b_Sk_standsAs_2 {p : Program} {l : Launch} {e : Env} {s : State} {m : MethodId} {args : Array Value} {below : List Frame} {meth : Method} {c : Code} {Q : State → Prop} {w : hp_W} {out : Int32} (fl : Nat)   (a0 : Nat) (a1 : Nat) (h : hp_M) (C : Cx p m c cX8_standsAs 3 s args RX8 w) (hr : meth.sig.returnType = some .boolean) (hlk : meth.locks = false) (hnm : meth.name = "standsAs") (hQ : QM below w args s ({ frames := 2, cells := 0, slots := 0, locals := 42 }) (some .boolean) (some (.int out)) h = Q)  : ∀ (n : Nat) (x2 : Int32), J p l e ({ frames := 2, cells := 0, slots := 0, locals := 42 }) s m args below meth c Q w 3 0 0 2 [(0, .ref a0), (1, .ref a1), (2, .int x2)] [] h (f_Sk_standsAs_b2 fl a0 a1 h n x2) out := by
  intro n
  induction n with
  | zero => intro x2; exact j_none
  | succ n ih =>
    intro x2
    rw [f_Sk_standsAs_b2]
    refine j_iload_n C dX8_standsAs_2 (i := 2) rfl rfl ?_
    refine j_aload_n C dX8_standsAs_3 (i := 0) rfl rfl ?_
    refine j_getI C g_X8_38 dX8_standsAs_4 (fun v1001 ev1001 => ?_)
    refine j_icmpge C (tgt := 35) dX8_standsAs_7 (by decide) (fun q1002 => ?_) (fun q1002 => ?_)
    · refine j_iconst C (v := 1) dX8_standsAs_35 (by decide) ?_
      exact e_iretR C hQ hr rfl hlk dX8_standsAs_36 (Nat.le_of_ble_eq_true rfl) (Nat.le_of_ble_eq_true rfl)
    · refine j_aload_n C dX8_standsAs_10 (i := 0) rfl rfl ?_
      refine j_getR C g_X8_11 dX8_standsAs_11 (fun v1003 ev1003 => ?_)
      refine j_iload_n C dX8_standsAs_14 (i := 2) rfl rfl ?_
      refine j_aaload C (t := 3) rfl dX8_standsAs_15 (fun v1004 ev1004 => ?_)
      refine j_callVi C (As := []) (rest := []) k_X8_69 ⟨Nat.le_of_ble_eq_true rfl, Nat.le_of_ble_eq_true rfl⟩ rfl (Nat.le_of_ble_eq_true rfl) ⟨Nat.le_of_ble_eq_true rfl, Nat.le_of_ble_eq_true rfl⟩ rfl dX8_standsAs_16 (fun r0 q0 => c_Pl_angle l w _ _ _ q0) (fun r1005 er1005 nr1005 => ?_)
      refine j_aload_n C dX8_standsAs_19 (i := 1) rfl rfl ?_
      refine j_iload_n C dX8_standsAs_20 (i := 2) rfl rfl ?_
      refine j_callVi C (As := [.int _]) (rest := [_]) k_X8_100 ⟨Nat.le_of_ble_eq_true rfl, Nat.le_of_ble_eq_true rfl⟩ rfl (Nat.le_of_ble_eq_true rfl) ⟨Nat.le_of_ble_eq_true rfl, Nat.le_of_ble_eq_true rfl⟩ rfl dX8_standsAs_21 (fun r0 q0 => c_Sk_angleOf l w _ _ _ _ q0) (fun r1006 er1006 nr1006 => ?_)
      refine j_icmpeq C (tgt := 29) dX8_standsAs_24 (by decide) (fun q1007 => ?_) (fun q1007 => ?_)
      · refine j_iinc C (v := x2 + 1) [(2, _), (0, _), (1, _)] dX8_standsAs_29 rfl rfl (by decide) rfl ?_
        refine j_goto C (tgt := 2) dX8_standsAs_32 (by decide) ?_
        exact j_sub [1, 2, 0] rfl (ih _)
      · refine j_iconst C (v := 0) dX8_standsAs_27 (by decide) ?_
        exact e_iretR C hQ hr rfl hlk dX8_standsAs_28 (Nat.le_of_ble_eq_true rfl) (Nat.le_of_ble_eq_true rfl)
set_option maxRecDepth 100000 in
set_option maxHeartbeats 4000000 in
theorem c_Sk_standsAs (l : Launch) (w : hp_W) (fl : Nat) (a0 : Nat) (a1 : Nat) (h : hp_M) (out : Int32) (hX : f_Sk_standsAs fl a0 a1 h = some out) : CT l w yX8_standsAs cX8_standsAs 3 (some .boolean) ({ frames := 2, cells := 0, slots := 0, locals := 42 }) [.ref a0, .ref a1] h (some (.int out)) h := by
  unfold f_Sk_standsAs at hX
  refine ct_of (by decide +kernel) (Nat.le_of_ble_eq_true rfl) hX ?_
  intro p e s m args below meth c Q C hr hlk hnm hQ
  refine j_iconst C (v := 0) dX8_standsAs_0 (by decide) ?_
  refine j_istore_n C [(2, _), (0, _), (1, _)] dX8_standsAs_1 (i := 2) rfl (by decide) rfl ?_
  refine j_sub [1, 2, 0] rfl (b_Sk_standsAs_2 fl  _ _ _ C hr hlk hnm hQ  _ _)
def f_Sk_turn_b12 (fl : Nat) (a0 : Nat) : Nat → Int32 → hp_M → Option (hp_M)
  | 0, _, _ => none
  | n + 1, x1, h => (gI h a0 7 1).bind fun v1003 => if v1003 ≤ x1 then (some h) else ((gR h a0 7 0).bind fun v1005 => (gaR h 3 v1005 x1).bind fun v1006 => (gI h a0 7 4).bind fun v1007 => (onO h v1006 3 (f_Pl_turn v1006 v1007 h)).bind fun h1008 => f_Sk_turn_b12 fl a0 n (x1 + 1) h1008)
def f_Sk_turn (fl : Nat) (a0 : Nat) (h : hp_M) : Option (hp_M) := (gI h a0 7 4).bind fun v1 => (pF h a0 7 4 (.int (v1 + 1))).bind fun h2 => f_Sk_turn_b12 fl a0 fl 0 h2
set_option maxRecDepth 100000 in
set_option maxHeartbeats 4000000 in
theorem b_Sk_turn_12 {p : Program} {l : Launch} {e : Env} {s : State} {m : MethodId} {args : Array Value} {below : List Frame} {meth : Method} {c : Code} {Q : State → Prop} {w : hp_W} {out : hp_M} (fl : Nat)   (a0 : Nat) (C : Cx p m c cX8_turn 2 s args RX8 w) (hr : meth.sig.returnType = none) (hlk : meth.locks = false) (hnm : meth.name = "turn") (hQ : QM below w args s ({ frames := 2, cells := 0, slots := 0, locals := 42 }) none none out = Q)  : ∀ (n : Nat) (x1 : Int32) (h : hp_M), J p l e ({ frames := 2, cells := 0, slots := 0, locals := 42 }) s m args below meth c Q w 2 0 0 12 [(0, .ref a0), (1, .int x1)] [] h (f_Sk_turn_b12 fl a0 n x1 h) out := by
  intro n
  induction n with
  | zero => intro x1 h; exact j_none
  | succ n ih =>
    intro x1 h
    rw [f_Sk_turn_b12]
    refine j_iload_n C dX8_turn_12 (i := 1) rfl rfl ?_
    refine j_aload_n C dX8_turn_13 (i := 0) rfl rfl ?_
    refine j_getI C g_X8_38 dX8_turn_14 (fun v1003 ev1003 => ?_)
    refine j_icmpge C (tgt := 39) dX8_turn_17 (by decide) (fun q1004 => ?_) (fun q1004 => ?_)
    · exact e_vretM C hQ hr hlk dX8_turn_39 (Nat.le_of_ble_eq_true rfl) (Nat.le_of_ble_eq_true rfl)
    · refine j_aload_n C dX8_turn_20 (i := 0) rfl rfl ?_
      refine j_getR C g_X8_11 dX8_turn_21 (fun v1005 ev1005 => ?_)
      refine j_iload_n C dX8_turn_24 (i := 1) rfl rfl ?_
      refine j_aaload C (t := 3) rfl dX8_turn_25 (fun v1006 ev1006 => ?_)
      refine j_aload_n C dX8_turn_26 (i := 0) rfl rfl ?_
      refine j_getI C g_X8_46 dX8_turn_27 (fun v1007 ev1007 => ?_)
      refine j_callVv C (As := [.int _]) (rest := []) k_X8_130 ⟨Nat.le_of_ble_eq_true rfl, Nat.le_of_ble_eq_true rfl⟩ rfl (Nat.le_of_ble_eq_true rfl) ⟨Nat.le_of_ble_eq_true rfl, Nat.le_of_ble_eq_true rfl⟩ rfl dX8_turn_30 (fun r0 q0 => c_Pl_turn l w _ _ _ _ q0) (fun h1008 eh1008 _ => ?_)
      refine j_iinc C (v := x1 + 1) [(1, _), (0, _)] dX8_turn_33 rfl rfl (by decide) rfl ?_
      refine j_goto C (tgt := 12) dX8_turn_36 (by decide) ?_
      exact j_sub [1, 0] rfl (ih _ _)
set_option maxRecDepth 100000 in
set_option maxHeartbeats 4000000 in
theorem c_Sk_turn (l : Launch) (w : hp_W) (fl : Nat) (a0 : Nat) (h : hp_M) (out : hp_M) (hX : f_Sk_turn fl a0 h = some out) : CT l w yX8_turn cX8_turn 2 none ({ frames := 2, cells := 0, slots := 0, locals := 42 }) [.ref a0] h none out := by
  unfold f_Sk_turn at hX
  refine ct_of (by decide +kernel) (Nat.le_of_ble_eq_true rfl) hX ?_
  intro p e s m args below meth c Q C hr hlk hnm hQ
  refine j_aload_n C dX8_turn_0 (i := 0) rfl rfl ?_
  refine j_dup C dX8_turn_1 rfl ?_
  refine j_getI C g_X8_46 dX8_turn_2 (fun v1 ev1 => ?_)
  refine j_iconst C (v := 1) dX8_turn_5 (by decide) ?_
  refine j_iadd C dX8_turn_6 ?_
  refine j_putI C p_X8_46 (fun q => nomatch q) dX8_turn_7 (fun h2 eh2 => ?_)
  refine j_iconst C (v := 0) dX8_turn_10 (by decide) ?_
  refine j_istore_n C [(1, _), (0, _)] dX8_turn_11 (i := 1) rfl (by decide) rfl ?_
  refine j_sub [1, 0] rfl (b_Sk_turn_12 fl  _ C hr hlk hnm hQ  _ _ _)
def f_Sk_live_b24 (fl : Nat) (a0 : Nat) (x1 : Int32) (a2 : Nat) (x3 : Int32) (x4 : Int32) (k97 : hp_M → Option (Int32 × hp_M)) : Nat → Int32 → hp_M → Option (Int32 × hp_M)
  | 0, _, _ => none
  | n + 1, x5, h => if 12 ≤ x5 then (k97 h) else ((onO h a2 1 (f_Bk_rules a2 h)).bind fun r2029 => if r2029 ≤ x5 then (k97 h) else (jn (fun (h2042 : hp_M) => f_Sk_live_b24 fl a0 x1 a2 x3 x4 k97 n (x5 + 1) h2042) fun (j2041 : hp_M → Option (Int32 × hp_M)) => (gR h a0 7 3).bind fun v2043 => (onO h v2043 2 (f_Pp_isFull v2043 h)).bind fun r2044 => if r2044 = 0 then ((onO h a2 1 (f_Bk_holds fl a2 x5 a0 h)).bind fun r2046 => if r2046.1 = 0 then (j2041 r2046.2) else ((gR r2046.2 a0 7 3).bind fun v2048 => (onO r2046.2 a2 1 (f_Bk_sumOf fl a2 x5 a0 r2046.2)).bind fun r2049 => (onO r2049.2 a2 1 (f_Bk_letterBy a2 x5 r2049.1 r2049.2)).bind fun r2050 => (onO r2049.2 v2048 2 (f_Pp_append v2048 r2050 r2049.2)).bind fun h2051 => (gR h2051 a0 7 2).bind fun v2052 => (gaI h2051 v2052 x5).bind fun v2053 => (paI h2051 v2052 x5 (v2053 + 1)).bind fun h2054 => j2041 h2054)) else (j2041 h)))
def f_Sk_live_b11 (fl : Nat) (a0 : Nat) (x1 : Int32) (a2 : Nat) (x3 : Int32) (k103 : hp_M → Option (Int32 × hp_M)) : Nat → Int32 → hp_M → Option (Int32 × hp_M)
  | 0, _, _ => none
  | n + 1, x4, h => if x1 ≤ x4 then (k103 h) else ((onO h a0 7 (f_Sk_turn fl a0 h)).bind fun h1016 => f_Sk_live_b24 fl a0 x1 a2 x3 x4 (fun (h1017 : hp_M) => f_Sk_live_b11 fl a0 x1 a2 x3 k103 n (x4 + 1) h1017) fl 0 h1016)
def f_Sk_live (fl : Nat) (a0 : Nat) (x1 : Int32) (a2 : Nat) (h : hp_M) : Option (Int32 × hp_M) := (gR h a0 7 3).bind fun v1 => (onO h v1 2 (f_Pp_size v1 h)).bind fun r2 => f_Sk_live_b11 fl a0 x1 a2 r2 (fun (h3 : hp_M) => (gR h3 a0 7 3).bind fun v4 => (onO h3 v4 2 (f_Pp_size v4 h3)).bind fun r5 => some ((r5 - r2), h3)) fl 0 h
set_option maxRecDepth 100000 in
set_option maxHeartbeats 4000000 in
theorem b_Sk_live_24 {p : Program} {l : Launch} {e : Env} {s : State} {m : MethodId} {args : Array Value} {below : List Frame} {meth : Method} {c : Code} {Q : State → Prop} {w : hp_W} {out : Int32 × hp_M} (fl : Nat)   (a0 : Nat) (x1 : Int32) (a2 : Nat) (x3 : Int32) (x4 : Int32) (k97 : hp_M → Option (Int32 × hp_M)) (C : Cx p m c cX8_live 6 s args RX8 w) (hr : meth.sig.returnType = some .int) (hlk : meth.locks = false) (hnm : meth.name = "live") (hQ : QM below w args s ({ frames := 10, cells := 0, slots := 0, locals := 298 }) (some .int) (some (.int out.1)) out.2 = Q) (hk97 : ∀ (hz : hp_M), J p l e ({ frames := 10, cells := 0, slots := 0, locals := 298 }) s m args below meth c Q w 6 0 0 97 [(0, .ref a0), (1, .int x1), (2, .ref a2), (3, .int x3), (4, .int x4)] [] hz (k97 hz) out) : ∀ (n : Nat) (x5 : Int32) (h : hp_M), J p l e ({ frames := 10, cells := 0, slots := 0, locals := 298 }) s m args below meth c Q w 6 0 0 24 [(0, .ref a0), (1, .int x1), (2, .ref a2), (3, .int x3), (4, .int x4), (5, .int x5)] [] h (f_Sk_live_b24 fl a0 x1 a2 x3 x4 k97 n x5 h) out := by
  intro n
  induction n with
  | zero => intro x5 h; exact j_none
  | succ n ih =>
    intro x5 h
    rw [f_Sk_live_b24]
    refine j_iload C dX8_live_24 rfl ?_
    refine j_bipush C (v := 12) dX8_live_26 (by decide) ?_
    refine j_icmpge C (tgt := 97) dX8_live_28 (by decide) (fun q2028 => ?_) (fun q2028 => ?_)
    · exact j_sub [0, 1, 2, 3, 4] rfl (hk97 _)
    · refine j_iload C dX8_live_31 rfl ?_
      refine j_aload_n C dX8_live_33 (i := 2) rfl rfl ?_
      refine j_callVi C (As := []) (rest := [_]) k_X8_109 ⟨Nat.le_of_ble_eq_true rfl, Nat.le_of_ble_eq_true rfl⟩ rfl (Nat.le_of_ble_eq_true rfl) ⟨Nat.le_of_ble_eq_true rfl, Nat.le_of_ble_eq_true rfl⟩ rfl dX8_live_34 (fun r0 q0 => c_Bk_rules l w _ _ _ q0) (fun r2029 er2029 nr2029 => ?_)
      refine j_icmpge C (tgt := 97) dX8_live_37 (by decide) (fun q2030 => ?_) (fun q2030 => ?_)
      · exact j_sub [0, 1, 2, 3, 4] rfl (hk97 _)
      · refine j_jn (P := fun (j2041 : hp_M → Option (Int32 × hp_M)) => ∀ (h2042 : hp_M), J p l e ({ frames := 10, cells := 0, slots := 0, locals := 298 }) s m args below meth c Q w 6 0 0 91 [(0, .ref a0), (1, .int x1), (2, .ref a2), (3, .int x3), (4, .int x4), (5, .int x5)] [] h2042 (j2041 h2042) out) ?_ (fun j2041 hj2041 => ?_)
        · intro h2042
          refine j_iinc C (v := x5 + 1) [(5, _), (0, _), (1, _), (2, _), (3, _), (4, _)] dX8_live_91 rfl rfl (by decide) rfl ?_
          refine j_goto C (tgt := 24) dX8_live_94 (by decide) ?_
          exact j_sub [1, 2, 3, 4, 5, 0] rfl (ih _ _)
        · refine j_aload_n C dX8_live_40 (i := 0) rfl rfl ?_
          refine j_getR C g_X8_24 dX8_live_41 (fun v2043 ev2043 => ?_)
          refine j_callVi C (As := []) (rest := []) k_X8_112 ⟨Nat.le_of_ble_eq_true rfl, Nat.le_of_ble_eq_true rfl⟩ rfl (Nat.le_of_ble_eq_true rfl) ⟨Nat.le_of_ble_eq_true rfl, Nat.le_of_ble_eq_true rfl⟩ rfl dX8_live_44 (fun r0 q0 => c_Pp_isFull l w _ _ _ q0) (fun r2044 er2044 nr2044 => ?_)
          refine j_ifne C (tgt := 91) dX8_live_47 (by decide) (fun q2045 => ?_) (fun q2045 => ?_)
          · refine j_aload_n C dX8_live_50 (i := 2) rfl rfl ?_
            refine j_iload C dX8_live_51 rfl ?_
            refine j_aload_n C dX8_live_53 (i := 0) rfl rfl ?_
            refine j_callVim C (As := [.int _, .ref _]) (rest := []) k_X8_116 ⟨Nat.le_of_ble_eq_true rfl, Nat.le_of_ble_eq_true rfl⟩ rfl (Nat.le_of_ble_eq_true rfl) ⟨Nat.le_of_ble_eq_true rfl, Nat.le_of_ble_eq_true rfl⟩ rfl dX8_live_54 (fun r0 q0 => c_Bk_holds l w fl _ _ _ _ _ q0) (fun r2046 er2046 nr2046 => ?_)
            refine j_ifeq C (tgt := 91) dX8_live_57 (by decide) (fun q2047 => ?_) (fun q2047 => ?_)
            · exact hj2041 _
            · refine j_aload_n C dX8_live_60 (i := 0) rfl rfl ?_
              refine j_getR C g_X8_24 dX8_live_61 (fun v2048 ev2048 => ?_)
              refine j_aload_n C dX8_live_64 (i := 2) rfl rfl ?_
              refine j_iload C dX8_live_65 rfl ?_
              refine j_aload_n C dX8_live_67 (i := 2) rfl rfl ?_
              refine j_iload C dX8_live_68 rfl ?_
              refine j_aload_n C dX8_live_70 (i := 0) rfl rfl ?_
              refine j_callVim C (As := [.int _, .ref _]) (rest := [_, _, _]) k_X8_120 ⟨Nat.le_of_ble_eq_true rfl, Nat.le_of_ble_eq_true rfl⟩ rfl (Nat.le_of_ble_eq_true rfl) ⟨Nat.le_of_ble_eq_true rfl, Nat.le_of_ble_eq_true rfl⟩ rfl dX8_live_71 (fun r0 q0 => c_Bk_sumOf l w fl _ _ _ _ _ q0) (fun r2049 er2049 nr2049 => ?_)
              refine j_callVi C (As := [.int _, .int _]) (rest := [_]) k_X8_124 ⟨Nat.le_of_ble_eq_true rfl, Nat.le_of_ble_eq_true rfl⟩ rfl (Nat.le_of_ble_eq_true rfl) ⟨Nat.le_of_ble_eq_true rfl, Nat.le_of_ble_eq_true rfl⟩ rfl dX8_live_74 (fun r0 q0 => c_Bk_letterBy l w _ _ _ _ _ q0) (fun r2050 er2050 nr2050 => ?_)
              refine j_callVv C (As := [.int _]) (rest := []) k_X8_127 ⟨Nat.le_of_ble_eq_true rfl, Nat.le_of_ble_eq_true rfl⟩ rfl (Nat.le_of_ble_eq_true rfl) ⟨Nat.le_of_ble_eq_true rfl, Nat.le_of_ble_eq_true rfl⟩ rfl dX8_live_77 (fun r0 q0 => c_Pp_append l w _ _ _ _ q0) (fun h2051 eh2051 _ => ?_)
              refine j_aload_n C dX8_live_80 (i := 0) rfl rfl ?_
              refine j_getR C g_X8_17 dX8_live_81 (fun v2052 ev2052 => ?_)
              refine j_iload C dX8_live_84 rfl ?_
              refine j_dup2 C dX8_live_86 rfl rfl ?_
              refine j_iaload C dX8_live_87 (fun v2053 ev2053 => ?_)
              refine j_iconst C (v := 1) dX8_live_88 (by decide) ?_
              refine j_iadd C dX8_live_89 ?_
              refine j_iastore C dX8_live_90 (fun h2054 eh2054 => ?_)
              exact hj2041 _
          · exact hj2041 _
set_option maxRecDepth 100000 in
set_option maxHeartbeats 4000000 in
theorem b_Sk_live_11 {p : Program} {l : Launch} {e : Env} {s : State} {m : MethodId} {args : Array Value} {below : List Frame} {meth : Method} {c : Code} {Q : State → Prop} {w : hp_W} {out : Int32 × hp_M} (fl : Nat)   (a0 : Nat) (x1 : Int32) (a2 : Nat) (x3 : Int32) (k103 : hp_M → Option (Int32 × hp_M)) (C : Cx p m c cX8_live 6 s args RX8 w) (hr : meth.sig.returnType = some .int) (hlk : meth.locks = false) (hnm : meth.name = "live") (hQ : QM below w args s ({ frames := 10, cells := 0, slots := 0, locals := 298 }) (some .int) (some (.int out.1)) out.2 = Q) (hk103 : ∀ (hz : hp_M), J p l e ({ frames := 10, cells := 0, slots := 0, locals := 298 }) s m args below meth c Q w 6 0 0 103 [(0, .ref a0), (3, .int x3)] [] hz (k103 hz) out) : ∀ (n : Nat) (x4 : Int32) (h : hp_M), J p l e ({ frames := 10, cells := 0, slots := 0, locals := 298 }) s m args below meth c Q w 6 0 0 11 [(0, .ref a0), (1, .int x1), (2, .ref a2), (3, .int x3), (4, .int x4)] [] h (f_Sk_live_b11 fl a0 x1 a2 x3 k103 n x4 h) out := by
  intro n
  induction n with
  | zero => intro x4 h; exact j_none
  | succ n ih =>
    intro x4 h
    rw [f_Sk_live_b11]
    refine j_iload C dX8_live_11 rfl ?_
    refine j_iload_n C dX8_live_13 (i := 1) rfl rfl ?_
    refine j_icmpge C (tgt := 103) dX8_live_14 (by decide) (fun q1015 => ?_) (fun q1015 => ?_)
    · exact j_sub [0, 3] rfl (hk103 _)
    · refine j_aload_n C dX8_live_17 (i := 0) rfl rfl ?_
      refine j_callVv C (As := []) (rest := []) k_X8_106 ⟨Nat.le_of_ble_eq_true rfl, Nat.le_of_ble_eq_true rfl⟩ rfl (Nat.le_of_ble_eq_true rfl) ⟨Nat.le_of_ble_eq_true rfl, Nat.le_of_ble_eq_true rfl⟩ rfl dX8_live_18 (fun r0 q0 => c_Sk_turn l w fl _ _ _ q0) (fun h1016 eh1016 _ => ?_)
      refine j_iconst C (v := 0) dX8_live_21 (by decide) ?_
      refine j_istore C [(5, _), (0, _), (1, _), (2, _), (3, _), (4, _)] dX8_live_22 (by decide) rfl ?_
      refine j_sub [1, 2, 3, 4, 5, 0] rfl (b_Sk_live_24 fl  _ _ _ _ _ _ C hr hlk hnm hQ (fun h1017 => ?_) _ _ _)
      refine j_iinc C (v := x4 + 1) [(4, _), (0, _), (1, _), (2, _), (3, _)] dX8_live_97 rfl rfl (by decide) rfl ?_
      refine j_goto C (tgt := 11) dX8_live_100 (by decide) ?_
      exact j_sub [1, 2, 3, 4, 0] rfl (ih _ _)
set_option maxRecDepth 100000 in
set_option maxHeartbeats 4000000 in
theorem c_Sk_live (l : Launch) (w : hp_W) (fl : Nat) (a0 : Nat) (x1 : Int32) (a2 : Nat) (h : hp_M) (out : Int32 × hp_M) (hX : f_Sk_live fl a0 x1 a2 h = some out) : CT l w yX8_live cX8_live 6 (some .int) ({ frames := 10, cells := 0, slots := 0, locals := 298 }) [.ref a0, .int x1, .ref a2] h (some (.int out.1)) out.2 := by
  unfold f_Sk_live at hX
  refine ct_of (by decide +kernel) (Nat.le_of_ble_eq_true rfl) hX ?_
  intro p e s m args below meth c Q C hr hlk hnm hQ
  refine j_aload_n C dX8_live_0 (i := 0) rfl rfl ?_
  refine j_getR C g_X8_24 dX8_live_1 (fun v1 ev1 => ?_)
  refine j_callVi C (As := []) (rest := []) k_X8_103 ⟨Nat.le_of_ble_eq_true rfl, Nat.le_of_ble_eq_true rfl⟩ rfl (Nat.le_of_ble_eq_true rfl) ⟨Nat.le_of_ble_eq_true rfl, Nat.le_of_ble_eq_true rfl⟩ rfl dX8_live_4 (fun r0 q0 => c_Pp_size l w _ _ _ q0) (fun r2 er2 nr2 => ?_)
  refine j_istore_n C [(3, _), (0, _), (1, _), (2, _)] dX8_live_7 (i := 3) rfl (by decide) rfl ?_
  refine j_iconst C (v := 0) dX8_live_8 (by decide) ?_
  refine j_istore C [(4, _), (3, _), (0, _), (1, _), (2, _)] dX8_live_9 (by decide) rfl ?_
  refine j_sub [2, 3, 4, 1, 0] rfl (b_Sk_live_11 fl  _ _ _ _ _ C hr hlk hnm hQ (fun h3 => ?_) _ _ _)
  refine j_aload_n C dX8_live_103 (i := 0) rfl rfl ?_
  refine j_getR C g_X8_24 dX8_live_104 (fun v4 ev4 => ?_)
  refine j_callVi C (As := []) (rest := []) k_X8_103 ⟨Nat.le_of_ble_eq_true rfl, Nat.le_of_ble_eq_true rfl⟩ rfl (Nat.le_of_ble_eq_true rfl) ⟨Nat.le_of_ble_eq_true rfl, Nat.le_of_ble_eq_true rfl⟩ rfl dX8_live_107 (fun r0 q0 => c_Pp_size l w _ _ _ q0) (fun r5 er5 nr5 => ?_)
  refine j_iload_n C dX8_live_110 (i := 3) rfl rfl ?_
  refine j_isub C dX8_live_111 ?_
  exact e_iretM C hQ hr rfl hlk dX8_live_112 (Nat.le_of_ble_eq_true rfl) (Nat.le_of_ble_eq_true rfl)
