def f_Rd_init (a0 : Nat) (a1 : Nat) (a2 : Nat) (h : hp_M) : Option (hp_M) := (f_Al_init h.2 (hN h (oC 0 [.null, .int 0]))).bind fun h1 => (pF h1 a0 5 1 (.ref h.2)).bind fun h2 => (f_Sc_init h2.2 a1 (hN h2 (oC 6 [.null, .null, .null, .null, .null, .null, .int 0, .int 0, .int 0, .long 0, .int 0]))).bind fun h3 => (pF h3 a0 5 0 (.ref h2.2)).bind fun h4 => (pF h4 a0 5 2 (.ref a2)).bind fun h5 => some h5
set_option maxRecDepth 100000 in
set_option maxHeartbeats 4000000 in
theorem c_Rd_init (l : Launch) (w : hp_W) (a0 : Nat) (a1 : Nat) (a2 : Nat) (h : hp_M) (out : hp_M) (hX : f_Rd_init a0 a1 a2 h = some out) : CT l w yX6_init cX6_init 3 none ({ frames := 2, cells := 8, slots := 2030, locals := 53 }) [.ref a0, .ref a1, .ref a2] h none out := by
  unfold f_Rd_init at hX
  refine ct_of (by decide +kernel) (Nat.le_of_ble_eq_true rfl) hX ?_
  intro p e s m args below meth c Q C hr hlk hnm hQ
  refine j_aload_n C dX6_init_0 (i := 0) rfl rfl ?_
  refine j_objInit C k_X6_1 k_oi k_oc dX6_init_1 (Nat.le_of_ble_eq_true rfl) (Nat.le_of_ble_eq_true rfl) ?_
  refine j_aload_n C dX6_init_4 (i := 0) rfl rfl ?_
  refine j_new C n_X6_7 (Nat.le_of_ble_eq_true rfl) (Nat.le_of_ble_eq_true rfl) dX6_init_5 ?_
  refine j_dup C dX6_init_8 rfl ?_
  refine j_callIN C (As := []) (rest := [_, _]) k_X6_9 ⟨Nat.le_of_ble_eq_true rfl, Nat.le_of_ble_eq_true rfl⟩ rfl (Nat.le_of_ble_eq_true rfl) ⟨Nat.le_of_ble_eq_true rfl, Nat.le_of_ble_eq_true rfl⟩ rfl dX6_init_9 (fun r0 q0 => c_Al_init l w _ _ _ q0) (fun h1 eh1 => ?_)
  refine j_putR C p_X6_10 (fun _ => hnm) dX6_init_12 rfl rfl (fun h2 eh2 => ?_)
  refine j_aload_n C dX6_init_15 (i := 0) rfl rfl ?_
  refine j_new C n_X6_16 (Nat.le_of_ble_eq_true rfl) (Nat.le_of_ble_eq_true rfl) dX6_init_16 ?_
  refine j_dup C dX6_init_19 rfl ?_
  refine j_aload_n C dX6_init_20 (i := 1) rfl rfl ?_
  refine j_callI C (As := [.ref _]) (rest := [_, _]) k_X6_18 ⟨Nat.le_of_ble_eq_true rfl, Nat.le_of_ble_eq_true rfl⟩ rfl (Nat.le_of_ble_eq_true rfl) ⟨Nat.le_of_ble_eq_true rfl, Nat.le_of_ble_eq_true rfl⟩ rfl dX6_init_21 (fun r0 q0 => c_Sc_init l w _ _ _ _ q0) (fun h3 eh3 => ?_)
  refine j_putR C p_X6_21 (fun _ => hnm) dX6_init_24 rfl rfl (fun h4 eh4 => ?_)
  refine j_aload_n C dX6_init_27 (i := 0) rfl rfl ?_
  refine j_aload_n C dX6_init_28 (i := 2) rfl rfl ?_
  refine j_putR C p_X6_25 (fun q => nomatch q) dX6_init_29 rfl rfl (fun h5 eh5 => ?_)
  exact e_vretM C hQ hr hlk dX6_init_32 (Nat.le_of_ble_eq_true rfl) (Nat.le_of_ble_eq_true rfl)
def f_Rd_placeOfError (a0 : Nat) (h : hp_M) : Option (Int32) := (gI h a0 5 4).bind fun v1 => some v1
set_option maxRecDepth 100000 in
set_option maxHeartbeats 4000000 in
theorem c_Rd_placeOfError (l : Launch) (w : hp_W) (a0 : Nat) (h : hp_M) (out : Int32) (hX : f_Rd_placeOfError a0 h = some out) : CT l w yX6_placeOfError cX6_placeOfError 1 (some .int) ({ frames := 0, cells := 0, slots := 0, locals := 0 }) [.ref a0] h (some (.int out)) h := by
  unfold f_Rd_placeOfError at hX
  refine ct_of (by decide +kernel) (Nat.le_of_ble_eq_true rfl) hX ?_
  intro p e s m args below meth c Q C hr hlk hnm hQ
  refine j_aload_n C dX6_placeOfError_0 (i := 0) rfl rfl ?_
  refine j_getI C g_X6_29 dX6_placeOfError_1 (fun v1 ev1 => ?_)
  exact e_iretR C hQ hr rfl hlk dX6_placeOfError_4 (Nat.le_of_ble_eq_true rfl) (Nat.le_of_ble_eq_true rfl)
def f_Rd_blame (a0 : Nat) (x1 : Int32) (x2 : Int32) (h : hp_M) : Option (hp_M) := (gI h a0 5 3).bind fun v1 => if v1 = 0 then ((pF h a0 5 3 (.int x1)).bind fun h3 => (pF h3 a0 5 4 (.int x2)).bind fun h4 => some h4) else (some h)
set_option maxRecDepth 100000 in
set_option maxHeartbeats 4000000 in
theorem c_Rd_blame (l : Launch) (w : hp_W) (a0 : Nat) (x1 : Int32) (x2 : Int32) (h : hp_M) (out : hp_M) (hX : f_Rd_blame a0 x1 x2 h = some out) : CT l w yX6_blame cX6_blame 3 none ({ frames := 0, cells := 0, slots := 0, locals := 0 }) [.ref a0, .int x1, .int x2] h none out := by
  unfold f_Rd_blame at hX
  refine ct_of (by decide +kernel) (Nat.le_of_ble_eq_true rfl) hX ?_
  intro p e s m args below meth c Q C hr hlk hnm hQ
  refine j_aload_n C dX6_blame_0 (i := 0) rfl rfl ?_
  refine j_getI C g_X6_41 dX6_blame_1 (fun v1 ev1 => ?_)
  refine j_ifne C (tgt := 17) dX6_blame_4 (by decide) (fun q2 => ?_) (fun q2 => ?_)
  · refine j_aload_n C dX6_blame_7 (i := 0) rfl rfl ?_
    refine j_iload_n C dX6_blame_8 (i := 1) rfl rfl ?_
    refine j_putI C p_X6_41 (fun q => nomatch q) dX6_blame_9 (fun h3 eh3 => ?_)
    refine j_aload_n C dX6_blame_12 (i := 0) rfl rfl ?_
    refine j_iload_n C dX6_blame_13 (i := 2) rfl rfl ?_
    refine j_putI C p_X6_29 (fun q => nomatch q) dX6_blame_14 (fun h4 eh4 => ?_)
    exact e_vretM C hQ hr hlk dX6_blame_17 (Nat.le_of_ble_eq_true rfl) (Nat.le_of_ble_eq_true rfl)
  · exact e_vretM C hQ hr hlk dX6_blame_17 (Nat.le_of_ble_eq_true rfl) (Nat.le_of_ble_eq_true rfl)
def f_Rd_checkNewName (a0 : Nat) (x1 : Int32) (x2 : Int32) (h : hp_M) : Option (hp_M) := jn (fun (h5 : hp_M) => if x2 = 0 then ((gR h5 a0 5 0).bind fun v7 => (onO h5 v7 6 (f_Sc_start v7 h5)).bind fun r8 => (onO h5 a0 5 (f_Rd_blame a0 4 r8 h5)).bind fun h9 => some h9) else (some h5)) fun (j4 : hp_M → Option (hp_M)) => if x1 < 0 then (j4 h) else ((gR h a0 5 0).bind fun v11 => (onO h v11 6 (f_Sc_start v11 h)).bind fun r12 => (onO h a0 5 (f_Rd_blame a0 2 r12 h)).bind fun h13 => j4 h13)
set_option maxRecDepth 100000 in
set_option maxHeartbeats 4000000 in
theorem c_Rd_checkNewName (l : Launch) (w : hp_W) (a0 : Nat) (x1 : Int32) (x2 : Int32) (h : hp_M) (out : hp_M) (hX : f_Rd_checkNewName a0 x1 x2 h = some out) : CT l w yX6_checkNewName cX6_checkNewName 3 none ({ frames := 1, cells := 0, slots := 0, locals := 22 }) [.ref a0, .int x1, .int x2] h none out := by
  unfold f_Rd_checkNewName at hX
  refine ct_of (by decide +kernel) (Nat.le_of_ble_eq_true rfl) hX ?_
  intro p e s m args below meth c Q C hr hlk hnm hQ
  refine j_jn (P := fun (j4 : hp_M → Option (hp_M)) => ∀ (h5 : hp_M), J p l e ({ frames := 1, cells := 0, slots := 0, locals := 22 }) s m args below meth c Q w 3 0 0 16 [(0, .ref a0), (2, .int x2)] [] h5 (j4 h5) out) ?_ (fun j4 hj4 => ?_)
  · intro h5
    refine j_iload_n C dX6_checkNewName_16 (i := 2) rfl rfl ?_
    refine j_ifne C (tgt := 32) dX6_checkNewName_17 (by decide) (fun q6 => ?_) (fun q6 => ?_)
    · refine j_aload_n C dX6_checkNewName_20 (i := 0) rfl rfl ?_
      refine j_iconst C (v := 4) dX6_checkNewName_21 (by decide) ?_
      refine j_aload_n C dX6_checkNewName_22 (i := 0) rfl rfl ?_
      refine j_getR C g_X6_21 dX6_checkNewName_23 (fun v7 ev7 => ?_)
      refine j_callVi C (As := []) (rest := [_, _]) k_X6_73 ⟨Nat.le_of_ble_eq_true rfl, Nat.le_of_ble_eq_true rfl⟩ rfl (Nat.le_of_ble_eq_true rfl) ⟨Nat.le_of_ble_eq_true rfl, Nat.le_of_ble_eq_true rfl⟩ rfl dX6_checkNewName_26 (fun r0 q0 => c_Sc_start l w _ _ _ q0) (fun r8 er8 nr8 => ?_)
      refine j_callVv C (As := [.int _, .int _]) (rest := []) k_X6_167 ⟨Nat.le_of_ble_eq_true rfl, Nat.le_of_ble_eq_true rfl⟩ rfl (Nat.le_of_ble_eq_true rfl) ⟨Nat.le_of_ble_eq_true rfl, Nat.le_of_ble_eq_true rfl⟩ rfl dX6_checkNewName_29 (fun r0 q0 => c_Rd_blame l w _ _ _ _ _ q0) (fun h9 eh9 _ => ?_)
      exact e_vretM C hQ hr hlk dX6_checkNewName_32 (Nat.le_of_ble_eq_true rfl) (Nat.le_of_ble_eq_true rfl)
    · exact e_vretM C hQ hr hlk dX6_checkNewName_32 (Nat.le_of_ble_eq_true rfl) (Nat.le_of_ble_eq_true rfl)
  · refine j_iload_n C dX6_checkNewName_0 (i := 1) rfl rfl ?_
    refine j_iflt C (tgt := 16) dX6_checkNewName_1 (by decide) (fun q10 => ?_) (fun q10 => ?_)
    · exact j_sub [0, 2] rfl (hj4 _)
    · refine j_aload_n C dX6_checkNewName_4 (i := 0) rfl rfl ?_
      refine j_iconst C (v := 2) dX6_checkNewName_5 (by decide) ?_
      refine j_aload_n C dX6_checkNewName_6 (i := 0) rfl rfl ?_
      refine j_getR C g_X6_21 dX6_checkNewName_7 (fun v11 ev11 => ?_)
      refine j_callVi C (As := []) (rest := [_, _]) k_X6_73 ⟨Nat.le_of_ble_eq_true rfl, Nat.le_of_ble_eq_true rfl⟩ rfl (Nat.le_of_ble_eq_true rfl) ⟨Nat.le_of_ble_eq_true rfl, Nat.le_of_ble_eq_true rfl⟩ rfl dX6_checkNewName_10 (fun r0 q0 => c_Sc_start l w _ _ _ q0) (fun r12 er12 nr12 => ?_)
      refine j_callVv C (As := [.int _, .int _]) (rest := []) k_X6_167 ⟨Nat.le_of_ble_eq_true rfl, Nat.le_of_ble_eq_true rfl⟩ rfl (Nat.le_of_ble_eq_true rfl) ⟨Nat.le_of_ble_eq_true rfl, Nat.le_of_ble_eq_true rfl⟩ rfl dX6_checkNewName_13 (fun r0 q0 => c_Rd_blame l w _ _ _ _ _ q0) (fun h13 eh13 _ => ?_)
      exact j_sub [0, 2] rfl (hj4 _)
def f_Rd_readNumber (w : hp_W) (a0 : Nat) (x1 : Int32) (x2 : Int32) (h : hp_M) : Option (Int32 × hp_M) := (gR h a0 5 0).bind fun v1 => (onO h v1 6 (f_Sc_isAt v1 (w_kd w 3) h)).bind fun r2 => if r2 = 0 then (some (0, h)) else (jn (fun (h13 : hp_M) => (gR h13 a0 5 0).bind fun v14 => (onO h13 v14 6 (f_Sc_take v14 (w_kd w 3) h13)).bind fun r15 => some (r15.1, r15.2)) fun (j12 : hp_M → Option (Int32 × hp_M)) => jn (fun (h22 : hp_M) => (gR h22 a0 5 0).bind fun v23 => (onO h22 v23 6 (f_Sc_start v23 h22)).bind fun r24 => (onO h22 a0 5 (f_Rd_blame a0 5 r24 h22)).bind fun h25 => j12 h25) fun (j21 : hp_M → Option (Int32 × hp_M)) => (gR h a0 5 0).bind fun v26 => (onO h v26 6 (f_Sc_number v26 h)).bind fun r27 => (pF h a0 5 5 (.int r27)).bind fun h28 => (gI h28 a0 5 5).bind fun v29 => if v29 < x1 then (j21 h28) else ((gI h28 a0 5 5).bind fun v31 => if v31 ≤ x2 then (j12 h28) else (j21 h28)))
set_option maxRecDepth 100000 in
set_option maxHeartbeats 4000000 in
theorem c_Rd_readNumber (l : Launch) (w : hp_W) (a0 : Nat) (x1 : Int32) (x2 : Int32) (h : hp_M) (out : Int32 × hp_M) (hX : f_Rd_readNumber w a0 x1 x2 h = some out) : CT l w yX6_readNumber cX6_readNumber 3 (some .boolean) ({ frames := 1, cells := 0, slots := 0, locals := 22 }) [.ref a0, .int x1, .int x2] h (some (.int out.1)) out.2 := by
  unfold f_Rd_readNumber at hX
  refine ct_of (by decide +kernel) (Nat.le_of_ble_eq_true rfl) hX ?_
  intro p e s m args below meth c Q C hr hlk hnm hQ
  refine j_aload_n C dX6_readNumber_0 (i := 0) rfl rfl ?_
  refine j_getR C g_X6_21 dX6_readNumber_1 (fun v1 ev1 => ?_)
  refine j_kind C s_X6_199 (by decide) dX6_readNumber_4 ?_
  refine j_callVi C (As := [.ref _]) (rest := []) k_X6_50 ⟨Nat.le_of_ble_eq_true rfl, Nat.le_of_ble_eq_true rfl⟩ rfl (Nat.le_of_ble_eq_true rfl) ⟨Nat.le_of_ble_eq_true rfl, Nat.le_of_ble_eq_true rfl⟩ rfl dX6_readNumber_7 (fun r0 q0 => c_Sc_isAt l w _ _ _ _ q0) (fun r2 er2 nr2 => ?_)
  refine j_ifne C (tgt := 15) dX6_readNumber_10 (by decide) (fun q3 => ?_) (fun q3 => ?_)
  · refine j_iconst C (v := 0) dX6_readNumber_13 (by decide) ?_
    exact e_iretM C hQ hr rfl hlk dX6_readNumber_14 (Nat.le_of_ble_eq_true rfl) (Nat.le_of_ble_eq_true rfl)
  · refine j_jn (P := fun (j12 : hp_M → Option (Int32 × hp_M)) => ∀ (h13 : hp_M), J p l e ({ frames := 1, cells := 0, slots := 0, locals := 22 }) s m args below meth c Q w 3 0 0 54 [(0, .ref a0)] [] h13 (j12 h13) out) ?_ (fun j12 hj12 => ?_)
    · intro h13
      refine j_aload_n C dX6_readNumber_54 (i := 0) rfl rfl ?_
      refine j_getR C g_X6_21 dX6_readNumber_55 (fun v14 ev14 => ?_)
      refine j_kind C s_X6_199 (by decide) dX6_readNumber_58 ?_
      refine j_callVim C (As := [.ref _]) (rest := []) k_X6_77 ⟨Nat.le_of_ble_eq_true rfl, Nat.le_of_ble_eq_true rfl⟩ rfl (Nat.le_of_ble_eq_true rfl) ⟨Nat.le_of_ble_eq_true rfl, Nat.le_of_ble_eq_true rfl⟩ rfl dX6_readNumber_61 (fun r0 q0 => c_Sc_take l w _ _ _ _ q0) (fun r15 er15 nr15 => ?_)
      exact e_iretM C hQ hr (nr15 _ _ rfl rfl) hlk dX6_readNumber_64 (Nat.le_of_ble_eq_true rfl) (Nat.le_of_ble_eq_true rfl)
    · refine j_jn (P := fun (j21 : hp_M → Option (Int32 × hp_M)) => ∀ (h22 : hp_M), J p l e ({ frames := 1, cells := 0, slots := 0, locals := 22 }) s m args below meth c Q w 3 0 0 42 [(0, .ref a0)] [] h22 (j21 h22) out) ?_ (fun j21 hj21 => ?_)
      · intro h22
        refine j_aload_n C dX6_readNumber_42 (i := 0) rfl rfl ?_
        refine j_iconst C (v := 5) dX6_readNumber_43 (by decide) ?_
        refine j_aload_n C dX6_readNumber_44 (i := 0) rfl rfl ?_
        refine j_getR C g_X6_21 dX6_readNumber_45 (fun v23 ev23 => ?_)
        refine j_callVi C (As := []) (rest := [_, _]) k_X6_73 ⟨Nat.le_of_ble_eq_true rfl, Nat.le_of_ble_eq_true rfl⟩ rfl (Nat.le_of_ble_eq_true rfl) ⟨Nat.le_of_ble_eq_true rfl, Nat.le_of_ble_eq_true rfl⟩ rfl dX6_readNumber_48 (fun r0 q0 => c_Sc_start l w _ _ _ q0) (fun r24 er24 nr24 => ?_)
        refine j_callVv C (As := [.int _, .int _]) (rest := []) k_X6_167 ⟨Nat.le_of_ble_eq_true rfl, Nat.le_of_ble_eq_true rfl⟩ rfl (Nat.le_of_ble_eq_true rfl) ⟨Nat.le_of_ble_eq_true rfl, Nat.le_of_ble_eq_true rfl⟩ rfl dX6_readNumber_51 (fun r0 q0 => c_Rd_blame l w _ _ _ _ _ q0) (fun h25 eh25 _ => ?_)
        exact hj12 _
      · refine j_aload_n C dX6_readNumber_15 (i := 0) rfl rfl ?_
        refine j_aload_n C dX6_readNumber_16 (i := 0) rfl rfl ?_
        refine j_getR C g_X6_21 dX6_readNumber_17 (fun v26 ev26 => ?_)
        refine j_callVi C (As := []) (rest := [_]) k_X6_202 ⟨Nat.le_of_ble_eq_true rfl, Nat.le_of_ble_eq_true rfl⟩ rfl (Nat.le_of_ble_eq_true rfl) ⟨Nat.le_of_ble_eq_true rfl, Nat.le_of_ble_eq_true rfl⟩ rfl dX6_readNumber_20 (fun r0 q0 => c_Sc_number l w _ _ _ q0) (fun r27 er27 nr27 => ?_)
        refine j_putI C p_X6_115 (fun q => nomatch q) dX6_readNumber_23 (fun h28 eh28 => ?_)
        refine j_aload_n C dX6_readNumber_26 (i := 0) rfl rfl ?_
        refine j_getI C g_X6_115 dX6_readNumber_27 (fun v29 ev29 => ?_)
        refine j_iload_n C dX6_readNumber_30 (i := 1) rfl rfl ?_
        refine j_icmplt C (tgt := 42) dX6_readNumber_31 (by decide) (fun q30 => ?_) (fun q30 => ?_)
        · exact j_sub [0] rfl (hj21 _)
        · refine j_aload_n C dX6_readNumber_34 (i := 0) rfl rfl ?_
          refine j_getI C g_X6_115 dX6_readNumber_35 (fun v31 ev31 => ?_)
          refine j_iload_n C dX6_readNumber_38 (i := 2) rfl rfl ?_
          refine j_icmple C (tgt := 54) dX6_readNumber_39 (by decide) (fun q32 => ?_) (fun q32 => ?_)
          · exact j_sub [0] rfl (hj12 _)
          · exact j_sub [0] rfl (hj21 _)
def f_Rd_readPlanet (w : hp_W) (fl : Nat) (a0 : Nat) (h : hp_M) : Option (Int32 × hp_M) := (gR h a0 5 0).bind fun v1 => (onO h v1 6 (f_Sc_take v1 (w_kd w 4) h)).bind fun r2 => if r2.1 = 0 then (some (0, r2.2)) else ((gR r2.2 a0 5 0).bind fun v4 => (onO r2.2 v4 6 (f_Sc_isAt v4 (w_kd w 2) r2.2)).bind fun r5 => if r5 = 0 then (some (0, r2.2)) else (jn (fun (u14 : Int64) (u15 : Int32) (u16 : Int32) (u17 : Nat) => (onO r2.2 u17 5 (f_Rd_checkNewName u17 u16 u15 r2.2)).bind fun h18 => (gR h18 a0 5 0).bind fun v19 => (onO h18 v19 6 (f_Sc_take v19 (w_kd w 2) h18)).bind fun r20 => if r20.1 = 0 then (some (0, r20.2)) else ((gR r20.2 a0 5 0).bind fun v22 => (onO r20.2 v22 6 (f_Sc_take v22 (w_kd w 5) r20.2)).bind fun r23 => if r23.1 = 0 then (some (0, r23.2)) else ((onO r23.2 a0 5 (f_Rd_readNumber w a0 1 20 r23.2)).bind fun r25 => if r25.1 = 0 then (some (0, r25.2)) else ((gI r25.2 a0 5 5).bind fun v27 => (gR r25.2 a0 5 0).bind fun v28 => (onO r25.2 v28 6 (f_Sc_take v28 (w_kd w 6) r25.2)).bind fun r29 => if r29.1 = 0 then (some (0, r29.2)) else ((onO r29.2 a0 5 (f_Rd_readNumber w a0 1 60 r29.2)).bind fun r31 => if r31.1 = 0 then (some (0, r31.2)) else (jn (fun (u41 : Int32) (u42 : Int32) (h43 : hp_M) => jn (fun (u55 : Int32) (u56 : Int32) (h57 : hp_M) => (gR h57 a0 5 2).bind fun v58 => (onO h57 v58 1 (f_Bk_addPlanet v58 u14 v27 u41 u42 u55 u56 h57)).bind fun h59 => (gR h59 a0 5 0).bind fun v60 => (onO h59 v60 6 (f_Sc_take v60 (w_kd w 30) h59)).bind fun r61 => some (r61.1, r61.2)) fun (j54 : Int32 → Int32 → hp_M → Option (Int32 × hp_M)) => (gR h43 a0 5 0).bind fun v62 => (onO h43 v62 6 (f_Sc_isAt v62 (w_kd w 8) h43)).bind fun r63 => if r63 = 0 then (j54 0 1 h43) else ((gR h43 a0 5 0).bind fun v65 => (onO h43 v65 6 (f_Sc_take v65 (w_kd w 8) h43)).bind fun r66 => if r66.1 = 0 then (some (0, r66.2)) else ((onO r66.2 a0 5 (f_Rd_readNumber w a0 0 29 r66.2)).bind fun r68 => if r68.1 = 0 then (some (0, r68.2)) else ((gI r68.2 a0 5 5).bind fun v70 => (gR r68.2 a0 5 0).bind fun v71 => (onO r68.2 v71 6 (f_Sc_take v71 (w_kd w 9) r68.2)).bind fun r72 => if r72.1 = 0 then (some (0, r72.2)) else ((onO r72.2 a0 5 (f_Rd_readNumber w a0 (v70 + 1) 60 r72.2)).bind fun r74 => if r74.1 = 0 then (some (0, r74.2)) else ((gI r74.2 a0 5 5).bind fun v76 => j54 v70 v76 r74.2)))))) fun (j40 : Int32 → Int32 → hp_M → Option (Int32 × hp_M)) => (gI r31.2 a0 5 5).bind fun v77 => (gR r31.2 a0 5 0).bind fun v78 => (onO r31.2 v78 6 (f_Sc_isAt v78 (w_kd w 7) r31.2)).bind fun r79 => if r79 = 0 then (j40 v77 0 r31.2) else ((gR r31.2 a0 5 0).bind fun v81 => (onO r31.2 v81 6 (f_Sc_take v81 (w_kd w 7) r31.2)).bind fun r82 => if r82.1 = 0 then (some (0, r82.2)) else ((onO r82.2 a0 5 (f_Rd_readNumber w a0 0 359 r82.2)).bind fun r84 => if r84.1 = 0 then (some (0, r84.2)) else ((gI r84.2 a0 5 5).bind fun v86 => j40 v77 v86 r84.2))))))))) fun (j13 : Int64 → Int32 → Int32 → Nat → Option (Int32 × hp_M)) => (gR r2.2 a0 5 0).bind fun v87 => (onO r2.2 v87 6 (f_Sc_word v87 r2.2)).bind fun r88 => (gR r2.2 a0 5 2).bind fun v89 => (onO r2.2 v89 1 (f_Bk_planetNamed fl v89 r88 r2.2)).bind fun r90 => (gR r2.2 a0 5 2).bind fun v91 => (onO r2.2 v91 1 (f_Bk_planets v91 r2.2)).bind fun r92 => if 8 ≤ r92 then (j13 r88 0 r90 a0) else (j13 r88 1 r90 a0)))
set_option maxRecDepth 100000 in
set_option maxHeartbeats 4000000 in
theorem c_Rd_readPlanet (l : Launch) (w : hp_W) (fl : Nat) (a0 : Nat) (h : hp_M) (out : Int32 × hp_M) (hX : f_Rd_readPlanet w fl a0 h = some out) : CT l w yX6_readPlanet cX6_readPlanet 8 (some .boolean) ({ frames := 3, cells := 0, slots := 0, locals := 73 }) [.ref a0] h (some (.int out.1)) out.2 := by
  unfold f_Rd_readPlanet at hX
  refine ct_of (by decide +kernel) (Nat.le_of_ble_eq_true rfl) hX ?_
  intro p e s m args below meth c Q C hr hlk hnm hQ
  refine j_aload_n C dX6_readPlanet_0 (i := 0) rfl rfl ?_
  refine j_getR C g_X6_21 dX6_readPlanet_1 (fun v1 ev1 => ?_)
  refine j_kind C s_X6_54 (by decide) dX6_readPlanet_4 ?_
  refine j_callVim C (As := [.ref _]) (rest := []) k_X6_77 ⟨Nat.le_of_ble_eq_true rfl, Nat.le_of_ble_eq_true rfl⟩ rfl (Nat.le_of_ble_eq_true rfl) ⟨Nat.le_of_ble_eq_true rfl, Nat.le_of_ble_eq_true rfl⟩ rfl dX6_readPlanet_7 (fun r0 q0 => c_Sc_take l w _ _ _ _ q0) (fun r2 er2 nr2 => ?_)
  refine j_ifeq C (tgt := 26) dX6_readPlanet_10 (by decide) (fun q3 => ?_) (fun q3 => ?_)
  · refine j_iconst C (v := 0) dX6_readPlanet_26 (by decide) ?_
    exact e_iretM C hQ hr rfl hlk dX6_readPlanet_27 (Nat.le_of_ble_eq_true rfl) (Nat.le_of_ble_eq_true rfl)
  · refine j_aload_n C dX6_readPlanet_13 (i := 0) rfl rfl ?_
    refine j_getR C g_X6_21 dX6_readPlanet_14 (fun v4 ev4 => ?_)
    refine j_kind C s_X6_90 (by decide) dX6_readPlanet_17 ?_
    refine j_callVi C (As := [.ref _]) (rest := []) k_X6_50 ⟨Nat.le_of_ble_eq_true rfl, Nat.le_of_ble_eq_true rfl⟩ rfl (Nat.le_of_ble_eq_true rfl) ⟨Nat.le_of_ble_eq_true rfl, Nat.le_of_ble_eq_true rfl⟩ rfl dX6_readPlanet_20 (fun r0 q0 => c_Sc_isAt l w _ _ _ _ q0) (fun r5 er5 nr5 => ?_)
    refine j_ifne C (tgt := 28) dX6_readPlanet_23 (by decide) (fun q6 => ?_) (fun q6 => ?_)
    · refine j_iconst C (v := 0) dX6_readPlanet_26 (by decide) ?_
      exact e_iretM C hQ hr rfl hlk dX6_readPlanet_27 (Nat.le_of_ble_eq_true rfl) (Nat.le_of_ble_eq_true rfl)
    · refine j_jn (P := fun (j13 : Int64 → Int32 → Int32 → Nat → Option (Int32 × hp_M)) => ∀ (u14 : Int64) (u15 : Int32) (u16 : Int32) (u17 : Nat), J p l e ({ frames := 3, cells := 0, slots := 0, locals := 73 }) s m args below meth c Q w 8 0 0 62 [(0, .ref a0), (1, .long u14)] [.int u15, .int u16, .ref u17] r2.2 (j13 u14 u15 u16 u17) out) ?_ (fun j13 hj13 => ?_)
      · intro u14 u15 u16 u17
        refine j_callVv C (As := [.int _, .int _]) (rest := []) k_X6_104 ⟨Nat.le_of_ble_eq_true rfl, Nat.le_of_ble_eq_true rfl⟩ rfl (Nat.le_of_ble_eq_true rfl) ⟨Nat.le_of_ble_eq_true rfl, Nat.le_of_ble_eq_true rfl⟩ rfl dX6_readPlanet_62 (fun r0 q0 => c_Rd_checkNewName l w _ _ _ _ _ q0) (fun h18 eh18 _ => ?_)
        refine j_aload_n C dX6_readPlanet_65 (i := 0) rfl rfl ?_
        refine j_getR C g_X6_21 dX6_readPlanet_66 (fun v19 ev19 => ?_)
        refine j_kind C s_X6_90 (by decide) dX6_readPlanet_69 ?_
        refine j_callVim C (As := [.ref _]) (rest := []) k_X6_77 ⟨Nat.le_of_ble_eq_true rfl, Nat.le_of_ble_eq_true rfl⟩ rfl (Nat.le_of_ble_eq_true rfl) ⟨Nat.le_of_ble_eq_true rfl, Nat.le_of_ble_eq_true rfl⟩ rfl dX6_readPlanet_72 (fun r0 q0 => c_Sc_take l w _ _ _ _ q0) (fun r20 er20 nr20 => ?_)
        refine j_ifeq C (tgt := 101) dX6_readPlanet_75 (by decide) (fun q21 => ?_) (fun q21 => ?_)
        · refine j_iconst C (v := 0) dX6_readPlanet_101 (by decide) ?_
          exact e_iretM C hQ hr rfl hlk dX6_readPlanet_102 (Nat.le_of_ble_eq_true rfl) (Nat.le_of_ble_eq_true rfl)
        · refine j_aload_n C dX6_readPlanet_78 (i := 0) rfl rfl ?_
          refine j_getR C g_X6_21 dX6_readPlanet_79 (fun v22 ev22 => ?_)
          refine j_kind C s_X6_108 (by decide) dX6_readPlanet_82 ?_
          refine j_callVim C (As := [.ref _]) (rest := []) k_X6_77 ⟨Nat.le_of_ble_eq_true rfl, Nat.le_of_ble_eq_true rfl⟩ rfl (Nat.le_of_ble_eq_true rfl) ⟨Nat.le_of_ble_eq_true rfl, Nat.le_of_ble_eq_true rfl⟩ rfl dX6_readPlanet_85 (fun r0 q0 => c_Sc_take l w _ _ _ _ q0) (fun r23 er23 nr23 => ?_)
          refine j_ifeq C (tgt := 101) dX6_readPlanet_88 (by decide) (fun q24 => ?_) (fun q24 => ?_)
          · refine j_iconst C (v := 0) dX6_readPlanet_101 (by decide) ?_
            exact e_iretM C hQ hr rfl hlk dX6_readPlanet_102 (Nat.le_of_ble_eq_true rfl) (Nat.le_of_ble_eq_true rfl)
          · refine j_aload_n C dX6_readPlanet_91 (i := 0) rfl rfl ?_
            refine j_iconst C (v := 1) dX6_readPlanet_92 (by decide) ?_
            refine j_bipush C (v := 20) dX6_readPlanet_93 (by decide) ?_
            refine j_callVim C (As := [.int _, .int _]) (rest := []) k_X6_111 ⟨Nat.le_of_ble_eq_true rfl, Nat.le_of_ble_eq_true rfl⟩ rfl (Nat.le_of_ble_eq_true rfl) ⟨Nat.le_of_ble_eq_true rfl, Nat.le_of_ble_eq_true rfl⟩ rfl dX6_readPlanet_95 (fun r0 q0 => c_Rd_readNumber l w _ _ _ _ _ q0) (fun r25 er25 nr25 => ?_)
            refine j_ifne C (tgt := 103) dX6_readPlanet_98 (by decide) (fun q26 => ?_) (fun q26 => ?_)
            · refine j_iconst C (v := 0) dX6_readPlanet_101 (by decide) ?_
              exact e_iretM C hQ hr rfl hlk dX6_readPlanet_102 (Nat.le_of_ble_eq_true rfl) (Nat.le_of_ble_eq_true rfl)
            · refine j_aload_n C dX6_readPlanet_103 (i := 0) rfl rfl ?_
              refine j_getI C g_X6_115 dX6_readPlanet_104 (fun v27 ev27 => ?_)
              refine j_istore_n C [(3, _), (0, _), (1, _)] dX6_readPlanet_107 (i := 3) rfl (by decide) rfl ?_
              refine j_aload_n C dX6_readPlanet_108 (i := 0) rfl rfl ?_
              refine j_getR C g_X6_21 dX6_readPlanet_109 (fun v28 ev28 => ?_)
              refine j_kind C s_X6_118 (by decide) dX6_readPlanet_112 ?_
              refine j_callVim C (As := [.ref _]) (rest := []) k_X6_77 ⟨Nat.le_of_ble_eq_true rfl, Nat.le_of_ble_eq_true rfl⟩ rfl (Nat.le_of_ble_eq_true rfl) ⟨Nat.le_of_ble_eq_true rfl, Nat.le_of_ble_eq_true rfl⟩ rfl dX6_readPlanet_115 (fun r0 q0 => c_Sc_take l w _ _ _ _ q0) (fun r29 er29 nr29 => ?_)
              refine j_ifeq C (tgt := 131) dX6_readPlanet_118 (by decide) (fun q30 => ?_) (fun q30 => ?_)
              · refine j_iconst C (v := 0) dX6_readPlanet_131 (by decide) ?_
                exact e_iretM C hQ hr rfl hlk dX6_readPlanet_132 (Nat.le_of_ble_eq_true rfl) (Nat.le_of_ble_eq_true rfl)
              · refine j_aload_n C dX6_readPlanet_121 (i := 0) rfl rfl ?_
                refine j_iconst C (v := 1) dX6_readPlanet_122 (by decide) ?_
                refine j_bipush C (v := 60) dX6_readPlanet_123 (by decide) ?_
                refine j_callVim C (As := [.int _, .int _]) (rest := []) k_X6_111 ⟨Nat.le_of_ble_eq_true rfl, Nat.le_of_ble_eq_true rfl⟩ rfl (Nat.le_of_ble_eq_true rfl) ⟨Nat.le_of_ble_eq_true rfl, Nat.le_of_ble_eq_true rfl⟩ rfl dX6_readPlanet_125 (fun r0 q0 => c_Rd_readNumber l w _ _ _ _ _ q0) (fun r31 er31 nr31 => ?_)
                refine j_ifne C (tgt := 133) dX6_readPlanet_128 (by decide) (fun q32 => ?_) (fun q32 => ?_)
                · refine j_iconst C (v := 0) dX6_readPlanet_131 (by decide) ?_
                  exact e_iretM C hQ hr rfl hlk dX6_readPlanet_132 (Nat.le_of_ble_eq_true rfl) (Nat.le_of_ble_eq_true rfl)
                · refine j_jn (P := fun (j40 : Int32 → Int32 → hp_M → Option (Int32 × hp_M)) => ∀ (u41 : Int32) (u42 : Int32) (h43 : hp_M), J p l e ({ frames := 3, cells := 0, slots := 0, locals := 73 }) s m args below meth c Q w 8 0 0 187 [(0, .ref a0), (1, .long u14), (3, .int v27), (4, .int u41), (5, .int u42)] [] h43 (j40 u41 u42 h43) out) ?_ (fun j40 hj40 => ?_)
                  · intro u41 u42 h43
                    refine j_jn (P := fun (j54 : Int32 → Int32 → hp_M → Option (Int32 × hp_M)) => ∀ (u55 : Int32) (u56 : Int32) (h57 : hp_M), J p l e ({ frames := 3, cells := 0, slots := 0, locals := 73 }) s m args below meth c Q w 8 0 0 271 [(0, .ref a0), (1, .long u14), (3, .int v27), (4, .int u41), (5, .int u42), (6, .int u55), (7, .int u56)] [] h57 (j54 u55 u56 h57) out) ?_ (fun j54 hj54 => ?_)
                    · intro u55 u56 h57
                      refine j_aload_n C dX6_readPlanet_271 (i := 0) rfl rfl ?_
                      refine j_getR C g_X6_25 dX6_readPlanet_272 (fun v58 ev58 => ?_)
                      refine j_lload_n C dX6_readPlanet_275 (i := 1) rfl rfl ?_
                      refine j_iload_n C dX6_readPlanet_276 (i := 3) rfl rfl ?_
                      refine j_iload C dX6_readPlanet_277 rfl ?_
                      refine j_iload C dX6_readPlanet_279 rfl ?_
                      refine j_iload C dX6_readPlanet_281 rfl ?_
                      refine j_iload C dX6_readPlanet_283 rfl ?_
                      refine j_callVv C (As := [.long _, .int _, .int _, .int _, .int _, .int _]) (rest := []) k_X6_132 ⟨Nat.le_of_ble_eq_true rfl, Nat.le_of_ble_eq_true rfl⟩ rfl (Nat.le_of_ble_eq_true rfl) ⟨Nat.le_of_ble_eq_true rfl, Nat.le_of_ble_eq_true rfl⟩ rfl dX6_readPlanet_285 (fun r0 q0 => c_Bk_addPlanet l w _ _ _ _ _ _ _ _ _ q0) (fun h59 eh59 _ => ?_)
                      refine j_aload_n C dX6_readPlanet_288 (i := 0) rfl rfl ?_
                      refine j_getR C g_X6_21 dX6_readPlanet_289 (fun v60 ev60 => ?_)
                      refine j_kind C s_X6_136 (by decide) dX6_readPlanet_292 ?_
                      refine j_callVim C (As := [.ref _]) (rest := []) k_X6_77 ⟨Nat.le_of_ble_eq_true rfl, Nat.le_of_ble_eq_true rfl⟩ rfl (Nat.le_of_ble_eq_true rfl) ⟨Nat.le_of_ble_eq_true rfl, Nat.le_of_ble_eq_true rfl⟩ rfl dX6_readPlanet_295 (fun r0 q0 => c_Sc_take l w _ _ _ _ q0) (fun r61 er61 nr61 => ?_)
                      exact e_iretM C hQ hr (nr61 _ _ rfl rfl) hlk dX6_readPlanet_298 (Nat.le_of_ble_eq_true rfl) (Nat.le_of_ble_eq_true rfl)
                    · refine j_iconst C (v := 0) dX6_readPlanet_187 (by decide) ?_
                      refine j_istore C [(6, _), (0, _), (1, _), (3, _), (4, _), (5, _)] dX6_readPlanet_188 (by decide) rfl ?_
                      refine j_iconst C (v := 1) dX6_readPlanet_190 (by decide) ?_
                      refine j_istore C [(7, _), (6, _), (0, _), (1, _), (3, _), (4, _), (5, _)] dX6_readPlanet_191 (by decide) rfl ?_
                      refine j_aload_n C dX6_readPlanet_193 (i := 0) rfl rfl ?_
                      refine j_getR C g_X6_21 dX6_readPlanet_194 (fun v62 ev62 => ?_)
                      refine j_kind C s_X6_126 (by decide) dX6_readPlanet_197 ?_
                      refine j_callVi C (As := [.ref _]) (rest := []) k_X6_50 ⟨Nat.le_of_ble_eq_true rfl, Nat.le_of_ble_eq_true rfl⟩ rfl (Nat.le_of_ble_eq_true rfl) ⟨Nat.le_of_ble_eq_true rfl, Nat.le_of_ble_eq_true rfl⟩ rfl dX6_readPlanet_200 (fun r0 q0 => c_Sc_isAt l w _ _ _ _ q0) (fun r63 er63 nr63 => ?_)
                      refine j_ifeq C (tgt := 271) dX6_readPlanet_203 (by decide) (fun q64 => ?_) (fun q64 => ?_)
                      · exact j_sub [2, 3, 4, 5, 6, 1, 0] rfl (hj54 _ _ _)
                      · refine j_aload_n C dX6_readPlanet_206 (i := 0) rfl rfl ?_
                        refine j_getR C g_X6_21 dX6_readPlanet_207 (fun v65 ev65 => ?_)
                        refine j_kind C s_X6_126 (by decide) dX6_readPlanet_210 ?_
                        refine j_callVim C (As := [.ref _]) (rest := []) k_X6_77 ⟨Nat.le_of_ble_eq_true rfl, Nat.le_of_ble_eq_true rfl⟩ rfl (Nat.le_of_ble_eq_true rfl) ⟨Nat.le_of_ble_eq_true rfl, Nat.le_of_ble_eq_true rfl⟩ rfl dX6_readPlanet_213 (fun r0 q0 => c_Sc_take l w _ _ _ _ q0) (fun r66 er66 nr66 => ?_)
                        refine j_ifeq C (tgt := 229) dX6_readPlanet_216 (by decide) (fun q67 => ?_) (fun q67 => ?_)
                        · refine j_iconst C (v := 0) dX6_readPlanet_229 (by decide) ?_
                          exact e_iretM C hQ hr rfl hlk dX6_readPlanet_230 (Nat.le_of_ble_eq_true rfl) (Nat.le_of_ble_eq_true rfl)
                        · refine j_aload_n C dX6_readPlanet_219 (i := 0) rfl rfl ?_
                          refine j_iconst C (v := 0) dX6_readPlanet_220 (by decide) ?_
                          refine j_bipush C (v := 29) dX6_readPlanet_221 (by decide) ?_
                          refine j_callVim C (As := [.int _, .int _]) (rest := []) k_X6_111 ⟨Nat.le_of_ble_eq_true rfl, Nat.le_of_ble_eq_true rfl⟩ rfl (Nat.le_of_ble_eq_true rfl) ⟨Nat.le_of_ble_eq_true rfl, Nat.le_of_ble_eq_true rfl⟩ rfl dX6_readPlanet_223 (fun r0 q0 => c_Rd_readNumber l w _ _ _ _ _ q0) (fun r68 er68 nr68 => ?_)
                          refine j_ifne C (tgt := 231) dX6_readPlanet_226 (by decide) (fun q69 => ?_) (fun q69 => ?_)
                          · refine j_iconst C (v := 0) dX6_readPlanet_229 (by decide) ?_
                            exact e_iretM C hQ hr rfl hlk dX6_readPlanet_230 (Nat.le_of_ble_eq_true rfl) (Nat.le_of_ble_eq_true rfl)
                          · refine j_aload_n C dX6_readPlanet_231 (i := 0) rfl rfl ?_
                            refine j_getI C g_X6_115 dX6_readPlanet_232 (fun v70 ev70 => ?_)
                            refine j_istore C [(6, _), (7, _), (0, _), (1, _), (3, _), (4, _), (5, _)] dX6_readPlanet_235 (by decide) rfl ?_
                            refine j_aload_n C dX6_readPlanet_237 (i := 0) rfl rfl ?_
                            refine j_getR C g_X6_21 dX6_readPlanet_238 (fun v71 ev71 => ?_)
                            refine j_kind C s_X6_129 (by decide) dX6_readPlanet_241 ?_
                            refine j_callVim C (As := [.ref _]) (rest := []) k_X6_77 ⟨Nat.le_of_ble_eq_true rfl, Nat.le_of_ble_eq_true rfl⟩ rfl (Nat.le_of_ble_eq_true rfl) ⟨Nat.le_of_ble_eq_true rfl, Nat.le_of_ble_eq_true rfl⟩ rfl dX6_readPlanet_244 (fun r0 q0 => c_Sc_take l w _ _ _ _ q0) (fun r72 er72 nr72 => ?_)
                            refine j_ifeq C (tgt := 263) dX6_readPlanet_247 (by decide) (fun q73 => ?_) (fun q73 => ?_)
                            · refine j_iconst C (v := 0) dX6_readPlanet_263 (by decide) ?_
                              exact e_iretM C hQ hr rfl hlk dX6_readPlanet_264 (Nat.le_of_ble_eq_true rfl) (Nat.le_of_ble_eq_true rfl)
                            · refine j_aload_n C dX6_readPlanet_250 (i := 0) rfl rfl ?_
                              refine j_iload C dX6_readPlanet_251 rfl ?_
                              refine j_iconst C (v := 1) dX6_readPlanet_253 (by decide) ?_
                              refine j_iadd C dX6_readPlanet_254 ?_
                              refine j_bipush C (v := 60) dX6_readPlanet_255 (by decide) ?_
                              refine j_callVim C (As := [.int _, .int _]) (rest := []) k_X6_111 ⟨Nat.le_of_ble_eq_true rfl, Nat.le_of_ble_eq_true rfl⟩ rfl (Nat.le_of_ble_eq_true rfl) ⟨Nat.le_of_ble_eq_true rfl, Nat.le_of_ble_eq_true rfl⟩ rfl dX6_readPlanet_257 (fun r0 q0 => c_Rd_readNumber l w _ _ _ _ _ q0) (fun r74 er74 nr74 => ?_)
                              refine j_ifne C (tgt := 265) dX6_readPlanet_260 (by decide) (fun q75 => ?_) (fun q75 => ?_)
                              · refine j_iconst C (v := 0) dX6_readPlanet_263 (by decide) ?_
                                exact e_iretM C hQ hr rfl hlk dX6_readPlanet_264 (Nat.le_of_ble_eq_true rfl) (Nat.le_of_ble_eq_true rfl)
                              · refine j_aload_n C dX6_readPlanet_265 (i := 0) rfl rfl ?_
                                refine j_getI C g_X6_115 dX6_readPlanet_266 (fun v76 ev76 => ?_)
                                refine j_istore C [(7, _), (6, _), (0, _), (1, _), (3, _), (4, _), (5, _)] dX6_readPlanet_269 (by decide) rfl ?_
                                exact j_sub [2, 3, 4, 5, 6, 1, 0] rfl (hj54 _ _ _)
                  · refine j_aload_n C dX6_readPlanet_133 (i := 0) rfl rfl ?_
                    refine j_getI C g_X6_115 dX6_readPlanet_134 (fun v77 ev77 => ?_)
                    refine j_istore C [(4, _), (3, _), (0, _), (1, _)] dX6_readPlanet_137 (by decide) rfl ?_
                    refine j_iconst C (v := 0) dX6_readPlanet_139 (by decide) ?_
                    refine j_istore C [(5, _), (4, _), (3, _), (0, _), (1, _)] dX6_readPlanet_140 (by decide) rfl ?_
                    refine j_aload_n C dX6_readPlanet_142 (i := 0) rfl rfl ?_
                    refine j_getR C g_X6_21 dX6_readPlanet_143 (fun v78 ev78 => ?_)
                    refine j_kind C s_X6_121 (by decide) dX6_readPlanet_146 ?_
                    refine j_callVi C (As := [.ref _]) (rest := []) k_X6_50 ⟨Nat.le_of_ble_eq_true rfl, Nat.le_of_ble_eq_true rfl⟩ rfl (Nat.le_of_ble_eq_true rfl) ⟨Nat.le_of_ble_eq_true rfl, Nat.le_of_ble_eq_true rfl⟩ rfl dX6_readPlanet_149 (fun r0 q0 => c_Sc_isAt l w _ _ _ _ q0) (fun r79 er79 nr79 => ?_)
                    refine j_ifeq C (tgt := 187) dX6_readPlanet_152 (by decide) (fun q80 => ?_) (fun q80 => ?_)
                    · exact j_sub [3, 4, 2, 1, 0] rfl (hj40 _ _ _)
                    · refine j_aload_n C dX6_readPlanet_155 (i := 0) rfl rfl ?_
                      refine j_getR C g_X6_21 dX6_readPlanet_156 (fun v81 ev81 => ?_)
                      refine j_kind C s_X6_121 (by decide) dX6_readPlanet_159 ?_
                      refine j_callVim C (As := [.ref _]) (rest := []) k_X6_77 ⟨Nat.le_of_ble_eq_true rfl, Nat.le_of_ble_eq_true rfl⟩ rfl (Nat.le_of_ble_eq_true rfl) ⟨Nat.le_of_ble_eq_true rfl, Nat.le_of_ble_eq_true rfl⟩ rfl dX6_readPlanet_162 (fun r0 q0 => c_Sc_take l w _ _ _ _ q0) (fun r82 er82 nr82 => ?_)
                      refine j_ifeq C (tgt := 179) dX6_readPlanet_165 (by decide) (fun q83 => ?_) (fun q83 => ?_)
                      · refine j_iconst C (v := 0) dX6_readPlanet_179 (by decide) ?_
                        exact e_iretM C hQ hr rfl hlk dX6_readPlanet_180 (Nat.le_of_ble_eq_true rfl) (Nat.le_of_ble_eq_true rfl)
                      · refine j_aload_n C dX6_readPlanet_168 (i := 0) rfl rfl ?_
                        refine j_iconst C (v := 0) dX6_readPlanet_169 (by decide) ?_
                        refine j_sipush C (v := 359) dX6_readPlanet_170 (by decide) ?_
                        refine j_callVim C (As := [.int _, .int _]) (rest := []) k_X6_111 ⟨Nat.le_of_ble_eq_true rfl, Nat.le_of_ble_eq_true rfl⟩ rfl (Nat.le_of_ble_eq_true rfl) ⟨Nat.le_of_ble_eq_true rfl, Nat.le_of_ble_eq_true rfl⟩ rfl dX6_readPlanet_173 (fun r0 q0 => c_Rd_readNumber l w _ _ _ _ _ q0) (fun r84 er84 nr84 => ?_)
                        refine j_ifne C (tgt := 181) dX6_readPlanet_176 (by decide) (fun q85 => ?_) (fun q85 => ?_)
                        · refine j_iconst C (v := 0) dX6_readPlanet_179 (by decide) ?_
                          exact e_iretM C hQ hr rfl hlk dX6_readPlanet_180 (Nat.le_of_ble_eq_true rfl) (Nat.le_of_ble_eq_true rfl)
                        · refine j_aload_n C dX6_readPlanet_181 (i := 0) rfl rfl ?_
                          refine j_getI C g_X6_115 dX6_readPlanet_182 (fun v86 ev86 => ?_)
                          refine j_istore C [(5, _), (4, _), (3, _), (0, _), (1, _)] dX6_readPlanet_185 (by decide) rfl ?_
                          exact j_sub [3, 4, 2, 1, 0] rfl (hj40 _ _ _)
      · refine j_aload_n C dX6_readPlanet_28 (i := 0) rfl rfl ?_
        refine j_getR C g_X6_21 dX6_readPlanet_29 (fun v87 ev87 => ?_)
        refine j_callVl C (As := []) (rest := []) k_X6_93 ⟨Nat.le_of_ble_eq_true rfl, Nat.le_of_ble_eq_true rfl⟩ rfl (Nat.le_of_ble_eq_true rfl) ⟨Nat.le_of_ble_eq_true rfl, Nat.le_of_ble_eq_true rfl⟩ rfl dX6_readPlanet_32 (fun r0 q0 => c_Sc_word l w _ _ _ q0) (fun r88 er88 nr88 => ?_)
        refine j_lstore_n C [(1, _), (0, _)] dX6_readPlanet_35 (i := 1) rfl (by decide) rfl ?_
        refine j_aload_n C dX6_readPlanet_36 (i := 0) rfl rfl ?_
        refine j_aload_n C dX6_readPlanet_37 (i := 0) rfl rfl ?_
        refine j_getR C g_X6_25 dX6_readPlanet_38 (fun v89 ev89 => ?_)
        refine j_lload_n C dX6_readPlanet_41 (i := 1) rfl rfl ?_
        refine j_callVi C (As := [.long _]) (rest := [_]) k_X6_97 ⟨Nat.le_of_ble_eq_true rfl, Nat.le_of_ble_eq_true rfl⟩ rfl (Nat.le_of_ble_eq_true rfl) ⟨Nat.le_of_ble_eq_true rfl, Nat.le_of_ble_eq_true rfl⟩ rfl dX6_readPlanet_42 (fun r0 q0 => c_Bk_planetNamed l w fl _ _ _ _ q0) (fun r90 er90 nr90 => ?_)
        refine j_aload_n C dX6_readPlanet_45 (i := 0) rfl rfl ?_
        refine j_getR C g_X6_25 dX6_readPlanet_46 (fun v91 ev91 => ?_)
        refine j_callVi C (As := []) (rest := [_, _]) k_X6_101 ⟨Nat.le_of_ble_eq_true rfl, Nat.le_of_ble_eq_true rfl⟩ rfl (Nat.le_of_ble_eq_true rfl) ⟨Nat.le_of_ble_eq_true rfl, Nat.le_of_ble_eq_true rfl⟩ rfl dX6_readPlanet_49 (fun r0 q0 => c_Bk_planets l w _ _ _ q0) (fun r92 er92 nr92 => ?_)
        refine j_bipush C (v := 8) dX6_readPlanet_52 (by decide) ?_
        refine j_icmpge C (tgt := 61) dX6_readPlanet_54 (by decide) (fun q93 => ?_) (fun q93 => ?_)
        · refine j_iconst C (v := 0) dX6_readPlanet_61 (by decide) ?_
          exact j_sub [1, 0] rfl (hj13 _ _ _ _)
        · refine j_iconst C (v := 1) dX6_readPlanet_57 (by decide) ?_
          refine j_goto C (tgt := 62) dX6_readPlanet_58 (by decide) ?_
          exact j_sub [1, 0] rfl (hj13 _ _ _ _)
def f_Rd_readLetters_b9 (fl : Nat) (a0 : Nat) : Nat → Int32 → hp_M → Option (hp_M)
  | 0, _, _ => none
  | n + 1, x1, h => if 12 ≤ x1 then (some h) else ((gR h a0 5 0).bind fun v1004 => (onO h v1004 6 (f_Sc_length v1004 h)).bind fun r1005 => if r1005 ≤ x1 then (some h) else (jn (fun (u1016 : Int32) (h1017 : hp_M) => (gR h1017 a0 5 1).bind fun v1018 => (onO h1017 v1018 0 (f_Al_add v1018 u1016 h1017)).bind fun h1019 => f_Rd_readLetters_b9 fl a0 n (x1 + 1) h1019) fun (j1015 : Int32 → hp_M → Option (hp_M)) => jn (fun (u1026 : Int32) => (gR h a0 5 0).bind fun v1027 => (onO h v1027 6 (f_Sc_start v1027 h)).bind fun r1028 => (onO h a0 5 (f_Rd_blame a0 7 r1028 h)).bind fun h1029 => j1015 u1026 h1029) fun (j1025 : Int32 → Option (hp_M)) => (gR h a0 5 0).bind fun v1030 => (onO h v1030 6 (f_Sc_signAt v1030 x1 h)).bind fun r1031 => (f_Sc_isDigit r1031 h).bind fun r1032 => if r1032 = 0 then ((gR h a0 5 1).bind fun v1034 => (onO h v1034 0 (f_Al_numberOf fl v1034 r1031 h)).bind fun r1035 => if r1035 < 0 then (j1015 r1031 h) else (j1025 r1031)) else (j1025 r1031)))
def f_Rd_readLetters (fl : Nat) (a0 : Nat) (h : hp_M) : Option (hp_M) := (gR h a0 5 1).bind fun v1 => (onO h v1 0 (f_Al_empty v1 h)).bind fun h2 => f_Rd_readLetters_b9 fl a0 fl 0 h2
set_option maxRecDepth 100000 in
set_option maxHeartbeats 4000000 in
theorem b_Rd_readLetters_9 {p : Program} {l : Launch} {e : Env} {s : State} {m : MethodId} {args : Array Value} {below : List Frame} {meth : Method} {c : Code} {Q : State → Prop} {w : hp_W} {out : hp_M} (fl : Nat)   (a0 : Nat) (C : Cx p m c cX6_readLetters 3 s args RX6 w) (hr : meth.sig.returnType = none) (hlk : meth.locks = false) (hnm : meth.name = "readLetters") (hQ : QM below w args s ({ frames := 2, cells := 0, slots := 0, locals := 42 }) none none out = Q)  : ∀ (n : Nat) (x1 : Int32) (h : hp_M), J p l e ({ frames := 2, cells := 0, slots := 0, locals := 42 }) s m args below meth c Q w 3 0 0 9 [(0, .ref a0), (1, .int x1)] [] h (f_Rd_readLetters_b9 fl a0 n x1 h) out := by
  intro n
  induction n with
  | zero => intro x1 h; exact j_none
  | succ n ih =>
    intro x1 h
    rw [f_Rd_readLetters_b9]
    refine j_iload_n C dX6_readLetters_9 (i := 1) rfl rfl ?_
    refine j_bipush C (v := 12) dX6_readLetters_10 (by decide) ?_
    refine j_icmpge C (tgt := 80) dX6_readLetters_12 (by decide) (fun q1003 => ?_) (fun q1003 => ?_)
    · exact e_vretM C hQ hr hlk dX6_readLetters_80 (Nat.le_of_ble_eq_true rfl) (Nat.le_of_ble_eq_true rfl)
    · refine j_iload_n C dX6_readLetters_15 (i := 1) rfl rfl ?_
      refine j_aload_n C dX6_readLetters_16 (i := 0) rfl rfl ?_
      refine j_getR C g_X6_21 dX6_readLetters_17 (fun v1004 ev1004 => ?_)
      refine j_callVi C (As := []) (rest := [_]) k_X6_153 ⟨Nat.le_of_ble_eq_true rfl, Nat.le_of_ble_eq_true rfl⟩ rfl (Nat.le_of_ble_eq_true rfl) ⟨Nat.le_of_ble_eq_true rfl, Nat.le_of_ble_eq_true rfl⟩ rfl dX6_readLetters_20 (fun r0 q0 => c_Sc_length l w _ _ _ q0) (fun r1005 er1005 nr1005 => ?_)
      refine j_icmpge C (tgt := 80) dX6_readLetters_23 (by decide) (fun q1006 => ?_) (fun q1006 => ?_)
      · exact e_vretM C hQ hr hlk dX6_readLetters_80 (Nat.le_of_ble_eq_true rfl) (Nat.le_of_ble_eq_true rfl)
      · refine j_jn (P := fun (j1015 : Int32 → hp_M → Option (hp_M)) => ∀ (u1016 : Int32) (h1017 : hp_M), J p l e ({ frames := 2, cells := 0, slots := 0, locals := 42 }) s m args below meth c Q w 3 0 0 66 [(0, .ref a0), (1, .int x1), (2, .int u1016)] [] h1017 (j1015 u1016 h1017) out) ?_ (fun j1015 hj1015 => ?_)
        · intro u1016 h1017
          refine j_aload_n C dX6_readLetters_66 (i := 0) rfl rfl ?_
          refine j_getR C g_X6_10 dX6_readLetters_67 (fun v1018 ev1018 => ?_)
          refine j_iload_n C dX6_readLetters_70 (i := 2) rfl rfl ?_
          refine j_callVv C (As := [.int _]) (rest := []) k_X6_171 ⟨Nat.le_of_ble_eq_true rfl, Nat.le_of_ble_eq_true rfl⟩ rfl (Nat.le_of_ble_eq_true rfl) ⟨Nat.le_of_ble_eq_true rfl, Nat.le_of_ble_eq_true rfl⟩ rfl dX6_readLetters_71 (fun r0 q0 => c_Al_add l w _ _ _ _ q0) (fun h1019 eh1019 _ => ?_)
          refine j_iinc C (v := x1 + 1) [(1, _), (0, _), (2, _)] dX6_readLetters_74 rfl rfl (by decide) rfl ?_
          refine j_goto C (tgt := 9) dX6_readLetters_77 (by decide) ?_
          exact j_sub [1, 0] rfl (ih _ _)
        · refine j_jn (P := fun (j1025 : Int32 → Option (hp_M)) => ∀ (u1026 : Int32), J p l e ({ frames := 2, cells := 0, slots := 0, locals := 42 }) s m args below meth c Q w 3 0 0 53 [(0, .ref a0), (1, .int x1), (2, .int u1026)] [] h (j1025 u1026) out) ?_ (fun j1025 hj1025 => ?_)
          · intro u1026
            refine j_aload_n C dX6_readLetters_53 (i := 0) rfl rfl ?_
            refine j_bipush C (v := 7) dX6_readLetters_54 (by decide) ?_
            refine j_aload_n C dX6_readLetters_56 (i := 0) rfl rfl ?_
            refine j_getR C g_X6_21 dX6_readLetters_57 (fun v1027 ev1027 => ?_)
            refine j_callVi C (As := []) (rest := [_, _]) k_X6_73 ⟨Nat.le_of_ble_eq_true rfl, Nat.le_of_ble_eq_true rfl⟩ rfl (Nat.le_of_ble_eq_true rfl) ⟨Nat.le_of_ble_eq_true rfl, Nat.le_of_ble_eq_true rfl⟩ rfl dX6_readLetters_60 (fun r0 q0 => c_Sc_start l w _ _ _ q0) (fun r1028 er1028 nr1028 => ?_)
            refine j_callVv C (As := [.int _, .int _]) (rest := []) k_X6_167 ⟨Nat.le_of_ble_eq_true rfl, Nat.le_of_ble_eq_true rfl⟩ rfl (Nat.le_of_ble_eq_true rfl) ⟨Nat.le_of_ble_eq_true rfl, Nat.le_of_ble_eq_true rfl⟩ rfl dX6_readLetters_63 (fun r0 q0 => c_Rd_blame l w _ _ _ _ _ q0) (fun h1029 eh1029 _ => ?_)
            exact hj1015 _ _
          · refine j_aload_n C dX6_readLetters_26 (i := 0) rfl rfl ?_
            refine j_getR C g_X6_21 dX6_readLetters_27 (fun v1030 ev1030 => ?_)
            refine j_iload_n C dX6_readLetters_30 (i := 1) rfl rfl ?_
            refine j_callVi C (As := [.int _]) (rest := []) k_X6_156 ⟨Nat.le_of_ble_eq_true rfl, Nat.le_of_ble_eq_true rfl⟩ rfl (Nat.le_of_ble_eq_true rfl) ⟨Nat.le_of_ble_eq_true rfl, Nat.le_of_ble_eq_true rfl⟩ rfl dX6_readLetters_31 (fun r0 q0 => c_Sc_signAt l w _ _ _ _ q0) (fun r1031 er1031 nr1031 => ?_)
            refine j_istore_n C [(2, _), (0, _), (1, _)] dX6_readLetters_34 (i := 2) rfl (by decide) rfl ?_
            refine j_iload_n C dX6_readLetters_35 (i := 2) rfl rfl ?_
            refine j_callSi C (As := [.int _]) (rest := []) k_X6_160 ⟨Nat.le_of_ble_eq_true rfl, Nat.le_of_ble_eq_true rfl⟩ rfl (Nat.le_of_ble_eq_true rfl) ⟨Nat.le_of_ble_eq_true rfl, Nat.le_of_ble_eq_true rfl⟩ rfl dX6_readLetters_36 (fun r0 q0 => c_Sc_isDigit l w _ _ _ q0) (fun r1032 er1032 nr1032 => ?_)
            refine j_ifne C (tgt := 53) dX6_readLetters_39 (by decide) (fun q1033 => ?_) (fun q1033 => ?_)
            · refine j_aload_n C dX6_readLetters_42 (i := 0) rfl rfl ?_
              refine j_getR C g_X6_10 dX6_readLetters_43 (fun v1034 ev1034 => ?_)
              refine j_iload_n C dX6_readLetters_46 (i := 2) rfl rfl ?_
              refine j_callVi C (As := [.int _]) (rest := []) k_X6_164 ⟨Nat.le_of_ble_eq_true rfl, Nat.le_of_ble_eq_true rfl⟩ rfl (Nat.le_of_ble_eq_true rfl) ⟨Nat.le_of_ble_eq_true rfl, Nat.le_of_ble_eq_true rfl⟩ rfl dX6_readLetters_47 (fun r0 q0 => c_Al_numberOf l w fl _ _ _ _ q0) (fun r1035 er1035 nr1035 => ?_)
              refine j_iflt C (tgt := 66) dX6_readLetters_50 (by decide) (fun q1036 => ?_) (fun q1036 => ?_)
              · exact j_sub [1, 2, 0] rfl (hj1015 _ _)
              · exact j_sub [1, 2, 0] rfl (hj1025 _)
            · exact j_sub [1, 2, 0] rfl (hj1025 _)
set_option maxRecDepth 100000 in
set_option maxHeartbeats 4000000 in
theorem c_Rd_readLetters (l : Launch) (w : hp_W) (fl : Nat) (a0 : Nat) (h : hp_M) (out : hp_M) (hX : f_Rd_readLetters fl a0 h = some out) : CT l w yX6_readLetters cX6_readLetters 3 none ({ frames := 2, cells := 0, slots := 0, locals := 42 }) [.ref a0] h none out := by
  unfold f_Rd_readLetters at hX
  refine ct_of (by decide +kernel) (Nat.le_of_ble_eq_true rfl) hX ?_
  intro p e s m args below meth c Q C hr hlk hnm hQ
  refine j_aload_n C dX6_readLetters_0 (i := 0) rfl rfl ?_
  refine j_getR C g_X6_10 dX6_readLetters_1 (fun v1 ev1 => ?_)
  refine j_callVv C (As := []) (rest := []) k_X6_152 ⟨Nat.le_of_ble_eq_true rfl, Nat.le_of_ble_eq_true rfl⟩ rfl (Nat.le_of_ble_eq_true rfl) ⟨Nat.le_of_ble_eq_true rfl, Nat.le_of_ble_eq_true rfl⟩ rfl dX6_readLetters_4 (fun r0 q0 => c_Al_empty l w _ _ _ q0) (fun h2 eh2 _ => ?_)
  refine j_iconst C (v := 0) dX6_readLetters_7 (by decide) ?_
  refine j_istore_n C [(1, _), (0, _)] dX6_readLetters_8 (i := 1) rfl (by decide) rfl ?_
  refine j_sub [1, 0] rfl (b_Rd_readLetters_9 fl  _ C hr hlk hnm hQ  _ _ _)
def f_Rd_readAlphabet (w : hp_W) (fl : Nat) (a0 : Nat) (h : hp_M) : Option (Int32 × hp_M) := (gR h a0 5 0).bind fun v1 => (onO h v1 6 (f_Sc_take v1 (w_kd w 10) h)).bind fun r2 => if r2.1 = 0 then (some (0, r2.2)) else ((gR r2.2 a0 5 0).bind fun v4 => (onO r2.2 v4 6 (f_Sc_isAt v4 (w_kd w 2) r2.2)).bind fun r5 => if r5 = 0 then (some (0, r2.2)) else (jn (fun (u14 : Int64) (u15 : Int32) (u16 : Int32) (u17 : Nat) => (onO r2.2 u17 5 (f_Rd_checkNewName u17 u16 u15 r2.2)).bind fun h18 => (gR h18 a0 5 0).bind fun v19 => (onO h18 v19 6 (f_Sc_take v19 (w_kd w 2) h18)).bind fun r20 => if r20.1 = 0 then (some (0, r20.2)) else ((gR r20.2 a0 5 0).bind fun v22 => (onO r20.2 v22 6 (f_Sc_isAt v22 (w_kd w 2) r20.2)).bind fun r23 => if r23 = 0 then (some (0, r20.2)) else (jn (fun (h34 : hp_M) => some (0, h34)) fun (j33 : hp_M → Option (Int32 × hp_M)) => (onO r20.2 a0 5 (f_Rd_readLetters fl a0 r20.2)).bind fun h35 => (gR h35 a0 5 2).bind fun v36 => (gR h35 a0 5 1).bind fun v37 => (onO h35 v36 1 (f_Bk_addAlphabet v36 u14 v37 h35)).bind fun h38 => (gR h38 a0 5 0).bind fun v39 => (onO h38 v39 6 (f_Sc_take v39 (w_kd w 2) h38)).bind fun r40 => if r40.1 = 0 then (j33 r40.2) else ((gR r40.2 a0 5 0).bind fun v42 => (onO r40.2 v42 6 (f_Sc_take v42 (w_kd w 30) r40.2)).bind fun r43 => if r43.1 = 0 then (j33 r43.2) else (some (1, r43.2)))))) fun (j13 : Int64 → Int32 → Int32 → Nat → Option (Int32 × hp_M)) => (gR r2.2 a0 5 0).bind fun v45 => (onO r2.2 v45 6 (f_Sc_word v45 r2.2)).bind fun r46 => (gR r2.2 a0 5 2).bind fun v47 => (onO r2.2 v47 1 (f_Bk_alphabetNamed fl v47 r46 r2.2)).bind fun r48 => (gR r2.2 a0 5 2).bind fun v49 => (onO r2.2 v49 1 (f_Bk_alphabets v49 r2.2)).bind fun r50 => if 6 ≤ r50 then (j13 r46 0 r48 a0) else (j13 r46 1 r48 a0)))
set_option maxRecDepth 100000 in
set_option maxHeartbeats 4000000 in
theorem c_Rd_readAlphabet (l : Launch) (w : hp_W) (fl : Nat) (a0 : Nat) (h : hp_M) (out : Int32 × hp_M) (hX : f_Rd_readAlphabet w fl a0 h = some out) : CT l w yX6_readAlphabet cX6_readAlphabet 3 (some .boolean) ({ frames := 8, cells := 0, slots := 0, locals := 244 }) [.ref a0] h (some (.int out.1)) out.2 := by
  unfold f_Rd_readAlphabet at hX
  refine ct_of (by decide +kernel) (Nat.le_of_ble_eq_true rfl) hX ?_
  intro p e s m args below meth c Q C hr hlk hnm hQ
  refine j_aload_n C dX6_readAlphabet_0 (i := 0) rfl rfl ?_
  refine j_getR C g_X6_21 dX6_readAlphabet_1 (fun v1 ev1 => ?_)
  refine j_kind C s_X6_61 (by decide) dX6_readAlphabet_4 ?_
  refine j_callVim C (As := [.ref _]) (rest := []) k_X6_77 ⟨Nat.le_of_ble_eq_true rfl, Nat.le_of_ble_eq_true rfl⟩ rfl (Nat.le_of_ble_eq_true rfl) ⟨Nat.le_of_ble_eq_true rfl, Nat.le_of_ble_eq_true rfl⟩ rfl dX6_readAlphabet_7 (fun r0 q0 => c_Sc_take l w _ _ _ _ q0) (fun r2 er2 nr2 => ?_)
  refine j_ifeq C (tgt := 26) dX6_readAlphabet_10 (by decide) (fun q3 => ?_) (fun q3 => ?_)
  · refine j_iconst C (v := 0) dX6_readAlphabet_26 (by decide) ?_
    exact e_iretM C hQ hr rfl hlk dX6_readAlphabet_27 (Nat.le_of_ble_eq_true rfl) (Nat.le_of_ble_eq_true rfl)
  · refine j_aload_n C dX6_readAlphabet_13 (i := 0) rfl rfl ?_
    refine j_getR C g_X6_21 dX6_readAlphabet_14 (fun v4 ev4 => ?_)
    refine j_kind C s_X6_90 (by decide) dX6_readAlphabet_17 ?_
    refine j_callVi C (As := [.ref _]) (rest := []) k_X6_50 ⟨Nat.le_of_ble_eq_true rfl, Nat.le_of_ble_eq_true rfl⟩ rfl (Nat.le_of_ble_eq_true rfl) ⟨Nat.le_of_ble_eq_true rfl, Nat.le_of_ble_eq_true rfl⟩ rfl dX6_readAlphabet_20 (fun r0 q0 => c_Sc_isAt l w _ _ _ _ q0) (fun r5 er5 nr5 => ?_)
    refine j_ifne C (tgt := 28) dX6_readAlphabet_23 (by decide) (fun q6 => ?_) (fun q6 => ?_)
    · refine j_iconst C (v := 0) dX6_readAlphabet_26 (by decide) ?_
      exact e_iretM C hQ hr rfl hlk dX6_readAlphabet_27 (Nat.le_of_ble_eq_true rfl) (Nat.le_of_ble_eq_true rfl)
    · refine j_jn (P := fun (j13 : Int64 → Int32 → Int32 → Nat → Option (Int32 × hp_M)) => ∀ (u14 : Int64) (u15 : Int32) (u16 : Int32) (u17 : Nat), J p l e ({ frames := 8, cells := 0, slots := 0, locals := 244 }) s m args below meth c Q w 3 0 0 62 [(0, .ref a0), (1, .long u14)] [.int u15, .int u16, .ref u17] r2.2 (j13 u14 u15 u16 u17) out) ?_ (fun j13 hj13 => ?_)
      · intro u14 u15 u16 u17
        refine j_callVv C (As := [.int _, .int _]) (rest := []) k_X6_104 ⟨Nat.le_of_ble_eq_true rfl, Nat.le_of_ble_eq_true rfl⟩ rfl (Nat.le_of_ble_eq_true rfl) ⟨Nat.le_of_ble_eq_true rfl, Nat.le_of_ble_eq_true rfl⟩ rfl dX6_readAlphabet_62 (fun r0 q0 => c_Rd_checkNewName l w _ _ _ _ _ q0) (fun h18 eh18 _ => ?_)
        refine j_aload_n C dX6_readAlphabet_65 (i := 0) rfl rfl ?_
        refine j_getR C g_X6_21 dX6_readAlphabet_66 (fun v19 ev19 => ?_)
        refine j_kind C s_X6_90 (by decide) dX6_readAlphabet_69 ?_
        refine j_callVim C (As := [.ref _]) (rest := []) k_X6_77 ⟨Nat.le_of_ble_eq_true rfl, Nat.le_of_ble_eq_true rfl⟩ rfl (Nat.le_of_ble_eq_true rfl) ⟨Nat.le_of_ble_eq_true rfl, Nat.le_of_ble_eq_true rfl⟩ rfl dX6_readAlphabet_72 (fun r0 q0 => c_Sc_take l w _ _ _ _ q0) (fun r20 er20 nr20 => ?_)
        refine j_ifeq C (tgt := 91) dX6_readAlphabet_75 (by decide) (fun q21 => ?_) (fun q21 => ?_)
        · refine j_iconst C (v := 0) dX6_readAlphabet_91 (by decide) ?_
          exact e_iretM C hQ hr rfl hlk dX6_readAlphabet_92 (Nat.le_of_ble_eq_true rfl) (Nat.le_of_ble_eq_true rfl)
        · refine j_aload_n C dX6_readAlphabet_78 (i := 0) rfl rfl ?_
          refine j_getR C g_X6_21 dX6_readAlphabet_79 (fun v22 ev22 => ?_)
          refine j_kind C s_X6_90 (by decide) dX6_readAlphabet_82 ?_
          refine j_callVi C (As := [.ref _]) (rest := []) k_X6_50 ⟨Nat.le_of_ble_eq_true rfl, Nat.le_of_ble_eq_true rfl⟩ rfl (Nat.le_of_ble_eq_true rfl) ⟨Nat.le_of_ble_eq_true rfl, Nat.le_of_ble_eq_true rfl⟩ rfl dX6_readAlphabet_85 (fun r0 q0 => c_Sc_isAt l w _ _ _ _ q0) (fun r23 er23 nr23 => ?_)
          refine j_ifne C (tgt := 93) dX6_readAlphabet_88 (by decide) (fun q24 => ?_) (fun q24 => ?_)
          · refine j_iconst C (v := 0) dX6_readAlphabet_91 (by decide) ?_
            exact e_iretM C hQ hr rfl hlk dX6_readAlphabet_92 (Nat.le_of_ble_eq_true rfl) (Nat.le_of_ble_eq_true rfl)
          · refine j_jn (P := fun (j33 : hp_M → Option (Int32 × hp_M)) => ∀ (h34 : hp_M), J p l e ({ frames := 8, cells := 0, slots := 0, locals := 244 }) s m args below meth c Q w 3 0 0 139 [] [] h34 (j33 h34) out) ?_ (fun j33 hj33 => ?_)
            · intro h34
              refine j_iconst C (v := 0) dX6_readAlphabet_139 (by decide) ?_
              exact e_iretM C hQ hr rfl hlk dX6_readAlphabet_140 (Nat.le_of_ble_eq_true rfl) (Nat.le_of_ble_eq_true rfl)
            · refine j_aload_n C dX6_readAlphabet_93 (i := 0) rfl rfl ?_
              refine j_callVv C (As := []) (rest := []) k_X6_145 ⟨Nat.le_of_ble_eq_true rfl, Nat.le_of_ble_eq_true rfl⟩ rfl (Nat.le_of_ble_eq_true rfl) ⟨Nat.le_of_ble_eq_true rfl, Nat.le_of_ble_eq_true rfl⟩ rfl dX6_readAlphabet_94 (fun r0 q0 => c_Rd_readLetters l w fl _ _ _ q0) (fun h35 eh35 _ => ?_)
              refine j_aload_n C dX6_readAlphabet_97 (i := 0) rfl rfl ?_
              refine j_getR C g_X6_25 dX6_readAlphabet_98 (fun v36 ev36 => ?_)
              refine j_lload_n C dX6_readAlphabet_101 (i := 1) rfl rfl ?_
              refine j_aload_n C dX6_readAlphabet_102 (i := 0) rfl rfl ?_
              refine j_getR C g_X6_10 dX6_readAlphabet_103 (fun v37 ev37 => ?_)
              refine j_callVv C (As := [.long _, .ref _]) (rest := []) k_X6_148 ⟨Nat.le_of_ble_eq_true rfl, Nat.le_of_ble_eq_true rfl⟩ rfl (Nat.le_of_ble_eq_true rfl) ⟨Nat.le_of_ble_eq_true rfl, Nat.le_of_ble_eq_true rfl⟩ rfl dX6_readAlphabet_106 (fun r0 q0 => c_Bk_addAlphabet l w _ _ _ _ _ q0) (fun h38 eh38 _ => ?_)
              refine j_aload_n C dX6_readAlphabet_109 (i := 0) rfl rfl ?_
              refine j_getR C g_X6_21 dX6_readAlphabet_110 (fun v39 ev39 => ?_)
              refine j_kind C s_X6_90 (by decide) dX6_readAlphabet_113 ?_
              refine j_callVim C (As := [.ref _]) (rest := []) k_X6_77 ⟨Nat.le_of_ble_eq_true rfl, Nat.le_of_ble_eq_true rfl⟩ rfl (Nat.le_of_ble_eq_true rfl) ⟨Nat.le_of_ble_eq_true rfl, Nat.le_of_ble_eq_true rfl⟩ rfl dX6_readAlphabet_116 (fun r0 q0 => c_Sc_take l w _ _ _ _ q0) (fun r40 er40 nr40 => ?_)
              refine j_ifeq C (tgt := 139) dX6_readAlphabet_119 (by decide) (fun q41 => ?_) (fun q41 => ?_)
              · exact j_sub [] rfl (hj33 _)
              · refine j_aload_n C dX6_readAlphabet_122 (i := 0) rfl rfl ?_
                refine j_getR C g_X6_21 dX6_readAlphabet_123 (fun v42 ev42 => ?_)
                refine j_kind C s_X6_136 (by decide) dX6_readAlphabet_126 ?_
                refine j_callVim C (As := [.ref _]) (rest := []) k_X6_77 ⟨Nat.le_of_ble_eq_true rfl, Nat.le_of_ble_eq_true rfl⟩ rfl (Nat.le_of_ble_eq_true rfl) ⟨Nat.le_of_ble_eq_true rfl, Nat.le_of_ble_eq_true rfl⟩ rfl dX6_readAlphabet_129 (fun r0 q0 => c_Sc_take l w _ _ _ _ q0) (fun r43 er43 nr43 => ?_)
                refine j_ifeq C (tgt := 139) dX6_readAlphabet_132 (by decide) (fun q44 => ?_) (fun q44 => ?_)
                · exact j_sub [] rfl (hj33 _)
                · refine j_iconst C (v := 1) dX6_readAlphabet_135 (by decide) ?_
                  refine j_goto C (tgt := 140) dX6_readAlphabet_136 (by decide) ?_
                  exact e_iretM C hQ hr rfl hlk dX6_readAlphabet_140 (Nat.le_of_ble_eq_true rfl) (Nat.le_of_ble_eq_true rfl)
      · refine j_aload_n C dX6_readAlphabet_28 (i := 0) rfl rfl ?_
        refine j_getR C g_X6_21 dX6_readAlphabet_29 (fun v45 ev45 => ?_)
        refine j_callVl C (As := []) (rest := []) k_X6_93 ⟨Nat.le_of_ble_eq_true rfl, Nat.le_of_ble_eq_true rfl⟩ rfl (Nat.le_of_ble_eq_true rfl) ⟨Nat.le_of_ble_eq_true rfl, Nat.le_of_ble_eq_true rfl⟩ rfl dX6_readAlphabet_32 (fun r0 q0 => c_Sc_word l w _ _ _ q0) (fun r46 er46 nr46 => ?_)
        refine j_lstore_n C [(1, _), (0, _)] dX6_readAlphabet_35 (i := 1) rfl (by decide) rfl ?_
        refine j_aload_n C dX6_readAlphabet_36 (i := 0) rfl rfl ?_
        refine j_aload_n C dX6_readAlphabet_37 (i := 0) rfl rfl ?_
        refine j_getR C g_X6_25 dX6_readAlphabet_38 (fun v47 ev47 => ?_)
        refine j_lload_n C dX6_readAlphabet_41 (i := 1) rfl rfl ?_
        refine j_callVi C (As := [.long _]) (rest := [_]) k_X6_139 ⟨Nat.le_of_ble_eq_true rfl, Nat.le_of_ble_eq_true rfl⟩ rfl (Nat.le_of_ble_eq_true rfl) ⟨Nat.le_of_ble_eq_true rfl, Nat.le_of_ble_eq_true rfl⟩ rfl dX6_readAlphabet_42 (fun r0 q0 => c_Bk_alphabetNamed l w fl _ _ _ _ q0) (fun r48 er48 nr48 => ?_)
        refine j_aload_n C dX6_readAlphabet_45 (i := 0) rfl rfl ?_
        refine j_getR C g_X6_25 dX6_readAlphabet_46 (fun v49 ev49 => ?_)
        refine j_callVi C (As := []) (rest := [_, _]) k_X6_142 ⟨Nat.le_of_ble_eq_true rfl, Nat.le_of_ble_eq_true rfl⟩ rfl (Nat.le_of_ble_eq_true rfl) ⟨Nat.le_of_ble_eq_true rfl, Nat.le_of_ble_eq_true rfl⟩ rfl dX6_readAlphabet_49 (fun r0 q0 => c_Bk_alphabets l w _ _ _ q0) (fun r50 er50 nr50 => ?_)
        refine j_bipush C (v := 6) dX6_readAlphabet_52 (by decide) ?_
        refine j_icmpge C (tgt := 61) dX6_readAlphabet_54 (by decide) (fun q51 => ?_) (fun q51 => ?_)
        · refine j_iconst C (v := 0) dX6_readAlphabet_61 (by decide) ?_
          exact j_sub [1, 0] rfl (hj13 _ _ _ _)
        · refine j_iconst C (v := 1) dX6_readAlphabet_57 (by decide) ?_
          refine j_goto C (tgt := 62) dX6_readAlphabet_58 (by decide) ?_
          exact j_sub [1, 0] rfl (hj13 _ _ _ _)
def f_Rd_takeDeeper (a0 : Nat) (a1 : Nat) (x2 : Int32) (h : hp_M) : Option (Int32 × hp_M) := jn (fun (h4 : hp_M) => some (0, h4)) fun (j3 : hp_M → Option (Int32 × hp_M)) => if 8 ≤ x2 then (j3 h) else ((gR h a0 5 0).bind fun v6 => (onO h v6 6 (f_Sc_take v6 a1 h)).bind fun r7 => if r7.1 = 0 then (j3 r7.2) else (some (1, r7.2)))
set_option maxRecDepth 100000 in
set_option maxHeartbeats 4000000 in
theorem c_Rd_takeDeeper (l : Launch) (w : hp_W) (a0 : Nat) (a1 : Nat) (x2 : Int32) (h : hp_M) (out : Int32 × hp_M) (hX : f_Rd_takeDeeper a0 a1 x2 h = some out) : CT l w yX6_takeDeeper cX6_takeDeeper 3 (some .boolean) ({ frames := 1, cells := 0, slots := 0, locals := 21 }) [.ref a0, .ref a1, .int x2] h (some (.int out.1)) out.2 := by
  unfold f_Rd_takeDeeper at hX
  refine ct_of (by decide +kernel) (Nat.le_of_ble_eq_true rfl) hX ?_
  intro p e s m args below meth c Q C hr hlk hnm hQ
  refine j_jn (P := fun (j3 : hp_M → Option (Int32 × hp_M)) => ∀ (h4 : hp_M), J p l e ({ frames := 1, cells := 0, slots := 0, locals := 21 }) s m args below meth c Q w 3 0 0 21 [] [] h4 (j3 h4) out) ?_ (fun j3 hj3 => ?_)
  · intro h4
    refine j_iconst C (v := 0) dX6_takeDeeper_21 (by decide) ?_
    exact e_iretM C hQ hr rfl hlk dX6_takeDeeper_22 (Nat.le_of_ble_eq_true rfl) (Nat.le_of_ble_eq_true rfl)
  · refine j_iload_n C dX6_takeDeeper_0 (i := 2) rfl rfl ?_
    refine j_bipush C (v := 8) dX6_takeDeeper_1 (by decide) ?_
    refine j_icmpge C (tgt := 21) dX6_takeDeeper_3 (by decide) (fun q5 => ?_) (fun q5 => ?_)
    · exact j_sub [] rfl (hj3 _)
    · refine j_aload_n C dX6_takeDeeper_6 (i := 0) rfl rfl ?_
      refine j_getR C g_X6_21 dX6_takeDeeper_7 (fun v6 ev6 => ?_)
      refine j_aload_n C dX6_takeDeeper_10 (i := 1) rfl rfl ?_
      refine j_callVim C (As := [.ref _]) (rest := []) k_X6_77 ⟨Nat.le_of_ble_eq_true rfl, Nat.le_of_ble_eq_true rfl⟩ rfl (Nat.le_of_ble_eq_true rfl) ⟨Nat.le_of_ble_eq_true rfl, Nat.le_of_ble_eq_true rfl⟩ rfl dX6_takeDeeper_11 (fun r0 q0 => c_Sc_take l w _ _ _ _ q0) (fun r7 er7 nr7 => ?_)
      refine j_ifeq C (tgt := 21) dX6_takeDeeper_14 (by decide) (fun q8 => ?_) (fun q8 => ?_)
      · exact j_sub [] rfl (hj3 _)
      · refine j_iconst C (v := 1) dX6_takeDeeper_17 (by decide) ?_
        refine j_goto C (tgt := 22) dX6_takeDeeper_18 (by decide) ?_
        exact e_iretM C hQ hr rfl hlk dX6_takeDeeper_22 (Nat.le_of_ble_eq_true rfl) (Nat.le_of_ble_eq_true rfl)
def f_Rd_write (a0 : Nat) (x1 : Int32) (x2 : Int32) (x3 : Int32) (h : hp_M) : Option (Int32 × hp_M) := (gR h a0 5 2).bind fun v1 => (onO h v1 1 (f_Bk_program v1 h)).bind fun r2 => (onO h r2 4 (f_Pr_add r2 x1 x2 x3 h)).bind fun h3 => some (1, h3)
set_option maxRecDepth 100000 in
set_option maxHeartbeats 4000000 in
theorem c_Rd_write (l : Launch) (w : hp_W) (a0 : Nat) (x1 : Int32) (x2 : Int32) (x3 : Int32) (h : hp_M) (out : Int32 × hp_M) (hX : f_Rd_write a0 x1 x2 x3 h = some out) : CT l w yX6_write cX6_write 4 (some .boolean) ({ frames := 1, cells := 0, slots := 0, locals := 23 }) [.ref a0, .int x1, .int x2, .int x3] h (some (.int out.1)) out.2 := by
  unfold f_Rd_write at hX
  refine ct_of (by decide +kernel) (Nat.le_of_ble_eq_true rfl) hX ?_
  intro p e s m args below meth c Q C hr hlk hnm hQ
  refine j_aload_n C dX6_write_0 (i := 0) rfl rfl ?_
  refine j_getR C g_X6_25 dX6_write_1 (fun v1 ev1 => ?_)
  refine j_callVr C (As := []) (rest := []) k_X6_80 ⟨Nat.le_of_ble_eq_true rfl, Nat.le_of_ble_eq_true rfl⟩ rfl (Nat.le_of_ble_eq_true rfl) ⟨Nat.le_of_ble_eq_true rfl, Nat.le_of_ble_eq_true rfl⟩ rfl dX6_write_4 (fun r0 q0 => c_Bk_program l w _ _ _ q0) (fun r2 er2 nr2 => ?_)
  refine j_iload_n C dX6_write_7 (i := 1) rfl rfl ?_
  refine j_iload_n C dX6_write_8 (i := 2) rfl rfl ?_
  refine j_iload_n C dX6_write_9 (i := 3) rfl rfl ?_
  refine j_callVv C (As := [.int _, .int _, .int _]) (rest := []) k_X6_84 ⟨Nat.le_of_ble_eq_true rfl, Nat.le_of_ble_eq_true rfl⟩ rfl (Nat.le_of_ble_eq_true rfl) ⟨Nat.le_of_ble_eq_true rfl, Nat.le_of_ble_eq_true rfl⟩ rfl dX6_write_10 (fun r0 q0 => c_Pr_add l w _ _ _ _ _ _ q0) (fun h3 eh3 _ => ?_)
  refine j_iconst C (v := 1) dX6_write_13 (by decide) ?_
  exact e_iretM C hQ hr rfl hlk dX6_write_14 (Nat.le_of_ble_eq_true rfl) (Nat.le_of_ble_eq_true rfl)
def f_Rd_readName (w : hp_W) (fl : Nat) (a0 : Nat) (x1 : Int32) (h : hp_M) : Option (Int32 × hp_M) := (gR h a0 5 0).bind fun v1 => (onO h v1 6 (f_Sc_isAt v1 (w_kd w 2) h)).bind fun r2 => if r2 = 0 then (some (0, h)) else (jn (fun (u9 : Int32) (u10 : Nat) => jn (fun (h17 : hp_M) => (gR h17 a0 5 0).bind fun v18 => (onO h17 v18 6 (f_Sc_take v18 (w_kd w 2) h17)).bind fun r19 => some (r19.1, r19.2)) fun (j16 : hp_M → Option (Int32 × hp_M)) => (pF h u10 5 5 (.int u9)).bind fun h20 => (gI h20 a0 5 5).bind fun v21 => if 0 ≤ v21 then (j16 h20) else ((gR h20 a0 5 0).bind fun v23 => (onO h20 v23 6 (f_Sc_start v23 h20)).bind fun r24 => (onO h20 a0 5 (f_Rd_blame a0 3 r24 h20)).bind fun h25 => j16 h25)) fun (j8 : Int32 → Nat → Option (Int32 × hp_M)) => (gR h a0 5 0).bind fun v26 => (onO h v26 6 (f_Sc_word v26 h)).bind fun r27 => if x1 = 0 then ((gR h a0 5 2).bind fun v29 => (onO h v29 1 (f_Bk_planetNamed fl v29 r27 h)).bind fun r30 => j8 r30 a0) else ((gR h a0 5 2).bind fun v31 => (onO h v31 1 (f_Bk_alphabetNamed fl v31 r27 h)).bind fun r32 => j8 r32 a0))
set_option maxRecDepth 100000 in
set_option maxHeartbeats 4000000 in
theorem c_Rd_readName (l : Launch) (w : hp_W) (fl : Nat) (a0 : Nat) (x1 : Int32) (h : hp_M) (out : Int32 × hp_M) (hX : f_Rd_readName w fl a0 x1 h = some out) : CT l w yX6_readName cX6_readName 4 (some .boolean) ({ frames := 1, cells := 0, slots := 0, locals := 23 }) [.ref a0, .int x1] h (some (.int out.1)) out.2 := by
  unfold f_Rd_readName at hX
  refine ct_of (by decide +kernel) (Nat.le_of_ble_eq_true rfl) hX ?_
  intro p e s m args below meth c Q C hr hlk hnm hQ
  refine j_aload_n C dX6_readName_0 (i := 0) rfl rfl ?_
  refine j_getR C g_X6_21 dX6_readName_1 (fun v1 ev1 => ?_)
  refine j_kind C s_X6_90 (by decide) dX6_readName_4 ?_
  refine j_callVi C (As := [.ref _]) (rest := []) k_X6_50 ⟨Nat.le_of_ble_eq_true rfl, Nat.le_of_ble_eq_true rfl⟩ rfl (Nat.le_of_ble_eq_true rfl) ⟨Nat.le_of_ble_eq_true rfl, Nat.le_of_ble_eq_true rfl⟩ rfl dX6_readName_7 (fun r0 q0 => c_Sc_isAt l w _ _ _ _ q0) (fun r2 er2 nr2 => ?_)
  refine j_ifne C (tgt := 15) dX6_readName_10 (by decide) (fun q3 => ?_) (fun q3 => ?_)
  · refine j_iconst C (v := 0) dX6_readName_13 (by decide) ?_
    exact e_iretM C hQ hr rfl hlk dX6_readName_14 (Nat.le_of_ble_eq_true rfl) (Nat.le_of_ble_eq_true rfl)
  · refine j_jn (P := fun (j8 : Int32 → Nat → Option (Int32 × hp_M)) => ∀ (u9 : Int32) (u10 : Nat), J p l e ({ frames := 1, cells := 0, slots := 0, locals := 23 }) s m args below meth c Q w 4 0 0 47 [(0, .ref a0)] [.int u9, .ref u10] h (j8 u9 u10) out) ?_ (fun j8 hj8 => ?_)
    · intro u9 u10
      refine j_jn (P := fun (j16 : hp_M → Option (Int32 × hp_M)) => ∀ (h17 : hp_M), J p l e ({ frames := 1, cells := 0, slots := 0, locals := 23 }) s m args below meth c Q w 4 0 0 69 [(0, .ref a0)] [] h17 (j16 h17) out) ?_ (fun j16 hj16 => ?_)
      · intro h17
        refine j_aload_n C dX6_readName_69 (i := 0) rfl rfl ?_
        refine j_getR C g_X6_21 dX6_readName_70 (fun v18 ev18 => ?_)
        refine j_kind C s_X6_90 (by decide) dX6_readName_73 ?_
        refine j_callVim C (As := [.ref _]) (rest := []) k_X6_77 ⟨Nat.le_of_ble_eq_true rfl, Nat.le_of_ble_eq_true rfl⟩ rfl (Nat.le_of_ble_eq_true rfl) ⟨Nat.le_of_ble_eq_true rfl, Nat.le_of_ble_eq_true rfl⟩ rfl dX6_readName_76 (fun r0 q0 => c_Sc_take l w _ _ _ _ q0) (fun r19 er19 nr19 => ?_)
        exact e_iretM C hQ hr (nr19 _ _ rfl rfl) hlk dX6_readName_79 (Nat.le_of_ble_eq_true rfl) (Nat.le_of_ble_eq_true rfl)
      · refine j_putI C p_X6_115 (fun q => nomatch q) dX6_readName_47 (fun h20 eh20 => ?_)
        refine j_aload_n C dX6_readName_50 (i := 0) rfl rfl ?_
        refine j_getI C g_X6_115 dX6_readName_51 (fun v21 ev21 => ?_)
        refine j_ifge C (tgt := 69) dX6_readName_54 (by decide) (fun q22 => ?_) (fun q22 => ?_)
        · exact hj16 _
        · refine j_aload_n C dX6_readName_57 (i := 0) rfl rfl ?_
          refine j_iconst C (v := 3) dX6_readName_58 (by decide) ?_
          refine j_aload_n C dX6_readName_59 (i := 0) rfl rfl ?_
          refine j_getR C g_X6_21 dX6_readName_60 (fun v23 ev23 => ?_)
          refine j_callVi C (As := []) (rest := [_, _]) k_X6_73 ⟨Nat.le_of_ble_eq_true rfl, Nat.le_of_ble_eq_true rfl⟩ rfl (Nat.le_of_ble_eq_true rfl) ⟨Nat.le_of_ble_eq_true rfl, Nat.le_of_ble_eq_true rfl⟩ rfl dX6_readName_63 (fun r0 q0 => c_Sc_start l w _ _ _ q0) (fun r24 er24 nr24 => ?_)
          refine j_callVv C (As := [.int _, .int _]) (rest := []) k_X6_167 ⟨Nat.le_of_ble_eq_true rfl, Nat.le_of_ble_eq_true rfl⟩ rfl (Nat.le_of_ble_eq_true rfl) ⟨Nat.le_of_ble_eq_true rfl, Nat.le_of_ble_eq_true rfl⟩ rfl dX6_readName_66 (fun r0 q0 => c_Rd_blame l w _ _ _ _ _ q0) (fun h25 eh25 _ => ?_)
          exact hj16 _
    · refine j_aload_n C dX6_readName_15 (i := 0) rfl rfl ?_
      refine j_getR C g_X6_21 dX6_readName_16 (fun v26 ev26 => ?_)
      refine j_callVl C (As := []) (rest := []) k_X6_93 ⟨Nat.le_of_ble_eq_true rfl, Nat.le_of_ble_eq_true rfl⟩ rfl (Nat.le_of_ble_eq_true rfl) ⟨Nat.le_of_ble_eq_true rfl, Nat.le_of_ble_eq_true rfl⟩ rfl dX6_readName_19 (fun r0 q0 => c_Sc_word l w _ _ _ q0) (fun r27 er27 nr27 => ?_)
      refine j_lstore_n C [(2, _), (0, _), (1, _)] dX6_readName_22 (i := 2) rfl (by decide) rfl ?_
      refine j_aload_n C dX6_readName_23 (i := 0) rfl rfl ?_
      refine j_iload_n C dX6_readName_24 (i := 1) rfl rfl ?_
      refine j_ifeq C (tgt := 39) dX6_readName_25 (by decide) (fun q28 => ?_) (fun q28 => ?_)
      · refine j_aload_n C dX6_readName_39 (i := 0) rfl rfl ?_
        refine j_getR C g_X6_25 dX6_readName_40 (fun v29 ev29 => ?_)
        refine j_lload_n C dX6_readName_43 (i := 2) rfl rfl ?_
        refine j_callVi C (As := [.long _]) (rest := [_]) k_X6_97 ⟨Nat.le_of_ble_eq_true rfl, Nat.le_of_ble_eq_true rfl⟩ rfl (Nat.le_of_ble_eq_true rfl) ⟨Nat.le_of_ble_eq_true rfl, Nat.le_of_ble_eq_true rfl⟩ rfl dX6_readName_44 (fun r0 q0 => c_Bk_planetNamed l w fl _ _ _ _ q0) (fun r30 er30 nr30 => ?_)
        exact j_sub [1] rfl (hj8 _ _)
      · refine j_aload_n C dX6_readName_28 (i := 0) rfl rfl ?_
        refine j_getR C g_X6_25 dX6_readName_29 (fun v31 ev31 => ?_)
        refine j_lload_n C dX6_readName_32 (i := 2) rfl rfl ?_
        refine j_callVi C (As := [.long _]) (rest := [_]) k_X6_139 ⟨Nat.le_of_ble_eq_true rfl, Nat.le_of_ble_eq_true rfl⟩ rfl (Nat.le_of_ble_eq_true rfl) ⟨Nat.le_of_ble_eq_true rfl, Nat.le_of_ble_eq_true rfl⟩ rfl dX6_readName_33 (fun r0 q0 => c_Bk_alphabetNamed l w fl _ _ _ _ q0) (fun r32 er32 nr32 => ?_)
        refine j_goto C (tgt := 47) dX6_readName_36 (by decide) ?_
        exact j_sub [1] rfl (hj8 _ _)
def f_Rd_readOfTwo (w : hp_W) (fl : Nat) (a0 : Nat) (h : hp_M) : Option (Int32 × hp_M) := (gR h a0 5 0).bind fun v1 => (onO h v1 6 (f_Sc_kind w v1 h)).bind fun r2 => (f_Kd_step w r2 h).bind fun r3 => (gR h a0 5 0).bind fun v4 => (onO h v4 6 (f_Sc_takeAny v4 h)).bind fun r5 => if r5.1 = 0 then (some (0, r5.2)) else ((onO r5.2 a0 5 (f_Rd_readName w fl a0 0 r5.2)).bind fun r7 => if r7.1 = 0 then (some (0, r7.2)) else ((gI r7.2 a0 5 5).bind fun v9 => (gR r7.2 a0 5 0).bind fun v10 => (onO r7.2 v10 6 (f_Sc_start v10 r7.2)).bind fun r11 => (onO r7.2 a0 5 (f_Rd_readName w fl a0 0 r7.2)).bind fun r12 => if r12.1 = 0 then (some (0, r12.2)) else (jn (fun (h17 : hp_M) => (gI h17 a0 5 5).bind fun v18 => (onO h17 a0 5 (f_Rd_write a0 r3 v9 v18 h17)).bind fun r19 => some (r19.1, r19.2)) fun (j16 : hp_M → Option (Int32 × hp_M)) => (gI r12.2 a0 5 5).bind fun v20 => if v20 = v9 then ((onO r12.2 a0 5 (f_Rd_blame a0 6 r11 r12.2)).bind fun h22 => j16 h22) else (j16 r12.2))))
set_option maxRecDepth 100000 in
set_option maxHeartbeats 4000000 in
theorem c_Rd_readOfTwo (l : Launch) (w : hp_W) (fl : Nat) (a0 : Nat) (h : hp_M) (out : Int32 × hp_M) (hX : f_Rd_readOfTwo w fl a0 h = some out) : CT l w yX6_readOfTwo cX6_readOfTwo 4 (some .boolean) ({ frames := 2, cells := 0, slots := 0, locals := 46 }) [.ref a0] h (some (.int out.1)) out.2 := by
  unfold f_Rd_readOfTwo at hX
  refine ct_of (by decide +kernel) (Nat.le_of_ble_eq_true rfl) hX ?_
  intro p e s m args below meth c Q C hr hlk hnm hQ
  refine j_aload_n C dX6_readOfTwo_0 (i := 0) rfl rfl ?_
  refine j_getR C g_X6_21 dX6_readOfTwo_1 (fun v1 ev1 => ?_)
  refine j_callVr C (As := []) (rest := []) k_X6_243 ⟨Nat.le_of_ble_eq_true rfl, Nat.le_of_ble_eq_true rfl⟩ rfl (Nat.le_of_ble_eq_true rfl) ⟨Nat.le_of_ble_eq_true rfl, Nat.le_of_ble_eq_true rfl⟩ rfl dX6_readOfTwo_4 (fun r0 q0 => c_Sc_kind l w _ _ _ q0) (fun r2 er2 nr2 => ?_)
  refine j_callO C (As := []) (rest := []) k_X6_247 ⟨Nat.le_of_ble_eq_true rfl, Nat.le_of_ble_eq_true rfl⟩ rfl (Nat.le_of_ble_eq_true rfl) ⟨Nat.le_of_ble_eq_true rfl, Nat.le_of_ble_eq_true rfl⟩ rfl dX6_readOfTwo_7 (fun r0 q0 => by obtain ⟨v9, h9, -⟩ := Option.bind_eq_some_iff.mp (show (kStep w _).bind _ = some _ from q0); obtain ⟨i9, g9, -⟩ := Option.bind_eq_some_iff.mp (show (kx w _).bind _ = some _ from h9); exact kd_O C g9) (fun r0 q0 => c_Kd_step l w _ _ _ q0) (fun r3 er3 _ => ?_)
  refine j_istore_n C [(1, _), (0, _)] dX6_readOfTwo_10 (i := 1) rfl (by decide) rfl ?_
  refine j_aload_n C dX6_readOfTwo_11 (i := 0) rfl rfl ?_
  refine j_getR C g_X6_21 dX6_readOfTwo_12 (fun v4 ev4 => ?_)
  refine j_callVim C (As := []) (rest := []) k_X6_253 ⟨Nat.le_of_ble_eq_true rfl, Nat.le_of_ble_eq_true rfl⟩ rfl (Nat.le_of_ble_eq_true rfl) ⟨Nat.le_of_ble_eq_true rfl, Nat.le_of_ble_eq_true rfl⟩ rfl dX6_readOfTwo_15 (fun r0 q0 => c_Sc_takeAny l w _ _ _ q0) (fun r5 er5 nr5 => ?_)
  refine j_ifeq C (tgt := 29) dX6_readOfTwo_18 (by decide) (fun q6 => ?_) (fun q6 => ?_)
  · refine j_iconst C (v := 0) dX6_readOfTwo_29 (by decide) ?_
    exact e_iretM C hQ hr rfl hlk dX6_readOfTwo_30 (Nat.le_of_ble_eq_true rfl) (Nat.le_of_ble_eq_true rfl)
  · refine j_aload_n C dX6_readOfTwo_21 (i := 0) rfl rfl ?_
    refine j_iconst C (v := 0) dX6_readOfTwo_22 (by decide) ?_
    refine j_callVim C (As := [.int _]) (rest := []) k_X6_192 ⟨Nat.le_of_ble_eq_true rfl, Nat.le_of_ble_eq_true rfl⟩ rfl (Nat.le_of_ble_eq_true rfl) ⟨Nat.le_of_ble_eq_true rfl, Nat.le_of_ble_eq_true rfl⟩ rfl dX6_readOfTwo_23 (fun r0 q0 => c_Rd_readName l w fl _ _ _ _ q0) (fun r7 er7 nr7 => ?_)
    refine j_ifne C (tgt := 31) dX6_readOfTwo_26 (by decide) (fun q8 => ?_) (fun q8 => ?_)
    · refine j_iconst C (v := 0) dX6_readOfTwo_29 (by decide) ?_
      exact e_iretM C hQ hr rfl hlk dX6_readOfTwo_30 (Nat.le_of_ble_eq_true rfl) (Nat.le_of_ble_eq_true rfl)
    · refine j_aload_n C dX6_readOfTwo_31 (i := 0) rfl rfl ?_
      refine j_getI C g_X6_115 dX6_readOfTwo_32 (fun v9 ev9 => ?_)
      refine j_istore_n C [(2, _), (1, _), (0, _)] dX6_readOfTwo_35 (i := 2) rfl (by decide) rfl ?_
      refine j_aload_n C dX6_readOfTwo_36 (i := 0) rfl rfl ?_
      refine j_getR C g_X6_21 dX6_readOfTwo_37 (fun v10 ev10 => ?_)
      refine j_callVi C (As := []) (rest := []) k_X6_73 ⟨Nat.le_of_ble_eq_true rfl, Nat.le_of_ble_eq_true rfl⟩ rfl (Nat.le_of_ble_eq_true rfl) ⟨Nat.le_of_ble_eq_true rfl, Nat.le_of_ble_eq_true rfl⟩ rfl dX6_readOfTwo_40 (fun r0 q0 => c_Sc_start l w _ _ _ q0) (fun r11 er11 nr11 => ?_)
      refine j_istore_n C [(3, _), (2, _), (1, _), (0, _)] dX6_readOfTwo_43 (i := 3) rfl (by decide) rfl ?_
      refine j_aload_n C dX6_readOfTwo_44 (i := 0) rfl rfl ?_
      refine j_iconst C (v := 0) dX6_readOfTwo_45 (by decide) ?_
      refine j_callVim C (As := [.int _]) (rest := []) k_X6_192 ⟨Nat.le_of_ble_eq_true rfl, Nat.le_of_ble_eq_true rfl⟩ rfl (Nat.le_of_ble_eq_true rfl) ⟨Nat.le_of_ble_eq_true rfl, Nat.le_of_ble_eq_true rfl⟩ rfl dX6_readOfTwo_46 (fun r0 q0 => c_Rd_readName l w fl _ _ _ _ q0) (fun r12 er12 nr12 => ?_)
      refine j_ifne C (tgt := 54) dX6_readOfTwo_49 (by decide) (fun q13 => ?_) (fun q13 => ?_)
      · refine j_iconst C (v := 0) dX6_readOfTwo_52 (by decide) ?_
        exact e_iretM C hQ hr rfl hlk dX6_readOfTwo_53 (Nat.le_of_ble_eq_true rfl) (Nat.le_of_ble_eq_true rfl)
      · refine j_jn (P := fun (j16 : hp_M → Option (Int32 × hp_M)) => ∀ (h17 : hp_M), J p l e ({ frames := 2, cells := 0, slots := 0, locals := 46 }) s m args below meth c Q w 4 0 0 69 [(0, .ref a0), (1, .int r3), (2, .int v9)] [] h17 (j16 h17) out) ?_ (fun j16 hj16 => ?_)
        · intro h17
          refine j_aload_n C dX6_readOfTwo_69 (i := 0) rfl rfl ?_
          refine j_iload_n C dX6_readOfTwo_70 (i := 1) rfl rfl ?_
          refine j_iload_n C dX6_readOfTwo_71 (i := 2) rfl rfl ?_
          refine j_aload_n C dX6_readOfTwo_72 (i := 0) rfl rfl ?_
          refine j_getI C g_X6_115 dX6_readOfTwo_73 (fun v18 ev18 => ?_)
          refine j_callVim C (As := [.int _, .int _, .int _]) (rest := []) k_X6_211 ⟨Nat.le_of_ble_eq_true rfl, Nat.le_of_ble_eq_true rfl⟩ rfl (Nat.le_of_ble_eq_true rfl) ⟨Nat.le_of_ble_eq_true rfl, Nat.le_of_ble_eq_true rfl⟩ rfl dX6_readOfTwo_76 (fun r0 q0 => c_Rd_write l w _ _ _ _ _ _ q0) (fun r19 er19 nr19 => ?_)
          exact e_iretM C hQ hr (nr19 _ _ rfl rfl) hlk dX6_readOfTwo_79 (Nat.le_of_ble_eq_true rfl) (Nat.le_of_ble_eq_true rfl)
        · refine j_aload_n C dX6_readOfTwo_54 (i := 0) rfl rfl ?_
          refine j_getI C g_X6_115 dX6_readOfTwo_55 (fun v20 ev20 => ?_)
          refine j_iload_n C dX6_readOfTwo_58 (i := 2) rfl rfl ?_
          refine j_icmpne C (tgt := 69) dX6_readOfTwo_59 (by decide) (fun q21 => ?_) (fun q21 => ?_)
          · refine j_aload_n C dX6_readOfTwo_62 (i := 0) rfl rfl ?_
            refine j_bipush C (v := 6) dX6_readOfTwo_63 (by decide) ?_
            refine j_iload_n C dX6_readOfTwo_65 (i := 3) rfl rfl ?_
            refine j_callVv C (As := [.int _, .int _]) (rest := []) k_X6_167 ⟨Nat.le_of_ble_eq_true rfl, Nat.le_of_ble_eq_true rfl⟩ rfl (Nat.le_of_ble_eq_true rfl) ⟨Nat.le_of_ble_eq_true rfl, Nat.le_of_ble_eq_true rfl⟩ rfl dX6_readOfTwo_66 (fun r0 q0 => c_Rd_blame l w _ _ _ _ _ q0) (fun h22 eh22 _ => ?_)
            exact j_sub [3, 2, 1] rfl (hj16 _)
          · exact j_sub [3, 2, 1] rfl (hj16 _)
def rm_g_Rd_readProduct (n : Nat) : Room := { frames := n + 3, cells := 0, slots := 0, locals := n * 23 + 69 }
def f_Rd_readProduct_b12 (w : hp_W) (fl : Nat) (rc : Nat → Nat → Int32 → hp_M → Option (Int32 × hp_M)) (a0 : Nat) (x1 : Int32) : Nat → Int32 → hp_M → Option (Int32 × hp_M)
  | 0, _, _ => none
  | n + 1, x2, h => if 400 ≤ x2 then (some (1, h)) else ((gR h a0 5 0).bind fun v1004 => (onO h v1004 6 (f_Sc_kind w v1004 h)).bind fun r1005 => (f_Kd_step w r1005 h).bind fun r1006 => (f_Pr_isProduct r1006 h).bind fun r1007 => if r1007 = 0 then (some (1, h)) else ((gR h a0 5 0).bind fun v1009 => (onO h v1009 6 (f_Sc_kind w v1009 h)).bind fun r1010 => (f_Kd_step w r1010 h).bind fun r1011 => (gR h a0 5 0).bind fun v1012 => (onO h v1012 6 (f_Sc_takeAny v1012 h)).bind fun r1013 => if r1013.1 = 0 then (some (0, r1013.2)) else ((onO r1013.2 a0 5 (rc 2 a0 x1 r1013.2)).bind fun r1015 => if r1015.1 = 0 then (some (0, r1015.2)) else ((onO r1015.2 a0 5 (f_Rd_write a0 r1011 0 0 r1015.2)).bind fun r1017 => f_Rd_readProduct_b12 w fl rc a0 x1 n (x2 + 1) r1017.2))))
def f_Rd_readProduct_body (w : hp_W) (fl : Nat) (rc : Nat → Nat → Int32 → hp_M → Option (Int32 × hp_M)) (a0 : Nat) (x1 : Int32) (h : hp_M) : Option (Int32 × hp_M) := (onO h a0 5 (rc 2 a0 x1 h)).bind fun r1 => if r1.1 = 0 then (some (0, r1.2)) else (f_Rd_readProduct_b12 w fl rc a0 x1 fl 0 r1.2)
def f_Rd_readSum_b12 (w : hp_W) (fl : Nat) (rc : Nat → Nat → Int32 → hp_M → Option (Int32 × hp_M)) (a0 : Nat) (x1 : Int32) : Nat → Int32 → hp_M → Option (Int32 × hp_M)
  | 0, _, _ => none
  | n + 1, x2, h => if 400 ≤ x2 then (some (1, h)) else (jn ((gR h a0 5 0).bind fun v1009 => (onO h v1009 6 (f_Sc_kind w v1009 h)).bind fun r1010 => (f_Kd_step w r1010 h).bind fun r1011 => (gR h a0 5 0).bind fun v1012 => (onO h v1012 6 (f_Sc_takeAny v1012 h)).bind fun r1013 => if r1013.1 = 0 then (some (0, r1013.2)) else ((onO r1013.2 a0 5 (rc 0 a0 x1 r1013.2)).bind fun r1015 => if r1015.1 = 0 then (some (0, r1015.2)) else ((onO r1015.2 a0 5 (f_Rd_write a0 r1011 0 0 r1015.2)).bind fun r1017 => f_Rd_readSum_b12 w fl rc a0 x1 n (x2 + 1) r1017.2))) fun (j1008 : Option (Int32 × hp_M)) => (gR h a0 5 0).bind fun v1018 => (onO h v1018 6 (f_Sc_isAt v1018 (w_kd w 32) h)).bind fun r1019 => if r1019 = 0 then ((gR h a0 5 0).bind fun v1021 => (onO h v1021 6 (f_Sc_isAt v1021 (w_kd w 33) h)).bind fun r1022 => if r1022 = 0 then (some (1, h)) else (j1008)) else (j1008))
def f_Rd_readSum_body (w : hp_W) (fl : Nat) (rc : Nat → Nat → Int32 → hp_M → Option (Int32 × hp_M)) (a0 : Nat) (x1 : Int32) (h : hp_M) : Option (Int32 × hp_M) := (onO h a0 5 (rc 0 a0 x1 h)).bind fun r1 => if r1.1 = 0 then (some (0, r1.2)) else (f_Rd_readSum_b12 w fl rc a0 x1 fl 0 r1.2)
def f_Rd_readValue_body (w : hp_W) (fl : Nat) (rc : Nat → Nat → Int32 → hp_M → Option (Int32 × hp_M)) (a0 : Nat) (x1 : Int32) (h : hp_M) : Option (Int32 × hp_M) := (gR h a0 5 0).bind fun v1 => (onO h v1 6 (f_Sc_kind w v1 h)).bind fun r2 => (f_Kd_step w r2 h).bind fun r3 => (gR h a0 5 0).bind fun v4 => (onO h v4 6 (f_Sc_isAt v4 (w_kd w 3) h)).bind fun r5 => if r5 = 0 then (jn (jn (fun (h16 : hp_M) => some (0, h16)) fun (j15 : hp_M → Option (Int32 × hp_M)) => (onO h a0 5 (f_Rd_write a0 r3 0 0 h)).bind fun r17 => if r17.1 = 0 then (j15 r17.2) else ((gR r17.2 a0 5 0).bind fun v19 => (onO r17.2 v19 6 (f_Sc_takeAny v19 r17.2)).bind fun r20 => if r20.1 = 0 then (j15 r20.2) else (some (1, r20.2)))) fun (j11 : Option (Int32 × hp_M)) => (gR h a0 5 0).bind fun v22 => (onO h v22 6 (f_Sc_isAt v22 (w_kd w 19) h)).bind fun r23 => if r23 = 0 then ((gR h a0 5 0).bind fun v25 => (onO h v25 6 (f_Sc_isAt v25 (w_kd w 20) h)).bind fun r26 => if r26 = 0 then (jn (jn (fun (h39 : hp_M) => some (0, h39)) fun (j38 : hp_M → Option (Int32 × hp_M)) => (gR h a0 5 0).bind fun v40 => (onO h v40 6 (f_Sc_takeAny v40 h)).bind fun r41 => if r41.1 = 0 then (j38 r41.2) else ((onO r41.2 a0 5 (f_Rd_readName w fl a0 0 r41.2)).bind fun r43 => if r43.1 = 0 then (j38 r43.2) else ((gI r43.2 a0 5 5).bind fun v45 => (onO r43.2 a0 5 (f_Rd_write a0 r3 v45 0 r43.2)).bind fun r46 => if r46.1 = 0 then (j38 r46.2) else (some (1, r46.2))))) fun (j32 : Option (Int32 × hp_M)) => (gR h a0 5 0).bind fun v48 => (onO h v48 6 (f_Sc_isAt v48 (w_kd w 16) h)).bind fun r49 => if r49 = 0 then ((gR h a0 5 0).bind fun v51 => (onO h v51 6 (f_Sc_isAt v51 (w_kd w 17) h)).bind fun r52 => if r52 = 0 then ((gR h a0 5 0).bind fun v54 => (onO h v54 6 (f_Sc_isAt v54 (w_kd w 18) h)).bind fun r55 => if r55 = 0 then ((gR h a0 5 0).bind fun v57 => (onO h v57 6 (f_Sc_isAt v57 (w_kd w 33) h)).bind fun r58 => if r58 = 0 then (jn (jn (fun (h76 : hp_M) => some (0, h76)) fun (j75 : hp_M → Option (Int32 × hp_M)) => (gR h a0 5 0).bind fun v77 => (onO h v77 6 (f_Sc_takeAny v77 h)).bind fun r78 => if r78.1 = 0 then (j75 r78.2) else ((onO r78.2 a0 5 (f_Rd_takeDeeper a0 (w_kd w 26) x1 r78.2)).bind fun r80 => if r80.1 = 0 then (j75 r80.2) else ((onO r80.2 a0 5 (rc 1 a0 (x1 + 1) r80.2)).bind fun r82 => if r82.1 = 0 then (j75 r82.2) else ((gR r82.2 a0 5 0).bind fun v84 => (onO r82.2 v84 6 (f_Sc_take v84 (w_kd w 31) r82.2)).bind fun r85 => if r85.1 = 0 then (j75 r85.2) else ((onO r85.2 a0 5 (rc 1 a0 (x1 + 1) r85.2)).bind fun r87 => if r87.1 = 0 then (j75 r87.2) else ((gR r87.2 a0 5 0).bind fun v89 => (onO r87.2 v89 6 (f_Sc_take v89 (w_kd w 27) r87.2)).bind fun r90 => if r90.1 = 0 then (j75 r90.2) else ((onO r90.2 a0 5 (f_Rd_write a0 r3 0 0 r90.2)).bind fun r92 => if r92.1 = 0 then (j75 r92.2) else (some (1, r92.2))))))))) fun (j64 : Option (Int32 × hp_M)) => (gR h a0 5 0).bind fun v94 => (onO h v94 6 (f_Sc_isAt v94 (w_kd w 24) h)).bind fun r95 => if r95 = 0 then ((gR h a0 5 0).bind fun v97 => (onO h v97 6 (f_Sc_isAt v97 (w_kd w 25) h)).bind fun r98 => if r98 = 0 then (jn (fun (h105 : hp_M) => some (0, h105)) fun (j104 : hp_M → Option (Int32 × hp_M)) => (onO h a0 5 (f_Rd_takeDeeper a0 (w_kd w 26) x1 h)).bind fun r106 => if r106.1 = 0 then (j104 r106.2) else ((onO r106.2 a0 5 (rc 1 a0 (x1 + 1) r106.2)).bind fun r108 => if r108.1 = 0 then (j104 r108.2) else ((gR r108.2 a0 5 0).bind fun v110 => (onO r108.2 v110 6 (f_Sc_take v110 (w_kd w 27) r108.2)).bind fun r111 => if r111.1 = 0 then (j104 r111.2) else (some (1, r111.2))))) else (j64)) else (j64)) else (jn (fun (h117 : hp_M) => some (0, h117)) fun (j116 : hp_M → Option (Int32 × hp_M)) => (onO h a0 5 (f_Rd_takeDeeper a0 (w_kd w 33) x1 h)).bind fun r118 => if r118.1 = 0 then (j116 r118.2) else ((onO r118.2 a0 5 (rc 2 a0 (x1 + 1) r118.2)).bind fun r120 => if r120.1 = 0 then (j116 r120.2) else ((onO r120.2 a0 5 (f_Rd_write a0 9 0 0 r120.2)).bind fun r122 => if r122.1 = 0 then (j116 r122.2) else (some (1, r122.2)))))) else ((onO h a0 5 (f_Rd_readOfTwo w fl a0 h)).bind fun r124 => some (r124.1, r124.2))) else (j32)) else (j32)) else (j11)) else (j11)) else (jn (fun (h131 : hp_M) => some (0, h131)) fun (j130 : hp_M → Option (Int32 × hp_M)) => (gR h a0 5 0).bind fun v132 => (onO h v132 6 (f_Sc_number v132 h)).bind fun r133 => (onO h a0 5 (f_Rd_write a0 0 r133 0 h)).bind fun r134 => if r134.1 = 0 then (j130 r134.2) else ((gR r134.2 a0 5 0).bind fun v136 => (onO r134.2 v136 6 (f_Sc_takeAny v136 r134.2)).bind fun r137 => if r137.1 = 0 then (j130 r137.2) else (some (1, r137.2))))
def g_Rd_readProduct (w : hp_W) (fl : Nat) : Nat → Nat → Nat → Int32 → hp_M → Option (Int32 × hp_M)
  | 0, _, _, _, _ => none
  | n + 1, k, a, z0, h => if k = 0 then f_Rd_readProduct_body w fl (g_Rd_readProduct w fl n) a z0 h else if k = 1 then f_Rd_readSum_body w fl (g_Rd_readProduct w fl n) a z0 h else f_Rd_readValue_body w fl (g_Rd_readProduct w fl n) a z0 h
def f_Rd_readProduct (w : hp_W) (fl : Nat) (a0 : Nat) (x1 : Int32) (h : hp_M) : Option (Int32 × hp_M) := g_Rd_readProduct w fl 64 0 a0 x1 h
def f_Rd_readSum (w : hp_W) (fl : Nat) (a0 : Nat) (x1 : Int32) (h : hp_M) : Option (Int32 × hp_M) := g_Rd_readProduct w fl 64 1 a0 x1 h
def f_Rd_readValue (w : hp_W) (fl : Nat) (a0 : Nat) (x1 : Int32) (h : hp_M) : Option (Int32 × hp_M) := g_Rd_readProduct w fl 64 2 a0 x1 h
set_option maxRecDepth 100000 in
set_option maxHeartbeats 4000000 in
theorem b_Rd_readProduct_12 {p : Program} {l : Launch} {e : Env} {s : State} {m : MethodId} {args : Array Value} {below : List Frame} {meth : Method} {c : Code} {Q : State → Prop} {w : hp_W} {out : Int32 × hp_M} (fl : Nat)  (nr : Nat) (rc : Nat → Nat → Int32 → hp_M → Option (Int32 × hp_M)) (hrec0 : ∀ (a : Nat) (z0 : Int32) (h : hp_M) (r : Int32 × hp_M), rc 0 a z0 h = some r → CT l w yX6_readProduct cX6_readProduct 4 (some .boolean) (rm_g_Rd_readProduct nr) [.ref a, .int z0] h (some (.int r.1)) r.2) (hrec1 : ∀ (a : Nat) (z0 : Int32) (h : hp_M) (r : Int32 × hp_M), rc 1 a z0 h = some r → CT l w yX6_readSum cX6_readSum 4 (some .boolean) (rm_g_Rd_readProduct nr) [.ref a, .int z0] h (some (.int r.1)) r.2) (hrec2 : ∀ (a : Nat) (z0 : Int32) (h : hp_M) (r : Int32 × hp_M), rc 2 a z0 h = some r → CT l w yX6_readValue cX6_readValue 3 (some .boolean) (rm_g_Rd_readProduct nr) [.ref a, .int z0] h (some (.int r.1)) r.2)  (a0 : Nat) (x1 : Int32) (C : Cx p m c cX6_readProduct 4 s args RX6 w) (hr : meth.sig.returnType = some .boolean) (hlk : meth.locks = false) (hnm : meth.name = "readProduct") (hQ : QM below w args s (rm_g_Rd_readProduct (nr + 1)) (some .boolean) (some (.int out.1)) out.2 = Q)  : ∀ (n : Nat) (x2 : Int32) (h : hp_M), J p l e (rm_g_Rd_readProduct (nr + 1)) s m args below meth c Q w 4 0 0 12 [(0, .ref a0), (1, .int x1), (2, .int x2)] [] h (f_Rd_readProduct_b12 w fl rc a0 x1 n x2 h) out := by
  intro n
  induction n with
  | zero => intro x2 h; exact j_none
  | succ n ih =>
    intro x2 h
    rw [f_Rd_readProduct_b12]
    refine j_iload_n C dX6_readProduct_12 (i := 2) rfl rfl ?_
    refine j_sipush C (v := 400) dX6_readProduct_13 (by decide) ?_
    refine j_icmpge C (tgt := 80) dX6_readProduct_16 (by decide) (fun q1003 => ?_) (fun q1003 => ?_)
    · refine j_iconst C (v := 1) dX6_readProduct_80 (by decide) ?_
      exact e_iretM C hQ hr rfl hlk dX6_readProduct_81 (Nat.le_of_ble_eq_true rfl) (Nat.le_of_ble_eq_true rfl)
    · refine j_aload_n C dX6_readProduct_19 (i := 0) rfl rfl ?_
      refine j_getR C g_X6_21 dX6_readProduct_20 (fun v1004 ev1004 => ?_)
      refine j_callVr C (As := []) (rest := []) k_X6_243 ⟨by simp only [rm_g_Rd_readProduct]; omega, by simp only [rm_g_Rd_readProduct]; omega⟩ rfl (Nat.le_of_ble_eq_true rfl) ⟨Nat.le_of_ble_eq_true rfl, Nat.le_of_ble_eq_true rfl⟩ rfl dX6_readProduct_23 (fun r0 q0 => c_Sc_kind l w _ _ _ q0) (fun r1005 er1005 nr1005 => ?_)
      refine j_callO C (As := []) (rest := []) k_X6_247 ⟨by simp only [rm_g_Rd_readProduct]; omega, by simp only [rm_g_Rd_readProduct]; omega⟩ rfl (Nat.le_of_ble_eq_true rfl) ⟨Nat.le_of_ble_eq_true rfl, Nat.le_of_ble_eq_true rfl⟩ rfl dX6_readProduct_26 (fun r0 q0 => by obtain ⟨v9, h9, -⟩ := Option.bind_eq_some_iff.mp (show (kStep w _).bind _ = some _ from q0); obtain ⟨i9, g9, -⟩ := Option.bind_eq_some_iff.mp (show (kx w _).bind _ = some _ from h9); exact kd_O C g9) (fun r0 q0 => c_Kd_step l w _ _ _ q0) (fun r1006 er1006 _ => ?_)
      refine j_callSi C (As := [.int _]) (rest := []) k_X6_268 ⟨by simp only [rm_g_Rd_readProduct]; omega, by simp only [rm_g_Rd_readProduct]; omega⟩ rfl (Nat.le_of_ble_eq_true rfl) ⟨Nat.le_of_ble_eq_true rfl, Nat.le_of_ble_eq_true rfl⟩ rfl dX6_readProduct_29 (fun r0 q0 => c_Pr_isProduct l w _ _ _ q0) (fun r1007 er1007 nr1007 => ?_)
      refine j_ifeq C (tgt := 80) dX6_readProduct_32 (by decide) (fun q1008 => ?_) (fun q1008 => ?_)
      · refine j_iconst C (v := 1) dX6_readProduct_80 (by decide) ?_
        exact e_iretM C hQ hr rfl hlk dX6_readProduct_81 (Nat.le_of_ble_eq_true rfl) (Nat.le_of_ble_eq_true rfl)
      · refine j_aload_n C dX6_readProduct_35 (i := 0) rfl rfl ?_
        refine j_getR C g_X6_21 dX6_readProduct_36 (fun v1009 ev1009 => ?_)
        refine j_callVr C (As := []) (rest := []) k_X6_243 ⟨by simp only [rm_g_Rd_readProduct]; omega, by simp only [rm_g_Rd_readProduct]; omega⟩ rfl (Nat.le_of_ble_eq_true rfl) ⟨Nat.le_of_ble_eq_true rfl, Nat.le_of_ble_eq_true rfl⟩ rfl dX6_readProduct_39 (fun r0 q0 => c_Sc_kind l w _ _ _ q0) (fun r1010 er1010 nr1010 => ?_)
        refine j_callO C (As := []) (rest := []) k_X6_247 ⟨by simp only [rm_g_Rd_readProduct]; omega, by simp only [rm_g_Rd_readProduct]; omega⟩ rfl (Nat.le_of_ble_eq_true rfl) ⟨Nat.le_of_ble_eq_true rfl, Nat.le_of_ble_eq_true rfl⟩ rfl dX6_readProduct_42 (fun r0 q0 => by obtain ⟨v9, h9, -⟩ := Option.bind_eq_some_iff.mp (show (kStep w _).bind _ = some _ from q0); obtain ⟨i9, g9, -⟩ := Option.bind_eq_some_iff.mp (show (kx w _).bind _ = some _ from h9); exact kd_O C g9) (fun r0 q0 => c_Kd_step l w _ _ _ q0) (fun r1011 er1011 _ => ?_)
        refine j_istore_n C [(3, _), (0, _), (1, _), (2, _)] dX6_readProduct_45 (i := 3) rfl (by decide) rfl ?_
        refine j_aload_n C dX6_readProduct_46 (i := 0) rfl rfl ?_
        refine j_getR C g_X6_21 dX6_readProduct_47 (fun v1012 ev1012 => ?_)
        refine j_callVim C (As := []) (rest := []) k_X6_253 ⟨by simp only [rm_g_Rd_readProduct]; omega, by simp only [rm_g_Rd_readProduct]; omega⟩ rfl (Nat.le_of_ble_eq_true rfl) ⟨Nat.le_of_ble_eq_true rfl, Nat.le_of_ble_eq_true rfl⟩ rfl dX6_readProduct_50 (fun r0 q0 => c_Sc_takeAny l w _ _ _ q0) (fun r1013 er1013 nr1013 => ?_)
        refine j_ifeq C (tgt := 64) dX6_readProduct_53 (by decide) (fun q1014 => ?_) (fun q1014 => ?_)
        · refine j_iconst C (v := 0) dX6_readProduct_64 (by decide) ?_
          exact e_iretM C hQ hr rfl hlk dX6_readProduct_65 (Nat.le_of_ble_eq_true rfl) (Nat.le_of_ble_eq_true rfl)
        · refine j_aload_n C dX6_readProduct_56 (i := 0) rfl rfl ?_
          refine j_iload_n C dX6_readProduct_57 (i := 1) rfl rfl ?_
          refine j_callVim C (As := [.int _]) (rest := []) k_X6_265 ⟨by simp only [rm_g_Rd_readProduct]; omega, by simp only [rm_g_Rd_readProduct]; omega⟩ rfl (Nat.le_of_ble_eq_true rfl) ⟨Nat.le_of_ble_eq_true rfl, Nat.le_of_ble_eq_true rfl⟩ rfl dX6_readProduct_58 (fun r0 q0 => hrec2 _ _ _ r0 q0) (fun r1015 er1015 nr1015 => ?_)
          refine j_ifne C (tgt := 66) dX6_readProduct_61 (by decide) (fun q1016 => ?_) (fun q1016 => ?_)
          · refine j_iconst C (v := 0) dX6_readProduct_64 (by decide) ?_
            exact e_iretM C hQ hr rfl hlk dX6_readProduct_65 (Nat.le_of_ble_eq_true rfl) (Nat.le_of_ble_eq_true rfl)
          · refine j_aload_n C dX6_readProduct_66 (i := 0) rfl rfl ?_
            refine j_iload_n C dX6_readProduct_67 (i := 3) rfl rfl ?_
            refine j_iconst C (v := 0) dX6_readProduct_68 (by decide) ?_
            refine j_iconst C (v := 0) dX6_readProduct_69 (by decide) ?_
            refine j_callVim C (As := [.int _, .int _, .int _]) (rest := []) k_X6_211 ⟨by simp only [rm_g_Rd_readProduct]; omega, by simp only [rm_g_Rd_readProduct]; omega⟩ rfl (Nat.le_of_ble_eq_true rfl) ⟨Nat.le_of_ble_eq_true rfl, Nat.le_of_ble_eq_true rfl⟩ rfl dX6_readProduct_70 (fun r0 q0 => c_Rd_write l w _ _ _ _ _ _ q0) (fun r1017 er1017 nr1017 => ?_)
            refine j_pop C dX6_readProduct_73 rfl ?_
            refine j_iinc C (v := x2 + 1) [(2, _), (3, _), (0, _), (1, _)] dX6_readProduct_74 rfl rfl (by decide) rfl ?_
            refine j_goto C (tgt := 12) dX6_readProduct_77 (by decide) ?_
            exact j_sub [2, 3, 0] rfl (ih _ _)
set_option maxRecDepth 100000 in
set_option maxHeartbeats 4000000 in
theorem cb_Rd_readProduct (l : Launch) (w : hp_W) (fl : Nat) (nr : Nat) (rc : Nat → Nat → Int32 → hp_M → Option (Int32 × hp_M)) (hrec0 : ∀ (a : Nat) (z0 : Int32) (h : hp_M) (r : Int32 × hp_M), rc 0 a z0 h = some r → CT l w yX6_readProduct cX6_readProduct 4 (some .boolean) (rm_g_Rd_readProduct nr) [.ref a, .int z0] h (some (.int r.1)) r.2) (hrec1 : ∀ (a : Nat) (z0 : Int32) (h : hp_M) (r : Int32 × hp_M), rc 1 a z0 h = some r → CT l w yX6_readSum cX6_readSum 4 (some .boolean) (rm_g_Rd_readProduct nr) [.ref a, .int z0] h (some (.int r.1)) r.2) (hrec2 : ∀ (a : Nat) (z0 : Int32) (h : hp_M) (r : Int32 × hp_M), rc 2 a z0 h = some r → CT l w yX6_readValue cX6_readValue 3 (some .boolean) (rm_g_Rd_readProduct nr) [.ref a, .int z0] h (some (.int r.1)) r.2) (a0 : Nat) (x1 : Int32) (h : hp_M) (out : Int32 × hp_M) (hX : f_Rd_readProduct_body w fl rc a0 x1 h = some out) : CT l w yX6_readProduct cX6_readProduct 4 (some .boolean) (rm_g_Rd_readProduct (nr + 1)) [.ref a0, .int x1] h (some (.int out.1)) out.2 := by
  unfold f_Rd_readProduct_body at hX
  refine ct_of (by decide +kernel) (Nat.le_of_ble_eq_true rfl) hX ?_
  intro p e s m args below meth c Q C hr hlk hnm hQ
  refine j_aload_n C dX6_readProduct_0 (i := 0) rfl rfl ?_
  refine j_iload_n C dX6_readProduct_1 (i := 1) rfl rfl ?_
  refine j_callVim C (As := [.int _]) (rest := []) k_X6_265 ⟨by simp only [rm_g_Rd_readProduct]; omega, by simp only [rm_g_Rd_readProduct]; omega⟩ rfl (Nat.le_of_ble_eq_true rfl) ⟨Nat.le_of_ble_eq_true rfl, Nat.le_of_ble_eq_true rfl⟩ rfl dX6_readProduct_2 (fun r0 q0 => hrec2 _ _ _ r0 q0) (fun r1 er1 nr1 => ?_)
  refine j_ifne C (tgt := 10) dX6_readProduct_5 (by decide) (fun q2 => ?_) (fun q2 => ?_)
  · refine j_iconst C (v := 0) dX6_readProduct_8 (by decide) ?_
    exact e_iretM C hQ hr rfl hlk dX6_readProduct_9 (Nat.le_of_ble_eq_true rfl) (Nat.le_of_ble_eq_true rfl)
  · refine j_iconst C (v := 0) dX6_readProduct_10 (by decide) ?_
    refine j_istore_n C [(2, _), (0, _), (1, _)] dX6_readProduct_11 (i := 2) rfl (by decide) rfl ?_
    refine j_sub [1, 2, 0] rfl (b_Rd_readProduct_12 fl nr rc hrec0 hrec1 hrec2  _ _ C hr hlk hnm hQ  _ _ _)
set_option maxRecDepth 100000 in
set_option maxHeartbeats 4000000 in
theorem b_Rd_readSum_12 {p : Program} {l : Launch} {e : Env} {s : State} {m : MethodId} {args : Array Value} {below : List Frame} {meth : Method} {c : Code} {Q : State → Prop} {w : hp_W} {out : Int32 × hp_M} (fl : Nat)  (nr : Nat) (rc : Nat → Nat → Int32 → hp_M → Option (Int32 × hp_M)) (hrec0 : ∀ (a : Nat) (z0 : Int32) (h : hp_M) (r : Int32 × hp_M), rc 0 a z0 h = some r → CT l w yX6_readProduct cX6_readProduct 4 (some .boolean) (rm_g_Rd_readProduct nr) [.ref a, .int z0] h (some (.int r.1)) r.2) (hrec1 : ∀ (a : Nat) (z0 : Int32) (h : hp_M) (r : Int32 × hp_M), rc 1 a z0 h = some r → CT l w yX6_readSum cX6_readSum 4 (some .boolean) (rm_g_Rd_readProduct nr) [.ref a, .int z0] h (some (.int r.1)) r.2) (hrec2 : ∀ (a : Nat) (z0 : Int32) (h : hp_M) (r : Int32 × hp_M), rc 2 a z0 h = some r → CT l w yX6_readValue cX6_readValue 3 (some .boolean) (rm_g_Rd_readProduct nr) [.ref a, .int z0] h (some (.int r.1)) r.2)  (a0 : Nat) (x1 : Int32) (C : Cx p m c cX6_readSum 4 s args RX6 w) (hr : meth.sig.returnType = some .boolean) (hlk : meth.locks = false) (hnm : meth.name = "readSum") (hQ : QM below w args s (rm_g_Rd_readProduct (nr + 1)) (some .boolean) (some (.int out.1)) out.2 = Q)  : ∀ (n : Nat) (x2 : Int32) (h : hp_M), J p l e (rm_g_Rd_readProduct (nr + 1)) s m args below meth c Q w 4 0 0 12 [(0, .ref a0), (1, .int x1), (2, .int x2)] [] h (f_Rd_readSum_b12 w fl rc a0 x1 n x2 h) out := by
  intro n
  induction n with
  | zero => intro x2 h; exact j_none
  | succ n ih =>
    intro x2 h
    rw [f_Rd_readSum_b12]
    refine j_iload_n C dX6_readSum_12 (i := 2) rfl rfl ?_
    refine j_sipush C (v := 400) dX6_readSum_13 (by decide) ?_
    refine j_icmpge C (tgt := 90) dX6_readSum_16 (by decide) (fun q1003 => ?_) (fun q1003 => ?_)
    · refine j_iconst C (v := 1) dX6_readSum_90 (by decide) ?_
      exact e_iretM C hQ hr rfl hlk dX6_readSum_91 (Nat.le_of_ble_eq_true rfl) (Nat.le_of_ble_eq_true rfl)
    · refine j_jn (P := fun j1008 => J p l e (rm_g_Rd_readProduct (nr + 1)) s m args below meth c Q w 4 0 0 45 [(0, .ref a0), (1, .int x1), (2, .int x2)] [] h (j1008) out) ?_ (fun j1008 hj1008 => ?_)
      · refine j_aload_n C dX6_readSum_45 (i := 0) rfl rfl ?_
        refine j_getR C g_X6_21 dX6_readSum_46 (fun v1009 ev1009 => ?_)
        refine j_callVr C (As := []) (rest := []) k_X6_243 ⟨by simp only [rm_g_Rd_readProduct]; omega, by simp only [rm_g_Rd_readProduct]; omega⟩ rfl (Nat.le_of_ble_eq_true rfl) ⟨Nat.le_of_ble_eq_true rfl, Nat.le_of_ble_eq_true rfl⟩ rfl dX6_readSum_49 (fun r0 q0 => c_Sc_kind l w _ _ _ q0) (fun r1010 er1010 nr1010 => ?_)
        refine j_callO C (As := []) (rest := []) k_X6_247 ⟨by simp only [rm_g_Rd_readProduct]; omega, by simp only [rm_g_Rd_readProduct]; omega⟩ rfl (Nat.le_of_ble_eq_true rfl) ⟨Nat.le_of_ble_eq_true rfl, Nat.le_of_ble_eq_true rfl⟩ rfl dX6_readSum_52 (fun r0 q0 => by obtain ⟨v9, h9, -⟩ := Option.bind_eq_some_iff.mp (show (kStep w _).bind _ = some _ from q0); obtain ⟨i9, g9, -⟩ := Option.bind_eq_some_iff.mp (show (kx w _).bind _ = some _ from h9); exact kd_O C g9) (fun r0 q0 => c_Kd_step l w _ _ _ q0) (fun r1011 er1011 _ => ?_)
        refine j_istore_n C [(3, _), (0, _), (1, _), (2, _)] dX6_readSum_55 (i := 3) rfl (by decide) rfl ?_
        refine j_aload_n C dX6_readSum_56 (i := 0) rfl rfl ?_
        refine j_getR C g_X6_21 dX6_readSum_57 (fun v1012 ev1012 => ?_)
        refine j_callVim C (As := []) (rest := []) k_X6_253 ⟨by simp only [rm_g_Rd_readProduct]; omega, by simp only [rm_g_Rd_readProduct]; omega⟩ rfl (Nat.le_of_ble_eq_true rfl) ⟨Nat.le_of_ble_eq_true rfl, Nat.le_of_ble_eq_true rfl⟩ rfl dX6_readSum_60 (fun r0 q0 => c_Sc_takeAny l w _ _ _ q0) (fun r1013 er1013 nr1013 => ?_)
        refine j_ifeq C (tgt := 74) dX6_readSum_63 (by decide) (fun q1014 => ?_) (fun q1014 => ?_)
        · refine j_iconst C (v := 0) dX6_readSum_74 (by decide) ?_
          exact e_iretM C hQ hr rfl hlk dX6_readSum_75 (Nat.le_of_ble_eq_true rfl) (Nat.le_of_ble_eq_true rfl)
        · refine j_aload_n C dX6_readSum_66 (i := 0) rfl rfl ?_
          refine j_iload_n C dX6_readSum_67 (i := 1) rfl rfl ?_
          refine j_callVim C (As := [.int _]) (rest := []) k_X6_256 ⟨by simp only [rm_g_Rd_readProduct]; omega, by simp only [rm_g_Rd_readProduct]; omega⟩ rfl (Nat.le_of_ble_eq_true rfl) ⟨Nat.le_of_ble_eq_true rfl, Nat.le_of_ble_eq_true rfl⟩ rfl dX6_readSum_68 (fun r0 q0 => hrec0 _ _ _ r0 q0) (fun r1015 er1015 nr1015 => ?_)
          refine j_ifne C (tgt := 76) dX6_readSum_71 (by decide) (fun q1016 => ?_) (fun q1016 => ?_)
          · refine j_iconst C (v := 0) dX6_readSum_74 (by decide) ?_
            exact e_iretM C hQ hr rfl hlk dX6_readSum_75 (Nat.le_of_ble_eq_true rfl) (Nat.le_of_ble_eq_true rfl)
          · refine j_aload_n C dX6_readSum_76 (i := 0) rfl rfl ?_
            refine j_iload_n C dX6_readSum_77 (i := 3) rfl rfl ?_
            refine j_iconst C (v := 0) dX6_readSum_78 (by decide) ?_
            refine j_iconst C (v := 0) dX6_readSum_79 (by decide) ?_
            refine j_callVim C (As := [.int _, .int _, .int _]) (rest := []) k_X6_211 ⟨by simp only [rm_g_Rd_readProduct]; omega, by simp only [rm_g_Rd_readProduct]; omega⟩ rfl (Nat.le_of_ble_eq_true rfl) ⟨Nat.le_of_ble_eq_true rfl, Nat.le_of_ble_eq_true rfl⟩ rfl dX6_readSum_80 (fun r0 q0 => c_Rd_write l w _ _ _ _ _ _ q0) (fun r1017 er1017 nr1017 => ?_)
            refine j_pop C dX6_readSum_83 rfl ?_
            refine j_iinc C (v := x2 + 1) [(2, _), (3, _), (0, _), (1, _)] dX6_readSum_84 rfl rfl (by decide) rfl ?_
            refine j_goto C (tgt := 12) dX6_readSum_87 (by decide) ?_
            exact j_sub [2, 3, 0] rfl (ih _ _)
      · refine j_aload_n C dX6_readSum_19 (i := 0) rfl rfl ?_
        refine j_getR C g_X6_21 dX6_readSum_20 (fun v1018 ev1018 => ?_)
        refine j_kind C s_X6_259 (by decide) dX6_readSum_23 ?_
        refine j_callVi C (As := [.ref _]) (rest := []) k_X6_50 ⟨by simp only [rm_g_Rd_readProduct]; omega, by simp only [rm_g_Rd_readProduct]; omega⟩ rfl (Nat.le_of_ble_eq_true rfl) ⟨Nat.le_of_ble_eq_true rfl, Nat.le_of_ble_eq_true rfl⟩ rfl dX6_readSum_26 (fun r0 q0 => c_Sc_isAt l w _ _ _ _ q0) (fun r1019 er1019 nr1019 => ?_)
        refine j_ifne C (tgt := 45) dX6_readSum_29 (by decide) (fun q1020 => ?_) (fun q1020 => ?_)
        · refine j_aload_n C dX6_readSum_32 (i := 0) rfl rfl ?_
          refine j_getR C g_X6_21 dX6_readSum_33 (fun v1021 ev1021 => ?_)
          refine j_kind C s_X6_262 (by decide) dX6_readSum_36 ?_
          refine j_callVi C (As := [.ref _]) (rest := []) k_X6_50 ⟨by simp only [rm_g_Rd_readProduct]; omega, by simp only [rm_g_Rd_readProduct]; omega⟩ rfl (Nat.le_of_ble_eq_true rfl) ⟨Nat.le_of_ble_eq_true rfl, Nat.le_of_ble_eq_true rfl⟩ rfl dX6_readSum_39 (fun r0 q0 => c_Sc_isAt l w _ _ _ _ q0) (fun r1022 er1022 nr1022 => ?_)
          refine j_ifeq C (tgt := 90) dX6_readSum_42 (by decide) (fun q1023 => ?_) (fun q1023 => ?_)
          · refine j_iconst C (v := 1) dX6_readSum_90 (by decide) ?_
            exact e_iretM C hQ hr rfl hlk dX6_readSum_91 (Nat.le_of_ble_eq_true rfl) (Nat.le_of_ble_eq_true rfl)
          · exact hj1008
        · exact hj1008
set_option maxRecDepth 100000 in
set_option maxHeartbeats 4000000 in
theorem cb_Rd_readSum (l : Launch) (w : hp_W) (fl : Nat) (nr : Nat) (rc : Nat → Nat → Int32 → hp_M → Option (Int32 × hp_M)) (hrec0 : ∀ (a : Nat) (z0 : Int32) (h : hp_M) (r : Int32 × hp_M), rc 0 a z0 h = some r → CT l w yX6_readProduct cX6_readProduct 4 (some .boolean) (rm_g_Rd_readProduct nr) [.ref a, .int z0] h (some (.int r.1)) r.2) (hrec1 : ∀ (a : Nat) (z0 : Int32) (h : hp_M) (r : Int32 × hp_M), rc 1 a z0 h = some r → CT l w yX6_readSum cX6_readSum 4 (some .boolean) (rm_g_Rd_readProduct nr) [.ref a, .int z0] h (some (.int r.1)) r.2) (hrec2 : ∀ (a : Nat) (z0 : Int32) (h : hp_M) (r : Int32 × hp_M), rc 2 a z0 h = some r → CT l w yX6_readValue cX6_readValue 3 (some .boolean) (rm_g_Rd_readProduct nr) [.ref a, .int z0] h (some (.int r.1)) r.2) (a0 : Nat) (x1 : Int32) (h : hp_M) (out : Int32 × hp_M) (hX : f_Rd_readSum_body w fl rc a0 x1 h = some out) : CT l w yX6_readSum cX6_readSum 4 (some .boolean) (rm_g_Rd_readProduct (nr + 1)) [.ref a0, .int x1] h (some (.int out.1)) out.2 := by
  unfold f_Rd_readSum_body at hX
  refine ct_of (by decide +kernel) (Nat.le_of_ble_eq_true rfl) hX ?_
  intro p e s m args below meth c Q C hr hlk hnm hQ
  refine j_aload_n C dX6_readSum_0 (i := 0) rfl rfl ?_
  refine j_iload_n C dX6_readSum_1 (i := 1) rfl rfl ?_
  refine j_callVim C (As := [.int _]) (rest := []) k_X6_256 ⟨by simp only [rm_g_Rd_readProduct]; omega, by simp only [rm_g_Rd_readProduct]; omega⟩ rfl (Nat.le_of_ble_eq_true rfl) ⟨Nat.le_of_ble_eq_true rfl, Nat.le_of_ble_eq_true rfl⟩ rfl dX6_readSum_2 (fun r0 q0 => hrec0 _ _ _ r0 q0) (fun r1 er1 nr1 => ?_)
  refine j_ifne C (tgt := 10) dX6_readSum_5 (by decide) (fun q2 => ?_) (fun q2 => ?_)
  · refine j_iconst C (v := 0) dX6_readSum_8 (by decide) ?_
    exact e_iretM C hQ hr rfl hlk dX6_readSum_9 (Nat.le_of_ble_eq_true rfl) (Nat.le_of_ble_eq_true rfl)
  · refine j_iconst C (v := 0) dX6_readSum_10 (by decide) ?_
    refine j_istore_n C [(2, _), (0, _), (1, _)] dX6_readSum_11 (i := 2) rfl (by decide) rfl ?_
    refine j_sub [1, 2, 0] rfl (b_Rd_readSum_12 fl nr rc hrec0 hrec1 hrec2  _ _ C hr hlk hnm hQ  _ _ _)
set_option maxRecDepth 100000 in
set_option maxHeartbeats 4000000 in
theorem cb_Rd_readValue (l : Launch) (w : hp_W) (fl : Nat) (nr : Nat) (rc : Nat → Nat → Int32 → hp_M → Option (Int32 × hp_M)) (hrec0 : ∀ (a : Nat) (z0 : Int32) (h : hp_M) (r : Int32 × hp_M), rc 0 a z0 h = some r → CT l w yX6_readProduct cX6_readProduct 4 (some .boolean) (rm_g_Rd_readProduct nr) [.ref a, .int z0] h (some (.int r.1)) r.2) (hrec1 : ∀ (a : Nat) (z0 : Int32) (h : hp_M) (r : Int32 × hp_M), rc 1 a z0 h = some r → CT l w yX6_readSum cX6_readSum 4 (some .boolean) (rm_g_Rd_readProduct nr) [.ref a, .int z0] h (some (.int r.1)) r.2) (hrec2 : ∀ (a : Nat) (z0 : Int32) (h : hp_M) (r : Int32 × hp_M), rc 2 a z0 h = some r → CT l w yX6_readValue cX6_readValue 3 (some .boolean) (rm_g_Rd_readProduct nr) [.ref a, .int z0] h (some (.int r.1)) r.2) (a0 : Nat) (x1 : Int32) (h : hp_M) (out : Int32 × hp_M) (hX : f_Rd_readValue_body w fl rc a0 x1 h = some out) : CT l w yX6_readValue cX6_readValue 3 (some .boolean) (rm_g_Rd_readProduct (nr + 1)) [.ref a0, .int x1] h (some (.int out.1)) out.2 := by
  unfold f_Rd_readValue_body at hX
  refine ct_of (by decide +kernel) (Nat.le_of_ble_eq_true rfl) hX ?_
  intro p e s m args below meth c Q C hr hlk hnm hQ
  refine j_aload_n C dX6_readValue_0 (i := 0) rfl rfl ?_
  refine j_getR C g_X6_21 dX6_readValue_1 (fun v1 ev1 => ?_)
  refine j_callVr C (As := []) (rest := []) k_X6_243 ⟨by simp only [rm_g_Rd_readProduct]; omega, by simp only [rm_g_Rd_readProduct]; omega⟩ rfl (Nat.le_of_ble_eq_true rfl) ⟨Nat.le_of_ble_eq_true rfl, Nat.le_of_ble_eq_true rfl⟩ rfl dX6_readValue_4 (fun r0 q0 => c_Sc_kind l w _ _ _ q0) (fun r2 er2 nr2 => ?_)
  refine j_callO C (As := []) (rest := []) k_X6_247 ⟨by simp only [rm_g_Rd_readProduct]; omega, by simp only [rm_g_Rd_readProduct]; omega⟩ rfl (Nat.le_of_ble_eq_true rfl) ⟨Nat.le_of_ble_eq_true rfl, Nat.le_of_ble_eq_true rfl⟩ rfl dX6_readValue_7 (fun r0 q0 => by obtain ⟨v9, h9, -⟩ := Option.bind_eq_some_iff.mp (show (kStep w _).bind _ = some _ from q0); obtain ⟨i9, g9, -⟩ := Option.bind_eq_some_iff.mp (show (kx w _).bind _ = some _ from h9); exact kd_O C g9) (fun r0 q0 => c_Kd_step l w _ _ _ q0) (fun r3 er3 _ => ?_)
  refine j_istore_n C [(2, _), (0, _), (1, _)] dX6_readValue_10 (i := 2) rfl (by decide) rfl ?_
  refine j_aload_n C dX6_readValue_11 (i := 0) rfl rfl ?_
  refine j_getR C g_X6_21 dX6_readValue_12 (fun v4 ev4 => ?_)
  refine j_kind C s_X6_199 (by decide) dX6_readValue_15 ?_
  refine j_callVi C (As := [.ref _]) (rest := []) k_X6_50 ⟨by simp only [rm_g_Rd_readProduct]; omega, by simp only [rm_g_Rd_readProduct]; omega⟩ rfl (Nat.le_of_ble_eq_true rfl) ⟨Nat.le_of_ble_eq_true rfl, Nat.le_of_ble_eq_true rfl⟩ rfl dX6_readValue_18 (fun r0 q0 => c_Sc_isAt l w _ _ _ _ q0) (fun r5 er5 nr5 => ?_)
  refine j_ifeq C (tgt := 56) dX6_readValue_21 (by decide) (fun q6 => ?_) (fun q6 => ?_)
  · refine j_jn (P := fun j11 => J p l e (rm_g_Rd_readProduct (nr + 1)) s m args below meth c Q w 3 0 0 82 [(0, .ref a0), (2, .int r3)] [] h (j11) out) ?_ (fun j11 hj11 => ?_)
    · refine j_jn (P := fun (j15 : hp_M → Option (Int32 × hp_M)) => ∀ (h16 : hp_M), J p l e (rm_g_Rd_readProduct (nr + 1)) s m args below meth c Q w 3 0 0 106 [] [] h16 (j15 h16) out) ?_ (fun j15 hj15 => ?_)
      · intro h16
        refine j_iconst C (v := 0) dX6_readValue_106 (by decide) ?_
        exact e_iretM C hQ hr rfl hlk dX6_readValue_107 (Nat.le_of_ble_eq_true rfl) (Nat.le_of_ble_eq_true rfl)
      · refine j_aload_n C dX6_readValue_82 (i := 0) rfl rfl ?_
        refine j_iload_n C dX6_readValue_83 (i := 2) rfl rfl ?_
        refine j_iconst C (v := 0) dX6_readValue_84 (by decide) ?_
        refine j_iconst C (v := 0) dX6_readValue_85 (by decide) ?_
        refine j_callVim C (As := [.int _, .int _, .int _]) (rest := []) k_X6_211 ⟨by simp only [rm_g_Rd_readProduct]; omega, by simp only [rm_g_Rd_readProduct]; omega⟩ rfl (Nat.le_of_ble_eq_true rfl) ⟨Nat.le_of_ble_eq_true rfl, Nat.le_of_ble_eq_true rfl⟩ rfl dX6_readValue_86 (fun r0 q0 => c_Rd_write l w _ _ _ _ _ _ q0) (fun r17 er17 nr17 => ?_)
        refine j_ifeq C (tgt := 106) dX6_readValue_89 (by decide) (fun q18 => ?_) (fun q18 => ?_)
        · exact j_sub [] rfl (hj15 _)
        · refine j_aload_n C dX6_readValue_92 (i := 0) rfl rfl ?_
          refine j_getR C g_X6_21 dX6_readValue_93 (fun v19 ev19 => ?_)
          refine j_callVim C (As := []) (rest := []) k_X6_253 ⟨by simp only [rm_g_Rd_readProduct]; omega, by simp only [rm_g_Rd_readProduct]; omega⟩ rfl (Nat.le_of_ble_eq_true rfl) ⟨Nat.le_of_ble_eq_true rfl, Nat.le_of_ble_eq_true rfl⟩ rfl dX6_readValue_96 (fun r0 q0 => c_Sc_takeAny l w _ _ _ q0) (fun r20 er20 nr20 => ?_)
          refine j_ifeq C (tgt := 106) dX6_readValue_99 (by decide) (fun q21 => ?_) (fun q21 => ?_)
          · exact j_sub [] rfl (hj15 _)
          · refine j_iconst C (v := 1) dX6_readValue_102 (by decide) ?_
            refine j_goto C (tgt := 107) dX6_readValue_103 (by decide) ?_
            exact e_iretM C hQ hr rfl hlk dX6_readValue_107 (Nat.le_of_ble_eq_true rfl) (Nat.le_of_ble_eq_true rfl)
    · refine j_aload_n C dX6_readValue_56 (i := 0) rfl rfl ?_
      refine j_getR C g_X6_21 dX6_readValue_57 (fun v22 ev22 => ?_)
      refine j_kind C s_X6_271 (by decide) dX6_readValue_60 ?_
      refine j_callVi C (As := [.ref _]) (rest := []) k_X6_50 ⟨by simp only [rm_g_Rd_readProduct]; omega, by simp only [rm_g_Rd_readProduct]; omega⟩ rfl (Nat.le_of_ble_eq_true rfl) ⟨Nat.le_of_ble_eq_true rfl, Nat.le_of_ble_eq_true rfl⟩ rfl dX6_readValue_63 (fun r0 q0 => c_Sc_isAt l w _ _ _ _ q0) (fun r23 er23 nr23 => ?_)
      refine j_ifne C (tgt := 82) dX6_readValue_66 (by decide) (fun q24 => ?_) (fun q24 => ?_)
      · refine j_aload_n C dX6_readValue_69 (i := 0) rfl rfl ?_
        refine j_getR C g_X6_21 dX6_readValue_70 (fun v25 ev25 => ?_)
        refine j_kind C s_X6_274 (by decide) dX6_readValue_73 ?_
        refine j_callVi C (As := [.ref _]) (rest := []) k_X6_50 ⟨by simp only [rm_g_Rd_readProduct]; omega, by simp only [rm_g_Rd_readProduct]; omega⟩ rfl (Nat.le_of_ble_eq_true rfl) ⟨Nat.le_of_ble_eq_true rfl, Nat.le_of_ble_eq_true rfl⟩ rfl dX6_readValue_76 (fun r0 q0 => c_Sc_isAt l w _ _ _ _ q0) (fun r26 er26 nr26 => ?_)
        refine j_ifeq C (tgt := 108) dX6_readValue_79 (by decide) (fun q27 => ?_) (fun q27 => ?_)
        · refine j_jn (P := fun j32 => J p l e (rm_g_Rd_readProduct (nr + 1)) s m args below meth c Q w 3 0 0 134 [(0, .ref a0), (2, .int r3)] [] h (j32) out) ?_ (fun j32 hj32 => ?_)
          · refine j_jn (P := fun (j38 : hp_M → Option (Int32 × hp_M)) => ∀ (h39 : hp_M), J p l e (rm_g_Rd_readProduct (nr + 1)) s m args below meth c Q w 3 0 0 169 [] [] h39 (j38 h39) out) ?_ (fun j38 hj38 => ?_)
            · intro h39
              refine j_iconst C (v := 0) dX6_readValue_169 (by decide) ?_
              exact e_iretM C hQ hr rfl hlk dX6_readValue_170 (Nat.le_of_ble_eq_true rfl) (Nat.le_of_ble_eq_true rfl)
            · refine j_aload_n C dX6_readValue_134 (i := 0) rfl rfl ?_
              refine j_getR C g_X6_21 dX6_readValue_135 (fun v40 ev40 => ?_)
              refine j_callVim C (As := []) (rest := []) k_X6_253 ⟨by simp only [rm_g_Rd_readProduct]; omega, by simp only [rm_g_Rd_readProduct]; omega⟩ rfl (Nat.le_of_ble_eq_true rfl) ⟨Nat.le_of_ble_eq_true rfl, Nat.le_of_ble_eq_true rfl⟩ rfl dX6_readValue_138 (fun r0 q0 => c_Sc_takeAny l w _ _ _ q0) (fun r41 er41 nr41 => ?_)
              refine j_ifeq C (tgt := 169) dX6_readValue_141 (by decide) (fun q42 => ?_) (fun q42 => ?_)
              · exact j_sub [] rfl (hj38 _)
              · refine j_aload_n C dX6_readValue_144 (i := 0) rfl rfl ?_
                refine j_iconst C (v := 0) dX6_readValue_145 (by decide) ?_
                refine j_callVim C (As := [.int _]) (rest := []) k_X6_192 ⟨by simp only [rm_g_Rd_readProduct]; omega, by simp only [rm_g_Rd_readProduct]; omega⟩ rfl (Nat.le_of_ble_eq_true rfl) ⟨Nat.le_of_ble_eq_true rfl, Nat.le_of_ble_eq_true rfl⟩ rfl dX6_readValue_146 (fun r0 q0 => c_Rd_readName l w fl _ _ _ _ q0) (fun r43 er43 nr43 => ?_)
                refine j_ifeq C (tgt := 169) dX6_readValue_149 (by decide) (fun q44 => ?_) (fun q44 => ?_)
                · exact j_sub [] rfl (hj38 _)
                · refine j_aload_n C dX6_readValue_152 (i := 0) rfl rfl ?_
                  refine j_iload_n C dX6_readValue_153 (i := 2) rfl rfl ?_
                  refine j_aload_n C dX6_readValue_154 (i := 0) rfl rfl ?_
                  refine j_getI C g_X6_115 dX6_readValue_155 (fun v45 ev45 => ?_)
                  refine j_iconst C (v := 0) dX6_readValue_158 (by decide) ?_
                  refine j_callVim C (As := [.int _, .int _, .int _]) (rest := []) k_X6_211 ⟨by simp only [rm_g_Rd_readProduct]; omega, by simp only [rm_g_Rd_readProduct]; omega⟩ rfl (Nat.le_of_ble_eq_true rfl) ⟨Nat.le_of_ble_eq_true rfl, Nat.le_of_ble_eq_true rfl⟩ rfl dX6_readValue_159 (fun r0 q0 => c_Rd_write l w _ _ _ _ _ _ q0) (fun r46 er46 nr46 => ?_)
                  refine j_ifeq C (tgt := 169) dX6_readValue_162 (by decide) (fun q47 => ?_) (fun q47 => ?_)
                  · exact j_sub [] rfl (hj38 _)
                  · refine j_iconst C (v := 1) dX6_readValue_165 (by decide) ?_
                    refine j_goto C (tgt := 170) dX6_readValue_166 (by decide) ?_
                    exact e_iretM C hQ hr rfl hlk dX6_readValue_170 (Nat.le_of_ble_eq_true rfl) (Nat.le_of_ble_eq_true rfl)
          · refine j_aload_n C dX6_readValue_108 (i := 0) rfl rfl ?_
            refine j_getR C g_X6_21 dX6_readValue_109 (fun v48 ev48 => ?_)
            refine j_kind C s_X6_277 (by decide) dX6_readValue_112 ?_
            refine j_callVi C (As := [.ref _]) (rest := []) k_X6_50 ⟨by simp only [rm_g_Rd_readProduct]; omega, by simp only [rm_g_Rd_readProduct]; omega⟩ rfl (Nat.le_of_ble_eq_true rfl) ⟨Nat.le_of_ble_eq_true rfl, Nat.le_of_ble_eq_true rfl⟩ rfl dX6_readValue_115 (fun r0 q0 => c_Sc_isAt l w _ _ _ _ q0) (fun r49 er49 nr49 => ?_)
            refine j_ifne C (tgt := 134) dX6_readValue_118 (by decide) (fun q50 => ?_) (fun q50 => ?_)
            · refine j_aload_n C dX6_readValue_121 (i := 0) rfl rfl ?_
              refine j_getR C g_X6_21 dX6_readValue_122 (fun v51 ev51 => ?_)
              refine j_kind C s_X6_280 (by decide) dX6_readValue_125 ?_
              refine j_callVi C (As := [.ref _]) (rest := []) k_X6_50 ⟨by simp only [rm_g_Rd_readProduct]; omega, by simp only [rm_g_Rd_readProduct]; omega⟩ rfl (Nat.le_of_ble_eq_true rfl) ⟨Nat.le_of_ble_eq_true rfl, Nat.le_of_ble_eq_true rfl⟩ rfl dX6_readValue_128 (fun r0 q0 => c_Sc_isAt l w _ _ _ _ q0) (fun r52 er52 nr52 => ?_)
              refine j_ifeq C (tgt := 171) dX6_readValue_131 (by decide) (fun q53 => ?_) (fun q53 => ?_)
              · refine j_aload_n C dX6_readValue_171 (i := 0) rfl rfl ?_
                refine j_getR C g_X6_21 dX6_readValue_172 (fun v54 ev54 => ?_)
                refine j_kind C s_X6_283 (by decide) dX6_readValue_175 ?_
                refine j_callVi C (As := [.ref _]) (rest := []) k_X6_50 ⟨by simp only [rm_g_Rd_readProduct]; omega, by simp only [rm_g_Rd_readProduct]; omega⟩ rfl (Nat.le_of_ble_eq_true rfl) ⟨Nat.le_of_ble_eq_true rfl, Nat.le_of_ble_eq_true rfl⟩ rfl dX6_readValue_178 (fun r0 q0 => c_Sc_isAt l w _ _ _ _ q0) (fun r55 er55 nr55 => ?_)
                refine j_ifeq C (tgt := 189) dX6_readValue_181 (by decide) (fun q56 => ?_) (fun q56 => ?_)
                · refine j_aload_n C dX6_readValue_189 (i := 0) rfl rfl ?_
                  refine j_getR C g_X6_21 dX6_readValue_190 (fun v57 ev57 => ?_)
                  refine j_kind C s_X6_262 (by decide) dX6_readValue_193 ?_
                  refine j_callVi C (As := [.ref _]) (rest := []) k_X6_50 ⟨by simp only [rm_g_Rd_readProduct]; omega, by simp only [rm_g_Rd_readProduct]; omega⟩ rfl (Nat.le_of_ble_eq_true rfl) ⟨Nat.le_of_ble_eq_true rfl, Nat.le_of_ble_eq_true rfl⟩ rfl dX6_readValue_196 (fun r0 q0 => c_Sc_isAt l w _ _ _ _ q0) (fun r58 er58 nr58 => ?_)
                  refine j_ifeq C (tgt := 240) dX6_readValue_199 (by decide) (fun q59 => ?_) (fun q59 => ?_)
                  · refine j_jn (P := fun j64 => J p l e (rm_g_Rd_readProduct (nr + 1)) s m args below meth c Q w 3 0 0 266 [(0, .ref a0), (1, .int x1), (2, .int r3)] [] h (j64) out) ?_ (fun j64 hj64 => ?_)
                    · refine j_jn (P := fun (j75 : hp_M → Option (Int32 × hp_M)) => ∀ (h76 : hp_M), J p l e (rm_g_Rd_readProduct (nr + 1)) s m args below meth c Q w 3 0 0 347 [] [] h76 (j75 h76) out) ?_ (fun j75 hj75 => ?_)
                      · intro h76
                        refine j_iconst C (v := 0) dX6_readValue_347 (by decide) ?_
                        exact e_iretM C hQ hr rfl hlk dX6_readValue_348 (Nat.le_of_ble_eq_true rfl) (Nat.le_of_ble_eq_true rfl)
                      · refine j_aload_n C dX6_readValue_266 (i := 0) rfl rfl ?_
                        refine j_getR C g_X6_21 dX6_readValue_267 (fun v77 ev77 => ?_)
                        refine j_callVim C (As := []) (rest := []) k_X6_253 ⟨by simp only [rm_g_Rd_readProduct]; omega, by simp only [rm_g_Rd_readProduct]; omega⟩ rfl (Nat.le_of_ble_eq_true rfl) ⟨Nat.le_of_ble_eq_true rfl, Nat.le_of_ble_eq_true rfl⟩ rfl dX6_readValue_270 (fun r0 q0 => c_Sc_takeAny l w _ _ _ q0) (fun r78 er78 nr78 => ?_)
                        refine j_ifeq C (tgt := 347) dX6_readValue_273 (by decide) (fun q79 => ?_) (fun q79 => ?_)
                        · exact j_sub [] rfl (hj75 _)
                        · refine j_aload_n C dX6_readValue_276 (i := 0) rfl rfl ?_
                          refine j_kind C s_X6_292 (by decide) dX6_readValue_277 ?_
                          refine j_iload_n C dX6_readValue_280 (i := 1) rfl rfl ?_
                          refine j_callVim C (As := [.ref _, .int _]) (rest := []) k_X6_224 ⟨by simp only [rm_g_Rd_readProduct]; omega, by simp only [rm_g_Rd_readProduct]; omega⟩ rfl (Nat.le_of_ble_eq_true rfl) ⟨Nat.le_of_ble_eq_true rfl, Nat.le_of_ble_eq_true rfl⟩ rfl dX6_readValue_281 (fun r0 q0 => c_Rd_takeDeeper l w _ _ _ _ _ q0) (fun r80 er80 nr80 => ?_)
                          refine j_ifeq C (tgt := 347) dX6_readValue_284 (by decide) (fun q81 => ?_) (fun q81 => ?_)
                          · exact j_sub [] rfl (hj75 _)
                          · refine j_aload_n C dX6_readValue_287 (i := 0) rfl rfl ?_
                            refine j_iload_n C dX6_readValue_288 (i := 1) rfl rfl ?_
                            refine j_iconst C (v := 1) dX6_readValue_289 (by decide) ?_
                            refine j_iadd C dX6_readValue_290 ?_
                            refine j_callVim C (As := [.int _]) (rest := []) k_X6_186 ⟨by simp only [rm_g_Rd_readProduct]; omega, by simp only [rm_g_Rd_readProduct]; omega⟩ rfl (Nat.le_of_ble_eq_true rfl) ⟨Nat.le_of_ble_eq_true rfl, Nat.le_of_ble_eq_true rfl⟩ rfl dX6_readValue_291 (fun r0 q0 => hrec1 _ _ _ r0 q0) (fun r82 er82 nr82 => ?_)
                            refine j_ifeq C (tgt := 347) dX6_readValue_294 (by decide) (fun q83 => ?_) (fun q83 => ?_)
                            · exact j_sub [] rfl (hj75 _)
                            · refine j_aload_n C dX6_readValue_297 (i := 0) rfl rfl ?_
                              refine j_getR C g_X6_21 dX6_readValue_298 (fun v84 ev84 => ?_)
                              refine j_kind C s_X6_295 (by decide) dX6_readValue_301 ?_
                              refine j_callVim C (As := [.ref _]) (rest := []) k_X6_77 ⟨by simp only [rm_g_Rd_readProduct]; omega, by simp only [rm_g_Rd_readProduct]; omega⟩ rfl (Nat.le_of_ble_eq_true rfl) ⟨Nat.le_of_ble_eq_true rfl, Nat.le_of_ble_eq_true rfl⟩ rfl dX6_readValue_304 (fun r0 q0 => c_Sc_take l w _ _ _ _ q0) (fun r85 er85 nr85 => ?_)
                              refine j_ifeq C (tgt := 347) dX6_readValue_307 (by decide) (fun q86 => ?_) (fun q86 => ?_)
                              · exact j_sub [] rfl (hj75 _)
                              · refine j_aload_n C dX6_readValue_310 (i := 0) rfl rfl ?_
                                refine j_iload_n C dX6_readValue_311 (i := 1) rfl rfl ?_
                                refine j_iconst C (v := 1) dX6_readValue_312 (by decide) ?_
                                refine j_iadd C dX6_readValue_313 ?_
                                refine j_callVim C (As := [.int _]) (rest := []) k_X6_186 ⟨by simp only [rm_g_Rd_readProduct]; omega, by simp only [rm_g_Rd_readProduct]; omega⟩ rfl (Nat.le_of_ble_eq_true rfl) ⟨Nat.le_of_ble_eq_true rfl, Nat.le_of_ble_eq_true rfl⟩ rfl dX6_readValue_314 (fun r0 q0 => hrec1 _ _ _ r0 q0) (fun r87 er87 nr87 => ?_)
                                refine j_ifeq C (tgt := 347) dX6_readValue_317 (by decide) (fun q88 => ?_) (fun q88 => ?_)
                                · exact j_sub [] rfl (hj75 _)
                                · refine j_aload_n C dX6_readValue_320 (i := 0) rfl rfl ?_
                                  refine j_getR C g_X6_21 dX6_readValue_321 (fun v89 ev89 => ?_)
                                  refine j_kind C s_X6_298 (by decide) dX6_readValue_324 ?_
                                  refine j_callVim C (As := [.ref _]) (rest := []) k_X6_77 ⟨by simp only [rm_g_Rd_readProduct]; omega, by simp only [rm_g_Rd_readProduct]; omega⟩ rfl (Nat.le_of_ble_eq_true rfl) ⟨Nat.le_of_ble_eq_true rfl, Nat.le_of_ble_eq_true rfl⟩ rfl dX6_readValue_327 (fun r0 q0 => c_Sc_take l w _ _ _ _ q0) (fun r90 er90 nr90 => ?_)
                                  refine j_ifeq C (tgt := 347) dX6_readValue_330 (by decide) (fun q91 => ?_) (fun q91 => ?_)
                                  · exact j_sub [] rfl (hj75 _)
                                  · refine j_aload_n C dX6_readValue_333 (i := 0) rfl rfl ?_
                                    refine j_iload_n C dX6_readValue_334 (i := 2) rfl rfl ?_
                                    refine j_iconst C (v := 0) dX6_readValue_335 (by decide) ?_
                                    refine j_iconst C (v := 0) dX6_readValue_336 (by decide) ?_
                                    refine j_callVim C (As := [.int _, .int _, .int _]) (rest := []) k_X6_211 ⟨by simp only [rm_g_Rd_readProduct]; omega, by simp only [rm_g_Rd_readProduct]; omega⟩ rfl (Nat.le_of_ble_eq_true rfl) ⟨Nat.le_of_ble_eq_true rfl, Nat.le_of_ble_eq_true rfl⟩ rfl dX6_readValue_337 (fun r0 q0 => c_Rd_write l w _ _ _ _ _ _ q0) (fun r92 er92 nr92 => ?_)
                                    refine j_ifeq C (tgt := 347) dX6_readValue_340 (by decide) (fun q93 => ?_) (fun q93 => ?_)
                                    · exact j_sub [] rfl (hj75 _)
                                    · refine j_iconst C (v := 1) dX6_readValue_343 (by decide) ?_
                                      refine j_goto C (tgt := 348) dX6_readValue_344 (by decide) ?_
                                      exact e_iretM C hQ hr rfl hlk dX6_readValue_348 (Nat.le_of_ble_eq_true rfl) (Nat.le_of_ble_eq_true rfl)
                    · refine j_aload_n C dX6_readValue_240 (i := 0) rfl rfl ?_
                      refine j_getR C g_X6_21 dX6_readValue_241 (fun v94 ev94 => ?_)
                      refine j_kind C s_X6_286 (by decide) dX6_readValue_244 ?_
                      refine j_callVi C (As := [.ref _]) (rest := []) k_X6_50 ⟨by simp only [rm_g_Rd_readProduct]; omega, by simp only [rm_g_Rd_readProduct]; omega⟩ rfl (Nat.le_of_ble_eq_true rfl) ⟨Nat.le_of_ble_eq_true rfl, Nat.le_of_ble_eq_true rfl⟩ rfl dX6_readValue_247 (fun r0 q0 => c_Sc_isAt l w _ _ _ _ q0) (fun r95 er95 nr95 => ?_)
                      refine j_ifne C (tgt := 266) dX6_readValue_250 (by decide) (fun q96 => ?_) (fun q96 => ?_)
                      · refine j_aload_n C dX6_readValue_253 (i := 0) rfl rfl ?_
                        refine j_getR C g_X6_21 dX6_readValue_254 (fun v97 ev97 => ?_)
                        refine j_kind C s_X6_289 (by decide) dX6_readValue_257 ?_
                        refine j_callVi C (As := [.ref _]) (rest := []) k_X6_50 ⟨by simp only [rm_g_Rd_readProduct]; omega, by simp only [rm_g_Rd_readProduct]; omega⟩ rfl (Nat.le_of_ble_eq_true rfl) ⟨Nat.le_of_ble_eq_true rfl, Nat.le_of_ble_eq_true rfl⟩ rfl dX6_readValue_260 (fun r0 q0 => c_Sc_isAt l w _ _ _ _ q0) (fun r98 er98 nr98 => ?_)
                        refine j_ifeq C (tgt := 349) dX6_readValue_263 (by decide) (fun q99 => ?_) (fun q99 => ?_)
                        · refine j_jn (P := fun (j104 : hp_M → Option (Int32 × hp_M)) => ∀ (h105 : hp_M), J p l e (rm_g_Rd_readProduct (nr + 1)) s m args below meth c Q w 3 0 0 387 [] [] h105 (j104 h105) out) ?_ (fun j104 hj104 => ?_)
                          · intro h105
                            refine j_iconst C (v := 0) dX6_readValue_387 (by decide) ?_
                            exact e_iretM C hQ hr rfl hlk dX6_readValue_388 (Nat.le_of_ble_eq_true rfl) (Nat.le_of_ble_eq_true rfl)
                          · refine j_aload_n C dX6_readValue_349 (i := 0) rfl rfl ?_
                            refine j_kind C s_X6_292 (by decide) dX6_readValue_350 ?_
                            refine j_iload_n C dX6_readValue_353 (i := 1) rfl rfl ?_
                            refine j_callVim C (As := [.ref _, .int _]) (rest := []) k_X6_224 ⟨by simp only [rm_g_Rd_readProduct]; omega, by simp only [rm_g_Rd_readProduct]; omega⟩ rfl (Nat.le_of_ble_eq_true rfl) ⟨Nat.le_of_ble_eq_true rfl, Nat.le_of_ble_eq_true rfl⟩ rfl dX6_readValue_354 (fun r0 q0 => c_Rd_takeDeeper l w _ _ _ _ _ q0) (fun r106 er106 nr106 => ?_)
                            refine j_ifeq C (tgt := 387) dX6_readValue_357 (by decide) (fun q107 => ?_) (fun q107 => ?_)
                            · exact j_sub [] rfl (hj104 _)
                            · refine j_aload_n C dX6_readValue_360 (i := 0) rfl rfl ?_
                              refine j_iload_n C dX6_readValue_361 (i := 1) rfl rfl ?_
                              refine j_iconst C (v := 1) dX6_readValue_362 (by decide) ?_
                              refine j_iadd C dX6_readValue_363 ?_
                              refine j_callVim C (As := [.int _]) (rest := []) k_X6_186 ⟨by simp only [rm_g_Rd_readProduct]; omega, by simp only [rm_g_Rd_readProduct]; omega⟩ rfl (Nat.le_of_ble_eq_true rfl) ⟨Nat.le_of_ble_eq_true rfl, Nat.le_of_ble_eq_true rfl⟩ rfl dX6_readValue_364 (fun r0 q0 => hrec1 _ _ _ r0 q0) (fun r108 er108 nr108 => ?_)
                              refine j_ifeq C (tgt := 387) dX6_readValue_367 (by decide) (fun q109 => ?_) (fun q109 => ?_)
                              · exact j_sub [] rfl (hj104 _)
                              · refine j_aload_n C dX6_readValue_370 (i := 0) rfl rfl ?_
                                refine j_getR C g_X6_21 dX6_readValue_371 (fun v110 ev110 => ?_)
                                refine j_kind C s_X6_298 (by decide) dX6_readValue_374 ?_
                                refine j_callVim C (As := [.ref _]) (rest := []) k_X6_77 ⟨by simp only [rm_g_Rd_readProduct]; omega, by simp only [rm_g_Rd_readProduct]; omega⟩ rfl (Nat.le_of_ble_eq_true rfl) ⟨Nat.le_of_ble_eq_true rfl, Nat.le_of_ble_eq_true rfl⟩ rfl dX6_readValue_377 (fun r0 q0 => c_Sc_take l w _ _ _ _ q0) (fun r111 er111 nr111 => ?_)
                                refine j_ifeq C (tgt := 387) dX6_readValue_380 (by decide) (fun q112 => ?_) (fun q112 => ?_)
                                · exact j_sub [] rfl (hj104 _)
                                · refine j_iconst C (v := 1) dX6_readValue_383 (by decide) ?_
                                  refine j_goto C (tgt := 388) dX6_readValue_384 (by decide) ?_
                                  exact e_iretM C hQ hr rfl hlk dX6_readValue_388 (Nat.le_of_ble_eq_true rfl) (Nat.le_of_ble_eq_true rfl)
                        · exact j_sub [1, 2, 0] rfl (hj64)
                      · exact j_sub [1, 2, 0] rfl (hj64)
                  · refine j_jn (P := fun (j116 : hp_M → Option (Int32 × hp_M)) => ∀ (h117 : hp_M), J p l e (rm_g_Rd_readProduct (nr + 1)) s m args below meth c Q w 3 0 0 238 [] [] h117 (j116 h117) out) ?_ (fun j116 hj116 => ?_)
                    · intro h117
                      refine j_iconst C (v := 0) dX6_readValue_238 (by decide) ?_
                      exact e_iretM C hQ hr rfl hlk dX6_readValue_239 (Nat.le_of_ble_eq_true rfl) (Nat.le_of_ble_eq_true rfl)
                    · refine j_aload_n C dX6_readValue_202 (i := 0) rfl rfl ?_
                      refine j_kind C s_X6_262 (by decide) dX6_readValue_203 ?_
                      refine j_iload_n C dX6_readValue_206 (i := 1) rfl rfl ?_
                      refine j_callVim C (As := [.ref _, .int _]) (rest := []) k_X6_224 ⟨by simp only [rm_g_Rd_readProduct]; omega, by simp only [rm_g_Rd_readProduct]; omega⟩ rfl (Nat.le_of_ble_eq_true rfl) ⟨Nat.le_of_ble_eq_true rfl, Nat.le_of_ble_eq_true rfl⟩ rfl dX6_readValue_207 (fun r0 q0 => c_Rd_takeDeeper l w _ _ _ _ _ q0) (fun r118 er118 nr118 => ?_)
                      refine j_ifeq C (tgt := 238) dX6_readValue_210 (by decide) (fun q119 => ?_) (fun q119 => ?_)
                      · exact j_sub [] rfl (hj116 _)
                      · refine j_aload_n C dX6_readValue_213 (i := 0) rfl rfl ?_
                        refine j_iload_n C dX6_readValue_214 (i := 1) rfl rfl ?_
                        refine j_iconst C (v := 1) dX6_readValue_215 (by decide) ?_
                        refine j_iadd C dX6_readValue_216 ?_
                        refine j_callVim C (As := [.int _]) (rest := []) k_X6_265 ⟨by simp only [rm_g_Rd_readProduct]; omega, by simp only [rm_g_Rd_readProduct]; omega⟩ rfl (Nat.le_of_ble_eq_true rfl) ⟨Nat.le_of_ble_eq_true rfl, Nat.le_of_ble_eq_true rfl⟩ rfl dX6_readValue_217 (fun r0 q0 => hrec2 _ _ _ r0 q0) (fun r120 er120 nr120 => ?_)
                        refine j_ifeq C (tgt := 238) dX6_readValue_220 (by decide) (fun q121 => ?_) (fun q121 => ?_)
                        · exact j_sub [] rfl (hj116 _)
                        · refine j_aload_n C dX6_readValue_223 (i := 0) rfl rfl ?_
                          refine j_bipush C (v := 9) dX6_readValue_224 (by decide) ?_
                          refine j_iconst C (v := 0) dX6_readValue_226 (by decide) ?_
                          refine j_iconst C (v := 0) dX6_readValue_227 (by decide) ?_
                          refine j_callVim C (As := [.int _, .int _, .int _]) (rest := []) k_X6_211 ⟨by simp only [rm_g_Rd_readProduct]; omega, by simp only [rm_g_Rd_readProduct]; omega⟩ rfl (Nat.le_of_ble_eq_true rfl) ⟨Nat.le_of_ble_eq_true rfl, Nat.le_of_ble_eq_true rfl⟩ rfl dX6_readValue_228 (fun r0 q0 => c_Rd_write l w _ _ _ _ _ _ q0) (fun r122 er122 nr122 => ?_)
                          refine j_ifeq C (tgt := 238) dX6_readValue_231 (by decide) (fun q123 => ?_) (fun q123 => ?_)
                          · exact j_sub [] rfl (hj116 _)
                          · refine j_iconst C (v := 1) dX6_readValue_234 (by decide) ?_
                            refine j_goto C (tgt := 239) dX6_readValue_235 (by decide) ?_
                            exact e_iretM C hQ hr rfl hlk dX6_readValue_239 (Nat.le_of_ble_eq_true rfl) (Nat.le_of_ble_eq_true rfl)
                · refine j_aload_n C dX6_readValue_184 (i := 0) rfl rfl ?_
                  refine j_callVim C (As := []) (rest := []) k_X6_240 ⟨by simp only [rm_g_Rd_readProduct]; omega, by simp only [rm_g_Rd_readProduct]; omega⟩ rfl (Nat.le_of_ble_eq_true rfl) ⟨Nat.le_of_ble_eq_true rfl, Nat.le_of_ble_eq_true rfl⟩ rfl dX6_readValue_185 (fun r0 q0 => c_Rd_readOfTwo l w fl _ _ _ q0) (fun r124 er124 nr124 => ?_)
                  exact e_iretM C hQ hr (nr124 _ _ rfl rfl) hlk dX6_readValue_188 (Nat.le_of_ble_eq_true rfl) (Nat.le_of_ble_eq_true rfl)
              · exact j_sub [1, 0] rfl (hj32)
            · exact j_sub [1, 0] rfl (hj32)
        · exact j_sub [1, 0] rfl (hj11)
      · exact j_sub [1, 0] rfl (hj11)
  · refine j_jn (P := fun (j130 : hp_M → Option (Int32 × hp_M)) => ∀ (h131 : hp_M), J p l e (rm_g_Rd_readProduct (nr + 1)) s m args below meth c Q w 3 0 0 54 [] [] h131 (j130 h131) out) ?_ (fun j130 hj130 => ?_)
    · intro h131
      refine j_iconst C (v := 0) dX6_readValue_54 (by decide) ?_
      exact e_iretM C hQ hr rfl hlk dX6_readValue_55 (Nat.le_of_ble_eq_true rfl) (Nat.le_of_ble_eq_true rfl)
    · refine j_aload_n C dX6_readValue_24 (i := 0) rfl rfl ?_
      refine j_iconst C (v := 0) dX6_readValue_25 (by decide) ?_
      refine j_aload_n C dX6_readValue_26 (i := 0) rfl rfl ?_
      refine j_getR C g_X6_21 dX6_readValue_27 (fun v132 ev132 => ?_)
      refine j_callVi C (As := []) (rest := [_, _]) k_X6_202 ⟨by simp only [rm_g_Rd_readProduct]; omega, by simp only [rm_g_Rd_readProduct]; omega⟩ rfl (Nat.le_of_ble_eq_true rfl) ⟨Nat.le_of_ble_eq_true rfl, Nat.le_of_ble_eq_true rfl⟩ rfl dX6_readValue_30 (fun r0 q0 => c_Sc_number l w _ _ _ q0) (fun r133 er133 nr133 => ?_)
      refine j_iconst C (v := 0) dX6_readValue_33 (by decide) ?_
      refine j_callVim C (As := [.int _, .int _, .int _]) (rest := []) k_X6_211 ⟨by simp only [rm_g_Rd_readProduct]; omega, by simp only [rm_g_Rd_readProduct]; omega⟩ rfl (Nat.le_of_ble_eq_true rfl) ⟨Nat.le_of_ble_eq_true rfl, Nat.le_of_ble_eq_true rfl⟩ rfl dX6_readValue_34 (fun r0 q0 => c_Rd_write l w _ _ _ _ _ _ q0) (fun r134 er134 nr134 => ?_)
      refine j_ifeq C (tgt := 54) dX6_readValue_37 (by decide) (fun q135 => ?_) (fun q135 => ?_)
      · exact j_sub [] rfl (hj130 _)
      · refine j_aload_n C dX6_readValue_40 (i := 0) rfl rfl ?_
        refine j_getR C g_X6_21 dX6_readValue_41 (fun v136 ev136 => ?_)
        refine j_callVim C (As := []) (rest := []) k_X6_253 ⟨by simp only [rm_g_Rd_readProduct]; omega, by simp only [rm_g_Rd_readProduct]; omega⟩ rfl (Nat.le_of_ble_eq_true rfl) ⟨Nat.le_of_ble_eq_true rfl, Nat.le_of_ble_eq_true rfl⟩ rfl dX6_readValue_44 (fun r0 q0 => c_Sc_takeAny l w _ _ _ q0) (fun r137 er137 nr137 => ?_)
        refine j_ifeq C (tgt := 54) dX6_readValue_47 (by decide) (fun q138 => ?_) (fun q138 => ?_)
        · exact j_sub [] rfl (hj130 _)
        · refine j_iconst C (v := 1) dX6_readValue_50 (by decide) ?_
          refine j_goto C (tgt := 55) dX6_readValue_51 (by decide) ?_
          exact e_iretM C hQ hr rfl hlk dX6_readValue_55 (Nat.le_of_ble_eq_true rfl) (Nat.le_of_ble_eq_true rfl)
theorem c_g_Rd_readProduct (l : Launch) (w : hp_W) (fl : Nat) : ∀ n : Nat, (∀ (a : Nat) (z0 : Int32) (h : hp_M) (r : Int32 × hp_M), g_Rd_readProduct w fl n 0 a z0 h = some r → CT l w yX6_readProduct cX6_readProduct 4 (some .boolean) (rm_g_Rd_readProduct n) [.ref a, .int z0] h (some (.int r.1)) r.2) ∧ (∀ (a : Nat) (z0 : Int32) (h : hp_M) (r : Int32 × hp_M), g_Rd_readProduct w fl n 1 a z0 h = some r → CT l w yX6_readSum cX6_readSum 4 (some .boolean) (rm_g_Rd_readProduct n) [.ref a, .int z0] h (some (.int r.1)) r.2) ∧ (∀ (a : Nat) (z0 : Int32) (h : hp_M) (r : Int32 × hp_M), g_Rd_readProduct w fl n 2 a z0 h = some r → CT l w yX6_readValue cX6_readValue 3 (some .boolean) (rm_g_Rd_readProduct n) [.ref a, .int z0] h (some (.int r.1)) r.2) := by
  intro n
  induction n with
  | zero => exact ⟨(fun a z0 h r q => nomatch q), (fun a z0 h r q => nomatch q), (fun a z0 h r q => nomatch q)⟩
  | succ n ih =>
    obtain ⟨ih0, ih1, ih2⟩ := ih
    exact ⟨fun a z0 h r q => cb_Rd_readProduct l w fl n (g_Rd_readProduct w fl n) ih0 ih1 ih2 a z0 h r (by first | exact q | simpa [g_Rd_readProduct] using q), fun a z0 h r q => cb_Rd_readSum l w fl n (g_Rd_readProduct w fl n) ih0 ih1 ih2 a z0 h r (by first | exact q | simpa [g_Rd_readProduct] using q), fun a z0 h r q => cb_Rd_readValue l w fl n (g_Rd_readProduct w fl n) ih0 ih1 ih2 a z0 h r (by first | exact q | simpa [g_Rd_readProduct] using q)⟩
theorem c_Rd_readProduct (l : Launch) (w : hp_W) (fl : Nat) (a0 : Nat) (x1 : Int32) (h : hp_M) (out : Int32 × hp_M) (hX : f_Rd_readProduct w fl a0 x1 h = some out) : CT l w yX6_readProduct cX6_readProduct 4 (some .boolean) ({ frames := 67, cells := 0, slots := 0, locals := 1541 }) [.ref a0, .int x1] h (some (.int out.1)) out.2 := (c_g_Rd_readProduct l w fl 64).1 a0 x1 h out hX
theorem c_Rd_readSum (l : Launch) (w : hp_W) (fl : Nat) (a0 : Nat) (x1 : Int32) (h : hp_M) (out : Int32 × hp_M) (hX : f_Rd_readSum w fl a0 x1 h = some out) : CT l w yX6_readSum cX6_readSum 4 (some .boolean) ({ frames := 67, cells := 0, slots := 0, locals := 1541 }) [.ref a0, .int x1] h (some (.int out.1)) out.2 := (c_g_Rd_readProduct l w fl 64).2.1 a0 x1 h out hX
theorem c_Rd_readValue (l : Launch) (w : hp_W) (fl : Nat) (a0 : Nat) (x1 : Int32) (h : hp_M) (out : Int32 × hp_M) (hX : f_Rd_readValue w fl a0 x1 h = some out) : CT l w yX6_readValue cX6_readValue 3 (some .boolean) ({ frames := 67, cells := 0, slots := 0, locals := 1541 }) [.ref a0, .int x1] h (some (.int out.1)) out.2 := (c_g_Rd_readProduct l w fl 64).2.2 a0 x1 h out hX
def rm_g_Rd_readBoth (n : Nat) : Room := { frames := n + 68, cells := 0, slots := 0, locals := n * 22 + 1564 }
def f_Rd_readBoth_b12 (w : hp_W) (fl : Nat) (rc : Nat → Nat → Int32 → hp_M → Option (Int32 × hp_M)) (a0 : Nat) (x1 : Int32) : Nat → Int32 → hp_M → Option (Int32 × hp_M)
  | 0, _, _ => none
  | n + 1, x2, h => if 400 ≤ x2 then (some (1, h)) else ((gR h a0 5 0).bind fun v1004 => (onO h v1004 6 (f_Sc_isAt v1004 (w_kd w 22) h)).bind fun r1005 => if r1005 = 0 then (some (1, h)) else ((gR h a0 5 0).bind fun v1007 => (onO h v1007 6 (f_Sc_take v1007 (w_kd w 22) h)).bind fun r1008 => if r1008.1 = 0 then (some (0, r1008.2)) else ((onO r1008.2 a0 5 (rc 1 a0 x1 r1008.2)).bind fun r1010 => if r1010.1 = 0 then (some (0, r1010.2)) else ((onO r1010.2 a0 5 (f_Rd_write a0 11 0 0 r1010.2)).bind fun r1012 => f_Rd_readBoth_b12 w fl rc a0 x1 n (x2 + 1) r1012.2))))
def f_Rd_readBoth_body (w : hp_W) (fl : Nat) (rc : Nat → Nat → Int32 → hp_M → Option (Int32 × hp_M)) (a0 : Nat) (x1 : Int32) (h : hp_M) : Option (Int32 × hp_M) := (onO h a0 5 (rc 1 a0 x1 h)).bind fun r1 => if r1.1 = 0 then (some (0, r1.2)) else (f_Rd_readBoth_b12 w fl rc a0 x1 fl 0 r1.2)
def f_Rd_readSingle_body (w : hp_W) (fl : Nat) (rc : Nat → Nat → Int32 → hp_M → Option (Int32 × hp_M)) (a0 : Nat) (x1 : Int32) (h : hp_M) : Option (Int32 × hp_M) := (gR h a0 5 0).bind fun v1 => (onO h v1 6 (f_Sc_isAt v1 (w_kd w 21) h)).bind fun r2 => if r2 = 0 then ((gR h a0 5 0).bind fun v4 => (onO h v4 6 (f_Sc_isAt v4 (w_kd w 28) h)).bind fun r5 => if r5 = 0 then (jn ((onO h a0 5 (f_Rd_readOfTwo w fl a0 h)).bind fun r12 => some (r12.1, r12.2)) fun (j11 : Option (Int32 × hp_M)) => (gR h a0 5 0).bind fun v13 => (onO h v13 6 (f_Sc_isAt v13 (w_kd w 14) h)).bind fun r14 => if r14 = 0 then ((gR h a0 5 0).bind fun v16 => (onO h v16 6 (f_Sc_isAt v16 (w_kd w 15) h)).bind fun r17 => if r17 = 0 then ((gR h a0 5 0).bind fun v19 => (onO h v19 6 (f_Sc_isAt v19 (w_kd w 8) h)).bind fun r20 => if r20 = 0 then ((onO h a0 5 (f_Rd_readSum w fl a0 x1 h)).bind fun r22 => if r22.1 = 0 then (some (0, r22.2)) else (jn (fun (h33 : hp_M) => some (0, h33)) fun (j32 : hp_M → Option (Int32 × hp_M)) => (gR r22.2 a0 5 0).bind fun v34 => (onO r22.2 v34 6 (f_Sc_kind w v34 r22.2)).bind fun r35 => (f_Kd_step w r35 r22.2).bind fun r36 => (f_Pr_isComparison r36 r22.2).bind fun r37 => if r37 = 0 then (j32 r22.2) else ((gR r22.2 a0 5 0).bind fun v39 => (onO r22.2 v39 6 (f_Sc_takeAny v39 r22.2)).bind fun r40 => if r40.1 = 0 then (j32 r40.2) else ((onO r40.2 a0 5 (f_Rd_readSum w fl a0 x1 r40.2)).bind fun r42 => if r42.1 = 0 then (j32 r42.2) else ((onO r42.2 a0 5 (f_Rd_write a0 r36 0 0 r42.2)).bind fun r44 => if r44.1 = 0 then (j32 r44.2) else (some (1, r44.2))))))) else (jn (fun (h52 : hp_M) => some (0, h52)) fun (j51 : hp_M → Option (Int32 × hp_M)) => (gR h a0 5 0).bind fun v53 => (onO h v53 6 (f_Sc_take v53 (w_kd w 8) h)).bind fun r54 => if r54.1 = 0 then (j51 r54.2) else ((onO r54.2 a0 5 (f_Rd_readName w fl a0 0 r54.2)).bind fun r56 => if r56.1 = 0 then (j51 r56.2) else ((gI r56.2 a0 5 5).bind fun v58 => (onO r56.2 a0 5 (f_Rd_write a0 6 v58 0 r56.2)).bind fun r59 => if r59.1 = 0 then (j51 r59.2) else (some (1, r59.2)))))) else (j11)) else (j11)) else (jn (fun (h66 : hp_M) => some (0, h66)) fun (j65 : hp_M → Option (Int32 × hp_M)) => (onO h a0 5 (f_Rd_takeDeeper a0 (w_kd w 28) x1 h)).bind fun r67 => if r67.1 = 0 then (j65 r67.2) else ((onO r67.2 a0 5 (rc 2 a0 (x1 + 1) r67.2)).bind fun r69 => if r69.1 = 0 then (j65 r69.2) else ((gR r69.2 a0 5 0).bind fun v71 => (onO r69.2 v71 6 (f_Sc_take v71 (w_kd w 29) r69.2)).bind fun r72 => if r72.1 = 0 then (j65 r72.2) else (some (1, r72.2)))))) else (jn (fun (h78 : hp_M) => some (0, h78)) fun (j77 : hp_M → Option (Int32 × hp_M)) => (onO h a0 5 (f_Rd_takeDeeper a0 (w_kd w 21) x1 h)).bind fun r79 => if r79.1 = 0 then (j77 r79.2) else ((onO r79.2 a0 5 (rc 1 a0 (x1 + 1) r79.2)).bind fun r81 => if r81.1 = 0 then (j77 r81.2) else ((onO r81.2 a0 5 (f_Rd_write a0 10 0 0 r81.2)).bind fun r83 => if r83.1 = 0 then (j77 r83.2) else (some (1, r83.2)))))
def f_Rd_readTest_b12 (w : hp_W) (fl : Nat) (rc : Nat → Nat → Int32 → hp_M → Option (Int32 × hp_M)) (a0 : Nat) (x1 : Int32) : Nat → Int32 → hp_M → Option (Int32 × hp_M)
  | 0, _, _ => none
  | n + 1, x2, h => if 400 ≤ x2 then (some (1, h)) else ((gR h a0 5 0).bind fun v1004 => (onO h v1004 6 (f_Sc_isAt v1004 (w_kd w 23) h)).bind fun r1005 => if r1005 = 0 then (some (1, h)) else ((gR h a0 5 0).bind fun v1007 => (onO h v1007 6 (f_Sc_take v1007 (w_kd w 23) h)).bind fun r1008 => if r1008.1 = 0 then (some (0, r1008.2)) else ((onO r1008.2 a0 5 (rc 0 a0 x1 r1008.2)).bind fun r1010 => if r1010.1 = 0 then (some (0, r1010.2)) else ((onO r1010.2 a0 5 (f_Rd_write a0 12 0 0 r1010.2)).bind fun r1012 => f_Rd_readTest_b12 w fl rc a0 x1 n (x2 + 1) r1012.2))))
def f_Rd_readTest_body (w : hp_W) (fl : Nat) (rc : Nat → Nat → Int32 → hp_M → Option (Int32 × hp_M)) (a0 : Nat) (x1 : Int32) (h : hp_M) : Option (Int32 × hp_M) := (onO h a0 5 (rc 0 a0 x1 h)).bind fun r1 => if r1.1 = 0 then (some (0, r1.2)) else (f_Rd_readTest_b12 w fl rc a0 x1 fl 0 r1.2)
def g_Rd_readBoth (w : hp_W) (fl : Nat) : Nat → Nat → Nat → Int32 → hp_M → Option (Int32 × hp_M)
  | 0, _, _, _, _ => none
  | n + 1, k, a, z0, h => if k = 0 then f_Rd_readBoth_body w fl (g_Rd_readBoth w fl n) a z0 h else if k = 1 then f_Rd_readSingle_body w fl (g_Rd_readBoth w fl n) a z0 h else f_Rd_readTest_body w fl (g_Rd_readBoth w fl n) a z0 h
def f_Rd_readBoth (w : hp_W) (fl : Nat) (a0 : Nat) (x1 : Int32) (h : hp_M) : Option (Int32 × hp_M) := g_Rd_readBoth w fl 64 0 a0 x1 h
def f_Rd_readSingle (w : hp_W) (fl : Nat) (a0 : Nat) (x1 : Int32) (h : hp_M) : Option (Int32 × hp_M) := g_Rd_readBoth w fl 64 1 a0 x1 h
def f_Rd_readTest (w : hp_W) (fl : Nat) (a0 : Nat) (x1 : Int32) (h : hp_M) : Option (Int32 × hp_M) := g_Rd_readBoth w fl 64 2 a0 x1 h
set_option maxRecDepth 100000 in
set_option maxHeartbeats 4000000 in
theorem b_Rd_readBoth_12 {p : Program} {l : Launch} {e : Env} {s : State} {m : MethodId} {args : Array Value} {below : List Frame} {meth : Method} {c : Code} {Q : State → Prop} {w : hp_W} {out : Int32 × hp_M} (fl : Nat)  (nr : Nat) (rc : Nat → Nat → Int32 → hp_M → Option (Int32 × hp_M)) (hrec0 : ∀ (a : Nat) (z0 : Int32) (h : hp_M) (r : Int32 × hp_M), rc 0 a z0 h = some r → CT l w yX6_readBoth cX6_readBoth 3 (some .boolean) (rm_g_Rd_readBoth nr) [.ref a, .int z0] h (some (.int r.1)) r.2) (hrec1 : ∀ (a : Nat) (z0 : Int32) (h : hp_M) (r : Int32 × hp_M), rc 1 a z0 h = some r → CT l w yX6_readSingle cX6_readSingle 3 (some .boolean) (rm_g_Rd_readBoth nr) [.ref a, .int z0] h (some (.int r.1)) r.2) (hrec2 : ∀ (a : Nat) (z0 : Int32) (h : hp_M) (r : Int32 × hp_M), rc 2 a z0 h = some r → CT l w yX6_readTest cX6_readTest 3 (some .boolean) (rm_g_Rd_readBoth nr) [.ref a, .int z0] h (some (.int r.1)) r.2)  (a0 : Nat) (x1 : Int32) (C : Cx p m c cX6_readBoth 3 s args RX6 w) (hr : meth.sig.returnType = some .boolean) (hlk : meth.locks = false) (hnm : meth.name = "readBoth") (hQ : QM below w args s (rm_g_Rd_readBoth (nr + 1)) (some .boolean) (some (.int out.1)) out.2 = Q)  : ∀ (n : Nat) (x2 : Int32) (h : hp_M), J p l e (rm_g_Rd_readBoth (nr + 1)) s m args below meth c Q w 3 0 0 12 [(0, .ref a0), (1, .int x1), (2, .int x2)] [] h (f_Rd_readBoth_b12 w fl rc a0 x1 n x2 h) out := by
  intro n
  induction n with
  | zero => intro x2 h; exact j_none
  | succ n ih =>
    intro x2 h
    rw [f_Rd_readBoth_b12]
    refine j_iload_n C dX6_readBoth_12 (i := 2) rfl rfl ?_
    refine j_sipush C (v := 400) dX6_readBoth_13 (by decide) ?_
    refine j_icmpge C (tgt := 70) dX6_readBoth_16 (by decide) (fun q1003 => ?_) (fun q1003 => ?_)
    · refine j_iconst C (v := 1) dX6_readBoth_70 (by decide) ?_
      exact e_iretM C hQ hr rfl hlk dX6_readBoth_71 (Nat.le_of_ble_eq_true rfl) (Nat.le_of_ble_eq_true rfl)
    · refine j_aload_n C dX6_readBoth_19 (i := 0) rfl rfl ?_
      refine j_getR C g_X6_21 dX6_readBoth_20 (fun v1004 ev1004 => ?_)
      refine j_kind C s_X6_218 (by decide) dX6_readBoth_23 ?_
      refine j_callVi C (As := [.ref _]) (rest := []) k_X6_50 ⟨by simp only [rm_g_Rd_readBoth]; omega, by simp only [rm_g_Rd_readBoth]; omega⟩ rfl (Nat.le_of_ble_eq_true rfl) ⟨Nat.le_of_ble_eq_true rfl, Nat.le_of_ble_eq_true rfl⟩ rfl dX6_readBoth_26 (fun r0 q0 => c_Sc_isAt l w _ _ _ _ q0) (fun r1005 er1005 nr1005 => ?_)
      refine j_ifeq C (tgt := 70) dX6_readBoth_29 (by decide) (fun q1006 => ?_) (fun q1006 => ?_)
      · refine j_iconst C (v := 1) dX6_readBoth_70 (by decide) ?_
        exact e_iretM C hQ hr rfl hlk dX6_readBoth_71 (Nat.le_of_ble_eq_true rfl) (Nat.le_of_ble_eq_true rfl)
      · refine j_aload_n C dX6_readBoth_32 (i := 0) rfl rfl ?_
        refine j_getR C g_X6_21 dX6_readBoth_33 (fun v1007 ev1007 => ?_)
        refine j_kind C s_X6_218 (by decide) dX6_readBoth_36 ?_
        refine j_callVim C (As := [.ref _]) (rest := []) k_X6_77 ⟨by simp only [rm_g_Rd_readBoth]; omega, by simp only [rm_g_Rd_readBoth]; omega⟩ rfl (Nat.le_of_ble_eq_true rfl) ⟨Nat.le_of_ble_eq_true rfl, Nat.le_of_ble_eq_true rfl⟩ rfl dX6_readBoth_39 (fun r0 q0 => c_Sc_take l w _ _ _ _ q0) (fun r1008 er1008 nr1008 => ?_)
        refine j_ifeq C (tgt := 53) dX6_readBoth_42 (by decide) (fun q1009 => ?_) (fun q1009 => ?_)
        · refine j_iconst C (v := 0) dX6_readBoth_53 (by decide) ?_
          exact e_iretM C hQ hr rfl hlk dX6_readBoth_54 (Nat.le_of_ble_eq_true rfl) (Nat.le_of_ble_eq_true rfl)
        · refine j_aload_n C dX6_readBoth_45 (i := 0) rfl rfl ?_
          refine j_iload_n C dX6_readBoth_46 (i := 1) rfl rfl ?_
          refine j_callVim C (As := [.int _]) (rest := []) k_X6_215 ⟨by simp only [rm_g_Rd_readBoth]; omega, by simp only [rm_g_Rd_readBoth]; omega⟩ rfl (Nat.le_of_ble_eq_true rfl) ⟨Nat.le_of_ble_eq_true rfl, Nat.le_of_ble_eq_true rfl⟩ rfl dX6_readBoth_47 (fun r0 q0 => hrec1 _ _ _ r0 q0) (fun r1010 er1010 nr1010 => ?_)
          refine j_ifne C (tgt := 55) dX6_readBoth_50 (by decide) (fun q1011 => ?_) (fun q1011 => ?_)
          · refine j_iconst C (v := 0) dX6_readBoth_53 (by decide) ?_
            exact e_iretM C hQ hr rfl hlk dX6_readBoth_54 (Nat.le_of_ble_eq_true rfl) (Nat.le_of_ble_eq_true rfl)
          · refine j_aload_n C dX6_readBoth_55 (i := 0) rfl rfl ?_
            refine j_bipush C (v := 11) dX6_readBoth_56 (by decide) ?_
            refine j_iconst C (v := 0) dX6_readBoth_58 (by decide) ?_
            refine j_iconst C (v := 0) dX6_readBoth_59 (by decide) ?_
            refine j_callVim C (As := [.int _, .int _, .int _]) (rest := []) k_X6_211 ⟨by simp only [rm_g_Rd_readBoth]; omega, by simp only [rm_g_Rd_readBoth]; omega⟩ rfl (Nat.le_of_ble_eq_true rfl) ⟨Nat.le_of_ble_eq_true rfl, Nat.le_of_ble_eq_true rfl⟩ rfl dX6_readBoth_60 (fun r0 q0 => c_Rd_write l w _ _ _ _ _ _ q0) (fun r1012 er1012 nr1012 => ?_)
            refine j_pop C dX6_readBoth_63 rfl ?_
            refine j_iinc C (v := x2 + 1) [(2, _), (0, _), (1, _)] dX6_readBoth_64 rfl rfl (by decide) rfl ?_
            refine j_goto C (tgt := 12) dX6_readBoth_67 (by decide) ?_
            exact j_sub [1, 2, 0] rfl (ih _ _)
set_option maxRecDepth 100000 in
set_option maxHeartbeats 4000000 in
theorem cb_Rd_readBoth (l : Launch) (w : hp_W) (fl : Nat) (nr : Nat) (rc : Nat → Nat → Int32 → hp_M → Option (Int32 × hp_M)) (hrec0 : ∀ (a : Nat) (z0 : Int32) (h : hp_M) (r : Int32 × hp_M), rc 0 a z0 h = some r → CT l w yX6_readBoth cX6_readBoth 3 (some .boolean) (rm_g_Rd_readBoth nr) [.ref a, .int z0] h (some (.int r.1)) r.2) (hrec1 : ∀ (a : Nat) (z0 : Int32) (h : hp_M) (r : Int32 × hp_M), rc 1 a z0 h = some r → CT l w yX6_readSingle cX6_readSingle 3 (some .boolean) (rm_g_Rd_readBoth nr) [.ref a, .int z0] h (some (.int r.1)) r.2) (hrec2 : ∀ (a : Nat) (z0 : Int32) (h : hp_M) (r : Int32 × hp_M), rc 2 a z0 h = some r → CT l w yX6_readTest cX6_readTest 3 (some .boolean) (rm_g_Rd_readBoth nr) [.ref a, .int z0] h (some (.int r.1)) r.2) (a0 : Nat) (x1 : Int32) (h : hp_M) (out : Int32 × hp_M) (hX : f_Rd_readBoth_body w fl rc a0 x1 h = some out) : CT l w yX6_readBoth cX6_readBoth 3 (some .boolean) (rm_g_Rd_readBoth (nr + 1)) [.ref a0, .int x1] h (some (.int out.1)) out.2 := by
  unfold f_Rd_readBoth_body at hX
  refine ct_of (by decide +kernel) (Nat.le_of_ble_eq_true rfl) hX ?_
  intro p e s m args below meth c Q C hr hlk hnm hQ
  refine j_aload_n C dX6_readBoth_0 (i := 0) rfl rfl ?_
  refine j_iload_n C dX6_readBoth_1 (i := 1) rfl rfl ?_
  refine j_callVim C (As := [.int _]) (rest := []) k_X6_215 ⟨by simp only [rm_g_Rd_readBoth]; omega, by simp only [rm_g_Rd_readBoth]; omega⟩ rfl (Nat.le_of_ble_eq_true rfl) ⟨Nat.le_of_ble_eq_true rfl, Nat.le_of_ble_eq_true rfl⟩ rfl dX6_readBoth_2 (fun r0 q0 => hrec1 _ _ _ r0 q0) (fun r1 er1 nr1 => ?_)
  refine j_ifne C (tgt := 10) dX6_readBoth_5 (by decide) (fun q2 => ?_) (fun q2 => ?_)
  · refine j_iconst C (v := 0) dX6_readBoth_8 (by decide) ?_
    exact e_iretM C hQ hr rfl hlk dX6_readBoth_9 (Nat.le_of_ble_eq_true rfl) (Nat.le_of_ble_eq_true rfl)
  · refine j_iconst C (v := 0) dX6_readBoth_10 (by decide) ?_
    refine j_istore_n C [(2, _), (0, _), (1, _)] dX6_readBoth_11 (i := 2) rfl (by decide) rfl ?_
    refine j_sub [1, 2, 0] rfl (b_Rd_readBoth_12 fl nr rc hrec0 hrec1 hrec2  _ _ C hr hlk hnm hQ  _ _ _)
set_option maxRecDepth 100000 in
set_option maxHeartbeats 4000000 in
theorem cb_Rd_readSingle (l : Launch) (w : hp_W) (fl : Nat) (nr : Nat) (rc : Nat → Nat → Int32 → hp_M → Option (Int32 × hp_M)) (hrec0 : ∀ (a : Nat) (z0 : Int32) (h : hp_M) (r : Int32 × hp_M), rc 0 a z0 h = some r → CT l w yX6_readBoth cX6_readBoth 3 (some .boolean) (rm_g_Rd_readBoth nr) [.ref a, .int z0] h (some (.int r.1)) r.2) (hrec1 : ∀ (a : Nat) (z0 : Int32) (h : hp_M) (r : Int32 × hp_M), rc 1 a z0 h = some r → CT l w yX6_readSingle cX6_readSingle 3 (some .boolean) (rm_g_Rd_readBoth nr) [.ref a, .int z0] h (some (.int r.1)) r.2) (hrec2 : ∀ (a : Nat) (z0 : Int32) (h : hp_M) (r : Int32 × hp_M), rc 2 a z0 h = some r → CT l w yX6_readTest cX6_readTest 3 (some .boolean) (rm_g_Rd_readBoth nr) [.ref a, .int z0] h (some (.int r.1)) r.2) (a0 : Nat) (x1 : Int32) (h : hp_M) (out : Int32 × hp_M) (hX : f_Rd_readSingle_body w fl rc a0 x1 h = some out) : CT l w yX6_readSingle cX6_readSingle 3 (some .boolean) (rm_g_Rd_readBoth (nr + 1)) [.ref a0, .int x1] h (some (.int out.1)) out.2 := by
  unfold f_Rd_readSingle_body at hX
  refine ct_of (by decide +kernel) (Nat.le_of_ble_eq_true rfl) hX ?_
  intro p e s m args below meth c Q C hr hlk hnm hQ
  refine j_aload_n C dX6_readSingle_0 (i := 0) rfl rfl ?_
  refine j_getR C g_X6_21 dX6_readSingle_1 (fun v1 ev1 => ?_)
  refine j_kind C s_X6_221 (by decide) dX6_readSingle_4 ?_
  refine j_callVi C (As := [.ref _]) (rest := []) k_X6_50 ⟨by simp only [rm_g_Rd_readBoth]; omega, by simp only [rm_g_Rd_readBoth]; omega⟩ rfl (Nat.le_of_ble_eq_true rfl) ⟨Nat.le_of_ble_eq_true rfl, Nat.le_of_ble_eq_true rfl⟩ rfl dX6_readSingle_7 (fun r0 q0 => c_Sc_isAt l w _ _ _ _ q0) (fun r2 er2 nr2 => ?_)
  refine j_ifeq C (tgt := 51) dX6_readSingle_10 (by decide) (fun q3 => ?_) (fun q3 => ?_)
  · refine j_aload_n C dX6_readSingle_51 (i := 0) rfl rfl ?_
    refine j_getR C g_X6_21 dX6_readSingle_52 (fun v4 ev4 => ?_)
    refine j_kind C s_X6_228 (by decide) dX6_readSingle_55 ?_
    refine j_callVi C (As := [.ref _]) (rest := []) k_X6_50 ⟨by simp only [rm_g_Rd_readBoth]; omega, by simp only [rm_g_Rd_readBoth]; omega⟩ rfl (Nat.le_of_ble_eq_true rfl) ⟨Nat.le_of_ble_eq_true rfl, Nat.le_of_ble_eq_true rfl⟩ rfl dX6_readSingle_58 (fun r0 q0 => c_Sc_isAt l w _ _ _ _ q0) (fun r5 er5 nr5 => ?_)
    refine j_ifeq C (tgt := 104) dX6_readSingle_61 (by decide) (fun q6 => ?_) (fun q6 => ?_)
    · refine j_jn (P := fun j11 => J p l e (rm_g_Rd_readBoth (nr + 1)) s m args below meth c Q w 3 0 0 130 [(0, .ref a0)] [] h (j11) out) ?_ (fun j11 hj11 => ?_)
      · refine j_aload_n C dX6_readSingle_130 (i := 0) rfl rfl ?_
        refine j_callVim C (As := []) (rest := []) k_X6_240 ⟨by simp only [rm_g_Rd_readBoth]; omega, by simp only [rm_g_Rd_readBoth]; omega⟩ rfl (Nat.le_of_ble_eq_true rfl) ⟨Nat.le_of_ble_eq_true rfl, Nat.le_of_ble_eq_true rfl⟩ rfl dX6_readSingle_131 (fun r0 q0 => c_Rd_readOfTwo l w fl _ _ _ q0) (fun r12 er12 nr12 => ?_)
        exact e_iretM C hQ hr (nr12 _ _ rfl rfl) hlk dX6_readSingle_134 (Nat.le_of_ble_eq_true rfl) (Nat.le_of_ble_eq_true rfl)
      · refine j_aload_n C dX6_readSingle_104 (i := 0) rfl rfl ?_
        refine j_getR C g_X6_21 dX6_readSingle_105 (fun v13 ev13 => ?_)
        refine j_kind C s_X6_234 (by decide) dX6_readSingle_108 ?_
        refine j_callVi C (As := [.ref _]) (rest := []) k_X6_50 ⟨by simp only [rm_g_Rd_readBoth]; omega, by simp only [rm_g_Rd_readBoth]; omega⟩ rfl (Nat.le_of_ble_eq_true rfl) ⟨Nat.le_of_ble_eq_true rfl, Nat.le_of_ble_eq_true rfl⟩ rfl dX6_readSingle_111 (fun r0 q0 => c_Sc_isAt l w _ _ _ _ q0) (fun r14 er14 nr14 => ?_)
        refine j_ifne C (tgt := 130) dX6_readSingle_114 (by decide) (fun q15 => ?_) (fun q15 => ?_)
        · refine j_aload_n C dX6_readSingle_117 (i := 0) rfl rfl ?_
          refine j_getR C g_X6_21 dX6_readSingle_118 (fun v16 ev16 => ?_)
          refine j_kind C s_X6_237 (by decide) dX6_readSingle_121 ?_
          refine j_callVi C (As := [.ref _]) (rest := []) k_X6_50 ⟨by simp only [rm_g_Rd_readBoth]; omega, by simp only [rm_g_Rd_readBoth]; omega⟩ rfl (Nat.le_of_ble_eq_true rfl) ⟨Nat.le_of_ble_eq_true rfl, Nat.le_of_ble_eq_true rfl⟩ rfl dX6_readSingle_124 (fun r0 q0 => c_Sc_isAt l w _ _ _ _ q0) (fun r17 er17 nr17 => ?_)
          refine j_ifeq C (tgt := 135) dX6_readSingle_127 (by decide) (fun q18 => ?_) (fun q18 => ?_)
          · refine j_aload_n C dX6_readSingle_135 (i := 0) rfl rfl ?_
            refine j_getR C g_X6_21 dX6_readSingle_136 (fun v19 ev19 => ?_)
            refine j_kind C s_X6_126 (by decide) dX6_readSingle_139 ?_
            refine j_callVi C (As := [.ref _]) (rest := []) k_X6_50 ⟨by simp only [rm_g_Rd_readBoth]; omega, by simp only [rm_g_Rd_readBoth]; omega⟩ rfl (Nat.le_of_ble_eq_true rfl) ⟨Nat.le_of_ble_eq_true rfl, Nat.le_of_ble_eq_true rfl⟩ rfl dX6_readSingle_142 (fun r0 q0 => c_Sc_isAt l w _ _ _ _ q0) (fun r20 er20 nr20 => ?_)
            refine j_ifeq C (tgt := 189) dX6_readSingle_145 (by decide) (fun q21 => ?_) (fun q21 => ?_)
            · refine j_aload_n C dX6_readSingle_189 (i := 0) rfl rfl ?_
              refine j_iload_n C dX6_readSingle_190 (i := 1) rfl rfl ?_
              refine j_callVim C (As := [.int _]) (rest := []) k_X6_186 ⟨by simp only [rm_g_Rd_readBoth]; omega, by simp only [rm_g_Rd_readBoth]; omega⟩ rfl (Nat.le_of_ble_eq_true rfl) ⟨Nat.le_of_ble_eq_true rfl, Nat.le_of_ble_eq_true rfl⟩ rfl dX6_readSingle_191 (fun r0 q0 => c_Rd_readSum l w fl _ _ _ _ q0) (fun r22 er22 nr22 => ?_)
              refine j_ifne C (tgt := 199) dX6_readSingle_194 (by decide) (fun q23 => ?_) (fun q23 => ?_)
              · refine j_iconst C (v := 0) dX6_readSingle_197 (by decide) ?_
                exact e_iretM C hQ hr rfl hlk dX6_readSingle_198 (Nat.le_of_ble_eq_true rfl) (Nat.le_of_ble_eq_true rfl)
              · refine j_jn (P := fun (j32 : hp_M → Option (Int32 × hp_M)) => ∀ (h33 : hp_M), J p l e (rm_g_Rd_readBoth (nr + 1)) s m args below meth c Q w 3 0 0 249 [] [] h33 (j32 h33) out) ?_ (fun j32 hj32 => ?_)
                · intro h33
                  refine j_iconst C (v := 0) dX6_readSingle_249 (by decide) ?_
                  exact e_iretM C hQ hr rfl hlk dX6_readSingle_250 (Nat.le_of_ble_eq_true rfl) (Nat.le_of_ble_eq_true rfl)
                · refine j_aload_n C dX6_readSingle_199 (i := 0) rfl rfl ?_
                  refine j_getR C g_X6_21 dX6_readSingle_200 (fun v34 ev34 => ?_)
                  refine j_callVr C (As := []) (rest := []) k_X6_243 ⟨by simp only [rm_g_Rd_readBoth]; omega, by simp only [rm_g_Rd_readBoth]; omega⟩ rfl (Nat.le_of_ble_eq_true rfl) ⟨Nat.le_of_ble_eq_true rfl, Nat.le_of_ble_eq_true rfl⟩ rfl dX6_readSingle_203 (fun r0 q0 => c_Sc_kind l w _ _ _ q0) (fun r35 er35 nr35 => ?_)
                  refine j_callO C (As := []) (rest := []) k_X6_247 ⟨by simp only [rm_g_Rd_readBoth]; omega, by simp only [rm_g_Rd_readBoth]; omega⟩ rfl (Nat.le_of_ble_eq_true rfl) ⟨Nat.le_of_ble_eq_true rfl, Nat.le_of_ble_eq_true rfl⟩ rfl dX6_readSingle_206 (fun r0 q0 => by obtain ⟨v9, h9, -⟩ := Option.bind_eq_some_iff.mp (show (kStep w _).bind _ = some _ from q0); obtain ⟨i9, g9, -⟩ := Option.bind_eq_some_iff.mp (show (kx w _).bind _ = some _ from h9); exact kd_O C g9) (fun r0 q0 => c_Kd_step l w _ _ _ q0) (fun r36 er36 _ => ?_)
                  refine j_istore_n C [(2, _), (0, _), (1, _)] dX6_readSingle_209 (i := 2) rfl (by decide) rfl ?_
                  refine j_iload_n C dX6_readSingle_210 (i := 2) rfl rfl ?_
                  refine j_callSi C (As := [.int _]) (rest := []) k_X6_250 ⟨by simp only [rm_g_Rd_readBoth]; omega, by simp only [rm_g_Rd_readBoth]; omega⟩ rfl (Nat.le_of_ble_eq_true rfl) ⟨Nat.le_of_ble_eq_true rfl, Nat.le_of_ble_eq_true rfl⟩ rfl dX6_readSingle_211 (fun r0 q0 => c_Pr_isComparison l w _ _ _ q0) (fun r37 er37 nr37 => ?_)
                  refine j_ifeq C (tgt := 249) dX6_readSingle_214 (by decide) (fun q38 => ?_) (fun q38 => ?_)
                  · exact j_sub [] rfl (hj32 _)
                  · refine j_aload_n C dX6_readSingle_217 (i := 0) rfl rfl ?_
                    refine j_getR C g_X6_21 dX6_readSingle_218 (fun v39 ev39 => ?_)
                    refine j_callVim C (As := []) (rest := []) k_X6_253 ⟨by simp only [rm_g_Rd_readBoth]; omega, by simp only [rm_g_Rd_readBoth]; omega⟩ rfl (Nat.le_of_ble_eq_true rfl) ⟨Nat.le_of_ble_eq_true rfl, Nat.le_of_ble_eq_true rfl⟩ rfl dX6_readSingle_221 (fun r0 q0 => c_Sc_takeAny l w _ _ _ q0) (fun r40 er40 nr40 => ?_)
                    refine j_ifeq C (tgt := 249) dX6_readSingle_224 (by decide) (fun q41 => ?_) (fun q41 => ?_)
                    · exact j_sub [] rfl (hj32 _)
                    · refine j_aload_n C dX6_readSingle_227 (i := 0) rfl rfl ?_
                      refine j_iload_n C dX6_readSingle_228 (i := 1) rfl rfl ?_
                      refine j_callVim C (As := [.int _]) (rest := []) k_X6_186 ⟨by simp only [rm_g_Rd_readBoth]; omega, by simp only [rm_g_Rd_readBoth]; omega⟩ rfl (Nat.le_of_ble_eq_true rfl) ⟨Nat.le_of_ble_eq_true rfl, Nat.le_of_ble_eq_true rfl⟩ rfl dX6_readSingle_229 (fun r0 q0 => c_Rd_readSum l w fl _ _ _ _ q0) (fun r42 er42 nr42 => ?_)
                      refine j_ifeq C (tgt := 249) dX6_readSingle_232 (by decide) (fun q43 => ?_) (fun q43 => ?_)
                      · exact j_sub [] rfl (hj32 _)
                      · refine j_aload_n C dX6_readSingle_235 (i := 0) rfl rfl ?_
                        refine j_iload_n C dX6_readSingle_236 (i := 2) rfl rfl ?_
                        refine j_iconst C (v := 0) dX6_readSingle_237 (by decide) ?_
                        refine j_iconst C (v := 0) dX6_readSingle_238 (by decide) ?_
                        refine j_callVim C (As := [.int _, .int _, .int _]) (rest := []) k_X6_211 ⟨by simp only [rm_g_Rd_readBoth]; omega, by simp only [rm_g_Rd_readBoth]; omega⟩ rfl (Nat.le_of_ble_eq_true rfl) ⟨Nat.le_of_ble_eq_true rfl, Nat.le_of_ble_eq_true rfl⟩ rfl dX6_readSingle_239 (fun r0 q0 => c_Rd_write l w _ _ _ _ _ _ q0) (fun r44 er44 nr44 => ?_)
                        refine j_ifeq C (tgt := 249) dX6_readSingle_242 (by decide) (fun q45 => ?_) (fun q45 => ?_)
                        · exact j_sub [] rfl (hj32 _)
                        · refine j_iconst C (v := 1) dX6_readSingle_245 (by decide) ?_
                          refine j_goto C (tgt := 250) dX6_readSingle_246 (by decide) ?_
                          exact e_iretM C hQ hr rfl hlk dX6_readSingle_250 (Nat.le_of_ble_eq_true rfl) (Nat.le_of_ble_eq_true rfl)
            · refine j_jn (P := fun (j51 : hp_M → Option (Int32 × hp_M)) => ∀ (h52 : hp_M), J p l e (rm_g_Rd_readBoth (nr + 1)) s m args below meth c Q w 3 0 0 187 [] [] h52 (j51 h52) out) ?_ (fun j51 hj51 => ?_)
              · intro h52
                refine j_iconst C (v := 0) dX6_readSingle_187 (by decide) ?_
                exact e_iretM C hQ hr rfl hlk dX6_readSingle_188 (Nat.le_of_ble_eq_true rfl) (Nat.le_of_ble_eq_true rfl)
              · refine j_aload_n C dX6_readSingle_148 (i := 0) rfl rfl ?_
                refine j_getR C g_X6_21 dX6_readSingle_149 (fun v53 ev53 => ?_)
                refine j_kind C s_X6_126 (by decide) dX6_readSingle_152 ?_
                refine j_callVim C (As := [.ref _]) (rest := []) k_X6_77 ⟨by simp only [rm_g_Rd_readBoth]; omega, by simp only [rm_g_Rd_readBoth]; omega⟩ rfl (Nat.le_of_ble_eq_true rfl) ⟨Nat.le_of_ble_eq_true rfl, Nat.le_of_ble_eq_true rfl⟩ rfl dX6_readSingle_155 (fun r0 q0 => c_Sc_take l w _ _ _ _ q0) (fun r54 er54 nr54 => ?_)
                refine j_ifeq C (tgt := 187) dX6_readSingle_158 (by decide) (fun q55 => ?_) (fun q55 => ?_)
                · exact j_sub [] rfl (hj51 _)
                · refine j_aload_n C dX6_readSingle_161 (i := 0) rfl rfl ?_
                  refine j_iconst C (v := 0) dX6_readSingle_162 (by decide) ?_
                  refine j_callVim C (As := [.int _]) (rest := []) k_X6_192 ⟨by simp only [rm_g_Rd_readBoth]; omega, by simp only [rm_g_Rd_readBoth]; omega⟩ rfl (Nat.le_of_ble_eq_true rfl) ⟨Nat.le_of_ble_eq_true rfl, Nat.le_of_ble_eq_true rfl⟩ rfl dX6_readSingle_163 (fun r0 q0 => c_Rd_readName l w fl _ _ _ _ q0) (fun r56 er56 nr56 => ?_)
                  refine j_ifeq C (tgt := 187) dX6_readSingle_166 (by decide) (fun q57 => ?_) (fun q57 => ?_)
                  · exact j_sub [] rfl (hj51 _)
                  · refine j_aload_n C dX6_readSingle_169 (i := 0) rfl rfl ?_
                    refine j_bipush C (v := 6) dX6_readSingle_170 (by decide) ?_
                    refine j_aload_n C dX6_readSingle_172 (i := 0) rfl rfl ?_
                    refine j_getI C g_X6_115 dX6_readSingle_173 (fun v58 ev58 => ?_)
                    refine j_iconst C (v := 0) dX6_readSingle_176 (by decide) ?_
                    refine j_callVim C (As := [.int _, .int _, .int _]) (rest := []) k_X6_211 ⟨by simp only [rm_g_Rd_readBoth]; omega, by simp only [rm_g_Rd_readBoth]; omega⟩ rfl (Nat.le_of_ble_eq_true rfl) ⟨Nat.le_of_ble_eq_true rfl, Nat.le_of_ble_eq_true rfl⟩ rfl dX6_readSingle_177 (fun r0 q0 => c_Rd_write l w _ _ _ _ _ _ q0) (fun r59 er59 nr59 => ?_)
                    refine j_ifeq C (tgt := 187) dX6_readSingle_180 (by decide) (fun q60 => ?_) (fun q60 => ?_)
                    · exact j_sub [] rfl (hj51 _)
                    · refine j_iconst C (v := 1) dX6_readSingle_183 (by decide) ?_
                      refine j_goto C (tgt := 188) dX6_readSingle_184 (by decide) ?_
                      exact e_iretM C hQ hr rfl hlk dX6_readSingle_188 (Nat.le_of_ble_eq_true rfl) (Nat.le_of_ble_eq_true rfl)
          · exact j_sub [0] rfl (hj11)
        · exact j_sub [0] rfl (hj11)
    · refine j_jn (P := fun (j65 : hp_M → Option (Int32 × hp_M)) => ∀ (h66 : hp_M), J p l e (rm_g_Rd_readBoth (nr + 1)) s m args below meth c Q w 3 0 0 102 [] [] h66 (j65 h66) out) ?_ (fun j65 hj65 => ?_)
      · intro h66
        refine j_iconst C (v := 0) dX6_readSingle_102 (by decide) ?_
        exact e_iretM C hQ hr rfl hlk dX6_readSingle_103 (Nat.le_of_ble_eq_true rfl) (Nat.le_of_ble_eq_true rfl)
      · refine j_aload_n C dX6_readSingle_64 (i := 0) rfl rfl ?_
        refine j_kind C s_X6_228 (by decide) dX6_readSingle_65 ?_
        refine j_iload_n C dX6_readSingle_68 (i := 1) rfl rfl ?_
        refine j_callVim C (As := [.ref _, .int _]) (rest := []) k_X6_224 ⟨by simp only [rm_g_Rd_readBoth]; omega, by simp only [rm_g_Rd_readBoth]; omega⟩ rfl (Nat.le_of_ble_eq_true rfl) ⟨Nat.le_of_ble_eq_true rfl, Nat.le_of_ble_eq_true rfl⟩ rfl dX6_readSingle_69 (fun r0 q0 => c_Rd_takeDeeper l w _ _ _ _ _ q0) (fun r67 er67 nr67 => ?_)
        refine j_ifeq C (tgt := 102) dX6_readSingle_72 (by decide) (fun q68 => ?_) (fun q68 => ?_)
        · exact j_sub [] rfl (hj65 _)
        · refine j_aload_n C dX6_readSingle_75 (i := 0) rfl rfl ?_
          refine j_iload_n C dX6_readSingle_76 (i := 1) rfl rfl ?_
          refine j_iconst C (v := 1) dX6_readSingle_77 (by decide) ?_
          refine j_iadd C dX6_readSingle_78 ?_
          refine j_callVim C (As := [.int _]) (rest := []) k_X6_180 ⟨by simp only [rm_g_Rd_readBoth]; omega, by simp only [rm_g_Rd_readBoth]; omega⟩ rfl (Nat.le_of_ble_eq_true rfl) ⟨Nat.le_of_ble_eq_true rfl, Nat.le_of_ble_eq_true rfl⟩ rfl dX6_readSingle_79 (fun r0 q0 => hrec2 _ _ _ r0 q0) (fun r69 er69 nr69 => ?_)
          refine j_ifeq C (tgt := 102) dX6_readSingle_82 (by decide) (fun q70 => ?_) (fun q70 => ?_)
          · exact j_sub [] rfl (hj65 _)
          · refine j_aload_n C dX6_readSingle_85 (i := 0) rfl rfl ?_
            refine j_getR C g_X6_21 dX6_readSingle_86 (fun v71 ev71 => ?_)
            refine j_kind C s_X6_231 (by decide) dX6_readSingle_89 ?_
            refine j_callVim C (As := [.ref _]) (rest := []) k_X6_77 ⟨by simp only [rm_g_Rd_readBoth]; omega, by simp only [rm_g_Rd_readBoth]; omega⟩ rfl (Nat.le_of_ble_eq_true rfl) ⟨Nat.le_of_ble_eq_true rfl, Nat.le_of_ble_eq_true rfl⟩ rfl dX6_readSingle_92 (fun r0 q0 => c_Sc_take l w _ _ _ _ q0) (fun r72 er72 nr72 => ?_)
            refine j_ifeq C (tgt := 102) dX6_readSingle_95 (by decide) (fun q73 => ?_) (fun q73 => ?_)
            · exact j_sub [] rfl (hj65 _)
            · refine j_iconst C (v := 1) dX6_readSingle_98 (by decide) ?_
              refine j_goto C (tgt := 103) dX6_readSingle_99 (by decide) ?_
              exact e_iretM C hQ hr rfl hlk dX6_readSingle_103 (Nat.le_of_ble_eq_true rfl) (Nat.le_of_ble_eq_true rfl)
  · refine j_jn (P := fun (j77 : hp_M → Option (Int32 × hp_M)) => ∀ (h78 : hp_M), J p l e (rm_g_Rd_readBoth (nr + 1)) s m args below meth c Q w 3 0 0 49 [] [] h78 (j77 h78) out) ?_ (fun j77 hj77 => ?_)
    · intro h78
      refine j_iconst C (v := 0) dX6_readSingle_49 (by decide) ?_
      exact e_iretM C hQ hr rfl hlk dX6_readSingle_50 (Nat.le_of_ble_eq_true rfl) (Nat.le_of_ble_eq_true rfl)
    · refine j_aload_n C dX6_readSingle_13 (i := 0) rfl rfl ?_
      refine j_kind C s_X6_221 (by decide) dX6_readSingle_14 ?_
      refine j_iload_n C dX6_readSingle_17 (i := 1) rfl rfl ?_
      refine j_callVim C (As := [.ref _, .int _]) (rest := []) k_X6_224 ⟨by simp only [rm_g_Rd_readBoth]; omega, by simp only [rm_g_Rd_readBoth]; omega⟩ rfl (Nat.le_of_ble_eq_true rfl) ⟨Nat.le_of_ble_eq_true rfl, Nat.le_of_ble_eq_true rfl⟩ rfl dX6_readSingle_18 (fun r0 q0 => c_Rd_takeDeeper l w _ _ _ _ _ q0) (fun r79 er79 nr79 => ?_)
      refine j_ifeq C (tgt := 49) dX6_readSingle_21 (by decide) (fun q80 => ?_) (fun q80 => ?_)
      · exact j_sub [] rfl (hj77 _)
      · refine j_aload_n C dX6_readSingle_24 (i := 0) rfl rfl ?_
        refine j_iload_n C dX6_readSingle_25 (i := 1) rfl rfl ?_
        refine j_iconst C (v := 1) dX6_readSingle_26 (by decide) ?_
        refine j_iadd C dX6_readSingle_27 ?_
        refine j_callVim C (As := [.int _]) (rest := []) k_X6_215 ⟨by simp only [rm_g_Rd_readBoth]; omega, by simp only [rm_g_Rd_readBoth]; omega⟩ rfl (Nat.le_of_ble_eq_true rfl) ⟨Nat.le_of_ble_eq_true rfl, Nat.le_of_ble_eq_true rfl⟩ rfl dX6_readSingle_28 (fun r0 q0 => hrec1 _ _ _ r0 q0) (fun r81 er81 nr81 => ?_)
        refine j_ifeq C (tgt := 49) dX6_readSingle_31 (by decide) (fun q82 => ?_) (fun q82 => ?_)
        · exact j_sub [] rfl (hj77 _)
        · refine j_aload_n C dX6_readSingle_34 (i := 0) rfl rfl ?_
          refine j_bipush C (v := 10) dX6_readSingle_35 (by decide) ?_
          refine j_iconst C (v := 0) dX6_readSingle_37 (by decide) ?_
          refine j_iconst C (v := 0) dX6_readSingle_38 (by decide) ?_
          refine j_callVim C (As := [.int _, .int _, .int _]) (rest := []) k_X6_211 ⟨by simp only [rm_g_Rd_readBoth]; omega, by simp only [rm_g_Rd_readBoth]; omega⟩ rfl (Nat.le_of_ble_eq_true rfl) ⟨Nat.le_of_ble_eq_true rfl, Nat.le_of_ble_eq_true rfl⟩ rfl dX6_readSingle_39 (fun r0 q0 => c_Rd_write l w _ _ _ _ _ _ q0) (fun r83 er83 nr83 => ?_)
          refine j_ifeq C (tgt := 49) dX6_readSingle_42 (by decide) (fun q84 => ?_) (fun q84 => ?_)
          · exact j_sub [] rfl (hj77 _)
          · refine j_iconst C (v := 1) dX6_readSingle_45 (by decide) ?_
            refine j_goto C (tgt := 50) dX6_readSingle_46 (by decide) ?_
            exact e_iretM C hQ hr rfl hlk dX6_readSingle_50 (Nat.le_of_ble_eq_true rfl) (Nat.le_of_ble_eq_true rfl)
set_option maxRecDepth 100000 in
set_option maxHeartbeats 4000000 in
theorem b_Rd_readTest_12 {p : Program} {l : Launch} {e : Env} {s : State} {m : MethodId} {args : Array Value} {below : List Frame} {meth : Method} {c : Code} {Q : State → Prop} {w : hp_W} {out : Int32 × hp_M} (fl : Nat)  (nr : Nat) (rc : Nat → Nat → Int32 → hp_M → Option (Int32 × hp_M)) (hrec0 : ∀ (a : Nat) (z0 : Int32) (h : hp_M) (r : Int32 × hp_M), rc 0 a z0 h = some r → CT l w yX6_readBoth cX6_readBoth 3 (some .boolean) (rm_g_Rd_readBoth nr) [.ref a, .int z0] h (some (.int r.1)) r.2) (hrec1 : ∀ (a : Nat) (z0 : Int32) (h : hp_M) (r : Int32 × hp_M), rc 1 a z0 h = some r → CT l w yX6_readSingle cX6_readSingle 3 (some .boolean) (rm_g_Rd_readBoth nr) [.ref a, .int z0] h (some (.int r.1)) r.2) (hrec2 : ∀ (a : Nat) (z0 : Int32) (h : hp_M) (r : Int32 × hp_M), rc 2 a z0 h = some r → CT l w yX6_readTest cX6_readTest 3 (some .boolean) (rm_g_Rd_readBoth nr) [.ref a, .int z0] h (some (.int r.1)) r.2)  (a0 : Nat) (x1 : Int32) (C : Cx p m c cX6_readTest 3 s args RX6 w) (hr : meth.sig.returnType = some .boolean) (hlk : meth.locks = false) (hnm : meth.name = "readTest") (hQ : QM below w args s (rm_g_Rd_readBoth (nr + 1)) (some .boolean) (some (.int out.1)) out.2 = Q)  : ∀ (n : Nat) (x2 : Int32) (h : hp_M), J p l e (rm_g_Rd_readBoth (nr + 1)) s m args below meth c Q w 3 0 0 12 [(0, .ref a0), (1, .int x1), (2, .int x2)] [] h (f_Rd_readTest_b12 w fl rc a0 x1 n x2 h) out := by
  intro n
  induction n with
  | zero => intro x2 h; exact j_none
  | succ n ih =>
    intro x2 h
    rw [f_Rd_readTest_b12]
    refine j_iload_n C dX6_readTest_12 (i := 2) rfl rfl ?_
    refine j_sipush C (v := 400) dX6_readTest_13 (by decide) ?_
    refine j_icmpge C (tgt := 70) dX6_readTest_16 (by decide) (fun q1003 => ?_) (fun q1003 => ?_)
    · refine j_iconst C (v := 1) dX6_readTest_70 (by decide) ?_
      exact e_iretM C hQ hr rfl hlk dX6_readTest_71 (Nat.le_of_ble_eq_true rfl) (Nat.le_of_ble_eq_true rfl)
    · refine j_aload_n C dX6_readTest_19 (i := 0) rfl rfl ?_
      refine j_getR C g_X6_21 dX6_readTest_20 (fun v1004 ev1004 => ?_)
      refine j_kind C s_X6_208 (by decide) dX6_readTest_23 ?_
      refine j_callVi C (As := [.ref _]) (rest := []) k_X6_50 ⟨by simp only [rm_g_Rd_readBoth]; omega, by simp only [rm_g_Rd_readBoth]; omega⟩ rfl (Nat.le_of_ble_eq_true rfl) ⟨Nat.le_of_ble_eq_true rfl, Nat.le_of_ble_eq_true rfl⟩ rfl dX6_readTest_26 (fun r0 q0 => c_Sc_isAt l w _ _ _ _ q0) (fun r1005 er1005 nr1005 => ?_)
      refine j_ifeq C (tgt := 70) dX6_readTest_29 (by decide) (fun q1006 => ?_) (fun q1006 => ?_)
      · refine j_iconst C (v := 1) dX6_readTest_70 (by decide) ?_
        exact e_iretM C hQ hr rfl hlk dX6_readTest_71 (Nat.le_of_ble_eq_true rfl) (Nat.le_of_ble_eq_true rfl)
      · refine j_aload_n C dX6_readTest_32 (i := 0) rfl rfl ?_
        refine j_getR C g_X6_21 dX6_readTest_33 (fun v1007 ev1007 => ?_)
        refine j_kind C s_X6_208 (by decide) dX6_readTest_36 ?_
        refine j_callVim C (As := [.ref _]) (rest := []) k_X6_77 ⟨by simp only [rm_g_Rd_readBoth]; omega, by simp only [rm_g_Rd_readBoth]; omega⟩ rfl (Nat.le_of_ble_eq_true rfl) ⟨Nat.le_of_ble_eq_true rfl, Nat.le_of_ble_eq_true rfl⟩ rfl dX6_readTest_39 (fun r0 q0 => c_Sc_take l w _ _ _ _ q0) (fun r1008 er1008 nr1008 => ?_)
        refine j_ifeq C (tgt := 53) dX6_readTest_42 (by decide) (fun q1009 => ?_) (fun q1009 => ?_)
        · refine j_iconst C (v := 0) dX6_readTest_53 (by decide) ?_
          exact e_iretM C hQ hr rfl hlk dX6_readTest_54 (Nat.le_of_ble_eq_true rfl) (Nat.le_of_ble_eq_true rfl)
        · refine j_aload_n C dX6_readTest_45 (i := 0) rfl rfl ?_
          refine j_iload_n C dX6_readTest_46 (i := 1) rfl rfl ?_
          refine j_callVim C (As := [.int _]) (rest := []) k_X6_205 ⟨by simp only [rm_g_Rd_readBoth]; omega, by simp only [rm_g_Rd_readBoth]; omega⟩ rfl (Nat.le_of_ble_eq_true rfl) ⟨Nat.le_of_ble_eq_true rfl, Nat.le_of_ble_eq_true rfl⟩ rfl dX6_readTest_47 (fun r0 q0 => hrec0 _ _ _ r0 q0) (fun r1010 er1010 nr1010 => ?_)
          refine j_ifne C (tgt := 55) dX6_readTest_50 (by decide) (fun q1011 => ?_) (fun q1011 => ?_)
          · refine j_iconst C (v := 0) dX6_readTest_53 (by decide) ?_
            exact e_iretM C hQ hr rfl hlk dX6_readTest_54 (Nat.le_of_ble_eq_true rfl) (Nat.le_of_ble_eq_true rfl)
          · refine j_aload_n C dX6_readTest_55 (i := 0) rfl rfl ?_
            refine j_bipush C (v := 12) dX6_readTest_56 (by decide) ?_
            refine j_iconst C (v := 0) dX6_readTest_58 (by decide) ?_
            refine j_iconst C (v := 0) dX6_readTest_59 (by decide) ?_
            refine j_callVim C (As := [.int _, .int _, .int _]) (rest := []) k_X6_211 ⟨by simp only [rm_g_Rd_readBoth]; omega, by simp only [rm_g_Rd_readBoth]; omega⟩ rfl (Nat.le_of_ble_eq_true rfl) ⟨Nat.le_of_ble_eq_true rfl, Nat.le_of_ble_eq_true rfl⟩ rfl dX6_readTest_60 (fun r0 q0 => c_Rd_write l w _ _ _ _ _ _ q0) (fun r1012 er1012 nr1012 => ?_)
            refine j_pop C dX6_readTest_63 rfl ?_
            refine j_iinc C (v := x2 + 1) [(2, _), (0, _), (1, _)] dX6_readTest_64 rfl rfl (by decide) rfl ?_
            refine j_goto C (tgt := 12) dX6_readTest_67 (by decide) ?_
            exact j_sub [1, 2, 0] rfl (ih _ _)
set_option maxRecDepth 100000 in
set_option maxHeartbeats 4000000 in
theorem cb_Rd_readTest (l : Launch) (w : hp_W) (fl : Nat) (nr : Nat) (rc : Nat → Nat → Int32 → hp_M → Option (Int32 × hp_M)) (hrec0 : ∀ (a : Nat) (z0 : Int32) (h : hp_M) (r : Int32 × hp_M), rc 0 a z0 h = some r → CT l w yX6_readBoth cX6_readBoth 3 (some .boolean) (rm_g_Rd_readBoth nr) [.ref a, .int z0] h (some (.int r.1)) r.2) (hrec1 : ∀ (a : Nat) (z0 : Int32) (h : hp_M) (r : Int32 × hp_M), rc 1 a z0 h = some r → CT l w yX6_readSingle cX6_readSingle 3 (some .boolean) (rm_g_Rd_readBoth nr) [.ref a, .int z0] h (some (.int r.1)) r.2) (hrec2 : ∀ (a : Nat) (z0 : Int32) (h : hp_M) (r : Int32 × hp_M), rc 2 a z0 h = some r → CT l w yX6_readTest cX6_readTest 3 (some .boolean) (rm_g_Rd_readBoth nr) [.ref a, .int z0] h (some (.int r.1)) r.2) (a0 : Nat) (x1 : Int32) (h : hp_M) (out : Int32 × hp_M) (hX : f_Rd_readTest_body w fl rc a0 x1 h = some out) : CT l w yX6_readTest cX6_readTest 3 (some .boolean) (rm_g_Rd_readBoth (nr + 1)) [.ref a0, .int x1] h (some (.int out.1)) out.2 := by
  unfold f_Rd_readTest_body at hX
  refine ct_of (by decide +kernel) (Nat.le_of_ble_eq_true rfl) hX ?_
  intro p e s m args below meth c Q C hr hlk hnm hQ
  refine j_aload_n C dX6_readTest_0 (i := 0) rfl rfl ?_
  refine j_iload_n C dX6_readTest_1 (i := 1) rfl rfl ?_
  refine j_callVim C (As := [.int _]) (rest := []) k_X6_205 ⟨by simp only [rm_g_Rd_readBoth]; omega, by simp only [rm_g_Rd_readBoth]; omega⟩ rfl (Nat.le_of_ble_eq_true rfl) ⟨Nat.le_of_ble_eq_true rfl, Nat.le_of_ble_eq_true rfl⟩ rfl dX6_readTest_2 (fun r0 q0 => hrec0 _ _ _ r0 q0) (fun r1 er1 nr1 => ?_)
  refine j_ifne C (tgt := 10) dX6_readTest_5 (by decide) (fun q2 => ?_) (fun q2 => ?_)
  · refine j_iconst C (v := 0) dX6_readTest_8 (by decide) ?_
    exact e_iretM C hQ hr rfl hlk dX6_readTest_9 (Nat.le_of_ble_eq_true rfl) (Nat.le_of_ble_eq_true rfl)
  · refine j_iconst C (v := 0) dX6_readTest_10 (by decide) ?_
    refine j_istore_n C [(2, _), (0, _), (1, _)] dX6_readTest_11 (i := 2) rfl (by decide) rfl ?_
    refine j_sub [1, 2, 0] rfl (b_Rd_readTest_12 fl nr rc hrec0 hrec1 hrec2  _ _ C hr hlk hnm hQ  _ _ _)
theorem c_g_Rd_readBoth (l : Launch) (w : hp_W) (fl : Nat) : ∀ n : Nat, (∀ (a : Nat) (z0 : Int32) (h : hp_M) (r : Int32 × hp_M), g_Rd_readBoth w fl n 0 a z0 h = some r → CT l w yX6_readBoth cX6_readBoth 3 (some .boolean) (rm_g_Rd_readBoth n) [.ref a, .int z0] h (some (.int r.1)) r.2) ∧ (∀ (a : Nat) (z0 : Int32) (h : hp_M) (r : Int32 × hp_M), g_Rd_readBoth w fl n 1 a z0 h = some r → CT l w yX6_readSingle cX6_readSingle 3 (some .boolean) (rm_g_Rd_readBoth n) [.ref a, .int z0] h (some (.int r.1)) r.2) ∧ (∀ (a : Nat) (z0 : Int32) (h : hp_M) (r : Int32 × hp_M), g_Rd_readBoth w fl n 2 a z0 h = some r → CT l w yX6_readTest cX6_readTest 3 (some .boolean) (rm_g_Rd_readBoth n) [.ref a, .int z0] h (some (.int r.1)) r.2) := by
  intro n
  induction n with
  | zero => exact ⟨(fun a z0 h r q => nomatch q), (fun a z0 h r q => nomatch q), (fun a z0 h r q => nomatch q)⟩
  | succ n ih =>
    obtain ⟨ih0, ih1, ih2⟩ := ih
    exact ⟨fun a z0 h r q => cb_Rd_readBoth l w fl n (g_Rd_readBoth w fl n) ih0 ih1 ih2 a z0 h r (by first | exact q | simpa [g_Rd_readBoth] using q), fun a z0 h r q => cb_Rd_readSingle l w fl n (g_Rd_readBoth w fl n) ih0 ih1 ih2 a z0 h r (by first | exact q | simpa [g_Rd_readBoth] using q), fun a z0 h r q => cb_Rd_readTest l w fl n (g_Rd_readBoth w fl n) ih0 ih1 ih2 a z0 h r (by first | exact q | simpa [g_Rd_readBoth] using q)⟩
theorem c_Rd_readBoth (l : Launch) (w : hp_W) (fl : Nat) (a0 : Nat) (x1 : Int32) (h : hp_M) (out : Int32 × hp_M) (hX : f_Rd_readBoth w fl a0 x1 h = some out) : CT l w yX6_readBoth cX6_readBoth 3 (some .boolean) ({ frames := 132, cells := 0, slots := 0, locals := 2972 }) [.ref a0, .int x1] h (some (.int out.1)) out.2 := (c_g_Rd_readBoth l w fl 64).1 a0 x1 h out hX
theorem c_Rd_readSingle (l : Launch) (w : hp_W) (fl : Nat) (a0 : Nat) (x1 : Int32) (h : hp_M) (out : Int32 × hp_M) (hX : f_Rd_readSingle w fl a0 x1 h = some out) : CT l w yX6_readSingle cX6_readSingle 3 (some .boolean) ({ frames := 132, cells := 0, slots := 0, locals := 2972 }) [.ref a0, .int x1] h (some (.int out.1)) out.2 := (c_g_Rd_readBoth l w fl 64).2.1 a0 x1 h out hX
theorem c_Rd_readTest (l : Launch) (w : hp_W) (fl : Nat) (a0 : Nat) (x1 : Int32) (h : hp_M) (out : Int32 × hp_M) (hX : f_Rd_readTest w fl a0 x1 h = some out) : CT l w yX6_readTest cX6_readTest 3 (some .boolean) ({ frames := 132, cells := 0, slots := 0, locals := 2972 }) [.ref a0, .int x1] h (some (.int out.1)) out.2 := (c_g_Rd_readBoth l w fl 64).2.2 a0 x1 h out hX
def f_Rd_readRule (w : hp_W) (fl : Nat) (a0 : Nat) (h : hp_M) : Option (Int32 × hp_M) := jn (fun (h7 : hp_M) => (gR h7 a0 5 2).bind fun v8 => (onO h7 v8 1 (f_Bk_program v8 h7)).bind fun r9 => (onO h7 r9 4 (f_Pr_size r9 h7)).bind fun r10 => (gR h7 a0 5 0).bind fun v11 => (onO h7 v11 6 (f_Sc_take v11 (w_kd w 11) h7)).bind fun r12 => if r12.1 = 0 then (some (0, r12.2)) else ((onO r12.2 a0 5 (f_Rd_readTest w fl a0 0 r12.2)).bind fun r14 => if r14.1 = 0 then (some (0, r14.2)) else ((gR r14.2 a0 5 0).bind fun v16 => (onO r14.2 v16 6 (f_Sc_take v16 (w_kd w 12) r14.2)).bind fun r17 => if r17.1 = 0 then (some (0, r17.2)) else ((gR r17.2 a0 5 2).bind fun v19 => (onO r17.2 v19 1 (f_Bk_program v19 r17.2)).bind fun r20 => (onO r17.2 r20 4 (f_Pr_size r20 r17.2)).bind fun r21 => (onO r17.2 a0 5 (f_Rd_readSum w fl a0 0 r17.2)).bind fun r22 => if r22.1 = 0 then (some (0, r22.2)) else ((gR r22.2 a0 5 0).bind fun v24 => (onO r22.2 v24 6 (f_Sc_take v24 (w_kd w 13) r22.2)).bind fun r25 => if r25.1 = 0 then (some (0, r25.2)) else ((onO r25.2 a0 5 (f_Rd_readName w fl a0 1 r25.2)).bind fun r27 => if r27.1 = 0 then (some (0, r27.2)) else ((gR r27.2 a0 5 2).bind fun v29 => (gI r27.2 a0 5 5).bind fun v30 => (onO r27.2 v29 1 (f_Bk_addRule v29 r10 r21 v30 r27.2)).bind fun h31 => (gR h31 a0 5 0).bind fun v32 => (onO h31 v32 6 (f_Sc_take v32 (w_kd w 30) h31)).bind fun r33 => some (r33.1, r33.2)))))))) fun (j6 : hp_M → Option (Int32 × hp_M)) => (gR h a0 5 2).bind fun v34 => (onO h v34 1 (f_Bk_rules v34 h)).bind fun r35 => if r35 < 12 then (j6 h) else ((gR h a0 5 0).bind fun v37 => (onO h v37 6 (f_Sc_start v37 h)).bind fun r38 => (onO h a0 5 (f_Rd_blame a0 4 r38 h)).bind fun h39 => j6 h39)
set_option maxRecDepth 100000 in
set_option maxHeartbeats 4000000 in
theorem c_Rd_readRule (l : Launch) (w : hp_W) (fl : Nat) (a0 : Nat) (h : hp_M) (out : Int32 × hp_M) (hX : f_Rd_readRule w fl a0 h = some out) : CT l w yX6_readRule cX6_readRule 3 (some .boolean) ({ frames := 133, cells := 0, slots := 0, locals := 2994 }) [.ref a0] h (some (.int out.1)) out.2 := by
  unfold f_Rd_readRule at hX
  refine ct_of (by decide +kernel) (Nat.le_of_ble_eq_true rfl) hX ?_
  intro p e s m args below meth c Q C hr hlk hnm hQ
  refine j_jn (P := fun (j6 : hp_M → Option (Int32 × hp_M)) => ∀ (h7 : hp_M), J p l e ({ frames := 133, cells := 0, slots := 0, locals := 2994 }) s m args below meth c Q w 3 0 0 24 [(0, .ref a0)] [] h7 (j6 h7) out) ?_ (fun j6 hj6 => ?_)
  · intro h7
    refine j_aload_n C dX6_readRule_24 (i := 0) rfl rfl ?_
    refine j_getR C g_X6_25 dX6_readRule_25 (fun v8 ev8 => ?_)
    refine j_callVr C (As := []) (rest := []) k_X6_80 ⟨Nat.le_of_ble_eq_true rfl, Nat.le_of_ble_eq_true rfl⟩ rfl (Nat.le_of_ble_eq_true rfl) ⟨Nat.le_of_ble_eq_true rfl, Nat.le_of_ble_eq_true rfl⟩ rfl dX6_readRule_28 (fun r0 q0 => c_Bk_program l w _ _ _ q0) (fun r9 er9 nr9 => ?_)
    refine j_callVi C (As := []) (rest := []) k_X6_177 ⟨Nat.le_of_ble_eq_true rfl, Nat.le_of_ble_eq_true rfl⟩ rfl (Nat.le_of_ble_eq_true rfl) ⟨Nat.le_of_ble_eq_true rfl, Nat.le_of_ble_eq_true rfl⟩ rfl dX6_readRule_31 (fun r0 q0 => c_Pr_size l w _ _ _ q0) (fun r10 er10 nr10 => ?_)
    refine j_istore_n C [(1, _), (0, _)] dX6_readRule_34 (i := 1) rfl (by decide) rfl ?_
    refine j_aload_n C dX6_readRule_35 (i := 0) rfl rfl ?_
    refine j_getR C g_X6_21 dX6_readRule_36 (fun v11 ev11 => ?_)
    refine j_kind C s_X6_67 (by decide) dX6_readRule_39 ?_
    refine j_callVim C (As := [.ref _]) (rest := []) k_X6_77 ⟨Nat.le_of_ble_eq_true rfl, Nat.le_of_ble_eq_true rfl⟩ rfl (Nat.le_of_ble_eq_true rfl) ⟨Nat.le_of_ble_eq_true rfl, Nat.le_of_ble_eq_true rfl⟩ rfl dX6_readRule_42 (fun r0 q0 => c_Sc_take l w _ _ _ _ q0) (fun r12 er12 nr12 => ?_)
    refine j_ifeq C (tgt := 69) dX6_readRule_45 (by decide) (fun q13 => ?_) (fun q13 => ?_)
    · refine j_iconst C (v := 0) dX6_readRule_69 (by decide) ?_
      exact e_iretM C hQ hr rfl hlk dX6_readRule_70 (Nat.le_of_ble_eq_true rfl) (Nat.le_of_ble_eq_true rfl)
    · refine j_aload_n C dX6_readRule_48 (i := 0) rfl rfl ?_
      refine j_iconst C (v := 0) dX6_readRule_49 (by decide) ?_
      refine j_callVim C (As := [.int _]) (rest := []) k_X6_180 ⟨Nat.le_of_ble_eq_true rfl, Nat.le_of_ble_eq_true rfl⟩ rfl (Nat.le_of_ble_eq_true rfl) ⟨Nat.le_of_ble_eq_true rfl, Nat.le_of_ble_eq_true rfl⟩ rfl dX6_readRule_50 (fun r0 q0 => c_Rd_readTest l w fl _ _ _ _ q0) (fun r14 er14 nr14 => ?_)
      refine j_ifeq C (tgt := 69) dX6_readRule_53 (by decide) (fun q15 => ?_) (fun q15 => ?_)
      · refine j_iconst C (v := 0) dX6_readRule_69 (by decide) ?_
        exact e_iretM C hQ hr rfl hlk dX6_readRule_70 (Nat.le_of_ble_eq_true rfl) (Nat.le_of_ble_eq_true rfl)
      · refine j_aload_n C dX6_readRule_56 (i := 0) rfl rfl ?_
        refine j_getR C g_X6_21 dX6_readRule_57 (fun v16 ev16 => ?_)
        refine j_kind C s_X6_183 (by decide) dX6_readRule_60 ?_
        refine j_callVim C (As := [.ref _]) (rest := []) k_X6_77 ⟨Nat.le_of_ble_eq_true rfl, Nat.le_of_ble_eq_true rfl⟩ rfl (Nat.le_of_ble_eq_true rfl) ⟨Nat.le_of_ble_eq_true rfl, Nat.le_of_ble_eq_true rfl⟩ rfl dX6_readRule_63 (fun r0 q0 => c_Sc_take l w _ _ _ _ q0) (fun r17 er17 nr17 => ?_)
        refine j_ifne C (tgt := 71) dX6_readRule_66 (by decide) (fun q18 => ?_) (fun q18 => ?_)
        · refine j_iconst C (v := 0) dX6_readRule_69 (by decide) ?_
          exact e_iretM C hQ hr rfl hlk dX6_readRule_70 (Nat.le_of_ble_eq_true rfl) (Nat.le_of_ble_eq_true rfl)
        · refine j_aload_n C dX6_readRule_71 (i := 0) rfl rfl ?_
          refine j_getR C g_X6_25 dX6_readRule_72 (fun v19 ev19 => ?_)
          refine j_callVr C (As := []) (rest := []) k_X6_80 ⟨Nat.le_of_ble_eq_true rfl, Nat.le_of_ble_eq_true rfl⟩ rfl (Nat.le_of_ble_eq_true rfl) ⟨Nat.le_of_ble_eq_true rfl, Nat.le_of_ble_eq_true rfl⟩ rfl dX6_readRule_75 (fun r0 q0 => c_Bk_program l w _ _ _ q0) (fun r20 er20 nr20 => ?_)
          refine j_callVi C (As := []) (rest := []) k_X6_177 ⟨Nat.le_of_ble_eq_true rfl, Nat.le_of_ble_eq_true rfl⟩ rfl (Nat.le_of_ble_eq_true rfl) ⟨Nat.le_of_ble_eq_true rfl, Nat.le_of_ble_eq_true rfl⟩ rfl dX6_readRule_78 (fun r0 q0 => c_Pr_size l w _ _ _ q0) (fun r21 er21 nr21 => ?_)
          refine j_istore_n C [(2, _), (1, _), (0, _)] dX6_readRule_81 (i := 2) rfl (by decide) rfl ?_
          refine j_aload_n C dX6_readRule_82 (i := 0) rfl rfl ?_
          refine j_iconst C (v := 0) dX6_readRule_83 (by decide) ?_
          refine j_callVim C (As := [.int _]) (rest := []) k_X6_186 ⟨Nat.le_of_ble_eq_true rfl, Nat.le_of_ble_eq_true rfl⟩ rfl (Nat.le_of_ble_eq_true rfl) ⟨Nat.le_of_ble_eq_true rfl, Nat.le_of_ble_eq_true rfl⟩ rfl dX6_readRule_84 (fun r0 q0 => c_Rd_readSum l w fl _ _ _ _ q0) (fun r22 er22 nr22 => ?_)
          refine j_ifeq C (tgt := 111) dX6_readRule_87 (by decide) (fun q23 => ?_) (fun q23 => ?_)
          · refine j_iconst C (v := 0) dX6_readRule_111 (by decide) ?_
            exact e_iretM C hQ hr rfl hlk dX6_readRule_112 (Nat.le_of_ble_eq_true rfl) (Nat.le_of_ble_eq_true rfl)
          · refine j_aload_n C dX6_readRule_90 (i := 0) rfl rfl ?_
            refine j_getR C g_X6_21 dX6_readRule_91 (fun v24 ev24 => ?_)
            refine j_kind C s_X6_189 (by decide) dX6_readRule_94 ?_
            refine j_callVim C (As := [.ref _]) (rest := []) k_X6_77 ⟨Nat.le_of_ble_eq_true rfl, Nat.le_of_ble_eq_true rfl⟩ rfl (Nat.le_of_ble_eq_true rfl) ⟨Nat.le_of_ble_eq_true rfl, Nat.le_of_ble_eq_true rfl⟩ rfl dX6_readRule_97 (fun r0 q0 => c_Sc_take l w _ _ _ _ q0) (fun r25 er25 nr25 => ?_)
            refine j_ifeq C (tgt := 111) dX6_readRule_100 (by decide) (fun q26 => ?_) (fun q26 => ?_)
            · refine j_iconst C (v := 0) dX6_readRule_111 (by decide) ?_
              exact e_iretM C hQ hr rfl hlk dX6_readRule_112 (Nat.le_of_ble_eq_true rfl) (Nat.le_of_ble_eq_true rfl)
            · refine j_aload_n C dX6_readRule_103 (i := 0) rfl rfl ?_
              refine j_iconst C (v := 1) dX6_readRule_104 (by decide) ?_
              refine j_callVim C (As := [.int _]) (rest := []) k_X6_192 ⟨Nat.le_of_ble_eq_true rfl, Nat.le_of_ble_eq_true rfl⟩ rfl (Nat.le_of_ble_eq_true rfl) ⟨Nat.le_of_ble_eq_true rfl, Nat.le_of_ble_eq_true rfl⟩ rfl dX6_readRule_105 (fun r0 q0 => c_Rd_readName l w fl _ _ _ _ q0) (fun r27 er27 nr27 => ?_)
              refine j_ifne C (tgt := 113) dX6_readRule_108 (by decide) (fun q28 => ?_) (fun q28 => ?_)
              · refine j_iconst C (v := 0) dX6_readRule_111 (by decide) ?_
                exact e_iretM C hQ hr rfl hlk dX6_readRule_112 (Nat.le_of_ble_eq_true rfl) (Nat.le_of_ble_eq_true rfl)
              · refine j_aload_n C dX6_readRule_113 (i := 0) rfl rfl ?_
                refine j_getR C g_X6_25 dX6_readRule_114 (fun v29 ev29 => ?_)
                refine j_iload_n C dX6_readRule_117 (i := 1) rfl rfl ?_
                refine j_iload_n C dX6_readRule_118 (i := 2) rfl rfl ?_
                refine j_aload_n C dX6_readRule_119 (i := 0) rfl rfl ?_
                refine j_getI C g_X6_115 dX6_readRule_120 (fun v30 ev30 => ?_)
                refine j_callVv C (As := [.int _, .int _, .int _]) (rest := []) k_X6_196 ⟨Nat.le_of_ble_eq_true rfl, Nat.le_of_ble_eq_true rfl⟩ rfl (Nat.le_of_ble_eq_true rfl) ⟨Nat.le_of_ble_eq_true rfl, Nat.le_of_ble_eq_true rfl⟩ rfl dX6_readRule_123 (fun r0 q0 => c_Bk_addRule l w _ _ _ _ _ _ q0) (fun h31 eh31 _ => ?_)
                refine j_aload_n C dX6_readRule_126 (i := 0) rfl rfl ?_
                refine j_getR C g_X6_21 dX6_readRule_127 (fun v32 ev32 => ?_)
                refine j_kind C s_X6_136 (by decide) dX6_readRule_130 ?_
                refine j_callVim C (As := [.ref _]) (rest := []) k_X6_77 ⟨Nat.le_of_ble_eq_true rfl, Nat.le_of_ble_eq_true rfl⟩ rfl (Nat.le_of_ble_eq_true rfl) ⟨Nat.le_of_ble_eq_true rfl, Nat.le_of_ble_eq_true rfl⟩ rfl dX6_readRule_133 (fun r0 q0 => c_Sc_take l w _ _ _ _ q0) (fun r33 er33 nr33 => ?_)
                exact e_iretM C hQ hr (nr33 _ _ rfl rfl) hlk dX6_readRule_136 (Nat.le_of_ble_eq_true rfl) (Nat.le_of_ble_eq_true rfl)
  · refine j_aload_n C dX6_readRule_0 (i := 0) rfl rfl ?_
    refine j_getR C g_X6_25 dX6_readRule_1 (fun v34 ev34 => ?_)
    refine j_callVi C (As := []) (rest := []) k_X6_174 ⟨Nat.le_of_ble_eq_true rfl, Nat.le_of_ble_eq_true rfl⟩ rfl (Nat.le_of_ble_eq_true rfl) ⟨Nat.le_of_ble_eq_true rfl, Nat.le_of_ble_eq_true rfl⟩ rfl dX6_readRule_4 (fun r0 q0 => c_Bk_rules l w _ _ _ q0) (fun r35 er35 nr35 => ?_)
    refine j_bipush C (v := 12) dX6_readRule_7 (by decide) ?_
    refine j_icmplt C (tgt := 24) dX6_readRule_9 (by decide) (fun q36 => ?_) (fun q36 => ?_)
    · exact hj6 _
    · refine j_aload_n C dX6_readRule_12 (i := 0) rfl rfl ?_
      refine j_iconst C (v := 4) dX6_readRule_13 (by decide) ?_
      refine j_aload_n C dX6_readRule_14 (i := 0) rfl rfl ?_
      refine j_getR C g_X6_21 dX6_readRule_15 (fun v37 ev37 => ?_)
      refine j_callVi C (As := []) (rest := [_, _]) k_X6_73 ⟨Nat.le_of_ble_eq_true rfl, Nat.le_of_ble_eq_true rfl⟩ rfl (Nat.le_of_ble_eq_true rfl) ⟨Nat.le_of_ble_eq_true rfl, Nat.le_of_ble_eq_true rfl⟩ rfl dX6_readRule_18 (fun r0 q0 => c_Sc_start l w _ _ _ q0) (fun r38 er38 nr38 => ?_)
      refine j_callVv C (As := [.int _, .int _]) (rest := []) k_X6_167 ⟨Nat.le_of_ble_eq_true rfl, Nat.le_of_ble_eq_true rfl⟩ rfl (Nat.le_of_ble_eq_true rfl) ⟨Nat.le_of_ble_eq_true rfl, Nat.le_of_ble_eq_true rfl⟩ rfl dX6_readRule_21 (fun r0 q0 => c_Rd_blame l w _ _ _ _ _ q0) (fun h39 eh39 _ => ?_)
      exact hj6 _
def f_Rd_readInto_b33 (w : hp_W) (fl : Nat) (a0 : Nat) (k131 : Int32 → hp_M → Option (Int32 × hp_M)) : Nat → Int32 → Int32 → hp_M → Option (Int32 × hp_M)
  | 0, _, _, _ => none
  | n + 1, x2, x3, h => if 400 ≤ x3 then (k131 x2 h) else (if x2 = 0 then (k131 x2 h) else ((gR h a0 5 0).bind fun v1021 => (onO h v1021 6 (f_Sc_isAt v1021 (w_kd w 0) h)).bind fun r1022 => if r1022 = 0 then (jn (fun (u1028 : Int32) (h1029 : hp_M) => f_Rd_readInto_b33 w fl a0 k131 n u1028 (x3 + 1) h1029) fun (j1027 : Int32 → hp_M → Option (Int32 × hp_M)) => (gR h a0 5 0).bind fun v1030 => (onO h v1030 6 (f_Sc_isAt v1030 (w_kd w 4) h)).bind fun r1031 => if r1031 = 0 then ((gR h a0 5 0).bind fun v1033 => (onO h v1033 6 (f_Sc_isAt v1033 (w_kd w 10) h)).bind fun r1034 => if r1034 = 0 then (jn (fun (u1040 : Int32) (h1041 : hp_M) => j1027 u1040 h1041) fun (j1039 : Int32 → hp_M → Option (Int32 × hp_M)) => jn (fun (h1061 : hp_M) => j1039 0 h1061) fun (j1060 : hp_M → Option (Int32 × hp_M)) => (gR h a0 5 0).bind fun v1062 => (onO h v1062 6 (f_Sc_isAt v1062 (w_kd w 11) h)).bind fun r1063 => if r1063 = 0 then (j1060 h) else ((onO h a0 5 (f_Rd_readRule w fl a0 h)).bind fun r1065 => if r1065.1 = 0 then (j1060 r1065.2) else (j1039 1 r1065.2))) else ((onO h a0 5 (f_Rd_readAlphabet w fl a0 h)).bind fun r1067 => j1027 r1067.1 r1067.2)) else ((onO h a0 5 (f_Rd_readPlanet w fl a0 h)).bind fun r1068 => j1027 r1068.1 r1068.2)) else (k131 x2 h)))
def f_Rd_readInto (w : hp_W) (fl : Nat) (a0 : Nat) (a1 : Nat) (h : hp_M) : Option (Int32 × hp_M) := (pF h a0 5 2 (.ref a1)).bind fun h1 => (gR h1 a0 5 2).bind fun v2 => (onO h1 v2 1 (f_Bk_empty v2 h1)).bind fun h3 => (gR h3 a0 5 0).bind fun v4 => (onO h3 v4 6 (f_Sc_scan w fl v4 h3)).bind fun h5 => (pF h5 a0 5 3 (.int 0)).bind fun h6 => (pF h6 a0 5 4 (.int (-1))).bind fun h7 => f_Rd_readInto_b33 w fl a0 (fun (u8 : Int32) (h9 : hp_M) => jn ((pF h9 a0 5 3 (.int 1)).bind fun h13 => (gR h13 a0 5 0).bind fun v14 => (onO h13 v14 6 (f_Sc_start v14 h13)).bind fun r15 => (pF h13 a0 5 4 (.int r15)).bind fun h16 => (gI h16 a0 5 3).bind fun v17 => some (v17, h16)) fun (j12 : Option (Int32 × hp_M)) => if u8 = 0 then (j12) else ((gR h9 a0 5 0).bind fun v19 => (onO h9 v19 6 (f_Sc_isAt v19 (w_kd w 0) h9)).bind fun r20 => if r20 = 0 then (j12) else ((gI h9 a0 5 3).bind fun v22 => some (v22, h9)))) fl 1 0 h7
set_option maxRecDepth 100000 in
set_option maxHeartbeats 4000000 in
theorem b_Rd_readInto_33 {p : Program} {l : Launch} {e : Env} {s : State} {m : MethodId} {args : Array Value} {below : List Frame} {meth : Method} {c : Code} {Q : State → Prop} {w : hp_W} {out : Int32 × hp_M} (fl : Nat)   (a0 : Nat) (k131 : Int32 → hp_M → Option (Int32 × hp_M)) (C : Cx p m c cX6_readInto 4 s args RX6 w) (hr : meth.sig.returnType = some .int) (hlk : meth.locks = false) (hnm : meth.name = "readInto") (hQ : QM below w args s ({ frames := 134, cells := 0, slots := 0, locals := 3016 }) (some .int) (some (.int out.1)) out.2 = Q) (hk131 : ∀ (z2 : Int32) (hz : hp_M), J p l e ({ frames := 134, cells := 0, slots := 0, locals := 3016 }) s m args below meth c Q w 4 0 0 131 [(0, .ref a0), (2, .int z2)] [] hz (k131 z2 hz) out) : ∀ (n : Nat) (x2 : Int32) (x3 : Int32) (h : hp_M), J p l e ({ frames := 134, cells := 0, slots := 0, locals := 3016 }) s m args below meth c Q w 4 0 0 33 [(0, .ref a0), (2, .int x2), (3, .int x3)] [] h (f_Rd_readInto_b33 w fl a0 k131 n x2 x3 h) out := by
  intro n
  induction n with
  | zero => intro x2 x3 h; exact j_none
  | succ n ih =>
    intro x2 x3 h
    rw [f_Rd_readInto_b33]
    refine j_iload_n C dX6_readInto_33 (i := 3) rfl rfl ?_
    refine j_sipush C (v := 400) dX6_readInto_34 (by decide) ?_
    refine j_icmpge C (tgt := 131) dX6_readInto_37 (by decide) (fun q1019 => ?_) (fun q1019 => ?_)
    · exact j_sub [0, 1] rfl (hk131 _ _)
    · refine j_iload_n C dX6_readInto_40 (i := 2) rfl rfl ?_
      refine j_ifeq C (tgt := 131) dX6_readInto_41 (by decide) (fun q1020 => ?_) (fun q1020 => ?_)
      · exact j_sub [0, 1] rfl (hk131 _ _)
      · refine j_aload_n C dX6_readInto_44 (i := 0) rfl rfl ?_
        refine j_getR C g_X6_21 dX6_readInto_45 (fun v1021 ev1021 => ?_)
        refine j_kind C s_X6_44 (by decide) dX6_readInto_48 ?_
        refine j_callVi C (As := [.ref _]) (rest := []) k_X6_50 ⟨Nat.le_of_ble_eq_true rfl, Nat.le_of_ble_eq_true rfl⟩ rfl (Nat.le_of_ble_eq_true rfl) ⟨Nat.le_of_ble_eq_true rfl, Nat.le_of_ble_eq_true rfl⟩ rfl dX6_readInto_51 (fun r0 q0 => c_Sc_isAt l w _ _ _ _ q0) (fun r1022 er1022 nr1022 => ?_)
        refine j_ifne C (tgt := 131) dX6_readInto_54 (by decide) (fun q1023 => ?_) (fun q1023 => ?_)
        · refine j_jn (P := fun (j1027 : Int32 → hp_M → Option (Int32 × hp_M)) => ∀ (u1028 : Int32) (h1029 : hp_M), J p l e ({ frames := 134, cells := 0, slots := 0, locals := 3016 }) s m args below meth c Q w 4 0 0 125 [(0, .ref a0), (2, .int u1028), (3, .int x3)] [] h1029 (j1027 u1028 h1029) out) ?_ (fun j1027 hj1027 => ?_)
          · intro u1028 h1029
            refine j_iinc C (v := x3 + 1) [(3, _), (0, _), (2, _)] dX6_readInto_125 rfl rfl (by decide) rfl ?_
            refine j_goto C (tgt := 33) dX6_readInto_128 (by decide) ?_
            exact j_sub [1, 2, 0] rfl (ih _ _ _)
          · refine j_aload_n C dX6_readInto_57 (i := 0) rfl rfl ?_
            refine j_getR C g_X6_21 dX6_readInto_58 (fun v1030 ev1030 => ?_)
            refine j_kind C s_X6_54 (by decide) dX6_readInto_61 ?_
            refine j_callVi C (As := [.ref _]) (rest := []) k_X6_50 ⟨Nat.le_of_ble_eq_true rfl, Nat.le_of_ble_eq_true rfl⟩ rfl (Nat.le_of_ble_eq_true rfl) ⟨Nat.le_of_ble_eq_true rfl, Nat.le_of_ble_eq_true rfl⟩ rfl dX6_readInto_64 (fun r0 q0 => c_Sc_isAt l w _ _ _ _ q0) (fun r1031 er1031 nr1031 => ?_)
            refine j_ifeq C (tgt := 78) dX6_readInto_67 (by decide) (fun q1032 => ?_) (fun q1032 => ?_)
            · refine j_aload_n C dX6_readInto_78 (i := 0) rfl rfl ?_
              refine j_getR C g_X6_21 dX6_readInto_79 (fun v1033 ev1033 => ?_)
              refine j_kind C s_X6_61 (by decide) dX6_readInto_82 ?_
              refine j_callVi C (As := [.ref _]) (rest := []) k_X6_50 ⟨Nat.le_of_ble_eq_true rfl, Nat.le_of_ble_eq_true rfl⟩ rfl (Nat.le_of_ble_eq_true rfl) ⟨Nat.le_of_ble_eq_true rfl, Nat.le_of_ble_eq_true rfl⟩ rfl dX6_readInto_85 (fun r0 q0 => c_Sc_isAt l w _ _ _ _ q0) (fun r1034 er1034 nr1034 => ?_)
              refine j_ifeq C (tgt := 99) dX6_readInto_88 (by decide) (fun q1035 => ?_) (fun q1035 => ?_)
              · refine j_jn (P := fun (j1039 : Int32 → hp_M → Option (Int32 × hp_M)) => ∀ (u1040 : Int32) (h1041 : hp_M), J p l e ({ frames := 134, cells := 0, slots := 0, locals := 3016 }) s m args below meth c Q w 4 0 0 124 [(0, .ref a0), (3, .int x3)] [.int u1040] h1041 (j1039 u1040 h1041) out) ?_ (fun j1039 hj1039 => ?_)
                · intro u1040 h1041
                  refine j_istore_n C [(2, _), (0, _), (3, _)] dX6_readInto_124 (i := 2) rfl (by decide) rfl ?_
                  exact j_sub [1, 0, 2] rfl (hj1027 _ _)
                · refine j_jn (P := fun (j1060 : hp_M → Option (Int32 × hp_M)) => ∀ (h1061 : hp_M), J p l e ({ frames := 134, cells := 0, slots := 0, locals := 3016 }) s m args below meth c Q w 4 0 0 123 [(0, .ref a0), (3, .int x3)] [] h1061 (j1060 h1061) out) ?_ (fun j1060 hj1060 => ?_)
                  · intro h1061
                    refine j_iconst C (v := 0) dX6_readInto_123 (by decide) ?_
                    exact hj1039 _ _
                  · refine j_aload_n C dX6_readInto_99 (i := 0) rfl rfl ?_
                    refine j_getR C g_X6_21 dX6_readInto_100 (fun v1062 ev1062 => ?_)
                    refine j_kind C s_X6_67 (by decide) dX6_readInto_103 ?_
                    refine j_callVi C (As := [.ref _]) (rest := []) k_X6_50 ⟨Nat.le_of_ble_eq_true rfl, Nat.le_of_ble_eq_true rfl⟩ rfl (Nat.le_of_ble_eq_true rfl) ⟨Nat.le_of_ble_eq_true rfl, Nat.le_of_ble_eq_true rfl⟩ rfl dX6_readInto_106 (fun r0 q0 => c_Sc_isAt l w _ _ _ _ q0) (fun r1063 er1063 nr1063 => ?_)
                    refine j_ifeq C (tgt := 123) dX6_readInto_109 (by decide) (fun q1064 => ?_) (fun q1064 => ?_)
                    · exact j_sub [0, 2] rfl (hj1060 _)
                    · refine j_aload_n C dX6_readInto_112 (i := 0) rfl rfl ?_
                      refine j_callVim C (As := []) (rest := []) k_X6_70 ⟨Nat.le_of_ble_eq_true rfl, Nat.le_of_ble_eq_true rfl⟩ rfl (Nat.le_of_ble_eq_true rfl) ⟨Nat.le_of_ble_eq_true rfl, Nat.le_of_ble_eq_true rfl⟩ rfl dX6_readInto_113 (fun r0 q0 => c_Rd_readRule l w fl _ _ _ q0) (fun r1065 er1065 nr1065 => ?_)
                      refine j_ifeq C (tgt := 123) dX6_readInto_116 (by decide) (fun q1066 => ?_) (fun q1066 => ?_)
                      · exact j_sub [0, 2] rfl (hj1060 _)
                      · refine j_iconst C (v := 1) dX6_readInto_119 (by decide) ?_
                        refine j_goto C (tgt := 124) dX6_readInto_120 (by decide) ?_
                        exact j_sub [0, 2] rfl (hj1039 _ _)
              · refine j_aload_n C dX6_readInto_91 (i := 0) rfl rfl ?_
                refine j_callVim C (As := []) (rest := []) k_X6_64 ⟨Nat.le_of_ble_eq_true rfl, Nat.le_of_ble_eq_true rfl⟩ rfl (Nat.le_of_ble_eq_true rfl) ⟨Nat.le_of_ble_eq_true rfl, Nat.le_of_ble_eq_true rfl⟩ rfl dX6_readInto_92 (fun r0 q0 => c_Rd_readAlphabet l w fl _ _ _ q0) (fun r1067 er1067 nr1067 => ?_)
                refine j_istore_n C [(2, _), (0, _), (3, _)] dX6_readInto_95 (i := 2) rfl (by decide) rfl ?_
                refine j_goto C (tgt := 125) dX6_readInto_96 (by decide) ?_
                exact j_sub [1, 0, 2] rfl (hj1027 _ _)
            · refine j_aload_n C dX6_readInto_70 (i := 0) rfl rfl ?_
              refine j_callVim C (As := []) (rest := []) k_X6_57 ⟨Nat.le_of_ble_eq_true rfl, Nat.le_of_ble_eq_true rfl⟩ rfl (Nat.le_of_ble_eq_true rfl) ⟨Nat.le_of_ble_eq_true rfl, Nat.le_of_ble_eq_true rfl⟩ rfl dX6_readInto_71 (fun r0 q0 => c_Rd_readPlanet l w fl _ _ _ q0) (fun r1068 er1068 nr1068 => ?_)
              refine j_istore_n C [(2, _), (0, _), (3, _)] dX6_readInto_74 (i := 2) rfl (by decide) rfl ?_
              refine j_goto C (tgt := 125) dX6_readInto_75 (by decide) ?_
              exact j_sub [1, 0, 2] rfl (hj1027 _ _)
        · exact j_sub [0, 1] rfl (hk131 _ _)
set_option maxRecDepth 100000 in
set_option maxHeartbeats 4000000 in
theorem c_Rd_readInto (l : Launch) (w : hp_W) (fl : Nat) (a0 : Nat) (a1 : Nat) (h : hp_M) (out : Int32 × hp_M) (hX : f_Rd_readInto w fl a0 a1 h = some out) : CT l w yX6_readInto cX6_readInto 4 (some .int) ({ frames := 134, cells := 0, slots := 0, locals := 3016 }) [.ref a0, .ref a1] h (some (.int out.1)) out.2 := by
  unfold f_Rd_readInto at hX
  refine ct_of (by decide +kernel) (Nat.le_of_ble_eq_true rfl) hX ?_
  intro p e s m args below meth c Q C hr hlk hnm hQ
  refine j_aload_n C dX6_readInto_0 (i := 0) rfl rfl ?_
  refine j_aload_n C dX6_readInto_1 (i := 1) rfl rfl ?_
  refine j_putR C p_X6_25 (fun q => nomatch q) dX6_readInto_2 rfl rfl (fun h1 eh1 => ?_)
  refine j_aload_n C dX6_readInto_5 (i := 0) rfl rfl ?_
  refine j_getR C g_X6_25 dX6_readInto_6 (fun v2 ev2 => ?_)
  refine j_callVv C (As := []) (rest := []) k_X6_33 ⟨Nat.le_of_ble_eq_true rfl, Nat.le_of_ble_eq_true rfl⟩ rfl (Nat.le_of_ble_eq_true rfl) ⟨Nat.le_of_ble_eq_true rfl, Nat.le_of_ble_eq_true rfl⟩ rfl dX6_readInto_9 (fun r0 q0 => c_Bk_empty l w _ _ _ q0) (fun h3 eh3 _ => ?_)
  refine j_aload_n C dX6_readInto_12 (i := 0) rfl rfl ?_
  refine j_getR C g_X6_21 dX6_readInto_13 (fun v4 ev4 => ?_)
  refine j_callVv C (As := []) (rest := []) k_X6_38 ⟨Nat.le_of_ble_eq_true rfl, Nat.le_of_ble_eq_true rfl⟩ rfl (Nat.le_of_ble_eq_true rfl) ⟨Nat.le_of_ble_eq_true rfl, Nat.le_of_ble_eq_true rfl⟩ rfl dX6_readInto_16 (fun r0 q0 => c_Sc_scan l w fl _ _ _ q0) (fun h5 eh5 _ => ?_)
  refine j_aload_n C dX6_readInto_19 (i := 0) rfl rfl ?_
  refine j_iconst C (v := 0) dX6_readInto_20 (by decide) ?_
  refine j_putI C p_X6_41 (fun q => nomatch q) dX6_readInto_21 (fun h6 eh6 => ?_)
  refine j_aload_n C dX6_readInto_24 (i := 0) rfl rfl ?_
  refine j_iconst C (v := -1) dX6_readInto_25 (by decide) ?_
  refine j_putI C p_X6_29 (fun q => nomatch q) dX6_readInto_26 (fun h7 eh7 => ?_)
  refine j_iconst C (v := 1) dX6_readInto_29 (by decide) ?_
  refine j_istore_n C [(2, _), (0, _), (1, _)] dX6_readInto_30 (i := 2) rfl (by decide) rfl ?_
  refine j_iconst C (v := 0) dX6_readInto_31 (by decide) ?_
  refine j_istore_n C [(3, _), (2, _), (0, _), (1, _)] dX6_readInto_32 (i := 3) rfl (by decide) rfl ?_
  refine j_sub [2, 1, 0] rfl (b_Rd_readInto_33 fl  _ _ C hr hlk hnm hQ (fun u8 h9 => ?_) _ _ _ _)
  refine j_jn (P := fun j12 => J p l e ({ frames := 134, cells := 0, slots := 0, locals := 3016 }) s m args below meth c Q w 4 0 0 148 [(0, .ref a0)] [] h9 (j12) out) ?_ (fun j12 hj12 => ?_)
  · refine j_aload_n C dX6_readInto_148 (i := 0) rfl rfl ?_
    refine j_iconst C (v := 1) dX6_readInto_149 (by decide) ?_
    refine j_putI C p_X6_41 (fun q => nomatch q) dX6_readInto_150 (fun h13 eh13 => ?_)
    refine j_aload_n C dX6_readInto_153 (i := 0) rfl rfl ?_
    refine j_aload_n C dX6_readInto_154 (i := 0) rfl rfl ?_
    refine j_getR C g_X6_21 dX6_readInto_155 (fun v14 ev14 => ?_)
    refine j_callVi C (As := []) (rest := [_]) k_X6_73 ⟨Nat.le_of_ble_eq_true rfl, Nat.le_of_ble_eq_true rfl⟩ rfl (Nat.le_of_ble_eq_true rfl) ⟨Nat.le_of_ble_eq_true rfl, Nat.le_of_ble_eq_true rfl⟩ rfl dX6_readInto_158 (fun r0 q0 => c_Sc_start l w _ _ _ q0) (fun r15 er15 nr15 => ?_)
    refine j_putI C p_X6_29 (fun q => nomatch q) dX6_readInto_161 (fun h16 eh16 => ?_)
    refine j_aload_n C dX6_readInto_164 (i := 0) rfl rfl ?_
    refine j_getI C g_X6_41 dX6_readInto_165 (fun v17 ev17 => ?_)
    exact e_iretM C hQ hr rfl hlk dX6_readInto_168 (Nat.le_of_ble_eq_true rfl) (Nat.le_of_ble_eq_true rfl)
  · refine j_iload_n C dX6_readInto_131 (i := 2) rfl rfl ?_
    refine j_ifeq C (tgt := 148) dX6_readInto_132 (by decide) (fun q18 => ?_) (fun q18 => ?_)
    · exact j_sub [0] rfl (hj12)
    · refine j_aload_n C dX6_readInto_135 (i := 0) rfl rfl ?_
      refine j_getR C g_X6_21 dX6_readInto_136 (fun v19 ev19 => ?_)
      refine j_kind C s_X6_44 (by decide) dX6_readInto_139 ?_
      refine j_callVi C (As := [.ref _]) (rest := []) k_X6_50 ⟨Nat.le_of_ble_eq_true rfl, Nat.le_of_ble_eq_true rfl⟩ rfl (Nat.le_of_ble_eq_true rfl) ⟨Nat.le_of_ble_eq_true rfl, Nat.le_of_ble_eq_true rfl⟩ rfl dX6_readInto_142 (fun r0 q0 => c_Sc_isAt l w _ _ _ _ q0) (fun r20 er20 nr20 => ?_)
      refine j_ifne C (tgt := 164) dX6_readInto_145 (by decide) (fun q21 => ?_) (fun q21 => ?_)
      · exact j_sub [0] rfl (hj12)
      · refine j_aload_n C dX6_readInto_164 (i := 0) rfl rfl ?_
        refine j_getI C g_X6_41 dX6_readInto_165 (fun v22 ev22 => ?_)
        exact e_iretM C hQ hr rfl hlk dX6_readInto_168 (Nat.le_of_ble_eq_true rfl) (Nat.le_of_ble_eq_true rfl)
