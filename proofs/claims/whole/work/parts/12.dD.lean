def f_Rd_init (a0 : Nat) (a1 : Nat) (a2 : Nat) (h : hp_M) : Option (hp_M) := (f_Al_init h.2 (hN h (oC 0 [.null, .int 0]))).bind fun h1 => (pF h1 a0 5 1 (.ref h.2)).bind fun h2 => (f_Sc_init h2.2 a1 (hN h2 (oC 6 [.null, .null, .null, .null, .null, .null, .int 0, .int 0, .int 0, .long 0, .int 0]))).bind fun h3 => (pF h3 a0 5 0 (.ref h2.2)).bind fun h4 => (pF h4 a0 5 2 (.ref a2)).bind fun h5 => some h5
set_option maxRecDepth 100000 in
set_option maxHeartbeats 4000000 in
theorem c_Rd_init (l : Launch) (w : hp_W) (a0 : Nat) (a1 : Nat) (a2 : Nat) (h : hp_M) (out : hp_M) (hX : f_Rd_init a0 a1 a2 h = some out) : CT l w yX6_init cX6_init 3 none ({ frames := 2, cells := 8, slots := 2030, locals := 53 }) [.ref a0, .ref a1, .ref a2] h none out := by
  unfold f_Rd_init at hX
  refine ct_of (by decide +kernel) (Nat.le_of_ble_eq_true rfl) hX ?_
  intro p e s m args below meth c Q C hr hlk hnm hQ
  refine j_aload_n C dX6_init_0 (i := 0) rfl rfl ?_
  refine j_objInit C k_X6_1 k_oi k_oc dX6_init_1 (Nat.le_of_ble_eq_true rfl) (Nat.le_of_ble_eq_true rfl) ?_
  refine j_aload_n C dX6_init_4 (i := 0) rfl rfl ?_
  refine j_new C n_X6_7 (Nat.le_of_ble_eq_true rfl) (Nat.le_of_ble_eq_true rfl) dX6_init_5 ?_
  refine j_dup C dX6_init_8 rfl ?_
  refine j_callIN C (As := []) (rest := [_, _]) k_X6_9 ⟨Nat.le_of_ble_eq_true rfl, Nat.le_of_ble_eq_true rfl⟩ rfl (Nat.le_of_ble_eq_true rfl) ⟨Nat.le_of_ble_eq_true rfl, Nat.le_of_ble_eq_true rfl⟩ rfl dX6_init_9 (fun r0 q0 => c_Al_init l w _ _ _ q0) (fun h1 eh1 => ?_)
  refine j_putR C p_X6_10 (fun _ => hnm) dX6_init_12 rfl rfl (fun h2 eh2 => ?_)
  refine j_aload_n C dX6_init_15 (i := 0) rfl rfl ?_
  refine j_new C n_X6_16 (Nat.le_of_ble_eq_true rfl) (Nat.le_of_ble_eq_true rfl) dX6_init_16 ?_
  refine j_dup C dX6_init_19 rfl ?_
  refine j_aload_n C dX6_init_20 (i := 1) rfl rfl ?_
  refine j_callI C (As := [.ref _]) (rest := [_, _]) k_X6_18 ⟨Nat.le_of_ble_eq_true rfl, Nat.le_of_ble_eq_true rfl⟩ rfl (Nat.le_of_ble_eq_true rfl) ⟨Nat.le_of_ble_eq_true rfl, Nat.le_of_ble_eq_true rfl⟩ rfl dX6_init_21 (fun r0 q0 => c_Sc_init l w _ _ _ _ q0) (fun h3 eh3 => ?_)
  refine j_putR C p_X6_21 (fun _ => hnm) dX6_init_24 rfl rfl (fun h4 eh4 => ?_)
  refine j_aload_n C dX6_init_27 (i := 0) rfl rfl ?_
  refine j_aload_n C dX6_init_28 (i := 2) rfl rfl ?_
  refine j_putR C p_X6_25 (fun q => nomatch q) dX6_init_29 rfl rfl (fun h5 eh5 => ?_)
  exact e_vretM C hQ hr hlk dX6_init_32 (Nat.le_of_ble_eq_true rfl) (Nat.le_of_ble_eq_true rfl)
def f_Rd_placeOfError (a0 : Nat) (h : hp_M) : Option (Int32) := (gI h a0 5 4).bind fun v1 => some v1
set_option maxRecDepth 100000 in
set_option maxHeartbeats 4000000 in
theorem c_Rd_placeOfError (l : Launch) (w : hp_W) (a0 : Nat) (h : hp_M) (out : Int32) (hX : f_Rd_placeOfError a0 h = some out) : CT l w yX6_placeOfError cX6_placeOfError 1 (some .int) ({ frames := 0, cells := 0, slots := 0, locals := 0 }) [.ref a0] h (some (.int out)) h := by
  unfold f_Rd_placeOfError at hX
  refine ct_of (by decide +kernel) (Nat.le_of_ble_eq_true rfl) hX ?_
  intro p e s m args below meth c Q C hr hlk hnm hQ
  refine j_aload_n C dX6_placeOfError_0 (i := 0) rfl rfl ?_
  refine j_getI C g_X6_29 dX6_placeOfError_1 (fun v1 ev1 => ?_)
  exact e_iretR C hQ hr rfl hlk dX6_placeOfError_4 (Nat.le_of_ble_eq_true rfl) (Nat.le_of_ble_eq_true rfl)
def f_Rd_blame (a0 : Nat) (x1 : Int32) (x2 : Int32) (h : hp_M) : Option (hp_M) := (gI h a0 5 3).bind fun v1 => if v1 = 0 then ((pF h a0 5 3 (.int x1)).bind fun h3 => (pF h3 a0 5 4 (.int x2)).bind fun h4 => some h4) else (some h)
set_option maxRecDepth 100000 in
set_option maxHeartbeats 4000000 in
theorem c_Rd_blame (l : Launch) (w : hp_W) (a0 : Nat) (x1 : Int32) (x2 : Int32) (h : hp_M) (out : hp_M) (hX : f_Rd_blame a0 x1 x2 h = some out) : CT l w yX6_blame cX6_blame 3 none ({ frames := 0, cells := 0, slots := 0, locals := 0 }) [.ref a0, .int x1, .int x2] h none out := by
  unfold f_Rd_blame at hX
  refine ct_of (by decide +kernel) (Nat.le_of_ble_eq_true rfl) hX ?_
  intro p e s m args below meth c Q C hr hlk hnm hQ
  refine j_aload_n C dX6_blame_0 (i := 0) rfl rfl ?_
  refine j_getI C g_X6_41 dX6_blame_1 (fun v1 ev1 => ?_)
  refine j_ifne C (tgt := 17) dX6_blame_4 (by decide) (fun q2 => ?_) (fun q2 => ?_)
  · refine j_aload_n C dX6_blame_7 (i := 0) rfl rfl ?_
    refine j_iload_n C dX6_blame_8 (i := 1) rfl rfl ?_
    refine j_putI C p_X6_41 (fun q => nomatch q) dX6_blame_9 (fun h3 eh3 => ?_)
    refine j_aload_n C dX6_blame_12 (i := 0) rfl rfl ?_
    refine j_iload_n C dX6_blame_13 (i := 2) rfl rfl ?_
    refine j_putI C p_X6_29 (fun q => nomatch q) dX6_blame_14 (fun h4 eh4 => ?_)
    exact e_vretM C hQ hr hlk dX6_blame_17 (Nat.le_of_ble_eq_true rfl) (Nat.le_of_ble_eq_true rfl)
  · exact e_vretM C hQ hr hlk dX6_blame_17 (Nat.le_of_ble_eq_true rfl) (Nat.le_of_ble_eq_true rfl)
def f_Rd_checkNewName (a0 : Nat) (x1 : Int32) (x2 : Int32) (h : hp_M) : Option (hp_M) := jn (fun (h5 : hp_M) => if x2 = 0 then ((gR h5 a0 5 0).bind fun v7 => (onO h5 v7 6 (f_Sc_start v7 h5)).bind fun r8 => (onO h5 a0 5 (f_Rd_blame a0 4 r8 h5)).bind fun h9 => some h9) else (some h5)) fun (j4 : hp_M → Option (hp_M)) => if x1 < 0 then (j4 h) else ((gR h a0 5 0).bind fun v11 => (onO h v11 6 (f_Sc_start v11 h)).bind fun r12 => (onO h a0 5 (f_Rd_blame a0 2 r12 h)).bind fun h13 => j4 h13)
set_option maxRecDepth 100000 in
set_option maxHeartbeats 4000000 in
theorem c_Rd_checkNewName (l : Launch) (w : hp_W) (a0 : Nat) (x1 : Int32) (x2 : Int32) (h : hp_M) (out : hp_M) (hX : f_Rd_checkNewName a0 x1 x2 h = some out) : CT l w yX6_checkNewName cX6_checkNewName 3 none ({ frames := 1, cells := 0, slots := 0, locals := 22 }) [.ref a0, .int x1, .int x2] h none out := by
  unfold f_Rd_checkNewName at hX
  refine ct_of (by decide +kernel) (Nat.le_of_ble_eq_true rfl) hX ?_
  intro p e s m args below meth c Q C hr hlk hnm hQ
  refine j_jn (P := fun (j4 : hp_M → Option (hp_M)) => ∀ (h5 : hp_M), J p l e ({ frames := 1, cells := 0, slots := 0, locals := 22 }) s m args below meth c Q w 3 0 0 16 [(0, .ref a0), (2, .int x2)] [] h5 (j4 h5) out) ?_ (fun j4 hj4 => ?_)
  · intro h5
    refine j_iload_n C dX6_checkNewName_16 (i := 2) rfl rfl ?_
    refine j_ifne C (tgt := 32) dX6_checkNewName_17 (by decide) (fun q6 => ?_) (fun q6 => ?_)
    · refine j_aload_n C dX6_checkNewName_20 (i := 0) rfl rfl ?_
      refine j_iconst C (v := 4) dX6_checkNewName_21 (by decide) ?_
      refine j_aload_n C dX6_checkNewName_22 (i := 0) rfl rfl ?_
      refine j_getR C g_X6_21 dX6_checkNewName_23 (fun v7 ev7 => ?_)
      refine j_callVi C (As := []) (rest := [_, _]) k_X6_73 ⟨Nat.le_of_ble_eq_true rfl, Nat.le_of_ble_eq_true rfl⟩ rfl (Nat.le_of_ble_eq_true rfl) ⟨Nat.le_of_ble_eq_true rfl, Nat.le_of_ble_eq_true rfl⟩ rfl dX6_checkNewName_26 (fun r0 q0 => c_Sc_start l w _ _ _ q0) (fun r8 er8 nr8 => ?_)
      refine j_callVv C (As := [.int _, .int _]) (rest := []) k_X6_167 ⟨Nat.le_of_ble_eq_true rfl, Nat.le_of_ble_eq_true rfl⟩ rfl (Nat.le_of_ble_eq_true rfl) ⟨Nat.le_of_ble_eq_true rfl, Nat.le_of_ble_eq_true rfl⟩ rfl dX6_checkNewName_29 (fun r0 q0 => c_Rd_blame l w _ _ _ _ _ q0) (fun h9 eh9 _ => ?_)
      exact e_vretM C hQ hr hlk dX6_checkNewName_32 (Nat.le_of_ble_eq_true rfl) (Nat.le_of_ble_eq_true rfl)
    · exact e_vretM C hQ hr hlk dX6_checkNewName_32 (Nat.le_of_ble_eq_true rfl) (Nat.le_of_ble_eq_true rfl)
  · refine j_iload_n C dX6_checkNewName_0 (i := 1) rfl rfl ?_
    refine j_iflt C (tgt := 16) dX6_checkNewName_1 (by decide) (fun q10 => ?_) (fun q10 => ?_)
    · exact j_sub [0, 2] rfl (hj4 _)
    · refine j_aload_n C dX6_checkNewName_4 (i := 0) rfl rfl ?_
      refine j_iconst C (v := 2) dX6_checkNewName_5 (by decide) ?_
      refine j_aload_n C dX6_checkNewName_6 (i := 0) rfl rfl ?_
      refine j_getR C g_X6_21 dX6_checkNewName_7 (fun v11 ev11 => ?_)
      refine j_callVi C (As := []) (rest := [_, _]) k_X6_73 ⟨Nat.le_of_ble_eq_true rfl, Nat.le_of_ble_eq_true rfl⟩ rfl (Nat.le_of_ble_eq_true rfl) ⟨Nat.le_of_ble_eq_true rfl, Nat.le_of_ble_eq_true rfl⟩ rfl dX6_checkNewName_10 (fun r0 q0 => c_Sc_start l w _ _ _ q0) (fun r12 er12 nr12 => ?_)
      refine j_callVv C (As := [.int _, .int _]) (rest := []) k_X6_167 ⟨Nat.le_of_ble_eq_true rfl, Nat.le_of_ble_eq_true rfl⟩ rfl (Nat.le_of_ble_eq_true rfl) ⟨Nat.le_of_ble_eq_true rfl, Nat.le_of_ble_eq_true rfl⟩ rfl dX6_checkNewName_13 (fun r0 q0 => c_Rd_blame l w _ _ _ _ _ q0) (fun h13 eh13 _ => ?_)
      exact j_sub [0, 2] rfl (hj4 _)
def f_Rd_readNumber (w : hp_W) (a0 : Nat) (x1 : Int32) (x2 : Int32) (h : hp_M) : Option (Int32 × hp_M) := (gR h a0 5 0).bind fun v1 => (onO h v1 6 (f_Sc_isAt v1 (w_kd w 3) h)).bind fun r2 => if r2 = 0 then (some (0, h)) else (jn (fun (h13 : hp_M) => (gR h13 a0 5 0).bind fun v14 => (onO h13 v14 6 (f_Sc_take v14 (w_kd w 3) h13)).bind fun r15 => some (r15.1, r15.2)) fun (j12 : hp_M → Option (Int32 × hp_M)) => jn (fun (h22 : hp_M) => (gR h22 a0 5 0).bind fun v23 => (onO h22 v23 6 (f_Sc_start v23 h22)).bind fun r24 => (onO h22 a0 5 (f_Rd_blame a0 5 r24 h22)).bind fun h25 => j12 h25) fun (j21 : hp_M → Option (Int32 × hp_M)) => (gR h a0 5 0).bind fun v26 => (onO h v26 6 (f_Sc_number v26 h)).bind fun r27 => (pF h a0 5 5 (.int r27)).bind fun h28 => (gI h28 a0 5 5).bind fun v29 => if v29 < x1 then (j21 h28) else ((gI h28 a0 5 5).bind fun v31 => if v31 ≤ x2 then (j12 h28) else (j21 h28)))
set_option maxRecDepth 100000 in
set_option maxHeartbeats 4000000 in
theorem c_Rd_readNumber (l : Launch) (w : hp_W) (a0 : Nat) (x1 : Int32) (x2 : Int32) (h : hp_M) (out : Int32 × hp_M) (hX : f_Rd_readNumber w a0 x1 x2 h = some out) : CT l w yX6_readNumber cX6_readNumber 3 (some .boolean) ({ frames := 1, cells := 0, slots := 0, locals := 22 }) [.ref a0, .int x1, .int x2] h (some (.int out.1)) out.2 := by
  unfold f_Rd_readNumber at hX
  refine ct_of (by decide +kernel) (Nat.le_of_ble_eq_true rfl) hX ?_
  intro p e s m args below meth c Q C hr hlk hnm hQ
  refine j_aload_n C dX6_readNumber_0 (i := 0) rfl rfl ?_
  refine j_getR C g_X6_21 dX6_readNumber_1 (fun v1 ev1 => ?_)
  refine j_kind C s_X6_199 (by decide) dX6_readNumber_4 ?_
  refine j_callVi C (As := [.ref _]) (rest := []) k_X6_50 ⟨Nat.le_of_ble_eq_true rfl, Nat.le_of_ble_eq_true rfl⟩ rfl (Nat.le_of_ble_eq_true rfl) ⟨Nat.le_of_ble_eq_true rfl, Nat.le_of_ble_eq_true rfl⟩ rfl dX6_readNumber_7 (fun r0 q0 => c_Sc_isAt l w _ _ _ _ q0) (fun r2 er2 nr2 => ?_)
  refine j_ifne C (tgt := 15) dX6_readNumber_10 (by decide) (fun q3 => ?_) (fun q3 => ?_)
  · refine j_iconst C (v := 0) dX6_readNumber_13 (by decide) ?_
    exact e_iretM C hQ hr rfl hlk dX6_readNumber_14 (Nat.le_of_ble_eq_true rfl) (Nat.le_of_ble_eq_true rfl)
  · refine j_jn (P := fun (j12 : hp_M → Option (Int32 × hp_M)) => ∀ (h13 : hp_M), J p l e ({ frames := 1, cells := 0, slots := 0, locals := 22 }) s m args below meth c Q w 3 0 0 54 [(0, .ref a0)] [] h13 (j12 h13) out) ?_ (fun j12 hj12 => ?_)
    · intro h13
      refine j_aload_n C dX6_readNumber_54 (i := 0) rfl rfl ?_
      refine j_getR C g_X6_21 dX6_readNumber_55 (fun v14 ev14 => ?_)
      refine j_kind C s_X6_199 (by decide) dX6_readNumber_58 ?_
      refine j_callVim C (As := [.ref _]) (rest := []) k_X6_77 ⟨Nat.le_of_ble_eq_true rfl, Nat.le_of_ble_eq_true rfl⟩ rfl (Nat.le_of_ble_eq_true rfl) ⟨Nat.le_of_ble_eq_true rfl, Nat.le_of_ble_eq_true rfl⟩ rfl dX6_readNumber_61 (fun r0 q0 => c_Sc_take l w _ _ _ _ q0) (fun r15 er15 nr15 => ?_)
      exact e_iretM C hQ hr (nr15 _ _ rfl rfl) hlk dX6_readNumber_64 (Nat.le_of_ble_eq_true rfl) (Nat.le_of_ble_eq_true rfl)
    · refine j_jn (P := fun (j21 : hp_M → Option (Int32 × hp_M)) => ∀ (h22 : hp_M), J p l e ({ frames := 1, cells := 0, slots := 0, locals := 22 }) s m args below meth c Q w 3 0 0 42 [(0, .ref a0)] [] h22 (j21 h22) out) ?_ (fun j21 hj21 => ?_)
      · intro h22
        refine j_aload_n C dX6_readNumber_42 (i := 0) rfl rfl ?_
        refine j_iconst C (v := 5) dX6_readNumber_43 (by decide) ?_
        refine j_aload_n C dX6_readNumber_44 (i := 0) rfl rfl ?_
        refine j_getR C g_X6_21 dX6_readNumber_45 (fun v23 ev23 => ?_)
        refine j_callVi C (As := []) (rest := [_, _]) k_X6_73 ⟨Nat.le_of_ble_eq_true rfl, Nat.le_of_ble_eq_true rfl⟩ rfl (Nat.le_of_ble_eq_true rfl) ⟨Nat.le_of_ble_eq_true rfl, Nat.le_of_ble_eq_true rfl⟩ rfl dX6_readNumber_48 (fun r0 q0 => c_Sc_start l w _ _ _ q0) (fun r24 er24 nr24 => ?_)
        refine j_callVv C (As := [.int _, .int _]) (rest := []) k_X6_167 ⟨Nat.le_of_ble_eq_true rfl, Nat.le_of_ble_eq_true rfl⟩ rfl (Nat.le_of_ble_eq_true rfl) ⟨Nat.le_of_ble_eq_true rfl, Nat.le_of_ble_eq_true rfl⟩ rfl dX6_readNumber_51 (fun r0 q0 => c_Rd_blame l w _ _ _ _ _ q0) (fun h25 eh25 _ => ?_)
        exact hj12 _
      · refine j_aload_n C dX6_readNumber_15 (i := 0) rfl rfl ?_
        refine j_aload_n C dX6_readNumber_16 (i := 0) rfl rfl ?_
        refine j_getR C g_X6_21 dX6_readNumber_17 (fun v26 ev26 => ?_)
        refine j_callVi C (As := []) (rest := [_]) k_X6_202 ⟨Nat.le_of_ble_eq_true rfl, Nat.le_of_ble_eq_true rfl⟩ rfl (Nat.le_of_ble_eq_true rfl) ⟨Nat.le_of_ble_eq_true rfl, Nat.le_of_ble_eq_true rfl⟩ rfl dX6_readNumber_20 (fun r0 q0 => c_Sc_number l w _ _ _ q0) (fun r27 er27 nr27 => ?_)
        refine j_putI C p_X6_115 (fun q => nomatch q) dX6_readNumber_23 (fun h28 eh28 => ?_)
        refine j_aload_n C dX6_readNumber_26 (i := 0) rfl rfl ?_
        refine j_getI C g_X6_115 dX6_readNumber_27 (fun v29 ev29 => ?_)
        refine j_iload_n C dX6_readNumber_30 (i := 1) rfl rfl ?_
        refine j_icmplt C (tgt := 42) dX6_readNumber_31 (by decide) (fun q30 => ?_) (fun q30 => ?_)
        · exact j_sub [0] rfl (hj21 _)
        · refine j_aload_n C dX6_readNumber_34 (i := 0) rfl rfl ?_
          refine j_getI C g_X6_115 dX6_readNumber_35 (fun v31 ev31 => ?_)
          refine j_iload_n C dX6_readNumber_38 (i := 2) rfl rfl ?_
          refine j_icmple C (tgt := 54) dX6_readNumber_39 (by decide) (fun q32 => ?_) (fun q32 => ?_)
          · exact j_sub [0] rfl (hj12 _)
          · exact j_sub [0] rfl (hj21 _)
def f_Rd_readPlanet (w : hp_W) (fl : Nat) (a0 : Nat) (h : hp_M) : Option (Int32 × hp_M) := (gR h a0 5 0).bind fun v1 => (onO h v1 6 (f_Sc_take v1 (w_kd w 4) h)).bind fun r2 => if r2.1 = 0 then (some (0, r2.2)) else ((gR r2.2 a0 5 0).bind fun v4 => (onO r2.2 v4 6 (f_Sc_isAt v4 (w_kd w 2) r2.2)).bind fun r5 => if r5 = 0 then (some (0, r2.2)) else (jn (fun (u14 : Int64) (u15 : Int32) (u16 : Int32) (u17 : Nat) => (onO r2.2 u17 5 (f_Rd_checkNewName u17 u16 u15 r2.2)).bind fun h18 => (gR h18 a0 5 0).bind fun v19 => (onO h18 v19 6 (f_Sc_take v19 (w_kd w 2) h18)).bind fun r20 => if r20.1 = 0 then (some (0, r20.2)) else ((gR r20.2 a0 5 0).bind fun v22 => (onO r20.2 v22 6 (f_Sc_take v22 (w_kd w 5) r20.2)).bind fun r23 => if r23.1 = 0 then (some (0, r23.2)) else ((onO r23.2 a0 5 (f_Rd_readNumber w a0 1 20 r23.2)).bind fun r25 => if r25.1 = 0 then (some (0, r25.2)) else ((gI r25.2 a0 5 5).bind fun v27 => (gR r25.2 a0 5 0).bind fun v28 => (onO r25.2 v28 6 (f_Sc_take v28 (w_kd w 6) r25.2)).bind fun r29 => if r29.1 = 0 then (some (0, r29.2)) else ((onO r29.2 a0 5 (f_Rd_readNumber w a0 1 60 r29.2)).bind fun r31 => if r31.1 = 0 then (some (0, r31.2)) else (jn (fun (u41 : Int32) (u42 : Int32) (h43 : hp_M) => jn (fun (u55 : Int32) (u56 : Int32) (h57 : hp_M) => (gR h57 a0 5 2).bind fun v58 => (onO h57 v58 1 (f_Bk_addPlanet v58 u14 v27 u41 u42 u55 u56 h57)).bind fun h59 => (gR h59 a0 5 0).bind fun v60 => (onO h59 v60 6 (f_Sc_take v60 (w_kd w 30) h59)).bind fun r61 => some (r61.1, r61.2)) fun (j54 : Int32 → Int32 → hp_M → Option (Int32 × hp_M)) => (gR h43 a0 5 0).bind fun v62 => (onO h43 v62 6 (f_Sc_isAt v62 (w_kd w 8) h43)).bind fun r63 => if r63 = 0 then (j54 0 1 h43) else ((gR h43 a0 5 0).bind fun v65 => (onO h43 v65 6 (f_Sc_take v65 (w_kd w 8) h43)).bind fun r66 => if r66.1 = 0 then (some (0, r66.2)) else ((onO r66.2 a0 5 (f_Rd_readNumber w a0 0 29 r66.2)).bind fun r68 => if r68.1 = 0 then (some (0, r68.2)) else ((gI r68.2 a0 5 5).bind fun v70 => (gR r68.2 a0 5 0).bind fun v71 => (onO r68.2 v71 6 (f_Sc_take v71 (w_kd w 9) r68.2)).bind fun r72 => if r72.1 = 0 then (some (0, r72.2)) else ((onO r72.2 a0 5 (f_Rd_readNumber w a0 (v70 + 1) 60 r72.2)).bind fun r74 => if r74.1 = 0 then (some (0, r74.2)) else ((gI r74.2 a0 5 5).bind fun v76 => j54 v70 v76 r74.2)))))) fun (j40 : Int32 → Int32 → hp_M → Option (Int32 × hp_M)) => (gI r31.2 a0 5 5).bind fun v77 => (gR r31.2 a0 5 0).bind fun v78 => (onO r31.2 v78 6 (f_Sc_isAt v78 (w_kd w 7) r31.2)).bind fun r79 => if r79 = 0 then (j40 v77 0 r31.2) else ((gR r31.2 a0 5 0).bind fun v81 => (onO r31.2 v81 6 (f_Sc_take v81 (w_kd w 7) r31.2)).bind fun r82 => if r82.1 = 0 then (some (0, r82.2)) else ((onO r82.2 a0 5 (f_Rd_readNumber w a0 0 359 r82.2)).bind fun r84 => if r84.1 = 0 then (some (0, r84.2)) else ((gI r84.2 a0 5 5).bind fun v86 => j40 v77 v86 r84.2))))))))) fun (j13 : Int64 → Int32 → Int32 → Nat → Option (Int32 × hp_M)) => (gR r2.2 a0 5 0).bind fun v87 => (onO r2.2 v87 6 (f_Sc_word v87 r2.2)).bind fun r88 => (gR r2.2 a0 5 2).bind fun v89 => (onO r2.2 v89 1 (f_Bk_planetNamed fl v89 r88 r2.2)).bind fun r90 => (gR r2.2 a0 5 2).bind fun v91 => (onO r2.2 v91 1 (f_Bk_planets v91 r2.2)).bind fun r92 => if 8 ≤ r92 then (j13 r88 0 r90 a0) else (j13 r88 1 r90 a0)))
set_option maxRecDepth 100000 in
set_option maxHeartbeats 4000000 in
theorem c_Rd_readPlanet (l : Launch) (w : hp_W) (fl : Nat) (a0 : Nat) (h : hp_M) (out : Int32 × hp_M) (hX : f_Rd_readPlanet w fl a0 h = some out) : CT l w yX6_readPlanet cX6_readPlanet 8 (some .boolean) ({ frames := 3, cells := 0, slots := 0, locals := 73 }) [.ref a0] h (some (.int out.1)) out.2 := by
  unfold f_Rd_readPlanet at hX
  refine ct_of (by decide +kernel) (Nat.le_of_ble_eq_true rfl) hX ?_
  intro p e s m args below meth c Q C hr hlk hnm hQ
  refine j_aload_n C dX6_readPlanet_0 (i := 0) rfl rfl ?_
  refine j_getR C g_X6_21 dX6_readPlanet_1 (fun v1 ev1 => ?_)
  refine j_kind C s_X6_54 (by decide) dX6_readPlanet_4 ?_
  refine j_callVim C (As := [.ref _]) (rest := []) k_X6_77 ⟨Nat.le_of_ble_eq_true rfl, Nat.le_of_ble_eq_true rfl⟩ rfl (Nat.le_of_ble_eq_true rfl) ⟨Nat.le_of_ble_eq_true rfl, Nat.le_of_ble_eq_true rfl⟩ rfl dX6_readPlanet_7 (fun r0 q0 => c_Sc_take l w _ _ _ _ q0) (fun r2 er2 nr2 => ?_)
  refine j_ifeq C (tgt := 26) dX6_readPlanet_10 (by decide) (fun q3 => ?_) (fun q3 => ?_)
  · refine j_iconst C (v := 0) dX6_readPlanet_26 (by decide) ?_
    exact e_iretM C hQ hr rfl hlk dX6_readPlanet_27 (Nat.le_of_ble_eq_true rfl) (Nat.le_of_ble_eq_true rfl)
  · refine j_aload_n C dX6_readPlanet_13 (i := 0) rfl rfl ?_
    refine j_getR C g_X6_21 dX6_readPlanet_14 (fun v4 ev4 => ?_)
    refine j_kind C s_X6_90 (by decide) dX6_readPlanet_17 ?_
    refine j_callVi C (As := [.ref _]) (rest := []) k_X6_50 ⟨Nat.le_of_ble_eq_true rfl, Nat.le_of_ble_eq_true rfl⟩ rfl (Nat.le_of_ble_eq_true rfl) ⟨Nat.le_of_ble_eq_true rfl, Nat.le_of_ble_eq_true rfl⟩ rfl dX6_readPlanet_20 (fun r0 q0 => c_Sc_isAt l w _ _ _ _ q0) (fun r5 er5 nr5 => ?_)
    refine j_ifne C (tgt := 28) dX6_readPlanet_23 (by decide) (fun q6 => ?_) (fun q6 => ?_)
    · refine j_iconst C (v := 0) dX6_readPlanet_26 (by decide) ?_
      exact e_iretM C hQ hr rfl hlk dX6_readPlanet_27 (Nat.le_of_ble_eq_true rfl) (Nat.le_of_ble_eq_true rfl)
    · refine j_jn (P := fun (j13 : Int64 → Int32 → Int32 → Nat → Option (Int32 × hp_M)) => ∀ (u14 : Int64) (u15 : Int32) (u16 : Int32) (u17 : Nat), J p l e ({ frames := 3, cells := 0, slots := 0, locals := 73 }) s m args below meth c Q w 8 0 0 62 [(0, .ref a0), (1, .long u14)] [.int u15, .int u16, .ref u17] r2.2 (j13 u14 u15 u16 u17) out) ?_ (fun j13 hj13 => ?_)
      · intro u14 u15 u16 u17
        refine j_callVv C (As := [.int _, .int _]) (rest := []) k_X6_104 ⟨Nat.le_of_ble_eq_true rfl, Nat.le_of_ble_eq_true rfl⟩ rfl (Nat.le_of_ble_eq_true rfl) ⟨Nat.le_of_ble_eq_true rfl, Nat.le_of_ble_eq_true rfl⟩ rfl dX6_readPlanet_62 (fun r0 q0 => c_Rd_checkNewName l w _ _ _ _ _ q0) (fun h18 eh18 _ => ?_)
        refine j_aload_n C dX6_readPlanet_65 (i := 0) rfl rfl ?_
        refine j_getR C g_X6_21 dX6_readPlanet_66 (fun v19 ev19 => ?_)
        refine j_kind C s_X6_90 (by decide) dX6_readPlanet_69 ?_
        refine j_callVim C (As := [.ref _]) (rest := []) k_X6_77 ⟨Nat.le_of_ble_eq_true rfl, Nat.le_of_ble_eq_true rfl⟩ rfl (Nat.le_of_ble_eq_true rfl) ⟨Nat.le_of_ble_eq_true rfl, Nat.le_of_ble_eq_true rfl⟩ rfl dX6_readPlanet_72 (fun r0 q0 => c_Sc_take l w _ _ _ _ q0) (fun r20 er20 nr20 => ?_)
        refine j_ifeq C (tgt := 101) dX6_readPlanet_75 (by decide) (fun q21 => ?_) (fun q21 => ?_)
        · refine j_iconst C (v := 0) dX6_readPlanet_101 (by decide) ?_
          exact e_iretM C hQ hr rfl hlk dX6_readPlanet_102 (Nat.le_of_ble_eq_true rfl) (Nat.le_of_ble_eq_true rfl)
        · refine j_aload_n C dX6_readPlanet_78 (i := 0) rfl rfl ?_
          refine j_getR C g_X6_21 dX6_readPlanet_79 (fun v22 ev22 => ?_)
          refine j_kind C s_X6_108 (by decide) dX6_readPlanet_82 ?_
          refine j_callVim C (As := [.ref _]) (rest := []) k_X6_77 ⟨Nat.le_of_ble_eq_true rfl, Nat.le_of_ble_eq_true rfl⟩ rfl (Nat.le_of_ble_eq_true rfl) ⟨Nat.le_of_ble_eq_true rfl, Nat.le_of_ble_eq_true rfl⟩ rfl dX6_readPlanet_85 (fun r0 q0 => c_Sc_take l w _ _ _ _ q0) (fun r23 er23 nr23 => ?_)
          refine j_ifeq C (tgt := 101) dX6_readPlanet_88 (by decide) (fun q24 => ?_) (fun q24 => ?_)
          · refine j_iconst C (v := 0) dX6_readPlanet_101 (by decide) ?_
            exact e_iretM C hQ hr rfl hlk dX6_readPlanet_102 (Nat.le_of_ble_eq_true rfl) (Nat.le_of_ble_eq_true rfl)
          · refine j_aload_n C dX6_readPlanet_91 (i := 0) rfl rfl ?_
            refine j_iconst C (v := 1) dX6_readPlanet_92 (by decide) ?_
            refine j_bipush C (v := 20) dX6_readPlanet_93 (by decide) ?_
            refine j_callVim C (As := [.int _, .int _]) (rest := []) k_X6_111 ⟨Nat.le_of_ble_eq_true rfl, Nat.le_of_ble_eq_true rfl⟩ rfl (Nat.le_of_ble_eq_true rfl) ⟨Nat.le_of_ble_eq_true rfl, Nat.le_of_ble_eq_true rfl⟩ rfl dX6_readPlanet_95 (fun r0 q0 => c_Rd_readNumber l w _ _ _ _ _ q0) (fun r25 er25 nr25 => ?_)
            refine j_ifne C (tgt := 103) dX6_readPlanet_98 (by decide) (fun q26 => ?_) (fun q26 => ?_)
            · refine j_iconst C (v := 0) dX6_readPlanet_101 (by decide) ?_
              exact e_iretM C hQ hr rfl hlk dX6_readPlanet_102 (Nat.le_of_ble_eq_true rfl) (Nat.le_of_ble_eq_true rfl)
            · refine j_aload_n C dX6_readPlanet_103 (i := 0) rfl rfl ?_
              refine j_getI C g_X6_115 dX6_readPlanet_104 (fun v27 ev27 => ?_)
              refine j_istore_n C [(3, _), (0, _), (1, _)] dX6_readPlanet_107 (i := 3) rfl (by decide) rfl ?_
              refine j_aload_n C dX6_readPlanet_108 (i := 0) rfl rfl ?_
              refine j_getR C g_X6_21 dX6_readPlanet_109 (fun v28 ev28 => ?_)
              refine j_kind C s_X6_118 (by decide) dX6_readPlanet_112 ?_
              refine j_callVim C (As := [.ref _]) (rest := []) k_X6_77 ⟨Nat.le_of_ble_eq_true rfl, Nat.le_of_ble_eq_true rfl⟩ rfl (Nat.le_of_ble_eq_true rfl) ⟨Nat.le_of_ble_eq_true rfl, Nat.le_of_ble_eq_true rfl⟩ rfl dX6_readPlanet_115 (fun r0 q0 => c_Sc_take l w _ _ _ _ q0) (fun r29 er29 nr29 => ?_)
              refine j_ifeq C (tgt := 131) dX6_readPlanet_118 (by decide) (fun q30 => ?_) (fun q30 => ?_)
              · refine j_iconst C (v := 0) dX6_readPlanet_131 (by decide) ?_
                exact e_iretM C hQ hr rfl hlk dX6_readPlanet_132 (Nat.le_of_ble_eq_true rfl) (Nat.le_of_ble_eq_true rfl)
              · refine j_aload_n C dX6_readPlanet_121 (i := 0) rfl rfl ?_
                refine j_iconst C (v := 1) dX6_readPlanet_122 (by decide) ?_
                refine j_bipush C (v := 60) dX6_readPlanet_123 (by decide) ?_
                refine j_callVim C (As := [.int _, .int _]) (rest := []) k_X6_111 ⟨Nat.le_of_ble_eq_true rfl, Nat.le_of_ble_eq_true rfl⟩ rfl (Nat.le_of_ble_eq_true rfl) ⟨Nat.le_of_ble_eq_true rfl, Nat.le_of_ble_eq_true rfl⟩ rfl dX6_readPlanet_125 (fun r0 q0 => c_Rd_readNumber l w _ _ _ _ _ q0) (fun r31 er31 nr31 => ?_)
                refine j_ifne C (tgt := 133) dX6_readPlanet_128 (by decide) (fun q32 => ?_) (fun q32 => ?_)
                · refine j_iconst C (v := 0) dX6_readPlanet_131 (by decide) ?_
                  exact e_iretM C hQ hr rfl hlk dX6_readPlanet_132 (Nat.le_of_ble_eq_true rfl) (Nat.le_of_ble_eq_true rfl)
                · refine j_jn (P := fun (j40 : Int32 → Int32 → hp_M → Option (Int32 × hp_M)) => ∀ (u41 : Int32) (u42 : Int32) (h43 : hp_M), J p l e ({ frames := 3, cells := 0, slots := 0, locals := 73 }) s m args below meth c Q w 8 0 0 187 [(0, .ref a0), (1, .long u14), (3, .int v27), (4, .int u41), (5, .int u42)] [] h43 (j40 u41 u42 h43) out) ?_ (fun j40 hj40 => ?_)
                  · intro u41 u42 h43
                    refine j_jn (P := fun (j54 : Int32 → Int32 → hp_M → Option (Int32 × hp_M)) => ∀ (u55 : Int32) (u56 : Int32) (h57 : hp_M), J p l e ({ frames := 3, cells := 0, slots := 0, locals := 73 }) s m args below meth c Q w 8 0 0 271 [(0, .ref a0), (1, .long u14), (3, .int v27), (4, .int u41), (5, .int u42), (6, .int u55), (7, .int u56)] [] h57 (j54 u55 u56 h57) out) ?_ (fun j54 hj54 => ?_)
                    · intro u55 u56 h57
                      refine j_aload_n C dX6_readPlanet_271 (i := 0) rfl rfl ?_
                      refine j_getR C g_X6_25 dX6_readPlanet_272 (fun v58 ev58 => ?_)
                      refine j_lload_n C dX6_readPlanet_275 (i := 1) rfl rfl ?_
                      refine j_iload_n C dX6_readPlanet_276 (i := 3) rfl rfl ?_
                      refine j_iload C dX6_readPlanet_277 rfl ?_
                      refine j_iload C dX6_readPlanet_279 rfl ?_
                      refine j_iload C dX6_readPlanet_281 rfl ?_
                      refine j_iload C dX6_readPlanet_283 rfl ?_
                      refine j_callVv C (As := [.long _, .int _, .int _, .int _, .int _, .int _]) (rest := []) k_X6_132 ⟨Nat.le_of_ble_eq_true rfl, Nat.le_of_ble_eq_true rfl⟩ rfl (Nat.le_of_ble_eq_true rfl) ⟨Nat.le_of_ble_eq_true rfl, Nat.le_of_ble_eq_true rfl⟩ rfl dX6_readPlanet_285 (fun r0 q0 => c_Bk_addPlanet l w _ _ _ _ _ _ _ _ _ q0) (fun h59 eh59 _ => ?_)
                      refine j_aload_n C dX6_readPlanet_288 (i := 0) rfl rfl ?_
                      refine j_getR C g_X6_21 dX6_readPlanet_289 (fun v60 ev60 => ?_)
                      refine j_kind C s_X6_136 (by decide) dX6_readPlanet_292 ?_
                      refine j_callVim C (As := [.ref _]) (rest := []) k_X6_77 ⟨Nat.le_of_ble_eq_true rfl, Nat.le_of_ble_eq_true rfl⟩ rfl (Nat.le_of_ble_eq_true rfl) ⟨Nat.le_of_ble_eq_true rfl, Nat.le_of_ble_eq_true rfl⟩ rfl dX6_readPlanet_295 (fun r0 q0 => c_Sc_take l w _ _ _ _ q0) (fun r61 er61 nr61 => ?_)
                      exact e_iretM C hQ hr (nr61 _ _ rfl rfl) hlk dX6_readPlanet_298 (Nat.le_of_ble_eq_true rfl) (Nat.le_of_ble_eq_true rfl)
                    · refine j_iconst C (v := 0) dX6_readPlanet_187 (by decide) ?_
                      refine j_istore C [(6, _), (0, _), (1, _), (3, _), (4, _), (5, _)] dX6_readPlanet_188 (by decide) rfl ?_
                      refine j_iconst C (v := 1) dX6_readPlanet_190 (by decide) ?_
                      refine j_istore C [(7, _), (6, _), (0, _), (1, _), (3, _), (4, _), (5, _)] dX6_readPlanet_191 (by decide) rfl ?_
                      refine j_aload_n C dX6_readPlanet_193 (i := 0) rfl rfl ?_
                      refine j_getR C g_X6_21 dX6_readPlanet_194 (fun v62 ev62 => ?_)
                      refine j_kind C s_X6_126 (by decide) dX6_readPlanet_197 ?_
                      refine j_callVi C (As := [.ref _]) (rest := []) k_X6_50 ⟨Nat.le_of_ble_eq_true rfl, Nat.le_of_ble_eq_true rfl⟩ rfl (Nat.le_of_ble_eq_true rfl) ⟨Nat.le_of_ble_eq_true rfl, Nat.le_of_ble_eq_true rfl⟩ rfl dX6_readPlanet_200 (fun r0 q0 => c_Sc_isAt l w _ _ _ _ q0) (fun r63 er63 nr63 => ?_)
                      refine j_ifeq C (tgt := 271) dX6_readPlanet_203 (by decide) (fun q64 => ?_) (fun q64 => ?_)
                      · exact j_sub [2, 3, 4, 5, 6, 1, 0] rfl (hj54 _ _ _)
                      · refine j_aload_n C dX6_readPlanet_206 (i := 0) rfl rfl ?_
                        refine j_getR C g_X6_21 dX6_readPlanet_207 (fun v65 ev65 => ?_)
                        refine j_kind C s_X6_126 (by decide) dX6_readPlanet_210 ?_
                        refine j_callVim C (As := [.ref _]) (rest := []) k_X6_77 ⟨Nat.le_of_ble_eq_true rfl, Nat.le_of_ble_eq_true rfl⟩ rfl (Nat.le_of_ble_eq_true rfl) ⟨Nat.le_of_ble_eq_true rfl, Nat.le_of_ble_eq_true rfl⟩ rfl dX6_readPlanet_213 (fun r0 q0 => c_Sc_take l w _ _ _ _ q0) (fun r66 er66 nr66 => ?_)
                        refine j_ifeq C (tgt := 229) dX6_readPlanet_216 (by decide) (fun q67 => ?_) (fun q67 => ?_)
                        · refine j_iconst C (v := 0) dX6_readPlanet_229 (by decide) ?_
                          exact e_iretM C hQ hr rfl hlk dX6_readPlanet_230 (Nat.le_of_ble_eq_true rfl) (Nat.le_of_ble_eq_true rfl)
                        · refine j_aload_n C dX6_readPlanet_219 (i := 0) rfl rfl ?_
                          refine j_iconst C (v := 0) dX6_readPlanet_220 (by decide) ?_
                          refine j_bipush C (v := 29) dX6_readPlanet_221 (by decide) ?_
                          refine j_callVim C (As := [.int _, .int _]) (rest := []) k_X6_111 ⟨Nat.le_of_ble_eq_true rfl, Nat.le_of_ble_eq_true rfl⟩ rfl (Nat.le_of_ble_eq_true rfl) ⟨Nat.le_of_ble_eq_true rfl, Nat.le_of_ble_eq_true rfl⟩ rfl dX6_readPlanet_223 (fun r0 q0 => c_Rd_readNumber l w _ _ _ _ _ q0) (fun r68 er68 nr68 => ?_)
                          refine j_ifne C (tgt := 231) dX6_readPlanet_226 (by decide) (fun q69 => ?_) (fun q69 => ?_)
                          · refine j_iconst C (v := 0) dX6_readPlanet_229 (by decide) ?_
                            exact e_iretM C hQ hr rfl hlk dX6_readPlanet_230 (Nat.le_of_ble_eq_true rfl) (Nat.le_of_ble_eq_true rfl)
                          · refine j_aload_n C dX6_readPlanet_231 (i := 0) rfl rfl ?_
                            refine j_getI C g_X6_115 dX6_readPlanet_232 (fun v70 ev70 => ?_)
                            refine j_istore C [(6, _), (7, _), (0, _), (1, _), (3, _), (4, _), (5, _)] dX6_readPlanet_235 (by decide) rfl ?_
                            refine j_aload_n C dX6_readPlanet_237 (i := 0) rfl rfl ?_
                            refine j_getR C g_X6_21 dX6_readPlanet_238 (fun v71 ev71 => ?_)
                            refine j_kind C s_X6_129 (by decide) dX6_readPlanet_241 ?_
                            refine j_callVim C (As := [.ref _]) (rest := []) k_X6_77 ⟨Nat.le_of_ble_eq_true rfl, Nat.le_of_ble_eq_true rfl⟩ rfl (Nat.le_of_ble_eq_true rfl) ⟨Nat.le_of_ble_eq_true rfl, Nat.le_of_ble_eq_true rfl⟩ rfl dX6_readPlanet_244 (fun r0 q0 => c_Sc_take l w _ _ _ _ q0) (fun r72 er72 nr72 => ?_)
                            refine j_ifeq C (tgt := 263) dX6_readPlanet_247 (by decide) (fun q73 => ?_) (fun q73 => ?_)
                            · refine j_iconst C (v := 0) dX6_readPlanet_263 (by decide) ?_
                              exact e_iretM C hQ hr rfl hlk dX6_readPlanet_264 (Nat.le_of_ble_eq_true rfl) (Nat.le_of_ble_eq_true rfl)
                            · refine j_aload_n C dX6_readPlanet_250 (i := 0) rfl rfl ?_
                              refine j_iload C dX6_readPlanet_251 rfl ?_
                              refine j_iconst C (v := 1) dX6_readPlanet_253 (by decide) ?_
                              refine j_iadd C dX6_readPlanet_254 ?_
                              refine j_bipush C (v := 60) dX6_readPlanet_255 (by decide) ?_
                              refine j_callVim C (As := [.int _, .int _]) (rest := []) k_X6_111 ⟨Nat.le_of_ble_eq_true rfl, Nat.le_of_ble_eq_true rfl⟩ rfl (Nat.le_of_ble_eq_true rfl) ⟨Nat.le_of_ble_eq_true rfl, Nat.le_of_ble_eq_true rfl⟩ rfl dX6_readPlanet_257 (fun r0 q0 => c_Rd_readNumber l w _ _ _ _ _ q0) (fun r74 er74 nr74 => ?_)
                              refine j_ifne C (tgt := 265) dX6_readPlanet_260 (by decide) (fun q75 => ?_) (fun q75 => ?_)
                              · refine j_iconst C (v := 0) dX6_readPlanet_263 (by decide) ?_
                                exact e_iretM C hQ hr rfl hlk dX6_readPlanet_264 (Nat.le_of_ble_eq_true rfl) (Nat.le_of_ble_eq_true rfl)
                              · refine j_aload_n C dX6_readPlanet_265 (i := 0) rfl rfl ?_
                                refine j_getI C g_X6_115 dX6_readPlanet_266 (fun v76 ev76 => ?_)
                                refine j_istore C [(7, _), (6, _), (0, _), (1, _), (3, _), (4, _), (5, _)] dX6_readPlanet_269 (by decide) rfl ?_
                                exact j_sub [2, 3, 4, 5, 6, 1, 0] rfl (hj54 _ _ _)
                  · refine j_aload_n C dX6_readPlanet_133 (i := 0) rfl rfl ?_
                    refine j_getI C g_X6_115 dX6_readPlanet_134 (fun v77 ev77 => ?_)
                    refine j_istore C [(4, _), (3, _), (0, _), (1, _)] dX6_readPlanet_137 (by decide) rfl ?_
                    refine j_iconst C (v := 0) dX6_readPlanet_139 (by decide) ?_
                    refine j_istore C [(5, _), (4, _), (3, _), (0, _), (1, _)] dX6_readPlanet_140 (by decide) rfl ?_
                    refine j_aload_n C dX6_readPlanet_142 (i := 0) rfl rfl ?_
                    refine j_getR C g_X6_21 dX6_readPlanet_143 (fun v78 ev78 => ?_)
                    refine j_kind C s_X6_121 (by decide) dX6_readPlanet_146 ?_
                    refine j_callVi C (As := [.ref _]) (rest := []) k_X6_50 ⟨Nat.le_of_ble_eq_true rfl, Nat.le_of_ble_eq_true rfl⟩ rfl (Nat.le_of_ble_eq_true rfl) ⟨Nat.le_of_ble_eq_true rfl, Nat.le_of_ble_eq_true rfl⟩ rfl dX6_readPlanet_149 (fun r0 q0 => c_Sc_isAt l w _ _ _ _ q0) (fun r79 er79 nr79 => ?_)
                    refine j_ifeq C (tgt := 187) dX6_readPlanet_152 (by decide) (fun q80 => ?_) (fun q80 => ?_)
                    · exact j_sub [3, 4, 2, 1, 0] rfl (hj40 _ _ _)
                    · refine j_aload_n C dX6_readPlanet_155 (i := 0) rfl rfl ?_
                      refine j_getR C g_X6_21 dX6_readPlanet_156 (fun v81 ev81 => ?_)
                      refine j_kind C s_X6_121 (by decide) dX6_readPlanet_159 ?_
                      refine j_callVim C (As := [.ref _]) (rest := []) k_X6_77 ⟨Nat.le_of_ble_eq_true rfl, Nat.le_of_ble_eq_true rfl⟩ rfl (Nat.le_of_ble_eq_true rfl) ⟨Nat.le_of_ble_eq_true rfl, Nat.le_of_ble_eq_true rfl⟩ rfl dX6_readPlanet_162 (fun r0 q0 => c_Sc_take l w _ _ _ _ q0) (fun r82 er82 nr82 => ?_)
                      refine j_ifeq C (tgt := 179) dX6_readPlanet_165 (by decide) (fun q83 => ?_) (fun q83 => ?_)
                      · refine j_iconst C (v := 0) dX6_readPlanet_179 (by decide) ?_
                        exact e_iretM C hQ hr rfl hlk dX6_readPlanet_180 (Nat.le_of_ble_eq_true rfl) (Nat.le_of_ble_eq_true rfl)
                      · refine j_aload_n C dX6_readPlanet_168 (i := 0) rfl rfl ?_
                        refine j_iconst C (v := 0) dX6_readPlanet_169 (by decide) ?_
                        refine j_sipush C (v := 359) dX6_readPlanet_170 (by decide) ?_
                        refine j_callVim C (As := [.int _, .int _]) (rest := []) k_X6_111 ⟨Nat.le_of_ble_eq_true rfl, Nat.le_of_ble_eq_true rfl⟩ rfl (Nat.le_of_ble_eq_true rfl) ⟨Nat.le_of_ble_eq_true rfl, Nat.le_of_ble_eq_true rfl⟩ rfl dX6_readPlanet_173 (fun r0 q0 => c_Rd_readNumber l w _ _ _ _ _ q0) (fun r84 er84 nr84 => ?_)
                        refine j_ifne C (tgt := 181) dX6_readPlanet_176 (by decide) (fun q85 => ?_) (fun q85 => ?_)
                        · refine j_iconst C (v := 0) dX6_readPlanet_179 (by decide) ?_
                          exact e_iretM C hQ hr rfl hlk dX6_readPlanet_180 (Nat.le_of_ble_eq_true rfl) (Nat.le_of_ble_eq_true rfl)
                        · refine j_aload_n C dX6_readPlanet_181 (i := 0) rfl rfl ?_
                          refine j_getI C g_X6_115 dX6_readPlanet_182 (fun v86 ev86 => ?_)
                          refine j_istore C [(5, _), (4, _), (3, _), (0, _), (1, _)] dX6_readPlanet_185 (by decide) rfl ?_
                          exact j_sub [3, 4, 2, 1, 0] rfl (hj40 _ _ _)
      · refine j_aload_n C dX6_readPlanet_28 (i := 0) rfl rfl ?_
        refine j_getR C g_X6_21 dX6_readPlanet_29 (fun v87 ev87 => ?_)
        refine j_callVl C (As := []) (rest := []) k_X6_93 ⟨Nat.le_of_ble_eq_true rfl, Nat.le_of_ble_eq_true rfl⟩ rfl (Nat.le_of_ble_eq_true rfl) ⟨Nat.le_of_ble_eq_true rfl, Nat.le_of_ble_eq_true rfl⟩ rfl dX6_readPlanet_32 (fun r0 q0 => c_Sc_word l w _ _ _ q0) (fun r88 er88 nr88 => ?_)
        refine j_lstore_n C [(1, _), (0, _)] dX6_readPlanet_35 (i := 1) rfl (by decide) rfl ?_
        refine j_aload_n C dX6_readPlanet_36 (i := 0) rfl rfl ?_
        refine j_aload_n C dX6_readPlanet_37 (i := 0) rfl rfl ?_
        refine j_getR C g_X6_25 dX6_readPlanet_38 (fun v89 ev89 => ?_)
        refine j_lload_n C dX6_readPlanet_41 (i := 1) rfl rfl ?_
        refine j_callVi C (As := [.long _]) (rest := [_]) k_X6_97 ⟨Nat.le_of_ble_eq_true rfl, Nat.le_of_ble_eq_true rfl⟩ rfl (Nat.le_of_ble_eq_true rfl) ⟨Nat.le_of_ble_eq_true rfl, Nat.le_of_ble_eq_true rfl⟩ rfl dX6_readPlanet_42 (fun r0 q0 => c_Bk_planetNamed l w fl _ _ _ _ q0) (fun r90 er90 nr90 => ?_)
        refine j_aload_n C dX6_readPlanet_45 (i := 0) rfl rfl ?_
        refine j_getR C g_X6_25 dX6_readPlanet_46 (fun v91 ev91 => ?_)
        refine j_callVi C (As := []) (rest := [_, _]) k_X6_101 ⟨Nat.le_of_ble_eq_true rfl, Nat.le_of_ble_eq_true rfl⟩ rfl (Nat.le_of_ble_eq_true rfl) ⟨Nat.le_of_ble_eq_true rfl, Nat.le_of_ble_eq_true rfl⟩ rfl dX6_readPlanet_49 (fun r0 q0 => c_Bk_planets l w _ _ _ q0) (fun r92 er92 nr92 => ?_)
        refine j_bipush C (v := 8) dX6_readPlanet_52 (by decide) ?_
        refine j_icmpge C (tgt := 61) dX6_readPlanet_54 (by decide) (fun q93 => ?_) (fun q93 => ?_)
        · refine j_iconst C (v := 0) dX6_readPlanet_61 (by decide) ?_
          exact j_sub [1, 0] rfl (hj13 _ _ _ _)
        · refine j_iconst C (v := 1) dX6_readPlanet_57 (by decide) ?_
          refine j_goto C (tgt := 62) dX6_readPlanet_58 (by decide) ?_
          exact j_sub [1, 0] rfl (hj13 _ _ _ _)
def f_Rd_readLetters_b9 (fl : Nat) (a0 : Nat) : Nat → Int32 → hp_M → Option (hp_M)
  | 0, _, _ => none
  | n + 1, x1, h => if 12 ≤ x1 then (some h) else ((gR h a0 5 0).bind fun v1004 => (onO h v1004 6 (f_Sc_length v1004 h)).bind fun r1005 => if r1005 ≤ x1 then (some h) else (jn (fun (u1016 : Int32) (h1017 : hp_M) => (gR h1017 a0 5 1).bind fun v1018 => (onO h1017 v1018 0 (f_Al_add v1018 u1016 h1017)).bind fun h1019 => f_Rd_readLetters_b9 fl a0 n (x1 + 1) h1019) fun (j1015 : Int32 → hp_M → Option (hp_M)) => jn (fun (u1026 : Int32) => (gR h a0 5 0).bind fun v1027 => (onO h v1027 6 (f_Sc_start v1027 h)).bind fun r1028 => (onO h a0 5 (f_Rd_blame a0 7 r1028 h)).bind fun h1029 => j1015 u1026 h1029) fun (j1025 : Int32 → Option (hp_M)) => (gR h a0 5 0).bind fun v1030 => (onO h v1030 6 (f_Sc_signAt v1030 x1 h)).bind fun r1031 => (f_Sc_isDigit r1031 h).bind fun r1032 => if r1032 = 0 then ((gR h a0 5 1).bind fun v1034 => (onO h v1034 0 (f_Al_numberOf fl v1034 r1031 h)).bind fun r1035 => if r1035 < 0 then (j1015 r1031 h) else (j1025 r1031)) else (j1025 r1031)))
def f_Rd_readLetters (fl : Nat) (a0 : Nat) (h : hp_M) : Option (hp_M) := (gR h a0 5 1).bind fun v1 => (onO h v1 0 (f_Al_empty v1 h)).bind fun h2 => f_Rd_readLetters_b9 fl a0 fl 0 h2
set_option maxRecDepth 100000 in
set_option maxHeartbeats 4000000 in
theorem b_Rd_readLetters_9 {p : Program} {l : Launch} {e : Env} {s : State} {m : MethodId} {args : Array Value} {below : List Frame} {meth : Method} {c : Code} {Q : State → Prop} {w : hp_W} {out : hp_M} (fl : Nat)   (a0 : Nat) (C : Cx p m c cX6_readLetters 3 s args RX6 w) (hr : meth.sig.returnType = none) (hlk : meth.locks = false) (hnm : meth.name = "readLetters") (hQ : QM below w args s ({ frames := 2, cells := 0, slots := 0, locals := 42 }) none none out = Q)  : ∀ (n : Nat) (x1 : Int32) (h : hp_M), J p l e ({ frames := 2, cells := 0, slots := 0, locals := 42 }) s m args below meth c Q w 3 0 0 9 [(0, .ref a0), (1, .int x1)] [] h (f_Rd_readLetters_b9 fl a0 n x1 h) out := by
  intro n
  induction n with
  | zero => intro x1 h; exact j_none
  | succ n ih =>
    intro x1 h
    rw [f_Rd_readLetters_b9]
    refine j_iload_n C dX6_readLetters_9 (i := 1) rfl rfl ?_
    refine j_bipush C (v := 12) dX6_readLetters_10 (by decide) ?_
    refine j_icmpge C (tgt := 80) dX6_readLetters_12 (by decide) (fun q1003 => ?_) (fun q1003 => ?_)
    · exact e_vretM C hQ hr hlk dX6_readLetters_80 (Nat.le_of_ble_eq_true rfl) (Nat.le_of_ble_eq_true rfl)
    · refine j_iload_n C dX6_readLetters_15 (i := 1) rfl rfl ?_
      refine j_aload_n C dX6_readLetters_16 (i := 0) rfl rfl ?_
      refine j_getR C g_X6_21 dX6_readLetters_17 (fun v1004 ev1004 => ?_)
      refine j_callVi C (As := []) (rest := [_]) k_X6_153 ⟨Nat.le_of_ble_eq_true rfl, Nat.le_of_ble_eq_true rfl⟩ rfl (Nat.le_of_ble_eq_true rfl) ⟨Nat.le_of_ble_eq_true rfl, Nat.le_of_ble_eq_true rfl⟩ rfl dX6_readLetters_20 (fun r0 q0 => c_Sc_length l w _ _ _ q0) (fun r1005 er1005 nr1005 => ?_)
      refine j_icmpge C (tgt := 80) dX6_readLetters_23 (by decide) (fun q1006 => ?_) (fun q1006 => ?_)
      · exact e_vretM C hQ hr hlk dX6_readLetters_80 (Nat.le_of_ble_eq_true rfl) (Nat.le_of_ble_eq_true rfl)
      · refine j_jn (P := fun (j1015 : Int32 → hp_M → Option (hp_M)) => ∀ (u1016 : Int32) (h1017 : hp_M), J p l e ({ frames := 2, cells := 0, slots := 0, locals := 42 }) s m args below meth c Q w 3 0 0 66 [(0, .ref a0), (1, .int x1), (2, .int u1016)] [] h1017 (j1015 u1016 h1017) out) ?_ (fun j1015 hj1015 => ?_)
        · intro u1016 h1017
          refine j_aload_n C dX6_readLetters_66 (i := 0) rfl rfl ?_
          refine j_getR C g_X6_10 dX6_readLetters_67 (fun v1018 ev1018 => ?_)
          refine j_iload_n C dX6_readLetters_70 (i := 2) rfl rfl ?_
          refine j_callVv C (As := [.int _]) (rest := []) k_X6_171 ⟨Nat.le_of_ble_eq_true rfl, Nat.le_of_ble_eq_true rfl⟩ rfl (Nat.le_of_ble_eq_true rfl) ⟨Nat.le_of_ble_eq_true rfl, Nat.le_of_ble_eq_true rfl⟩ rfl dX6_readLetters_71 (fun r0 q0 => c_Al_add l w _ _ _ _ q0) (fun h1019 eh1019 _ => ?_)
          refine j_iinc C (v := x1 + 1) [(1, _), (0, _), (2, _)] dX6_readLetters_74 rfl rfl (by decide) rfl ?_
          refine j_goto C (tgt := 9) dX6_readLetters_77 (by decide) ?_
          exact j_sub [1, 0] rfl (ih _ _)
        · refine j_jn (P := fun (j1025 : Int32 → Option (hp_M)) => ∀ (u1026 : Int32), J p l e ({ frames := 2, cells := 0, slots := 0, locals := 42 }) s m args below meth c Q w 3 0 0 53 [(0, .ref a0), (1, .int x1), (2, .int u1026)] [] h (j1025 u1026) out) ?_ (fun j1025 hj1025 => ?_)
          · intro u1026
            refine j_aload_n C dX6_readLetters_53 (i := 0) rfl rfl ?_
            refine j_bipush C (v := 7) dX6_readLetters_54 (by decide) ?_
            refine j_aload_n C dX6_readLetters_56 (i := 0) rfl rfl ?_
            refine j_getR C g_X6_21 dX6_readLetters_57 (fun v1027 ev1027 => ?_)
            refine j_callVi C (As := []) (rest := [_, _]) k_X6_73 ⟨Nat.le_of_ble_eq_true rfl, Nat.le_of_ble_eq_true rfl⟩ rfl (Nat.le_of_ble_eq_true rfl) ⟨Nat.le_of_ble_eq_true rfl, Nat.le_of_ble_eq_true rfl⟩ rfl dX6_readLetters_60 (fun r0 q0 => c_Sc_start l w _ _ _ q0) (fun r1028 er1028 nr1028 => ?_)
            refine j_callVv C (As := [.int _, .int _]) (rest := []) k_X6_167 ⟨Nat.le_of_ble_eq_true rfl, Nat.le_of_ble_eq_true rfl⟩ rfl (Nat.le_of_ble_eq_true rfl) ⟨Nat.le_of_ble_eq_true rfl, Nat.le_of_ble_eq_true rfl⟩ rfl dX6_readLetters_63 (fun r0 q0 => c_Rd_blame l w _ _ _ _ _ q0) (fun h1029 eh1029 _ => ?_)
            exact hj1015 _ _
          · refine j_aload_n C dX6_readLetters_26 (i := 0) rfl rfl ?_
            refine j_getR C g_X6_21 dX6_readLetters_27 (fun v1030 ev1030 => ?_)
            refine j_iload_n C dX6_readLetters_30 (i := 1) rfl rfl ?_
            refine j_callVi C (As := [.int _]) (rest := []) k_X6_156 ⟨Nat.le_of_ble_eq_true rfl, Nat.le_of_ble_eq_true rfl⟩ rfl (Nat.le_of_ble_eq_true rfl) ⟨Nat.le_of_ble_eq_true rfl, Nat.le_of_ble_eq_true rfl⟩ rfl dX6_readLetters_31 (fun r0 q0 => c_Sc_signAt l w _ _ _ _ q0) (fun r1031 er1031 nr1031 => ?_)
            refine j_istore_n C [(2, _), (0, _), (1, _)] dX6_readLetters_34 (i := 2) rfl (by decide) rfl ?_
            refine j_iload_n C dX6_readLetters_35 (i := 2) rfl rfl ?_
            refine j_callSi C (As := [.int _]) (rest := []) k_X6_160 ⟨Nat.le_of_ble_eq_true rfl, Nat.le_of_ble_eq_true rfl⟩ rfl (Nat.le_of_ble_eq_true rfl) ⟨Nat.le_of_ble_eq_true rfl, Nat.le_of_ble_eq_true rfl⟩ rfl dX6_readLetters_36 (fun r0 q0 => c_Sc_isDigit l w _ _ _ q0) (fun r1032 er1032 nr1032 => ?_)
            refine j_ifne C (tgt := 53) dX6_readLetters_39 (by decide) (fun q1033 => ?_) (fun q1033 => ?_)
            · refine j_aload_n C dX6_readLetters_42 (i := 0) rfl rfl ?_
              refine j_getR C g_X6_10 dX6_readLetters_43 (fun v1034 ev1034 => ?_)
              refine j_iload_n C dX6_readLetters_46 (i := 2) rfl rfl ?_
              refine j_callVi C (As := [.int _]) (rest := []) k_X6_164 ⟨Nat.le_of_ble_eq_true rfl, Nat.le_of_ble_eq_true rfl⟩ rfl (Nat.le_of_ble_eq_true rfl) ⟨Nat.le_of_ble_eq_true rfl, Nat.le_of_ble_eq_true rfl⟩ rfl dX6_readLetters_47 (fun r0 q0 => c_Al_numberOf l w fl _ _ _ _ q0) (fun r1035 er1035 nr1035 => ?_)
              refine j_iflt C (tgt := 66) dX6_readLetters_50 (by decide) (fun q1036 => ?_) (fun q1036 => ?_)
              · exact j_sub [1, 2, 0] rfl (hj1015 _ _)
              · exact j_sub [1, 2, 0] rfl (hj1025 _)
            · exact j_sub [1, 2, 0] rfl (hj1025 _)
set_option maxRecDepth 100000 in
set_option maxHeartbeats 4000000 in
theorem c_Rd_readLetters (l : Launch) (w : hp_W) (fl : Nat) (a0 : Nat) (h : hp_M) (out : hp_M) (hX : f_Rd_readLetters fl a0 h = some out) : CT l w yX6_readLetters cX6_readLetters 3 none ({ frames := 2, cells := 0, slots := 0, locals := 42 }) [.ref a0] h none out := by
  unfold f_Rd_readLetters at hX
  refine ct_of (by decide +kernel) (Nat.le_of_ble_eq_true rfl) hX ?_
  intro p e s m args below meth c Q C hr hlk hnm hQ
  refine j_aload_n C dX6_readLetters_0 (i := 0) rfl rfl ?_
  refine j_getR C g_X6_10 dX6_readLetters_1 (fun v1 ev1 => ?_)
  refine j_callVv C (As := []) (rest := []) k_X6_152 ⟨Nat.le_of_ble_eq_true rfl, Nat.le_of_ble_eq_true rfl⟩ rfl (Nat.le_of_ble_eq_true rfl) ⟨Nat.le_of_ble_eq_true rfl, Nat.le_of_ble_eq_true rfl⟩ rfl dX6_readLetters_4 (fun r0 q0 => c_Al_empty l w _ _ _ q0) (fun h2 eh2 _ => ?_)
  refine j_iconst C (v := 0) dX6_readLetters_7 (by decide) ?_
  refine j_istore_n C [(1, _), (0, _)] dX6_readLetters_8 (i := 1) rfl (by decide) rfl ?_
  refine j_sub [1, 0] rfl (b_Rd_readLetters_9 fl  _ C hr hlk hnm hQ  _ _ _)
def f_Rd_readAlphabet (w : hp_W) (fl : Nat) (a0 : Nat) (h : hp_M) : Option (Int32 × hp_M) := (gR h a0 5 0).bind fun v1 => (onO h v1 6 (f_Sc_take v1 (w_kd w 10) h)).bind fun r2 => if r2.1 = 0 then (some (0, r2.2)) else ((gR r2.2 a0 5 0).bind fun v4 => (onO r2.2 v4 6 (f_Sc_isAt v4 (w_kd w 2) r2.2)).bind fun r5 => if r5 = 0 then (some (0, r2.2)) else (jn (fun (u14 : Int64) (u15 : Int32) (u16 : Int32) (u17 : Nat) => (onO r2.2 u17 5 (f_Rd_checkNewName u17 u16 u15 r2.2)).bind fun h18 => (gR h18 a0 5 0).bind fun v19 => (onO h18 v19 6 (f_Sc_take v19 (w_kd w 2) h18)).bind fun r20 => if r20.1 = 0 then (some (0, r20.2)) else ((gR r20.2 a0 5 0).bind fun v22 => (onO r20.2 v22 6 (f_Sc_isAt v22 (w_kd w 2) r20.2)).bind fun r23 => if r23 = 0 then (some (0, r20.2)) else (jn (fun (h34 : hp_M) => some (0, h34)) fun (j33 : hp_M → Option (Int32 × hp_M)) => (onO r20.2 a0 5 (f_Rd_readLetters fl a0 r20.2)).bind fun h35 => (gR h35 a0 5 2).bind fun v36 => (gR h35 a0 5 1).bind fun v37 => (onO h35 v36 1 (f_Bk_addAlphabet v36 u14 v37 h35)).bind fun h38 => (gR h38 a0 5 0).bind fun v39 => (onO h38 v39 6 (f_Sc_take v39 (w_kd w 2) h38)).bind fun r40 => if r40.1 = 0 then (j33 r40.2) else ((gR r40.2 a0 5 0).bind fun v42 => (onO r40.2 v42 6 (f_Sc_take v42 (w_kd w 30) r40.2)).bind fun r43 => if r43.1 = 0 then (j33 r43.2) else (some (1, r43.2)))))) fun (j13 : Int64 → Int32 → Int32 → Nat → Option (Int32 × hp_M)) => (gR r2.2 a0 5 0).bind fun v45 => (onO r2.2 v45 6 (f_Sc_word v45 r2.2)).bind fun r46 => (gR r2.2 a0 5 2).bind fun v47 => (onO r2.2 v47 1 (f_Bk_alphabetNamed fl v47 r46 r2.2)).bind fun r48 => (gR r2.2 a0 5 2).bind fun v49 => (onO r2.2 v49 1 (f_Bk_alphabets v49 r2.2)).bind fun r50 => if 6 ≤ r50 then (j13 r46 0 r48 a0) else (j13 r46 1 r48 a0)))
set_option maxRecDepth 100000 in
set_option maxHeartbeats 4000000 in
theorem c_Rd_readAlphabet (l : Launch) (w : hp_W) (fl : Nat) (a0 : Nat) (h : hp_M) (out : Int32 × hp_M) (hX : f_Rd_readAlphabet w fl a0 h = some out) : CT l w yX6_readAlphabet cX6_readAlphabet 3 (some .boolean) ({ frames := 8, cells := 0, slots := 0, locals := 244 }) [.ref a0] h (some (.int out.1)) out.2 := by
  unfold f_Rd_readAlphabet at hX
  refine ct_of (by decide +kernel) (Nat.le_of_ble_eq_true rfl) hX ?_
  intro p e s m args below meth c Q C hr hlk hnm hQ
  refine j_aload_n C dX6_readAlphabet_0 (i := 0) rfl rfl ?_
  refine j_getR C g_X6_21 dX6_readAlphabet_1 (fun v1 ev1 => ?_)
  refine j_kind C s_X6_61 (by decide) dX6_readAlphabet_4 ?_
  refine j_callVim C (As := [.ref _]) (rest := []) k_X6_77 ⟨Nat.le_of_ble_eq_true rfl, Nat.le_of_ble_eq_true rfl⟩ rfl (Nat.le_of_ble_eq_true rfl) ⟨Nat.le_of_ble_eq_true rfl, Nat.le_of_ble_eq_true rfl⟩ rfl dX6_readAlphabet_7 (fun r0 q0 => c_Sc_take l w _ _ _ _ q0) (fun r2 er2 nr2 => ?_)
  refine j_ifeq C (tgt := 26) dX6_readAlphabet_10 (by decide) (fun q3 => ?_) (fun q3 => ?_)
  · refine j_iconst C (v := 0) dX6_readAlphabet_26 (by decide) ?_
    exact e_iretM C hQ hr rfl hlk dX6_readAlphabet_27 (Nat.le_of_ble_eq_true rfl) (Nat.le_of_ble_eq_true rfl)
  · refine j_aload_n C dX6_readAlphabet_13 (i := 0) rfl rfl ?_
    refine j_getR C g_X6_21 dX6_readAlphabet_14 (fun v4 ev4 => ?_)
    refine j_kind C s_X6_90 (by decide) dX6_readAlphabet_17 ?_
    refine j_callVi C (As := [.ref _]) (rest := []) k_X6_50 ⟨Nat.le_of_ble_eq_true rfl, Nat.le_of_ble_eq_true rfl⟩ rfl (Nat.le_of_ble_eq_true rfl) ⟨Nat.le_of_ble_eq_true rfl, Nat.le_of_ble_eq_true rfl⟩ rfl dX6_readAlphabet_20 (fun r0 q0 => c_Sc_isAt l w _ _ _ _ q0) (fun r5 er5 nr5 => ?_)
    refine j_ifne C (tgt := 28) dX6_readAlphabet_23 (by decide) (fun q6 => ?_) (fun q6 => ?_)
    · refine j_iconst C (v := 0) dX6_readAlphabet_26 (by decide) ?_
      exact e_iretM C hQ hr rfl hlk dX6_readAlphabet_27 (Nat.le_of_ble_eq_true rfl) (Nat.le_of_ble_eq_true rfl)
    · refine j_jn (P := fun (j13 : Int64 → Int32 → Int32 → Nat → Option (Int32 × hp_M)) => ∀ (u14 : Int64) (u15 : Int32) (u16 : Int32) (u17 : Nat), J p l e ({ frames := 8, cells := 0, slots := 0, locals := 244 }) s m args below meth c Q w 3 0 0 62 [(0, .ref a0), (1, .long u14)] [.int u15, .int u16, .ref u17] r2.2 (j13 u14 u15 u16 u17) out) ?_ (fun j13 hj13 => ?_)
      · intro u14 u15 u16 u17
        refine j_callVv C (As := [.int _, .int _]) (rest := []) k_X6_104 ⟨Nat.le_of_ble_eq_true rfl, Nat.le_of_ble_eq_true rfl⟩ rfl (Nat.le_of_ble_eq_true rfl) ⟨Nat.le_of_ble_eq_true rfl, Nat.le_of_ble_eq_true rfl⟩ rfl dX6_readAlphabet_62 (fun r0 q0 => c_Rd_checkNewName l w _ _ _ _ _ q0) (fun h18 eh18 _ => ?_)
        refine j_aload_n C dX6_readAlphabet_65 (i := 0) rfl rfl ?_
        refine j_getR C g_X6_21 dX6_readAlphabet_66 (fun v19 ev19 => ?_)
        refine j_kind C s_X6_90 (by decide) dX6_readAlphabet_69 ?_
        refine j_callVim C (As := [.ref _]) (rest := []) k_X6_77 ⟨Nat.le_of_ble_eq_true rfl, Nat.le_of_ble_eq_true rfl⟩ rfl (Nat.le_of_ble_eq_true rfl) ⟨Nat.le_of_ble_eq_true rfl, Nat.le_of_ble_eq_true rfl⟩ rfl dX6_readAlphabet_72 (fun r0 q0 => c_Sc_take l w _ _ _ _ q0) (fun r20 er20 nr20 => ?_)
        refine j_ifeq C (tgt := 91) dX6_readAlphabet_75 (by decide) (fun q21 => ?_) (fun q21 => ?_)
        · refine j_iconst C (v := 0) dX6_readAlphabet_91 (by decide) ?_
          exact e_iretM C hQ hr rfl hlk dX6_readAlphabet_92 (Nat.le_of_ble_eq_true rfl) (Nat.le_of_ble_eq_true rfl)
        · refine j_aload_n C dX6_readAlphabet_78 (i := 0) rfl rfl ?_
          refine j_getR C g_X6_21 dX6_readAlphabet_79 (fun v22 ev22 => ?_)
          refine j_kind C s_X6_90 (by decide) dX6_readAlphabet_82 ?_
          refine j_callVi C (As := [.ref _]) (rest := []) k_X6_50 ⟨Nat.le_of_ble_eq_true rfl, Nat.le_of_ble_eq_true rfl⟩ rfl (Nat.le_of_ble_eq_true rfl) ⟨Nat.le_of_ble_eq_true rfl, Nat.le_of_ble_eq_true rfl⟩ rfl dX6_readAlphabet_85 (fun r0 q0 => c_Sc_isAt l w _ _ _ _ q0) (fun r23 er23 nr23 => ?_)
          refine j_ifne C (tgt := 93) dX6_readAlphabet_88 (by decide) (fun q24 => ?_) (fun q24 => ?_)
          · refine j_iconst C (v := 0) dX6_readAlphabet_91 (by decide) ?_
            exact e_iretM C hQ hr rfl hlk dX6_readAlphabet_92 (Nat.le_of_ble_eq_true rfl) (Nat.le_of_ble_eq_true rfl)
          · refine j_jn (P := fun (j33 : hp_M → Option (Int32 × hp_M)) => ∀ (h34 : hp_M), J p l e ({ frames := 8, cells := 0, slots := 0, locals := 244 }) s m args below meth c Q w 3 0 0 139 [] [] h34 (j33 h34) out) ?_ (fun j33 hj33 => ?_)
            · intro h34
              refine j_iconst C (v := 0) dX6_readAlphabet_139 (by decide) ?_
              exact e_iretM C hQ hr rfl hlk dX6_readAlphabet_140 (Nat.le_of_ble_eq_true rfl) (Nat.le_of_ble_eq_true rfl)
            · refine j_aload_n C dX6_readAlphabet_93 (i := 0) rfl rfl ?_
              refine j_callVv C (As := []) (rest := []) k_X6_145 ⟨Nat.le_of_ble_eq_true rfl, Nat.le_of_ble_eq_true rfl⟩ rfl (Nat.le_of_ble_eq_true rfl) ⟨Nat.le_of_ble_eq_true rfl, Nat.le_of_ble_eq_true rfl⟩ rfl dX6_readAlphabet_94 (fun r0 q0 => c_Rd_readLetters l w fl _ _ _ q0) (fun h35 eh35 _ => ?_)
              refine j_aload_n C dX6_readAlphabet_97 (i := 0) rfl rfl ?_
              refine j_getR C g_X6_25 dX6_readAlphabet_98 (fun v36 ev36 => ?_)
              refine j_lload_n C dX6_readAlphabet_101 (i := 1) rfl rfl ?_
              refine j_aload_n C dX6_readAlphabet_102 (i := 0) rfl rfl ?_
              refine j_getR C g_X6_10 dX6_readAlphabet_103 (fun v37 ev37 => ?_)
              refine j_callVv C (As := [.long _, .ref _]) (rest := []) k_X6_148 ⟨Nat.le_of_ble_eq_true rfl, Nat.le_of_ble_eq_true rfl⟩ rfl (Nat.le_of_ble_eq_true rfl) ⟨Nat.le_of_ble_eq_true rfl, Nat.le_of_ble_eq_true rfl⟩ rfl dX6_readAlphabet_106 (fun r0 q0 => c_Bk_addAlphabet l w _ _ _ _ _ q0) (fun h38 eh38 _ => ?_)
              refine j_aload_n C dX6_readAlphabet_109 (i := 0) rfl rfl ?_
              refine j_getR C g_X6_21 dX6_readAlphabet_110 (fun v39 ev39 => ?_)
              refine j_kind C s_X6_90 (by decide) dX6_readAlphabet_113 ?_
              refine j_callVim C (As := [.ref _]) (rest := []) k_X6_77 ⟨Nat.le_of_ble_eq_true rfl, Nat.le_of_ble_eq_true rfl⟩ rfl (Nat.le_of_ble_eq_true rfl) ⟨Nat.le_of_ble_eq_true rfl, Nat.le_of_ble_eq_true rfl⟩ rfl dX6_readAlphabet_116 (fun r0 q0 => c_Sc_take l w _ _ _ _ q0) (fun r40 er40 nr40 => ?_)
              refine j_ifeq C (tgt := 139) dX6_readAlphabet_119 (by decide) (fun q41 => ?_) (fun q41 => ?_)
              · exact j_sub [] rfl (hj33 _)
              · refine j_aload_n C dX6_readAlphabet_122 (i := 0) rfl rfl ?_
                refine j_getR C g_X6_21 dX6_readAlphabet_123 (fun v42 ev42 => ?_)
                refine j_kind C s_X6_136 (by decide) dX6_readAlphabet_126 ?_
                refine j_callVim C (As := [.ref _]) (rest := []) k_X6_77 ⟨Nat.le_of_ble_eq_true rfl, Nat.le_of_ble_eq_true rfl⟩ rfl (Nat.le_of_ble_eq_true rfl) ⟨Nat.le_of_ble_eq_true rfl, Nat.le_of_ble_eq_true rfl⟩ rfl dX6_readAlphabet_129 (fun r0 q0 => c_Sc_take l w _ _ _ _ q0) (fun r43 er43 nr43 => ?_)
                refine j_ifeq C (tgt := 139) dX6_readAlphabet_132 (by decide) (fun q44 => ?_) (fun q44 => ?_)
                · exact j_sub [] rfl (hj33 _)
                · refine j_iconst C (v := 1) dX6_readAlphabet_135 (by decide) ?_
                  refine j_goto C (tgt := 140) dX6_readAlphabet_136 (by decide) ?_
                  exact e_iretM C hQ hr rfl hlk dX6_readAlphabet_140 (Nat.le_of_ble_eq_true rfl) (Nat.le_of_ble_eq_true rfl)
      · refine j_aload_n C dX6_readAlphabet_28 (i := 0) rfl rfl ?_
        refine j_getR C g_X6_21 dX6_readAlphabet_29 (fun v45 ev45 => ?_)
        refine j_callVl C (As := []) (rest := []) k_X6_93 ⟨Nat.le_of_ble_eq_true rfl, Nat.le_of_ble_eq_true rfl⟩ rfl (Nat.le_of_ble_eq_true rfl) ⟨Nat.le_of_ble_eq_true rfl, Nat.le_of_ble_eq_true rfl⟩ rfl dX6_readAlphabet_32 (fun r0 q0 => c_Sc_word l w _ _ _ q0) (fun r46 er46 nr46 => ?_)
        refine j_lstore_n C [(1, _), (0, _)] dX6_readAlphabet_35 (i := 1) rfl (by decide) rfl ?_
        refine j_aload_n C dX6_readAlphabet_36 (i := 0) rfl rfl ?_
        refine j_aload_n C dX6_readAlphabet_37 (i := 0) rfl rfl ?_
        refine j_getR C g_X6_25 dX6_readAlphabet_38 (fun v47 ev47 => ?_)
        refine j_lload_n C dX6_readAlphabet_41 (i := 1) rfl rfl ?_
        refine j_callVi C (As := [.long _]) (rest := [_]) k_X6_139 ⟨Nat.le_of_ble_eq_true rfl, Nat.le_of_ble_eq_true rfl⟩ rfl (Nat.le_of_ble_eq_true rfl) ⟨Nat.le_of_ble_eq_true rfl, Nat.le_of_ble_eq_true rfl⟩ rfl dX6_readAlphabet_42 (fun r0 q0 => c_Bk_alphabetNamed l w fl _ _ _ _ q0) (fun r48 er48 nr48 => ?_)
        refine j_aload_n C dX6_readAlphabet_45 (i := 0) rfl rfl ?_
        refine j_getR C g_X6_25 dX6_readAlphabet_46 (fun v49 ev49 => ?_)
        refine j_callVi C (As := []) (rest := [_, _]) k_X6_142 ⟨Nat.le_of_ble_eq_true rfl, Nat.le_of_ble_eq_true rfl⟩ rfl (Nat.le_of_ble_eq_true rfl) ⟨Nat.le_of_ble_eq_true rfl, Nat.le_of_ble_eq_true rfl⟩ rfl dX6_readAlphabet_49 (fun r0 q0 => c_Bk_alphabets l w _ _ _ q0) (fun r50 er50 nr50 => ?_)
        refine j_bipush C (v := 6) dX6_readAlphabet_52 (by decide) ?_
        refine j_icmpge C (tgt := 61) dX6_readAlphabet_54 (by decide) (fun q51 => ?_) (fun q51 => ?_)
        · refine j_iconst C (v := 0) dX6_readAlphabet_61 (by decide) ?_
          exact j_sub [1, 0] rfl (hj13 _ _ _ _)
        · refine j_iconst C (v := 1) dX6_readAlphabet_57 (by decide) ?_
          refine j_goto C (tgt := 62) dX6_readAlphabet_58 (by decide) ?_
          exact j_sub [1, 0] rfl (hj13 _ _ _ _)
def f_Rd_takeDeeper (a0 : Nat) (a1 : Nat) (x2 : Int32) (h : hp_M) : Option (Int32 × hp_M) := jn (fun (h4 : hp_M) => some (0, h4)) fun (j3 : hp_M → Option (Int32 × hp_M)) => if 8 ≤ x2 then (j3 h) else ((gR h a0 5 0).bind fun v6 => (onO h v6 6 (f_Sc_take v6 a1 h)).bind fun r7 => if r7.1 = 0 then (j3 r7.2) else (some (1, r7.2)))
set_option maxRecDepth 100000 in
set_option maxHeartbeats 4000000 in
theorem c_Rd_takeDeeper (l : Launch) (w : hp_W) (a0 : Nat) (a1 : Nat) (x2 : Int32) (h : hp_M) (out : Int32 × hp_M) (hX : f_Rd_takeDeeper a0 a1 x2 h = some out) : CT l w yX6_takeDeeper cX6_takeDeeper 3 (some .boolean) ({ frames := 1, cells := 0, slots := 0, locals := 21 }) [.ref a0, .ref a1, .int x2] h (some (.int out.1)) out.2 := by
  unfold f_Rd_takeDeeper at hX
  refine ct_of (by decide +kernel) (Nat.le_of_ble_eq_true rfl) hX ?_
  intro p e s m args below meth c Q C hr hlk hnm hQ
  refine j_jn (P := fun (j3 : hp_M → Option (Int32 × hp_M)) => ∀ (h4 : hp_M), J p l e ({ frames := 1, cells := 0, slots := 0, locals := 21 }) s m args below meth c Q w 3 0 0 21 [] [] h4 (j3 h4) out) ?_ (fun j3 hj3 => ?_)
  · intro h4
    refine j_iconst C (v := 0) dX6_takeDeeper_21 (by decide) ?_
    exact e_iretM C hQ hr rfl hlk dX6_takeDeeper_22 (Nat.le_of_ble_eq_true rfl) (Nat.le_of_ble_eq_true rfl)
  · refine j_iload_n C dX6_takeDeeper_0 (i := 2) rfl rfl ?_
    refine j_bipush C (v := 8) dX6_takeDeeper_1 (by decide) ?_
    refine j_icmpge C (tgt := 21) dX6_takeDeeper_3 (by decide) (fun q5 => ?_) (fun q5 => ?_)
    · exact j_sub [] rfl (hj3 _)
    · refine j_aload_n C dX6_takeDeeper_6 (i := 0) rfl rfl ?_
      refine j_getR C g_X6_21 dX6_takeDeeper_7 (fun v6 ev6 => ?_)
      refine j_aload_n C dX6_takeDeeper_10 (i := 1) rfl rfl ?_
      refine j_callVim C (As := [.ref _]) (rest := []) k_X6_77 ⟨Nat.le_of_ble_eq_true rfl, Nat.le_of_ble_eq_true rfl⟩ rfl (Nat.le_of_ble_eq_true rfl) ⟨Nat.le_of_ble_eq_true rfl, Nat.le_of_ble_eq_true rfl⟩ rfl dX6_takeDeeper_11 (fun r0 q0 => c_Sc_take l w _ _ _ _ q0) (fun r7 er7 nr7 => ?_)
      refine j_ifeq C (tgt := 21) dX6_takeDeeper_14 (by decide) (fun q8 => ?_) (fun q8 => ?_)
      · exact j_sub [] rfl (hj3 _)
      · refine j_iconst C (v := 1) dX6_takeDeeper_17 (by decide) ?_
        refine j_goto C (tgt := 22) dX6_takeDeeper_18 (by decide) ?_
        exact e_iretM C hQ hr rfl hlk dX6_takeDeeper_22 (Nat.le_of_ble_eq_true rfl) (Nat.le_of_ble_eq_true rfl)
def f_Rd_write (a0 : Nat) (x1 : Int32) (x2 : Int32) (x3 : Int32) (h : hp_M) : Option (Int32 × hp_M) := (gR h a0 5 2).bind fun v1 => (onO h v1 1 (f_Bk_program v1 h)).bind fun r2 => (onO h r2 4 (f_Pr_add r2 x1 x2 x3 h)).bind fun h3 => some (1, h3)
set_option maxRecDepth 100000 in
set_option maxHeartbeats 4000000 in
theorem c_Rd_write (l : Launch) (w : hp_W) (a0 : Nat) (x1 : Int32) (x2 : Int32) (x3 : Int32) (h : hp_M) (out : Int32 × hp_M) (hX : f_Rd_write a0 x1 x2 x3 h = some out) : CT l w yX6_write cX6_write 4 (some .boolean) ({ frames := 1, cells := 0, slots := 0, locals := 23 }) [.ref a0, .int x1, .int x2, .int x3] h (some (.int out.1)) out.2 := by
  unfold f_Rd_write at hX
  refine ct_of (by decide +kernel) (Nat.le_of_ble_eq_true rfl) hX ?_
  intro p e s m args below meth c Q C hr hlk hnm hQ
  refine j_aload_n C dX6_write_0 (i := 0) rfl rfl ?_
  refine j_getR C g_X6_25 dX6_write_1 (fun v1 ev1 => ?_)
  refine j_callVr C (As := []) (rest := []) k_X6_80 ⟨Nat.le_of_ble_eq_true rfl, Nat.le_of_ble_eq_true rfl⟩ rfl (Nat.le_of_ble_eq_true rfl) ⟨Nat.le_of_ble_eq_true rfl, Nat.le_of_ble_eq_true rfl⟩ rfl dX6_write_4 (fun r0 q0 => c_Bk_program l w _ _ _ q0) (fun r2 er2 nr2 => ?_)
  refine j_iload_n C dX6_write_7 (i := 1) rfl rfl ?_
  refine j_iload_n C dX6_write_8 (i := 2) rfl rfl ?_
  refine j_iload_n C dX6_write_9 (i := 3) rfl rfl ?_
  refine j_callVv C (As := [.int _, .int _, .int _]) (rest := []) k_X6_84 ⟨Nat.le_of_ble_eq_true rfl, Nat.le_of_ble_eq_true rfl⟩ rfl (Nat.le_of_ble_eq_true rfl) ⟨Nat.le_of_ble_eq_true rfl, Nat.le_of_ble_eq_true rfl⟩ rfl dX6_write_10 (fun r0 q0 => c_Pr_add l w _ _ _ _ _ _ q0) (fun h3 eh3 _ => ?_)
  refine j_iconst C (v := 1) dX6_write_13 (by decide) ?_
  exact e_iretM C hQ hr rfl hlk dX6_write_14 (Nat.le_of_ble_eq_true rfl) (Nat.le_of_ble_eq_true rfl)
def f_Rd_readName (w : hp_W) (fl : Nat) (a0 : Nat) (x1 : Int32) (h : hp_M) : Option (Int32 × hp_M) := (gR h a0 5 0).bind fun v1 => (onO h v1 6 (f_Sc_isAt v1 (w_kd w 2) h)).bind fun r2 => if r2 = 0 then (some (0, h)) else (jn (fun (u9 : Int32) (u10 : Nat) => jn (fun (h17 : hp_M) => (gR h17 a0 5 0).bind fun v18 => (onO h17 v18 6 (f_Sc_take v18 (w_kd w 2) h17)).bind fun r19 => some (r19.1, r19.2)) fun (j16 : hp_M → Option (Int32 × hp_M)) => (pF h u10 5 5 (.int u9)).bind fun h20 => (gI h20 a0 5 5).bind fun v21 => if 0 ≤ v21 then (j16 h20) else ((gR h20 a0 5 0).bind fun v23 => (onO h20 v23 6 (f_Sc_start v23 h20)).bind fun r24 => (onO h20 a0 5 (f_Rd_blame a0 3 r24 h20)).bind fun h25 => j16 h25)) fun (j8 : Int32 → Nat → Option (Int32 × hp_M)) => (gR h a0 5 0).bind fun v26 => (onO h v26 6 (f_Sc_word v26 h)).bind fun r27 => if x1 = 0 then ((gR h a0 5 2).bind fun v29 => (onO h v29 1 (f_Bk_planetNamed fl v29 r27 h)).bind fun r30 => j8 r30 a0) else ((gR h a0 5 2).bind fun v31 => (onO h v31 1 (f_Bk_alphabetNamed fl v31 r27 h)).bind fun r32 => j8 r32 a0))
set_option maxRecDepth 100000 in
set_option maxHeartbeats 4000000 in
theorem c_Rd_readName (l : Launch) (w : hp_W) (fl : Nat) (a0 : Nat) (x1 : Int32) (h : hp_M) (out : Int32 × hp_M) (hX : f_Rd_readName w fl a0 x1 h = some out) : CT l w yX6_readName cX6_readName 4 (some .boolean) ({ frames := 1, cells := 0, slots := 0, locals := 23 }) [.ref a0, .int x1] h (some (.int out.1)) out.2 := by
  unfold f_Rd_readName at hX
  refine ct_of (by decide +kernel) (Nat.le_of_ble_eq_true rfl) hX ?_
  intro p e s m args below meth c Q C hr hlk hnm hQ
  refine j_aload_n C dX6_readName_0 (i := 0) rfl rfl ?_
  refine j_getR C g_X6_21 dX6_readName_1 (fun v1 ev1 => ?_)
  refine j_kind C s_X6_90 (by decide) dX6_readName_4 ?_
  refine j_callVi C (As := [.ref _]) (rest := []) k_X6_50 ⟨Nat.le_of_ble_eq_true rfl, Nat.le_of_ble_eq_true rfl⟩ rfl (Nat.le_of_ble_eq_true rfl) ⟨Nat.le_of_ble_eq_true rfl, Nat.le_of_ble_eq_true rfl⟩ rfl dX6_readName_7 (fun r0 q0 => c_Sc_isAt l w _ _ _ _ q0) (fun r2 er2 nr2 => ?_)
  refine j_ifne C (tgt := 15) dX6_readName_10 (by decide) (fun q3 => ?_) (fun q3 => ?_)
  · refine j_iconst C (v := 0) dX6_readName_13 (by decide) ?_
    exact e_iretM C hQ hr rfl hlk dX6_readName_14 (Nat.le_of_ble_eq_true rfl) (Nat.le_of_ble_eq_true rfl)
  · refine j_jn (P := fun (j8 : Int32 → Nat → Option (Int32 × hp_M)) => ∀ (u9 : Int32) (u10 : Nat), J p l e ({ frames := 1, cells := 0, slots := 0, locals := 23 }) s m args below meth c Q w 4 0 0 47 [(0, .ref a0)] [.int u9, .ref u10] h (j8 u9 u10) out) ?_ (fun j8 hj8 => ?_)
    · intro u9 u10
      refine j_jn (P := fun (j16 : hp_M → Option (Int32 × hp_M)) => ∀ (h17 : hp_M), J p l e ({ frames := 1, cells := 0, slots := 0, locals := 23 }) s m args below meth c Q w 4 0 0 69 [(0, .ref a0)] [] h17 (j16 h17) out) ?_ (fun j16 hj16 => ?_)
      · intro h17
        refine j_aload_n C dX6_readName_69 (i := 0) rfl rfl ?_
        refine j_getR C g_X6_21 dX6_readName_70 (fun v18 ev18 => ?_)
        refine j_kind C s_X6_90 (by decide) dX6_readName_73 ?_
        refine j_callVim C (As := [.ref _]) (rest := []) k_X6_77 ⟨Nat.le_of_ble_eq_true rfl, Nat.le_of_ble_eq_true rfl⟩ rfl (Nat.le_of_ble_eq_true rfl) ⟨Nat.le_of_ble_eq_true rfl, Nat.le_of_ble_eq_true rfl⟩ rfl dX6_readName_76 (fun r0 q0 => c_Sc_take l w _ _ _ _ q0) (fun r19 er19 nr19 => ?_)
        exact e_iretM C hQ hr (nr19 _ _ rfl rfl) hlk dX6_readName_79 (Nat.le_of_ble_eq_true rfl) (Nat.le_of_ble_eq_true rfl)
      · refine j_putI C p_X6_115 (fun q => nomatch q) dX6_readName_47 (fun h20 eh20 => ?_)
        refine j_aload_n C dX6_readName_50 (i := 0) rfl rfl ?_
        refine j_getI C g_X6_115 dX6_readName_51 (fun v21 ev21 => ?_)
        refine j_ifge C (tgt := 69) dX6_readName_54 (by decide) (fun q22 => ?_) (fun q22 => ?_)
        · exact hj16 _
        · refine j_aload_n C dX6_readName_57 (i := 0) rfl rfl ?_
          refine j_iconst C (v := 3) dX6_readName_58 (by decide) ?_
          refine j_aload_n C dX6_readName_59 (i := 0) rfl rfl ?_
          refine j_getR C g_X6_21 dX6_readName_60 (fun v23 ev23 => ?_)
          refine j_callVi C (As := []) (rest := [_, _]) k_X6_73 ⟨Nat.le_of_ble_eq_true rfl, Nat.le_of_ble_eq_true rfl⟩ rfl (Nat.le_of_ble_eq_true rfl) ⟨Nat.le_of_ble_eq_true rfl, Nat.le_of_ble_eq_true rfl⟩ rfl dX6_readName_63 (fun r0 q0 => c_Sc_start l w _ _ _ q0) (fun r24 er24 nr24 => ?_)
          refine j_callVv C (As := [.int _, .int _]) (rest := []) k_X6_167 ⟨Nat.le_of_ble_eq_true rfl, Nat.le_of_ble_eq_true rfl⟩ rfl (Nat.le_of_ble_eq_true rfl) ⟨Nat.le_of_ble_eq_true rfl, Nat.le_of_ble_eq_true rfl⟩ rfl dX6_readName_66 (fun r0 q0 => c_Rd_blame l w _ _ _ _ _ q0) (fun h25 eh25 _ => ?_)
          exact hj16 _
    · refine j_aload_n C dX6_readName_15 (i := 0) rfl rfl ?_
      refine j_getR C g_X6_21 dX6_readName_16 (fun v26 ev26 => ?_)
      refine j_callVl C (As := []) (rest := []) k_X6_93 ⟨Nat.le_of_ble_eq_true rfl, Nat.le_of_ble_eq_true rfl⟩ rfl (Nat.le_of_ble_eq_true rfl) ⟨Nat.le_of_ble_eq_true rfl, Nat.le_of_ble_eq_true rfl⟩ rfl dX6_readName_19 (fun r0 q0 => c_Sc_word l w _ _ _ q0) (fun r27 er27 nr27 => ?_)
      refine j_lstore_n C [(2, _), (0, _), (1, _)] dX6_readName_22 (i := 2) rfl (by decide) rfl ?_
      refine j_aload_n C dX6_readName_23 (i := 0) rfl rfl ?_
      refine j_iload_n C dX6_readName_24 (i := 1) rfl rfl ?_
      refine j_ifeq C (tgt := 39) dX6_readName_25 (by decide) (fun q28 => ?_) (fun q28 => ?_)
      · refine j_aload_n C dX6_readName_39 (i := 0) rfl rfl ?_
        refine j_getR C g_X6_25 dX6_readName_40 (fun v29 ev29 => ?_)
        refine j_lload_n C dX6_readName_43 (i := 2) rfl rfl ?_
        refine j_callVi C (As := [.long _]) (rest := [_]) k_X6_97 ⟨Nat.le_of_ble_eq_true rfl, Nat.le_of_ble_eq_true rfl⟩ rfl (Nat.le_of_ble_eq_true rfl) ⟨Nat.le_of_ble_eq_true rfl, Nat.le_of_ble_eq_true rfl⟩ rfl dX6_readName_44 (fun r0 q0 => c_Bk_planetNamed l w fl _ _ _ _ q0) (fun r30 er30 nr30 => ?_)
        exact j_sub [1] rfl (hj8 _ _)
      · refine j_aload_n C dX6_readName_28 (i := 0) rfl rfl ?_
        refine j_getR C g_X6_25 dX6_readName_29 (fun v31 ev31 => ?_)
        refine j_lload_n C dX6_readName_32 (i := 2) rfl rfl ?_
        refine j_callVi C (As := [.long _]) (rest := [_]) k_X6_139 ⟨Nat.le_of_ble_eq_true rfl, Nat.le_of_ble_eq_true rfl⟩ rfl (Nat.le_of_ble_eq_true rfl) ⟨Nat.le_of_ble_eq_true rfl, Nat.le_of_ble_eq_true rfl⟩ rfl dX6_readName_33 (fun r0 q0 => c_Bk_alphabetNamed l w fl _ _ _ _ q0) (fun r32 er32 nr32 => ?_)
        refine j_goto C (tgt := 47) dX6_readName_36 (by decide) ?_
        exact j_sub [1] rfl (hj8 _ _)
def f_Rd_readOfTwo (w : hp_W) (fl : Nat) (a0 : Nat) (h : hp_M) : Option (Int32 × hp_M) := (gR h a0 5 0).bind fun v1 => (onO h v1 6 (f_Sc_kind w v1 h)).bind fun r2 => (f_Kd_step w r2 h).bind fun r3 => (gR h a0 5 0).bind fun v4 => (onO h v4 6 (f_Sc_takeAny v4 h)).bind fun r5 => if r5.1 = 0 then (some (0, r5.2)) else ((onO r5.2 a0 5 (f_Rd_readName w fl a0 0 r5.2)).bind fun r7 => if r7.1 = 0 then (some (0, r7.2)) else ((gI r7.2 a0 5 5).bind fun v9 => (gR r7.2 a0 5 0).bind fun v10 => (onO r7.2 v10 6 (f_Sc_start v10 r7.2)).bind fun r11 => (onO r7.2 a0 5 (f_Rd_readName w fl a0 0 r7.2)).bind fun r12 => if r12.1 = 0 then (some (0, r12.2)) else (jn (fun (h17 : hp_M) => (gI h17 a0 5 5).bind fun v18 => (onO h17 a0 5 (f_Rd_write a0 r3 v9 v18 h17)).bind fun r19 => some (r19.1, r19.2)) fun (j16 : hp_M → Option (Int32 × hp_M)) => (gI r12.2 a0 5 5).bind fun v20 => if v20 = v9 then ((onO r12.2 a0 5 (f_Rd_blame a0 6 r11 r12.2)).bind fun h22 => j16 h22) else (j16 r12.2))))
set_option maxRecDepth 100000 in
set_option maxHeartbeats 4000000 in
theorem c_Rd_readOfTwo (l : Launch) (w : hp_W) (fl : Nat) (a0 : Nat) (h : hp_M) (out : Int32 × hp_M) (hX : f_Rd_readOfTwo w fl a0 h = some out) : CT l w yX6_readOfTwo cX6_readOfTwo 4 (some .boolean) ({ frames := 2, cells := 0, slots := 0, locals := 46 }) [.ref a0] h (some (.int out.1)) out.2 := by
  unfold f_Rd_readOfTwo at hX
  refine ct_of (by decide +kernel) (Nat.le_of_ble_eq_true rfl) hX ?_
  intro p e s m args below meth c Q C hr hlk hnm hQ
  refine j_aload_n C dX6_readOfTwo_0 (i := 0) rfl rfl ?_
  refine j_getR C g_X6_21 dX6_readOfTwo_1 (fun v1 ev1 => ?_)
  refine j_callVr C (As := []) (rest := []) k_X6_243 ⟨Nat.le_of_ble_eq_true rfl, Nat.le_of_ble_eq_true rfl⟩ rfl (Nat.le_of_ble_eq_true rfl) ⟨Nat.le_of_ble_eq_true rfl, Nat.le_of_ble_eq_true rfl⟩ rfl dX6_readOfTwo_4 (fun r0 q0 => c_Sc_kind l w _ _ _ q0) (fun r2 er2 nr2 => ?_)
  refine j_callO C (As := []) (rest := []) k_X6_247 ⟨Nat.le_of_ble_eq_true rfl, Nat.le_of_ble_eq_true rfl⟩ rfl (Nat.le_of_ble_eq_true rfl) ⟨Nat.le_of_ble_eq_true rfl, Nat.le_of_ble_eq_true rfl⟩ rfl dX6_readOfTwo_7 (fun r0 q0 => by obtain ⟨v9, h9, -⟩ := Option.bind_eq_some_iff.mp (show (kStep w _).bind _ = some _ from q0); obtain ⟨i9, g9, -⟩ := Option.bind_eq_some_iff.mp (show (kx w _).bind _ = some _ from h9); exact kd_O C g9) (fun r0 q0 => c_Kd_step l w _ _ _ q0) (fun r3 er3 _ => ?_)
  refine j_istore_n C [(1, _), (0, _)] dX6_readOfTwo_10 (i := 1) rfl (by decide) rfl ?_
  refine j_aload_n C dX6_readOfTwo_11 (i := 0) rfl rfl ?_
  refine j_getR C g_X6_21 dX6_readOfTwo_12 (fun v4 ev4 => ?_)
  refine j_callVim C (As := []) (rest := []) k_X6_253 ⟨Nat.le_of_ble_eq_true rfl, Nat.le_of_ble_eq_true rfl⟩ rfl (Nat.le_of_ble_eq_true rfl) ⟨Nat.le_of_ble_eq_true rfl, Nat.le_of_ble_eq_true rfl⟩ rfl dX6_readOfTwo_15 (fun r0 q0 => c_Sc_takeAny l w _ _ _ q0) (fun r5 er5 nr5 => ?_)
  refine j_ifeq C (tgt := 29) dX6_readOfTwo_18 (by decide) (fun q6 => ?_) (fun q6 => ?_)
  · refine j_iconst C (v := 0) dX6_readOfTwo_29 (by decide) ?_
    exact e_iretM C hQ hr rfl hlk dX6_readOfTwo_30 (Nat.le_of_ble_eq_true rfl) (Nat.le_of_ble_eq_true rfl)
  · refine j_aload_n C dX6_readOfTwo_21 (i := 0) rfl rfl ?_
    refine j_iconst C (v := 0) dX6_readOfTwo_22 (by decide) ?_
    refine j_callVim C (As := [.int _]) (rest := []) k_X6_192 ⟨Nat.le_of_ble_eq_true rfl, Nat.le_of_ble_eq_true rfl⟩ rfl (Nat.le_of_ble_eq_true rfl) ⟨Nat.le_of_ble_eq_true rfl, Nat.le_of_ble_eq_true rfl⟩ rfl dX6_readOfTwo_23 (fun r0 q0 => c_Rd_readName l w fl _ _ _ _ q0) (fun r7 er7 nr7 => ?_)
    refine j_ifne C (tgt := 31) dX6_readOfTwo_26 (by decide) (fun q8 => ?_) (fun q8 => ?_)
    · refine j_iconst C (v := 0) dX6_readOfTwo_29 (by decide) ?_
      exact e_iretM C hQ hr rfl hlk dX6_readOfTwo_30 (Nat.le_of_ble_eq_true rfl) (Nat.le_of_ble_eq_true rfl)
    · refine j_aload_n C dX6_readOfTwo_31 (i := 0) rfl rfl ?_
      refine j_getI C g_X6_115 dX6_readOfTwo_32 (fun v9 ev9 => ?_)
      refine j_istore_n C [(2, _), (1, _), (0, _)] dX6_readOfTwo_35 (i := 2) rfl (by decide) rfl ?_
      refine j_aload_n C dX6_readOfTwo_36 (i := 0) rfl rfl ?_
      refine j_getR C g_X6_21 dX6_readOfTwo_37 (fun v10 ev10 => ?_)
      refine j_callVi C (As := []) (rest := []) k_X6_73 ⟨Nat.le_of_ble_eq_true rfl, Nat.le_of_ble_eq_true rfl⟩ rfl (Nat.le_of_ble_eq_true rfl) ⟨Nat.le_of_ble_eq_true rfl, Nat.le_of_ble_eq_true rfl⟩ rfl dX6_readOfTwo_40 (fun r0 q0 => c_Sc_start l w _ _ _ q0) (fun r11 er11 nr11 => ?_)
      refine j_istore_n C [(3, _), (2, _), (1, _), (0, _)] dX6_readOfTwo_43 (i := 3) rfl (by decide) rfl ?_
      refine j_aload_n C dX6_readOfTwo_44 (i := 0) rfl rfl ?_
      refine j_iconst C (v := 0) dX6_readOfTwo_45 (by decide) ?_
      refine j_callVim C (As := [.int _]) (rest := []) k_X6_192 ⟨Nat.le_of_ble_eq_true rfl, Nat.le_of_ble_eq_true rfl⟩ rfl (Nat.le_of_ble_eq_true rfl) ⟨Nat.le_of_ble_eq_true rfl, Nat.le_of_ble_eq_true rfl⟩ rfl dX6_readOfTwo_46 (fun r0 q0 => c_Rd_readName l w fl _ _ _ _ q0) (fun r12 er12 nr12 => ?_)
      refine j_ifne C (tgt := 54) dX6_readOfTwo_49 (by decide) (fun q13 => ?_) (fun q13 => ?_)
      · refine j_iconst C (v := 0) dX6_readOfTwo_52 (by decide) ?_
        exact e_iretM C hQ hr rfl hlk dX6_readOfTwo_53 (Nat.le_of_ble_eq_true rfl) (Nat.le_of_ble_eq_true rfl)
      · refine j_jn (P := fun (j16 : hp_M → Option (Int32 × hp_M)) => ∀ (h17 : hp_M), J p l e ({ frames := 2, cells := 0, slots := 0, locals := 46 }) s m args below meth c Q w 4 0 0 69 [(0, .ref a0), (1, .int r3), (2, .int v9)] [] h17 (j16 h17) out) ?_ (fun j16 hj16 => ?_)
        · intro h17
          refine j_aload_n C dX6_readOfTwo_69 (i := 0) rfl rfl ?_
          refine j_iload_n C dX6_readOfTwo_70 (i := 1) rfl rfl ?_
          refine j_iload_n C dX6_readOfTwo_71 (i := 2) rfl rfl ?_
          refine j_aload_n C dX6_readOfTwo_72 (i := 0) rfl rfl ?_
          refine j_getI C g_X6_115 dX6_readOfTwo_73 (fun v18 ev18 => ?_)
          refine j_callVim C (As := [.int _, .int _, .int _]) (rest := []) k_X6_211 ⟨Nat.le_of_ble_eq_true rfl, Nat.le_of_ble_eq_true rfl⟩ rfl (Nat.le_of_ble_eq_true rfl) ⟨Nat.le_of_ble_eq_true rfl, Nat.le_of_ble_eq_true rfl⟩ rfl dX6_readOfTwo_76 (fun r0 q0 => c_Rd_write l w _ _ _ _ _ _ q0) (fun r19 er19 nr19 => ?_)
          exact e_iretM C hQ hr (nr19 _ _ rfl rfl) hlk dX6_readOfTwo_79 (Nat.le_of_ble_eq_true rfl) (Nat.le_of_ble_eq_true rfl)
        · refine j_aload_n C dX6_readOfTwo_54 (i := 0) rfl rfl ?_
          refine j_getI C g_X6_115 dX6_readOfTwo_55 (fun v20 ev20 => ?_)
          refine j_iload_n C dX6_readOfTwo_58 (i := 2) rfl rfl ?_
          refine j_icmpne C (tgt := 69) dX6_readOfTwo_59 (by decide) (fun q21 => ?_) (fun q21 => ?_)
          · refine j_aload_n C dX6_readOfTwo_62 (i := 0) rfl rfl ?_
            refine j_bipush C (v := 6) dX6_readOfTwo_63 (by decide) ?_
            refine j_iload_n C dX6_readOfTwo_65 (i := 3) rfl rfl ?_
            refine j_callVv C (As := [.int _, .int _]) (rest := []) k_X6_167 ⟨Nat.le_of_ble_eq_true rfl, Nat.le_of_ble_eq_true rfl⟩ rfl (Nat.le_of_ble_eq_true rfl) ⟨Nat.le_of_ble_eq_true rfl, Nat.le_of_ble_eq_true rfl⟩ rfl dX6_readOfTwo_66 (fun r0 q0 => c_Rd_blame l w _ _ _ _ _ q0) (fun h22 eh22 _ => ?_)
            exact j_sub [3, 2, 1] rfl (hj16 _)
          · exact j_sub [3, 2, 1] rfl (hj16 _)
