def f_SS_init (fl : Nat) (a0 : Nat) (h : hp_M) : Option (hp_M) := (f_Tp_init h.2 (hN h (oC 8 [.null, .int 0]))).bind fun h1 => (pF h1 a0 9 0 (.ref h.2)).bind fun h2 => (f_Sk_init fl h2.2 (hN h2 (oC 7 [.null, .int 0, .null, .null, .int 0]))).bind fun h3 => (pF h3 a0 9 2 (.ref h2.2)).bind fun h4 => (f_Sk_init fl h4.2 (hN h4 (oC 7 [.null, .int 0, .null, .null, .int 0]))).bind fun h5 => (pF h5 a0 9 3 (.ref h4.2)).bind fun h6 => (f_Bk_init fl h6.2 (hN h6 (oC 1 [.null, .null, .int 0, .null, .null, .int 0, .null, .null, .null, .null, .null, .int 0]))).bind fun h7 => (pF h7 a0 9 4 (.ref h6.2)).bind fun h8 => (f_Bk_init fl h8.2 (hN h8 (oC 1 [.null, .null, .int 0, .null, .null, .int 0, .null, .null, .null, .null, .null, .int 0]))).bind fun h9 => (pF h9 a0 9 5 (.ref h8.2)).bind fun h10 => (gR (hN h10 (oC 5 [.null, .null, .null, .int 0, .int 0, .int 0])) a0 9 0).bind fun v11 => (gR (hN h10 (oC 5 [.null, .null, .null, .int 0, .int 0, .int 0])) a0 9 5).bind fun v12 => (f_Rd_init h10.2 v11 v12 (hN h10 (oC 5 [.null, .null, .null, .int 0, .int 0, .int 0]))).bind fun h13 => (pF h13 a0 9 1 (.ref h10.2)).bind fun h14 => (pF h14 a0 9 6 (.int (-1))).bind fun h15 => some h15
set_option maxRecDepth 100000 in
set_option maxHeartbeats 4000000 in
theorem c_SS_init (l : Launch) (w : hp_W) (fl : Nat) (a0 : Nat) (h : hp_M) (out : hp_M) (hX : f_SS_init fl a0 h = some out) : CT l w yX10_init cX10_init 1 none ({ frames := 3, cells := 105, slots := 9072, locals := 75 }) [.ref a0] h none out := by
  unfold f_SS_init at hX
  refine ct_of (by decide +kernel) (Nat.le_of_ble_eq_true rfl) hX ?_
  intro p e s m args below meth c Q C hr hlk hnm hQ
  refine j_aload_n C dX10_init_0 (i := 0) rfl rfl ?_
  refine j_objInit C k_X10_1 k_oi k_oc dX10_init_1 (Nat.le_of_ble_eq_true rfl) (Nat.le_of_ble_eq_true rfl) ?_
  refine j_aload_n C dX10_init_4 (i := 0) rfl rfl ?_
  refine j_new C n_X10_7 (Nat.le_of_ble_eq_true rfl) (Nat.le_of_ble_eq_true rfl) dX10_init_5 ?_
  refine j_dup C dX10_init_8 rfl ?_
  refine j_callIN C (As := []) (rest := [_, _]) k_X10_9 ⟨Nat.le_of_ble_eq_true rfl, Nat.le_of_ble_eq_true rfl⟩ rfl (Nat.le_of_ble_eq_true rfl) ⟨Nat.le_of_ble_eq_true rfl, Nat.le_of_ble_eq_true rfl⟩ rfl dX10_init_9 (fun r0 q0 => c_Tp_init l w _ _ _ q0) (fun h1 eh1 => ?_)
  refine j_putR C p_X10_10 (fun _ => hnm) dX10_init_12 rfl rfl (fun h2 eh2 => ?_)
  refine j_aload_n C dX10_init_15 (i := 0) rfl rfl ?_
  refine j_new C n_X10_16 (Nat.le_of_ble_eq_true rfl) (Nat.le_of_ble_eq_true rfl) dX10_init_16 ?_
  refine j_dup C dX10_init_19 rfl ?_
  refine j_callI C (As := []) (rest := [_, _]) k_X10_18 ⟨Nat.le_of_ble_eq_true rfl, Nat.le_of_ble_eq_true rfl⟩ rfl (Nat.le_of_ble_eq_true rfl) ⟨Nat.le_of_ble_eq_true rfl, Nat.le_of_ble_eq_true rfl⟩ rfl dX10_init_20 (fun r0 q0 => c_Sk_init l w fl _ _ _ q0) (fun h3 eh3 => ?_)
  refine j_putR C p_X10_19 (fun _ => hnm) dX10_init_23 rfl rfl (fun h4 eh4 => ?_)
  refine j_aload_n C dX10_init_26 (i := 0) rfl rfl ?_
  refine j_new C n_X10_16 (Nat.le_of_ble_eq_true rfl) (Nat.le_of_ble_eq_true rfl) dX10_init_27 ?_
  refine j_dup C dX10_init_30 rfl ?_
  refine j_callI C (As := []) (rest := [_, _]) k_X10_18 ⟨Nat.le_of_ble_eq_true rfl, Nat.le_of_ble_eq_true rfl⟩ rfl (Nat.le_of_ble_eq_true rfl) ⟨Nat.le_of_ble_eq_true rfl, Nat.le_of_ble_eq_true rfl⟩ rfl dX10_init_31 (fun r0 q0 => c_Sk_init l w fl _ _ _ q0) (fun h5 eh5 => ?_)
  refine j_putR C p_X10_23 (fun _ => hnm) dX10_init_34 rfl rfl (fun h6 eh6 => ?_)
  refine j_aload_n C dX10_init_37 (i := 0) rfl rfl ?_
  refine j_new C n_X10_26 (Nat.le_of_ble_eq_true rfl) (Nat.le_of_ble_eq_true rfl) dX10_init_38 ?_
  refine j_dup C dX10_init_41 rfl ?_
  refine j_callI C (As := []) (rest := [_, _]) k_X10_28 ⟨Nat.le_of_ble_eq_true rfl, Nat.le_of_ble_eq_true rfl⟩ rfl (Nat.le_of_ble_eq_true rfl) ⟨Nat.le_of_ble_eq_true rfl, Nat.le_of_ble_eq_true rfl⟩ rfl dX10_init_42 (fun r0 q0 => c_Bk_init l w fl _ _ _ q0) (fun h7 eh7 => ?_)
  refine j_putR C p_X10_29 (fun q => nomatch q) dX10_init_45 rfl rfl (fun h8 eh8 => ?_)
  refine j_aload_n C dX10_init_48 (i := 0) rfl rfl ?_
  refine j_new C n_X10_26 (Nat.le_of_ble_eq_true rfl) (Nat.le_of_ble_eq_true rfl) dX10_init_49 ?_
  refine j_dup C dX10_init_52 rfl ?_
  refine j_callI C (As := []) (rest := [_, _]) k_X10_28 ⟨Nat.le_of_ble_eq_true rfl, Nat.le_of_ble_eq_true rfl⟩ rfl (Nat.le_of_ble_eq_true rfl) ⟨Nat.le_of_ble_eq_true rfl, Nat.le_of_ble_eq_true rfl⟩ rfl dX10_init_53 (fun r0 q0 => c_Bk_init l w fl _ _ _ q0) (fun h9 eh9 => ?_)
  refine j_putR C p_X10_33 (fun q => nomatch q) dX10_init_56 rfl rfl (fun h10 eh10 => ?_)
  refine j_aload_n C dX10_init_59 (i := 0) rfl rfl ?_
  refine j_new C n_X10_36 (Nat.le_of_ble_eq_true rfl) (Nat.le_of_ble_eq_true rfl) dX10_init_60 ?_
  refine j_dup C dX10_init_63 rfl ?_
  refine j_aload_n C dX10_init_64 (i := 0) rfl rfl ?_
  refine j_getR C g_X10_10 dX10_init_65 (fun v11 ev11 => ?_)
  refine j_aload_n C dX10_init_68 (i := 0) rfl rfl ?_
  refine j_getR C g_X10_33 dX10_init_69 (fun v12 ev12 => ?_)
  refine j_callI C (As := [.ref _, .ref _]) (rest := [_, _]) k_X10_38 ⟨Nat.le_of_ble_eq_true rfl, Nat.le_of_ble_eq_true rfl⟩ rfl (Nat.le_of_ble_eq_true rfl) ⟨Nat.le_of_ble_eq_true rfl, Nat.le_of_ble_eq_true rfl⟩ rfl dX10_init_72 (fun r0 q0 => c_Rd_init l w _ _ _ _ _ q0) (fun h13 eh13 => ?_)
  refine j_putR C p_X10_41 (fun _ => hnm) dX10_init_75 rfl rfl (fun h14 eh14 => ?_)
  refine j_aload_n C dX10_init_78 (i := 0) rfl rfl ?_
  refine j_iconst C (v := -1) dX10_init_79 (by decide) ?_
  refine j_putI C p_X10_45 (fun q => nomatch q) dX10_init_80 (fun h15 eh15 => ?_)
  exact e_vretM C hQ hr hlk dX10_init_83 (Nat.le_of_ble_eq_true rfl) (Nat.le_of_ble_eq_true rfl)
def f_SS_feed (a0 : Nat) (x1 : Int32) (x2 : Int32) (x3 : Int32) (x4 : Int32) (x5 : Int32) (h : hp_M) : Option (Nat × Int32 × hp_M) := (gR h a0 9 0).bind fun v1 => (onO h v1 8 (f_Tp_hasRoomFor v1 20 h)).bind fun r2 => if r2 = 0 then (some (1, (0 : Int32), ((h.1, h.2 + 1) : hp_M))) else ((gR h a0 9 0).bind fun v4 => (onO h v4 8 (f_Tp_appendNumber v4 x1 h)).bind fun h5 => (gR h5 a0 9 0).bind fun v6 => (onO h5 v6 8 (f_Tp_appendNumber v6 x2 h5)).bind fun h7 => (gR h7 a0 9 0).bind fun v8 => (onO h7 v8 8 (f_Tp_appendNumber v8 x3 h7)).bind fun h9 => (gR h9 a0 9 0).bind fun v10 => (onO h9 v10 8 (f_Tp_appendNumber v10 x4 h9)).bind fun h11 => (gR h11 a0 9 0).bind fun v12 => (onO h11 v12 8 (f_Tp_appendNumber v12 x5 h11)).bind fun h13 => (gR h13 a0 9 0).bind fun v14 => (onO h13 v14 8 (f_Tp_size v14 h13)).bind fun r15 => some (0, r15, h13))
set_option maxRecDepth 100000 in
set_option maxHeartbeats 4000000 in
theorem c_SS_feed (l : Launch) (w : hp_W) (hst : l.stackTraces = false) (a0 : Nat) (x1 : Int32) (x2 : Int32) (x3 : Int32) (x4 : Int32) (x5 : Int32) (h : hp_M) (out : Nat × Int32 × hp_M) (hX : f_SS_feed a0 x1 x2 x3 x4 x5 h = some out) : CX l w yX10_feed cX10_feed 6 .int ({ frames := 6, cells := 1, slots := 6, locals := 200 }) [.ref a0, .int x1, .int x2, .int x3, .int x4, .int x5] h out := by
  unfold f_SS_feed at hX
  refine cx_of (by decide) (Nat.le_of_ble_eq_true rfl) hX ?_
  intro p e s m args below meth c Q C hr hlk hno hQ
  refine j_aload_n C dX10_feed_0 (i := 0) rfl rfl ?_
  refine j_getR C g_X10_10 dX10_feed_1 (fun v1 ev1 => ?_)
  refine j_bipush C (v := 20) dX10_feed_4 (by decide) ?_
  refine j_callVi C (As := [.int _]) (rest := []) k_X10_49 ⟨Nat.le_of_ble_eq_true rfl, Nat.le_of_ble_eq_true rfl⟩ rfl (Nat.le_of_ble_eq_true rfl) ⟨Nat.le_of_ble_eq_true rfl, Nat.le_of_ble_eq_true rfl⟩ rfl dX10_feed_6 (fun r0 q0 => c_Tp_hasRoomFor l w _ _ _ _ q0) (fun r2 er2 nr2 => ?_)
  refine j_ifne C (tgt := 22) dX10_feed_9 (by decide) (fun q3 => ?_) (fun q3 => ?_)
  · exact j_throw C (own := RX10) (text := "the tape is full") hst hno hlk hQ tf_1 tk_1 ti_1 (by decide +kernel) tw_1 tg_1 dX10_feed_12 dX10_feed_15 dX10_feed_16 dX10_feed_18 dX10_feed_21 (Nat.le_of_ble_eq_true rfl) (Nat.le_of_ble_eq_true rfl) (Nat.le_of_ble_eq_true rfl) (Nat.le_of_ble_eq_true rfl) ⟨by decide, rfl⟩
  · refine j_aload_n C dX10_feed_22 (i := 0) rfl rfl ?_
    refine j_getR C g_X10_10 dX10_feed_23 (fun v4 ev4 => ?_)
    refine j_iload_n C dX10_feed_26 (i := 1) rfl rfl ?_
    refine j_callVv C (As := [.int _]) (rest := []) k_X10_60 ⟨Nat.le_of_ble_eq_true rfl, Nat.le_of_ble_eq_true rfl⟩ rfl (Nat.le_of_ble_eq_true rfl) ⟨Nat.le_of_ble_eq_true rfl, Nat.le_of_ble_eq_true rfl⟩ rfl dX10_feed_27 (fun r0 q0 => c_Tp_appendNumber l w _ _ _ _ q0) (fun h5 eh5 _ => ?_)
    refine j_aload_n C dX10_feed_30 (i := 0) rfl rfl ?_
    refine j_getR C g_X10_10 dX10_feed_31 (fun v6 ev6 => ?_)
    refine j_iload_n C dX10_feed_34 (i := 2) rfl rfl ?_
    refine j_callVv C (As := [.int _]) (rest := []) k_X10_60 ⟨Nat.le_of_ble_eq_true rfl, Nat.le_of_ble_eq_true rfl⟩ rfl (Nat.le_of_ble_eq_true rfl) ⟨Nat.le_of_ble_eq_true rfl, Nat.le_of_ble_eq_true rfl⟩ rfl dX10_feed_35 (fun r0 q0 => c_Tp_appendNumber l w _ _ _ _ q0) (fun h7 eh7 _ => ?_)
    refine j_aload_n C dX10_feed_38 (i := 0) rfl rfl ?_
    refine j_getR C g_X10_10 dX10_feed_39 (fun v8 ev8 => ?_)
    refine j_iload_n C dX10_feed_42 (i := 3) rfl rfl ?_
    refine j_callVv C (As := [.int _]) (rest := []) k_X10_60 ⟨Nat.le_of_ble_eq_true rfl, Nat.le_of_ble_eq_true rfl⟩ rfl (Nat.le_of_ble_eq_true rfl) ⟨Nat.le_of_ble_eq_true rfl, Nat.le_of_ble_eq_true rfl⟩ rfl dX10_feed_43 (fun r0 q0 => c_Tp_appendNumber l w _ _ _ _ q0) (fun h9 eh9 _ => ?_)
    refine j_aload_n C dX10_feed_46 (i := 0) rfl rfl ?_
    refine j_getR C g_X10_10 dX10_feed_47 (fun v10 ev10 => ?_)
    refine j_iload C dX10_feed_50 rfl ?_
    refine j_callVv C (As := [.int _]) (rest := []) k_X10_60 ⟨Nat.le_of_ble_eq_true rfl, Nat.le_of_ble_eq_true rfl⟩ rfl (Nat.le_of_ble_eq_true rfl) ⟨Nat.le_of_ble_eq_true rfl, Nat.le_of_ble_eq_true rfl⟩ rfl dX10_feed_52 (fun r0 q0 => c_Tp_appendNumber l w _ _ _ _ q0) (fun h11 eh11 _ => ?_)
    refine j_aload_n C dX10_feed_55 (i := 0) rfl rfl ?_
    refine j_getR C g_X10_10 dX10_feed_56 (fun v12 ev12 => ?_)
    refine j_iload C dX10_feed_59 rfl ?_
    refine j_callVv C (As := [.int _]) (rest := []) k_X10_60 ⟨Nat.le_of_ble_eq_true rfl, Nat.le_of_ble_eq_true rfl⟩ rfl (Nat.le_of_ble_eq_true rfl) ⟨Nat.le_of_ble_eq_true rfl, Nat.le_of_ble_eq_true rfl⟩ rfl dX10_feed_61 (fun r0 q0 => c_Tp_appendNumber l w _ _ _ _ q0) (fun h13 eh13 _ => ?_)
    refine j_aload_n C dX10_feed_64 (i := 0) rfl rfl ?_
    refine j_getR C g_X10_10 dX10_feed_65 (fun v14 ev14 => ?_)
    refine j_callVi C (As := []) (rest := []) k_X10_64 ⟨Nat.le_of_ble_eq_true rfl, Nat.le_of_ble_eq_true rfl⟩ rfl (Nat.le_of_ble_eq_true rfl) ⟨Nat.le_of_ble_eq_true rfl, Nat.le_of_ble_eq_true rfl⟩ rfl dX10_feed_68 (fun r0 q0 => c_Tp_size l w _ _ _ q0) (fun r15 er15 nr15 => ?_)
    exact e_iretX C hQ hr rfl hlk dX10_feed_71 (Nat.le_of_ble_eq_true rfl) (Nat.le_of_ble_eq_true rfl)
def f_SS_trim (a0 : Nat) (x1 : Int32) (h : hp_M) : Option (Nat × Int32 × hp_M) := jn (some (2, (0 : Int32), ((h.1, h.2 + 1) : hp_M))) fun (j3 : Option (Nat × Int32 × hp_M)) => if x1 < 0 then (j3) else ((gR h a0 9 0).bind fun v5 => (onO h v5 8 (f_Tp_size v5 h)).bind fun r6 => if x1 ≤ r6 then ((gR h a0 9 0).bind fun v8 => (onO h v8 8 (f_Tp_keepFirst v8 x1 h)).bind fun h9 => some (0, x1, h9)) else (j3))
set_option maxRecDepth 100000 in
set_option maxHeartbeats 4000000 in
theorem c_SS_trim (l : Launch) (w : hp_W) (hst : l.stackTraces = false) (a0 : Nat) (x1 : Int32) (h : hp_M) (out : Nat × Int32 × hp_M) (hX : f_SS_trim a0 x1 h = some out) : CX l w yX10_trim cX10_trim 2 .int ({ frames := 6, cells := 1, slots := 6, locals := 200 }) [.ref a0, .int x1] h out := by
  unfold f_SS_trim at hX
  refine cx_of (by decide) (Nat.le_of_ble_eq_true rfl) hX ?_
  intro p e s m args below meth c Q C hr hlk hno hQ
  refine j_jn (P := fun j3 => J p l e ({ frames := 6, cells := 1, slots := 6, locals := 200 }) s m args below meth c Q w 2 0 0 15 [] [] h (j3) out) ?_ (fun j3 hj3 => ?_)
  · exact j_throw C (own := RX10) (text := "the tape has not so many bytes") hst hno hlk hQ tf_2 tk_2 ti_2 (by decide +kernel) tw_2 tg_2 dX10_trim_15 dX10_trim_18 dX10_trim_19 dX10_trim_21 dX10_trim_24 (Nat.le_of_ble_eq_true rfl) (Nat.le_of_ble_eq_true rfl) (Nat.le_of_ble_eq_true rfl) (Nat.le_of_ble_eq_true rfl) ⟨by decide, rfl⟩
  · refine j_iload_n C dX10_trim_0 (i := 1) rfl rfl ?_
    refine j_iflt C (tgt := 15) dX10_trim_1 (by decide) (fun q4 => ?_) (fun q4 => ?_)
    · exact j_sub [] rfl (hj3)
    · refine j_iload_n C dX10_trim_4 (i := 1) rfl rfl ?_
      refine j_aload_n C dX10_trim_5 (i := 0) rfl rfl ?_
      refine j_getR C g_X10_10 dX10_trim_6 (fun v5 ev5 => ?_)
      refine j_callVi C (As := []) (rest := [_]) k_X10_64 ⟨Nat.le_of_ble_eq_true rfl, Nat.le_of_ble_eq_true rfl⟩ rfl (Nat.le_of_ble_eq_true rfl) ⟨Nat.le_of_ble_eq_true rfl, Nat.le_of_ble_eq_true rfl⟩ rfl dX10_trim_9 (fun r0 q0 => c_Tp_size l w _ _ _ q0) (fun r6 er6 nr6 => ?_)
      refine j_icmple C (tgt := 25) dX10_trim_12 (by decide) (fun q7 => ?_) (fun q7 => ?_)
      · refine j_aload_n C dX10_trim_25 (i := 0) rfl rfl ?_
        refine j_getR C g_X10_10 dX10_trim_26 (fun v8 ev8 => ?_)
        refine j_iload_n C dX10_trim_29 (i := 1) rfl rfl ?_
        refine j_callVv C (As := [.int _]) (rest := []) k_X10_73 ⟨Nat.le_of_ble_eq_true rfl, Nat.le_of_ble_eq_true rfl⟩ rfl (Nat.le_of_ble_eq_true rfl) ⟨Nat.le_of_ble_eq_true rfl, Nat.le_of_ble_eq_true rfl⟩ rfl dX10_trim_30 (fun r0 q0 => c_Tp_keepFirst l w _ _ _ _ q0) (fun h9 eh9 _ => ?_)
        refine j_iload_n C dX10_trim_33 (i := 1) rfl rfl ?_
        exact e_iretX C hQ hr rfl hlk dX10_trim_34 (Nat.le_of_ble_eq_true rfl) (Nat.le_of_ble_eq_true rfl)
      · exact j_sub [] rfl (hj3)
def f_SS_teach (w : hp_W) (fl : Nat) (a0 : Nat) (h : hp_M) : Option (Int32 × hp_M) := (gR h a0 9 1).bind fun v1 => (gR h a0 9 5).bind fun v2 => (onO h v1 5 (f_Rd_readInto w fl v1 v2 h)).bind fun r3 => (gR r3.2 a0 9 1).bind fun v4 => (onO r3.2 v4 5 (f_Rd_placeOfError v4 r3.2)).bind fun r5 => (pF r3.2 a0 9 6 (.int r5)).bind fun h6 => (gR h6 a0 9 0).bind fun v7 => (onO h6 v7 8 (f_Tp_keepFirst v7 0 h6)).bind fun h8 => if r3.1 = 0 then ((gR h8 a0 9 4).bind fun v10 => (gR h8 a0 9 5).bind fun v11 => (pF h8 a0 9 4 (.ref v11)).bind fun h12 => (pF h12 a0 9 5 (.ref v10)).bind fun h13 => (gR h13 a0 9 2).bind fun v14 => (gR h13 a0 9 4).bind fun v15 => (onO h13 v14 7 (f_Sk_startWith fl v14 v15 h13)).bind fun h16 => some (r3.1, h16)) else (some (r3.1, h8))
set_option maxRecDepth 100000 in
set_option maxHeartbeats 4000000 in
theorem c_SS_teach (l : Launch) (w : hp_W) (fl : Nat) (a0 : Nat) (h : hp_M) (out : Int32 × hp_M) (hX : f_SS_teach w fl a0 h = some out) : CT l w yX10_teach cX10_teach 3 (some .int) ({ frames := 135, cells := 0, slots := 0, locals := 3039 }) [.ref a0] h (some (.int out.1)) out.2 := by
  unfold f_SS_teach at hX
  refine ct_of (by decide +kernel) (Nat.le_of_ble_eq_true rfl) hX ?_
  intro p e s m args below meth c Q C hr hlk hnm hQ
  refine j_aload_n C dX10_teach_0 (i := 0) rfl rfl ?_
  refine j_getR C g_X10_41 dX10_teach_1 (fun v1 ev1 => ?_)
  refine j_aload_n C dX10_teach_4 (i := 0) rfl rfl ?_
  refine j_getR C g_X10_33 dX10_teach_5 (fun v2 ev2 => ?_)
  refine j_callVim C (As := [.ref _]) (rest := []) k_X10_76 ⟨Nat.le_of_ble_eq_true rfl, Nat.le_of_ble_eq_true rfl⟩ rfl (Nat.le_of_ble_eq_true rfl) ⟨Nat.le_of_ble_eq_true rfl, Nat.le_of_ble_eq_true rfl⟩ rfl dX10_teach_8 (fun r0 q0 => c_Rd_readInto l w fl _ _ _ _ q0) (fun r3 er3 nr3 => ?_)
  refine j_istore_n C [(1, _), (0, _)] dX10_teach_11 (i := 1) rfl (by decide) rfl ?_
  refine j_aload_n C dX10_teach_12 (i := 0) rfl rfl ?_
  refine j_aload_n C dX10_teach_13 (i := 0) rfl rfl ?_
  refine j_getR C g_X10_41 dX10_teach_14 (fun v4 ev4 => ?_)
  refine j_callVi C (As := []) (rest := [_]) k_X10_80 ⟨Nat.le_of_ble_eq_true rfl, Nat.le_of_ble_eq_true rfl⟩ rfl (Nat.le_of_ble_eq_true rfl) ⟨Nat.le_of_ble_eq_true rfl, Nat.le_of_ble_eq_true rfl⟩ rfl dX10_teach_17 (fun r0 q0 => c_Rd_placeOfError l w _ _ _ q0) (fun r5 er5 nr5 => ?_)
  refine j_putI C p_X10_45 (fun q => nomatch q) dX10_teach_20 (fun h6 eh6 => ?_)
  refine j_aload_n C dX10_teach_23 (i := 0) rfl rfl ?_
  refine j_getR C g_X10_10 dX10_teach_24 (fun v7 ev7 => ?_)
  refine j_iconst C (v := 0) dX10_teach_27 (by decide) ?_
  refine j_callVv C (As := [.int _]) (rest := []) k_X10_73 ⟨Nat.le_of_ble_eq_true rfl, Nat.le_of_ble_eq_true rfl⟩ rfl (Nat.le_of_ble_eq_true rfl) ⟨Nat.le_of_ble_eq_true rfl, Nat.le_of_ble_eq_true rfl⟩ rfl dX10_teach_28 (fun r0 q0 => c_Tp_keepFirst l w _ _ _ _ q0) (fun h8 eh8 _ => ?_)
  refine j_iload_n C dX10_teach_31 (i := 1) rfl rfl ?_
  refine j_ifne C (tgt := 64) dX10_teach_32 (by decide) (fun q9 => ?_) (fun q9 => ?_)
  · refine j_aload_n C dX10_teach_35 (i := 0) rfl rfl ?_
    refine j_getR C g_X10_29 dX10_teach_36 (fun v10 ev10 => ?_)
    refine j_astore_n C [(2, _), (1, _), (0, _)] dX10_teach_39 (i := 2) rfl (by decide) rfl ?_
    refine j_aload_n C dX10_teach_40 (i := 0) rfl rfl ?_
    refine j_aload_n C dX10_teach_41 (i := 0) rfl rfl ?_
    refine j_getR C g_X10_33 dX10_teach_42 (fun v11 ev11 => ?_)
    refine j_putR C p_X10_29 (fun q => nomatch q) dX10_teach_45 rfl rfl (fun h12 eh12 => ?_)
    refine j_aload_n C dX10_teach_48 (i := 0) rfl rfl ?_
    refine j_aload_n C dX10_teach_49 (i := 2) rfl rfl ?_
    refine j_putR C p_X10_33 (fun q => nomatch q) dX10_teach_50 rfl rfl (fun h13 eh13 => ?_)
    refine j_aload_n C dX10_teach_53 (i := 0) rfl rfl ?_
    refine j_getR C g_X10_19 dX10_teach_54 (fun v14 ev14 => ?_)
    refine j_aload_n C dX10_teach_57 (i := 0) rfl rfl ?_
    refine j_getR C g_X10_29 dX10_teach_58 (fun v15 ev15 => ?_)
    refine j_callVv C (As := [.ref _]) (rest := []) k_X10_83 ⟨Nat.le_of_ble_eq_true rfl, Nat.le_of_ble_eq_true rfl⟩ rfl (Nat.le_of_ble_eq_true rfl) ⟨Nat.le_of_ble_eq_true rfl, Nat.le_of_ble_eq_true rfl⟩ rfl dX10_teach_61 (fun r0 q0 => c_Sk_startWith l w fl _ _ _ _ q0) (fun h16 eh16 _ => ?_)
    refine j_iload_n C dX10_teach_64 (i := 1) rfl rfl ?_
    exact e_iretM C hQ hr rfl hlk dX10_teach_65 (Nat.le_of_ble_eq_true rfl) (Nat.le_of_ble_eq_true rfl)
  · refine j_iload_n C dX10_teach_64 (i := 1) rfl rfl ?_
    exact e_iretM C hQ hr rfl hlk dX10_teach_65 (Nat.le_of_ble_eq_true rfl) (Nat.le_of_ble_eq_true rfl)
def f_SS_errorAt (a0 : Nat) (h : hp_M) : Option (Int32) := (gI h a0 9 6).bind fun v1 => some v1
set_option maxRecDepth 100000 in
set_option maxHeartbeats 4000000 in
theorem c_SS_errorAt (l : Launch) (w : hp_W) (a0 : Nat) (h : hp_M) (out : Int32) (hX : f_SS_errorAt a0 h = some out) : CT l w yX10_errorAt cX10_errorAt 1 (some .int) ({ frames := 0, cells := 0, slots := 0, locals := 0 }) [.ref a0] h (some (.int out)) h := by
  unfold f_SS_errorAt at hX
  refine ct_of (by decide +kernel) (Nat.le_of_ble_eq_true rfl) hX ?_
  intro p e s m args below meth c Q C hr hlk hnm hQ
  refine j_aload_n C dX10_errorAt_0 (i := 0) rfl rfl ?_
  refine j_getI C g_X10_45 dX10_errorAt_1 (fun v1 ev1 => ?_)
  exact e_iretR C hQ hr rfl hlk dX10_errorAt_4 (Nat.le_of_ble_eq_true rfl) (Nat.le_of_ble_eq_true rfl)
def f_SS_counted (fl : Nat) (a0 : Nat) (x1 : Int32) (h : hp_M) : Option (Int32) := if x1 = 0 then ((gR h a0 9 2).bind fun v2 => (onO h v2 7 (f_Sk_day v2 h)).bind fun r3 => some r3) else if x1 = 1 then ((gR h a0 9 2).bind fun v5 => (onO h v5 7 (f_Sk_planets v5 h)).bind fun r6 => some r6) else if x1 = 2 then ((gR h a0 9 4).bind fun v8 => (onO h v8 1 (f_Bk_alphabets v8 h)).bind fun r9 => some r9) else if x1 = 3 then ((gR h a0 9 4).bind fun v11 => (onO h v11 1 (f_Bk_rules v11 h)).bind fun r12 => some r12) else if x1 = 4 then ((gR h a0 9 0).bind fun v14 => (onO h v14 8 (f_Tp_size v14 h)).bind fun r15 => some r15) else if x1 = 5 then ((gR h a0 9 2).bind fun v17 => (onO h v17 7 (f_Sk_paper v17 h)).bind fun r18 => (onO h r18 2 (f_Pp_size r18 h)).bind fun r19 => some r19) else if x1 = 6 then ((gR h a0 9 2).bind fun v21 => (onO h v21 7 (f_Sk_retros fl v21 h)).bind fun r22 => some r22) else ((gR h a0 9 2).bind fun v23 => (onO h v23 7 (f_Sk_transits fl v23 h)).bind fun r24 => some r24)
set_option maxRecDepth 100000 in
set_option maxHeartbeats 4000000 in
theorem c_SS_counted (l : Launch) (w : hp_W) (fl : Nat) (a0 : Nat) (x1 : Int32) (h : hp_M) (out : Int32) (hX : f_SS_counted fl a0 x1 h = some out) : CT l w yX10_counted cX10_counted 2 (some .int) ({ frames := 8, cells := 0, slots := 0, locals := 250 }) [.ref a0, .int x1] h (some (.int out)) h := by
  unfold f_SS_counted at hX
  refine ct_of (by decide +kernel) (Nat.le_of_ble_eq_true rfl) hX ?_
  intro p e s m args below meth c Q C hr hlk hnm hQ
  refine j_iload_n C dX10_counted_0 (i := 1) rfl rfl ?_
  refine j_ite (fun q1 => ?_) (fun q1 => ?_)
  · refine j_tin C (tgt := 44) dX10_counted_1 (by rw [q1]; decide) (by rw [q1]; decide) (by rw [q1]; rfl) (by decide) ?_
    refine j_aload_n C dX10_counted_44 (i := 0) rfl rfl ?_
    refine j_getR C g_X10_19 dX10_counted_45 (fun v2 ev2 => ?_)
    refine j_callVi C (As := []) (rest := []) k_X10_206 ⟨Nat.le_of_ble_eq_true rfl, Nat.le_of_ble_eq_true rfl⟩ rfl (Nat.le_of_ble_eq_true rfl) ⟨Nat.le_of_ble_eq_true rfl, Nat.le_of_ble_eq_true rfl⟩ rfl dX10_counted_48 (fun r0 q0 => c_Sk_day l w _ _ _ q0) (fun r3 er3 nr3 => ?_)
    exact e_iretR C hQ hr rfl hlk dX10_counted_51 (Nat.le_of_ble_eq_true rfl) (Nat.le_of_ble_eq_true rfl)
  refine j_ite (fun q4 => ?_) (fun q4 => ?_)
  · refine j_tin C (tgt := 52) dX10_counted_1 (by rw [q4]; decide) (by rw [q4]; decide) (by rw [q4]; rfl) (by decide) ?_
    refine j_aload_n C dX10_counted_52 (i := 0) rfl rfl ?_
    refine j_getR C g_X10_19 dX10_counted_53 (fun v5 ev5 => ?_)
    refine j_callVi C (As := []) (rest := []) k_X10_199 ⟨Nat.le_of_ble_eq_true rfl, Nat.le_of_ble_eq_true rfl⟩ rfl (Nat.le_of_ble_eq_true rfl) ⟨Nat.le_of_ble_eq_true rfl, Nat.le_of_ble_eq_true rfl⟩ rfl dX10_counted_56 (fun r0 q0 => c_Sk_planets l w _ _ _ q0) (fun r6 er6 nr6 => ?_)
    exact e_iretR C hQ hr rfl hlk dX10_counted_59 (Nat.le_of_ble_eq_true rfl) (Nat.le_of_ble_eq_true rfl)
  refine j_ite (fun q7 => ?_) (fun q7 => ?_)
  · refine j_tin C (tgt := 60) dX10_counted_1 (by rw [q7]; decide) (by rw [q7]; decide) (by rw [q7]; rfl) (by decide) ?_
    refine j_aload_n C dX10_counted_60 (i := 0) rfl rfl ?_
    refine j_getR C g_X10_29 dX10_counted_61 (fun v8 ev8 => ?_)
    refine j_callVi C (As := []) (rest := []) k_X10_215 ⟨Nat.le_of_ble_eq_true rfl, Nat.le_of_ble_eq_true rfl⟩ rfl (Nat.le_of_ble_eq_true rfl) ⟨Nat.le_of_ble_eq_true rfl, Nat.le_of_ble_eq_true rfl⟩ rfl dX10_counted_64 (fun r0 q0 => c_Bk_alphabets l w _ _ _ q0) (fun r9 er9 nr9 => ?_)
    exact e_iretR C hQ hr rfl hlk dX10_counted_67 (Nat.le_of_ble_eq_true rfl) (Nat.le_of_ble_eq_true rfl)
  refine j_ite (fun q10 => ?_) (fun q10 => ?_)
  · refine j_tin C (tgt := 68) dX10_counted_1 (by rw [q10]; decide) (by rw [q10]; decide) (by rw [q10]; rfl) (by decide) ?_
    refine j_aload_n C dX10_counted_68 (i := 0) rfl rfl ?_
    refine j_getR C g_X10_29 dX10_counted_69 (fun v11 ev11 => ?_)
    refine j_callVi C (As := []) (rest := []) k_X10_136 ⟨Nat.le_of_ble_eq_true rfl, Nat.le_of_ble_eq_true rfl⟩ rfl (Nat.le_of_ble_eq_true rfl) ⟨Nat.le_of_ble_eq_true rfl, Nat.le_of_ble_eq_true rfl⟩ rfl dX10_counted_72 (fun r0 q0 => c_Bk_rules l w _ _ _ q0) (fun r12 er12 nr12 => ?_)
    exact e_iretR C hQ hr rfl hlk dX10_counted_75 (Nat.le_of_ble_eq_true rfl) (Nat.le_of_ble_eq_true rfl)
  refine j_ite (fun q13 => ?_) (fun q13 => ?_)
  · refine j_tin C (tgt := 76) dX10_counted_1 (by rw [q13]; decide) (by rw [q13]; decide) (by rw [q13]; rfl) (by decide) ?_
    refine j_aload_n C dX10_counted_76 (i := 0) rfl rfl ?_
    refine j_getR C g_X10_10 dX10_counted_77 (fun v14 ev14 => ?_)
    refine j_callVi C (As := []) (rest := []) k_X10_64 ⟨Nat.le_of_ble_eq_true rfl, Nat.le_of_ble_eq_true rfl⟩ rfl (Nat.le_of_ble_eq_true rfl) ⟨Nat.le_of_ble_eq_true rfl, Nat.le_of_ble_eq_true rfl⟩ rfl dX10_counted_80 (fun r0 q0 => c_Tp_size l w _ _ _ q0) (fun r15 er15 nr15 => ?_)
    exact e_iretR C hQ hr rfl hlk dX10_counted_83 (Nat.le_of_ble_eq_true rfl) (Nat.le_of_ble_eq_true rfl)
  refine j_ite (fun q16 => ?_) (fun q16 => ?_)
  · refine j_tin C (tgt := 84) dX10_counted_1 (by rw [q16]; decide) (by rw [q16]; decide) (by rw [q16]; rfl) (by decide) ?_
    refine j_aload_n C dX10_counted_84 (i := 0) rfl rfl ?_
    refine j_getR C g_X10_19 dX10_counted_85 (fun v17 ev17 => ?_)
    refine j_callVr C (As := []) (rest := []) k_X10_150 ⟨Nat.le_of_ble_eq_true rfl, Nat.le_of_ble_eq_true rfl⟩ rfl (Nat.le_of_ble_eq_true rfl) ⟨Nat.le_of_ble_eq_true rfl, Nat.le_of_ble_eq_true rfl⟩ rfl dX10_counted_88 (fun r0 q0 => c_Sk_paper l w _ _ _ q0) (fun r18 er18 nr18 => ?_)
    refine j_callVi C (As := []) (rest := []) k_X10_154 ⟨Nat.le_of_ble_eq_true rfl, Nat.le_of_ble_eq_true rfl⟩ rfl (Nat.le_of_ble_eq_true rfl) ⟨Nat.le_of_ble_eq_true rfl, Nat.le_of_ble_eq_true rfl⟩ rfl dX10_counted_91 (fun r0 q0 => c_Pp_size l w _ _ _ q0) (fun r19 er19 nr19 => ?_)
    exact e_iretR C hQ hr rfl hlk dX10_counted_94 (Nat.le_of_ble_eq_true rfl) (Nat.le_of_ble_eq_true rfl)
  refine j_ite (fun q20 => ?_) (fun q20 => ?_)
  · refine j_tin C (tgt := 95) dX10_counted_1 (by rw [q20]; decide) (by rw [q20]; decide) (by rw [q20]; rfl) (by decide) ?_
    refine j_aload_n C dX10_counted_95 (i := 0) rfl rfl ?_
    refine j_getR C g_X10_19 dX10_counted_96 (fun v21 ev21 => ?_)
    refine j_callVi C (As := []) (rest := []) k_X10_220 ⟨Nat.le_of_ble_eq_true rfl, Nat.le_of_ble_eq_true rfl⟩ rfl (Nat.le_of_ble_eq_true rfl) ⟨Nat.le_of_ble_eq_true rfl, Nat.le_of_ble_eq_true rfl⟩ rfl dX10_counted_99 (fun r0 q0 => c_Sk_retros l w fl _ _ _ q0) (fun r22 er22 nr22 => ?_)
    exact e_iretR C hQ hr rfl hlk dX10_counted_102 (Nat.le_of_ble_eq_true rfl) (Nat.le_of_ble_eq_true rfl)
  refine j_tout C (tgt := 103) dX10_counted_1 (sw_out 7 (fun i hi => by rcases (show i = 0 ∨ i = 1 ∨ i = 2 ∨ i = 3 ∨ i = 4 ∨ i = 5 ∨ i = 6 by omega) with rfl | rfl | rfl | rfl | rfl | rfl | rfl <;> first | exact q1 | exact q4 | exact q7 | exact q10 | exact q13 | exact q16 | exact q20) (by decide) (by decide) (by decide)) (by decide) ?_
  refine j_aload_n C dX10_counted_103 (i := 0) rfl rfl ?_
  refine j_getR C g_X10_19 dX10_counted_104 (fun v23 ev23 => ?_)
  refine j_callVi C (As := []) (rest := []) k_X10_183 ⟨Nat.le_of_ble_eq_true rfl, Nat.le_of_ble_eq_true rfl⟩ rfl (Nat.le_of_ble_eq_true rfl) ⟨Nat.le_of_ble_eq_true rfl, Nat.le_of_ble_eq_true rfl⟩ rfl dX10_counted_107 (fun r0 q0 => c_Sk_transits l w fl _ _ _ q0) (fun r24 er24 nr24 => ?_)
  exact e_iretR C hQ hr rfl hlk dX10_counted_110 (Nat.le_of_ble_eq_true rfl) (Nat.le_of_ble_eq_true rfl)
def f_SS_count (fl : Nat) (a0 : Nat) (x1 : Int32) (h : hp_M) : Option (Nat × Int32 × hp_M) := jn (some (3, (0 : Int32), ((h.1, h.2 + 1) : hp_M))) fun (j1 : Option (Nat × Int32 × hp_M)) => if x1 < 0 then (j1) else (if x1 < 8 then ((onO h a0 9 (f_SS_counted fl a0 x1 h)).bind fun r4 => some (0, r4, h)) else (j1))
set_option maxRecDepth 100000 in
set_option maxHeartbeats 4000000 in
theorem c_SS_count (l : Launch) (w : hp_W) (hst : l.stackTraces = false) (fl : Nat) (a0 : Nat) (x1 : Int32) (h : hp_M) (out : Nat × Int32 × hp_M) (hX : f_SS_count fl a0 x1 h = some out) : CX l w yX10_count cX10_count 2 .int ({ frames := 9, cells := 1, slots := 6, locals := 271 }) [.ref a0, .int x1] h out := by
  unfold f_SS_count at hX
  refine cx_of (by decide) (Nat.le_of_ble_eq_true rfl) hX ?_
  intro p e s m args below meth c Q C hr hlk hno hQ
  refine j_jn (P := fun j1 => J p l e ({ frames := 9, cells := 1, slots := 6, locals := 271 }) s m args below meth c Q w 2 0 0 10 [] [] h (j1) out) ?_ (fun j1 hj1 => ?_)
  · exact j_throw C (own := RX10) (text := "there is no such count") hst hno hlk hQ tf_3 tk_3 ti_3 (by decide +kernel) tw_3 tg_3 dX10_count_10 dX10_count_13 dX10_count_14 dX10_count_16 dX10_count_19 (Nat.le_of_ble_eq_true rfl) (Nat.le_of_ble_eq_true rfl) (Nat.le_of_ble_eq_true rfl) (Nat.le_of_ble_eq_true rfl) ⟨by decide, rfl⟩
  · refine j_iload_n C dX10_count_0 (i := 1) rfl rfl ?_
    refine j_iflt C (tgt := 10) dX10_count_1 (by decide) (fun q2 => ?_) (fun q2 => ?_)
    · exact j_sub [] rfl (hj1)
    · refine j_iload_n C dX10_count_4 (i := 1) rfl rfl ?_
      refine j_bipush C (v := 8) dX10_count_5 (by decide) ?_
      refine j_icmplt C (tgt := 20) dX10_count_7 (by decide) (fun q3 => ?_) (fun q3 => ?_)
      · refine j_aload_n C dX10_count_20 (i := 0) rfl rfl ?_
        refine j_iload_n C dX10_count_21 (i := 1) rfl rfl ?_
        refine j_callVi C (As := [.int _]) (rest := []) k_X10_92 ⟨Nat.le_of_ble_eq_true rfl, Nat.le_of_ble_eq_true rfl⟩ rfl (Nat.le_of_ble_eq_true rfl) ⟨Nat.le_of_ble_eq_true rfl, Nat.le_of_ble_eq_true rfl⟩ rfl dX10_count_22 (fun r0 q0 => c_SS_counted l w fl _ _ _ _ q0) (fun r4 er4 nr4 => ?_)
        exact e_iretX C hQ hr rfl hlk dX10_count_25 (Nat.le_of_ble_eq_true rfl) (Nat.le_of_ble_eq_true rfl)
      · exact j_sub [] rfl (hj1)
def f_SS_planet (a0 : Nat) (x1 : Int32) (x2 : Int32) (h : hp_M) : Option (Nat × Int32 × hp_M) := jn (some (3, (0 : Int32), ((h.1, h.2 + 1) : hp_M))) fun (j3 : Option (Nat × Int32 × hp_M)) => (gR h a0 9 2).bind fun v4 => (onO h v4 7 (f_Sk_hasPlanet v4 x1 h)).bind fun r5 => if r5 = 0 then (j3) else (if x2 < 0 then (j3) else (if x2 < 7 then ((gR h a0 9 2).bind fun v9 => (onO h v9 7 (f_Sk_factOf v9 x1 x2 h)).bind fun r10 => some (0, r10, h)) else (j3)))
set_option maxRecDepth 100000 in
set_option maxHeartbeats 4000000 in
theorem c_SS_planet (l : Launch) (w : hp_W) (hst : l.stackTraces = false) (a0 : Nat) (x1 : Int32) (x2 : Int32) (h : hp_M) (out : Nat × Int32 × hp_M) (hX : f_SS_planet a0 x1 x2 h = some out) : CX l w yX10_planet cX10_planet 3 .int ({ frames := 6, cells := 1, slots := 6, locals := 200 }) [.ref a0, .int x1, .int x2] h out := by
  unfold f_SS_planet at hX
  refine cx_of (by decide) (Nat.le_of_ble_eq_true rfl) hX ?_
  intro p e s m args below meth c Q C hr hlk hno hQ
  refine j_jn (P := fun j3 => J p l e ({ frames := 6, cells := 1, slots := 6, locals := 200 }) s m args below meth c Q w 3 0 0 21 [] [] h (j3) out) ?_ (fun j3 hj3 => ?_)
  · exact j_throw C (own := RX10) (text := "there is no such planet or fact") hst hno hlk hQ tf_3 tk_3 ti_3 (by decide +kernel) tw_3 tg_3 dX10_planet_21 dX10_planet_24 dX10_planet_25 dX10_planet_27 dX10_planet_30 (Nat.le_of_ble_eq_true rfl) (Nat.le_of_ble_eq_true rfl) (Nat.le_of_ble_eq_true rfl) (Nat.le_of_ble_eq_true rfl) ⟨by decide, rfl⟩
  · refine j_aload_n C dX10_planet_0 (i := 0) rfl rfl ?_
    refine j_getR C g_X10_19 dX10_planet_1 (fun v4 ev4 => ?_)
    refine j_iload_n C dX10_planet_4 (i := 1) rfl rfl ?_
    refine j_callVi C (As := [.int _]) (rest := []) k_X10_96 ⟨Nat.le_of_ble_eq_true rfl, Nat.le_of_ble_eq_true rfl⟩ rfl (Nat.le_of_ble_eq_true rfl) ⟨Nat.le_of_ble_eq_true rfl, Nat.le_of_ble_eq_true rfl⟩ rfl dX10_planet_5 (fun r0 q0 => c_Sk_hasPlanet l w _ _ _ _ q0) (fun r5 er5 nr5 => ?_)
    refine j_ifeq C (tgt := 21) dX10_planet_8 (by decide) (fun q6 => ?_) (fun q6 => ?_)
    · exact j_sub [] rfl (hj3)
    · refine j_iload_n C dX10_planet_11 (i := 2) rfl rfl ?_
      refine j_iflt C (tgt := 21) dX10_planet_12 (by decide) (fun q7 => ?_) (fun q7 => ?_)
      · exact j_sub [] rfl (hj3)
      · refine j_iload_n C dX10_planet_15 (i := 2) rfl rfl ?_
        refine j_bipush C (v := 7) dX10_planet_16 (by decide) ?_
        refine j_icmplt C (tgt := 31) dX10_planet_18 (by decide) (fun q8 => ?_) (fun q8 => ?_)
        · refine j_aload_n C dX10_planet_31 (i := 0) rfl rfl ?_
          refine j_getR C g_X10_19 dX10_planet_32 (fun v9 ev9 => ?_)
          refine j_iload_n C dX10_planet_35 (i := 1) rfl rfl ?_
          refine j_iload_n C dX10_planet_36 (i := 2) rfl rfl ?_
          refine j_callVi C (As := [.int _, .int _]) (rest := []) k_X10_101 ⟨Nat.le_of_ble_eq_true rfl, Nat.le_of_ble_eq_true rfl⟩ rfl (Nat.le_of_ble_eq_true rfl) ⟨Nat.le_of_ble_eq_true rfl, Nat.le_of_ble_eq_true rfl⟩ rfl dX10_planet_37 (fun r0 q0 => c_Sk_factOf l w _ _ _ _ _ q0) (fun r10 er10 nr10 => ?_)
          exact e_iretX C hQ hr rfl hlk dX10_planet_40 (Nat.le_of_ble_eq_true rfl) (Nat.le_of_ble_eq_true rfl)
        · exact j_sub [] rfl (hj3)
def f_SS_set (a0 : Nat) (x1 : Int32) (x2 : Int32) (h : hp_M) : Option (Nat × Int32 × hp_M) := (gR h a0 9 2).bind fun v1 => (onO h v1 7 (f_Sk_hasPlanet v1 x1 h)).bind fun r2 => if r2 = 0 then (some (3, (0 : Int32), ((h.1, h.2 + 1) : hp_M))) else (jn (some (2, (0 : Int32), ((h.1, h.2 + 1) : hp_M))) fun (j4 : Option (Nat × Int32 × hp_M)) => if x2 < 0 then (j4) else (if x2 < 360 then ((gR h a0 9 2).bind fun v7 => (onO h v7 7 (f_Sk_angleOf v7 x1 h)).bind fun r8 => (gR h a0 9 2).bind fun v9 => (onO h v9 7 (f_Sk_putAt v9 x1 x2 h)).bind fun h10 => some (0, r8, h10)) else (j4)))
set_option maxRecDepth 100000 in
set_option maxHeartbeats 4000000 in
theorem c_SS_set (l : Launch) (w : hp_W) (hst : l.stackTraces = false) (a0 : Nat) (x1 : Int32) (x2 : Int32) (h : hp_M) (out : Nat × Int32 × hp_M) (hX : f_SS_set a0 x1 x2 h = some out) : CX l w yX10_set cX10_set 4 .int ({ frames := 6, cells := 1, slots := 6, locals := 200 }) [.ref a0, .int x1, .int x2] h out := by
  unfold f_SS_set at hX
  refine cx_of (by decide) (Nat.le_of_ble_eq_true rfl) hX ?_
  intro p e s m args below meth c Q C hr hlk hno hQ
  refine j_aload_n C dX10_set_0 (i := 0) rfl rfl ?_
  refine j_getR C g_X10_19 dX10_set_1 (fun v1 ev1 => ?_)
  refine j_iload_n C dX10_set_4 (i := 1) rfl rfl ?_
  refine j_callVi C (As := [.int _]) (rest := []) k_X10_96 ⟨Nat.le_of_ble_eq_true rfl, Nat.le_of_ble_eq_true rfl⟩ rfl (Nat.le_of_ble_eq_true rfl) ⟨Nat.le_of_ble_eq_true rfl, Nat.le_of_ble_eq_true rfl⟩ rfl dX10_set_5 (fun r0 q0 => c_Sk_hasPlanet l w _ _ _ _ q0) (fun r2 er2 nr2 => ?_)
  refine j_ifne C (tgt := 21) dX10_set_8 (by decide) (fun q3 => ?_) (fun q3 => ?_)
  · exact j_throw C (own := RX10) (text := "there is no such planet") hst hno hlk hQ tf_3 tk_3 ti_3 (by decide +kernel) tw_3 tg_3 dX10_set_11 dX10_set_14 dX10_set_15 dX10_set_17 dX10_set_20 (Nat.le_of_ble_eq_true rfl) (Nat.le_of_ble_eq_true rfl) (Nat.le_of_ble_eq_true rfl) (Nat.le_of_ble_eq_true rfl) ⟨by decide, rfl⟩
  · refine j_jn (P := fun j4 => J p l e ({ frames := 6, cells := 1, slots := 6, locals := 200 }) s m args below meth c Q w 4 0 0 32 [] [] h (j4) out) ?_ (fun j4 hj4 => ?_)
    · exact j_throw C (own := RX10) (text := "there is no such angle") hst hno hlk hQ tf_2 tk_2 ti_2 (by decide +kernel) tw_2 tg_2 dX10_set_32 dX10_set_35 dX10_set_36 dX10_set_38 dX10_set_41 (Nat.le_of_ble_eq_true rfl) (Nat.le_of_ble_eq_true rfl) (Nat.le_of_ble_eq_true rfl) (Nat.le_of_ble_eq_true rfl) ⟨by decide, rfl⟩
    · refine j_iload_n C dX10_set_21 (i := 2) rfl rfl ?_
      refine j_iflt C (tgt := 32) dX10_set_22 (by decide) (fun q5 => ?_) (fun q5 => ?_)
      · exact j_sub [] rfl (hj4)
      · refine j_iload_n C dX10_set_25 (i := 2) rfl rfl ?_
        refine j_sipush C (v := 360) dX10_set_26 (by decide) ?_
        refine j_icmplt C (tgt := 42) dX10_set_29 (by decide) (fun q6 => ?_) (fun q6 => ?_)
        · refine j_aload_n C dX10_set_42 (i := 0) rfl rfl ?_
          refine j_getR C g_X10_19 dX10_set_43 (fun v7 ev7 => ?_)
          refine j_iload_n C dX10_set_46 (i := 1) rfl rfl ?_
          refine j_callVi C (As := [.int _]) (rest := []) k_X10_111 ⟨Nat.le_of_ble_eq_true rfl, Nat.le_of_ble_eq_true rfl⟩ rfl (Nat.le_of_ble_eq_true rfl) ⟨Nat.le_of_ble_eq_true rfl, Nat.le_of_ble_eq_true rfl⟩ rfl dX10_set_47 (fun r0 q0 => c_Sk_angleOf l w _ _ _ _ q0) (fun r8 er8 nr8 => ?_)
          refine j_istore_n C [(3, _), (0, _), (1, _), (2, _)] dX10_set_50 (i := 3) rfl (by decide) rfl ?_
          refine j_aload_n C dX10_set_51 (i := 0) rfl rfl ?_
          refine j_getR C g_X10_19 dX10_set_52 (fun v9 ev9 => ?_)
          refine j_iload_n C dX10_set_55 (i := 1) rfl rfl ?_
          refine j_iload_n C dX10_set_56 (i := 2) rfl rfl ?_
          refine j_callVv C (As := [.int _, .int _]) (rest := []) k_X10_114 ⟨Nat.le_of_ble_eq_true rfl, Nat.le_of_ble_eq_true rfl⟩ rfl (Nat.le_of_ble_eq_true rfl) ⟨Nat.le_of_ble_eq_true rfl, Nat.le_of_ble_eq_true rfl⟩ rfl dX10_set_57 (fun r0 q0 => c_Sk_putAt l w _ _ _ _ _ q0) (fun h10 eh10 _ => ?_)
          refine j_iload_n C dX10_set_60 (i := 3) rfl rfl ?_
          exact e_iretX C hQ hr rfl hlk dX10_set_61 (Nat.le_of_ble_eq_true rfl) (Nat.le_of_ble_eq_true rfl)
        · exact j_sub [] rfl (hj4)
def f_SS_gap (a0 : Nat) (x1 : Int32) (x2 : Int32) (h : hp_M) : Option (Nat × Int32 × hp_M) := jn (some (3, (0 : Int32), ((h.1, h.2 + 1) : hp_M))) fun (j5 : Option (Nat × Int32 × hp_M)) => (gR h a0 9 2).bind fun v6 => (onO h v6 7 (f_Sk_hasPlanet v6 x1 h)).bind fun r7 => if r7 = 0 then (j5) else ((gR h a0 9 2).bind fun v9 => (onO h v9 7 (f_Sk_hasPlanet v9 x2 h)).bind fun r10 => if r10 = 0 then (j5) else ((gR h a0 9 2).bind fun v12 => (onO h v12 7 (f_Sk_gapOf v12 x1 x2 h)).bind fun r13 => some (0, r13, h)))
set_option maxRecDepth 100000 in
set_option maxHeartbeats 4000000 in
theorem c_SS_gap (l : Launch) (w : hp_W) (hst : l.stackTraces = false) (a0 : Nat) (x1 : Int32) (x2 : Int32) (h : hp_M) (out : Nat × Int32 × hp_M) (hX : f_SS_gap a0 x1 x2 h = some out) : CX l w yX10_gap cX10_gap 3 .int ({ frames := 6, cells := 1, slots := 6, locals := 200 }) [.ref a0, .int x1, .int x2] h out := by
  unfold f_SS_gap at hX
  refine cx_of (by decide) (Nat.le_of_ble_eq_true rfl) hX ?_
  intro p e s m args below meth c Q C hr hlk hno hQ
  refine j_jn (P := fun j5 => J p l e ({ frames := 6, cells := 1, slots := 6, locals := 200 }) s m args below meth c Q w 3 0 0 22 [] [] h (j5) out) ?_ (fun j5 hj5 => ?_)
  · exact j_throw C (own := RX10) (text := "there is no such planet") hst hno hlk hQ tf_3 tk_3 ti_3 (by decide +kernel) tw_3 tg_3 dX10_gap_22 dX10_gap_25 dX10_gap_26 dX10_gap_28 dX10_gap_31 (Nat.le_of_ble_eq_true rfl) (Nat.le_of_ble_eq_true rfl) (Nat.le_of_ble_eq_true rfl) (Nat.le_of_ble_eq_true rfl) ⟨by decide, rfl⟩
  · refine j_aload_n C dX10_gap_0 (i := 0) rfl rfl ?_
    refine j_getR C g_X10_19 dX10_gap_1 (fun v6 ev6 => ?_)
    refine j_iload_n C dX10_gap_4 (i := 1) rfl rfl ?_
    refine j_callVi C (As := [.int _]) (rest := []) k_X10_96 ⟨Nat.le_of_ble_eq_true rfl, Nat.le_of_ble_eq_true rfl⟩ rfl (Nat.le_of_ble_eq_true rfl) ⟨Nat.le_of_ble_eq_true rfl, Nat.le_of_ble_eq_true rfl⟩ rfl dX10_gap_5 (fun r0 q0 => c_Sk_hasPlanet l w _ _ _ _ q0) (fun r7 er7 nr7 => ?_)
    refine j_ifeq C (tgt := 22) dX10_gap_8 (by decide) (fun q8 => ?_) (fun q8 => ?_)
    · exact j_sub [] rfl (hj5)
    · refine j_aload_n C dX10_gap_11 (i := 0) rfl rfl ?_
      refine j_getR C g_X10_19 dX10_gap_12 (fun v9 ev9 => ?_)
      refine j_iload_n C dX10_gap_15 (i := 2) rfl rfl ?_
      refine j_callVi C (As := [.int _]) (rest := []) k_X10_96 ⟨Nat.le_of_ble_eq_true rfl, Nat.le_of_ble_eq_true rfl⟩ rfl (Nat.le_of_ble_eq_true rfl) ⟨Nat.le_of_ble_eq_true rfl, Nat.le_of_ble_eq_true rfl⟩ rfl dX10_gap_16 (fun r0 q0 => c_Sk_hasPlanet l w _ _ _ _ q0) (fun r10 er10 nr10 => ?_)
      refine j_ifne C (tgt := 32) dX10_gap_19 (by decide) (fun q11 => ?_) (fun q11 => ?_)
      · exact j_sub [] rfl (hj5)
      · refine j_aload_n C dX10_gap_32 (i := 0) rfl rfl ?_
        refine j_getR C g_X10_19 dX10_gap_33 (fun v12 ev12 => ?_)
        refine j_iload_n C dX10_gap_36 (i := 1) rfl rfl ?_
        refine j_iload_n C dX10_gap_37 (i := 2) rfl rfl ?_
        refine j_callVi C (As := [.int _, .int _]) (rest := []) k_X10_118 ⟨Nat.le_of_ble_eq_true rfl, Nat.le_of_ble_eq_true rfl⟩ rfl (Nat.le_of_ble_eq_true rfl) ⟨Nat.le_of_ble_eq_true rfl, Nat.le_of_ble_eq_true rfl⟩ rfl dX10_gap_38 (fun r0 q0 => c_Sk_gapOf l w _ _ _ _ _ q0) (fun r13 er13 nr13 => ?_)
        exact e_iretX C hQ hr rfl hlk dX10_gap_41 (Nat.le_of_ble_eq_true rfl) (Nat.le_of_ble_eq_true rfl)
def f_SS_meets (a0 : Nat) (x1 : Int32) (x2 : Int32) (x3 : Int32) (h : hp_M) : Option (Nat × Int32 × hp_M) := jn (some (3, (0 : Int32), ((h.1, h.2 + 1) : hp_M))) fun (j5 : Option (Nat × Int32 × hp_M)) => (gR h a0 9 2).bind fun v6 => (onO h v6 7 (f_Sk_hasPlanet v6 x1 h)).bind fun r7 => if r7 = 0 then (j5) else ((gR h a0 9 2).bind fun v9 => (onO h v9 7 (f_Sk_hasPlanet v9 x2 h)).bind fun r10 => if r10 = 0 then (j5) else ((gR h a0 9 2).bind fun v12 => (onO h v12 7 (f_Sk_areMet v12 x1 x2 x3 h)).bind fun r13 => some (0, r13, h)))
set_option maxRecDepth 100000 in
set_option maxHeartbeats 4000000 in
theorem c_SS_meets (l : Launch) (w : hp_W) (hst : l.stackTraces = false) (a0 : Nat) (x1 : Int32) (x2 : Int32) (x3 : Int32) (h : hp_M) (out : Nat × Int32 × hp_M) (hX : f_SS_meets a0 x1 x2 x3 h = some out) : CX l w yX10_meets cX10_meets 4 .boolean ({ frames := 7, cells := 1, slots := 6, locals := 227 }) [.ref a0, .int x1, .int x2, .int x3] h out := by
  unfold f_SS_meets at hX
  refine cx_of (by decide) (Nat.le_of_ble_eq_true rfl) hX ?_
  intro p e s m args below meth c Q C hr hlk hno hQ
  refine j_jn (P := fun j5 => J p l e ({ frames := 7, cells := 1, slots := 6, locals := 227 }) s m args below meth c Q w 4 0 0 22 [] [] h (j5) out) ?_ (fun j5 hj5 => ?_)
  · exact j_throw C (own := RX10) (text := "there is no such planet") hst hno hlk hQ tf_3 tk_3 ti_3 (by decide +kernel) tw_3 tg_3 dX10_meets_22 dX10_meets_25 dX10_meets_26 dX10_meets_28 dX10_meets_31 (Nat.le_of_ble_eq_true rfl) (Nat.le_of_ble_eq_true rfl) (Nat.le_of_ble_eq_true rfl) (Nat.le_of_ble_eq_true rfl) ⟨by decide, rfl⟩
  · refine j_aload_n C dX10_meets_0 (i := 0) rfl rfl ?_
    refine j_getR C g_X10_19 dX10_meets_1 (fun v6 ev6 => ?_)
    refine j_iload_n C dX10_meets_4 (i := 1) rfl rfl ?_
    refine j_callVi C (As := [.int _]) (rest := []) k_X10_96 ⟨Nat.le_of_ble_eq_true rfl, Nat.le_of_ble_eq_true rfl⟩ rfl (Nat.le_of_ble_eq_true rfl) ⟨Nat.le_of_ble_eq_true rfl, Nat.le_of_ble_eq_true rfl⟩ rfl dX10_meets_5 (fun r0 q0 => c_Sk_hasPlanet l w _ _ _ _ q0) (fun r7 er7 nr7 => ?_)
    refine j_ifeq C (tgt := 22) dX10_meets_8 (by decide) (fun q8 => ?_) (fun q8 => ?_)
    · exact j_sub [] rfl (hj5)
    · refine j_aload_n C dX10_meets_11 (i := 0) rfl rfl ?_
      refine j_getR C g_X10_19 dX10_meets_12 (fun v9 ev9 => ?_)
      refine j_iload_n C dX10_meets_15 (i := 2) rfl rfl ?_
      refine j_callVi C (As := [.int _]) (rest := []) k_X10_96 ⟨Nat.le_of_ble_eq_true rfl, Nat.le_of_ble_eq_true rfl⟩ rfl (Nat.le_of_ble_eq_true rfl) ⟨Nat.le_of_ble_eq_true rfl, Nat.le_of_ble_eq_true rfl⟩ rfl dX10_meets_16 (fun r0 q0 => c_Sk_hasPlanet l w _ _ _ _ q0) (fun r10 er10 nr10 => ?_)
      refine j_ifne C (tgt := 32) dX10_meets_19 (by decide) (fun q11 => ?_) (fun q11 => ?_)
      · exact j_sub [] rfl (hj5)
      · refine j_aload_n C dX10_meets_32 (i := 0) rfl rfl ?_
        refine j_getR C g_X10_19 dX10_meets_33 (fun v12 ev12 => ?_)
        refine j_iload_n C dX10_meets_36 (i := 1) rfl rfl ?_
        refine j_iload_n C dX10_meets_37 (i := 2) rfl rfl ?_
        refine j_iload_n C dX10_meets_38 (i := 3) rfl rfl ?_
        refine j_callVi C (As := [.int _, .int _, .int _]) (rest := []) k_X10_121 ⟨Nat.le_of_ble_eq_true rfl, Nat.le_of_ble_eq_true rfl⟩ rfl (Nat.le_of_ble_eq_true rfl) ⟨Nat.le_of_ble_eq_true rfl, Nat.le_of_ble_eq_true rfl⟩ rfl dX10_meets_39 (fun r0 q0 => c_Sk_areMet l w _ _ _ _ _ _ q0) (fun r13 er13 nr13 => ?_)
        exact e_iretX C hQ hr (nr13 _ _ rfl rfl) hlk dX10_meets_42 (Nat.le_of_ble_eq_true rfl) (Nat.le_of_ble_eq_true rfl)
def f_SS_letter (a0 : Nat) (x1 : Int32) (x2 : Int32) (h : hp_M) : Option (Nat × Int32 × hp_M) := jn (some (3, (0 : Int32), ((h.1, h.2 + 1) : hp_M))) fun (j5 : Option (Nat × Int32 × hp_M)) => (gR h a0 9 4).bind fun v6 => (onO h v6 1 (f_Bk_hasAlphabet v6 x1 h)).bind fun r7 => if r7 = 0 then (j5) else (if x2 < 0 then (j5) else ((gR h a0 9 4).bind fun v10 => (onO h v10 1 (f_Bk_lettersOf v10 x1 h)).bind fun r11 => if x2 < r11 then ((gR h a0 9 4).bind fun v13 => (onO h v13 1 (f_Bk_letterOf v13 x1 x2 h)).bind fun r14 => some (0, r14, h)) else (j5)))
set_option maxRecDepth 100000 in
set_option maxHeartbeats 4000000 in
theorem c_SS_letter (l : Launch) (w : hp_W) (hst : l.stackTraces = false) (a0 : Nat) (x1 : Int32) (x2 : Int32) (h : hp_M) (out : Nat × Int32 × hp_M) (hX : f_SS_letter a0 x1 x2 h = some out) : CX l w yX10_letter cX10_letter 3 .int ({ frames := 6, cells := 1, slots := 6, locals := 200 }) [.ref a0, .int x1, .int x2] h out := by
  unfold f_SS_letter at hX
  refine cx_of (by decide) (Nat.le_of_ble_eq_true rfl) hX ?_
  intro p e s m args below meth c Q C hr hlk hno hQ
  refine j_jn (P := fun j5 => J p l e ({ frames := 6, cells := 1, slots := 6, locals := 200 }) s m args below meth c Q w 3 0 0 27 [] [] h (j5) out) ?_ (fun j5 hj5 => ?_)
  · exact j_throw C (own := RX10) (text := "there is no such alphabet or letter") hst hno hlk hQ tf_3 tk_3 ti_3 (by decide +kernel) tw_3 tg_3 dX10_letter_27 dX10_letter_30 dX10_letter_31 dX10_letter_33 dX10_letter_36 (Nat.le_of_ble_eq_true rfl) (Nat.le_of_ble_eq_true rfl) (Nat.le_of_ble_eq_true rfl) (Nat.le_of_ble_eq_true rfl) ⟨by decide, rfl⟩
  · refine j_aload_n C dX10_letter_0 (i := 0) rfl rfl ?_
    refine j_getR C g_X10_29 dX10_letter_1 (fun v6 ev6 => ?_)
    refine j_iload_n C dX10_letter_4 (i := 1) rfl rfl ?_
    refine j_callVi C (As := [.int _]) (rest := []) k_X10_125 ⟨Nat.le_of_ble_eq_true rfl, Nat.le_of_ble_eq_true rfl⟩ rfl (Nat.le_of_ble_eq_true rfl) ⟨Nat.le_of_ble_eq_true rfl, Nat.le_of_ble_eq_true rfl⟩ rfl dX10_letter_5 (fun r0 q0 => c_Bk_hasAlphabet l w _ _ _ _ q0) (fun r7 er7 nr7 => ?_)
    refine j_ifeq C (tgt := 27) dX10_letter_8 (by decide) (fun q8 => ?_) (fun q8 => ?_)
    · exact j_sub [] rfl (hj5)
    · refine j_iload_n C dX10_letter_11 (i := 2) rfl rfl ?_
      refine j_iflt C (tgt := 27) dX10_letter_12 (by decide) (fun q9 => ?_) (fun q9 => ?_)
      · exact j_sub [] rfl (hj5)
      · refine j_iload_n C dX10_letter_15 (i := 2) rfl rfl ?_
        refine j_aload_n C dX10_letter_16 (i := 0) rfl rfl ?_
        refine j_getR C g_X10_29 dX10_letter_17 (fun v10 ev10 => ?_)
        refine j_iload_n C dX10_letter_20 (i := 1) rfl rfl ?_
        refine j_callVi C (As := [.int _]) (rest := [_]) k_X10_128 ⟨Nat.le_of_ble_eq_true rfl, Nat.le_of_ble_eq_true rfl⟩ rfl (Nat.le_of_ble_eq_true rfl) ⟨Nat.le_of_ble_eq_true rfl, Nat.le_of_ble_eq_true rfl⟩ rfl dX10_letter_21 (fun r0 q0 => c_Bk_lettersOf l w _ _ _ _ q0) (fun r11 er11 nr11 => ?_)
        refine j_icmplt C (tgt := 37) dX10_letter_24 (by decide) (fun q12 => ?_) (fun q12 => ?_)
        · refine j_aload_n C dX10_letter_37 (i := 0) rfl rfl ?_
          refine j_getR C g_X10_29 dX10_letter_38 (fun v13 ev13 => ?_)
          refine j_iload_n C dX10_letter_41 (i := 1) rfl rfl ?_
          refine j_iload_n C dX10_letter_42 (i := 2) rfl rfl ?_
          refine j_callVi C (As := [.int _, .int _]) (rest := []) k_X10_133 ⟨Nat.le_of_ble_eq_true rfl, Nat.le_of_ble_eq_true rfl⟩ rfl (Nat.le_of_ble_eq_true rfl) ⟨Nat.le_of_ble_eq_true rfl, Nat.le_of_ble_eq_true rfl⟩ rfl dX10_letter_43 (fun r0 q0 => c_Bk_letterOf l w _ _ _ _ _ q0) (fun r14 er14 nr14 => ?_)
          exact e_iretX C hQ hr rfl hlk dX10_letter_46 (Nat.le_of_ble_eq_true rfl) (Nat.le_of_ble_eq_true rfl)
        · exact j_sub [] rfl (hj5)
def f_SS_wrote (a0 : Nat) (x1 : Int32) (h : hp_M) : Option (Nat × Int32 × hp_M) := jn (some (3, (0 : Int32), ((h.1, h.2 + 1) : hp_M))) fun (j3 : Option (Nat × Int32 × hp_M)) => if x1 < 0 then (j3) else ((gR h a0 9 4).bind fun v5 => (onO h v5 1 (f_Bk_rules v5 h)).bind fun r6 => if x1 < r6 then ((gR h a0 9 2).bind fun v8 => (onO h v8 7 (f_Sk_writtenBy v8 x1 h)).bind fun r9 => some (0, r9, h)) else (j3))
set_option maxRecDepth 100000 in
set_option maxHeartbeats 4000000 in
theorem c_SS_wrote (l : Launch) (w : hp_W) (hst : l.stackTraces = false) (a0 : Nat) (x1 : Int32) (h : hp_M) (out : Nat × Int32 × hp_M) (hX : f_SS_wrote a0 x1 h = some out) : CX l w yX10_wrote cX10_wrote 2 .int ({ frames := 6, cells := 1, slots := 6, locals := 200 }) [.ref a0, .int x1] h out := by
  unfold f_SS_wrote at hX
  refine cx_of (by decide) (Nat.le_of_ble_eq_true rfl) hX ?_
  intro p e s m args below meth c Q C hr hlk hno hQ
  refine j_jn (P := fun j3 => J p l e ({ frames := 6, cells := 1, slots := 6, locals := 200 }) s m args below meth c Q w 2 0 0 15 [] [] h (j3) out) ?_ (fun j3 hj3 => ?_)
  · exact j_throw C (own := RX10) (text := "there is no such rule") hst hno hlk hQ tf_3 tk_3 ti_3 (by decide +kernel) tw_3 tg_3 dX10_wrote_15 dX10_wrote_18 dX10_wrote_19 dX10_wrote_21 dX10_wrote_24 (Nat.le_of_ble_eq_true rfl) (Nat.le_of_ble_eq_true rfl) (Nat.le_of_ble_eq_true rfl) (Nat.le_of_ble_eq_true rfl) ⟨by decide, rfl⟩
  · refine j_iload_n C dX10_wrote_0 (i := 1) rfl rfl ?_
    refine j_iflt C (tgt := 15) dX10_wrote_1 (by decide) (fun q4 => ?_) (fun q4 => ?_)
    · exact j_sub [] rfl (hj3)
    · refine j_iload_n C dX10_wrote_4 (i := 1) rfl rfl ?_
      refine j_aload_n C dX10_wrote_5 (i := 0) rfl rfl ?_
      refine j_getR C g_X10_29 dX10_wrote_6 (fun v5 ev5 => ?_)
      refine j_callVi C (As := []) (rest := [_]) k_X10_136 ⟨Nat.le_of_ble_eq_true rfl, Nat.le_of_ble_eq_true rfl⟩ rfl (Nat.le_of_ble_eq_true rfl) ⟨Nat.le_of_ble_eq_true rfl, Nat.le_of_ble_eq_true rfl⟩ rfl dX10_wrote_9 (fun r0 q0 => c_Bk_rules l w _ _ _ q0) (fun r6 er6 nr6 => ?_)
      refine j_icmplt C (tgt := 25) dX10_wrote_12 (by decide) (fun q7 => ?_) (fun q7 => ?_)
      · refine j_aload_n C dX10_wrote_25 (i := 0) rfl rfl ?_
        refine j_getR C g_X10_19 dX10_wrote_26 (fun v8 ev8 => ?_)
        refine j_iload_n C dX10_wrote_29 (i := 1) rfl rfl ?_
        refine j_callVi C (As := [.int _]) (rest := []) k_X10_141 ⟨Nat.le_of_ble_eq_true rfl, Nat.le_of_ble_eq_true rfl⟩ rfl (Nat.le_of_ble_eq_true rfl) ⟨Nat.le_of_ble_eq_true rfl, Nat.le_of_ble_eq_true rfl⟩ rfl dX10_wrote_30 (fun r0 q0 => c_Sk_writtenBy l w _ _ _ _ q0) (fun r9 er9 nr9 => ?_)
        exact e_iretX C hQ hr rfl hlk dX10_wrote_33 (Nat.le_of_ble_eq_true rfl) (Nat.le_of_ble_eq_true rfl)
      · exact j_sub [] rfl (hj3)
def f_SS_pass (fl : Nat) (a0 : Nat) (x1 : Int32) (h : hp_M) : Option (Nat × Int32 × hp_M) := jn (some (2, (0 : Int32), ((h.1, h.2 + 1) : hp_M))) fun (j1 : Option (Nat × Int32 × hp_M)) => if x1 < 1 then (j1) else (if x1 ≤ 300 then ((gR h a0 9 2).bind fun v4 => (gR h a0 9 4).bind fun v5 => (onO h v4 7 (f_Sk_live fl v4 x1 v5 h)).bind fun r6 => some (0, r6.1, r6.2)) else (j1))
set_option maxRecDepth 100000 in
set_option maxHeartbeats 4000000 in
theorem c_SS_pass (l : Launch) (w : hp_W) (hst : l.stackTraces = false) (fl : Nat) (a0 : Nat) (x1 : Int32) (h : hp_M) (out : Nat × Int32 × hp_M) (hX : f_SS_pass fl a0 x1 h = some out) : CX l w yX10_pass cX10_pass 2 .int ({ frames := 11, cells := 1, slots := 6, locals := 323 }) [.ref a0, .int x1] h out := by
  unfold f_SS_pass at hX
  refine cx_of (by decide) (Nat.le_of_ble_eq_true rfl) hX ?_
  intro p e s m args below meth c Q C hr hlk hno hQ
  refine j_jn (P := fun j1 => J p l e ({ frames := 11, cells := 1, slots := 6, locals := 323 }) s m args below meth c Q w 2 0 0 12 [] [] h (j1) out) ?_ (fun j1 hj1 => ?_)
  · exact j_throw C (own := RX10) (text := "so many days can't go by") hst hno hlk hQ tf_2 tk_2 ti_2 (by decide +kernel) tw_2 tg_2 dX10_pass_12 dX10_pass_15 dX10_pass_16 dX10_pass_18 dX10_pass_21 (Nat.le_of_ble_eq_true rfl) (Nat.le_of_ble_eq_true rfl) (Nat.le_of_ble_eq_true rfl) (Nat.le_of_ble_eq_true rfl) ⟨by decide, rfl⟩
  · refine j_iload_n C dX10_pass_0 (i := 1) rfl rfl ?_
    refine j_iconst C (v := 1) dX10_pass_1 (by decide) ?_
    refine j_icmplt C (tgt := 12) dX10_pass_2 (by decide) (fun q2 => ?_) (fun q2 => ?_)
    · exact j_sub [] rfl (hj1)
    · refine j_iload_n C dX10_pass_5 (i := 1) rfl rfl ?_
      refine j_sipush C (v := 300) dX10_pass_6 (by decide) ?_
      refine j_icmple C (tgt := 22) dX10_pass_9 (by decide) (fun q3 => ?_) (fun q3 => ?_)
      · refine j_aload_n C dX10_pass_22 (i := 0) rfl rfl ?_
        refine j_getR C g_X10_19 dX10_pass_23 (fun v4 ev4 => ?_)
        refine j_iload_n C dX10_pass_26 (i := 1) rfl rfl ?_
        refine j_aload_n C dX10_pass_27 (i := 0) rfl rfl ?_
        refine j_getR C g_X10_29 dX10_pass_28 (fun v5 ev5 => ?_)
        refine j_callVim C (As := [.int _, .ref _]) (rest := []) k_X10_146 ⟨Nat.le_of_ble_eq_true rfl, Nat.le_of_ble_eq_true rfl⟩ rfl (Nat.le_of_ble_eq_true rfl) ⟨Nat.le_of_ble_eq_true rfl, Nat.le_of_ble_eq_true rfl⟩ rfl dX10_pass_31 (fun r0 q0 => c_Sk_live l w fl _ _ _ _ _ q0) (fun r6 er6 nr6 => ?_)
        exact e_iretX C hQ hr rfl hlk dX10_pass_34 (Nat.le_of_ble_eq_true rfl) (Nat.le_of_ble_eq_true rfl)
      · exact j_sub [] rfl (hj1)
def f_SS_byteAt (a0 : Nat) (x1 : Int32) (h : hp_M) : Option (Nat × Int32 × hp_M) := jn (some (3, (0 : Int32), ((h.1, h.2 + 1) : hp_M))) fun (j4 : Option (Nat × Int32 × hp_M)) => if x1 < 0 then (j4) else ((gR h a0 9 2).bind fun v6 => (onO h v6 7 (f_Sk_paper v6 h)).bind fun r7 => (onO h r7 2 (f_Pp_size r7 h)).bind fun r8 => if x1 < r8 then ((gR h a0 9 2).bind fun v10 => (onO h v10 7 (f_Sk_paper v10 h)).bind fun r11 => (onO h r11 2 (f_Pp_at r11 x1 h)).bind fun r12 => some (0, r12, h)) else (j4))
set_option maxRecDepth 100000 in
set_option maxHeartbeats 4000000 in
theorem c_SS_byteAt (l : Launch) (w : hp_W) (hst : l.stackTraces = false) (a0 : Nat) (x1 : Int32) (h : hp_M) (out : Nat × Int32 × hp_M) (hX : f_SS_byteAt a0 x1 h = some out) : CX l w yX10_byteAt cX10_byteAt 2 .int ({ frames := 6, cells := 1, slots := 6, locals := 200 }) [.ref a0, .int x1] h out := by
  unfold f_SS_byteAt at hX
  refine cx_of (by decide) (Nat.le_of_ble_eq_true rfl) hX ?_
  intro p e s m args below meth c Q C hr hlk hno hQ
  refine j_jn (P := fun j4 => J p l e ({ frames := 6, cells := 1, slots := 6, locals := 200 }) s m args below meth c Q w 2 0 0 18 [] [] h (j4) out) ?_ (fun j4 hj4 => ?_)
  · exact j_throw C (own := RX10) (text := "there is no such place on the paper") hst hno hlk hQ tf_3 tk_3 ti_3 (by decide +kernel) tw_3 tg_3 dX10_byteAt_18 dX10_byteAt_21 dX10_byteAt_22 dX10_byteAt_24 dX10_byteAt_27 (Nat.le_of_ble_eq_true rfl) (Nat.le_of_ble_eq_true rfl) (Nat.le_of_ble_eq_true rfl) (Nat.le_of_ble_eq_true rfl) ⟨by decide, rfl⟩
  · refine j_iload_n C dX10_byteAt_0 (i := 1) rfl rfl ?_
    refine j_iflt C (tgt := 18) dX10_byteAt_1 (by decide) (fun q5 => ?_) (fun q5 => ?_)
    · exact j_sub [] rfl (hj4)
    · refine j_iload_n C dX10_byteAt_4 (i := 1) rfl rfl ?_
      refine j_aload_n C dX10_byteAt_5 (i := 0) rfl rfl ?_
      refine j_getR C g_X10_19 dX10_byteAt_6 (fun v6 ev6 => ?_)
      refine j_callVr C (As := []) (rest := [_]) k_X10_150 ⟨Nat.le_of_ble_eq_true rfl, Nat.le_of_ble_eq_true rfl⟩ rfl (Nat.le_of_ble_eq_true rfl) ⟨Nat.le_of_ble_eq_true rfl, Nat.le_of_ble_eq_true rfl⟩ rfl dX10_byteAt_9 (fun r0 q0 => c_Sk_paper l w _ _ _ q0) (fun r7 er7 nr7 => ?_)
      refine j_callVi C (As := []) (rest := [_]) k_X10_154 ⟨Nat.le_of_ble_eq_true rfl, Nat.le_of_ble_eq_true rfl⟩ rfl (Nat.le_of_ble_eq_true rfl) ⟨Nat.le_of_ble_eq_true rfl, Nat.le_of_ble_eq_true rfl⟩ rfl dX10_byteAt_12 (fun r0 q0 => c_Pp_size l w _ _ _ q0) (fun r8 er8 nr8 => ?_)
      refine j_icmplt C (tgt := 28) dX10_byteAt_15 (by decide) (fun q9 => ?_) (fun q9 => ?_)
      · refine j_aload_n C dX10_byteAt_28 (i := 0) rfl rfl ?_
        refine j_getR C g_X10_19 dX10_byteAt_29 (fun v10 ev10 => ?_)
        refine j_callVr C (As := []) (rest := []) k_X10_150 ⟨Nat.le_of_ble_eq_true rfl, Nat.le_of_ble_eq_true rfl⟩ rfl (Nat.le_of_ble_eq_true rfl) ⟨Nat.le_of_ble_eq_true rfl, Nat.le_of_ble_eq_true rfl⟩ rfl dX10_byteAt_32 (fun r0 q0 => c_Sk_paper l w _ _ _ q0) (fun r11 er11 nr11 => ?_)
        refine j_iload_n C dX10_byteAt_35 (i := 1) rfl rfl ?_
        refine j_callVi C (As := [.int _]) (rest := []) k_X10_159 ⟨Nat.le_of_ble_eq_true rfl, Nat.le_of_ble_eq_true rfl⟩ rfl (Nat.le_of_ble_eq_true rfl) ⟨Nat.le_of_ble_eq_true rfl, Nat.le_of_ble_eq_true rfl⟩ rfl dX10_byteAt_36 (fun r0 q0 => c_Pp_at l w _ _ _ _ q0) (fun r12 er12 nr12 => ?_)
        exact e_iretX C hQ hr rfl hlk dX10_byteAt_39 (Nat.le_of_ble_eq_true rfl) (Nat.le_of_ble_eq_true rfl)
      · exact j_sub [] rfl (hj4)
def f_SS_clear (a0 : Nat) (h : hp_M) : Option (Int32 × hp_M) := (gR h a0 9 2).bind fun v1 => (onO h v1 7 (f_Sk_paper v1 h)).bind fun r2 => (onO h r2 2 (f_Pp_size r2 h)).bind fun r3 => (gR h a0 9 2).bind fun v4 => (onO h v4 7 (f_Sk_paper v4 h)).bind fun r5 => (onO h r5 2 (f_Pp_wipe r5 h)).bind fun h6 => some (r3, h6)
set_option maxRecDepth 100000 in
set_option maxHeartbeats 4000000 in
theorem c_SS_clear (l : Launch) (w : hp_W) (a0 : Nat) (h : hp_M) (out : Int32 × hp_M) (hX : f_SS_clear a0 h = some out) : CT l w yX10_clear cX10_clear 2 (some .int) ({ frames := 1, cells := 0, slots := 0, locals := 20 }) [.ref a0] h (some (.int out.1)) out.2 := by
  unfold f_SS_clear at hX
  refine ct_of (by decide +kernel) (Nat.le_of_ble_eq_true rfl) hX ?_
  intro p e s m args below meth c Q C hr hlk hnm hQ
  refine j_aload_n C dX10_clear_0 (i := 0) rfl rfl ?_
  refine j_getR C g_X10_19 dX10_clear_1 (fun v1 ev1 => ?_)
  refine j_callVr C (As := []) (rest := []) k_X10_150 ⟨Nat.le_of_ble_eq_true rfl, Nat.le_of_ble_eq_true rfl⟩ rfl (Nat.le_of_ble_eq_true rfl) ⟨Nat.le_of_ble_eq_true rfl, Nat.le_of_ble_eq_true rfl⟩ rfl dX10_clear_4 (fun r0 q0 => c_Sk_paper l w _ _ _ q0) (fun r2 er2 nr2 => ?_)
  refine j_callVi C (As := []) (rest := []) k_X10_154 ⟨Nat.le_of_ble_eq_true rfl, Nat.le_of_ble_eq_true rfl⟩ rfl (Nat.le_of_ble_eq_true rfl) ⟨Nat.le_of_ble_eq_true rfl, Nat.le_of_ble_eq_true rfl⟩ rfl dX10_clear_7 (fun r0 q0 => c_Pp_size l w _ _ _ q0) (fun r3 er3 nr3 => ?_)
  refine j_istore_n C [(1, _), (0, _)] dX10_clear_10 (i := 1) rfl (by decide) rfl ?_
  refine j_aload_n C dX10_clear_11 (i := 0) rfl rfl ?_
  refine j_getR C g_X10_19 dX10_clear_12 (fun v4 ev4 => ?_)
  refine j_callVr C (As := []) (rest := []) k_X10_150 ⟨Nat.le_of_ble_eq_true rfl, Nat.le_of_ble_eq_true rfl⟩ rfl (Nat.le_of_ble_eq_true rfl) ⟨Nat.le_of_ble_eq_true rfl, Nat.le_of_ble_eq_true rfl⟩ rfl dX10_clear_15 (fun r0 q0 => c_Sk_paper l w _ _ _ q0) (fun r5 er5 nr5 => ?_)
  refine j_callVv C (As := []) (rest := []) k_X10_162 ⟨Nat.le_of_ble_eq_true rfl, Nat.le_of_ble_eq_true rfl⟩ rfl (Nat.le_of_ble_eq_true rfl) ⟨Nat.le_of_ble_eq_true rfl, Nat.le_of_ble_eq_true rfl⟩ rfl dX10_clear_18 (fun r0 q0 => c_Pp_wipe l w _ _ _ q0) (fun h6 eh6 _ => ?_)
  refine j_iload_n C dX10_clear_21 (i := 1) rfl rfl ?_
  exact e_iretM C hQ hr rfl hlk dX10_clear_22 (Nat.le_of_ble_eq_true rfl) (Nat.le_of_ble_eq_true rfl)
def f_SS_find (fl : Nat) (a0 : Nat) (h : hp_M) : Option (Int32) := (gR h a0 9 2).bind fun v1 => (onO h v1 7 (f_Sk_paper v1 h)).bind fun r2 => (gR h a0 9 0).bind fun v3 => (onO h r2 2 (f_Pp_placeOf fl r2 v3 0 h)).bind fun r4 => some r4
set_option maxRecDepth 100000 in
set_option maxHeartbeats 4000000 in
theorem c_SS_find (l : Launch) (w : hp_W) (fl : Nat) (a0 : Nat) (h : hp_M) (out : Int32) (hX : f_SS_find fl a0 h = some out) : CT l w yX10_find cX10_find 1 (some .int) ({ frames := 3, cells := 0, slots := 0, locals := 67 }) [.ref a0] h (some (.int out)) h := by
  unfold f_SS_find at hX
  refine ct_of (by decide +kernel) (Nat.le_of_ble_eq_true rfl) hX ?_
  intro p e s m args below meth c Q C hr hlk hnm hQ
  refine j_aload_n C dX10_find_0 (i := 0) rfl rfl ?_
  refine j_getR C g_X10_19 dX10_find_1 (fun v1 ev1 => ?_)
  refine j_callVr C (As := []) (rest := []) k_X10_150 ⟨Nat.le_of_ble_eq_true rfl, Nat.le_of_ble_eq_true rfl⟩ rfl (Nat.le_of_ble_eq_true rfl) ⟨Nat.le_of_ble_eq_true rfl, Nat.le_of_ble_eq_true rfl⟩ rfl dX10_find_4 (fun r0 q0 => c_Sk_paper l w _ _ _ q0) (fun r2 er2 nr2 => ?_)
  refine j_aload_n C dX10_find_7 (i := 0) rfl rfl ?_
  refine j_getR C g_X10_10 dX10_find_8 (fun v3 ev3 => ?_)
  refine j_iconst C (v := 0) dX10_find_11 (by decide) ?_
  refine j_callVi C (As := [.ref _, .int _]) (rest := []) k_X10_165 ⟨Nat.le_of_ble_eq_true rfl, Nat.le_of_ble_eq_true rfl⟩ rfl (Nat.le_of_ble_eq_true rfl) ⟨Nat.le_of_ble_eq_true rfl, Nat.le_of_ble_eq_true rfl⟩ rfl dX10_find_12 (fun r0 q0 => c_Pp_placeOf l w fl _ _ _ _ _ q0) (fun r4 er4 nr4 => ?_)
  exact e_iretR C hQ hr rfl hlk dX10_find_15 (Nat.le_of_ble_eq_true rfl) (Nat.le_of_ble_eq_true rfl)
def f_SS_translate (fl : Nat) (a0 : Nat) (x1 : Int32) (x2 : Int32) (h : hp_M) : Option (Nat × Int32 × hp_M) := jn (some (3, (0 : Int32), ((h.1, h.2 + 1) : hp_M))) fun (j5 : Option (Nat × Int32 × hp_M)) => (gR h a0 9 4).bind fun v6 => (onO h v6 1 (f_Bk_hasAlphabet v6 x1 h)).bind fun r7 => if r7 = 0 then (j5) else ((gR h a0 9 4).bind fun v9 => (onO h v9 1 (f_Bk_hasAlphabet v9 x2 h)).bind fun r10 => if r10 = 0 then (j5) else ((gR h a0 9 2).bind fun v12 => (onO h v12 7 (f_Sk_paper v12 h)).bind fun r13 => (gR h a0 9 4).bind fun v14 => (onO h r13 2 (f_Pp_exchange fl r13 v14 x1 x2 h)).bind fun r15 => some (0, r15.1, r15.2)))
set_option maxRecDepth 100000 in
set_option maxHeartbeats 4000000 in
theorem c_SS_translate (l : Launch) (w : hp_W) (hst : l.stackTraces = false) (fl : Nat) (a0 : Nat) (x1 : Int32) (x2 : Int32) (h : hp_M) (out : Nat × Int32 × hp_M) (hX : f_SS_translate fl a0 x1 x2 h = some out) : CX l w yX10_translate cX10_translate 3 .int ({ frames := 6, cells := 1, slots := 6, locals := 200 }) [.ref a0, .int x1, .int x2] h out := by
  unfold f_SS_translate at hX
  refine cx_of (by decide) (Nat.le_of_ble_eq_true rfl) hX ?_
  intro p e s m args below meth c Q C hr hlk hno hQ
  refine j_jn (P := fun j5 => J p l e ({ frames := 6, cells := 1, slots := 6, locals := 200 }) s m args below meth c Q w 3 0 0 22 [] [] h (j5) out) ?_ (fun j5 hj5 => ?_)
  · exact j_throw C (own := RX10) (text := "there is no such alphabet") hst hno hlk hQ tf_3 tk_3 ti_3 (by decide +kernel) tw_3 tg_3 dX10_translate_22 dX10_translate_25 dX10_translate_26 dX10_translate_28 dX10_translate_31 (Nat.le_of_ble_eq_true rfl) (Nat.le_of_ble_eq_true rfl) (Nat.le_of_ble_eq_true rfl) (Nat.le_of_ble_eq_true rfl) ⟨by decide, rfl⟩
  · refine j_aload_n C dX10_translate_0 (i := 0) rfl rfl ?_
    refine j_getR C g_X10_29 dX10_translate_1 (fun v6 ev6 => ?_)
    refine j_iload_n C dX10_translate_4 (i := 1) rfl rfl ?_
    refine j_callVi C (As := [.int _]) (rest := []) k_X10_125 ⟨Nat.le_of_ble_eq_true rfl, Nat.le_of_ble_eq_true rfl⟩ rfl (Nat.le_of_ble_eq_true rfl) ⟨Nat.le_of_ble_eq_true rfl, Nat.le_of_ble_eq_true rfl⟩ rfl dX10_translate_5 (fun r0 q0 => c_Bk_hasAlphabet l w _ _ _ _ q0) (fun r7 er7 nr7 => ?_)
    refine j_ifeq C (tgt := 22) dX10_translate_8 (by decide) (fun q8 => ?_) (fun q8 => ?_)
    · exact j_sub [] rfl (hj5)
    · refine j_aload_n C dX10_translate_11 (i := 0) rfl rfl ?_
      refine j_getR C g_X10_29 dX10_translate_12 (fun v9 ev9 => ?_)
      refine j_iload_n C dX10_translate_15 (i := 2) rfl rfl ?_
      refine j_callVi C (As := [.int _]) (rest := []) k_X10_125 ⟨Nat.le_of_ble_eq_true rfl, Nat.le_of_ble_eq_true rfl⟩ rfl (Nat.le_of_ble_eq_true rfl) ⟨Nat.le_of_ble_eq_true rfl, Nat.le_of_ble_eq_true rfl⟩ rfl dX10_translate_16 (fun r0 q0 => c_Bk_hasAlphabet l w _ _ _ _ q0) (fun r10 er10 nr10 => ?_)
      refine j_ifne C (tgt := 32) dX10_translate_19 (by decide) (fun q11 => ?_) (fun q11 => ?_)
      · exact j_sub [] rfl (hj5)
      · refine j_aload_n C dX10_translate_32 (i := 0) rfl rfl ?_
        refine j_getR C g_X10_19 dX10_translate_33 (fun v12 ev12 => ?_)
        refine j_callVr C (As := []) (rest := []) k_X10_150 ⟨Nat.le_of_ble_eq_true rfl, Nat.le_of_ble_eq_true rfl⟩ rfl (Nat.le_of_ble_eq_true rfl) ⟨Nat.le_of_ble_eq_true rfl, Nat.le_of_ble_eq_true rfl⟩ rfl dX10_translate_36 (fun r0 q0 => c_Sk_paper l w _ _ _ q0) (fun r13 er13 nr13 => ?_)
        refine j_aload_n C dX10_translate_39 (i := 0) rfl rfl ?_
        refine j_getR C g_X10_29 dX10_translate_40 (fun v14 ev14 => ?_)
        refine j_iload_n C dX10_translate_43 (i := 1) rfl rfl ?_
        refine j_iload_n C dX10_translate_44 (i := 2) rfl rfl ?_
        refine j_callVim C (As := [.ref _, .int _, .int _]) (rest := []) k_X10_171 ⟨Nat.le_of_ble_eq_true rfl, Nat.le_of_ble_eq_true rfl⟩ rfl (Nat.le_of_ble_eq_true rfl) ⟨Nat.le_of_ble_eq_true rfl, Nat.le_of_ble_eq_true rfl⟩ rfl dX10_translate_45 (fun r0 q0 => c_Pp_exchange l w fl _ _ _ _ _ _ q0) (fun r15 er15 nr15 => ?_)
        exact e_iretX C hQ hr rfl hlk dX10_translate_48 (Nat.le_of_ble_eq_true rfl) (Nat.le_of_ble_eq_true rfl)
def f_SS_foresee (fl : Nat) (a0 : Nat) (x1 : Int32) (x2 : Int32) (h : hp_M) : Option (Nat × Int32 × hp_M) := jn (some (2, (0 : Int32), ((h.1, h.2 + 1) : hp_M))) fun (j1 : Option (Nat × Int32 × hp_M)) => if x1 < 1 then (j1) else (if x1 ≤ 300 then (jn (some (3, (0 : Int32), ((h.1, h.2 + 1) : hp_M))) fun (j4 : Option (Nat × Int32 × hp_M)) => if x2 < 0 then (j4) else (if x2 < 3 then ((gR h a0 9 3).bind fun v7 => (gR h a0 9 2).bind fun v8 => (onO h v7 7 (f_Sk_copyFrom fl v7 v8 h)).bind fun h9 => (gR h9 a0 9 3).bind fun v10 => (gR h9 a0 9 4).bind fun v11 => (onO h9 v10 7 (f_Sk_live fl v10 x1 v11 h9)).bind fun r12 => if x2 = 0 then (some (0, r12.1, r12.2)) else (if x2 = 1 then ((gR r12.2 a0 9 3).bind fun v15 => (onO r12.2 v15 7 (f_Sk_transits fl v15 r12.2)).bind fun r16 => some (0, r16, r12.2)) else ((gR r12.2 a0 9 3).bind fun v17 => (onO r12.2 v17 7 (f_Sk_laps fl v17 r12.2)).bind fun r18 => some (0, r18, r12.2)))) else (j4))) else (j1))
set_option maxRecDepth 100000 in
set_option maxHeartbeats 4000000 in
theorem c_SS_foresee (l : Launch) (w : hp_W) (hst : l.stackTraces = false) (fl : Nat) (a0 : Nat) (x1 : Int32) (x2 : Int32) (h : hp_M) (out : Nat × Int32 × hp_M) (hX : f_SS_foresee fl a0 x1 x2 h = some out) : CX l w yX10_foresee cX10_foresee 4 .int ({ frames := 11, cells := 1, slots := 6, locals := 323 }) [.ref a0, .int x1, .int x2] h out := by
  unfold f_SS_foresee at hX
  refine cx_of (by decide) (Nat.le_of_ble_eq_true rfl) hX ?_
  intro p e s m args below meth c Q C hr hlk hno hQ
  refine j_jn (P := fun j1 => J p l e ({ frames := 11, cells := 1, slots := 6, locals := 323 }) s m args below meth c Q w 4 0 0 12 [] [] h (j1) out) ?_ (fun j1 hj1 => ?_)
  · exact j_throw C (own := RX10) (text := "so many days can't be foreseen") hst hno hlk hQ tf_2 tk_2 ti_2 (by decide +kernel) tw_2 tg_2 dX10_foresee_12 dX10_foresee_15 dX10_foresee_16 dX10_foresee_18 dX10_foresee_21 (Nat.le_of_ble_eq_true rfl) (Nat.le_of_ble_eq_true rfl) (Nat.le_of_ble_eq_true rfl) (Nat.le_of_ble_eq_true rfl) ⟨by decide, rfl⟩
  · refine j_iload_n C dX10_foresee_0 (i := 1) rfl rfl ?_
    refine j_iconst C (v := 1) dX10_foresee_1 (by decide) ?_
    refine j_icmplt C (tgt := 12) dX10_foresee_2 (by decide) (fun q2 => ?_) (fun q2 => ?_)
    · exact j_sub [] rfl (hj1)
    · refine j_iload_n C dX10_foresee_5 (i := 1) rfl rfl ?_
      refine j_sipush C (v := 300) dX10_foresee_6 (by decide) ?_
      refine j_icmple C (tgt := 22) dX10_foresee_9 (by decide) (fun q3 => ?_) (fun q3 => ?_)
      · refine j_jn (P := fun j4 => J p l e ({ frames := 11, cells := 1, slots := 6, locals := 323 }) s m args below meth c Q w 4 0 0 31 [] [] h (j4) out) ?_ (fun j4 hj4 => ?_)
        · exact j_throw C (own := RX10) (text := "there is nothing such to foresee") hst hno hlk hQ tf_3 tk_3 ti_3 (by decide +kernel) tw_3 tg_3 dX10_foresee_31 dX10_foresee_34 dX10_foresee_35 dX10_foresee_37 dX10_foresee_40 (Nat.le_of_ble_eq_true rfl) (Nat.le_of_ble_eq_true rfl) (Nat.le_of_ble_eq_true rfl) (Nat.le_of_ble_eq_true rfl) ⟨by decide, rfl⟩
        · refine j_iload_n C dX10_foresee_22 (i := 2) rfl rfl ?_
          refine j_iflt C (tgt := 31) dX10_foresee_23 (by decide) (fun q5 => ?_) (fun q5 => ?_)
          · exact j_sub [] rfl (hj4)
          · refine j_iload_n C dX10_foresee_26 (i := 2) rfl rfl ?_
            refine j_iconst C (v := 3) dX10_foresee_27 (by decide) ?_
            refine j_icmplt C (tgt := 41) dX10_foresee_28 (by decide) (fun q6 => ?_) (fun q6 => ?_)
            · refine j_aload_n C dX10_foresee_41 (i := 0) rfl rfl ?_
              refine j_getR C g_X10_23 dX10_foresee_42 (fun v7 ev7 => ?_)
              refine j_aload_n C dX10_foresee_45 (i := 0) rfl rfl ?_
              refine j_getR C g_X10_19 dX10_foresee_46 (fun v8 ev8 => ?_)
              refine j_callVv C (As := [.ref _]) (rest := []) k_X10_179 ⟨Nat.le_of_ble_eq_true rfl, Nat.le_of_ble_eq_true rfl⟩ rfl (Nat.le_of_ble_eq_true rfl) ⟨Nat.le_of_ble_eq_true rfl, Nat.le_of_ble_eq_true rfl⟩ rfl dX10_foresee_49 (fun r0 q0 => c_Sk_copyFrom l w fl _ _ _ _ q0) (fun h9 eh9 _ => ?_)
              refine j_aload_n C dX10_foresee_52 (i := 0) rfl rfl ?_
              refine j_getR C g_X10_23 dX10_foresee_53 (fun v10 ev10 => ?_)
              refine j_iload_n C dX10_foresee_56 (i := 1) rfl rfl ?_
              refine j_aload_n C dX10_foresee_57 (i := 0) rfl rfl ?_
              refine j_getR C g_X10_29 dX10_foresee_58 (fun v11 ev11 => ?_)
              refine j_callVim C (As := [.int _, .ref _]) (rest := []) k_X10_146 ⟨Nat.le_of_ble_eq_true rfl, Nat.le_of_ble_eq_true rfl⟩ rfl (Nat.le_of_ble_eq_true rfl) ⟨Nat.le_of_ble_eq_true rfl, Nat.le_of_ble_eq_true rfl⟩ rfl dX10_foresee_61 (fun r0 q0 => c_Sk_live l w fl _ _ _ _ _ q0) (fun r12 er12 nr12 => ?_)
              refine j_istore_n C [(3, _), (0, _), (1, _), (2, _)] dX10_foresee_64 (i := 3) rfl (by decide) rfl ?_
              refine j_iload_n C dX10_foresee_65 (i := 2) rfl rfl ?_
              refine j_ifne C (tgt := 71) dX10_foresee_66 (by decide) (fun q13 => ?_) (fun q13 => ?_)
              · refine j_iload_n C dX10_foresee_69 (i := 3) rfl rfl ?_
                exact e_iretX C hQ hr rfl hlk dX10_foresee_70 (Nat.le_of_ble_eq_true rfl) (Nat.le_of_ble_eq_true rfl)
              · refine j_iload_n C dX10_foresee_71 (i := 2) rfl rfl ?_
                refine j_iconst C (v := 1) dX10_foresee_72 (by decide) ?_
                refine j_icmpne C (tgt := 86) dX10_foresee_73 (by decide) (fun q14 => ?_) (fun q14 => ?_)
                · refine j_aload_n C dX10_foresee_76 (i := 0) rfl rfl ?_
                  refine j_getR C g_X10_23 dX10_foresee_77 (fun v15 ev15 => ?_)
                  refine j_callVi C (As := []) (rest := []) k_X10_183 ⟨Nat.le_of_ble_eq_true rfl, Nat.le_of_ble_eq_true rfl⟩ rfl (Nat.le_of_ble_eq_true rfl) ⟨Nat.le_of_ble_eq_true rfl, Nat.le_of_ble_eq_true rfl⟩ rfl dX10_foresee_80 (fun r0 q0 => c_Sk_transits l w fl _ _ _ q0) (fun r16 er16 nr16 => ?_)
                  refine j_goto C (tgt := 93) dX10_foresee_83 (by decide) ?_
                  exact e_iretX C hQ hr rfl hlk dX10_foresee_93 (Nat.le_of_ble_eq_true rfl) (Nat.le_of_ble_eq_true rfl)
                · refine j_aload_n C dX10_foresee_86 (i := 0) rfl rfl ?_
                  refine j_getR C g_X10_23 dX10_foresee_87 (fun v17 ev17 => ?_)
                  refine j_callVi C (As := []) (rest := []) k_X10_186 ⟨Nat.le_of_ble_eq_true rfl, Nat.le_of_ble_eq_true rfl⟩ rfl (Nat.le_of_ble_eq_true rfl) ⟨Nat.le_of_ble_eq_true rfl, Nat.le_of_ble_eq_true rfl⟩ rfl dX10_foresee_90 (fun r0 q0 => c_Sk_laps l w fl _ _ _ q0) (fun r18 er18 nr18 => ?_)
                  exact e_iretX C hQ hr rfl hlk dX10_foresee_93 (Nat.le_of_ble_eq_true rfl) (Nat.le_of_ble_eq_true rfl)
            · exact j_sub [] rfl (hj4)
      · exact j_sub [] rfl (hj1)
def f_SS_next_b46 (fl : Nat) (a0 : Nat) (x1 : Int32) (x2 : Int32) (x3 : Int32) : Nat → Int32 → hp_M → Option (Nat × Int32 × hp_M)
  | 0, _, _ => none
  | n + 1, x4, h => if 1000 < x4 then (some (0, (-1), h)) else ((gR h a0 9 3).bind fun v1016 => (onO h v1016 7 (f_Sk_turn fl v1016 h)).bind fun h1017 => (gR h1017 a0 9 3).bind fun v1018 => (onO h1017 v1018 7 (f_Sk_areMet v1018 x1 x2 x3 h1017)).bind fun r1019 => if r1019 = 0 then (f_SS_next_b46 fl a0 x1 x2 x3 n (x4 + 1) h1017) else (some (0, x4, h1017)))
def f_SS_next (fl : Nat) (a0 : Nat) (x1 : Int32) (x2 : Int32) (x3 : Int32) (h : hp_M) : Option (Nat × Int32 × hp_M) := jn (some (3, (0 : Int32), ((h.1, h.2 + 1) : hp_M))) fun (j5 : Option (Nat × Int32 × hp_M)) => (gR h a0 9 2).bind fun v6 => (onO h v6 7 (f_Sk_hasPlanet v6 x1 h)).bind fun r7 => if r7 = 0 then (j5) else ((gR h a0 9 2).bind fun v9 => (onO h v9 7 (f_Sk_hasPlanet v9 x2 h)).bind fun r10 => if r10 = 0 then (j5) else ((gR h a0 9 3).bind fun v12 => (gR h a0 9 2).bind fun v13 => (onO h v12 7 (f_Sk_copyFrom fl v12 v13 h)).bind fun h14 => f_SS_next_b46 fl a0 x1 x2 x3 fl 1 h14))
set_option maxRecDepth 100000 in
set_option maxHeartbeats 4000000 in
theorem b_SS_next_46 {p : Program} {l : Launch} {e : Env} {s : State} {m : MethodId} {args : Array Value} {below : List Frame} {meth : Method} {c : Code} {Q : State → Prop} {w : hp_W} {out : Nat × Int32 × hp_M} (fl : Nat)   (a0 : Nat) (x1 : Int32) (x2 : Int32) (x3 : Int32) (C : Cx p m c cX10_next 5 s args RX10 w) (hst : l.stackTraces = false) (hr : meth.sig.returnType = some .int) (hlk : meth.locks = false) (hno : ∀ x ∈ c.exceptionTable.toList, False) (hQ : QX below w args s ({ frames := 8, cells := 1, slots := 6, locals := 243 }) .int out = Q)  : ∀ (n : Nat) (x4 : Int32) (h : hp_M), J p l e ({ frames := 8, cells := 1, slots := 6, locals := 243 }) s m args below meth c Q w 5 0 0 46 [(0, .ref a0), (1, .int x1), (2, .int x2), (3, .int x3), (4, .int x4)] [] h (f_SS_next_b46 fl a0 x1 x2 x3 n x4 h) out := by
  intro n
  induction n with
  | zero => intro x4 h; exact j_none
  | succ n ih =>
    intro x4 h
    rw [f_SS_next_b46]
    refine j_iload C dX10_next_46 rfl ?_
    refine j_sipush C (v := 1000) dX10_next_48 (by decide) ?_
    refine j_icmpgt C (tgt := 83) dX10_next_51 (by decide) (fun q1015 => ?_) (fun q1015 => ?_)
    · refine j_iconst C (v := -1) dX10_next_83 (by decide) ?_
      exact e_iretX C hQ hr rfl hlk dX10_next_84 (Nat.le_of_ble_eq_true rfl) (Nat.le_of_ble_eq_true rfl)
    · refine j_aload_n C dX10_next_54 (i := 0) rfl rfl ?_
      refine j_getR C g_X10_23 dX10_next_55 (fun v1016 ev1016 => ?_)
      refine j_callVv C (As := []) (rest := []) k_X10_189 ⟨Nat.le_of_ble_eq_true rfl, Nat.le_of_ble_eq_true rfl⟩ rfl (Nat.le_of_ble_eq_true rfl) ⟨Nat.le_of_ble_eq_true rfl, Nat.le_of_ble_eq_true rfl⟩ rfl dX10_next_58 (fun r0 q0 => c_Sk_turn l w fl _ _ _ q0) (fun h1017 eh1017 _ => ?_)
      refine j_aload_n C dX10_next_61 (i := 0) rfl rfl ?_
      refine j_getR C g_X10_23 dX10_next_62 (fun v1018 ev1018 => ?_)
      refine j_iload_n C dX10_next_65 (i := 1) rfl rfl ?_
      refine j_iload_n C dX10_next_66 (i := 2) rfl rfl ?_
      refine j_iload_n C dX10_next_67 (i := 3) rfl rfl ?_
      refine j_callVi C (As := [.int _, .int _, .int _]) (rest := []) k_X10_121 ⟨Nat.le_of_ble_eq_true rfl, Nat.le_of_ble_eq_true rfl⟩ rfl (Nat.le_of_ble_eq_true rfl) ⟨Nat.le_of_ble_eq_true rfl, Nat.le_of_ble_eq_true rfl⟩ rfl dX10_next_68 (fun r0 q0 => c_Sk_areMet l w _ _ _ _ _ _ q0) (fun r1019 er1019 nr1019 => ?_)
      refine j_ifeq C (tgt := 77) dX10_next_71 (by decide) (fun q1020 => ?_) (fun q1020 => ?_)
      · refine j_iinc C (v := x4 + 1) [(4, _), (0, _), (1, _), (2, _), (3, _)] dX10_next_77 rfl rfl (by decide) rfl ?_
        refine j_goto C (tgt := 46) dX10_next_80 (by decide) ?_
        exact j_sub [1, 2, 3, 4, 0] rfl (ih _ _)
      · refine j_iload C dX10_next_74 rfl ?_
        exact e_iretX C hQ hr rfl hlk dX10_next_76 (Nat.le_of_ble_eq_true rfl) (Nat.le_of_ble_eq_true rfl)
set_option maxRecDepth 100000 in
set_option maxHeartbeats 4000000 in
theorem c_SS_next (l : Launch) (w : hp_W) (hst : l.stackTraces = false) (fl : Nat) (a0 : Nat) (x1 : Int32) (x2 : Int32) (x3 : Int32) (h : hp_M) (out : Nat × Int32 × hp_M) (hX : f_SS_next fl a0 x1 x2 x3 h = some out) : CX l w yX10_next cX10_next 5 .int ({ frames := 8, cells := 1, slots := 6, locals := 243 }) [.ref a0, .int x1, .int x2, .int x3] h out := by
  unfold f_SS_next at hX
  refine cx_of (by decide) (Nat.le_of_ble_eq_true rfl) hX ?_
  intro p e s m args below meth c Q C hr hlk hno hQ
  refine j_jn (P := fun j5 => J p l e ({ frames := 8, cells := 1, slots := 6, locals := 243 }) s m args below meth c Q w 5 0 0 22 [] [] h (j5) out) ?_ (fun j5 hj5 => ?_)
  · exact j_throw C (own := RX10) (text := "there is no such planet") hst hno hlk hQ tf_3 tk_3 ti_3 (by decide +kernel) tw_3 tg_3 dX10_next_22 dX10_next_25 dX10_next_26 dX10_next_28 dX10_next_31 (Nat.le_of_ble_eq_true rfl) (Nat.le_of_ble_eq_true rfl) (Nat.le_of_ble_eq_true rfl) (Nat.le_of_ble_eq_true rfl) ⟨by decide, rfl⟩
  · refine j_aload_n C dX10_next_0 (i := 0) rfl rfl ?_
    refine j_getR C g_X10_19 dX10_next_1 (fun v6 ev6 => ?_)
    refine j_iload_n C dX10_next_4 (i := 1) rfl rfl ?_
    refine j_callVi C (As := [.int _]) (rest := []) k_X10_96 ⟨Nat.le_of_ble_eq_true rfl, Nat.le_of_ble_eq_true rfl⟩ rfl (Nat.le_of_ble_eq_true rfl) ⟨Nat.le_of_ble_eq_true rfl, Nat.le_of_ble_eq_true rfl⟩ rfl dX10_next_5 (fun r0 q0 => c_Sk_hasPlanet l w _ _ _ _ q0) (fun r7 er7 nr7 => ?_)
    refine j_ifeq C (tgt := 22) dX10_next_8 (by decide) (fun q8 => ?_) (fun q8 => ?_)
    · exact j_sub [] rfl (hj5)
    · refine j_aload_n C dX10_next_11 (i := 0) rfl rfl ?_
      refine j_getR C g_X10_19 dX10_next_12 (fun v9 ev9 => ?_)
      refine j_iload_n C dX10_next_15 (i := 2) rfl rfl ?_
      refine j_callVi C (As := [.int _]) (rest := []) k_X10_96 ⟨Nat.le_of_ble_eq_true rfl, Nat.le_of_ble_eq_true rfl⟩ rfl (Nat.le_of_ble_eq_true rfl) ⟨Nat.le_of_ble_eq_true rfl, Nat.le_of_ble_eq_true rfl⟩ rfl dX10_next_16 (fun r0 q0 => c_Sk_hasPlanet l w _ _ _ _ q0) (fun r10 er10 nr10 => ?_)
      refine j_ifne C (tgt := 32) dX10_next_19 (by decide) (fun q11 => ?_) (fun q11 => ?_)
      · exact j_sub [] rfl (hj5)
      · refine j_aload_n C dX10_next_32 (i := 0) rfl rfl ?_
        refine j_getR C g_X10_23 dX10_next_33 (fun v12 ev12 => ?_)
        refine j_aload_n C dX10_next_36 (i := 0) rfl rfl ?_
        refine j_getR C g_X10_19 dX10_next_37 (fun v13 ev13 => ?_)
        refine j_callVv C (As := [.ref _]) (rest := []) k_X10_179 ⟨Nat.le_of_ble_eq_true rfl, Nat.le_of_ble_eq_true rfl⟩ rfl (Nat.le_of_ble_eq_true rfl) ⟨Nat.le_of_ble_eq_true rfl, Nat.le_of_ble_eq_true rfl⟩ rfl dX10_next_40 (fun r0 q0 => c_Sk_copyFrom l w fl _ _ _ _ q0) (fun h14 eh14 _ => ?_)
        refine j_iconst C (v := 1) dX10_next_43 (by decide) ?_
        refine j_istore C [(4, _), (0, _), (1, _), (2, _), (3, _)] dX10_next_44 (by decide) rfl ?_
        refine j_sub [1, 2, 3, 4, 0] rfl (b_SS_next_46 fl  _ _ _ _ C hst hr hlk hno hQ  _ _ _)
def f_SS_spells_b45 (fl : Nat) (a0 : Nat) : Nat → Int32 → hp_M → Option (Int32 × hp_M)
  | 0, _, _ => none
  | n + 1, x1, h => if 400 < x1 then (some ((-1), h)) else (jn (fun (h1026 : hp_M) => f_SS_spells_b45 fl a0 n (x1 + 1) h1026) fun (j1025 : hp_M → Option (Int32 × hp_M)) => (gR h a0 9 3).bind fun v1027 => (onO h v1027 7 (f_Sk_paper v1027 h)).bind fun r1028 => (onO h r1028 2 (f_Pp_size r1028 h)).bind fun r1029 => (gR h a0 9 0).bind fun v1030 => (onO h v1030 8 (f_Tp_size v1030 h)).bind fun r1031 => (gR h a0 9 3).bind fun v1032 => (gR h a0 9 4).bind fun v1033 => (onO h v1032 7 (f_Sk_live fl v1032 1 v1033 h)).bind fun r1034 => if r1034.1 ≤ 0 then (j1025 r1034.2) else ((gR r1034.2 a0 9 3).bind fun v1036 => (onO r1034.2 v1036 7 (f_Sk_paper v1036 r1034.2)).bind fun r1037 => (gR r1034.2 a0 9 0).bind fun v1038 => (onO r1034.2 r1037 2 (f_Pp_placeOf fl r1037 v1038 (imax ((r1029 - r1031) + 1) 0) r1034.2)).bind fun r1039 => if r1039 < 0 then (j1025 r1034.2) else (some (x1, r1034.2))))
def f_SS_spells (fl : Nat) (a0 : Nat) (h : hp_M) : Option (Int32 × hp_M) := (gR h a0 9 0).bind fun v1 => (onO h v1 8 (f_Tp_size v1 h)).bind fun r2 => if r2 = 0 then (some ((-1), h)) else ((gR h a0 9 2).bind fun v4 => (onO h v4 7 (f_Sk_paper v4 h)).bind fun r5 => (gR h a0 9 0).bind fun v6 => (onO h r5 2 (f_Pp_placeOf fl r5 v6 0 h)).bind fun r7 => if r7 < 0 then ((gR h a0 9 3).bind fun v9 => (gR h a0 9 2).bind fun v10 => (onO h v9 7 (f_Sk_copyFrom fl v9 v10 h)).bind fun h11 => f_SS_spells_b45 fl a0 fl 1 h11) else (some (0, h)))
set_option maxRecDepth 100000 in
set_option maxHeartbeats 4000000 in
theorem b_SS_spells_45 {p : Program} {l : Launch} {e : Env} {s : State} {m : MethodId} {args : Array Value} {below : List Frame} {meth : Method} {c : Code} {Q : State → Prop} {w : hp_W} {out : Int32 × hp_M} (fl : Nat)   (a0 : Nat) (C : Cx p m c cX10_spells 3 s args RX10 w) (hr : meth.sig.returnType = some .int) (hlk : meth.locks = false) (hnm : meth.name = "spells") (hQ : QM below w args s ({ frames := 11, cells := 0, slots := 0, locals := 323 }) (some .int) (some (.int out.1)) out.2 = Q)  : ∀ (n : Nat) (x1 : Int32) (h : hp_M), J p l e ({ frames := 11, cells := 0, slots := 0, locals := 323 }) s m args below meth c Q w 3 0 0 45 [(0, .ref a0), (1, .int x1)] [] h (f_SS_spells_b45 fl a0 n x1 h) out := by
  intro n
  induction n with
  | zero => intro x1 h; exact j_none
  | succ n ih =>
    intro x1 h
    rw [f_SS_spells_b45]
    refine j_iload_n C dX10_spells_45 (i := 1) rfl rfl ?_
    refine j_sipush C (v := 400) dX10_spells_46 (by decide) ?_
    refine j_icmpgt C (tgt := 118) dX10_spells_49 (by decide) (fun q1012 => ?_) (fun q1012 => ?_)
    · refine j_iconst C (v := -1) dX10_spells_118 (by decide) ?_
      exact e_iretM C hQ hr rfl hlk dX10_spells_119 (Nat.le_of_ble_eq_true rfl) (Nat.le_of_ble_eq_true rfl)
    · refine j_jn (P := fun (j1025 : hp_M → Option (Int32 × hp_M)) => ∀ (h1026 : hp_M), J p l e ({ frames := 11, cells := 0, slots := 0, locals := 323 }) s m args below meth c Q w 3 0 0 112 [(0, .ref a0), (1, .int x1)] [] h1026 (j1025 h1026) out) ?_ (fun j1025 hj1025 => ?_)
      · intro h1026
        refine j_iinc C (v := x1 + 1) [(1, _), (0, _)] dX10_spells_112 rfl rfl (by decide) rfl ?_
        refine j_goto C (tgt := 45) dX10_spells_115 (by decide) ?_
        exact j_sub [1, 0] rfl (ih _ _)
      · refine j_aload_n C dX10_spells_52 (i := 0) rfl rfl ?_
        refine j_getR C g_X10_23 dX10_spells_53 (fun v1027 ev1027 => ?_)
        refine j_callVr C (As := []) (rest := []) k_X10_150 ⟨Nat.le_of_ble_eq_true rfl, Nat.le_of_ble_eq_true rfl⟩ rfl (Nat.le_of_ble_eq_true rfl) ⟨Nat.le_of_ble_eq_true rfl, Nat.le_of_ble_eq_true rfl⟩ rfl dX10_spells_56 (fun r0 q0 => c_Sk_paper l w _ _ _ q0) (fun r1028 er1028 nr1028 => ?_)
        refine j_callVi C (As := []) (rest := []) k_X10_154 ⟨Nat.le_of_ble_eq_true rfl, Nat.le_of_ble_eq_true rfl⟩ rfl (Nat.le_of_ble_eq_true rfl) ⟨Nat.le_of_ble_eq_true rfl, Nat.le_of_ble_eq_true rfl⟩ rfl dX10_spells_59 (fun r0 q0 => c_Pp_size l w _ _ _ q0) (fun r1029 er1029 nr1029 => ?_)
        refine j_aload_n C dX10_spells_62 (i := 0) rfl rfl ?_
        refine j_getR C g_X10_10 dX10_spells_63 (fun v1030 ev1030 => ?_)
        refine j_callVi C (As := []) (rest := [_]) k_X10_64 ⟨Nat.le_of_ble_eq_true rfl, Nat.le_of_ble_eq_true rfl⟩ rfl (Nat.le_of_ble_eq_true rfl) ⟨Nat.le_of_ble_eq_true rfl, Nat.le_of_ble_eq_true rfl⟩ rfl dX10_spells_66 (fun r0 q0 => c_Tp_size l w _ _ _ q0) (fun r1031 er1031 nr1031 => ?_)
        refine j_isub C dX10_spells_69 ?_
        refine j_iconst C (v := 1) dX10_spells_70 (by decide) ?_
        refine j_iadd C dX10_spells_71 ?_
        refine j_istore_n C [(2, _), (0, _), (1, _)] dX10_spells_72 (i := 2) rfl (by decide) rfl ?_
        refine j_aload_n C dX10_spells_73 (i := 0) rfl rfl ?_
        refine j_getR C g_X10_23 dX10_spells_74 (fun v1032 ev1032 => ?_)
        refine j_iconst C (v := 1) dX10_spells_77 (by decide) ?_
        refine j_aload_n C dX10_spells_78 (i := 0) rfl rfl ?_
        refine j_getR C g_X10_29 dX10_spells_79 (fun v1033 ev1033 => ?_)
        refine j_callVim C (As := [.int _, .ref _]) (rest := []) k_X10_146 ⟨Nat.le_of_ble_eq_true rfl, Nat.le_of_ble_eq_true rfl⟩ rfl (Nat.le_of_ble_eq_true rfl) ⟨Nat.le_of_ble_eq_true rfl, Nat.le_of_ble_eq_true rfl⟩ rfl dX10_spells_82 (fun r0 q0 => c_Sk_live l w fl _ _ _ _ _ q0) (fun r1034 er1034 nr1034 => ?_)
        refine j_ifle C (tgt := 112) dX10_spells_85 (by decide) (fun q1035 => ?_) (fun q1035 => ?_)
        · exact j_sub [1, 2] rfl (hj1025 _)
        · refine j_aload_n C dX10_spells_88 (i := 0) rfl rfl ?_
          refine j_getR C g_X10_23 dX10_spells_89 (fun v1036 ev1036 => ?_)
          refine j_callVr C (As := []) (rest := []) k_X10_150 ⟨Nat.le_of_ble_eq_true rfl, Nat.le_of_ble_eq_true rfl⟩ rfl (Nat.le_of_ble_eq_true rfl) ⟨Nat.le_of_ble_eq_true rfl, Nat.le_of_ble_eq_true rfl⟩ rfl dX10_spells_92 (fun r0 q0 => c_Sk_paper l w _ _ _ q0) (fun r1037 er1037 nr1037 => ?_)
          refine j_aload_n C dX10_spells_95 (i := 0) rfl rfl ?_
          refine j_getR C g_X10_10 dX10_spells_96 (fun v1038 ev1038 => ?_)
          refine j_iload_n C dX10_spells_99 (i := 2) rfl rfl ?_
          refine j_iconst C (v := 0) dX10_spells_100 (by decide) ?_
          refine j_mmax C ⟨k_X10_192, Nat.le_of_ble_eq_true rfl, Nat.le_of_ble_eq_true rfl⟩ (Nat.le_of_ble_eq_true rfl) (Nat.le_of_ble_eq_true rfl) dX10_spells_101 ?_
          refine j_callVi C (As := [.ref _, .int _]) (rest := []) k_X10_165 ⟨Nat.le_of_ble_eq_true rfl, Nat.le_of_ble_eq_true rfl⟩ rfl (Nat.le_of_ble_eq_true rfl) ⟨Nat.le_of_ble_eq_true rfl, Nat.le_of_ble_eq_true rfl⟩ rfl dX10_spells_104 (fun r0 q0 => c_Pp_placeOf l w fl _ _ _ _ _ q0) (fun r1039 er1039 nr1039 => ?_)
          refine j_iflt C (tgt := 112) dX10_spells_107 (by decide) (fun q1040 => ?_) (fun q1040 => ?_)
          · exact j_sub [1, 2] rfl (hj1025 _)
          · refine j_iload_n C dX10_spells_110 (i := 1) rfl rfl ?_
            exact e_iretM C hQ hr rfl hlk dX10_spells_111 (Nat.le_of_ble_eq_true rfl) (Nat.le_of_ble_eq_true rfl)
set_option maxRecDepth 100000 in
set_option maxHeartbeats 4000000 in
theorem c_SS_spells (l : Launch) (w : hp_W) (fl : Nat) (a0 : Nat) (h : hp_M) (out : Int32 × hp_M) (hX : f_SS_spells fl a0 h = some out) : CT l w yX10_spells cX10_spells 3 (some .int) ({ frames := 11, cells := 0, slots := 0, locals := 323 }) [.ref a0] h (some (.int out.1)) out.2 := by
  unfold f_SS_spells at hX
  refine ct_of (by decide +kernel) (Nat.le_of_ble_eq_true rfl) hX ?_
  intro p e s m args below meth c Q C hr hlk hnm hQ
  refine j_aload_n C dX10_spells_0 (i := 0) rfl rfl ?_
  refine j_getR C g_X10_10 dX10_spells_1 (fun v1 ev1 => ?_)
  refine j_callVi C (As := []) (rest := []) k_X10_64 ⟨Nat.le_of_ble_eq_true rfl, Nat.le_of_ble_eq_true rfl⟩ rfl (Nat.le_of_ble_eq_true rfl) ⟨Nat.le_of_ble_eq_true rfl, Nat.le_of_ble_eq_true rfl⟩ rfl dX10_spells_4 (fun r0 q0 => c_Tp_size l w _ _ _ q0) (fun r2 er2 nr2 => ?_)
  refine j_ifne C (tgt := 12) dX10_spells_7 (by decide) (fun q3 => ?_) (fun q3 => ?_)
  · refine j_iconst C (v := -1) dX10_spells_10 (by decide) ?_
    exact e_iretM C hQ hr rfl hlk dX10_spells_11 (Nat.le_of_ble_eq_true rfl) (Nat.le_of_ble_eq_true rfl)
  · refine j_aload_n C dX10_spells_12 (i := 0) rfl rfl ?_
    refine j_getR C g_X10_19 dX10_spells_13 (fun v4 ev4 => ?_)
    refine j_callVr C (As := []) (rest := []) k_X10_150 ⟨Nat.le_of_ble_eq_true rfl, Nat.le_of_ble_eq_true rfl⟩ rfl (Nat.le_of_ble_eq_true rfl) ⟨Nat.le_of_ble_eq_true rfl, Nat.le_of_ble_eq_true rfl⟩ rfl dX10_spells_16 (fun r0 q0 => c_Sk_paper l w _ _ _ q0) (fun r5 er5 nr5 => ?_)
    refine j_aload_n C dX10_spells_19 (i := 0) rfl rfl ?_
    refine j_getR C g_X10_10 dX10_spells_20 (fun v6 ev6 => ?_)
    refine j_iconst C (v := 0) dX10_spells_23 (by decide) ?_
    refine j_callVi C (As := [.ref _, .int _]) (rest := []) k_X10_165 ⟨Nat.le_of_ble_eq_true rfl, Nat.le_of_ble_eq_true rfl⟩ rfl (Nat.le_of_ble_eq_true rfl) ⟨Nat.le_of_ble_eq_true rfl, Nat.le_of_ble_eq_true rfl⟩ rfl dX10_spells_24 (fun r0 q0 => c_Pp_placeOf l w fl _ _ _ _ _ q0) (fun r7 er7 nr7 => ?_)
    refine j_iflt C (tgt := 32) dX10_spells_27 (by decide) (fun q8 => ?_) (fun q8 => ?_)
    · refine j_aload_n C dX10_spells_32 (i := 0) rfl rfl ?_
      refine j_getR C g_X10_23 dX10_spells_33 (fun v9 ev9 => ?_)
      refine j_aload_n C dX10_spells_36 (i := 0) rfl rfl ?_
      refine j_getR C g_X10_19 dX10_spells_37 (fun v10 ev10 => ?_)
      refine j_callVv C (As := [.ref _]) (rest := []) k_X10_179 ⟨Nat.le_of_ble_eq_true rfl, Nat.le_of_ble_eq_true rfl⟩ rfl (Nat.le_of_ble_eq_true rfl) ⟨Nat.le_of_ble_eq_true rfl, Nat.le_of_ble_eq_true rfl⟩ rfl dX10_spells_40 (fun r0 q0 => c_Sk_copyFrom l w fl _ _ _ _ q0) (fun h11 eh11 _ => ?_)
      refine j_iconst C (v := 1) dX10_spells_43 (by decide) ?_
      refine j_istore_n C [(1, _), (0, _)] dX10_spells_44 (i := 1) rfl (by decide) rfl ?_
      refine j_sub [1, 0] rfl (b_SS_spells_45 fl  _ C hr hlk hnm hQ  _ _ _)
    · refine j_iconst C (v := 0) dX10_spells_30 (by decide) ?_
      exact e_iretM C hQ hr rfl hlk dX10_spells_31 (Nat.le_of_ble_eq_true rfl) (Nat.le_of_ble_eq_true rfl)
def f_SS_again_b47 (fl : Nat) (a0 : Nat) (x1 : Int32) : Nat → Int32 → hp_M → Option (Nat × Int32 × hp_M)
  | 0, _, _ => none
  | n + 1, x2, h => if x1 < x2 then (some (0, (-1), h)) else ((gR h a0 9 3).bind fun v1011 => (onO h v1011 7 (f_Sk_turn fl v1011 h)).bind fun h1012 => (gR h1012 a0 9 3).bind fun v1013 => (gR h1012 a0 9 2).bind fun v1014 => (onO h1012 v1013 7 (f_Sk_standsAs fl v1013 v1014 h1012)).bind fun r1015 => if r1015 = 0 then (f_SS_again_b47 fl a0 x1 n (x2 + 1) h1012) else (some (0, x2, h1012)))
def f_SS_again (fl : Nat) (a0 : Nat) (x1 : Int32) (h : hp_M) : Option (Nat × Int32 × hp_M) := jn (some (2, (0 : Int32), ((h.1, h.2 + 1) : hp_M))) fun (j1 : Option (Nat × Int32 × hp_M)) => if x1 < 1 then (j1) else (if x1 ≤ 2000 then ((gR h a0 9 2).bind fun v4 => (onO h v4 7 (f_Sk_planets v4 h)).bind fun r5 => if r5 = 0 then (some (0, (-1), h)) else ((gR h a0 9 3).bind fun v7 => (gR h a0 9 2).bind fun v8 => (onO h v7 7 (f_Sk_copyFrom fl v7 v8 h)).bind fun h9 => f_SS_again_b47 fl a0 x1 fl 1 h9)) else (j1))
set_option maxRecDepth 100000 in
set_option maxHeartbeats 4000000 in
theorem b_SS_again_47 {p : Program} {l : Launch} {e : Env} {s : State} {m : MethodId} {args : Array Value} {below : List Frame} {meth : Method} {c : Code} {Q : State → Prop} {w : hp_W} {out : Nat × Int32 × hp_M} (fl : Nat)   (a0 : Nat) (x1 : Int32) (C : Cx p m c cX10_again 3 s args RX10 w) (hst : l.stackTraces = false) (hr : meth.sig.returnType = some .int) (hlk : meth.locks = false) (hno : ∀ x ∈ c.exceptionTable.toList, False) (hQ : QX below w args s ({ frames := 8, cells := 1, slots := 6, locals := 243 }) .int out = Q)  : ∀ (n : Nat) (x2 : Int32) (h : hp_M), J p l e ({ frames := 8, cells := 1, slots := 6, locals := 243 }) s m args below meth c Q w 3 0 0 47 [(0, .ref a0), (1, .int x1), (2, .int x2)] [] h (f_SS_again_b47 fl a0 x1 n x2 h) out := by
  intro n
  induction n with
  | zero => intro x2 h; exact j_none
  | succ n ih =>
    intro x2 h
    rw [f_SS_again_b47]
    refine j_iload_n C dX10_again_47 (i := 2) rfl rfl ?_
    refine j_iload_n C dX10_again_48 (i := 1) rfl rfl ?_
    refine j_icmpgt C (tgt := 81) dX10_again_49 (by decide) (fun q1010 => ?_) (fun q1010 => ?_)
    · refine j_iconst C (v := -1) dX10_again_81 (by decide) ?_
      exact e_iretX C hQ hr rfl hlk dX10_again_82 (Nat.le_of_ble_eq_true rfl) (Nat.le_of_ble_eq_true rfl)
    · refine j_aload_n C dX10_again_52 (i := 0) rfl rfl ?_
      refine j_getR C g_X10_23 dX10_again_53 (fun v1011 ev1011 => ?_)
      refine j_callVv C (As := []) (rest := []) k_X10_189 ⟨Nat.le_of_ble_eq_true rfl, Nat.le_of_ble_eq_true rfl⟩ rfl (Nat.le_of_ble_eq_true rfl) ⟨Nat.le_of_ble_eq_true rfl, Nat.le_of_ble_eq_true rfl⟩ rfl dX10_again_56 (fun r0 q0 => c_Sk_turn l w fl _ _ _ q0) (fun h1012 eh1012 _ => ?_)
      refine j_aload_n C dX10_again_59 (i := 0) rfl rfl ?_
      refine j_getR C g_X10_23 dX10_again_60 (fun v1013 ev1013 => ?_)
      refine j_aload_n C dX10_again_63 (i := 0) rfl rfl ?_
      refine j_getR C g_X10_19 dX10_again_64 (fun v1014 ev1014 => ?_)
      refine j_callVi C (As := [.ref _]) (rest := []) k_X10_202 ⟨Nat.le_of_ble_eq_true rfl, Nat.le_of_ble_eq_true rfl⟩ rfl (Nat.le_of_ble_eq_true rfl) ⟨Nat.le_of_ble_eq_true rfl, Nat.le_of_ble_eq_true rfl⟩ rfl dX10_again_67 (fun r0 q0 => c_Sk_standsAs l w fl _ _ _ _ q0) (fun r1015 er1015 nr1015 => ?_)
      refine j_ifeq C (tgt := 75) dX10_again_70 (by decide) (fun q1016 => ?_) (fun q1016 => ?_)
      · refine j_iinc C (v := x2 + 1) [(2, _), (0, _), (1, _)] dX10_again_75 rfl rfl (by decide) rfl ?_
        refine j_goto C (tgt := 47) dX10_again_78 (by decide) ?_
        exact j_sub [1, 2, 0] rfl (ih _ _)
      · refine j_iload_n C dX10_again_73 (i := 2) rfl rfl ?_
        exact e_iretX C hQ hr rfl hlk dX10_again_74 (Nat.le_of_ble_eq_true rfl) (Nat.le_of_ble_eq_true rfl)
set_option maxRecDepth 100000 in
set_option maxHeartbeats 4000000 in
theorem c_SS_again (l : Launch) (w : hp_W) (hst : l.stackTraces = false) (fl : Nat) (a0 : Nat) (x1 : Int32) (h : hp_M) (out : Nat × Int32 × hp_M) (hX : f_SS_again fl a0 x1 h = some out) : CX l w yX10_again cX10_again 3 .int ({ frames := 8, cells := 1, slots := 6, locals := 243 }) [.ref a0, .int x1] h out := by
  unfold f_SS_again at hX
  refine cx_of (by decide) (Nat.le_of_ble_eq_true rfl) hX ?_
  intro p e s m args below meth c Q C hr hlk hno hQ
  refine j_jn (P := fun j1 => J p l e ({ frames := 8, cells := 1, slots := 6, locals := 243 }) s m args below meth c Q w 3 0 0 12 [] [] h (j1) out) ?_ (fun j1 hj1 => ?_)
  · exact j_throw C (own := RX10) (text := "so many days can't be looked through") hst hno hlk hQ tf_2 tk_2 ti_2 (by decide +kernel) tw_2 tg_2 dX10_again_12 dX10_again_15 dX10_again_16 dX10_again_18 dX10_again_21 (Nat.le_of_ble_eq_true rfl) (Nat.le_of_ble_eq_true rfl) (Nat.le_of_ble_eq_true rfl) (Nat.le_of_ble_eq_true rfl) ⟨by decide, rfl⟩
  · refine j_iload_n C dX10_again_0 (i := 1) rfl rfl ?_
    refine j_iconst C (v := 1) dX10_again_1 (by decide) ?_
    refine j_icmplt C (tgt := 12) dX10_again_2 (by decide) (fun q2 => ?_) (fun q2 => ?_)
    · exact j_sub [] rfl (hj1)
    · refine j_iload_n C dX10_again_5 (i := 1) rfl rfl ?_
      refine j_sipush C (v := 2000) dX10_again_6 (by decide) ?_
      refine j_icmple C (tgt := 22) dX10_again_9 (by decide) (fun q3 => ?_) (fun q3 => ?_)
      · refine j_aload_n C dX10_again_22 (i := 0) rfl rfl ?_
        refine j_getR C g_X10_19 dX10_again_23 (fun v4 ev4 => ?_)
        refine j_callVi C (As := []) (rest := []) k_X10_199 ⟨Nat.le_of_ble_eq_true rfl, Nat.le_of_ble_eq_true rfl⟩ rfl (Nat.le_of_ble_eq_true rfl) ⟨Nat.le_of_ble_eq_true rfl, Nat.le_of_ble_eq_true rfl⟩ rfl dX10_again_26 (fun r0 q0 => c_Sk_planets l w _ _ _ q0) (fun r5 er5 nr5 => ?_)
        refine j_ifne C (tgt := 34) dX10_again_29 (by decide) (fun q6 => ?_) (fun q6 => ?_)
        · refine j_iconst C (v := -1) dX10_again_32 (by decide) ?_
          exact e_iretX C hQ hr rfl hlk dX10_again_33 (Nat.le_of_ble_eq_true rfl) (Nat.le_of_ble_eq_true rfl)
        · refine j_aload_n C dX10_again_34 (i := 0) rfl rfl ?_
          refine j_getR C g_X10_23 dX10_again_35 (fun v7 ev7 => ?_)
          refine j_aload_n C dX10_again_38 (i := 0) rfl rfl ?_
          refine j_getR C g_X10_19 dX10_again_39 (fun v8 ev8 => ?_)
          refine j_callVv C (As := [.ref _]) (rest := []) k_X10_179 ⟨Nat.le_of_ble_eq_true rfl, Nat.le_of_ble_eq_true rfl⟩ rfl (Nat.le_of_ble_eq_true rfl) ⟨Nat.le_of_ble_eq_true rfl, Nat.le_of_ble_eq_true rfl⟩ rfl dX10_again_42 (fun r0 q0 => c_Sk_copyFrom l w fl _ _ _ _ q0) (fun h9 eh9 _ => ?_)
          refine j_iconst C (v := 1) dX10_again_45 (by decide) ?_
          refine j_istore_n C [(2, _), (0, _), (1, _)] dX10_again_46 (i := 2) rfl (by decide) rfl ?_
          refine j_sub [1, 2, 0] rfl (b_SS_again_47 fl  _ _ C hst hr hlk hno hQ  _ _ _)
      · exact j_sub [] rfl (hj1)
def f_SS_advise_b50 (fl : Nat) (a0 : Nat) (x1 : Int32) (x2 : Int32) : Nat → Int32 → Int32 → Int32 → hp_M → Option (Nat × Int32 × hp_M)
  | 0, _, _, _, _ => none
  | n + 1, x3, x4, x5, h => if 36 ≤ x5 then (some (0, x3, h)) else (jn (fun (u1020 : Int32) (u1021 : Int32) (h1022 : hp_M) => f_SS_advise_b50 fl a0 x1 x2 n u1020 u1021 (x5 + 1) h1022) fun (j1019 : Int32 → Int32 → hp_M → Option (Nat × Int32 × hp_M)) => (gR h a0 9 3).bind fun v1023 => (gR h a0 9 2).bind fun v1024 => (onO h v1023 7 (f_Sk_copyFrom fl v1023 v1024 h)).bind fun h1025 => (gR h1025 a0 9 3).bind fun v1026 => (gR h1025 a0 9 2).bind fun v1027 => (onO h1025 v1027 7 (f_Sk_angleOf v1027 x1 h1025)).bind fun r1028 => (remI (r1028 + (x5 * 10)) 360).bind fun v1029 => (onO h1025 v1026 7 (f_Sk_putAt v1026 x1 v1029 h1025)).bind fun h1030 => (gR h1030 a0 9 3).bind fun v1031 => (gR h1030 a0 9 4).bind fun v1032 => (onO h1030 v1031 7 (f_Sk_live fl v1031 x2 v1032 h1030)).bind fun r1033 => if r1033.1 ≤ x4 then (j1019 x3 x4 r1033.2) else (j1019 x5 r1033.1 r1033.2))
def f_SS_advise (fl : Nat) (a0 : Nat) (x1 : Int32) (x2 : Int32) (h : hp_M) : Option (Nat × Int32 × hp_M) := (gR h a0 9 2).bind fun v1 => (onO h v1 7 (f_Sk_hasPlanet v1 x1 h)).bind fun r2 => if r2 = 0 then (some (3, (0 : Int32), ((h.1, h.2 + 1) : hp_M))) else (jn (some (2, (0 : Int32), ((h.1, h.2 + 1) : hp_M))) fun (j4 : Option (Nat × Int32 × hp_M)) => if x2 < 1 then (j4) else (if x2 ≤ 60 then (f_SS_advise_b50 fl a0 x1 x2 fl 0 (-1) 0 h) else (j4)))
set_option maxRecDepth 100000 in
set_option maxHeartbeats 4000000 in
theorem b_SS_advise_50 {p : Program} {l : Launch} {e : Env} {s : State} {m : MethodId} {args : Array Value} {below : List Frame} {meth : Method} {c : Code} {Q : State → Prop} {w : hp_W} {out : Nat × Int32 × hp_M} (fl : Nat)   (a0 : Nat) (x1 : Int32) (x2 : Int32) (C : Cx p m c cX10_advise 7 s args RX10 w) (hst : l.stackTraces = false) (hr : meth.sig.returnType = some .int) (hlk : meth.locks = false) (hno : ∀ x ∈ c.exceptionTable.toList, False) (hQ : QX below w args s ({ frames := 11, cells := 1, slots := 6, locals := 323 }) .int out = Q)  : ∀ (n : Nat) (x3 : Int32) (x4 : Int32) (x5 : Int32) (h : hp_M), J p l e ({ frames := 11, cells := 1, slots := 6, locals := 323 }) s m args below meth c Q w 7 0 0 50 [(0, .ref a0), (1, .int x1), (2, .int x2), (3, .int x3), (4, .int x4), (5, .int x5)] [] h (f_SS_advise_b50 fl a0 x1 x2 n x3 x4 x5 h) out := by
  intro n
  induction n with
  | zero => intro x3 x4 x5 h; exact j_none
  | succ n ih =>
    intro x3 x4 x5 h
    rw [f_SS_advise_b50]
    refine j_iload C dX10_advise_50 rfl ?_
    refine j_bipush C (v := 36) dX10_advise_52 (by decide) ?_
    refine j_icmpge C (tgt := 128) dX10_advise_54 (by decide) (fun q1007 => ?_) (fun q1007 => ?_)
    · refine j_iload_n C dX10_advise_128 (i := 3) rfl rfl ?_
      exact e_iretX C hQ hr rfl hlk dX10_advise_129 (Nat.le_of_ble_eq_true rfl) (Nat.le_of_ble_eq_true rfl)
    · refine j_jn (P := fun (j1019 : Int32 → Int32 → hp_M → Option (Nat × Int32 × hp_M)) => ∀ (u1020 : Int32) (u1021 : Int32) (h1022 : hp_M), J p l e ({ frames := 11, cells := 1, slots := 6, locals := 323 }) s m args below meth c Q w 7 0 0 122 [(0, .ref a0), (1, .int x1), (2, .int x2), (3, .int u1020), (4, .int u1021), (5, .int x5)] [] h1022 (j1019 u1020 u1021 h1022) out) ?_ (fun j1019 hj1019 => ?_)
      · intro u1020 u1021 h1022
        refine j_iinc C (v := x5 + 1) [(5, _), (0, _), (1, _), (2, _), (3, _), (4, _)] dX10_advise_122 rfl rfl (by decide) rfl ?_
        refine j_goto C (tgt := 50) dX10_advise_125 (by decide) ?_
        exact j_sub [1, 2, 3, 4, 5, 0] rfl (ih _ _ _ _)
      · refine j_aload_n C dX10_advise_57 (i := 0) rfl rfl ?_
        refine j_getR C g_X10_23 dX10_advise_58 (fun v1023 ev1023 => ?_)
        refine j_aload_n C dX10_advise_61 (i := 0) rfl rfl ?_
        refine j_getR C g_X10_19 dX10_advise_62 (fun v1024 ev1024 => ?_)
        refine j_callVv C (As := [.ref _]) (rest := []) k_X10_179 ⟨Nat.le_of_ble_eq_true rfl, Nat.le_of_ble_eq_true rfl⟩ rfl (Nat.le_of_ble_eq_true rfl) ⟨Nat.le_of_ble_eq_true rfl, Nat.le_of_ble_eq_true rfl⟩ rfl dX10_advise_65 (fun r0 q0 => c_Sk_copyFrom l w fl _ _ _ _ q0) (fun h1025 eh1025 _ => ?_)
        refine j_aload_n C dX10_advise_68 (i := 0) rfl rfl ?_
        refine j_getR C g_X10_23 dX10_advise_69 (fun v1026 ev1026 => ?_)
        refine j_iload_n C dX10_advise_72 (i := 1) rfl rfl ?_
        refine j_aload_n C dX10_advise_73 (i := 0) rfl rfl ?_
        refine j_getR C g_X10_19 dX10_advise_74 (fun v1027 ev1027 => ?_)
        refine j_iload_n C dX10_advise_77 (i := 1) rfl rfl ?_
        refine j_callVi C (As := [.int _]) (rest := [_, _]) k_X10_111 ⟨Nat.le_of_ble_eq_true rfl, Nat.le_of_ble_eq_true rfl⟩ rfl (Nat.le_of_ble_eq_true rfl) ⟨Nat.le_of_ble_eq_true rfl, Nat.le_of_ble_eq_true rfl⟩ rfl dX10_advise_78 (fun r0 q0 => c_Sk_angleOf l w _ _ _ _ q0) (fun r1028 er1028 nr1028 => ?_)
        refine j_iload C dX10_advise_81 rfl ?_
        refine j_bipush C (v := 10) dX10_advise_83 (by decide) ?_
        refine j_imul C dX10_advise_85 ?_
        refine j_iadd C dX10_advise_86 ?_
        refine j_sipush C (v := 360) dX10_advise_87 (by decide) ?_
        refine j_irem C dX10_advise_90 (fun v1029 ev1029 => ?_)
        refine j_callVv C (As := [.int _, .int _]) (rest := []) k_X10_114 ⟨Nat.le_of_ble_eq_true rfl, Nat.le_of_ble_eq_true rfl⟩ rfl (Nat.le_of_ble_eq_true rfl) ⟨Nat.le_of_ble_eq_true rfl, Nat.le_of_ble_eq_true rfl⟩ rfl dX10_advise_91 (fun r0 q0 => c_Sk_putAt l w _ _ _ _ _ q0) (fun h1030 eh1030 _ => ?_)
        refine j_aload_n C dX10_advise_94 (i := 0) rfl rfl ?_
        refine j_getR C g_X10_23 dX10_advise_95 (fun v1031 ev1031 => ?_)
        refine j_iload_n C dX10_advise_98 (i := 2) rfl rfl ?_
        refine j_aload_n C dX10_advise_99 (i := 0) rfl rfl ?_
        refine j_getR C g_X10_29 dX10_advise_100 (fun v1032 ev1032 => ?_)
        refine j_callVim C (As := [.int _, .ref _]) (rest := []) k_X10_146 ⟨Nat.le_of_ble_eq_true rfl, Nat.le_of_ble_eq_true rfl⟩ rfl (Nat.le_of_ble_eq_true rfl) ⟨Nat.le_of_ble_eq_true rfl, Nat.le_of_ble_eq_true rfl⟩ rfl dX10_advise_103 (fun r0 q0 => c_Sk_live l w fl _ _ _ _ _ q0) (fun r1033 er1033 nr1033 => ?_)
        refine j_istore C [(6, _), (0, _), (1, _), (2, _), (3, _), (4, _), (5, _)] dX10_advise_106 (by decide) rfl ?_
        refine j_iload C dX10_advise_108 rfl ?_
        refine j_iload C dX10_advise_110 rfl ?_
        refine j_icmple C (tgt := 122) dX10_advise_112 (by decide) (fun q1034 => ?_) (fun q1034 => ?_)
        · exact j_sub [1, 2, 3, 4, 5, 6] rfl (hj1019 _ _ _)
        · refine j_iload C dX10_advise_115 rfl ?_
          refine j_istore C [(4, _), (6, _), (0, _), (1, _), (2, _), (3, _), (5, _)] dX10_advise_117 (by decide) rfl ?_
          refine j_iload C dX10_advise_119 rfl ?_
          refine j_istore_n C [(3, _), (4, _), (6, _), (0, _), (1, _), (2, _), (5, _)] dX10_advise_121 (i := 3) rfl (by decide) rfl ?_
          exact j_sub [3, 4, 5, 0, 1, 6] rfl (hj1019 _ _ _)
set_option maxRecDepth 100000 in
set_option maxHeartbeats 4000000 in
theorem c_SS_advise (l : Launch) (w : hp_W) (hst : l.stackTraces = false) (fl : Nat) (a0 : Nat) (x1 : Int32) (x2 : Int32) (h : hp_M) (out : Nat × Int32 × hp_M) (hX : f_SS_advise fl a0 x1 x2 h = some out) : CX l w yX10_advise cX10_advise 7 .int ({ frames := 11, cells := 1, slots := 6, locals := 323 }) [.ref a0, .int x1, .int x2] h out := by
  unfold f_SS_advise at hX
  refine cx_of (by decide) (Nat.le_of_ble_eq_true rfl) hX ?_
  intro p e s m args below meth c Q C hr hlk hno hQ
  refine j_aload_n C dX10_advise_0 (i := 0) rfl rfl ?_
  refine j_getR C g_X10_19 dX10_advise_1 (fun v1 ev1 => ?_)
  refine j_iload_n C dX10_advise_4 (i := 1) rfl rfl ?_
  refine j_callVi C (As := [.int _]) (rest := []) k_X10_96 ⟨Nat.le_of_ble_eq_true rfl, Nat.le_of_ble_eq_true rfl⟩ rfl (Nat.le_of_ble_eq_true rfl) ⟨Nat.le_of_ble_eq_true rfl, Nat.le_of_ble_eq_true rfl⟩ rfl dX10_advise_5 (fun r0 q0 => c_Sk_hasPlanet l w _ _ _ _ q0) (fun r2 er2 nr2 => ?_)
  refine j_ifne C (tgt := 21) dX10_advise_8 (by decide) (fun q3 => ?_) (fun q3 => ?_)
  · exact j_throw C (own := RX10) (text := "there is no such planet") hst hno hlk hQ tf_3 tk_3 ti_3 (by decide +kernel) tw_3 tg_3 dX10_advise_11 dX10_advise_14 dX10_advise_15 dX10_advise_17 dX10_advise_20 (Nat.le_of_ble_eq_true rfl) (Nat.le_of_ble_eq_true rfl) (Nat.le_of_ble_eq_true rfl) (Nat.le_of_ble_eq_true rfl) ⟨by decide, rfl⟩
  · refine j_jn (P := fun j4 => J p l e ({ frames := 11, cells := 1, slots := 6, locals := 323 }) s m args below meth c Q w 7 0 0 32 [] [] h (j4) out) ?_ (fun j4 hj4 => ?_)
    · exact j_throw C (own := RX10) (text := "so many days can't be looked through") hst hno hlk hQ tf_2 tk_2 ti_2 (by decide +kernel) tw_2 tg_2 dX10_advise_32 dX10_advise_35 dX10_advise_36 dX10_advise_38 dX10_advise_41 (Nat.le_of_ble_eq_true rfl) (Nat.le_of_ble_eq_true rfl) (Nat.le_of_ble_eq_true rfl) (Nat.le_of_ble_eq_true rfl) ⟨by decide, rfl⟩
    · refine j_iload_n C dX10_advise_21 (i := 2) rfl rfl ?_
      refine j_iconst C (v := 1) dX10_advise_22 (by decide) ?_
      refine j_icmplt C (tgt := 32) dX10_advise_23 (by decide) (fun q5 => ?_) (fun q5 => ?_)
      · exact j_sub [] rfl (hj4)
      · refine j_iload_n C dX10_advise_26 (i := 2) rfl rfl ?_
        refine j_bipush C (v := 60) dX10_advise_27 (by decide) ?_
        refine j_icmple C (tgt := 42) dX10_advise_29 (by decide) (fun q6 => ?_) (fun q6 => ?_)
        · refine j_iconst C (v := 0) dX10_advise_42 (by decide) ?_
          refine j_istore_n C [(3, _), (0, _), (1, _), (2, _)] dX10_advise_43 (i := 3) rfl (by decide) rfl ?_
          refine j_iconst C (v := -1) dX10_advise_44 (by decide) ?_
          refine j_istore C [(4, _), (3, _), (0, _), (1, _), (2, _)] dX10_advise_45 (by decide) rfl ?_
          refine j_iconst C (v := 0) dX10_advise_47 (by decide) ?_
          refine j_istore C [(5, _), (4, _), (3, _), (0, _), (1, _), (2, _)] dX10_advise_48 (by decide) rfl ?_
          refine j_sub [3, 4, 5, 2, 1, 0] rfl (b_SS_advise_50 fl  _ _ _ C hst hr hlk hno hQ  _ _ _ _ _)
        · exact j_sub [] rfl (hj4)
def f_SS_mean_b18 (fl : Nat) (a0 : Nat) (x1 : Int32) (h : hp_M) (k46 : Int32 → Option (UInt64)) : Nat → Int32 → Int32 → Option (UInt64)
  | 0, _, _ => none
  | n + 1, x2, x3 => (gR h a0 9 4).bind fun v1008 => (onO h v1008 1 (f_Bk_rules v1008 h)).bind fun r1009 => if r1009 ≤ x3 then (k46 x2) else ((gR h a0 9 2).bind fun v1011 => (onO h v1011 7 (f_Sk_writtenBy v1011 x3 h)).bind fun r1012 => f_SS_mean_b18 fl a0 x1 h k46 n (x2 + r1012) (x3 + 1))
def f_SS_mean (fl : Nat) (a0 : Nat) (h : hp_M) : Option (UInt64) := (gR h a0 9 2).bind fun v1 => (onO h v1 7 (f_Sk_day v1 h)).bind fun r2 => if r2 = 0 then (some 0) else (f_SS_mean_b18 fl a0 r2 h (fun (u4 : Int32) => (ddC (FP.i2d u4) (FP.i2d r2)).bind fun v5 => some v5) fl 0 0)
set_option maxRecDepth 100000 in
set_option maxHeartbeats 4000000 in
theorem b_SS_mean_18 {p : Program} {l : Launch} {e : Env} {s : State} {m : MethodId} {args : Array Value} {below : List Frame} {meth : Method} {c : Code} {Q : State → Prop} {w : hp_W} {out : UInt64} (fl : Nat)   (a0 : Nat) (x1 : Int32) (h : hp_M) (k46 : Int32 → Option (UInt64)) (C : Cx p m c cX10_mean 4 s args RX10 w) (hr : meth.sig.returnType = some .double) (hlk : meth.locks = false) (hnm : meth.name = "mean") (hQ : QM below w args s ({ frames := 1, cells := 0, slots := 0, locals := 21 }) (some .double) (some (.double out)) h = Q) (hk46 : ∀ (z2 : Int32), J p l e ({ frames := 1, cells := 0, slots := 0, locals := 21 }) s m args below meth c Q w 4 0 0 46 [(1, .int x1), (2, .int z2)] [] h (k46 z2) out) : ∀ (n : Nat) (x2 : Int32) (x3 : Int32), J p l e ({ frames := 1, cells := 0, slots := 0, locals := 21 }) s m args below meth c Q w 4 0 0 18 [(0, .ref a0), (1, .int x1), (2, .int x2), (3, .int x3)] [] h (f_SS_mean_b18 fl a0 x1 h k46 n x2 x3) out := by
  intro n
  induction n with
  | zero => intro x2 x3; exact j_none
  | succ n ih =>
    intro x2 x3
    rw [f_SS_mean_b18]
    refine j_iload_n C dX10_mean_18 (i := 3) rfl rfl ?_
    refine j_aload_n C dX10_mean_19 (i := 0) rfl rfl ?_
    refine j_getR C g_X10_29 dX10_mean_20 (fun v1008 ev1008 => ?_)
    refine j_callVi C (As := []) (rest := [_]) k_X10_136 ⟨Nat.le_of_ble_eq_true rfl, Nat.le_of_ble_eq_true rfl⟩ rfl (Nat.le_of_ble_eq_true rfl) ⟨Nat.le_of_ble_eq_true rfl, Nat.le_of_ble_eq_true rfl⟩ rfl dX10_mean_23 (fun r0 q0 => c_Bk_rules l w _ _ _ q0) (fun r1009 er1009 nr1009 => ?_)
    refine j_icmpge C (tgt := 46) dX10_mean_26 (by decide) (fun q1010 => ?_) (fun q1010 => ?_)
    · exact j_sub [1, 2] rfl (hk46 _)
    · refine j_iload_n C dX10_mean_29 (i := 2) rfl rfl ?_
      refine j_aload_n C dX10_mean_30 (i := 0) rfl rfl ?_
      refine j_getR C g_X10_19 dX10_mean_31 (fun v1011 ev1011 => ?_)
      refine j_iload_n C dX10_mean_34 (i := 3) rfl rfl ?_
      refine j_callVi C (As := [.int _]) (rest := [_]) k_X10_141 ⟨Nat.le_of_ble_eq_true rfl, Nat.le_of_ble_eq_true rfl⟩ rfl (Nat.le_of_ble_eq_true rfl) ⟨Nat.le_of_ble_eq_true rfl, Nat.le_of_ble_eq_true rfl⟩ rfl dX10_mean_35 (fun r0 q0 => c_Sk_writtenBy l w _ _ _ _ q0) (fun r1012 er1012 nr1012 => ?_)
      refine j_iadd C dX10_mean_38 ?_
      refine j_istore_n C [(2, _), (0, _), (1, _), (3, _)] dX10_mean_39 (i := 2) rfl (by decide) rfl ?_
      refine j_iinc C (v := x3 + 1) [(3, _), (2, _), (0, _), (1, _)] dX10_mean_40 rfl rfl (by decide) rfl ?_
      refine j_goto C (tgt := 18) dX10_mean_43 (by decide) ?_
      exact j_sub [2, 3, 1, 0] rfl (ih _ _)
set_option maxRecDepth 100000 in
set_option maxHeartbeats 4000000 in
theorem c_SS_mean (l : Launch) (w : hp_W) (fl : Nat) (a0 : Nat) (h : hp_M) (out : UInt64) (hX : f_SS_mean fl a0 h = some out) : CT l w yX10_mean cX10_mean 4 (some .double) ({ frames := 1, cells := 0, slots := 0, locals := 21 }) [.ref a0] h (some (.double out)) h := by
  unfold f_SS_mean at hX
  refine ct_of (by decide +kernel) (Nat.le_of_ble_eq_true rfl) hX ?_
  intro p e s m args below meth c Q C hr hlk hnm hQ
  refine j_aload_n C dX10_mean_0 (i := 0) rfl rfl ?_
  refine j_getR C g_X10_19 dX10_mean_1 (fun v1 ev1 => ?_)
  refine j_callVi C (As := []) (rest := []) k_X10_206 ⟨Nat.le_of_ble_eq_true rfl, Nat.le_of_ble_eq_true rfl⟩ rfl (Nat.le_of_ble_eq_true rfl) ⟨Nat.le_of_ble_eq_true rfl, Nat.le_of_ble_eq_true rfl⟩ rfl dX10_mean_4 (fun r0 q0 => c_Sk_day l w _ _ _ q0) (fun r2 er2 nr2 => ?_)
  refine j_istore_n C [(1, _), (0, _)] dX10_mean_7 (i := 1) rfl (by decide) rfl ?_
  refine j_iload_n C dX10_mean_8 (i := 1) rfl rfl ?_
  refine j_ifne C (tgt := 14) dX10_mean_9 (by decide) (fun q3 => ?_) (fun q3 => ?_)
  · refine j_dconst0 C dX10_mean_12 ?_
    exact e_dretR C hQ hr hlk dX10_mean_13 (Nat.le_of_ble_eq_true rfl) (Nat.le_of_ble_eq_true rfl)
  · refine j_iconst C (v := 0) dX10_mean_14 (by decide) ?_
    refine j_istore_n C [(2, _), (1, _), (0, _)] dX10_mean_15 (i := 2) rfl (by decide) rfl ?_
    refine j_iconst C (v := 0) dX10_mean_16 (by decide) ?_
    refine j_istore_n C [(3, _), (2, _), (1, _), (0, _)] dX10_mean_17 (i := 3) rfl (by decide) rfl ?_
    refine j_sub [3, 2, 1, 0] rfl (b_SS_mean_18 fl  _ _ _ _ C hr hlk hnm hQ (fun u4 => ?_) _ _ _)
    refine j_iload_n C dX10_mean_46 (i := 2) rfl rfl ?_
    refine j_i2d C dX10_mean_47 ?_
    refine j_iload_n C dX10_mean_48 (i := 1) rfl rfl ?_
    refine j_i2d C dX10_mean_49 ?_
    refine j_ddivC C dX10_mean_50 (fun v5 ev5 => ?_)
    exact e_dretR C hQ hr hlk dX10_mean_51 (Nat.le_of_ble_eq_true rfl) (Nat.le_of_ble_eq_true rfl)
def f_SS_mixed (x0 : Int64) (x2 : Int32) (h : hp_M) : Option (Int64) := some ((x0 * 31) + (Int32.toInt64 x2))
set_option maxRecDepth 100000 in
set_option maxHeartbeats 4000000 in
theorem c_SS_mixed (l : Launch) (w : hp_W) (x0 : Int64) (x2 : Int32) (h : hp_M) (out : Int64) (hX : f_SS_mixed x0 x2 h = some out) : CT l w yX10_mixed cX10_mixed 3 (some .long) ({ frames := 0, cells := 0, slots := 0, locals := 0 }) [.long x0, .int x2] h (some (.long out)) h := by
  unfold f_SS_mixed at hX
  refine ct_of (by decide +kernel) (Nat.le_of_ble_eq_true rfl) hX ?_
  intro p e s m args below meth c Q C hr hlk hnm hQ
  refine j_lload_n C dX10_mixed_0 (i := 0) rfl rfl ?_
  refine j_ldc2 C dX10_mixed_1 q_X10_218 ?_
  refine j_lmul C dX10_mixed_4 ?_
  refine j_iload_n C dX10_mixed_5 (i := 2) rfl rfl ?_
  refine j_i2l C dX10_mixed_6 ?_
  refine j_ladd C dX10_mixed_7 ?_
  exact e_lretR C hQ hr hlk dX10_mixed_8 (Nat.le_of_ble_eq_true rfl) (Nat.le_of_ble_eq_true rfl)
def f_SS_digest_b6 (fl : Nat) (a0 : Nat) (h : hp_M) (k28 : Int64 → Option (Int64)) : Nat → Int64 → Int32 → Option (Int64)
  | 0, _, _ => none
  | n + 1, x1, x3 => if 8 ≤ x3 then (k28 x1) else ((onO h a0 9 (f_SS_counted fl a0 x3 h)).bind fun r1004 => (f_SS_mixed x1 r1004 h).bind fun r1005 => f_SS_digest_b6 fl a0 h k28 n r1005 (x3 + 1))
def f_SS_digest_b44 (fl : Nat) (a0 : Nat) (x3 : Int32) (h : hp_M) (k72 : Int64 → Option (Int64)) : Nat → Int64 → Int32 → Option (Int64)
  | 0, _, _ => none
  | n + 1, x1, x4 => if 7 ≤ x4 then (k72 x1) else ((gR h a0 9 2).bind fun v2014 => (onO h v2014 7 (f_Sk_factOf v2014 x3 x4 h)).bind fun r2015 => (f_SS_mixed x1 r2015 h).bind fun r2016 => f_SS_digest_b44 fl a0 x3 h k72 n r2016 (x4 + 1))
def f_SS_digest_b30 (fl : Nat) (a0 : Nat) (h : hp_M) (k78 : Int64 → Option (Int64)) : Nat → Int64 → Int32 → Option (Int64)
  | 0, _, _ => none
  | n + 1, x1, x3 => (gR h a0 9 2).bind fun v1007 => (onO h v1007 7 (f_Sk_planets v1007 h)).bind fun r1008 => if r1008 ≤ x3 then (k78 x1) else (f_SS_digest_b44 fl a0 x3 h (fun (u1010 : Int64) => f_SS_digest_b30 fl a0 h k78 n u1010 (x3 + 1)) fl x1 0)
def f_SS_digest_b107 (fl : Nat) (a0 : Nat) (x3 : Int32) (h : hp_M) (k141 : Int64 → Option (Int64)) : Nat → Int64 → Int32 → Option (Int64)
  | 0, _, _ => none
  | n + 1, x1, x4 => (gR h a0 9 4).bind fun v2024 => (onO h v2024 1 (f_Bk_lettersOf v2024 x3 h)).bind fun r2025 => if r2025 ≤ x4 then (k141 x1) else ((gR h a0 9 4).bind fun v2027 => (onO h v2027 1 (f_Bk_letterOf v2027 x3 x4 h)).bind fun r2028 => (f_SS_mixed x1 r2028 h).bind fun r2029 => f_SS_digest_b107 fl a0 x3 h k141 n r2029 (x4 + 1))
def f_SS_digest_b80 (fl : Nat) (a0 : Nat) (h : hp_M) (k147 : Int64 → Option (Int64)) : Nat → Int64 → Int32 → Option (Int64)
  | 0, _, _ => none
  | n + 1, x1, x3 => (gR h a0 9 4).bind fun v1013 => (onO h v1013 1 (f_Bk_alphabets v1013 h)).bind fun r1014 => if r1014 ≤ x3 then (k147 x1) else ((gR h a0 9 4).bind fun v1016 => (onO h v1016 1 (f_Bk_lettersOf v1016 x3 h)).bind fun r1017 => (f_SS_mixed x1 r1017 h).bind fun r1018 => f_SS_digest_b107 fl a0 x3 h (fun (u1019 : Int64) => f_SS_digest_b80 fl a0 h k147 n u1019 (x3 + 1)) fl r1018 0)
def f_SS_digest_b149 (fl : Nat) (a0 : Nat) (h : hp_M) (k179 : Int64 → Option (Int64)) : Nat → Int64 → Int32 → Option (Int64)
  | 0, _, _ => none
  | n + 1, x1, x3 => (gR h a0 9 4).bind fun v1009 => (onO h v1009 1 (f_Bk_rules v1009 h)).bind fun r1010 => if r1010 ≤ x3 then (k179 x1) else ((gR h a0 9 2).bind fun v1012 => (onO h v1012 7 (f_Sk_writtenBy v1012 x3 h)).bind fun r1013 => (f_SS_mixed x1 r1013 h).bind fun r1014 => f_SS_digest_b149 fl a0 h k179 n r1014 (x3 + 1))
def f_SS_digest_b181 (fl : Nat) (a0 : Nat) (h : hp_M) : Nat → Int64 → Int32 → Option (Int64)
  | 0, _, _ => none
  | n + 1, x1, x3 => (gR h a0 9 2).bind fun v1005 => (onO h v1005 7 (f_Sk_paper v1005 h)).bind fun r1006 => (onO h r1006 2 (f_Pp_size r1006 h)).bind fun r1007 => if r1007 ≤ x3 then (some x1) else ((gR h a0 9 2).bind fun v1009 => (onO h v1009 7 (f_Sk_paper v1009 h)).bind fun r1010 => (onO h r1010 2 (f_Pp_at r1010 x3 h)).bind fun r1011 => (f_SS_mixed x1 r1011 h).bind fun r1012 => f_SS_digest_b181 fl a0 h n r1012 (x3 + 1))
def f_SS_digest (fl : Nat) (a0 : Nat) (h : hp_M) : Option (Int64) := f_SS_digest_b6 fl a0 h (fun (u1 : Int64) => f_SS_digest_b30 fl a0 h (fun (u2 : Int64) => f_SS_digest_b80 fl a0 h (fun (u3 : Int64) => f_SS_digest_b149 fl a0 h (fun (u4 : Int64) => f_SS_digest_b181 fl a0 h fl u4 0) fl u3 0) fl u2 0) fl u1 0) fl 727 0
set_option maxRecDepth 100000 in
set_option maxHeartbeats 4000000 in
theorem b_SS_digest_6 {p : Program} {l : Launch} {e : Env} {s : State} {m : MethodId} {args : Array Value} {below : List Frame} {meth : Method} {c : Code} {Q : State → Prop} {w : hp_W} {out : Int64} (fl : Nat)   (a0 : Nat) (h : hp_M) (k28 : Int64 → Option (Int64)) (C : Cx p m c cX10_digest 5 s args RX10 w) (hr : meth.sig.returnType = some .long) (hlk : meth.locks = false) (hnm : meth.name = "digest") (hQ : QM below w args s ({ frames := 9, cells := 0, slots := 0, locals := 271 }) (some .long) (some (.long out)) h = Q) (hk28 : ∀ (z1 : Int64), J p l e ({ frames := 9, cells := 0, slots := 0, locals := 271 }) s m args below meth c Q w 5 0 0 28 [(0, .ref a0), (1, .long z1)] [] h (k28 z1) out) : ∀ (n : Nat) (x1 : Int64) (x3 : Int32), J p l e ({ frames := 9, cells := 0, slots := 0, locals := 271 }) s m args below meth c Q w 5 0 0 6 [(0, .ref a0), (1, .long x1), (3, .int x3)] [] h (f_SS_digest_b6 fl a0 h k28 n x1 x3) out := by
  intro n
  induction n with
  | zero => intro x1 x3; exact j_none
  | succ n ih =>
    intro x1 x3
    rw [f_SS_digest_b6]
    refine j_iload_n C dX10_digest_6 (i := 3) rfl rfl ?_
    refine j_bipush C (v := 8) dX10_digest_7 (by decide) ?_
    refine j_icmpge C (tgt := 28) dX10_digest_9 (by decide) (fun q1003 => ?_) (fun q1003 => ?_)
    · exact j_sub [0, 1] rfl (hk28 _)
    · refine j_lload_n C dX10_digest_12 (i := 1) rfl rfl ?_
      refine j_aload_n C dX10_digest_13 (i := 0) rfl rfl ?_
      refine j_iload_n C dX10_digest_14 (i := 3) rfl rfl ?_
      refine j_callVi C (As := [.int _]) (rest := [_]) k_X10_92 ⟨Nat.le_of_ble_eq_true rfl, Nat.le_of_ble_eq_true rfl⟩ rfl (Nat.le_of_ble_eq_true rfl) ⟨Nat.le_of_ble_eq_true rfl, Nat.le_of_ble_eq_true rfl⟩ rfl dX10_digest_15 (fun r0 q0 => c_SS_counted l w fl _ _ _ _ q0) (fun r1004 er1004 nr1004 => ?_)
      refine j_callSl C (As := [.long _, .int _]) (rest := []) k_X10_211 ⟨Nat.le_of_ble_eq_true rfl, Nat.le_of_ble_eq_true rfl⟩ rfl (Nat.le_of_ble_eq_true rfl) ⟨Nat.le_of_ble_eq_true rfl, Nat.le_of_ble_eq_true rfl⟩ rfl dX10_digest_18 (fun r0 q0 => c_SS_mixed l w _ _ _ _ q0) (fun r1005 er1005 nr1005 => ?_)
      refine j_lstore_n C [(1, _), (0, _), (3, _)] dX10_digest_21 (i := 1) rfl (by decide) rfl ?_
      refine j_iinc C (v := x3 + 1) [(3, _), (1, _), (0, _)] dX10_digest_22 rfl rfl (by decide) rfl ?_
      refine j_goto C (tgt := 6) dX10_digest_25 (by decide) ?_
      exact j_sub [2, 1, 0] rfl (ih _ _)
set_option maxRecDepth 100000 in
set_option maxHeartbeats 4000000 in
theorem b_SS_digest_44 {p : Program} {l : Launch} {e : Env} {s : State} {m : MethodId} {args : Array Value} {below : List Frame} {meth : Method} {c : Code} {Q : State → Prop} {w : hp_W} {out : Int64} (fl : Nat)   (a0 : Nat) (x3 : Int32) (h : hp_M) (k72 : Int64 → Option (Int64)) (C : Cx p m c cX10_digest 5 s args RX10 w) (hr : meth.sig.returnType = some .long) (hlk : meth.locks = false) (hnm : meth.name = "digest") (hQ : QM below w args s ({ frames := 9, cells := 0, slots := 0, locals := 271 }) (some .long) (some (.long out)) h = Q) (hk72 : ∀ (z1 : Int64), J p l e ({ frames := 9, cells := 0, slots := 0, locals := 271 }) s m args below meth c Q w 5 0 0 72 [(0, .ref a0), (1, .long z1), (3, .int x3)] [] h (k72 z1) out) : ∀ (n : Nat) (x1 : Int64) (x4 : Int32), J p l e ({ frames := 9, cells := 0, slots := 0, locals := 271 }) s m args below meth c Q w 5 0 0 44 [(0, .ref a0), (1, .long x1), (3, .int x3), (4, .int x4)] [] h (f_SS_digest_b44 fl a0 x3 h k72 n x1 x4) out := by
  intro n
  induction n with
  | zero => intro x1 x4; exact j_none
  | succ n ih =>
    intro x1 x4
    rw [f_SS_digest_b44]
    refine j_iload C dX10_digest_44 rfl ?_
    refine j_bipush C (v := 7) dX10_digest_46 (by decide) ?_
    refine j_icmpge C (tgt := 72) dX10_digest_48 (by decide) (fun q2013 => ?_) (fun q2013 => ?_)
    · exact j_sub [0, 1, 2] rfl (hk72 _)
    · refine j_lload_n C dX10_digest_51 (i := 1) rfl rfl ?_
      refine j_aload_n C dX10_digest_52 (i := 0) rfl rfl ?_
      refine j_getR C g_X10_19 dX10_digest_53 (fun v2014 ev2014 => ?_)
      refine j_iload_n C dX10_digest_56 (i := 3) rfl rfl ?_
      refine j_iload C dX10_digest_57 rfl ?_
      refine j_callVi C (As := [.int _, .int _]) (rest := [_]) k_X10_101 ⟨Nat.le_of_ble_eq_true rfl, Nat.le_of_ble_eq_true rfl⟩ rfl (Nat.le_of_ble_eq_true rfl) ⟨Nat.le_of_ble_eq_true rfl, Nat.le_of_ble_eq_true rfl⟩ rfl dX10_digest_59 (fun r0 q0 => c_Sk_factOf l w _ _ _ _ _ q0) (fun r2015 er2015 nr2015 => ?_)
      refine j_callSl C (As := [.long _, .int _]) (rest := []) k_X10_211 ⟨Nat.le_of_ble_eq_true rfl, Nat.le_of_ble_eq_true rfl⟩ rfl (Nat.le_of_ble_eq_true rfl) ⟨Nat.le_of_ble_eq_true rfl, Nat.le_of_ble_eq_true rfl⟩ rfl dX10_digest_62 (fun r0 q0 => c_SS_mixed l w _ _ _ _ q0) (fun r2016 er2016 nr2016 => ?_)
      refine j_lstore_n C [(1, _), (0, _), (3, _), (4, _)] dX10_digest_65 (i := 1) rfl (by decide) rfl ?_
      refine j_iinc C (v := x4 + 1) [(4, _), (1, _), (0, _), (3, _)] dX10_digest_66 rfl rfl (by decide) rfl ?_
      refine j_goto C (tgt := 44) dX10_digest_69 (by decide) ?_
      exact j_sub [2, 1, 3, 0] rfl (ih _ _)
set_option maxRecDepth 100000 in
set_option maxHeartbeats 4000000 in
theorem b_SS_digest_30 {p : Program} {l : Launch} {e : Env} {s : State} {m : MethodId} {args : Array Value} {below : List Frame} {meth : Method} {c : Code} {Q : State → Prop} {w : hp_W} {out : Int64} (fl : Nat)   (a0 : Nat) (h : hp_M) (k78 : Int64 → Option (Int64)) (C : Cx p m c cX10_digest 5 s args RX10 w) (hr : meth.sig.returnType = some .long) (hlk : meth.locks = false) (hnm : meth.name = "digest") (hQ : QM below w args s ({ frames := 9, cells := 0, slots := 0, locals := 271 }) (some .long) (some (.long out)) h = Q) (hk78 : ∀ (z1 : Int64), J p l e ({ frames := 9, cells := 0, slots := 0, locals := 271 }) s m args below meth c Q w 5 0 0 78 [(0, .ref a0), (1, .long z1)] [] h (k78 z1) out) : ∀ (n : Nat) (x1 : Int64) (x3 : Int32), J p l e ({ frames := 9, cells := 0, slots := 0, locals := 271 }) s m args below meth c Q w 5 0 0 30 [(0, .ref a0), (1, .long x1), (3, .int x3)] [] h (f_SS_digest_b30 fl a0 h k78 n x1 x3) out := by
  intro n
  induction n with
  | zero => intro x1 x3; exact j_none
  | succ n ih =>
    intro x1 x3
    rw [f_SS_digest_b30]
    refine j_iload_n C dX10_digest_30 (i := 3) rfl rfl ?_
    refine j_aload_n C dX10_digest_31 (i := 0) rfl rfl ?_
    refine j_getR C g_X10_19 dX10_digest_32 (fun v1007 ev1007 => ?_)
    refine j_callVi C (As := []) (rest := [_]) k_X10_199 ⟨Nat.le_of_ble_eq_true rfl, Nat.le_of_ble_eq_true rfl⟩ rfl (Nat.le_of_ble_eq_true rfl) ⟨Nat.le_of_ble_eq_true rfl, Nat.le_of_ble_eq_true rfl⟩ rfl dX10_digest_35 (fun r0 q0 => c_Sk_planets l w _ _ _ q0) (fun r1008 er1008 nr1008 => ?_)
    refine j_icmpge C (tgt := 78) dX10_digest_38 (by decide) (fun q1009 => ?_) (fun q1009 => ?_)
    · exact j_sub [0, 1] rfl (hk78 _)
    · refine j_iconst C (v := 0) dX10_digest_41 (by decide) ?_
      refine j_istore C [(4, _), (0, _), (1, _), (3, _)] dX10_digest_42 (by decide) rfl ?_
      refine j_sub [1, 2, 3, 0] rfl (b_SS_digest_44 fl  _ _ _ _ C hr hlk hnm hQ (fun u1010 => ?_) _ _ _)
      refine j_iinc C (v := x3 + 1) [(3, _), (0, _), (1, _)] dX10_digest_72 rfl rfl (by decide) rfl ?_
      refine j_goto C (tgt := 30) dX10_digest_75 (by decide) ?_
      exact j_sub [1, 2, 0] rfl (ih _ _)
set_option maxRecDepth 100000 in
set_option maxHeartbeats 4000000 in
theorem b_SS_digest_107 {p : Program} {l : Launch} {e : Env} {s : State} {m : MethodId} {args : Array Value} {below : List Frame} {meth : Method} {c : Code} {Q : State → Prop} {w : hp_W} {out : Int64} (fl : Nat)   (a0 : Nat) (x3 : Int32) (h : hp_M) (k141 : Int64 → Option (Int64)) (C : Cx p m c cX10_digest 5 s args RX10 w) (hr : meth.sig.returnType = some .long) (hlk : meth.locks = false) (hnm : meth.name = "digest") (hQ : QM below w args s ({ frames := 9, cells := 0, slots := 0, locals := 271 }) (some .long) (some (.long out)) h = Q) (hk141 : ∀ (z1 : Int64), J p l e ({ frames := 9, cells := 0, slots := 0, locals := 271 }) s m args below meth c Q w 5 0 0 141 [(0, .ref a0), (1, .long z1), (3, .int x3)] [] h (k141 z1) out) : ∀ (n : Nat) (x1 : Int64) (x4 : Int32), J p l e ({ frames := 9, cells := 0, slots := 0, locals := 271 }) s m args below meth c Q w 5 0 0 107 [(0, .ref a0), (1, .long x1), (3, .int x3), (4, .int x4)] [] h (f_SS_digest_b107 fl a0 x3 h k141 n x1 x4) out := by
  intro n
  induction n with
  | zero => intro x1 x4; exact j_none
  | succ n ih =>
    intro x1 x4
    rw [f_SS_digest_b107]
    refine j_iload C dX10_digest_107 rfl ?_
    refine j_aload_n C dX10_digest_109 (i := 0) rfl rfl ?_
    refine j_getR C g_X10_29 dX10_digest_110 (fun v2024 ev2024 => ?_)
    refine j_iload_n C dX10_digest_113 (i := 3) rfl rfl ?_
    refine j_callVi C (As := [.int _]) (rest := [_]) k_X10_128 ⟨Nat.le_of_ble_eq_true rfl, Nat.le_of_ble_eq_true rfl⟩ rfl (Nat.le_of_ble_eq_true rfl) ⟨Nat.le_of_ble_eq_true rfl, Nat.le_of_ble_eq_true rfl⟩ rfl dX10_digest_114 (fun r0 q0 => c_Bk_lettersOf l w _ _ _ _ q0) (fun r2025 er2025 nr2025 => ?_)
    refine j_icmpge C (tgt := 141) dX10_digest_117 (by decide) (fun q2026 => ?_) (fun q2026 => ?_)
    · exact j_sub [0, 1, 2] rfl (hk141 _)
    · refine j_lload_n C dX10_digest_120 (i := 1) rfl rfl ?_
      refine j_aload_n C dX10_digest_121 (i := 0) rfl rfl ?_
      refine j_getR C g_X10_29 dX10_digest_122 (fun v2027 ev2027 => ?_)
      refine j_iload_n C dX10_digest_125 (i := 3) rfl rfl ?_
      refine j_iload C dX10_digest_126 rfl ?_
      refine j_callVi C (As := [.int _, .int _]) (rest := [_]) k_X10_133 ⟨Nat.le_of_ble_eq_true rfl, Nat.le_of_ble_eq_true rfl⟩ rfl (Nat.le_of_ble_eq_true rfl) ⟨Nat.le_of_ble_eq_true rfl, Nat.le_of_ble_eq_true rfl⟩ rfl dX10_digest_128 (fun r0 q0 => c_Bk_letterOf l w _ _ _ _ _ q0) (fun r2028 er2028 nr2028 => ?_)
      refine j_callSl C (As := [.long _, .int _]) (rest := []) k_X10_211 ⟨Nat.le_of_ble_eq_true rfl, Nat.le_of_ble_eq_true rfl⟩ rfl (Nat.le_of_ble_eq_true rfl) ⟨Nat.le_of_ble_eq_true rfl, Nat.le_of_ble_eq_true rfl⟩ rfl dX10_digest_131 (fun r0 q0 => c_SS_mixed l w _ _ _ _ q0) (fun r2029 er2029 nr2029 => ?_)
      refine j_lstore_n C [(1, _), (0, _), (3, _), (4, _)] dX10_digest_134 (i := 1) rfl (by decide) rfl ?_
      refine j_iinc C (v := x4 + 1) [(4, _), (1, _), (0, _), (3, _)] dX10_digest_135 rfl rfl (by decide) rfl ?_
      refine j_goto C (tgt := 107) dX10_digest_138 (by decide) ?_
      exact j_sub [2, 1, 3, 0] rfl (ih _ _)
set_option maxRecDepth 100000 in
set_option maxHeartbeats 4000000 in
theorem b_SS_digest_80 {p : Program} {l : Launch} {e : Env} {s : State} {m : MethodId} {args : Array Value} {below : List Frame} {meth : Method} {c : Code} {Q : State → Prop} {w : hp_W} {out : Int64} (fl : Nat)   (a0 : Nat) (h : hp_M) (k147 : Int64 → Option (Int64)) (C : Cx p m c cX10_digest 5 s args RX10 w) (hr : meth.sig.returnType = some .long) (hlk : meth.locks = false) (hnm : meth.name = "digest") (hQ : QM below w args s ({ frames := 9, cells := 0, slots := 0, locals := 271 }) (some .long) (some (.long out)) h = Q) (hk147 : ∀ (z1 : Int64), J p l e ({ frames := 9, cells := 0, slots := 0, locals := 271 }) s m args below meth c Q w 5 0 0 147 [(0, .ref a0), (1, .long z1)] [] h (k147 z1) out) : ∀ (n : Nat) (x1 : Int64) (x3 : Int32), J p l e ({ frames := 9, cells := 0, slots := 0, locals := 271 }) s m args below meth c Q w 5 0 0 80 [(0, .ref a0), (1, .long x1), (3, .int x3)] [] h (f_SS_digest_b80 fl a0 h k147 n x1 x3) out := by
  intro n
  induction n with
  | zero => intro x1 x3; exact j_none
  | succ n ih =>
    intro x1 x3
    rw [f_SS_digest_b80]
    refine j_iload_n C dX10_digest_80 (i := 3) rfl rfl ?_
    refine j_aload_n C dX10_digest_81 (i := 0) rfl rfl ?_
    refine j_getR C g_X10_29 dX10_digest_82 (fun v1013 ev1013 => ?_)
    refine j_callVi C (As := []) (rest := [_]) k_X10_215 ⟨Nat.le_of_ble_eq_true rfl, Nat.le_of_ble_eq_true rfl⟩ rfl (Nat.le_of_ble_eq_true rfl) ⟨Nat.le_of_ble_eq_true rfl, Nat.le_of_ble_eq_true rfl⟩ rfl dX10_digest_85 (fun r0 q0 => c_Bk_alphabets l w _ _ _ q0) (fun r1014 er1014 nr1014 => ?_)
    refine j_icmpge C (tgt := 147) dX10_digest_88 (by decide) (fun q1015 => ?_) (fun q1015 => ?_)
    · exact j_sub [0, 1] rfl (hk147 _)
    · refine j_lload_n C dX10_digest_91 (i := 1) rfl rfl ?_
      refine j_aload_n C dX10_digest_92 (i := 0) rfl rfl ?_
      refine j_getR C g_X10_29 dX10_digest_93 (fun v1016 ev1016 => ?_)
      refine j_iload_n C dX10_digest_96 (i := 3) rfl rfl ?_
      refine j_callVi C (As := [.int _]) (rest := [_]) k_X10_128 ⟨Nat.le_of_ble_eq_true rfl, Nat.le_of_ble_eq_true rfl⟩ rfl (Nat.le_of_ble_eq_true rfl) ⟨Nat.le_of_ble_eq_true rfl, Nat.le_of_ble_eq_true rfl⟩ rfl dX10_digest_97 (fun r0 q0 => c_Bk_lettersOf l w _ _ _ _ q0) (fun r1017 er1017 nr1017 => ?_)
      refine j_callSl C (As := [.long _, .int _]) (rest := []) k_X10_211 ⟨Nat.le_of_ble_eq_true rfl, Nat.le_of_ble_eq_true rfl⟩ rfl (Nat.le_of_ble_eq_true rfl) ⟨Nat.le_of_ble_eq_true rfl, Nat.le_of_ble_eq_true rfl⟩ rfl dX10_digest_100 (fun r0 q0 => c_SS_mixed l w _ _ _ _ q0) (fun r1018 er1018 nr1018 => ?_)
      refine j_lstore_n C [(1, _), (0, _), (3, _)] dX10_digest_103 (i := 1) rfl (by decide) rfl ?_
      refine j_iconst C (v := 0) dX10_digest_104 (by decide) ?_
      refine j_istore C [(4, _), (1, _), (0, _), (3, _)] dX10_digest_105 (by decide) rfl ?_
      refine j_sub [2, 1, 3, 0] rfl (b_SS_digest_107 fl  _ _ _ _ C hr hlk hnm hQ (fun u1019 => ?_) _ _ _)
      refine j_iinc C (v := x3 + 1) [(3, _), (0, _), (1, _)] dX10_digest_141 rfl rfl (by decide) rfl ?_
      refine j_goto C (tgt := 80) dX10_digest_144 (by decide) ?_
      exact j_sub [1, 2, 0] rfl (ih _ _)
set_option maxRecDepth 100000 in
set_option maxHeartbeats 4000000 in
theorem b_SS_digest_149 {p : Program} {l : Launch} {e : Env} {s : State} {m : MethodId} {args : Array Value} {below : List Frame} {meth : Method} {c : Code} {Q : State → Prop} {w : hp_W} {out : Int64} (fl : Nat)   (a0 : Nat) (h : hp_M) (k179 : Int64 → Option (Int64)) (C : Cx p m c cX10_digest 5 s args RX10 w) (hr : meth.sig.returnType = some .long) (hlk : meth.locks = false) (hnm : meth.name = "digest") (hQ : QM below w args s ({ frames := 9, cells := 0, slots := 0, locals := 271 }) (some .long) (some (.long out)) h = Q) (hk179 : ∀ (z1 : Int64), J p l e ({ frames := 9, cells := 0, slots := 0, locals := 271 }) s m args below meth c Q w 5 0 0 179 [(0, .ref a0), (1, .long z1)] [] h (k179 z1) out) : ∀ (n : Nat) (x1 : Int64) (x3 : Int32), J p l e ({ frames := 9, cells := 0, slots := 0, locals := 271 }) s m args below meth c Q w 5 0 0 149 [(0, .ref a0), (1, .long x1), (3, .int x3)] [] h (f_SS_digest_b149 fl a0 h k179 n x1 x3) out := by
  intro n
  induction n with
  | zero => intro x1 x3; exact j_none
  | succ n ih =>
    intro x1 x3
    rw [f_SS_digest_b149]
    refine j_iload_n C dX10_digest_149 (i := 3) rfl rfl ?_
    refine j_aload_n C dX10_digest_150 (i := 0) rfl rfl ?_
    refine j_getR C g_X10_29 dX10_digest_151 (fun v1009 ev1009 => ?_)
    refine j_callVi C (As := []) (rest := [_]) k_X10_136 ⟨Nat.le_of_ble_eq_true rfl, Nat.le_of_ble_eq_true rfl⟩ rfl (Nat.le_of_ble_eq_true rfl) ⟨Nat.le_of_ble_eq_true rfl, Nat.le_of_ble_eq_true rfl⟩ rfl dX10_digest_154 (fun r0 q0 => c_Bk_rules l w _ _ _ q0) (fun r1010 er1010 nr1010 => ?_)
    refine j_icmpge C (tgt := 179) dX10_digest_157 (by decide) (fun q1011 => ?_) (fun q1011 => ?_)
    · exact j_sub [0, 1] rfl (hk179 _)
    · refine j_lload_n C dX10_digest_160 (i := 1) rfl rfl ?_
      refine j_aload_n C dX10_digest_161 (i := 0) rfl rfl ?_
      refine j_getR C g_X10_19 dX10_digest_162 (fun v1012 ev1012 => ?_)
      refine j_iload_n C dX10_digest_165 (i := 3) rfl rfl ?_
      refine j_callVi C (As := [.int _]) (rest := [_]) k_X10_141 ⟨Nat.le_of_ble_eq_true rfl, Nat.le_of_ble_eq_true rfl⟩ rfl (Nat.le_of_ble_eq_true rfl) ⟨Nat.le_of_ble_eq_true rfl, Nat.le_of_ble_eq_true rfl⟩ rfl dX10_digest_166 (fun r0 q0 => c_Sk_writtenBy l w _ _ _ _ q0) (fun r1013 er1013 nr1013 => ?_)
      refine j_callSl C (As := [.long _, .int _]) (rest := []) k_X10_211 ⟨Nat.le_of_ble_eq_true rfl, Nat.le_of_ble_eq_true rfl⟩ rfl (Nat.le_of_ble_eq_true rfl) ⟨Nat.le_of_ble_eq_true rfl, Nat.le_of_ble_eq_true rfl⟩ rfl dX10_digest_169 (fun r0 q0 => c_SS_mixed l w _ _ _ _ q0) (fun r1014 er1014 nr1014 => ?_)
      refine j_lstore_n C [(1, _), (0, _), (3, _)] dX10_digest_172 (i := 1) rfl (by decide) rfl ?_
      refine j_iinc C (v := x3 + 1) [(3, _), (1, _), (0, _)] dX10_digest_173 rfl rfl (by decide) rfl ?_
      refine j_goto C (tgt := 149) dX10_digest_176 (by decide) ?_
      exact j_sub [2, 1, 0] rfl (ih _ _)
set_option maxRecDepth 100000 in
set_option maxHeartbeats 4000000 in
theorem b_SS_digest_181 {p : Program} {l : Launch} {e : Env} {s : State} {m : MethodId} {args : Array Value} {below : List Frame} {meth : Method} {c : Code} {Q : State → Prop} {w : hp_W} {out : Int64} (fl : Nat)   (a0 : Nat) (h : hp_M) (C : Cx p m c cX10_digest 5 s args RX10 w) (hr : meth.sig.returnType = some .long) (hlk : meth.locks = false) (hnm : meth.name = "digest") (hQ : QM below w args s ({ frames := 9, cells := 0, slots := 0, locals := 271 }) (some .long) (some (.long out)) h = Q)  : ∀ (n : Nat) (x1 : Int64) (x3 : Int32), J p l e ({ frames := 9, cells := 0, slots := 0, locals := 271 }) s m args below meth c Q w 5 0 0 181 [(0, .ref a0), (1, .long x1), (3, .int x3)] [] h (f_SS_digest_b181 fl a0 h n x1 x3) out := by
  intro n
  induction n with
  | zero => intro x1 x3; exact j_none
  | succ n ih =>
    intro x1 x3
    rw [f_SS_digest_b181]
    refine j_iload_n C dX10_digest_181 (i := 3) rfl rfl ?_
    refine j_aload_n C dX10_digest_182 (i := 0) rfl rfl ?_
    refine j_getR C g_X10_19 dX10_digest_183 (fun v1005 ev1005 => ?_)
    refine j_callVr C (As := []) (rest := [_]) k_X10_150 ⟨Nat.le_of_ble_eq_true rfl, Nat.le_of_ble_eq_true rfl⟩ rfl (Nat.le_of_ble_eq_true rfl) ⟨Nat.le_of_ble_eq_true rfl, Nat.le_of_ble_eq_true rfl⟩ rfl dX10_digest_186 (fun r0 q0 => c_Sk_paper l w _ _ _ q0) (fun r1006 er1006 nr1006 => ?_)
    refine j_callVi C (As := []) (rest := [_]) k_X10_154 ⟨Nat.le_of_ble_eq_true rfl, Nat.le_of_ble_eq_true rfl⟩ rfl (Nat.le_of_ble_eq_true rfl) ⟨Nat.le_of_ble_eq_true rfl, Nat.le_of_ble_eq_true rfl⟩ rfl dX10_digest_189 (fun r0 q0 => c_Pp_size l w _ _ _ q0) (fun r1007 er1007 nr1007 => ?_)
    refine j_icmpge C (tgt := 217) dX10_digest_192 (by decide) (fun q1008 => ?_) (fun q1008 => ?_)
    · refine j_lload_n C dX10_digest_217 (i := 1) rfl rfl ?_
      exact e_lretR C hQ hr hlk dX10_digest_218 (Nat.le_of_ble_eq_true rfl) (Nat.le_of_ble_eq_true rfl)
    · refine j_lload_n C dX10_digest_195 (i := 1) rfl rfl ?_
      refine j_aload_n C dX10_digest_196 (i := 0) rfl rfl ?_
      refine j_getR C g_X10_19 dX10_digest_197 (fun v1009 ev1009 => ?_)
      refine j_callVr C (As := []) (rest := [_]) k_X10_150 ⟨Nat.le_of_ble_eq_true rfl, Nat.le_of_ble_eq_true rfl⟩ rfl (Nat.le_of_ble_eq_true rfl) ⟨Nat.le_of_ble_eq_true rfl, Nat.le_of_ble_eq_true rfl⟩ rfl dX10_digest_200 (fun r0 q0 => c_Sk_paper l w _ _ _ q0) (fun r1010 er1010 nr1010 => ?_)
      refine j_iload_n C dX10_digest_203 (i := 3) rfl rfl ?_
      refine j_callVi C (As := [.int _]) (rest := [_]) k_X10_159 ⟨Nat.le_of_ble_eq_true rfl, Nat.le_of_ble_eq_true rfl⟩ rfl (Nat.le_of_ble_eq_true rfl) ⟨Nat.le_of_ble_eq_true rfl, Nat.le_of_ble_eq_true rfl⟩ rfl dX10_digest_204 (fun r0 q0 => c_Pp_at l w _ _ _ _ q0) (fun r1011 er1011 nr1011 => ?_)
      refine j_callSl C (As := [.long _, .int _]) (rest := []) k_X10_211 ⟨Nat.le_of_ble_eq_true rfl, Nat.le_of_ble_eq_true rfl⟩ rfl (Nat.le_of_ble_eq_true rfl) ⟨Nat.le_of_ble_eq_true rfl, Nat.le_of_ble_eq_true rfl⟩ rfl dX10_digest_207 (fun r0 q0 => c_SS_mixed l w _ _ _ _ q0) (fun r1012 er1012 nr1012 => ?_)
      refine j_lstore_n C [(1, _), (0, _), (3, _)] dX10_digest_210 (i := 1) rfl (by decide) rfl ?_
      refine j_iinc C (v := x3 + 1) [(3, _), (1, _), (0, _)] dX10_digest_211 rfl rfl (by decide) rfl ?_
      refine j_goto C (tgt := 181) dX10_digest_214 (by decide) ?_
      exact j_sub [2, 1, 0] rfl (ih _ _)
set_option maxRecDepth 100000 in
set_option maxHeartbeats 4000000 in
theorem c_SS_digest (l : Launch) (w : hp_W) (fl : Nat) (a0 : Nat) (h : hp_M) (out : Int64) (hX : f_SS_digest fl a0 h = some out) : CT l w yX10_digest cX10_digest 5 (some .long) ({ frames := 9, cells := 0, slots := 0, locals := 271 }) [.ref a0] h (some (.long out)) h := by
  unfold f_SS_digest at hX
  refine ct_of (by decide +kernel) (Nat.le_of_ble_eq_true rfl) hX ?_
  intro p e s m args below meth c Q C hr hlk hnm hQ
  refine j_ldc2 C dX10_digest_0 q_X10_209 ?_
  refine j_lstore_n C [(1, _), (0, _)] dX10_digest_3 (i := 1) rfl (by decide) rfl ?_
  refine j_iconst C (v := 0) dX10_digest_4 (by decide) ?_
  refine j_istore_n C [(3, _), (1, _), (0, _)] dX10_digest_5 (i := 3) rfl (by decide) rfl ?_
  refine j_sub [2, 1, 0] rfl (b_SS_digest_6 fl  _ _ _ C hr hlk hnm hQ (fun u1 => ?_) _ _ _)
  refine j_iconst C (v := 0) dX10_digest_28 (by decide) ?_
  refine j_istore_n C [(3, _), (0, _), (1, _)] dX10_digest_29 (i := 3) rfl (by decide) rfl ?_
  refine j_sub [1, 2, 0] rfl (b_SS_digest_30 fl  _ _ _ C hr hlk hnm hQ (fun u2 => ?_) _ _ _)
  refine j_iconst C (v := 0) dX10_digest_78 (by decide) ?_
  refine j_istore_n C [(3, _), (0, _), (1, _)] dX10_digest_79 (i := 3) rfl (by decide) rfl ?_
  refine j_sub [1, 2, 0] rfl (b_SS_digest_80 fl  _ _ _ C hr hlk hnm hQ (fun u3 => ?_) _ _ _)
  refine j_iconst C (v := 0) dX10_digest_147 (by decide) ?_
  refine j_istore_n C [(3, _), (0, _), (1, _)] dX10_digest_148 (i := 3) rfl (by decide) rfl ?_
  refine j_sub [1, 2, 0] rfl (b_SS_digest_149 fl  _ _ _ C hr hlk hnm hQ (fun u4 => ?_) _ _ _)
  refine j_iconst C (v := 0) dX10_digest_179 (by decide) ?_
  refine j_istore_n C [(3, _), (0, _), (1, _)] dX10_digest_180 (i := 3) rfl (by decide) rfl ?_
  refine j_sub [1, 2, 0] rfl (b_SS_digest_181 fl  _ _ C hr hlk hnm hQ  _ _ _)
