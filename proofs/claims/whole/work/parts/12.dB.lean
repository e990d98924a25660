def f_Pr_init (a0 : Nat) (h : hp_M) : Option (hp_M) := (pF (hN h (aI 400 (fun _ => 0))) a0 4 0 (.ref h.2)).bind fun h1 => (pF (hN h1 (aI 400 (fun _ => 0))) a0 4 1 (.ref h1.2)).bind fun h2 => (pF (hN h2 (aI 400 (fun _ => 0))) a0 4 2 (.ref h2.2)).bind fun h3 => (pF (hN h3 (aI 400 (fun _ => 0))) a0 4 4 (.ref h3.2)).bind fun h4 => some h4
set_option maxRecDepth 100000 in
set_option maxHeartbeats 4000000 in
theorem c_Pr_init (l : Launch) (w : hp_W) (a0 : Nat) (h : hp_M) (out : hp_M) (hX : f_Pr_init a0 h = some out) : CT l w yX5_init cX5_init 1 none ({ frames := 1, cells := 4, slots := 1600, locals := 32 }) [.ref a0] h none out := by
  unfold f_Pr_init at hX
  refine ct_of (by decide +kernel) (Nat.le_of_ble_eq_true rfl) hX ?_
  intro p e s m args below meth c Q C hr hlk hnm hQ
  refine j_aload_n C dX5_init_0 (i := 0) rfl rfl ?_
  refine j_objInit C k_X5_3 k_oi k_oc dX5_init_1 (Nat.le_of_ble_eq_true rfl) (Nat.le_of_ble_eq_true rfl) ?_
  refine j_aload_n C dX5_init_4 (i := 0) rfl rfl ?_
  refine j_sipush C (v := 400) dX5_init_5 (by decide) ?_
  refine j_newI C (N := 400) k_arr_int (by decide) (by decide) (Nat.le_of_ble_eq_true rfl) (Nat.le_of_ble_eq_true rfl) (Nat.le_of_ble_eq_true rfl) dX5_init_8 ?_
  refine j_putR C p_X5_11 (fun _ => hnm) dX5_init_10 rfl rfl (fun h1 eh1 => ?_)
  refine j_aload_n C dX5_init_13 (i := 0) rfl rfl ?_
  refine j_sipush C (v := 400) dX5_init_14 (by decide) ?_
  refine j_newI C (N := 400) k_arr_int (by decide) (by decide) (Nat.le_of_ble_eq_true rfl) (Nat.le_of_ble_eq_true rfl) (Nat.le_of_ble_eq_true rfl) dX5_init_17 ?_
  refine j_putR C p_X5_15 (fun _ => hnm) dX5_init_19 rfl rfl (fun h2 eh2 => ?_)
  refine j_aload_n C dX5_init_22 (i := 0) rfl rfl ?_
  refine j_sipush C (v := 400) dX5_init_23 (by decide) ?_
  refine j_newI C (N := 400) k_arr_int (by decide) (by decide) (Nat.le_of_ble_eq_true rfl) (Nat.le_of_ble_eq_true rfl) (Nat.le_of_ble_eq_true rfl) dX5_init_26 ?_
  refine j_putR C p_X5_18 (fun _ => hnm) dX5_init_28 rfl rfl (fun h3 eh3 => ?_)
  refine j_aload_n C dX5_init_31 (i := 0) rfl rfl ?_
  refine j_sipush C (v := 400) dX5_init_32 (by decide) ?_
  refine j_newI C (N := 400) k_arr_int (by decide) (by decide) (Nat.le_of_ble_eq_true rfl) (Nat.le_of_ble_eq_true rfl) (Nat.le_of_ble_eq_true rfl) dX5_init_35 ?_
  refine j_putR C p_X5_21 (fun _ => hnm) dX5_init_37 rfl rfl (fun h4 eh4 => ?_)
  exact e_vretM C hQ hr hlk dX5_init_40 (Nat.le_of_ble_eq_true rfl) (Nat.le_of_ble_eq_true rfl)
def f_Bk_init (fl : Nat) (a0 : Nat) (h : hp_M) : Option (hp_M) := (pF (hN h (aR 3 8 (fun _ => none))) a0 1 0 (.ref h.2)).bind fun h1 => (pF (hN h1 (aL 8 (fun _ => 0))) a0 1 1 (.ref h1.2)).bind fun h2 => (pF (hN h2 (aR 4 6 (fun _ => none))) a0 1 3 (.ref h2.2)).bind fun h3 => (pF (hN h3 (aL 6 (fun _ => 0))) a0 1 4 (.ref h3.2)).bind fun h4 => (f_Pr_init h4.2 (hN h4 (oC 4 [.null, .null, .null, .int 0, .null, .int 0]))).bind fun h5 => (pF h5 a0 1 6 (.ref h4.2)).bind fun h6 => (pF (hN h6 (aI 12 (fun _ => 0))) a0 1 7 (.ref h6.2)).bind fun h7 => (pF (hN h7 (aI 12 (fun _ => 0))) a0 1 8 (.ref h7.2)).bind fun h8 => (pF (hN h8 (aI 12 (fun _ => 0))) a0 1 9 (.ref h8.2)).bind fun h9 => (pF (hN h9 (aI 12 (fun _ => 0))) a0 1 10 (.ref h9.2)).bind fun h10 => if (8 : Int32) ≤ 0 then (none) else ((gR h10 a0 1 0).bind fun v12 => (f_Pl_init h10.2 (hN h10 (oC 3 [.int 0, .int 0, .int 0, .int 0, .int 0, .int 0, .int 0]))).bind fun h13 => (paR h13 3 3 v12 0 h10.2).bind fun h14 => if (8 : Int32) ≤ 1 then (none) else ((gR h14 a0 1 0).bind fun v16 => (f_Pl_init h14.2 (hN h14 (oC 3 [.int 0, .int 0, .int 0, .int 0, .int 0, .int 0, .int 0]))).bind fun h17 => (paR h17 3 3 v16 1 h14.2).bind fun h18 => if (8 : Int32) ≤ 2 then (none) else ((gR h18 a0 1 0).bind fun v20 => (f_Pl_init h18.2 (hN h18 (oC 3 [.int 0, .int 0, .int 0, .int 0, .int 0, .int 0, .int 0]))).bind fun h21 => (paR h21 3 3 v20 2 h18.2).bind fun h22 => if (8 : Int32) ≤ 3 then (none) else ((gR h22 a0 1 0).bind fun v24 => (f_Pl_init h22.2 (hN h22 (oC 3 [.int 0, .int 0, .int 0, .int 0, .int 0, .int 0, .int 0]))).bind fun h25 => (paR h25 3 3 v24 3 h22.2).bind fun h26 => if (8 : Int32) ≤ 4 then (none) else ((gR h26 a0 1 0).bind fun v28 => (f_Pl_init h26.2 (hN h26 (oC 3 [.int 0, .int 0, .int 0, .int 0, .int 0, .int 0, .int 0]))).bind fun h29 => (paR h29 3 3 v28 4 h26.2).bind fun h30 => if (8 : Int32) ≤ 5 then (none) else ((gR h30 a0 1 0).bind fun v32 => (f_Pl_init h30.2 (hN h30 (oC 3 [.int 0, .int 0, .int 0, .int 0, .int 0, .int 0, .int 0]))).bind fun h33 => (paR h33 3 3 v32 5 h30.2).bind fun h34 => if (8 : Int32) ≤ 6 then (none) else ((gR h34 a0 1 0).bind fun v36 => (f_Pl_init h34.2 (hN h34 (oC 3 [.int 0, .int 0, .int 0, .int 0, .int 0, .int 0, .int 0]))).bind fun h37 => (paR h37 3 3 v36 6 h34.2).bind fun h38 => if (8 : Int32) ≤ 7 then (none) else ((gR h38 a0 1 0).bind fun v40 => (f_Pl_init h38.2 (hN h38 (oC 3 [.int 0, .int 0, .int 0, .int 0, .int 0, .int 0, .int 0]))).bind fun h41 => (paR h41 3 3 v40 7 h38.2).bind fun h42 => if (8 : Int32) ≤ 8 then (if (6 : Int32) ≤ 0 then (none) else ((gR h42 a0 1 3).bind fun v45 => (f_Al_init h42.2 (hN h42 (oC 0 [.null, .int 0]))).bind fun h46 => (paR h46 4 0 v45 0 h42.2).bind fun h47 => if (6 : Int32) ≤ 1 then (none) else ((gR h47 a0 1 3).bind fun v49 => (f_Al_init h47.2 (hN h47 (oC 0 [.null, .int 0]))).bind fun h50 => (paR h50 4 0 v49 1 h47.2).bind fun h51 => if (6 : Int32) ≤ 2 then (none) else ((gR h51 a0 1 3).bind fun v53 => (f_Al_init h51.2 (hN h51 (oC 0 [.null, .int 0]))).bind fun h54 => (paR h54 4 0 v53 2 h51.2).bind fun h55 => if (6 : Int32) ≤ 3 then (none) else ((gR h55 a0 1 3).bind fun v57 => (f_Al_init h55.2 (hN h55 (oC 0 [.null, .int 0]))).bind fun h58 => (paR h58 4 0 v57 3 h55.2).bind fun h59 => if (6 : Int32) ≤ 4 then (none) else ((gR h59 a0 1 3).bind fun v61 => (f_Al_init h59.2 (hN h59 (oC 0 [.null, .int 0]))).bind fun h62 => (paR h62 4 0 v61 4 h59.2).bind fun h63 => if (6 : Int32) ≤ 5 then (none) else ((gR h63 a0 1 3).bind fun v65 => (f_Al_init h63.2 (hN h63 (oC 0 [.null, .int 0]))).bind fun h66 => (paR h66 4 0 v65 5 h63.2).bind fun h67 => if (6 : Int32) ≤ 6 then (some h67) else (none)))))))) else (none)))))))))
set_option maxRecDepth 100000 in
set_option maxHeartbeats 4000000 in
theorem c_Bk_init (l : Launch) (w : hp_W) (fl : Nat) (a0 : Nat) (h : hp_M) (out : hp_M) (hX : f_Bk_init fl a0 h = some out) : CT l w yX1_init cX1_init 2 none ({ frames := 2, cells := 33, slots := 1822, locals := 52 }) [.ref a0] h none out := by
  unfold f_Bk_init at hX
  refine ct_of (by decide +kernel) (Nat.le_of_ble_eq_true rfl) hX ?_
  intro p e s m args below meth c Q C hr hlk hnm hQ
  refine j_aload_n C dX1_init_0 (i := 0) rfl rfl ?_
  refine j_objInit C k_X1_1 k_oi k_oc dX1_init_1 (Nat.le_of_ble_eq_true rfl) (Nat.le_of_ble_eq_true rfl) ?_
  refine j_aload_n C dX1_init_4 (i := 0) rfl rfl ?_
  refine j_bipush C (v := 8) dX1_init_5 (by decide) ?_
  refine j_newR C (N := 8) (t := 3) rfl v_X1_9 C.2.1.2.2.2.2.2.2.2.2.1 (by decide) (by decide) (Nat.le_of_ble_eq_true rfl) (Nat.le_of_ble_eq_true rfl) (Nat.le_of_ble_eq_true rfl) dX1_init_7 ?_
  refine j_putR C p_X1_11 (fun _ => hnm) dX1_init_10 rfl rfl (fun h1 eh1 => ?_)
  refine j_aload_n C dX1_init_13 (i := 0) rfl rfl ?_
  refine j_bipush C (v := 8) dX1_init_14 (by decide) ?_
  refine j_newL C (N := 8) k_arr_long (by decide) (by decide) (Nat.le_of_ble_eq_true rfl) (Nat.le_of_ble_eq_true rfl) (Nat.le_of_ble_eq_true rfl) dX1_init_16 ?_
  refine j_putR C p_X1_15 (fun _ => hnm) dX1_init_18 rfl rfl (fun h2 eh2 => ?_)
  refine j_aload_n C dX1_init_21 (i := 0) rfl rfl ?_
  refine j_bipush C (v := 6) dX1_init_22 (by decide) ?_
  refine j_newR C (N := 6) (t := 4) rfl v_X1_19 C.2.1.2.2.2.2.2.2.2.2.2.1 (by decide) (by decide) (Nat.le_of_ble_eq_true rfl) (Nat.le_of_ble_eq_true rfl) (Nat.le_of_ble_eq_true rfl) dX1_init_24 ?_
  refine j_putR C p_X1_21 (fun _ => hnm) dX1_init_27 rfl rfl (fun h3 eh3 => ?_)
  refine j_aload_n C dX1_init_30 (i := 0) rfl rfl ?_
  refine j_bipush C (v := 6) dX1_init_31 (by decide) ?_
  refine j_newL C (N := 6) k_arr_long (by decide) (by decide) (Nat.le_of_ble_eq_true rfl) (Nat.le_of_ble_eq_true rfl) (Nat.le_of_ble_eq_true rfl) dX1_init_33 ?_
  refine j_putR C p_X1_25 (fun _ => hnm) dX1_init_35 rfl rfl (fun h4 eh4 => ?_)
  refine j_aload_n C dX1_init_38 (i := 0) rfl rfl ?_
  refine j_new C n_X1_28 (Nat.le_of_ble_eq_true rfl) (Nat.le_of_ble_eq_true rfl) dX1_init_39 ?_
  refine j_dup C dX1_init_42 rfl ?_
  refine j_callIN C (As := []) (rest := [_, _]) k_X1_30 ⟨Nat.le_of_ble_eq_true rfl, Nat.le_of_ble_eq_true rfl⟩ rfl (Nat.le_of_ble_eq_true rfl) ⟨Nat.le_of_ble_eq_true rfl, Nat.le_of_ble_eq_true rfl⟩ rfl dX1_init_43 (fun r0 q0 => c_Pr_init l w _ _ _ q0) (fun h5 eh5 => ?_)
  refine j_putR C p_X1_31 (fun _ => hnm) dX1_init_46 rfl rfl (fun h6 eh6 => ?_)
  refine j_aload_n C dX1_init_49 (i := 0) rfl rfl ?_
  refine j_bipush C (v := 12) dX1_init_50 (by decide) ?_
  refine j_newI C (N := 12) k_arr_int (by decide) (by decide) (Nat.le_of_ble_eq_true rfl) (Nat.le_of_ble_eq_true rfl) (Nat.le_of_ble_eq_true rfl) dX1_init_52 ?_
  refine j_putR C p_X1_35 (fun _ => hnm) dX1_init_54 rfl rfl (fun h7 eh7 => ?_)
  refine j_aload_n C dX1_init_57 (i := 0) rfl rfl ?_
  refine j_bipush C (v := 12) dX1_init_58 (by decide) ?_
  refine j_newI C (N := 12) k_arr_int (by decide) (by decide) (Nat.le_of_ble_eq_true rfl) (Nat.le_of_ble_eq_true rfl) (Nat.le_of_ble_eq_true rfl) dX1_init_60 ?_
  refine j_putR C p_X1_39 (fun _ => hnm) dX1_init_62 rfl rfl (fun h8 eh8 => ?_)
  refine j_aload_n C dX1_init_65 (i := 0) rfl rfl ?_
  refine j_bipush C (v := 12) dX1_init_66 (by decide) ?_
  refine j_newI C (N := 12) k_arr_int (by decide) (by decide) (Nat.le_of_ble_eq_true rfl) (Nat.le_of_ble_eq_true rfl) (Nat.le_of_ble_eq_true rfl) dX1_init_68 ?_
  refine j_putR C p_X1_42 (fun _ => hnm) dX1_init_70 rfl rfl (fun h9 eh9 => ?_)
  refine j_aload_n C dX1_init_73 (i := 0) rfl rfl ?_
  refine j_bipush C (v := 12) dX1_init_74 (by decide) ?_
  refine j_newI C (N := 12) k_arr_int (by decide) (by decide) (Nat.le_of_ble_eq_true rfl) (Nat.le_of_ble_eq_true rfl) (Nat.le_of_ble_eq_true rfl) dX1_init_76 ?_
  refine j_putR C p_X1_45 (fun _ => hnm) dX1_init_78 rfl rfl (fun h10 eh10 => ?_)
  refine j_iconst C (v := 0) dX1_init_81 (by decide) ?_
  refine j_istore_n C [(1, _), (0, _)] dX1_init_82 (i := 1) rfl (by decide) rfl ?_
  refine j_iload_n C dX1_init_83 (i := 1) rfl rfl ?_
  refine j_bipush C (v := 8) dX1_init_84 (by decide) ?_
  refine j_icmpge C (tgt := 108) dX1_init_86 (by decide) (fun q11 => ?_) (fun q11 => ?_)
  · exact j_none
  · refine j_aload_n C dX1_init_89 (i := 0) rfl rfl ?_
    refine j_getR C g_X1_11 dX1_init_90 (fun v12 ev12 => ?_)
    refine j_iload_n C dX1_init_93 (i := 1) rfl rfl ?_
    refine j_new C n_X1_9 (Nat.le_of_ble_eq_true rfl) (Nat.le_of_ble_eq_true rfl) dX1_init_94 ?_
    refine j_dup C dX1_init_97 rfl ?_
    refine j_callIN C (As := []) (rest := [_, _, _]) k_X1_48 ⟨Nat.le_of_ble_eq_true rfl, Nat.le_of_ble_eq_true rfl⟩ rfl (Nat.le_of_ble_eq_true rfl) ⟨Nat.le_of_ble_eq_true rfl, Nat.le_of_ble_eq_true rfl⟩ rfl dX1_init_98 (fun r0 q0 => c_Pl_init l w _ _ _ q0) (fun h13 eh13 => ?_)
    refine j_aastore C (t := 3) (ci := 3) rfl rfl dX1_init_101 (fun h14 eh14 => ?_)
    refine j_iinc C (v := 1) [(1, _), (0, _)] dX1_init_102 rfl (by decide) (by decide) rfl ?_
    refine j_goto C (tgt := 83) dX1_init_105 (by decide) ?_
    refine j_iload_n C dX1_init_83 (i := 1) rfl rfl ?_
    refine j_bipush C (v := 8) dX1_init_84 (by decide) ?_
    refine j_icmpge C (tgt := 108) dX1_init_86 (by decide) (fun q15 => ?_) (fun q15 => ?_)
    · exact j_none
    · refine j_aload_n C dX1_init_89 (i := 0) rfl rfl ?_
      refine j_getR C g_X1_11 dX1_init_90 (fun v16 ev16 => ?_)
      refine j_iload_n C dX1_init_93 (i := 1) rfl rfl ?_
      refine j_new C n_X1_9 (Nat.le_of_ble_eq_true rfl) (Nat.le_of_ble_eq_true rfl) dX1_init_94 ?_
      refine j_dup C dX1_init_97 rfl ?_
      refine j_callIN C (As := []) (rest := [_, _, _]) k_X1_48 ⟨Nat.le_of_ble_eq_true rfl, Nat.le_of_ble_eq_true rfl⟩ rfl (Nat.le_of_ble_eq_true rfl) ⟨Nat.le_of_ble_eq_true rfl, Nat.le_of_ble_eq_true rfl⟩ rfl dX1_init_98 (fun r0 q0 => c_Pl_init l w _ _ _ q0) (fun h17 eh17 => ?_)
      refine j_aastore C (t := 3) (ci := 3) rfl rfl dX1_init_101 (fun h18 eh18 => ?_)
      refine j_iinc C (v := 2) [(1, _), (0, _)] dX1_init_102 rfl (by decide) (by decide) rfl ?_
      refine j_goto C (tgt := 83) dX1_init_105 (by decide) ?_
      refine j_iload_n C dX1_init_83 (i := 1) rfl rfl ?_
      refine j_bipush C (v := 8) dX1_init_84 (by decide) ?_
      refine j_icmpge C (tgt := 108) dX1_init_86 (by decide) (fun q19 => ?_) (fun q19 => ?_)
      · exact j_none
      · refine j_aload_n C dX1_init_89 (i := 0) rfl rfl ?_
        refine j_getR C g_X1_11 dX1_init_90 (fun v20 ev20 => ?_)
        refine j_iload_n C dX1_init_93 (i := 1) rfl rfl ?_
        refine j_new C n_X1_9 (Nat.le_of_ble_eq_true rfl) (Nat.le_of_ble_eq_true rfl) dX1_init_94 ?_
        refine j_dup C dX1_init_97 rfl ?_
        refine j_callIN C (As := []) (rest := [_, _, _]) k_X1_48 ⟨Nat.le_of_ble_eq_true rfl, Nat.le_of_ble_eq_true rfl⟩ rfl (Nat.le_of_ble_eq_true rfl) ⟨Nat.le_of_ble_eq_true rfl, Nat.le_of_ble_eq_true rfl⟩ rfl dX1_init_98 (fun r0 q0 => c_Pl_init l w _ _ _ q0) (fun h21 eh21 => ?_)
        refine j_aastore C (t := 3) (ci := 3) rfl rfl dX1_init_101 (fun h22 eh22 => ?_)
        refine j_iinc C (v := 3) [(1, _), (0, _)] dX1_init_102 rfl (by decide) (by decide) rfl ?_
        refine j_goto C (tgt := 83) dX1_init_105 (by decide) ?_
        refine j_iload_n C dX1_init_83 (i := 1) rfl rfl ?_
        refine j_bipush C (v := 8) dX1_init_84 (by decide) ?_
        refine j_icmpge C (tgt := 108) dX1_init_86 (by decide) (fun q23 => ?_) (fun q23 => ?_)
        · exact j_none
        · refine j_aload_n C dX1_init_89 (i := 0) rfl rfl ?_
          refine j_getR C g_X1_11 dX1_init_90 (fun v24 ev24 => ?_)
          refine j_iload_n C dX1_init_93 (i := 1) rfl rfl ?_
          refine j_new C n_X1_9 (Nat.le_of_ble_eq_true rfl) (Nat.le_of_ble_eq_true rfl) dX1_init_94 ?_
          refine j_dup C dX1_init_97 rfl ?_
          refine j_callIN C (As := []) (rest := [_, _, _]) k_X1_48 ⟨Nat.le_of_ble_eq_true rfl, Nat.le_of_ble_eq_true rfl⟩ rfl (Nat.le_of_ble_eq_true rfl) ⟨Nat.le_of_ble_eq_true rfl, Nat.le_of_ble_eq_true rfl⟩ rfl dX1_init_98 (fun r0 q0 => c_Pl_init l w _ _ _ q0) (fun h25 eh25 => ?_)
          refine j_aastore C (t := 3) (ci := 3) rfl rfl dX1_init_101 (fun h26 eh26 => ?_)
          refine j_iinc C (v := 4) [(1, _), (0, _)] dX1_init_102 rfl (by decide) (by decide) rfl ?_
          refine j_goto C (tgt := 83) dX1_init_105 (by decide) ?_
          refine j_iload_n C dX1_init_83 (i := 1) rfl rfl ?_
          refine j_bipush C (v := 8) dX1_init_84 (by decide) ?_
          refine j_icmpge C (tgt := 108) dX1_init_86 (by decide) (fun q27 => ?_) (fun q27 => ?_)
          · exact j_none
          · refine j_aload_n C dX1_init_89 (i := 0) rfl rfl ?_
            refine j_getR C g_X1_11 dX1_init_90 (fun v28 ev28 => ?_)
            refine j_iload_n C dX1_init_93 (i := 1) rfl rfl ?_
            refine j_new C n_X1_9 (Nat.le_of_ble_eq_true rfl) (Nat.le_of_ble_eq_true rfl) dX1_init_94 ?_
            refine j_dup C dX1_init_97 rfl ?_
            refine j_callIN C (As := []) (rest := [_, _, _]) k_X1_48 ⟨Nat.le_of_ble_eq_true rfl, Nat.le_of_ble_eq_true rfl⟩ rfl (Nat.le_of_ble_eq_true rfl) ⟨Nat.le_of_ble_eq_true rfl, Nat.le_of_ble_eq_true rfl⟩ rfl dX1_init_98 (fun r0 q0 => c_Pl_init l w _ _ _ q0) (fun h29 eh29 => ?_)
            refine j_aastore C (t := 3) (ci := 3) rfl rfl dX1_init_101 (fun h30 eh30 => ?_)
            refine j_iinc C (v := 5) [(1, _), (0, _)] dX1_init_102 rfl (by decide) (by decide) rfl ?_
            refine j_goto C (tgt := 83) dX1_init_105 (by decide) ?_
            refine j_iload_n C dX1_init_83 (i := 1) rfl rfl ?_
            refine j_bipush C (v := 8) dX1_init_84 (by decide) ?_
            refine j_icmpge C (tgt := 108) dX1_init_86 (by decide) (fun q31 => ?_) (fun q31 => ?_)
            · exact j_none
            · refine j_aload_n C dX1_init_89 (i := 0) rfl rfl ?_
              refine j_getR C g_X1_11 dX1_init_90 (fun v32 ev32 => ?_)
              refine j_iload_n C dX1_init_93 (i := 1) rfl rfl ?_
              refine j_new C n_X1_9 (Nat.le_of_ble_eq_true rfl) (Nat.le_of_ble_eq_true rfl) dX1_init_94 ?_
              refine j_dup C dX1_init_97 rfl ?_
              refine j_callIN C (As := []) (rest := [_, _, _]) k_X1_48 ⟨Nat.le_of_ble_eq_true rfl, Nat.le_of_ble_eq_true rfl⟩ rfl (Nat.le_of_ble_eq_true rfl) ⟨Nat.le_of_ble_eq_true rfl, Nat.le_of_ble_eq_true rfl⟩ rfl dX1_init_98 (fun r0 q0 => c_Pl_init l w _ _ _ q0) (fun h33 eh33 => ?_)
              refine j_aastore C (t := 3) (ci := 3) rfl rfl dX1_init_101 (fun h34 eh34 => ?_)
              refine j_iinc C (v := 6) [(1, _), (0, _)] dX1_init_102 rfl (by decide) (by decide) rfl ?_
              refine j_goto C (tgt := 83) dX1_init_105 (by decide) ?_
              refine j_iload_n C dX1_init_83 (i := 1) rfl rfl ?_
              refine j_bipush C (v := 8) dX1_init_84 (by decide) ?_
              refine j_icmpge C (tgt := 108) dX1_init_86 (by decide) (fun q35 => ?_) (fun q35 => ?_)
              · exact j_none
              · refine j_aload_n C dX1_init_89 (i := 0) rfl rfl ?_
                refine j_getR C g_X1_11 dX1_init_90 (fun v36 ev36 => ?_)
                refine j_iload_n C dX1_init_93 (i := 1) rfl rfl ?_
                refine j_new C n_X1_9 (Nat.le_of_ble_eq_true rfl) (Nat.le_of_ble_eq_true rfl) dX1_init_94 ?_
                refine j_dup C dX1_init_97 rfl ?_
                refine j_callIN C (As := []) (rest := [_, _, _]) k_X1_48 ⟨Nat.le_of_ble_eq_true rfl, Nat.le_of_ble_eq_true rfl⟩ rfl (Nat.le_of_ble_eq_true rfl) ⟨Nat.le_of_ble_eq_true rfl, Nat.le_of_ble_eq_true rfl⟩ rfl dX1_init_98 (fun r0 q0 => c_Pl_init l w _ _ _ q0) (fun h37 eh37 => ?_)
                refine j_aastore C (t := 3) (ci := 3) rfl rfl dX1_init_101 (fun h38 eh38 => ?_)
                refine j_iinc C (v := 7) [(1, _), (0, _)] dX1_init_102 rfl (by decide) (by decide) rfl ?_
                refine j_goto C (tgt := 83) dX1_init_105 (by decide) ?_
                refine j_iload_n C dX1_init_83 (i := 1) rfl rfl ?_
                refine j_bipush C (v := 8) dX1_init_84 (by decide) ?_
                refine j_icmpge C (tgt := 108) dX1_init_86 (by decide) (fun q39 => ?_) (fun q39 => ?_)
                · exact j_none
                · refine j_aload_n C dX1_init_89 (i := 0) rfl rfl ?_
                  refine j_getR C g_X1_11 dX1_init_90 (fun v40 ev40 => ?_)
                  refine j_iload_n C dX1_init_93 (i := 1) rfl rfl ?_
                  refine j_new C n_X1_9 (Nat.le_of_ble_eq_true rfl) (Nat.le_of_ble_eq_true rfl) dX1_init_94 ?_
                  refine j_dup C dX1_init_97 rfl ?_
                  refine j_callIN C (As := []) (rest := [_, _, _]) k_X1_48 ⟨Nat.le_of_ble_eq_true rfl, Nat.le_of_ble_eq_true rfl⟩ rfl (Nat.le_of_ble_eq_true rfl) ⟨Nat.le_of_ble_eq_true rfl, Nat.le_of_ble_eq_true rfl⟩ rfl dX1_init_98 (fun r0 q0 => c_Pl_init l w _ _ _ q0) (fun h41 eh41 => ?_)
                  refine j_aastore C (t := 3) (ci := 3) rfl rfl dX1_init_101 (fun h42 eh42 => ?_)
                  refine j_iinc C (v := 8) [(1, _), (0, _)] dX1_init_102 rfl (by decide) (by decide) rfl ?_
                  refine j_goto C (tgt := 83) dX1_init_105 (by decide) ?_
                  refine j_iload_n C dX1_init_83 (i := 1) rfl rfl ?_
                  refine j_bipush C (v := 8) dX1_init_84 (by decide) ?_
                  refine j_icmpge C (tgt := 108) dX1_init_86 (by decide) (fun q43 => ?_) (fun q43 => ?_)
                  · refine j_iconst C (v := 0) dX1_init_108 (by decide) ?_
                    refine j_istore_n C [(1, _), (0, _)] dX1_init_109 (i := 1) rfl (by decide) rfl ?_
                    refine j_iload_n C dX1_init_110 (i := 1) rfl rfl ?_
                    refine j_bipush C (v := 6) dX1_init_111 (by decide) ?_
                    refine j_icmpge C (tgt := 135) dX1_init_113 (by decide) (fun q44 => ?_) (fun q44 => ?_)
                    · exact j_none
                    · refine j_aload_n C dX1_init_116 (i := 0) rfl rfl ?_
                      refine j_getR C g_X1_21 dX1_init_117 (fun v45 ev45 => ?_)
                      refine j_iload_n C dX1_init_120 (i := 1) rfl rfl ?_
                      refine j_new C n_X1_19 (Nat.le_of_ble_eq_true rfl) (Nat.le_of_ble_eq_true rfl) dX1_init_121 ?_
                      refine j_dup C dX1_init_124 rfl ?_
                      refine j_callIN C (As := []) (rest := [_, _, _]) k_X1_49 ⟨Nat.le_of_ble_eq_true rfl, Nat.le_of_ble_eq_true rfl⟩ rfl (Nat.le_of_ble_eq_true rfl) ⟨Nat.le_of_ble_eq_true rfl, Nat.le_of_ble_eq_true rfl⟩ rfl dX1_init_125 (fun r0 q0 => c_Al_init l w _ _ _ q0) (fun h46 eh46 => ?_)
                      refine j_aastore C (t := 4) (ci := 0) rfl rfl dX1_init_128 (fun h47 eh47 => ?_)
                      refine j_iinc C (v := 1) [(1, _), (0, _)] dX1_init_129 rfl (by decide) (by decide) rfl ?_
                      refine j_goto C (tgt := 110) dX1_init_132 (by decide) ?_
                      refine j_iload_n C dX1_init_110 (i := 1) rfl rfl ?_
                      refine j_bipush C (v := 6) dX1_init_111 (by decide) ?_
                      refine j_icmpge C (tgt := 135) dX1_init_113 (by decide) (fun q48 => ?_) (fun q48 => ?_)
                      · exact j_none
                      · refine j_aload_n C dX1_init_116 (i := 0) rfl rfl ?_
                        refine j_getR C g_X1_21 dX1_init_117 (fun v49 ev49 => ?_)
                        refine j_iload_n C dX1_init_120 (i := 1) rfl rfl ?_
                        refine j_new C n_X1_19 (Nat.le_of_ble_eq_true rfl) (Nat.le_of_ble_eq_true rfl) dX1_init_121 ?_
                        refine j_dup C dX1_init_124 rfl ?_
                        refine j_callIN C (As := []) (rest := [_, _, _]) k_X1_49 ⟨Nat.le_of_ble_eq_true rfl, Nat.le_of_ble_eq_true rfl⟩ rfl (Nat.le_of_ble_eq_true rfl) ⟨Nat.le_of_ble_eq_true rfl, Nat.le_of_ble_eq_true rfl⟩ rfl dX1_init_125 (fun r0 q0 => c_Al_init l w _ _ _ q0) (fun h50 eh50 => ?_)
                        refine j_aastore C (t := 4) (ci := 0) rfl rfl dX1_init_128 (fun h51 eh51 => ?_)
                        refine j_iinc C (v := 2) [(1, _), (0, _)] dX1_init_129 rfl (by decide) (by decide) rfl ?_
                        refine j_goto C (tgt := 110) dX1_init_132 (by decide) ?_
                        refine j_iload_n C dX1_init_110 (i := 1) rfl rfl ?_
                        refine j_bipush C (v := 6) dX1_init_111 (by decide) ?_
                        refine j_icmpge C (tgt := 135) dX1_init_113 (by decide) (fun q52 => ?_) (fun q52 => ?_)
                        · exact j_none
                        · refine j_aload_n C dX1_init_116 (i := 0) rfl rfl ?_
                          refine j_getR C g_X1_21 dX1_init_117 (fun v53 ev53 => ?_)
                          refine j_iload_n C dX1_init_120 (i := 1) rfl rfl ?_
                          refine j_new C n_X1_19 (Nat.le_of_ble_eq_true rfl) (Nat.le_of_ble_eq_true rfl) dX1_init_121 ?_
                          refine j_dup C dX1_init_124 rfl ?_
                          refine j_callIN C (As := []) (rest := [_, _, _]) k_X1_49 ⟨Nat.le_of_ble_eq_true rfl, Nat.le_of_ble_eq_true rfl⟩ rfl (Nat.le_of_ble_eq_true rfl) ⟨Nat.le_of_ble_eq_true rfl, Nat.le_of_ble_eq_true rfl⟩ rfl dX1_init_125 (fun r0 q0 => c_Al_init l w _ _ _ q0) (fun h54 eh54 => ?_)
                          refine j_aastore C (t := 4) (ci := 0) rfl rfl dX1_init_128 (fun h55 eh55 => ?_)
                          refine j_iinc C (v := 3) [(1, _), (0, _)] dX1_init_129 rfl (by decide) (by decide) rfl ?_
                          refine j_goto C (tgt := 110) dX1_init_132 (by decide) ?_
                          refine j_iload_n C dX1_init_110 (i := 1) rfl rfl ?_
                          refine j_bipush C (v := 6) dX1_init_111 (by decide) ?_
                          refine j_icmpge C (tgt := 135) dX1_init_113 (by decide) (fun q56 => ?_) (fun q56 => ?_)
                          · exact j_none
                          · refine j_aload_n C dX1_init_116 (i := 0) rfl rfl ?_
                            refine j_getR C g_X1_21 dX1_init_117 (fun v57 ev57 => ?_)
                            refine j_iload_n C dX1_init_120 (i := 1) rfl rfl ?_
                            refine j_new C n_X1_19 (Nat.le_of_ble_eq_true rfl) (Nat.le_of_ble_eq_true rfl) dX1_init_121 ?_
                            refine j_dup C dX1_init_124 rfl ?_
                            refine j_callIN C (As := []) (rest := [_, _, _]) k_X1_49 ⟨Nat.le_of_ble_eq_true rfl, Nat.le_of_ble_eq_true rfl⟩ rfl (Nat.le_of_ble_eq_true rfl) ⟨Nat.le_of_ble_eq_true rfl, Nat.le_of_ble_eq_true rfl⟩ rfl dX1_init_125 (fun r0 q0 => c_Al_init l w _ _ _ q0) (fun h58 eh58 => ?_)
                            refine j_aastore C (t := 4) (ci := 0) rfl rfl dX1_init_128 (fun h59 eh59 => ?_)
                            refine j_iinc C (v := 4) [(1, _), (0, _)] dX1_init_129 rfl (by decide) (by decide) rfl ?_
                            refine j_goto C (tgt := 110) dX1_init_132 (by decide) ?_
                            refine j_iload_n C dX1_init_110 (i := 1) rfl rfl ?_
                            refine j_bipush C (v := 6) dX1_init_111 (by decide) ?_
                            refine j_icmpge C (tgt := 135) dX1_init_113 (by decide) (fun q60 => ?_) (fun q60 => ?_)
                            · exact j_none
                            · refine j_aload_n C dX1_init_116 (i := 0) rfl rfl ?_
                              refine j_getR C g_X1_21 dX1_init_117 (fun v61 ev61 => ?_)
                              refine j_iload_n C dX1_init_120 (i := 1) rfl rfl ?_
                              refine j_new C n_X1_19 (Nat.le_of_ble_eq_true rfl) (Nat.le_of_ble_eq_true rfl) dX1_init_121 ?_
                              refine j_dup C dX1_init_124 rfl ?_
                              refine j_callIN C (As := []) (rest := [_, _, _]) k_X1_49 ⟨Nat.le_of_ble_eq_true rfl, Nat.le_of_ble_eq_true rfl⟩ rfl (Nat.le_of_ble_eq_true rfl) ⟨Nat.le_of_ble_eq_true rfl, Nat.le_of_ble_eq_true rfl⟩ rfl dX1_init_125 (fun r0 q0 => c_Al_init l w _ _ _ q0) (fun h62 eh62 => ?_)
                              refine j_aastore C (t := 4) (ci := 0) rfl rfl dX1_init_128 (fun h63 eh63 => ?_)
                              refine j_iinc C (v := 5) [(1, _), (0, _)] dX1_init_129 rfl (by decide) (by decide) rfl ?_
                              refine j_goto C (tgt := 110) dX1_init_132 (by decide) ?_
                              refine j_iload_n C dX1_init_110 (i := 1) rfl rfl ?_
                              refine j_bipush C (v := 6) dX1_init_111 (by decide) ?_
                              refine j_icmpge C (tgt := 135) dX1_init_113 (by decide) (fun q64 => ?_) (fun q64 => ?_)
                              · exact j_none
                              · refine j_aload_n C dX1_init_116 (i := 0) rfl rfl ?_
                                refine j_getR C g_X1_21 dX1_init_117 (fun v65 ev65 => ?_)
                                refine j_iload_n C dX1_init_120 (i := 1) rfl rfl ?_
                                refine j_new C n_X1_19 (Nat.le_of_ble_eq_true rfl) (Nat.le_of_ble_eq_true rfl) dX1_init_121 ?_
                                refine j_dup C dX1_init_124 rfl ?_
                                refine j_callIN C (As := []) (rest := [_, _, _]) k_X1_49 ⟨Nat.le_of_ble_eq_true rfl, Nat.le_of_ble_eq_true rfl⟩ rfl (Nat.le_of_ble_eq_true rfl) ⟨Nat.le_of_ble_eq_true rfl, Nat.le_of_ble_eq_true rfl⟩ rfl dX1_init_125 (fun r0 q0 => c_Al_init l w _ _ _ q0) (fun h66 eh66 => ?_)
                                refine j_aastore C (t := 4) (ci := 0) rfl rfl dX1_init_128 (fun h67 eh67 => ?_)
                                refine j_iinc C (v := 6) [(1, _), (0, _)] dX1_init_129 rfl (by decide) (by decide) rfl ?_
                                refine j_goto C (tgt := 110) dX1_init_132 (by decide) ?_
                                refine j_iload_n C dX1_init_110 (i := 1) rfl rfl ?_
                                refine j_bipush C (v := 6) dX1_init_111 (by decide) ?_
                                refine j_icmpge C (tgt := 135) dX1_init_113 (by decide) (fun q68 => ?_) (fun q68 => ?_)
                                · exact e_vretM C hQ hr hlk dX1_init_135 (Nat.le_of_ble_eq_true rfl) (Nat.le_of_ble_eq_true rfl)
                                · exact j_none
                  · exact j_none
def f_Pr_empty (a0 : Nat) (h : hp_M) : Option (hp_M) := (pF h a0 4 3 (.int 0)).bind fun h1 => some h1
set_option maxRecDepth 100000 in
set_option maxHeartbeats 4000000 in
theorem c_Pr_empty (l : Launch) (w : hp_W) (a0 : Nat) (h : hp_M) (out : hp_M) (hX : f_Pr_empty a0 h = some out) : CT l w yX5_empty cX5_empty 1 none ({ frames := 0, cells := 0, slots := 0, locals := 0 }) [.ref a0] h none out := by
  unfold f_Pr_empty at hX
  refine ct_of (by decide +kernel) (Nat.le_of_ble_eq_true rfl) hX ?_
  intro p e s m args below meth c Q C hr hlk hnm hQ
  refine j_aload_n C dX5_empty_0 (i := 0) rfl rfl ?_
  refine j_iconst C (v := 0) dX5_empty_1 (by decide) ?_
  refine j_putI C p_X5_24 (fun q => nomatch q) dX5_empty_2 (fun h1 eh1 => ?_)
  exact e_vretM C hQ hr hlk dX5_empty_5 (Nat.le_of_ble_eq_true rfl) (Nat.le_of_ble_eq_true rfl)
def f_Bk_empty (a0 : Nat) (h : hp_M) : Option (hp_M) := (pF h a0 1 2 (.int 0)).bind fun h1 => (pF h1 a0 1 5 (.int 0)).bind fun h2 => (pF h2 a0 1 11 (.int 0)).bind fun h3 => (gR h3 a0 1 6).bind fun v4 => (onO h3 v4 4 (f_Pr_empty v4 h3)).bind fun h5 => some h5
set_option maxRecDepth 100000 in
set_option maxHeartbeats 4000000 in
theorem c_Bk_empty (l : Launch) (w : hp_W) (a0 : Nat) (h : hp_M) (out : hp_M) (hX : f_Bk_empty a0 h = some out) : CT l w yX1_empty cX1_empty 1 none ({ frames := 1, cells := 0, slots := 0, locals := 20 }) [.ref a0] h none out := by
  unfold f_Bk_empty at hX
  refine ct_of (by decide +kernel) (Nat.le_of_ble_eq_true rfl) hX ?_
  intro p e s m args below meth c Q C hr hlk hnm hQ
  refine j_aload_n C dX1_empty_0 (i := 0) rfl rfl ?_
  refine j_iconst C (v := 0) dX1_empty_1 (by decide) ?_
  refine j_putI C p_X1_50 (fun q => nomatch q) dX1_empty_2 (fun h1 eh1 => ?_)
  refine j_aload_n C dX1_empty_5 (i := 0) rfl rfl ?_
  refine j_iconst C (v := 0) dX1_empty_6 (by decide) ?_
  refine j_putI C p_X1_54 (fun q => nomatch q) dX1_empty_7 (fun h2 eh2 => ?_)
  refine j_aload_n C dX1_empty_10 (i := 0) rfl rfl ?_
  refine j_iconst C (v := 0) dX1_empty_11 (by decide) ?_
  refine j_putI C p_X1_57 (fun q => nomatch q) dX1_empty_12 (fun h3 eh3 => ?_)
  refine j_aload_n C dX1_empty_15 (i := 0) rfl rfl ?_
  refine j_getR C g_X1_31 dX1_empty_16 (fun v4 ev4 => ?_)
  refine j_callVv C (As := []) (rest := []) k_X1_60 ⟨Nat.le_of_ble_eq_true rfl, Nat.le_of_ble_eq_true rfl⟩ rfl (Nat.le_of_ble_eq_true rfl) ⟨Nat.le_of_ble_eq_true rfl, Nat.le_of_ble_eq_true rfl⟩ rfl dX1_empty_19 (fun r0 q0 => c_Pr_empty l w _ _ _ q0) (fun h5 eh5 _ => ?_)
  exact e_vretM C hQ hr hlk dX1_empty_22 (Nat.le_of_ble_eq_true rfl) (Nat.le_of_ble_eq_true rfl)
def f_Bk_program (a0 : Nat) (h : hp_M) : Option (Nat) := (gR h a0 1 6).bind fun v1 => some v1
set_option maxRecDepth 100000 in
set_option maxHeartbeats 4000000 in
theorem c_Bk_program (l : Launch) (w : hp_W) (a0 : Nat) (h : hp_M) (out : Nat) (hX : f_Bk_program a0 h = some out) : CT l w yX1_program cX1_program 1 (some (.object "ShadowSpell$Program")) ({ frames := 0, cells := 0, slots := 0, locals := 0 }) [.ref a0] h (some (.ref out)) h := by
  unfold f_Bk_program at hX
  refine ct_of (by decide +kernel) (Nat.le_of_ble_eq_true rfl) hX ?_
  intro p e s m args below meth c Q C hr hlk hnm hQ
  refine j_aload_n C dX1_program_0 (i := 0) rfl rfl ?_
  refine j_getR C g_X1_31 dX1_program_1 (fun v1 ev1 => ?_)
  exact e_aretR C hQ hr (by first | exact Or.inl ⟨_, rfl⟩ | exact Or.inr ⟨_, rfl⟩) hlk dX1_program_4 (Nat.le_of_ble_eq_true rfl) (Nat.le_of_ble_eq_true rfl)
def f_Bk_planets (a0 : Nat) (h : hp_M) : Option (Int32) := (gI h a0 1 2).bind fun v1 => some v1
set_option maxRecDepth 100000 in
set_option maxHeartbeats 4000000 in
theorem c_Bk_planets (l : Launch) (w : hp_W) (a0 : Nat) (h : hp_M) (out : Int32) (hX : f_Bk_planets a0 h = some out) : CT l w yX1_planets cX1_planets 1 (some .int) ({ frames := 0, cells := 0, slots := 0, locals := 0 }) [.ref a0] h (some (.int out)) h := by
  unfold f_Bk_planets at hX
  refine ct_of (by decide +kernel) (Nat.le_of_ble_eq_true rfl) hX ?_
  intro p e s m args below meth c Q C hr hlk hnm hQ
  refine j_aload_n C dX1_planets_0 (i := 0) rfl rfl ?_
  refine j_getI C g_X1_50 dX1_planets_1 (fun v1 ev1 => ?_)
  exact e_iretR C hQ hr rfl hlk dX1_planets_4 (Nat.le_of_ble_eq_true rfl) (Nat.le_of_ble_eq_true rfl)
def f_Bk_alphabets (a0 : Nat) (h : hp_M) : Option (Int32) := (gI h a0 1 5).bind fun v1 => some v1
set_option maxRecDepth 100000 in
set_option maxHeartbeats 4000000 in
theorem c_Bk_alphabets (l : Launch) (w : hp_W) (a0 : Nat) (h : hp_M) (out : Int32) (hX : f_Bk_alphabets a0 h = some out) : CT l w yX1_alphabets cX1_alphabets 1 (some .int) ({ frames := 0, cells := 0, slots := 0, locals := 0 }) [.ref a0] h (some (.int out)) h := by
  unfold f_Bk_alphabets at hX
  refine ct_of (by decide +kernel) (Nat.le_of_ble_eq_true rfl) hX ?_
  intro p e s m args below meth c Q C hr hlk hnm hQ
  refine j_aload_n C dX1_alphabets_0 (i := 0) rfl rfl ?_
  refine j_getI C g_X1_54 dX1_alphabets_1 (fun v1 ev1 => ?_)
  exact e_iretR C hQ hr rfl hlk dX1_alphabets_4 (Nat.le_of_ble_eq_true rfl) (Nat.le_of_ble_eq_true rfl)
def f_Bk_rules (a0 : Nat) (h : hp_M) : Option (Int32) := (gI h a0 1 11).bind fun v1 => some v1
set_option maxRecDepth 100000 in
set_option maxHeartbeats 4000000 in
theorem c_Bk_rules (l : Launch) (w : hp_W) (a0 : Nat) (h : hp_M) (out : Int32) (hX : f_Bk_rules a0 h = some out) : CT l w yX1_rules cX1_rules 1 (some .int) ({ frames := 0, cells := 0, slots := 0, locals := 0 }) [.ref a0] h (some (.int out)) h := by
  unfold f_Bk_rules at hX
  refine ct_of (by decide +kernel) (Nat.le_of_ble_eq_true rfl) hX ?_
  intro p e s m args below meth c Q C hr hlk hnm hQ
  refine j_aload_n C dX1_rules_0 (i := 0) rfl rfl ?_
  refine j_getI C g_X1_57 dX1_rules_1 (fun v1 ev1 => ?_)
  exact e_iretR C hQ hr rfl hlk dX1_rules_4 (Nat.le_of_ble_eq_true rfl) (Nat.le_of_ble_eq_true rfl)
def f_Bk_addPlanet (a0 : Nat) (x1 : Int64) (x3 : Int32) (x4 : Int32) (x5 : Int32) (x6 : Int32) (x7 : Int32) (h : hp_M) : Option (hp_M) := (gI h a0 1 2).bind fun v1 => if 8 ≤ v1 then (some h) else ((gR h a0 1 0).bind fun v3 => (gI h a0 1 2).bind fun v4 => (gaR h 3 v3 v4).bind fun v5 => (onO h v5 3 (f_Pl_tell v5 x3 x4 x5 x6 x7 h)).bind fun h6 => (gR h6 a0 1 1).bind fun v7 => (gI h6 a0 1 2).bind fun v8 => (paL h6 v7 v8 x1).bind fun h9 => (gI h9 a0 1 2).bind fun v10 => (pF h9 a0 1 2 (.int (v10 + 1))).bind fun h11 => some h11)
set_option maxRecDepth 100000 in
set_option maxHeartbeats 4000000 in
theorem c_Bk_addPlanet (l : Launch) (w : hp_W) (a0 : Nat) (x1 : Int64) (x3 : Int32) (x4 : Int32) (x5 : Int32) (x6 : Int32) (x7 : Int32) (h : hp_M) (out : hp_M) (hX : f_Bk_addPlanet a0 x1 x3 x4 x5 x6 x7 h = some out) : CT l w yX1_addPlanet cX1_addPlanet 8 none ({ frames := 2, cells := 0, slots := 0, locals := 46 }) [.ref a0, .long x1, .int x3, .int x4, .int x5, .int x6, .int x7] h none out := by
  unfold f_Bk_addPlanet at hX
  refine ct_of (by decide +kernel) (Nat.le_of_ble_eq_true rfl) hX ?_
  intro p e s m args below meth c Q C hr hlk hnm hQ
  refine j_aload_n C dX1_addPlanet_0 (i := 0) rfl rfl ?_
  refine j_getI C g_X1_50 dX1_addPlanet_1 (fun v1 ev1 => ?_)
  refine j_bipush C (v := 8) dX1_addPlanet_4 (by decide) ?_
  refine j_icmpge C (tgt := 50) dX1_addPlanet_6 (by decide) (fun q2 => ?_) (fun q2 => ?_)
  · exact e_vretM C hQ hr hlk dX1_addPlanet_50 (Nat.le_of_ble_eq_true rfl) (Nat.le_of_ble_eq_true rfl)
  · refine j_aload_n C dX1_addPlanet_9 (i := 0) rfl rfl ?_
    refine j_getR C g_X1_11 dX1_addPlanet_10 (fun v3 ev3 => ?_)
    refine j_aload_n C dX1_addPlanet_13 (i := 0) rfl rfl ?_
    refine j_getI C g_X1_50 dX1_addPlanet_14 (fun v4 ev4 => ?_)
    refine j_aaload C (t := 3) rfl dX1_addPlanet_17 (fun v5 ev5 => ?_)
    refine j_iload_n C dX1_addPlanet_18 (i := 3) rfl rfl ?_
    refine j_iload C dX1_addPlanet_19 rfl ?_
    refine j_iload C dX1_addPlanet_21 rfl ?_
    refine j_iload C dX1_addPlanet_23 rfl ?_
    refine j_iload C dX1_addPlanet_25 rfl ?_
    refine j_callVv C (As := [.int _, .int _, .int _, .int _, .int _]) (rest := []) k_X1_63 ⟨Nat.le_of_ble_eq_true rfl, Nat.le_of_ble_eq_true rfl⟩ rfl (Nat.le_of_ble_eq_true rfl) ⟨Nat.le_of_ble_eq_true rfl, Nat.le_of_ble_eq_true rfl⟩ rfl dX1_addPlanet_27 (fun r0 q0 => c_Pl_tell l w _ _ _ _ _ _ _ _ q0) (fun h6 eh6 _ => ?_)
    refine j_aload_n C dX1_addPlanet_30 (i := 0) rfl rfl ?_
    refine j_getR C g_X1_15 dX1_addPlanet_31 (fun v7 ev7 => ?_)
    refine j_aload_n C dX1_addPlanet_34 (i := 0) rfl rfl ?_
    refine j_getI C g_X1_50 dX1_addPlanet_35 (fun v8 ev8 => ?_)
    refine j_lload_n C dX1_addPlanet_38 (i := 1) rfl rfl ?_
    refine j_lastore C dX1_addPlanet_39 (fun h9 eh9 => ?_)
    refine j_aload_n C dX1_addPlanet_40 (i := 0) rfl rfl ?_
    refine j_dup C dX1_addPlanet_41 rfl ?_
    refine j_getI C g_X1_50 dX1_addPlanet_42 (fun v10 ev10 => ?_)
    refine j_iconst C (v := 1) dX1_addPlanet_45 (by decide) ?_
    refine j_iadd C dX1_addPlanet_46 ?_
    refine j_putI C p_X1_50 (fun q => nomatch q) dX1_addPlanet_47 (fun h11 eh11 => ?_)
    exact e_vretM C hQ hr hlk dX1_addPlanet_50 (Nat.le_of_ble_eq_true rfl) (Nat.le_of_ble_eq_true rfl)
def f_Bk_addAlphabet (a0 : Nat) (x1 : Int64) (a3 : Nat) (h : hp_M) : Option (hp_M) := (gI h a0 1 5).bind fun v1 => if 6 ≤ v1 then (some h) else ((gR h a0 1 3).bind fun v3 => (gI h a0 1 5).bind fun v4 => (gaR h 4 v3 v4).bind fun v5 => (onO h v5 0 (f_Al_copyFrom v5 a3 h)).bind fun h6 => (gR h6 a0 1 4).bind fun v7 => (gI h6 a0 1 5).bind fun v8 => (paL h6 v7 v8 x1).bind fun h9 => (gI h9 a0 1 5).bind fun v10 => (pF h9 a0 1 5 (.int (v10 + 1))).bind fun h11 => some h11)
set_option maxRecDepth 100000 in
set_option maxHeartbeats 4000000 in
theorem c_Bk_addAlphabet (l : Launch) (w : hp_W) (a0 : Nat) (x1 : Int64) (a3 : Nat) (h : hp_M) (out : hp_M) (hX : f_Bk_addAlphabet a0 x1 a3 h = some out) : CT l w yX1_addAlphabet cX1_addAlphabet 4 none ({ frames := 7, cells := 0, slots := 0, locals := 221 }) [.ref a0, .long x1, .ref a3] h none out := by
  unfold f_Bk_addAlphabet at hX
  refine ct_of (by decide +kernel) (Nat.le_of_ble_eq_true rfl) hX ?_
  intro p e s m args below meth c Q C hr hlk hnm hQ
  refine j_aload_n C dX1_addAlphabet_0 (i := 0) rfl rfl ?_
  refine j_getI C g_X1_54 dX1_addAlphabet_1 (fun v1 ev1 => ?_)
  refine j_bipush C (v := 6) dX1_addAlphabet_4 (by decide) ?_
  refine j_icmpge C (tgt := 42) dX1_addAlphabet_6 (by decide) (fun q2 => ?_) (fun q2 => ?_)
  · exact e_vretM C hQ hr hlk dX1_addAlphabet_42 (Nat.le_of_ble_eq_true rfl) (Nat.le_of_ble_eq_true rfl)
  · refine j_aload_n C dX1_addAlphabet_9 (i := 0) rfl rfl ?_
    refine j_getR C g_X1_21 dX1_addAlphabet_10 (fun v3 ev3 => ?_)
    refine j_aload_n C dX1_addAlphabet_13 (i := 0) rfl rfl ?_
    refine j_getI C g_X1_54 dX1_addAlphabet_14 (fun v4 ev4 => ?_)
    refine j_aaload C (t := 4) rfl dX1_addAlphabet_17 (fun v5 ev5 => ?_)
    refine j_aload_n C dX1_addAlphabet_18 (i := 3) rfl rfl ?_
    refine j_callVv C (As := [.ref _]) (rest := []) k_X1_67 ⟨Nat.le_of_ble_eq_true rfl, Nat.le_of_ble_eq_true rfl⟩ rfl (Nat.le_of_ble_eq_true rfl) ⟨Nat.le_of_ble_eq_true rfl, Nat.le_of_ble_eq_true rfl⟩ rfl dX1_addAlphabet_19 (fun r0 q0 => c_Al_copyFrom l w _ _ _ _ q0) (fun h6 eh6 _ => ?_)
    refine j_aload_n C dX1_addAlphabet_22 (i := 0) rfl rfl ?_
    refine j_getR C g_X1_25 dX1_addAlphabet_23 (fun v7 ev7 => ?_)
    refine j_aload_n C dX1_addAlphabet_26 (i := 0) rfl rfl ?_
    refine j_getI C g_X1_54 dX1_addAlphabet_27 (fun v8 ev8 => ?_)
    refine j_lload_n C dX1_addAlphabet_30 (i := 1) rfl rfl ?_
    refine j_lastore C dX1_addAlphabet_31 (fun h9 eh9 => ?_)
    refine j_aload_n C dX1_addAlphabet_32 (i := 0) rfl rfl ?_
    refine j_dup C dX1_addAlphabet_33 rfl ?_
    refine j_getI C g_X1_54 dX1_addAlphabet_34 (fun v10 ev10 => ?_)
    refine j_iconst C (v := 1) dX1_addAlphabet_37 (by decide) ?_
    refine j_iadd C dX1_addAlphabet_38 ?_
    refine j_putI C p_X1_54 (fun q => nomatch q) dX1_addAlphabet_39 (fun h11 eh11 => ?_)
    exact e_vretM C hQ hr hlk dX1_addAlphabet_42 (Nat.le_of_ble_eq_true rfl) (Nat.le_of_ble_eq_true rfl)
def f_Pr_size (a0 : Nat) (h : hp_M) : Option (Int32) := (gI h a0 4 3).bind fun v1 => some v1
set_option maxRecDepth 100000 in
set_option maxHeartbeats 4000000 in
theorem c_Pr_size (l : Launch) (w : hp_W) (a0 : Nat) (h : hp_M) (out : Int32) (hX : f_Pr_size a0 h = some out) : CT l w yX5_size cX5_size 1 (some .int) ({ frames := 0, cells := 0, slots := 0, locals := 0 }) [.ref a0] h (some (.int out)) h := by
  unfold f_Pr_size at hX
  refine ct_of (by decide +kernel) (Nat.le_of_ble_eq_true rfl) hX ?_
  intro p e s m args below meth c Q C hr hlk hnm hQ
  refine j_aload_n C dX5_size_0 (i := 0) rfl rfl ?_
  refine j_getI C g_X5_24 dX5_size_1 (fun v1 ev1 => ?_)
  exact e_iretR C hQ hr rfl hlk dX5_size_4 (Nat.le_of_ble_eq_true rfl) (Nat.le_of_ble_eq_true rfl)
def f_Bk_addRule (a0 : Nat) (x1 : Int32) (x2 : Int32) (x3 : Int32) (h : hp_M) : Option (hp_M) := (gI h a0 1 11).bind fun v1 => if 12 ≤ v1 then (some h) else ((gR h a0 1 7).bind fun v3 => (gI h a0 1 11).bind fun v4 => (paI h v3 v4 x1).bind fun h5 => (gR h5 a0 1 8).bind fun v6 => (gI h5 a0 1 11).bind fun v7 => (paI h5 v6 v7 x2).bind fun h8 => (gR h8 a0 1 9).bind fun v9 => (gI h8 a0 1 11).bind fun v10 => (gR h8 a0 1 6).bind fun v11 => (onO h8 v11 4 (f_Pr_size v11 h8)).bind fun r12 => (paI h8 v9 v10 r12).bind fun h13 => (gR h13 a0 1 10).bind fun v14 => (gI h13 a0 1 11).bind fun v15 => (paI h13 v14 v15 x3).bind fun h16 => (gI h16 a0 1 11).bind fun v17 => (pF h16 a0 1 11 (.int (v17 + 1))).bind fun h18 => some h18)
set_option maxRecDepth 100000 in
set_option maxHeartbeats 4000000 in
theorem c_Bk_addRule (l : Launch) (w : hp_W) (a0 : Nat) (x1 : Int32) (x2 : Int32) (x3 : Int32) (h : hp_M) (out : hp_M) (hX : f_Bk_addRule a0 x1 x2 x3 h = some out) : CT l w yX1_addRule cX1_addRule 4 none ({ frames := 1, cells := 0, slots := 0, locals := 20 }) [.ref a0, .int x1, .int x2, .int x3] h none out := by
  unfold f_Bk_addRule at hX
  refine ct_of (by decide +kernel) (Nat.le_of_ble_eq_true rfl) hX ?_
  intro p e s m args below meth c Q C hr hlk hnm hQ
  refine j_aload_n C dX1_addRule_0 (i := 0) rfl rfl ?_
  refine j_getI C g_X1_57 dX1_addRule_1 (fun v1 ev1 => ?_)
  refine j_bipush C (v := 12) dX1_addRule_4 (by decide) ?_
  refine j_icmpge C (tgt := 65) dX1_addRule_6 (by decide) (fun q2 => ?_) (fun q2 => ?_)
  · exact e_vretM C hQ hr hlk dX1_addRule_65 (Nat.le_of_ble_eq_true rfl) (Nat.le_of_ble_eq_true rfl)
  · refine j_aload_n C dX1_addRule_9 (i := 0) rfl rfl ?_
    refine j_getR C g_X1_35 dX1_addRule_10 (fun v3 ev3 => ?_)
    refine j_aload_n C dX1_addRule_13 (i := 0) rfl rfl ?_
    refine j_getI C g_X1_57 dX1_addRule_14 (fun v4 ev4 => ?_)
    refine j_iload_n C dX1_addRule_17 (i := 1) rfl rfl ?_
    refine j_iastore C dX1_addRule_18 (fun h5 eh5 => ?_)
    refine j_aload_n C dX1_addRule_19 (i := 0) rfl rfl ?_
    refine j_getR C g_X1_39 dX1_addRule_20 (fun v6 ev6 => ?_)
    refine j_aload_n C dX1_addRule_23 (i := 0) rfl rfl ?_
    refine j_getI C g_X1_57 dX1_addRule_24 (fun v7 ev7 => ?_)
    refine j_iload_n C dX1_addRule_27 (i := 2) rfl rfl ?_
    refine j_iastore C dX1_addRule_28 (fun h8 eh8 => ?_)
    refine j_aload_n C dX1_addRule_29 (i := 0) rfl rfl ?_
    refine j_getR C g_X1_42 dX1_addRule_30 (fun v9 ev9 => ?_)
    refine j_aload_n C dX1_addRule_33 (i := 0) rfl rfl ?_
    refine j_getI C g_X1_57 dX1_addRule_34 (fun v10 ev10 => ?_)
    refine j_aload_n C dX1_addRule_37 (i := 0) rfl rfl ?_
    refine j_getR C g_X1_31 dX1_addRule_38 (fun v11 ev11 => ?_)
    refine j_callVi C (As := []) (rest := [_, _]) k_X1_71 ⟨Nat.le_of_ble_eq_true rfl, Nat.le_of_ble_eq_true rfl⟩ rfl (Nat.le_of_ble_eq_true rfl) ⟨Nat.le_of_ble_eq_true rfl, Nat.le_of_ble_eq_true rfl⟩ rfl dX1_addRule_41 (fun r0 q0 => c_Pr_size l w _ _ _ q0) (fun r12 er12 nr12 => ?_)
    refine j_iastore C dX1_addRule_44 (fun h13 eh13 => ?_)
    refine j_aload_n C dX1_addRule_45 (i := 0) rfl rfl ?_
    refine j_getR C g_X1_45 dX1_addRule_46 (fun v14 ev14 => ?_)
    refine j_aload_n C dX1_addRule_49 (i := 0) rfl rfl ?_
    refine j_getI C g_X1_57 dX1_addRule_50 (fun v15 ev15 => ?_)
    refine j_iload_n C dX1_addRule_53 (i := 3) rfl rfl ?_
    refine j_iastore C dX1_addRule_54 (fun h16 eh16 => ?_)
    refine j_aload_n C dX1_addRule_55 (i := 0) rfl rfl ?_
    refine j_dup C dX1_addRule_56 rfl ?_
    refine j_getI C g_X1_57 dX1_addRule_57 (fun v17 ev17 => ?_)
    refine j_iconst C (v := 1) dX1_addRule_60 (by decide) ?_
    refine j_iadd C dX1_addRule_61 ?_
    refine j_putI C p_X1_57 (fun q => nomatch q) dX1_addRule_62 (fun h18 eh18 => ?_)
    exact e_vretM C hQ hr hlk dX1_addRule_65 (Nat.le_of_ble_eq_true rfl) (Nat.le_of_ble_eq_true rfl)
def f_Bk_planetNamed_b2 (fl : Nat) (a0 : Nat) (x1 : Int64) (h : hp_M) : Nat → Int32 → Option (Int32)
  | 0, _ => none
  | n + 1, x3 => (gI h a0 1 2).bind fun v1001 => if v1001 ≤ x3 then (some (-1)) else ((gR h a0 1 1).bind fun v1003 => (gaL h v1003 x3).bind fun v1004 => if (lg_cmp v1004 x1) = 0 then (some x3) else (f_Bk_planetNamed_b2 fl a0 x1 h n (x3 + 1)))
def f_Bk_planetNamed (fl : Nat) (a0 : Nat) (x1 : Int64) (h : hp_M) : Option (Int32) := f_Bk_planetNamed_b2 fl a0 x1 h fl 0
set_option maxRecDepth 100000 in
set_option maxHeartbeats 4000000 in
theorem b_Bk_planetNamed_2 {p : Program} {l : Launch} {e : Env} {s : State} {m : MethodId} {args : Array Value} {below : List Frame} {meth : Method} {c : Code} {Q : State → Prop} {w : hp_W} {out : Int32} (fl : Nat)   (a0 : Nat) (x1 : Int64) (h : hp_M) (C : Cx p m c cX1_planetNamed 4 s args RX1 w) (hr : meth.sig.returnType = some .int) (hlk : meth.locks = false) (hnm : meth.name = "planetNamed") (hQ : QM below w args s ({ frames := 0, cells := 0, slots := 0, locals := 0 }) (some .int) (some (.int out)) h = Q)  : ∀ (n : Nat) (x3 : Int32), J p l e ({ frames := 0, cells := 0, slots := 0, locals := 0 }) s m args below meth c Q w 4 0 0 2 [(0, .ref a0), (1, .long x1), (3, .int x3)] [] h (f_Bk_planetNamed_b2 fl a0 x1 h n x3) out := by
  intro n
  induction n with
  | zero => intro x3; exact j_none
  | succ n ih =>
    intro x3
    rw [f_Bk_planetNamed_b2]
    refine j_iload_n C dX1_planetNamed_2 (i := 3) rfl rfl ?_
    refine j_aload_n C dX1_planetNamed_3 (i := 0) rfl rfl ?_
    refine j_getI C g_X1_50 dX1_planetNamed_4 (fun v1001 ev1001 => ?_)
    refine j_icmpge C (tgt := 29) dX1_planetNamed_7 (by decide) (fun q1002 => ?_) (fun q1002 => ?_)
    · refine j_iconst C (v := -1) dX1_planetNamed_29 (by decide) ?_
      exact e_iretR C hQ hr rfl hlk dX1_planetNamed_30 (Nat.le_of_ble_eq_true rfl) (Nat.le_of_ble_eq_true rfl)
    · refine j_aload_n C dX1_planetNamed_10 (i := 0) rfl rfl ?_
      refine j_getR C g_X1_15 dX1_planetNamed_11 (fun v1003 ev1003 => ?_)
      refine j_iload_n C dX1_planetNamed_14 (i := 3) rfl rfl ?_
      refine j_laload C dX1_planetNamed_15 (fun v1004 ev1004 => ?_)
      refine j_lload_n C dX1_planetNamed_16 (i := 1) rfl rfl ?_
      refine j_lcmp C dX1_planetNamed_17 ?_
      refine j_ifne C (tgt := 23) dX1_planetNamed_18 (by decide) (fun q1005 => ?_) (fun q1005 => ?_)
      · refine j_iload_n C dX1_planetNamed_21 (i := 3) rfl rfl ?_
        exact e_iretR C hQ hr rfl hlk dX1_planetNamed_22 (Nat.le_of_ble_eq_true rfl) (Nat.le_of_ble_eq_true rfl)
      · refine j_iinc C (v := x3 + 1) [(3, _), (0, _), (1, _)] dX1_planetNamed_23 rfl rfl (by decide) rfl ?_
        refine j_goto C (tgt := 2) dX1_planetNamed_26 (by decide) ?_
        exact j_sub [1, 2, 0] rfl (ih _)
set_option maxRecDepth 100000 in
set_option maxHeartbeats 4000000 in
theorem c_Bk_planetNamed (l : Launch) (w : hp_W) (fl : Nat) (a0 : Nat) (x1 : Int64) (h : hp_M) (out : Int32) (hX : f_Bk_planetNamed fl a0 x1 h = some out) : CT l w yX1_planetNamed cX1_planetNamed 4 (some .int) ({ frames := 0, cells := 0, slots := 0, locals := 0 }) [.ref a0, .long x1] h (some (.int out)) h := by
  unfold f_Bk_planetNamed at hX
  refine ct_of (by decide +kernel) (Nat.le_of_ble_eq_true rfl) hX ?_
  intro p e s m args below meth c Q C hr hlk hnm hQ
  refine j_iconst C (v := 0) dX1_planetNamed_0 (by decide) ?_
  refine j_istore_n C [(3, _), (0, _), (1, _)] dX1_planetNamed_1 (i := 3) rfl (by decide) rfl ?_
  refine j_sub [1, 2, 0] rfl (b_Bk_planetNamed_2 fl  _ _ _ C hr hlk hnm hQ  _ _)
def f_Bk_alphabetNamed_b2 (fl : Nat) (a0 : Nat) (x1 : Int64) (h : hp_M) : Nat → Int32 → Option (Int32)
  | 0, _ => none
  | n + 1, x3 => (gI h a0 1 5).bind fun v1001 => if v1001 ≤ x3 then (some (-1)) else ((gR h a0 1 4).bind fun v1003 => (gaL h v1003 x3).bind fun v1004 => if (lg_cmp v1004 x1) = 0 then (some x3) else (f_Bk_alphabetNamed_b2 fl a0 x1 h n (x3 + 1)))
def f_Bk_alphabetNamed (fl : Nat) (a0 : Nat) (x1 : Int64) (h : hp_M) : Option (Int32) := f_Bk_alphabetNamed_b2 fl a0 x1 h fl 0
set_option maxRecDepth 100000 in
set_option maxHeartbeats 4000000 in
theorem b_Bk_alphabetNamed_2 {p : Program} {l : Launch} {e : Env} {s : State} {m : MethodId} {args : Array Value} {below : List Frame} {meth : Method} {c : Code} {Q : State → Prop} {w : hp_W} {out : Int32} (fl : Nat)   (a0 : Nat) (x1 : Int64) (h : hp_M) (C : Cx p m c cX1_alphabetNamed 4 s args RX1 w) (hr : meth.sig.returnType = some .int) (hlk : meth.locks = false) (hnm : meth.name = "alphabetNamed") (hQ : QM below w args s ({ frames := 0, cells := 0, slots := 0, locals := 0 }) (some .int) (some (.int out)) h = Q)  : ∀ (n : Nat) (x3 : Int32), J p l e ({ frames := 0, cells := 0, slots := 0, locals := 0 }) s m args below meth c Q w 4 0 0 2 [(0, .ref a0), (1, .long x1), (3, .int x3)] [] h (f_Bk_alphabetNamed_b2 fl a0 x1 h n x3) out := by
  intro n
  induction n with
  | zero => intro x3; exact j_none
  | succ n ih =>
    intro x3
    rw [f_Bk_alphabetNamed_b2]
    refine j_iload_n C dX1_alphabetNamed_2 (i := 3) rfl rfl ?_
    refine j_aload_n C dX1_alphabetNamed_3 (i := 0) rfl rfl ?_
    refine j_getI C g_X1_54 dX1_alphabetNamed_4 (fun v1001 ev1001 => ?_)
    refine j_icmpge C (tgt := 29) dX1_alphabetNamed_7 (by decide) (fun q1002 => ?_) (fun q1002 => ?_)
    · refine j_iconst C (v := -1) dX1_alphabetNamed_29 (by decide) ?_
      exact e_iretR C hQ hr rfl hlk dX1_alphabetNamed_30 (Nat.le_of_ble_eq_true rfl) (Nat.le_of_ble_eq_true rfl)
    · refine j_aload_n C dX1_alphabetNamed_10 (i := 0) rfl rfl ?_
      refine j_getR C g_X1_25 dX1_alphabetNamed_11 (fun v1003 ev1003 => ?_)
      refine j_iload_n C dX1_alphabetNamed_14 (i := 3) rfl rfl ?_
      refine j_laload C dX1_alphabetNamed_15 (fun v1004 ev1004 => ?_)
      refine j_lload_n C dX1_alphabetNamed_16 (i := 1) rfl rfl ?_
      refine j_lcmp C dX1_alphabetNamed_17 ?_
      refine j_ifne C (tgt := 23) dX1_alphabetNamed_18 (by decide) (fun q1005 => ?_) (fun q1005 => ?_)
      · refine j_iload_n C dX1_alphabetNamed_21 (i := 3) rfl rfl ?_
        exact e_iretR C hQ hr rfl hlk dX1_alphabetNamed_22 (Nat.le_of_ble_eq_true rfl) (Nat.le_of_ble_eq_true rfl)
      · refine j_iinc C (v := x3 + 1) [(3, _), (0, _), (1, _)] dX1_alphabetNamed_23 rfl rfl (by decide) rfl ?_
        refine j_goto C (tgt := 2) dX1_alphabetNamed_26 (by decide) ?_
        exact j_sub [1, 2, 0] rfl (ih _)
set_option maxRecDepth 100000 in
set_option maxHeartbeats 4000000 in
theorem c_Bk_alphabetNamed (l : Launch) (w : hp_W) (fl : Nat) (a0 : Nat) (x1 : Int64) (h : hp_M) (out : Int32) (hX : f_Bk_alphabetNamed fl a0 x1 h = some out) : CT l w yX1_alphabetNamed cX1_alphabetNamed 4 (some .int) ({ frames := 0, cells := 0, slots := 0, locals := 0 }) [.ref a0, .long x1] h (some (.int out)) h := by
  unfold f_Bk_alphabetNamed at hX
  refine ct_of (by decide +kernel) (Nat.le_of_ble_eq_true rfl) hX ?_
  intro p e s m args below meth c Q C hr hlk hnm hQ
  refine j_iconst C (v := 0) dX1_alphabetNamed_0 (by decide) ?_
  refine j_istore_n C [(3, _), (0, _), (1, _)] dX1_alphabetNamed_1 (i := 3) rfl (by decide) rfl ?_
  refine j_sub [1, 2, 0] rfl (b_Bk_alphabetNamed_2 fl  _ _ _ C hr hlk hnm hQ  _ _)
def f_Bk_copyPlanetTo (a0 : Nat) (x1 : Int32) (a2 : Nat) (h : hp_M) : Option (hp_M) := if x1 < 0 then (some h) else ((gI h a0 1 2).bind fun v2 => if v2 ≤ x1 then (some h) else ((gR h a0 1 0).bind fun v4 => (gaR h 3 v4 x1).bind fun v5 => (onO h a2 3 (f_Pl_copyFrom a2 v5 h)).bind fun h6 => some h6))
set_option maxRecDepth 100000 in
set_option maxHeartbeats 4000000 in
theorem c_Bk_copyPlanetTo (l : Launch) (w : hp_W) (a0 : Nat) (x1 : Int32) (a2 : Nat) (h : hp_M) (out : hp_M) (hX : f_Bk_copyPlanetTo a0 x1 a2 h = some out) : CT l w yX1_copyPlanetTo cX1_copyPlanetTo 3 none ({ frames := 1, cells := 0, slots := 0, locals := 21 }) [.ref a0, .int x1, .ref a2] h none out := by
  unfold f_Bk_copyPlanetTo at hX
  refine ct_of (by decide +kernel) (Nat.le_of_ble_eq_true rfl) hX ?_
  intro p e s m args below meth c Q C hr hlk hnm hQ
  refine j_iload_n C dX1_copyPlanetTo_0 (i := 1) rfl rfl ?_
  refine j_iflt C (tgt := 22) dX1_copyPlanetTo_1 (by decide) (fun q1 => ?_) (fun q1 => ?_)
  · exact e_vretM C hQ hr hlk dX1_copyPlanetTo_22 (Nat.le_of_ble_eq_true rfl) (Nat.le_of_ble_eq_true rfl)
  · refine j_iload_n C dX1_copyPlanetTo_4 (i := 1) rfl rfl ?_
    refine j_aload_n C dX1_copyPlanetTo_5 (i := 0) rfl rfl ?_
    refine j_getI C g_X1_50 dX1_copyPlanetTo_6 (fun v2 ev2 => ?_)
    refine j_icmpge C (tgt := 22) dX1_copyPlanetTo_9 (by decide) (fun q3 => ?_) (fun q3 => ?_)
    · exact e_vretM C hQ hr hlk dX1_copyPlanetTo_22 (Nat.le_of_ble_eq_true rfl) (Nat.le_of_ble_eq_true rfl)
    · refine j_aload_n C dX1_copyPlanetTo_12 (i := 2) rfl rfl ?_
      refine j_aload_n C dX1_copyPlanetTo_13 (i := 0) rfl rfl ?_
      refine j_getR C g_X1_11 dX1_copyPlanetTo_14 (fun v4 ev4 => ?_)
      refine j_iload_n C dX1_copyPlanetTo_17 (i := 1) rfl rfl ?_
      refine j_aaload C (t := 3) rfl dX1_copyPlanetTo_18 (fun v5 ev5 => ?_)
      refine j_callVv C (As := [.ref _]) (rest := []) k_X1_75 ⟨Nat.le_of_ble_eq_true rfl, Nat.le_of_ble_eq_true rfl⟩ rfl (Nat.le_of_ble_eq_true rfl) ⟨Nat.le_of_ble_eq_true rfl, Nat.le_of_ble_eq_true rfl⟩ rfl dX1_copyPlanetTo_19 (fun r0 q0 => c_Pl_copyFrom l w _ _ _ _ q0) (fun h6 eh6 _ => ?_)
      exact e_vretM C hQ hr hlk dX1_copyPlanetTo_22 (Nat.le_of_ble_eq_true rfl) (Nat.le_of_ble_eq_true rfl)
def f_Bk_hasAlphabet (a0 : Nat) (x1 : Int32) (h : hp_M) : Option (Int32) := jn (some 0) fun (j2 : Option (Int32)) => if x1 < 0 then (j2) else ((gI h a0 1 5).bind fun v4 => if v4 ≤ x1 then (j2) else (some 1))
set_option maxRecDepth 100000 in
set_option maxHeartbeats 4000000 in
theorem c_Bk_hasAlphabet (l : Launch) (w : hp_W) (a0 : Nat) (x1 : Int32) (h : hp_M) (out : Int32) (hX : f_Bk_hasAlphabet a0 x1 h = some out) : CT l w yX1_hasAlphabet cX1_hasAlphabet 2 (some .boolean) ({ frames := 0, cells := 0, slots := 0, locals := 0 }) [.ref a0, .int x1] h (some (.int out)) h := by
  unfold f_Bk_hasAlphabet at hX
  refine ct_of (by decide +kernel) (Nat.le_of_ble_eq_true rfl) hX ?_
  intro p e s m args below meth c Q C hr hlk hnm hQ
  refine j_jn (P := fun j2 => J p l e ({ frames := 0, cells := 0, slots := 0, locals := 0 }) s m args below meth c Q w 2 0 0 16 [] [] h (j2) out) ?_ (fun j2 hj2 => ?_)
  · refine j_iconst C (v := 0) dX1_hasAlphabet_16 (by decide) ?_
    exact e_iretR C hQ hr rfl hlk dX1_hasAlphabet_17 (Nat.le_of_ble_eq_true rfl) (Nat.le_of_ble_eq_true rfl)
  · refine j_iload_n C dX1_hasAlphabet_0 (i := 1) rfl rfl ?_
    refine j_iflt C (tgt := 16) dX1_hasAlphabet_1 (by decide) (fun q3 => ?_) (fun q3 => ?_)
    · exact j_sub [] rfl (hj2)
    · refine j_iload_n C dX1_hasAlphabet_4 (i := 1) rfl rfl ?_
      refine j_aload_n C dX1_hasAlphabet_5 (i := 0) rfl rfl ?_
      refine j_getI C g_X1_54 dX1_hasAlphabet_6 (fun v4 ev4 => ?_)
      refine j_icmpge C (tgt := 16) dX1_hasAlphabet_9 (by decide) (fun q5 => ?_) (fun q5 => ?_)
      · exact j_sub [] rfl (hj2)
      · refine j_iconst C (v := 1) dX1_hasAlphabet_12 (by decide) ?_
        refine j_goto C (tgt := 17) dX1_hasAlphabet_13 (by decide) ?_
        exact e_iretR C hQ hr rfl hlk dX1_hasAlphabet_17 (Nat.le_of_ble_eq_true rfl) (Nat.le_of_ble_eq_true rfl)
def f_Bk_lettersOf (a0 : Nat) (x1 : Int32) (h : hp_M) : Option (Int32) := (onO h a0 1 (f_Bk_hasAlphabet a0 x1 h)).bind fun r1 => if r1 = 0 then (some 0) else ((gR h a0 1 3).bind fun v3 => (gaR h 4 v3 x1).bind fun v4 => (onO h v4 0 (f_Al_size v4 h)).bind fun r5 => some r5)
set_option maxRecDepth 100000 in
set_option maxHeartbeats 4000000 in
theorem c_Bk_lettersOf (l : Launch) (w : hp_W) (a0 : Nat) (x1 : Int32) (h : hp_M) (out : Int32) (hX : f_Bk_lettersOf a0 x1 h = some out) : CT l w yX1_lettersOf cX1_lettersOf 2 (some .int) ({ frames := 1, cells := 0, slots := 0, locals := 21 }) [.ref a0, .int x1] h (some (.int out)) h := by
  unfold f_Bk_lettersOf at hX
  refine ct_of (by decide +kernel) (Nat.le_of_ble_eq_true rfl) hX ?_
  intro p e s m args below meth c Q C hr hlk hnm hQ
  refine j_aload_n C dX1_lettersOf_0 (i := 0) rfl rfl ?_
  refine j_iload_n C dX1_lettersOf_1 (i := 1) rfl rfl ?_
  refine j_callVi C (As := [.int _]) (rest := []) k_X1_78 ⟨Nat.le_of_ble_eq_true rfl, Nat.le_of_ble_eq_true rfl⟩ rfl (Nat.le_of_ble_eq_true rfl) ⟨Nat.le_of_ble_eq_true rfl, Nat.le_of_ble_eq_true rfl⟩ rfl dX1_lettersOf_2 (fun r0 q0 => c_Bk_hasAlphabet l w _ _ _ _ q0) (fun r1 er1 nr1 => ?_)
  refine j_ifeq C (tgt := 20) dX1_lettersOf_5 (by decide) (fun q2 => ?_) (fun q2 => ?_)
  · refine j_iconst C (v := 0) dX1_lettersOf_20 (by decide) ?_
    exact e_iretR C hQ hr rfl hlk dX1_lettersOf_21 (Nat.le_of_ble_eq_true rfl) (Nat.le_of_ble_eq_true rfl)
  · refine j_aload_n C dX1_lettersOf_8 (i := 0) rfl rfl ?_
    refine j_getR C g_X1_21 dX1_lettersOf_9 (fun v3 ev3 => ?_)
    refine j_iload_n C dX1_lettersOf_12 (i := 1) rfl rfl ?_
    refine j_aaload C (t := 4) rfl dX1_lettersOf_13 (fun v4 ev4 => ?_)
    refine j_callVi C (As := []) (rest := []) k_X1_82 ⟨Nat.le_of_ble_eq_true rfl, Nat.le_of_ble_eq_true rfl⟩ rfl (Nat.le_of_ble_eq_true rfl) ⟨Nat.le_of_ble_eq_true rfl, Nat.le_of_ble_eq_true rfl⟩ rfl dX1_lettersOf_14 (fun r0 q0 => c_Al_size l w _ _ _ q0) (fun r5 er5 nr5 => ?_)
    refine j_goto C (tgt := 21) dX1_lettersOf_17 (by decide) ?_
    exact e_iretR C hQ hr rfl hlk dX1_lettersOf_21 (Nat.le_of_ble_eq_true rfl) (Nat.le_of_ble_eq_true rfl)
def f_Bk_letterOf (a0 : Nat) (x1 : Int32) (x2 : Int32) (h : hp_M) : Option (Int32) := (onO h a0 1 (f_Bk_hasAlphabet a0 x1 h)).bind fun r1 => if r1 = 0 then (some 0) else ((gR h a0 1 3).bind fun v3 => (gaR h 4 v3 x1).bind fun v4 => (onO h v4 0 (f_Al_at v4 x2 h)).bind fun r5 => some r5)
set_option maxRecDepth 100000 in
set_option maxHeartbeats 4000000 in
theorem c_Bk_letterOf (l : Launch) (w : hp_W) (a0 : Nat) (x1 : Int32) (x2 : Int32) (h : hp_M) (out : Int32) (hX : f_Bk_letterOf a0 x1 x2 h = some out) : CT l w yX1_letterOf cX1_letterOf 3 (some .int) ({ frames := 1, cells := 0, slots := 0, locals := 21 }) [.ref a0, .int x1, .int x2] h (some (.int out)) h := by
  unfold f_Bk_letterOf at hX
  refine ct_of (by decide +kernel) (Nat.le_of_ble_eq_true rfl) hX ?_
  intro p e s m args below meth c Q C hr hlk hnm hQ
  refine j_aload_n C dX1_letterOf_0 (i := 0) rfl rfl ?_
  refine j_iload_n C dX1_letterOf_1 (i := 1) rfl rfl ?_
  refine j_callVi C (As := [.int _]) (rest := []) k_X1_78 ⟨Nat.le_of_ble_eq_true rfl, Nat.le_of_ble_eq_true rfl⟩ rfl (Nat.le_of_ble_eq_true rfl) ⟨Nat.le_of_ble_eq_true rfl, Nat.le_of_ble_eq_true rfl⟩ rfl dX1_letterOf_2 (fun r0 q0 => c_Bk_hasAlphabet l w _ _ _ _ q0) (fun r1 er1 nr1 => ?_)
  refine j_ifeq C (tgt := 21) dX1_letterOf_5 (by decide) (fun q2 => ?_) (fun q2 => ?_)
  · refine j_iconst C (v := 0) dX1_letterOf_21 (by decide) ?_
    exact e_iretR C hQ hr rfl hlk dX1_letterOf_22 (Nat.le_of_ble_eq_true rfl) (Nat.le_of_ble_eq_true rfl)
  · refine j_aload_n C dX1_letterOf_8 (i := 0) rfl rfl ?_
    refine j_getR C g_X1_21 dX1_letterOf_9 (fun v3 ev3 => ?_)
    refine j_iload_n C dX1_letterOf_12 (i := 1) rfl rfl ?_
    refine j_aaload C (t := 4) rfl dX1_letterOf_13 (fun v4 ev4 => ?_)
    refine j_iload_n C dX1_letterOf_14 (i := 2) rfl rfl ?_
    refine j_callVi C (As := [.int _]) (rest := []) k_X1_83 ⟨Nat.le_of_ble_eq_true rfl, Nat.le_of_ble_eq_true rfl⟩ rfl (Nat.le_of_ble_eq_true rfl) ⟨Nat.le_of_ble_eq_true rfl, Nat.le_of_ble_eq_true rfl⟩ rfl dX1_letterOf_15 (fun r0 q0 => c_Al_at l w _ _ _ _ q0) (fun r5 er5 nr5 => ?_)
    refine j_goto C (tgt := 22) dX1_letterOf_18 (by decide) ?_
    exact e_iretR C hQ hr rfl hlk dX1_letterOf_22 (Nat.le_of_ble_eq_true rfl) (Nat.le_of_ble_eq_true rfl)
def f_Bk_numberOf (fl : Nat) (a0 : Nat) (x1 : Int32) (x2 : Int32) (h : hp_M) : Option (Int32) := (onO h a0 1 (f_Bk_hasAlphabet a0 x1 h)).bind fun r1 => if r1 = 0 then (some (-1)) else ((gR h a0 1 3).bind fun v3 => (gaR h 4 v3 x1).bind fun v4 => (onO h v4 0 (f_Al_numberOf fl v4 x2 h)).bind fun r5 => some r5)
set_option maxRecDepth 100000 in
set_option maxHeartbeats 4000000 in
theorem c_Bk_numberOf (l : Launch) (w : hp_W) (fl : Nat) (a0 : Nat) (x1 : Int32) (x2 : Int32) (h : hp_M) (out : Int32) (hX : f_Bk_numberOf fl a0 x1 x2 h = some out) : CT l w yX1_numberOf cX1_numberOf 3 (some .int) ({ frames := 1, cells := 0, slots := 0, locals := 22 }) [.ref a0, .int x1, .int x2] h (some (.int out)) h := by
  unfold f_Bk_numberOf at hX
  refine ct_of (by decide +kernel) (Nat.le_of_ble_eq_true rfl) hX ?_
  intro p e s m args below meth c Q C hr hlk hnm hQ
  refine j_aload_n C dX1_numberOf_0 (i := 0) rfl rfl ?_
  refine j_iload_n C dX1_numberOf_1 (i := 1) rfl rfl ?_
  refine j_callVi C (As := [.int _]) (rest := []) k_X1_78 ⟨Nat.le_of_ble_eq_true rfl, Nat.le_of_ble_eq_true rfl⟩ rfl (Nat.le_of_ble_eq_true rfl) ⟨Nat.le_of_ble_eq_true rfl, Nat.le_of_ble_eq_true rfl⟩ rfl dX1_numberOf_2 (fun r0 q0 => c_Bk_hasAlphabet l w _ _ _ _ q0) (fun r1 er1 nr1 => ?_)
  refine j_ifeq C (tgt := 21) dX1_numberOf_5 (by decide) (fun q2 => ?_) (fun q2 => ?_)
  · refine j_iconst C (v := -1) dX1_numberOf_21 (by decide) ?_
    exact e_iretR C hQ hr rfl hlk dX1_numberOf_22 (Nat.le_of_ble_eq_true rfl) (Nat.le_of_ble_eq_true rfl)
  · refine j_aload_n C dX1_numberOf_8 (i := 0) rfl rfl ?_
    refine j_getR C g_X1_21 dX1_numberOf_9 (fun v3 ev3 => ?_)
    refine j_iload_n C dX1_numberOf_12 (i := 1) rfl rfl ?_
    refine j_aaload C (t := 4) rfl dX1_numberOf_13 (fun v4 ev4 => ?_)
    refine j_iload_n C dX1_numberOf_14 (i := 2) rfl rfl ?_
    refine j_callVi C (As := [.int _]) (rest := []) k_X1_87 ⟨Nat.le_of_ble_eq_true rfl, Nat.le_of_ble_eq_true rfl⟩ rfl (Nat.le_of_ble_eq_true rfl) ⟨Nat.le_of_ble_eq_true rfl, Nat.le_of_ble_eq_true rfl⟩ rfl dX1_numberOf_15 (fun r0 q0 => c_Al_numberOf l w fl _ _ _ _ q0) (fun r5 er5 nr5 => ?_)
    refine j_goto C (tgt := 22) dX1_numberOf_18 (by decide) ?_
    exact e_iretR C hQ hr rfl hlk dX1_numberOf_22 (Nat.le_of_ble_eq_true rfl) (Nat.le_of_ble_eq_true rfl)
def f_Bk_isRule (a0 : Nat) (x1 : Int32) (h : hp_M) : Option (Int32) := jn (some 0) fun (j2 : Option (Int32)) => if x1 < 0 then (j2) else ((gI h a0 1 11).bind fun v4 => if v4 ≤ x1 then (j2) else (some 1))
set_option maxRecDepth 100000 in
set_option maxHeartbeats 4000000 in
theorem c_Bk_isRule (l : Launch) (w : hp_W) (a0 : Nat) (x1 : Int32) (h : hp_M) (out : Int32) (hX : f_Bk_isRule a0 x1 h = some out) : CT l w yX1_isRule cX1_isRule 2 (some .boolean) ({ frames := 0, cells := 0, slots := 0, locals := 0 }) [.ref a0, .int x1] h (some (.int out)) h := by
  unfold f_Bk_isRule at hX
  refine ct_of (by decide +kernel) (Nat.le_of_ble_eq_true rfl) hX ?_
  intro p e s m args below meth c Q C hr hlk hnm hQ
  refine j_jn (P := fun j2 => J p l e ({ frames := 0, cells := 0, slots := 0, locals := 0 }) s m args below meth c Q w 2 0 0 16 [] [] h (j2) out) ?_ (fun j2 hj2 => ?_)
  · refine j_iconst C (v := 0) dX1_isRule_16 (by decide) ?_
    exact e_iretR C hQ hr rfl hlk dX1_isRule_17 (Nat.le_of_ble_eq_true rfl) (Nat.le_of_ble_eq_true rfl)
  · refine j_iload_n C dX1_isRule_0 (i := 1) rfl rfl ?_
    refine j_iflt C (tgt := 16) dX1_isRule_1 (by decide) (fun q3 => ?_) (fun q3 => ?_)
    · exact j_sub [] rfl (hj2)
    · refine j_iload_n C dX1_isRule_4 (i := 1) rfl rfl ?_
      refine j_aload_n C dX1_isRule_5 (i := 0) rfl rfl ?_
      refine j_getI C g_X1_57 dX1_isRule_6 (fun v4 ev4 => ?_)
      refine j_icmpge C (tgt := 16) dX1_isRule_9 (by decide) (fun q5 => ?_) (fun q5 => ?_)
      · exact j_sub [] rfl (hj2)
      · refine j_iconst C (v := 1) dX1_isRule_12 (by decide) ?_
        refine j_goto C (tgt := 17) dX1_isRule_13 (by decide) ?_
        exact e_iretR C hQ hr rfl hlk dX1_isRule_17 (Nat.le_of_ble_eq_true rfl) (Nat.le_of_ble_eq_true rfl)
def f_Pp_size (a0 : Nat) (h : hp_M) : Option (Int32) := (gI h a0 2 1).bind fun v1 => some v1
set_option maxRecDepth 100000 in
set_option maxHeartbeats 4000000 in
theorem c_Pp_size (l : Launch) (w : hp_W) (a0 : Nat) (h : hp_M) (out : Int32) (hX : f_Pp_size a0 h = some out) : CT l w yX3_size cX3_size 1 (some .int) ({ frames := 0, cells := 0, slots := 0, locals := 0 }) [.ref a0] h (some (.int out)) h := by
  unfold f_Pp_size at hX
  refine ct_of (by decide +kernel) (Nat.le_of_ble_eq_true rfl) hX ?_
  intro p e s m args below meth c Q C hr hlk hnm hQ
  refine j_aload_n C dX3_size_0 (i := 0) rfl rfl ?_
  refine j_getI C g_X3_13 dX3_size_1 (fun v1 ev1 => ?_)
  exact e_iretR C hQ hr rfl hlk dX3_size_4 (Nat.le_of_ble_eq_true rfl) (Nat.le_of_ble_eq_true rfl)
def f_Pr_truth (x0 : Int32) (h : hp_M) : Option (Int32) := if x0 = 0 then (some 0) else (some 1)
set_option maxRecDepth 100000 in
set_option maxHeartbeats 4000000 in
theorem c_Pr_truth (l : Launch) (w : hp_W) (x0 : Int32) (h : hp_M) (out : Int32) (hX : f_Pr_truth x0 h = some out) : CT l w yX5_truth cX5_truth 1 (some .int) ({ frames := 0, cells := 0, slots := 0, locals := 0 }) [.int x0] h (some (.int out)) h := by
  unfold f_Pr_truth at hX
  refine ct_of (by decide +kernel) (Nat.le_of_ble_eq_true rfl) hX ?_
  intro p e s m args below meth c Q C hr hlk hnm hQ
  refine j_iload_n C dX5_truth_0 (i := 0) rfl rfl ?_
  refine j_ifeq C (tgt := 8) dX5_truth_1 (by decide) (fun q1 => ?_) (fun q1 => ?_)
  · refine j_iconst C (v := 0) dX5_truth_8 (by decide) ?_
    exact e_iretR C hQ hr rfl hlk dX5_truth_9 (Nat.le_of_ble_eq_true rfl) (Nat.le_of_ble_eq_true rfl)
  · refine j_iconst C (v := 1) dX5_truth_4 (by decide) ?_
    refine j_goto C (tgt := 9) dX5_truth_5 (by decide) ?_
    exact e_iretR C hQ hr rfl hlk dX5_truth_9 (Nat.le_of_ble_eq_true rfl) (Nat.le_of_ble_eq_true rfl)
def f_Pr_push (a0 : Nat) (x1 : Int32) (h : hp_M) : Option (hp_M) := (gI h a0 4 5).bind fun v1 => if 400 ≤ v1 then (some h) else ((gR h a0 4 4).bind fun v3 => (gI h a0 4 5).bind fun v4 => (paI h v3 v4 x1).bind fun h5 => (gI h5 a0 4 5).bind fun v6 => (pF h5 a0 4 5 (.int (v6 + 1))).bind fun h7 => some h7)
set_option maxRecDepth 100000 in
set_option maxHeartbeats 4000000 in
theorem c_Pr_push (l : Launch) (w : hp_W) (a0 : Nat) (x1 : Int32) (h : hp_M) (out : hp_M) (hX : f_Pr_push a0 x1 h = some out) : CT l w yX5_push cX5_push 2 none ({ frames := 0, cells := 0, slots := 0, locals := 0 }) [.ref a0, .int x1] h none out := by
  unfold f_Pr_push at hX
  refine ct_of (by decide +kernel) (Nat.le_of_ble_eq_true rfl) hX ?_
  intro p e s m args below meth c Q C hr hlk hnm hQ
  refine j_aload_n C dX5_push_0 (i := 0) rfl rfl ?_
  refine j_getI C g_X5_28 dX5_push_1 (fun v1 ev1 => ?_)
  refine j_sipush C (v := 400) dX5_push_4 (by decide) ?_
  refine j_icmpge C (tgt := 30) dX5_push_7 (by decide) (fun q2 => ?_) (fun q2 => ?_)
  · exact e_vretM C hQ hr hlk dX5_push_30 (Nat.le_of_ble_eq_true rfl) (Nat.le_of_ble_eq_true rfl)
  · refine j_aload_n C dX5_push_10 (i := 0) rfl rfl ?_
    refine j_getR C g_X5_21 dX5_push_11 (fun v3 ev3 => ?_)
    refine j_aload_n C dX5_push_14 (i := 0) rfl rfl ?_
    refine j_getI C g_X5_28 dX5_push_15 (fun v4 ev4 => ?_)
    refine j_iload_n C dX5_push_18 (i := 1) rfl rfl ?_
    refine j_iastore C dX5_push_19 (fun h5 eh5 => ?_)
    refine j_aload_n C dX5_push_20 (i := 0) rfl rfl ?_
    refine j_dup C dX5_push_21 rfl ?_
    refine j_getI C g_X5_28 dX5_push_22 (fun v6 ev6 => ?_)
    refine j_iconst C (v := 1) dX5_push_25 (by decide) ?_
    refine j_iadd C dX5_push_26 ?_
    refine j_putI C p_X5_28 (fun q => nomatch q) dX5_push_27 (fun h7 eh7 => ?_)
    exact e_vretM C hQ hr hlk dX5_push_30 (Nat.le_of_ble_eq_true rfl) (Nat.le_of_ble_eq_true rfl)
def f_Pr_pop (a0 : Nat) (h : hp_M) : Option (Int32 × hp_M) := (gI h a0 4 5).bind fun v1 => if v1 = 0 then (some (0, h)) else ((gI h a0 4 5).bind fun v3 => (pF h a0 4 5 (.int (v3 - 1))).bind fun h4 => (gR h4 a0 4 4).bind fun v5 => (gI h4 a0 4 5).bind fun v6 => (gaI h4 v5 v6).bind fun v7 => some (v7, h4))
set_option maxRecDepth 100000 in
set_option maxHeartbeats 4000000 in
theorem c_Pr_pop (l : Launch) (w : hp_W) (a0 : Nat) (h : hp_M) (out : Int32 × hp_M) (hX : f_Pr_pop a0 h = some out) : CT l w yX5_pop cX5_pop 1 (some .int) ({ frames := 0, cells := 0, slots := 0, locals := 0 }) [.ref a0] h (some (.int out.1)) out.2 := by
  unfold f_Pr_pop at hX
  refine ct_of (by decide +kernel) (Nat.le_of_ble_eq_true rfl) hX ?_
  intro p e s m args below meth c Q C hr hlk hnm hQ
  refine j_aload_n C dX5_pop_0 (i := 0) rfl rfl ?_
  refine j_getI C g_X5_28 dX5_pop_1 (fun v1 ev1 => ?_)
  refine j_ifne C (tgt := 9) dX5_pop_4 (by decide) (fun q2 => ?_) (fun q2 => ?_)
  · refine j_iconst C (v := 0) dX5_pop_7 (by decide) ?_
    exact e_iretM C hQ hr rfl hlk dX5_pop_8 (Nat.le_of_ble_eq_true rfl) (Nat.le_of_ble_eq_true rfl)
  · refine j_aload_n C dX5_pop_9 (i := 0) rfl rfl ?_
    refine j_dup C dX5_pop_10 rfl ?_
    refine j_getI C g_X5_28 dX5_pop_11 (fun v3 ev3 => ?_)
    refine j_iconst C (v := 1) dX5_pop_14 (by decide) ?_
    refine j_isub C dX5_pop_15 ?_
    refine j_putI C p_X5_28 (fun q => nomatch q) dX5_pop_16 (fun h4 eh4 => ?_)
    refine j_aload_n C dX5_pop_19 (i := 0) rfl rfl ?_
    refine j_getR C g_X5_21 dX5_pop_20 (fun v5 ev5 => ?_)
    refine j_aload_n C dX5_pop_23 (i := 0) rfl rfl ?_
    refine j_getI C g_X5_28 dX5_pop_24 (fun v6 ev6 => ?_)
    refine j_iaload C dX5_pop_27 (fun v7 ev7 => ?_)
    exact e_iretM C hQ hr rfl hlk dX5_pop_28 (Nat.le_of_ble_eq_true rfl) (Nat.le_of_ble_eq_true rfl)
def f_Pr_turned (x0 : Int32) (x1 : Int32) (h : hp_M) : Option (Int32) := if x0 = 9 then (some (-x1)) else (jn (fun (u3 : Int32) => (f_Pr_truth u3 h).bind fun r4 => some r4) fun (j2 : Int32 → Option (Int32)) => if x1 = 0 then (j2 1) else (j2 0))
set_option maxRecDepth 100000 in
set_option maxHeartbeats 4000000 in
theorem c_Pr_turned (l : Launch) (w : hp_W) (x0 : Int32) (x1 : Int32) (h : hp_M) (out : Int32) (hX : f_Pr_turned x0 x1 h = some out) : CT l w yX5_turned cX5_turned 2 (some .int) ({ frames := 1, cells := 0, slots := 0, locals := 20 }) [.int x0, .int x1] h (some (.int out)) h := by
  unfold f_Pr_turned at hX
  refine ct_of (by decide +kernel) (Nat.le_of_ble_eq_true rfl) hX ?_
  intro p e s m args below meth c Q C hr hlk hnm hQ
  refine j_iload_n C dX5_turned_0 (i := 0) rfl rfl ?_
  refine j_bipush C (v := 9) dX5_turned_1 (by decide) ?_
  refine j_icmpne C (tgt := 11) dX5_turned_3 (by decide) (fun q1 => ?_) (fun q1 => ?_)
  · refine j_iload_n C dX5_turned_6 (i := 1) rfl rfl ?_
    refine j_ineg C dX5_turned_7 ?_
    refine j_goto C (tgt := 23) dX5_turned_8 (by decide) ?_
    exact e_iretR C hQ hr rfl hlk dX5_turned_23 (Nat.le_of_ble_eq_true rfl) (Nat.le_of_ble_eq_true rfl)
  · refine j_jn (P := fun (j2 : Int32 → Option (Int32)) => ∀ (u3 : Int32), J p l e ({ frames := 1, cells := 0, slots := 0, locals := 20 }) s m args below meth c Q w 2 0 0 20 [] [.int u3] h (j2 u3) out) ?_ (fun j2 hj2 => ?_)
    · intro u3
      refine j_callSi C (As := [.int _]) (rest := []) k_X5_83 ⟨Nat.le_of_ble_eq_true rfl, Nat.le_of_ble_eq_true rfl⟩ rfl (Nat.le_of_ble_eq_true rfl) ⟨Nat.le_of_ble_eq_true rfl, Nat.le_of_ble_eq_true rfl⟩ rfl dX5_turned_20 (fun r0 q0 => c_Pr_truth l w _ _ _ q0) (fun r4 er4 nr4 => ?_)
      exact e_iretR C hQ hr rfl hlk dX5_turned_23 (Nat.le_of_ble_eq_true rfl) (Nat.le_of_ble_eq_true rfl)
    · refine j_iload_n C dX5_turned_11 (i := 1) rfl rfl ?_
      refine j_ifne C (tgt := 19) dX5_turned_12 (by decide) (fun q5 => ?_) (fun q5 => ?_)
      · refine j_iconst C (v := 1) dX5_turned_15 (by decide) ?_
        refine j_goto C (tgt := 20) dX5_turned_16 (by decide) ?_
        exact j_sub [] rfl (hj2 _)
      · refine j_iconst C (v := 0) dX5_turned_19 (by decide) ?_
        exact j_sub [] rfl (hj2 _)
def f_Pr_joined (x0 : Int32) (x1 : Int32) (x2 : Int32) (h : hp_M) : Option (Int32) := if x0 = 11 then (some (x1 &&& x2)) else if x0 = 12 then (some (x1 ||| x2)) else if x0 = 13 then (some (imin x1 x2)) else if x0 = 14 then (some (imax x1 x2)) else if x0 = 15 then (some (x1 + x2)) else if x0 = 16 then (some (x1 - x2)) else if x0 = 17 then (some (x1 * x2)) else if x0 = 18 then (if x2 = 0 then (some 0) else ((divI x1 x2).bind fun v10 => some v10)) else if x0 = 19 then (if x2 = 0 then (some 0) else ((remI x1 x2).bind fun v13 => some v13)) else if x0 = 20 then (jn (fun (u16 : Int32) => (f_Pr_truth u16 h).bind fun r17 => some r17) fun (j15 : Int32 → Option (Int32)) => if x2 ≤ x1 then (j15 0) else (j15 1)) else if x0 = 21 then (jn (fun (u21 : Int32) => (f_Pr_truth u21 h).bind fun r22 => some r22) fun (j20 : Int32 → Option (Int32)) => if x1 ≤ x2 then (j20 0) else (j20 1)) else if x0 = 22 then (jn (fun (u26 : Int32) => (f_Pr_truth u26 h).bind fun r27 => some r27) fun (j25 : Int32 → Option (Int32)) => if x1 = x2 then (j25 1) else (j25 0)) else if x0 = 23 then (jn (fun (u31 : Int32) => (f_Pr_truth u31 h).bind fun r32 => some r32) fun (j30 : Int32 → Option (Int32)) => if x2 < x1 then (j30 0) else (j30 1)) else (jn (fun (u35 : Int32) => (f_Pr_truth u35 h).bind fun r36 => some r36) fun (j34 : Int32 → Option (Int32)) => if x1 < x2 then (j34 0) else (j34 1))
set_option maxRecDepth 100000 in
set_option maxHeartbeats 4000000 in
theorem c_Pr_joined (l : Launch) (w : hp_W) (x0 : Int32) (x1 : Int32) (x2 : Int32) (h : hp_M) (out : Int32) (hX : f_Pr_joined x0 x1 x2 h = some out) : CT l w yX5_joined cX5_joined 3 (some .int) ({ frames := 6, cells := 0, slots := 0, locals := 200 }) [.int x0, .int x1, .int x2] h (some (.int out)) h := by
  unfold f_Pr_joined at hX
  refine ct_of (by decide +kernel) (Nat.le_of_ble_eq_true rfl) hX ?_
  intro p e s m args below meth c Q C hr hlk hnm hQ
  refine j_iload_n C dX5_joined_0 (i := 0) rfl rfl ?_
  refine j_ite (fun q1 => ?_) (fun q1 => ?_)
  · refine j_tin C (tgt := 68) dX5_joined_1 (by rw [q1]; decide) (by rw [q1]; decide) (by rw [q1]; rfl) (by decide) ?_
    refine j_iload_n C dX5_joined_68 (i := 1) rfl rfl ?_
    refine j_iload_n C dX5_joined_69 (i := 2) rfl rfl ?_
    refine j_iand C dX5_joined_70 ?_
    exact e_iretR C hQ hr rfl hlk dX5_joined_71 (Nat.le_of_ble_eq_true rfl) (Nat.le_of_ble_eq_true rfl)
  refine j_ite (fun q2 => ?_) (fun q2 => ?_)
  · refine j_tin C (tgt := 72) dX5_joined_1 (by rw [q2]; decide) (by rw [q2]; decide) (by rw [q2]; rfl) (by decide) ?_
    refine j_iload_n C dX5_joined_72 (i := 1) rfl rfl ?_
    refine j_iload_n C dX5_joined_73 (i := 2) rfl rfl ?_
    refine j_ior C dX5_joined_74 ?_
    exact e_iretR C hQ hr rfl hlk dX5_joined_75 (Nat.le_of_ble_eq_true rfl) (Nat.le_of_ble_eq_true rfl)
  refine j_ite (fun q3 => ?_) (fun q3 => ?_)
  · refine j_tin C (tgt := 76) dX5_joined_1 (by rw [q3]; decide) (by rw [q3]; decide) (by rw [q3]; rfl) (by decide) ?_
    refine j_iload_n C dX5_joined_76 (i := 1) rfl rfl ?_
    refine j_iload_n C dX5_joined_77 (i := 2) rfl rfl ?_
    refine j_mmin C ⟨k_X5_95, Nat.le_of_ble_eq_true rfl, Nat.le_of_ble_eq_true rfl⟩ (Nat.le_of_ble_eq_true rfl) (Nat.le_of_ble_eq_true rfl) dX5_joined_78 ?_
    exact e_iretR C hQ hr rfl hlk dX5_joined_81 (Nat.le_of_ble_eq_true rfl) (Nat.le_of_ble_eq_true rfl)
  refine j_ite (fun q4 => ?_) (fun q4 => ?_)
  · refine j_tin C (tgt := 82) dX5_joined_1 (by rw [q4]; decide) (by rw [q4]; decide) (by rw [q4]; rfl) (by decide) ?_
    refine j_iload_n C dX5_joined_82 (i := 1) rfl rfl ?_
    refine j_iload_n C dX5_joined_83 (i := 2) rfl rfl ?_
    refine j_mmax C ⟨k_X5_31, Nat.le_of_ble_eq_true rfl, Nat.le_of_ble_eq_true rfl⟩ (Nat.le_of_ble_eq_true rfl) (Nat.le_of_ble_eq_true rfl) dX5_joined_84 ?_
    exact e_iretR C hQ hr rfl hlk dX5_joined_87 (Nat.le_of_ble_eq_true rfl) (Nat.le_of_ble_eq_true rfl)
  refine j_ite (fun q5 => ?_) (fun q5 => ?_)
  · refine j_tin C (tgt := 88) dX5_joined_1 (by rw [q5]; decide) (by rw [q5]; decide) (by rw [q5]; rfl) (by decide) ?_
    refine j_iload_n C dX5_joined_88 (i := 1) rfl rfl ?_
    refine j_iload_n C dX5_joined_89 (i := 2) rfl rfl ?_
    refine j_iadd C dX5_joined_90 ?_
    exact e_iretR C hQ hr rfl hlk dX5_joined_91 (Nat.le_of_ble_eq_true rfl) (Nat.le_of_ble_eq_true rfl)
  refine j_ite (fun q6 => ?_) (fun q6 => ?_)
  · refine j_tin C (tgt := 92) dX5_joined_1 (by rw [q6]; decide) (by rw [q6]; decide) (by rw [q6]; rfl) (by decide) ?_
    refine j_iload_n C dX5_joined_92 (i := 1) rfl rfl ?_
    refine j_iload_n C dX5_joined_93 (i := 2) rfl rfl ?_
    refine j_isub C dX5_joined_94 ?_
    exact e_iretR C hQ hr rfl hlk dX5_joined_95 (Nat.le_of_ble_eq_true rfl) (Nat.le_of_ble_eq_true rfl)
  refine j_ite (fun q7 => ?_) (fun q7 => ?_)
  · refine j_tin C (tgt := 96) dX5_joined_1 (by rw [q7]; decide) (by rw [q7]; decide) (by rw [q7]; rfl) (by decide) ?_
    refine j_iload_n C dX5_joined_96 (i := 1) rfl rfl ?_
    refine j_iload_n C dX5_joined_97 (i := 2) rfl rfl ?_
    refine j_imul C dX5_joined_98 ?_
    exact e_iretR C hQ hr rfl hlk dX5_joined_99 (Nat.le_of_ble_eq_true rfl) (Nat.le_of_ble_eq_true rfl)
  refine j_ite (fun q8 => ?_) (fun q8 => ?_)
  · refine j_tin C (tgt := 100) dX5_joined_1 (by rw [q8]; decide) (by rw [q8]; decide) (by rw [q8]; rfl) (by decide) ?_
    refine j_iload_n C dX5_joined_100 (i := 2) rfl rfl ?_
    refine j_ifne C (tgt := 108) dX5_joined_101 (by decide) (fun q9 => ?_) (fun q9 => ?_)
    · refine j_iconst C (v := 0) dX5_joined_104 (by decide) ?_
      refine j_goto C (tgt := 111) dX5_joined_105 (by decide) ?_
      exact e_iretR C hQ hr rfl hlk dX5_joined_111 (Nat.le_of_ble_eq_true rfl) (Nat.le_of_ble_eq_true rfl)
    · refine j_iload_n C dX5_joined_108 (i := 1) rfl rfl ?_
      refine j_iload_n C dX5_joined_109 (i := 2) rfl rfl ?_
      refine j_idiv C dX5_joined_110 (fun v10 ev10 => ?_)
      exact e_iretR C hQ hr rfl hlk dX5_joined_111 (Nat.le_of_ble_eq_true rfl) (Nat.le_of_ble_eq_true rfl)
  refine j_ite (fun q11 => ?_) (fun q11 => ?_)
  · refine j_tin C (tgt := 112) dX5_joined_1 (by rw [q11]; decide) (by rw [q11]; decide) (by rw [q11]; rfl) (by decide) ?_
    refine j_iload_n C dX5_joined_112 (i := 2) rfl rfl ?_
    refine j_ifne C (tgt := 120) dX5_joined_113 (by decide) (fun q12 => ?_) (fun q12 => ?_)
    · refine j_iconst C (v := 0) dX5_joined_116 (by decide) ?_
      refine j_goto C (tgt := 123) dX5_joined_117 (by decide) ?_
      exact e_iretR C hQ hr rfl hlk dX5_joined_123 (Nat.le_of_ble_eq_true rfl) (Nat.le_of_ble_eq_true rfl)
    · refine j_iload_n C dX5_joined_120 (i := 1) rfl rfl ?_
      refine j_iload_n C dX5_joined_121 (i := 2) rfl rfl ?_
      refine j_irem C dX5_joined_122 (fun v13 ev13 => ?_)
      exact e_iretR C hQ hr rfl hlk dX5_joined_123 (Nat.le_of_ble_eq_true rfl) (Nat.le_of_ble_eq_true rfl)
  refine j_ite (fun q14 => ?_) (fun q14 => ?_)
  · refine j_tin C (tgt := 124) dX5_joined_1 (by rw [q14]; decide) (by rw [q14]; decide) (by rw [q14]; rfl) (by decide) ?_
    refine j_jn (P := fun (j15 : Int32 → Option (Int32)) => ∀ (u16 : Int32), J p l e ({ frames := 6, cells := 0, slots := 0, locals := 200 }) s m args below meth c Q w 3 0 0 134 [] [.int u16] h (j15 u16) out) ?_ (fun j15 hj15 => ?_)
    · intro u16
      refine j_callSi C (As := [.int _]) (rest := []) k_X5_83 ⟨Nat.le_of_ble_eq_true rfl, Nat.le_of_ble_eq_true rfl⟩ rfl (Nat.le_of_ble_eq_true rfl) ⟨Nat.le_of_ble_eq_true rfl, Nat.le_of_ble_eq_true rfl⟩ rfl dX5_joined_134 (fun r0 q0 => c_Pr_truth l w _ _ _ q0) (fun r17 er17 nr17 => ?_)
      exact e_iretR C hQ hr rfl hlk dX5_joined_137 (Nat.le_of_ble_eq_true rfl) (Nat.le_of_ble_eq_true rfl)
    · refine j_iload_n C dX5_joined_124 (i := 1) rfl rfl ?_
      refine j_iload_n C dX5_joined_125 (i := 2) rfl rfl ?_
      refine j_icmpge C (tgt := 133) dX5_joined_126 (by decide) (fun q18 => ?_) (fun q18 => ?_)
      · refine j_iconst C (v := 0) dX5_joined_133 (by decide) ?_
        exact j_sub [] rfl (hj15 _)
      · refine j_iconst C (v := 1) dX5_joined_129 (by decide) ?_
        refine j_goto C (tgt := 134) dX5_joined_130 (by decide) ?_
        exact j_sub [] rfl (hj15 _)
  refine j_ite (fun q19 => ?_) (fun q19 => ?_)
  · refine j_tin C (tgt := 138) dX5_joined_1 (by rw [q19]; decide) (by rw [q19]; decide) (by rw [q19]; rfl) (by decide) ?_
    refine j_jn (P := fun (j20 : Int32 → Option (Int32)) => ∀ (u21 : Int32), J p l e ({ frames := 6, cells := 0, slots := 0, locals := 200 }) s m args below meth c Q w 3 0 0 148 [] [.int u21] h (j20 u21) out) ?_ (fun j20 hj20 => ?_)
    · intro u21
      refine j_callSi C (As := [.int _]) (rest := []) k_X5_83 ⟨Nat.le_of_ble_eq_true rfl, Nat.le_of_ble_eq_true rfl⟩ rfl (Nat.le_of_ble_eq_true rfl) ⟨Nat.le_of_ble_eq_true rfl, Nat.le_of_ble_eq_true rfl⟩ rfl dX5_joined_148 (fun r0 q0 => c_Pr_truth l w _ _ _ q0) (fun r22 er22 nr22 => ?_)
      exact e_iretR C hQ hr rfl hlk dX5_joined_151 (Nat.le_of_ble_eq_true rfl) (Nat.le_of_ble_eq_true rfl)
    · refine j_iload_n C dX5_joined_138 (i := 1) rfl rfl ?_
      refine j_iload_n C dX5_joined_139 (i := 2) rfl rfl ?_
      refine j_icmple C (tgt := 147) dX5_joined_140 (by decide) (fun q23 => ?_) (fun q23 => ?_)
      · refine j_iconst C (v := 0) dX5_joined_147 (by decide) ?_
        exact j_sub [] rfl (hj20 _)
      · refine j_iconst C (v := 1) dX5_joined_143 (by decide) ?_
        refine j_goto C (tgt := 148) dX5_joined_144 (by decide) ?_
        exact j_sub [] rfl (hj20 _)
  refine j_ite (fun q24 => ?_) (fun q24 => ?_)
  · refine j_tin C (tgt := 152) dX5_joined_1 (by rw [q24]; decide) (by rw [q24]; decide) (by rw [q24]; rfl) (by decide) ?_
    refine j_jn (P := fun (j25 : Int32 → Option (Int32)) => ∀ (u26 : Int32), J p l e ({ frames := 6, cells := 0, slots := 0, locals := 200 }) s m args below meth c Q w 3 0 0 162 [] [.int u26] h (j25 u26) out) ?_ (fun j25 hj25 => ?_)
    · intro u26
      refine j_callSi C (As := [.int _]) (rest := []) k_X5_83 ⟨Nat.le_of_ble_eq_true rfl, Nat.le_of_ble_eq_true rfl⟩ rfl (Nat.le_of_ble_eq_true rfl) ⟨Nat.le_of_ble_eq_true rfl, Nat.le_of_ble_eq_true rfl⟩ rfl dX5_joined_162 (fun r0 q0 => c_Pr_truth l w _ _ _ q0) (fun r27 er27 nr27 => ?_)
      exact e_iretR C hQ hr rfl hlk dX5_joined_165 (Nat.le_of_ble_eq_true rfl) (Nat.le_of_ble_eq_true rfl)
    · refine j_iload_n C dX5_joined_152 (i := 1) rfl rfl ?_
      refine j_iload_n C dX5_joined_153 (i := 2) rfl rfl ?_
      refine j_icmpne C (tgt := 161) dX5_joined_154 (by decide) (fun q28 => ?_) (fun q28 => ?_)
      · refine j_iconst C (v := 1) dX5_joined_157 (by decide) ?_
        refine j_goto C (tgt := 162) dX5_joined_158 (by decide) ?_
        exact j_sub [] rfl (hj25 _)
      · refine j_iconst C (v := 0) dX5_joined_161 (by decide) ?_
        exact j_sub [] rfl (hj25 _)
  refine j_ite (fun q29 => ?_) (fun q29 => ?_)
  · refine j_tin C (tgt := 166) dX5_joined_1 (by rw [q29]; decide) (by rw [q29]; decide) (by rw [q29]; rfl) (by decide) ?_
    refine j_jn (P := fun (j30 : Int32 → Option (Int32)) => ∀ (u31 : Int32), J p l e ({ frames := 6, cells := 0, slots := 0, locals := 200 }) s m args below meth c Q w 3 0 0 176 [] [.int u31] h (j30 u31) out) ?_ (fun j30 hj30 => ?_)
    · intro u31
      refine j_callSi C (As := [.int _]) (rest := []) k_X5_83 ⟨Nat.le_of_ble_eq_true rfl, Nat.le_of_ble_eq_true rfl⟩ rfl (Nat.le_of_ble_eq_true rfl) ⟨Nat.le_of_ble_eq_true rfl, Nat.le_of_ble_eq_true rfl⟩ rfl dX5_joined_176 (fun r0 q0 => c_Pr_truth l w _ _ _ q0) (fun r32 er32 nr32 => ?_)
      exact e_iretR C hQ hr rfl hlk dX5_joined_179 (Nat.le_of_ble_eq_true rfl) (Nat.le_of_ble_eq_true rfl)
    · refine j_iload_n C dX5_joined_166 (i := 1) rfl rfl ?_
      refine j_iload_n C dX5_joined_167 (i := 2) rfl rfl ?_
      refine j_icmpgt C (tgt := 175) dX5_joined_168 (by decide) (fun q33 => ?_) (fun q33 => ?_)
      · refine j_iconst C (v := 0) dX5_joined_175 (by decide) ?_
        exact j_sub [] rfl (hj30 _)
      · refine j_iconst C (v := 1) dX5_joined_171 (by decide) ?_
        refine j_goto C (tgt := 176) dX5_joined_172 (by decide) ?_
        exact j_sub [] rfl (hj30 _)
  refine j_tout C (tgt := 180) dX5_joined_1 (sw_out 13 (fun i hi => by rcases (show i = 0 ∨ i = 1 ∨ i = 2 ∨ i = 3 ∨ i = 4 ∨ i = 5 ∨ i = 6 ∨ i = 7 ∨ i = 8 ∨ i = 9 ∨ i = 10 ∨ i = 11 ∨ i = 12 by omega) with rfl | rfl | rfl | rfl | rfl | rfl | rfl | rfl | rfl | rfl | rfl | rfl | rfl <;> first | exact q1 | exact q2 | exact q3 | exact q4 | exact q5 | exact q6 | exact q7 | exact q8 | exact q11 | exact q14 | exact q19 | exact q24 | exact q29) (by decide) (by decide) (by decide)) (by decide) ?_
  refine j_jn (P := fun (j34 : Int32 → Option (Int32)) => ∀ (u35 : Int32), J p l e ({ frames := 6, cells := 0, slots := 0, locals := 200 }) s m args below meth c Q w 3 0 0 190 [] [.int u35] h (j34 u35) out) ?_ (fun j34 hj34 => ?_)
  · intro u35
    refine j_callSi C (As := [.int _]) (rest := []) k_X5_83 ⟨Nat.le_of_ble_eq_true rfl, Nat.le_of_ble_eq_true rfl⟩ rfl (Nat.le_of_ble_eq_true rfl) ⟨Nat.le_of_ble_eq_true rfl, Nat.le_of_ble_eq_true rfl⟩ rfl dX5_joined_190 (fun r0 q0 => c_Pr_truth l w _ _ _ q0) (fun r36 er36 nr36 => ?_)
    exact e_iretR C hQ hr rfl hlk dX5_joined_193 (Nat.le_of_ble_eq_true rfl) (Nat.le_of_ble_eq_true rfl)
  · refine j_iload_n C dX5_joined_180 (i := 1) rfl rfl ?_
    refine j_iload_n C dX5_joined_181 (i := 2) rfl rfl ?_
    refine j_icmplt C (tgt := 189) dX5_joined_182 (by decide) (fun q37 => ?_) (fun q37 => ?_)
    · refine j_iconst C (v := 0) dX5_joined_189 (by decide) ?_
      exact j_sub [] rfl (hj34 _)
    · refine j_iconst C (v := 1) dX5_joined_185 (by decide) ?_
      refine j_goto C (tgt := 190) dX5_joined_186 (by decide) ?_
      exact j_sub [] rfl (hj34 _)
def f_Bk_letterBy (a0 : Nat) (x1 : Int32) (x2 : Int32) (h : hp_M) : Option (Int32) := jn (fun (u5 : Int32) => (onO h a0 1 (f_Bk_lettersOf a0 u5 h)).bind fun r6 => if r6 = 0 then (some 0) else ((fmI x2 r6).bind fun v8 => (onO h a0 1 (f_Bk_letterOf a0 u5 v8 h)).bind fun r9 => some r9)) fun (j4 : Int32 → Option (Int32)) => (onO h a0 1 (f_Bk_isRule a0 x1 h)).bind fun r10 => if r10 = 0 then (j4 (-1)) else ((gR h a0 1 10).bind fun v12 => (gaI h v12 x1).bind fun v13 => j4 v13)
set_option maxRecDepth 100000 in
set_option maxHeartbeats 4000000 in
theorem c_Bk_letterBy (l : Launch) (w : hp_W) (a0 : Nat) (x1 : Int32) (x2 : Int32) (h : hp_M) (out : Int32) (hX : f_Bk_letterBy a0 x1 x2 h = some out) : CT l w yX1_letterBy cX1_letterBy 5 (some .int) ({ frames := 6, cells := 0, slots := 0, locals := 200 }) [.ref a0, .int x1, .int x2] h (some (.int out)) h := by
  unfold f_Bk_letterBy at hX
  refine ct_of (by decide +kernel) (Nat.le_of_ble_eq_true rfl) hX ?_
  intro p e s m args below meth c Q C hr hlk hnm hQ
  refine j_jn (P := fun (j4 : Int32 → Option (Int32)) => ∀ (u5 : Int32), J p l e ({ frames := 6, cells := 0, slots := 0, locals := 200 }) s m args below meth c Q w 5 0 0 18 [(0, .ref a0), (2, .int x2)] [.int u5] h (j4 u5) out) ?_ (fun j4 hj4 => ?_)
  · intro u5
    refine j_istore_n C [(3, _), (0, _), (2, _)] dX1_letterBy_18 (i := 3) rfl (by decide) rfl ?_
    refine j_aload_n C dX1_letterBy_19 (i := 0) rfl rfl ?_
    refine j_iload_n C dX1_letterBy_20 (i := 3) rfl rfl ?_
    refine j_callVi C (As := [.int _]) (rest := []) k_X1_97 ⟨Nat.le_of_ble_eq_true rfl, Nat.le_of_ble_eq_true rfl⟩ rfl (Nat.le_of_ble_eq_true rfl) ⟨Nat.le_of_ble_eq_true rfl, Nat.le_of_ble_eq_true rfl⟩ rfl dX1_letterBy_21 (fun r0 q0 => c_Bk_lettersOf l w _ _ _ _ q0) (fun r6 er6 nr6 => ?_)
    refine j_istore C [(4, _), (3, _), (0, _), (2, _)] dX1_letterBy_24 (by decide) rfl ?_
    refine j_iload C dX1_letterBy_26 rfl ?_
    refine j_ifne C (tgt := 35) dX1_letterBy_28 (by decide) (fun q7 => ?_) (fun q7 => ?_)
    · refine j_iconst C (v := 0) dX1_letterBy_31 (by decide) ?_
      refine j_goto C (tgt := 46) dX1_letterBy_32 (by decide) ?_
      exact e_iretR C hQ hr rfl hlk dX1_letterBy_46 (Nat.le_of_ble_eq_true rfl) (Nat.le_of_ble_eq_true rfl)
    · refine j_aload_n C dX1_letterBy_35 (i := 0) rfl rfl ?_
      refine j_iload_n C dX1_letterBy_36 (i := 3) rfl rfl ?_
      refine j_iload_n C dX1_letterBy_37 (i := 2) rfl rfl ?_
      refine j_iload C dX1_letterBy_38 rfl ?_
      refine j_mfm C (rest := [_, _]) ⟨k_X1_100, Nat.le_of_ble_eq_true rfl, Nat.le_of_ble_eq_true rfl, Nat.le_of_ble_eq_true rfl⟩ (Nat.le_of_ble_eq_true rfl) (Nat.le_of_ble_eq_true rfl) dX1_letterBy_40 (fun v8 ev8 => ?_)
      refine j_callVi C (As := [.int _, .int _]) (rest := []) k_X1_106 ⟨Nat.le_of_ble_eq_true rfl, Nat.le_of_ble_eq_true rfl⟩ rfl (Nat.le_of_ble_eq_true rfl) ⟨Nat.le_of_ble_eq_true rfl, Nat.le_of_ble_eq_true rfl⟩ rfl dX1_letterBy_43 (fun r0 q0 => c_Bk_letterOf l w _ _ _ _ _ q0) (fun r9 er9 nr9 => ?_)
      exact e_iretR C hQ hr rfl hlk dX1_letterBy_46 (Nat.le_of_ble_eq_true rfl) (Nat.le_of_ble_eq_true rfl)
  · refine j_aload_n C dX1_letterBy_0 (i := 0) rfl rfl ?_
    refine j_iload_n C dX1_letterBy_1 (i := 1) rfl rfl ?_
    refine j_callVi C (As := [.int _]) (rest := []) k_X1_90 ⟨Nat.le_of_ble_eq_true rfl, Nat.le_of_ble_eq_true rfl⟩ rfl (Nat.le_of_ble_eq_true rfl) ⟨Nat.le_of_ble_eq_true rfl, Nat.le_of_ble_eq_true rfl⟩ rfl dX1_letterBy_2 (fun r0 q0 => c_Bk_isRule l w _ _ _ _ q0) (fun r10 er10 nr10 => ?_)
    refine j_ifeq C (tgt := 17) dX1_letterBy_5 (by decide) (fun q11 => ?_) (fun q11 => ?_)
    · refine j_iconst C (v := -1) dX1_letterBy_17 (by decide) ?_
      exact j_sub [0, 2] rfl (hj4 _)
    · refine j_aload_n C dX1_letterBy_8 (i := 0) rfl rfl ?_
      refine j_getR C g_X1_45 dX1_letterBy_9 (fun v12 ev12 => ?_)
      refine j_iload_n C dX1_letterBy_12 (i := 1) rfl rfl ?_
      refine j_iaload C dX1_letterBy_13 (fun v13 ev13 => ?_)
      refine j_goto C (tgt := 18) dX1_letterBy_14 (by decide) ?_
      exact j_sub [0, 2] rfl (hj4 _)
def f_Pp_init (a0 : Nat) (h : hp_M) : Option (hp_M) := (pF (hN h (aI 600 (fun _ => 0))) a0 2 0 (.ref h.2)).bind fun h1 => some h1
set_option maxRecDepth 100000 in
set_option maxHeartbeats 4000000 in
theorem c_Pp_init (l : Launch) (w : hp_W) (a0 : Nat) (h : hp_M) (out : hp_M) (hX : f_Pp_init a0 h = some out) : CT l w yX3_init cX3_init 1 none ({ frames := 1, cells := 1, slots := 600, locals := 32 }) [.ref a0] h none out := by
  unfold f_Pp_init at hX
  refine ct_of (by decide +kernel) (Nat.le_of_ble_eq_true rfl) hX ?_
  intro p e s m args below meth c Q C hr hlk hnm hQ
  refine j_aload_n C dX3_init_0 (i := 0) rfl rfl ?_
  refine j_objInit C k_X3_1 k_oi k_oc dX3_init_1 (Nat.le_of_ble_eq_true rfl) (Nat.le_of_ble_eq_true rfl) ?_
  refine j_aload_n C dX3_init_4 (i := 0) rfl rfl ?_
  refine j_sipush C (v := 600) dX3_init_5 (by decide) ?_
  refine j_newI C (N := 600) k_arr_int (by decide) (by decide) (Nat.le_of_ble_eq_true rfl) (Nat.le_of_ble_eq_true rfl) (Nat.le_of_ble_eq_true rfl) dX3_init_8 ?_
  refine j_putR C p_X3_9 (fun _ => hnm) dX3_init_10 rfl rfl (fun h1 eh1 => ?_)
  exact e_vretM C hQ hr hlk dX3_init_13 (Nat.le_of_ble_eq_true rfl) (Nat.le_of_ble_eq_true rfl)
def f_Pp_isFull (a0 : Nat) (h : hp_M) : Option (Int32) := (gI h a0 2 1).bind fun v1 => if v1 < 600 then (some 0) else (some 1)
set_option maxRecDepth 100000 in
set_option maxHeartbeats 4000000 in
theorem c_Pp_isFull (l : Launch) (w : hp_W) (a0 : Nat) (h : hp_M) (out : Int32) (hX : f_Pp_isFull a0 h = some out) : CT l w yX3_isFull cX3_isFull 1 (some .boolean) ({ frames := 0, cells := 0, slots := 0, locals := 0 }) [.ref a0] h (some (.int out)) h := by
  unfold f_Pp_isFull at hX
  refine ct_of (by decide +kernel) (Nat.le_of_ble_eq_true rfl) hX ?_
  intro p e s m args below meth c Q C hr hlk hnm hQ
  refine j_aload_n C dX3_isFull_0 (i := 0) rfl rfl ?_
  refine j_getI C g_X3_13 dX3_isFull_1 (fun v1 ev1 => ?_)
  refine j_sipush C (v := 600) dX3_isFull_4 (by decide) ?_
  refine j_icmplt C (tgt := 14) dX3_isFull_7 (by decide) (fun q2 => ?_) (fun q2 => ?_)
  · refine j_iconst C (v := 0) dX3_isFull_14 (by decide) ?_
    exact e_iretR C hQ hr rfl hlk dX3_isFull_15 (Nat.le_of_ble_eq_true rfl) (Nat.le_of_ble_eq_true rfl)
  · refine j_iconst C (v := 1) dX3_isFull_10 (by decide) ?_
    refine j_goto C (tgt := 15) dX3_isFull_11 (by decide) ?_
    exact e_iretR C hQ hr rfl hlk dX3_isFull_15 (Nat.le_of_ble_eq_true rfl) (Nat.le_of_ble_eq_true rfl)
def f_Pp_wipe (a0 : Nat) (h : hp_M) : Option (hp_M) := (pF h a0 2 1 (.int 0)).bind fun h1 => some h1
set_option maxRecDepth 100000 in
set_option maxHeartbeats 4000000 in
theorem c_Pp_wipe (l : Launch) (w : hp_W) (a0 : Nat) (h : hp_M) (out : hp_M) (hX : f_Pp_wipe a0 h = some out) : CT l w yX3_wipe cX3_wipe 1 none ({ frames := 0, cells := 0, slots := 0, locals := 0 }) [.ref a0] h none out := by
  unfold f_Pp_wipe at hX
  refine ct_of (by decide +kernel) (Nat.le_of_ble_eq_true rfl) hX ?_
  intro p e s m args below meth c Q C hr hlk hnm hQ
  refine j_aload_n C dX3_wipe_0 (i := 0) rfl rfl ?_
  refine j_iconst C (v := 0) dX3_wipe_1 (by decide) ?_
  refine j_putI C p_X3_13 (fun q => nomatch q) dX3_wipe_2 (fun h1 eh1 => ?_)
  exact e_vretM C hQ hr hlk dX3_wipe_5 (Nat.le_of_ble_eq_true rfl) (Nat.le_of_ble_eq_true rfl)
def f_Pp_append (a0 : Nat) (x1 : Int32) (h : hp_M) : Option (hp_M) := (onO h a0 2 (f_Pp_isFull a0 h)).bind fun r1 => if r1 = 0 then ((gR h a0 2 0).bind fun v3 => (gI h a0 2 1).bind fun v4 => (paI h v3 v4 x1).bind fun h5 => (gI h5 a0 2 1).bind fun v6 => (pF h5 a0 2 1 (.int (v6 + 1))).bind fun h7 => some h7) else (some h)
set_option maxRecDepth 100000 in
set_option maxHeartbeats 4000000 in
theorem c_Pp_append (l : Launch) (w : hp_W) (a0 : Nat) (x1 : Int32) (h : hp_M) (out : hp_M) (hX : f_Pp_append a0 x1 h = some out) : CT l w yX3_append cX3_append 2 none ({ frames := 1, cells := 0, slots := 0, locals := 20 }) [.ref a0, .int x1] h none out := by
  unfold f_Pp_append at hX
  refine ct_of (by decide +kernel) (Nat.le_of_ble_eq_true rfl) hX ?_
  intro p e s m args below meth c Q C hr hlk hnm hQ
  refine j_aload_n C dX3_append_0 (i := 0) rfl rfl ?_
  refine j_callVi C (As := []) (rest := []) k_X3_17 ⟨Nat.le_of_ble_eq_true rfl, Nat.le_of_ble_eq_true rfl⟩ rfl (Nat.le_of_ble_eq_true rfl) ⟨Nat.le_of_ble_eq_true rfl, Nat.le_of_ble_eq_true rfl⟩ rfl dX3_append_1 (fun r0 q0 => c_Pp_isFull l w _ _ _ q0) (fun r1 er1 nr1 => ?_)
  refine j_ifne C (tgt := 27) dX3_append_4 (by decide) (fun q2 => ?_) (fun q2 => ?_)
  · refine j_aload_n C dX3_append_7 (i := 0) rfl rfl ?_
    refine j_getR C g_X3_9 dX3_append_8 (fun v3 ev3 => ?_)
    refine j_aload_n C dX3_append_11 (i := 0) rfl rfl ?_
    refine j_getI C g_X3_13 dX3_append_12 (fun v4 ev4 => ?_)
    refine j_iload_n C dX3_append_15 (i := 1) rfl rfl ?_
    refine j_iastore C dX3_append_16 (fun h5 eh5 => ?_)
    refine j_aload_n C dX3_append_17 (i := 0) rfl rfl ?_
    refine j_dup C dX3_append_18 rfl ?_
    refine j_getI C g_X3_13 dX3_append_19 (fun v6 ev6 => ?_)
    refine j_iconst C (v := 1) dX3_append_22 (by decide) ?_
    refine j_iadd C dX3_append_23 ?_
    refine j_putI C p_X3_13 (fun q => nomatch q) dX3_append_24 (fun h7 eh7 => ?_)
    exact e_vretM C hQ hr hlk dX3_append_27 (Nat.le_of_ble_eq_true rfl) (Nat.le_of_ble_eq_true rfl)
  · exact e_vretM C hQ hr hlk dX3_append_27 (Nat.le_of_ble_eq_true rfl) (Nat.le_of_ble_eq_true rfl)
def f_Pp_at (a0 : Nat) (x1 : Int32) (h : hp_M) : Option (Int32) := jn (some 0) fun (j4 : Option (Int32)) => if x1 < 0 then (j4) else ((gI h a0 2 1).bind fun v6 => if v6 ≤ x1 then (j4) else ((gR h a0 2 0).bind fun v8 => (gaI h v8 x1).bind fun v9 => some v9))
set_option maxRecDepth 100000 in
set_option maxHeartbeats 4000000 in
theorem c_Pp_at (l : Launch) (w : hp_W) (a0 : Nat) (x1 : Int32) (h : hp_M) (out : Int32) (hX : f_Pp_at a0 x1 h = some out) : CT l w yX3_at cX3_at 2 (some .int) ({ frames := 0, cells := 0, slots := 0, locals := 0 }) [.ref a0, .int x1] h (some (.int out)) h := by
  unfold f_Pp_at at hX
  refine ct_of (by decide +kernel) (Nat.le_of_ble_eq_true rfl) hX ?_
  intro p e s m args below meth c Q C hr hlk hnm hQ
  refine j_jn (P := fun j4 => J p l e ({ frames := 0, cells := 0, slots := 0, locals := 0 }) s m args below meth c Q w 2 0 0 21 [] [] h (j4) out) ?_ (fun j4 hj4 => ?_)
  · refine j_iconst C (v := 0) dX3_at_21 (by decide) ?_
    exact e_iretR C hQ hr rfl hlk dX3_at_22 (Nat.le_of_ble_eq_true rfl) (Nat.le_of_ble_eq_true rfl)
  · refine j_iload_n C dX3_at_0 (i := 1) rfl rfl ?_
    refine j_iflt C (tgt := 21) dX3_at_1 (by decide) (fun q5 => ?_) (fun q5 => ?_)
    · exact j_sub [] rfl (hj4)
    · refine j_iload_n C dX3_at_4 (i := 1) rfl rfl ?_
      refine j_aload_n C dX3_at_5 (i := 0) rfl rfl ?_
      refine j_getI C g_X3_13 dX3_at_6 (fun v6 ev6 => ?_)
      refine j_icmpge C (tgt := 21) dX3_at_9 (by decide) (fun q7 => ?_) (fun q7 => ?_)
      · exact j_sub [] rfl (hj4)
      · refine j_aload_n C dX3_at_12 (i := 0) rfl rfl ?_
        refine j_getR C g_X3_9 dX3_at_13 (fun v8 ev8 => ?_)
        refine j_iload_n C dX3_at_16 (i := 1) rfl rfl ?_
        refine j_iaload C dX3_at_17 (fun v9 ev9 => ?_)
        refine j_goto C (tgt := 22) dX3_at_18 (by decide) ?_
        exact e_iretR C hQ hr rfl hlk dX3_at_22 (Nat.le_of_ble_eq_true rfl) (Nat.le_of_ble_eq_true rfl)
def f_Pp_copyFrom (a0 : Nat) (a1 : Nat) (h : hp_M) : Option (hp_M) := (gR h a1 2 0).bind fun v1 => (gR h a0 2 0).bind fun v2 => (gI h a1 2 1).bind fun v3 => (cpI h v1 0 v2 0 v3).bind fun h4 => (gI h4 a1 2 1).bind fun v5 => (pF h4 a0 2 1 (.int v5)).bind fun h6 => some h6
set_option maxRecDepth 100000 in
set_option maxHeartbeats 4000000 in
theorem c_Pp_copyFrom (l : Launch) (w : hp_W) (a0 : Nat) (a1 : Nat) (h : hp_M) (out : hp_M) (hX : f_Pp_copyFrom a0 a1 h = some out) : CT l w yX3_copyFrom cX3_copyFrom 2 none ({ frames := 6, cells := 0, slots := 0, locals := 200 }) [.ref a0, .ref a1] h none out := by
  unfold f_Pp_copyFrom at hX
  refine ct_of (by decide +kernel) (Nat.le_of_ble_eq_true rfl) hX ?_
  intro p e s m args below meth c Q C hr hlk hnm hQ
  refine j_aload_n C dX3_copyFrom_0 (i := 1) rfl rfl ?_
  refine j_getR C g_X3_9 dX3_copyFrom_1 (fun v1 ev1 => ?_)
  refine j_iconst C (v := 0) dX3_copyFrom_4 (by decide) ?_
  refine j_aload_n C dX3_copyFrom_5 (i := 0) rfl rfl ?_
  refine j_getR C g_X3_9 dX3_copyFrom_6 (fun v2 ev2 => ?_)
  refine j_iconst C (v := 0) dX3_copyFrom_9 (by decide) ?_
  refine j_aload_n C dX3_copyFrom_10 (i := 1) rfl rfl ?_
  refine j_getI C g_X3_13 dX3_copyFrom_11 (fun v3 ev3 => ?_)
  refine j_copy C k_X3_21 (Nat.le_of_ble_eq_true rfl) (Nat.le_of_ble_eq_true rfl) dX3_copyFrom_14 (fun h4 eh4 => ?_)
  refine j_aload_n C dX3_copyFrom_17 (i := 0) rfl rfl ?_
  refine j_aload_n C dX3_copyFrom_18 (i := 1) rfl rfl ?_
  refine j_getI C g_X3_13 dX3_copyFrom_19 (fun v5 ev5 => ?_)
  refine j_putI C p_X3_13 (fun q => nomatch q) dX3_copyFrom_22 (fun h6 eh6 => ?_)
  exact e_vretM C hQ hr hlk dX3_copyFrom_25 (Nat.le_of_ble_eq_true rfl) (Nat.le_of_ble_eq_true rfl)
def f_Pp_isAt_b2 (fl : Nat) (a0 : Nat) (x1 : Int32) (a2 : Nat) (h : hp_M) : Nat → Int32 → Option (Int32)
  | 0, _ => none
  | n + 1, x3 => (onO h a2 8 (f_Tp_size a2 h)).bind fun r1001 => if r1001 ≤ x3 then (some 1) else ((onO h a0 2 (f_Pp_at a0 (x1 + x3) h)).bind fun r1003 => (onO h a2 8 (f_Tp_at a2 x3 h)).bind fun r1004 => if r1003 = r1004 then (f_Pp_isAt_b2 fl a0 x1 a2 h n (x3 + 1)) else (some 0))
def f_Pp_isAt (fl : Nat) (a0 : Nat) (x1 : Int32) (a2 : Nat) (h : hp_M) : Option (Int32) := f_Pp_isAt_b2 fl a0 x1 a2 h fl 0
set_option maxRecDepth 100000 in
set_option maxHeartbeats 4000000 in
theorem b_Pp_isAt_2 {p : Program} {l : Launch} {e : Env} {s : State} {m : MethodId} {args : Array Value} {below : List Frame} {meth : Method} {c : Code} {Q : State → Prop} {w : hp_W} {out : Int32} (fl : Nat)   (a0 : Nat) (x1 : Int32) (a2 : Nat) (h : hp_M) (C : Cx p m c cX3_isAt 4 s args RX3 w) (hr : meth.sig.returnType = some .boolean) (hlk : meth.locks = false) (hnm : meth.name = "isAt") (hQ : QM below w args s ({ frames := 1, cells := 0, slots := 0, locals := 21 }) (some .boolean) (some (.int out)) h = Q)  : ∀ (n : Nat) (x3 : Int32), J p l e ({ frames := 1, cells := 0, slots := 0, locals := 21 }) s m args below meth c Q w 4 0 0 2 [(0, .ref a0), (1, .int x1), (2, .ref a2), (3, .int x3)] [] h (f_Pp_isAt_b2 fl a0 x1 a2 h n x3) out := by
  intro n
  induction n with
  | zero => intro x3; exact j_none
  | succ n ih =>
    intro x3
    rw [f_Pp_isAt_b2]
    refine j_iload_n C dX3_isAt_2 (i := 3) rfl rfl ?_
    refine j_aload_n C dX3_isAt_3 (i := 2) rfl rfl ?_
    refine j_callVi C (As := []) (rest := [_]) k_X3_27 ⟨Nat.le_of_ble_eq_true rfl, Nat.le_of_ble_eq_true rfl⟩ rfl (Nat.le_of_ble_eq_true rfl) ⟨Nat.le_of_ble_eq_true rfl, Nat.le_of_ble_eq_true rfl⟩ rfl dX3_isAt_4 (fun r0 q0 => c_Tp_size l w _ _ _ q0) (fun r1001 er1001 nr1001 => ?_)
    refine j_icmpge C (tgt := 33) dX3_isAt_7 (by decide) (fun q1002 => ?_) (fun q1002 => ?_)
    · refine j_iconst C (v := 1) dX3_isAt_33 (by decide) ?_
      exact e_iretR C hQ hr rfl hlk dX3_isAt_34 (Nat.le_of_ble_eq_true rfl) (Nat.le_of_ble_eq_true rfl)
    · refine j_aload_n C dX3_isAt_10 (i := 0) rfl rfl ?_
      refine j_iload_n C dX3_isAt_11 (i := 1) rfl rfl ?_
      refine j_iload_n C dX3_isAt_12 (i := 3) rfl rfl ?_
      refine j_iadd C dX3_isAt_13 ?_
      refine j_callVi C (As := [.int _]) (rest := []) k_X3_36 ⟨Nat.le_of_ble_eq_true rfl, Nat.le_of_ble_eq_true rfl⟩ rfl (Nat.le_of_ble_eq_true rfl) ⟨Nat.le_of_ble_eq_true rfl, Nat.le_of_ble_eq_true rfl⟩ rfl dX3_isAt_14 (fun r0 q0 => c_Pp_at l w _ _ _ _ q0) (fun r1003 er1003 nr1003 => ?_)
      refine j_aload_n C dX3_isAt_17 (i := 2) rfl rfl ?_
      refine j_iload_n C dX3_isAt_18 (i := 3) rfl rfl ?_
      refine j_callVi C (As := [.int _]) (rest := [_]) k_X3_40 ⟨Nat.le_of_ble_eq_true rfl, Nat.le_of_ble_eq_true rfl⟩ rfl (Nat.le_of_ble_eq_true rfl) ⟨Nat.le_of_ble_eq_true rfl, Nat.le_of_ble_eq_true rfl⟩ rfl dX3_isAt_19 (fun r0 q0 => c_Tp_at l w _ _ _ _ q0) (fun r1004 er1004 nr1004 => ?_)
      refine j_icmpeq C (tgt := 27) dX3_isAt_22 (by decide) (fun q1005 => ?_) (fun q1005 => ?_)
      · refine j_iinc C (v := x3 + 1) [(3, _), (0, _), (1, _), (2, _)] dX3_isAt_27 rfl rfl (by decide) rfl ?_
        refine j_goto C (tgt := 2) dX3_isAt_30 (by decide) ?_
        exact j_sub [1, 2, 3, 0] rfl (ih _)
      · refine j_iconst C (v := 0) dX3_isAt_25 (by decide) ?_
        exact e_iretR C hQ hr rfl hlk dX3_isAt_26 (Nat.le_of_ble_eq_true rfl) (Nat.le_of_ble_eq_true rfl)
set_option maxRecDepth 100000 in
set_option maxHeartbeats 4000000 in
theorem c_Pp_isAt (l : Launch) (w : hp_W) (fl : Nat) (a0 : Nat) (x1 : Int32) (a2 : Nat) (h : hp_M) (out : Int32) (hX : f_Pp_isAt fl a0 x1 a2 h = some out) : CT l w yX3_isAt cX3_isAt 4 (some .boolean) ({ frames := 1, cells := 0, slots := 0, locals := 21 }) [.ref a0, .int x1, .ref a2] h (some (.int out)) h := by
  unfold f_Pp_isAt at hX
  refine ct_of (by decide +kernel) (Nat.le_of_ble_eq_true rfl) hX ?_
  intro p e s m args below meth c Q C hr hlk hnm hQ
  refine j_iconst C (v := 0) dX3_isAt_0 (by decide) ?_
  refine j_istore_n C [(3, _), (0, _), (1, _), (2, _)] dX3_isAt_1 (i := 3) rfl (by decide) rfl ?_
  refine j_sub [1, 2, 3, 0] rfl (b_Pp_isAt_2 fl  _ _ _ _ C hr hlk hnm hQ  _ _)
def f_Pp_placeOf_b11 (fl : Nat) (a0 : Nat) (a1 : Nat) (h : hp_M) : Nat → Int32 → Option (Int32)
  | 0, _ => none
  | n + 1, x3 => (onO h a1 8 (f_Tp_size a1 h)).bind fun r1003 => (gI h a0 2 1).bind fun v1004 => if v1004 < (x3 + r1003) then (some (-1)) else ((onO h a0 2 (f_Pp_isAt fl a0 x3 a1 h)).bind fun r1006 => if r1006 = 0 then (f_Pp_placeOf_b11 fl a0 a1 h n (x3 + 1)) else (some x3))
def f_Pp_placeOf (fl : Nat) (a0 : Nat) (a1 : Nat) (x2 : Int32) (h : hp_M) : Option (Int32) := (onO h a1 8 (f_Tp_size a1 h)).bind fun r1 => if r1 = 0 then (some (-1)) else (f_Pp_placeOf_b11 fl a0 a1 h fl x2)
set_option maxRecDepth 100000 in
set_option maxHeartbeats 4000000 in
theorem b_Pp_placeOf_11 {p : Program} {l : Launch} {e : Env} {s : State} {m : MethodId} {args : Array Value} {below : List Frame} {meth : Method} {c : Code} {Q : State → Prop} {w : hp_W} {out : Int32} (fl : Nat)   (a0 : Nat) (a1 : Nat) (h : hp_M) (C : Cx p m c cX3_placeOf 4 s args RX3 w) (hr : meth.sig.returnType = some .int) (hlk : meth.locks = false) (hnm : meth.name = "placeOf") (hQ : QM below w args s ({ frames := 2, cells := 0, slots := 0, locals := 44 }) (some .int) (some (.int out)) h = Q)  : ∀ (n : Nat) (x3 : Int32), J p l e ({ frames := 2, cells := 0, slots := 0, locals := 44 }) s m args below meth c Q w 4 0 0 11 [(0, .ref a0), (1, .ref a1), (3, .int x3)] [] h (f_Pp_placeOf_b11 fl a0 a1 h n x3) out := by
  intro n
  induction n with
  | zero => intro x3; exact j_none
  | succ n ih =>
    intro x3
    rw [f_Pp_placeOf_b11]
    refine j_iload_n C dX3_placeOf_11 (i := 3) rfl rfl ?_
    refine j_aload_n C dX3_placeOf_12 (i := 1) rfl rfl ?_
    refine j_callVi C (As := []) (rest := [_]) k_X3_27 ⟨Nat.le_of_ble_eq_true rfl, Nat.le_of_ble_eq_true rfl⟩ rfl (Nat.le_of_ble_eq_true rfl) ⟨Nat.le_of_ble_eq_true rfl, Nat.le_of_ble_eq_true rfl⟩ rfl dX3_placeOf_13 (fun r0 q0 => c_Tp_size l w _ _ _ q0) (fun r1003 er1003 nr1003 => ?_)
    refine j_iadd C dX3_placeOf_16 ?_
    refine j_aload_n C dX3_placeOf_17 (i := 0) rfl rfl ?_
    refine j_getI C g_X3_13 dX3_placeOf_18 (fun v1004 ev1004 => ?_)
    refine j_icmpgt C (tgt := 41) dX3_placeOf_21 (by decide) (fun q1005 => ?_) (fun q1005 => ?_)
    · refine j_iconst C (v := -1) dX3_placeOf_41 (by decide) ?_
      exact e_iretR C hQ hr rfl hlk dX3_placeOf_42 (Nat.le_of_ble_eq_true rfl) (Nat.le_of_ble_eq_true rfl)
    · refine j_aload_n C dX3_placeOf_24 (i := 0) rfl rfl ?_
      refine j_iload_n C dX3_placeOf_25 (i := 3) rfl rfl ?_
      refine j_aload_n C dX3_placeOf_26 (i := 1) rfl rfl ?_
      refine j_callVi C (As := [.int _, .ref _]) (rest := []) k_X3_32 ⟨Nat.le_of_ble_eq_true rfl, Nat.le_of_ble_eq_true rfl⟩ rfl (Nat.le_of_ble_eq_true rfl) ⟨Nat.le_of_ble_eq_true rfl, Nat.le_of_ble_eq_true rfl⟩ rfl dX3_placeOf_27 (fun r0 q0 => c_Pp_isAt l w fl _ _ _ _ _ q0) (fun r1006 er1006 nr1006 => ?_)
      refine j_ifeq C (tgt := 35) dX3_placeOf_30 (by decide) (fun q1007 => ?_) (fun q1007 => ?_)
      · refine j_iinc C (v := x3 + 1) [(3, _), (0, _), (1, _)] dX3_placeOf_35 rfl rfl (by decide) rfl ?_
        refine j_goto C (tgt := 11) dX3_placeOf_38 (by decide) ?_
        exact j_sub [1, 2, 0] rfl (ih _)
      · refine j_iload_n C dX3_placeOf_33 (i := 3) rfl rfl ?_
        exact e_iretR C hQ hr rfl hlk dX3_placeOf_34 (Nat.le_of_ble_eq_true rfl) (Nat.le_of_ble_eq_true rfl)
set_option maxRecDepth 100000 in
set_option maxHeartbeats 4000000 in
theorem c_Pp_placeOf (l : Launch) (w : hp_W) (fl : Nat) (a0 : Nat) (a1 : Nat) (x2 : Int32) (h : hp_M) (out : Int32) (hX : f_Pp_placeOf fl a0 a1 x2 h = some out) : CT l w yX3_placeOf cX3_placeOf 4 (some .int) ({ frames := 2, cells := 0, slots := 0, locals := 44 }) [.ref a0, .ref a1, .int x2] h (some (.int out)) h := by
  unfold f_Pp_placeOf at hX
  refine ct_of (by decide +kernel) (Nat.le_of_ble_eq_true rfl) hX ?_
  intro p e s m args below meth c Q C hr hlk hnm hQ
  refine j_aload_n C dX3_placeOf_0 (i := 1) rfl rfl ?_
  refine j_callVi C (As := []) (rest := []) k_X3_27 ⟨Nat.le_of_ble_eq_true rfl, Nat.le_of_ble_eq_true rfl⟩ rfl (Nat.le_of_ble_eq_true rfl) ⟨Nat.le_of_ble_eq_true rfl, Nat.le_of_ble_eq_true rfl⟩ rfl dX3_placeOf_1 (fun r0 q0 => c_Tp_size l w _ _ _ q0) (fun r1 er1 nr1 => ?_)
  refine j_ifne C (tgt := 9) dX3_placeOf_4 (by decide) (fun q2 => ?_) (fun q2 => ?_)
  · refine j_iconst C (v := -1) dX3_placeOf_7 (by decide) ?_
    exact e_iretR C hQ hr rfl hlk dX3_placeOf_8 (Nat.le_of_ble_eq_true rfl) (Nat.le_of_ble_eq_true rfl)
  · refine j_iload_n C dX3_placeOf_9 (i := 2) rfl rfl ?_
    refine j_istore_n C [(3, _), (0, _), (1, _), (2, _)] dX3_placeOf_10 (i := 3) rfl (by decide) rfl ?_
    refine j_sub [1, 2, 0] rfl (b_Pp_placeOf_11 fl  _ _ _ C hr hlk hnm hQ  _ _)
def f_Pp_exchange_b6 (fl : Nat) (a0 : Nat) (a1 : Nat) (x2 : Int32) (x3 : Int32) : Nat → Int32 → Int32 → hp_M → Option (Int32 × hp_M)
  | 0, _, _, _ => none
  | n + 1, x4, x5, h => (gI h a0 2 1).bind fun v1001 => if v1001 ≤ x5 then (some (x4, h)) else (jn (fun (u1013 : Int32) (h1014 : hp_M) => f_Pp_exchange_b6 fl a0 a1 x2 x3 n u1013 (x5 + 1) h1014) fun (j1012 : Int32 → hp_M → Option (Int32 × hp_M)) => (gR h a0 2 0).bind fun v1015 => (gaI h v1015 x5).bind fun v1016 => (onO h a1 1 (f_Bk_numberOf fl a1 x2 v1016 h)).bind fun r1017 => if r1017 < 0 then (j1012 x4 h) else ((onO h a1 1 (f_Bk_lettersOf a1 x3 h)).bind fun r1019 => if r1019 ≤ r1017 then (j1012 x4 h) else (jn (fun (u1025 : Int32) (u1026 : Int32) (u1027 : Int32) => (gR h a0 2 0).bind fun v1028 => (paI h v1028 x5 u1025).bind fun h1029 => j1012 (u1027 + u1026) h1029) fun (j1024 : Int32 → Int32 → Int32 → Option (Int32 × hp_M)) => (onO h a1 1 (f_Bk_letterOf a1 x3 r1017 h)).bind fun r1030 => (gR h a0 2 0).bind fun v1031 => (gaI h v1031 x5).bind fun v1032 => if r1030 = v1032 then (j1024 r1030 0 x4) else (j1024 r1030 1 x4))))
def f_Pp_exchange (fl : Nat) (a0 : Nat) (a1 : Nat) (x2 : Int32) (x3 : Int32) (h : hp_M) : Option (Int32 × hp_M) := f_Pp_exchange_b6 fl a0 a1 x2 x3 fl 0 0 h
set_option maxRecDepth 100000 in
set_option maxHeartbeats 4000000 in
theorem b_Pp_exchange_6 {p : Program} {l : Launch} {e : Env} {s : State} {m : MethodId} {args : Array Value} {below : List Frame} {meth : Method} {c : Code} {Q : State → Prop} {w : hp_W} {out : Int32 × hp_M} (fl : Nat)   (a0 : Nat) (a1 : Nat) (x2 : Int32) (x3 : Int32) (C : Cx p m c cX3_exchange 8 s args RX3 w) (hr : meth.sig.returnType = some .int) (hlk : meth.locks = false) (hnm : meth.name = "exchange") (hQ : QM below w args s ({ frames := 2, cells := 0, slots := 0, locals := 44 }) (some .int) (some (.int out.1)) out.2 = Q)  : ∀ (n : Nat) (x4 : Int32) (x5 : Int32) (h : hp_M), J p l e ({ frames := 2, cells := 0, slots := 0, locals := 44 }) s m args below meth c Q w 8 0 0 6 [(0, .ref a0), (1, .ref a1), (2, .int x2), (3, .int x3), (4, .int x4), (5, .int x5)] [] h (f_Pp_exchange_b6 fl a0 a1 x2 x3 n x4 x5 h) out := by
  intro n
  induction n with
  | zero => intro x4 x5 h; exact j_none
  | succ n ih =>
    intro x4 x5 h
    rw [f_Pp_exchange_b6]
    refine j_iload C dX3_exchange_6 rfl ?_
    refine j_aload_n C dX3_exchange_8 (i := 0) rfl rfl ?_
    refine j_getI C g_X3_13 dX3_exchange_9 (fun v1001 ev1001 => ?_)
    refine j_icmpge C (tgt := 90) dX3_exchange_12 (by decide) (fun q1002 => ?_) (fun q1002 => ?_)
    · refine j_iload C dX3_exchange_90 rfl ?_
      exact e_iretM C hQ hr rfl hlk dX3_exchange_92 (Nat.le_of_ble_eq_true rfl) (Nat.le_of_ble_eq_true rfl)
    · refine j_jn (P := fun (j1012 : Int32 → hp_M → Option (Int32 × hp_M)) => ∀ (u1013 : Int32) (h1014 : hp_M), J p l e ({ frames := 2, cells := 0, slots := 0, locals := 44 }) s m args below meth c Q w 8 0 0 84 [(0, .ref a0), (1, .ref a1), (2, .int x2), (3, .int x3), (4, .int u1013), (5, .int x5)] [] h1014 (j1012 u1013 h1014) out) ?_ (fun j1012 hj1012 => ?_)
      · intro u1013 h1014
        refine j_iinc C (v := x5 + 1) [(5, _), (0, _), (1, _), (2, _), (3, _), (4, _)] dX3_exchange_84 rfl rfl (by decide) rfl ?_
        refine j_goto C (tgt := 6) dX3_exchange_87 (by decide) ?_
        exact j_sub [1, 2, 3, 4, 5, 0] rfl (ih _ _ _)
      · refine j_aload_n C dX3_exchange_15 (i := 1) rfl rfl ?_
        refine j_iload_n C dX3_exchange_16 (i := 2) rfl rfl ?_
        refine j_aload_n C dX3_exchange_17 (i := 0) rfl rfl ?_
        refine j_getR C g_X3_9 dX3_exchange_18 (fun v1015 ev1015 => ?_)
        refine j_iload C dX3_exchange_21 rfl ?_
        refine j_iaload C dX3_exchange_23 (fun v1016 ev1016 => ?_)
        refine j_callVi C (As := [.int _, .int _]) (rest := []) k_X3_41 ⟨Nat.le_of_ble_eq_true rfl, Nat.le_of_ble_eq_true rfl⟩ rfl (Nat.le_of_ble_eq_true rfl) ⟨Nat.le_of_ble_eq_true rfl, Nat.le_of_ble_eq_true rfl⟩ rfl dX3_exchange_24 (fun r0 q0 => c_Bk_numberOf l w fl _ _ _ _ _ q0) (fun r1017 er1017 nr1017 => ?_)
        refine j_istore C [(6, _), (0, _), (1, _), (2, _), (3, _), (4, _), (5, _)] dX3_exchange_27 (by decide) rfl ?_
        refine j_iload C dX3_exchange_29 rfl ?_
        refine j_iflt C (tgt := 84) dX3_exchange_31 (by decide) (fun q1018 => ?_) (fun q1018 => ?_)
        · exact j_sub [1, 2, 3, 4, 5, 6] rfl (hj1012 _ _)
        · refine j_iload C dX3_exchange_34 rfl ?_
          refine j_aload_n C dX3_exchange_36 (i := 1) rfl rfl ?_
          refine j_iload_n C dX3_exchange_37 (i := 3) rfl rfl ?_
          refine j_callVi C (As := [.int _]) (rest := [_]) k_X3_47 ⟨Nat.le_of_ble_eq_true rfl, Nat.le_of_ble_eq_true rfl⟩ rfl (Nat.le_of_ble_eq_true rfl) ⟨Nat.le_of_ble_eq_true rfl, Nat.le_of_ble_eq_true rfl⟩ rfl dX3_exchange_38 (fun r0 q0 => c_Bk_lettersOf l w _ _ _ _ q0) (fun r1019 er1019 nr1019 => ?_)
          refine j_icmpge C (tgt := 84) dX3_exchange_41 (by decide) (fun q1020 => ?_) (fun q1020 => ?_)
          · exact j_sub [1, 2, 3, 4, 5, 6] rfl (hj1012 _ _)
          · refine j_jn (P := fun (j1024 : Int32 → Int32 → Int32 → Option (Int32 × hp_M)) => ∀ (u1025 : Int32) (u1026 : Int32) (u1027 : Int32), J p l e ({ frames := 2, cells := 0, slots := 0, locals := 44 }) s m args below meth c Q w 8 0 0 72 [(0, .ref a0), (1, .ref a1), (2, .int x2), (3, .int x3), (5, .int x5), (7, .int u1025)] [.int u1026, .int u1027] h (j1024 u1025 u1026 u1027) out) ?_ (fun j1024 hj1024 => ?_)
            · intro u1025 u1026 u1027
              refine j_iadd C dX3_exchange_72 ?_
              refine j_istore C [(4, _), (0, _), (1, _), (2, _), (3, _), (5, _), (7, _)] dX3_exchange_73 (by decide) rfl ?_
              refine j_aload_n C dX3_exchange_75 (i := 0) rfl rfl ?_
              refine j_getR C g_X3_9 dX3_exchange_76 (fun v1028 ev1028 => ?_)
              refine j_iload C dX3_exchange_79 rfl ?_
              refine j_iload C dX3_exchange_81 rfl ?_
              refine j_iastore C dX3_exchange_83 (fun h1029 eh1029 => ?_)
              exact j_sub [1, 2, 3, 4, 0, 5] rfl (hj1012 _ _)
            · refine j_aload_n C dX3_exchange_44 (i := 1) rfl rfl ?_
              refine j_iload_n C dX3_exchange_45 (i := 3) rfl rfl ?_
              refine j_iload C dX3_exchange_46 rfl ?_
              refine j_callVi C (As := [.int _, .int _]) (rest := []) k_X3_50 ⟨Nat.le_of_ble_eq_true rfl, Nat.le_of_ble_eq_true rfl⟩ rfl (Nat.le_of_ble_eq_true rfl) ⟨Nat.le_of_ble_eq_true rfl, Nat.le_of_ble_eq_true rfl⟩ rfl dX3_exchange_48 (fun r0 q0 => c_Bk_letterOf l w _ _ _ _ _ q0) (fun r1030 er1030 nr1030 => ?_)
              refine j_istore C [(7, _), (6, _), (0, _), (1, _), (2, _), (3, _), (4, _), (5, _)] dX3_exchange_51 (by decide) rfl ?_
              refine j_iload C dX3_exchange_53 rfl ?_
              refine j_iload C dX3_exchange_55 rfl ?_
              refine j_aload_n C dX3_exchange_57 (i := 0) rfl rfl ?_
              refine j_getR C g_X3_9 dX3_exchange_58 (fun v1031 ev1031 => ?_)
              refine j_iload C dX3_exchange_61 rfl ?_
              refine j_iaload C dX3_exchange_63 (fun v1032 ev1032 => ?_)
              refine j_icmpne C (tgt := 71) dX3_exchange_64 (by decide) (fun q1033 => ?_) (fun q1033 => ?_)
              · refine j_iconst C (v := 0) dX3_exchange_67 (by decide) ?_
                refine j_goto C (tgt := 72) dX3_exchange_68 (by decide) ?_
                exact j_sub [2, 3, 4, 5, 7, 0] rfl (hj1024 _ _ _)
              · refine j_iconst C (v := 1) dX3_exchange_71 (by decide) ?_
                exact j_sub [2, 3, 4, 5, 7, 0] rfl (hj1024 _ _ _)
set_option maxRecDepth 100000 in
set_option maxHeartbeats 4000000 in
theorem c_Pp_exchange (l : Launch) (w : hp_W) (fl : Nat) (a0 : Nat) (a1 : Nat) (x2 : Int32) (x3 : Int32) (h : hp_M) (out : Int32 × hp_M) (hX : f_Pp_exchange fl a0 a1 x2 x3 h = some out) : CT l w yX3_exchange cX3_exchange 8 (some .int) ({ frames := 2, cells := 0, slots := 0, locals := 44 }) [.ref a0, .ref a1, .int x2, .int x3] h (some (.int out.1)) out.2 := by
  unfold f_Pp_exchange at hX
  refine ct_of (by decide +kernel) (Nat.le_of_ble_eq_true rfl) hX ?_
  intro p e s m args below meth c Q C hr hlk hnm hQ
  refine j_iconst C (v := 0) dX3_exchange_0 (by decide) ?_
  refine j_istore C [(4, _), (0, _), (1, _), (2, _), (3, _)] dX3_exchange_1 (by decide) rfl ?_
  refine j_iconst C (v := 0) dX3_exchange_3 (by decide) ?_
  refine j_istore C [(5, _), (4, _), (0, _), (1, _), (2, _), (3, _)] dX3_exchange_4 (by decide) rfl ?_
  refine j_sub [2, 3, 4, 5, 1, 0] rfl (b_Pp_exchange_6 fl  _ _ _ _ C hr hlk hnm hQ  _ _ _ _)
def f_Pr_isComparison (x0 : Int32) (h : hp_M) : Option (Int32) := jn (some 0) fun (j1 : Option (Int32)) => if x0 < 20 then (j1) else (if 24 < x0 then (j1) else (some 1))
set_option maxRecDepth 100000 in
set_option maxHeartbeats 4000000 in
theorem c_Pr_isComparison (l : Launch) (w : hp_W) (x0 : Int32) (h : hp_M) (out : Int32) (hX : f_Pr_isComparison x0 h = some out) : CT l w yX5_isComparison cX5_isComparison 1 (some .boolean) ({ frames := 0, cells := 0, slots := 0, locals := 0 }) [.int x0] h (some (.int out)) h := by
  unfold f_Pr_isComparison at hX
  refine ct_of (by decide +kernel) (Nat.le_of_ble_eq_true rfl) hX ?_
  intro p e s m args below meth c Q C hr hlk hnm hQ
  refine j_jn (P := fun j1 => J p l e ({ frames := 0, cells := 0, slots := 0, locals := 0 }) s m args below meth c Q w 1 0 0 16 [] [] h (j1) out) ?_ (fun j1 hj1 => ?_)
  · refine j_iconst C (v := 0) dX5_isComparison_16 (by decide) ?_
    exact e_iretR C hQ hr rfl hlk dX5_isComparison_17 (Nat.le_of_ble_eq_true rfl) (Nat.le_of_ble_eq_true rfl)
  · refine j_iload_n C dX5_isComparison_0 (i := 0) rfl rfl ?_
    refine j_bipush C (v := 20) dX5_isComparison_1 (by decide) ?_
    refine j_icmplt C (tgt := 16) dX5_isComparison_3 (by decide) (fun q2 => ?_) (fun q2 => ?_)
    · exact j_sub [] rfl (hj1)
    · refine j_iload_n C dX5_isComparison_6 (i := 0) rfl rfl ?_
      refine j_bipush C (v := 24) dX5_isComparison_7 (by decide) ?_
      refine j_icmpgt C (tgt := 16) dX5_isComparison_9 (by decide) (fun q3 => ?_) (fun q3 => ?_)
      · exact j_sub [] rfl (hj1)
      · refine j_iconst C (v := 1) dX5_isComparison_12 (by decide) ?_
        refine j_goto C (tgt := 17) dX5_isComparison_13 (by decide) ?_
        exact e_iretR C hQ hr rfl hlk dX5_isComparison_17 (Nat.le_of_ble_eq_true rfl) (Nat.le_of_ble_eq_true rfl)
def f_Pr_isProduct (x0 : Int32) (h : hp_M) : Option (Int32) := jn (some 0) fun (j1 : Option (Int32)) => if x0 < 17 then (j1) else (if 19 < x0 then (j1) else (some 1))
set_option maxRecDepth 100000 in
set_option maxHeartbeats 4000000 in
theorem c_Pr_isProduct (l : Launch) (w : hp_W) (x0 : Int32) (h : hp_M) (out : Int32) (hX : f_Pr_isProduct x0 h = some out) : CT l w yX5_isProduct cX5_isProduct 1 (some .boolean) ({ frames := 0, cells := 0, slots := 0, locals := 0 }) [.int x0] h (some (.int out)) h := by
  unfold f_Pr_isProduct at hX
  refine ct_of (by decide +kernel) (Nat.le_of_ble_eq_true rfl) hX ?_
  intro p e s m args below meth c Q C hr hlk hnm hQ
  refine j_jn (P := fun j1 => J p l e ({ frames := 0, cells := 0, slots := 0, locals := 0 }) s m args below meth c Q w 1 0 0 16 [] [] h (j1) out) ?_ (fun j1 hj1 => ?_)
  · refine j_iconst C (v := 0) dX5_isProduct_16 (by decide) ?_
    exact e_iretR C hQ hr rfl hlk dX5_isProduct_17 (Nat.le_of_ble_eq_true rfl) (Nat.le_of_ble_eq_true rfl)
  · refine j_iload_n C dX5_isProduct_0 (i := 0) rfl rfl ?_
    refine j_bipush C (v := 17) dX5_isProduct_1 (by decide) ?_
    refine j_icmplt C (tgt := 16) dX5_isProduct_3 (by decide) (fun q2 => ?_) (fun q2 => ?_)
    · exact j_sub [] rfl (hj1)
    · refine j_iload_n C dX5_isProduct_6 (i := 0) rfl rfl ?_
      refine j_bipush C (v := 19) dX5_isProduct_7 (by decide) ?_
      refine j_icmpgt C (tgt := 16) dX5_isProduct_9 (by decide) (fun q3 => ?_) (fun q3 => ?_)
      · exact j_sub [] rfl (hj1)
      · refine j_iconst C (v := 1) dX5_isProduct_12 (by decide) ?_
        refine j_goto C (tgt := 17) dX5_isProduct_13 (by decide) ?_
        exact e_iretR C hQ hr rfl hlk dX5_isProduct_17 (Nat.le_of_ble_eq_true rfl) (Nat.le_of_ble_eq_true rfl)
def f_Pr_add (a0 : Nat) (x1 : Int32) (x2 : Int32) (x3 : Int32) (h : hp_M) : Option (hp_M) := (gI h a0 4 3).bind fun v1 => if 400 ≤ v1 then (some h) else ((gR h a0 4 0).bind fun v3 => (gI h a0 4 3).bind fun v4 => (paI h v3 v4 x1).bind fun h5 => (gR h5 a0 4 1).bind fun v6 => (gI h5 a0 4 3).bind fun v7 => (paI h5 v6 v7 x2).bind fun h8 => (gR h8 a0 4 2).bind fun v9 => (gI h8 a0 4 3).bind fun v10 => (paI h8 v9 v10 x3).bind fun h11 => (gI h11 a0 4 3).bind fun v12 => (pF h11 a0 4 3 (.int (v12 + 1))).bind fun h13 => some h13)
set_option maxRecDepth 100000 in
set_option maxHeartbeats 4000000 in
theorem c_Pr_add (l : Launch) (w : hp_W) (a0 : Nat) (x1 : Int32) (x2 : Int32) (x3 : Int32) (h : hp_M) (out : hp_M) (hX : f_Pr_add a0 x1 x2 x3 h = some out) : CT l w yX5_add cX5_add 4 none ({ frames := 0, cells := 0, slots := 0, locals := 0 }) [.ref a0, .int x1, .int x2, .int x3] h none out := by
  unfold f_Pr_add at hX
  refine ct_of (by decide +kernel) (Nat.le_of_ble_eq_true rfl) hX ?_
  intro p e s m args below meth c Q C hr hlk hnm hQ
  refine j_aload_n C dX5_add_0 (i := 0) rfl rfl ?_
  refine j_getI C g_X5_24 dX5_add_1 (fun v1 ev1 => ?_)
  refine j_sipush C (v := 400) dX5_add_4 (by decide) ?_
  refine j_icmpge C (tgt := 50) dX5_add_7 (by decide) (fun q2 => ?_) (fun q2 => ?_)
  · exact e_vretM C hQ hr hlk dX5_add_50 (Nat.le_of_ble_eq_true rfl) (Nat.le_of_ble_eq_true rfl)
  · refine j_aload_n C dX5_add_10 (i := 0) rfl rfl ?_
    refine j_getR C g_X5_11 dX5_add_11 (fun v3 ev3 => ?_)
    refine j_aload_n C dX5_add_14 (i := 0) rfl rfl ?_
    refine j_getI C g_X5_24 dX5_add_15 (fun v4 ev4 => ?_)
    refine j_iload_n C dX5_add_18 (i := 1) rfl rfl ?_
    refine j_iastore C dX5_add_19 (fun h5 eh5 => ?_)
    refine j_aload_n C dX5_add_20 (i := 0) rfl rfl ?_
    refine j_getR C g_X5_15 dX5_add_21 (fun v6 ev6 => ?_)
    refine j_aload_n C dX5_add_24 (i := 0) rfl rfl ?_
    refine j_getI C g_X5_24 dX5_add_25 (fun v7 ev7 => ?_)
    refine j_iload_n C dX5_add_28 (i := 2) rfl rfl ?_
    refine j_iastore C dX5_add_29 (fun h8 eh8 => ?_)
    refine j_aload_n C dX5_add_30 (i := 0) rfl rfl ?_
    refine j_getR C g_X5_18 dX5_add_31 (fun v9 ev9 => ?_)
    refine j_aload_n C dX5_add_34 (i := 0) rfl rfl ?_
    refine j_getI C g_X5_24 dX5_add_35 (fun v10 ev10 => ?_)
    refine j_iload_n C dX5_add_38 (i := 3) rfl rfl ?_
    refine j_iastore C dX5_add_39 (fun h11 eh11 => ?_)
    refine j_aload_n C dX5_add_40 (i := 0) rfl rfl ?_
    refine j_dup C dX5_add_41 rfl ?_
    refine j_getI C g_X5_24 dX5_add_42 (fun v12 ev12 => ?_)
    refine j_iconst C (v := 1) dX5_add_45 (by decide) ?_
    refine j_iadd C dX5_add_46 ?_
    refine j_putI C p_X5_24 (fun q => nomatch q) dX5_add_47 (fun h13 eh13 => ?_)
    exact e_vretM C hQ hr hlk dX5_add_50 (Nat.le_of_ble_eq_true rfl) (Nat.le_of_ble_eq_true rfl)
