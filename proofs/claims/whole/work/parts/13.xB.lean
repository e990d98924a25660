def f_Md_mean (fl : Nat) (a0 : Nat) (h : hp_M) : Option (UInt64 × hp_M) := (pF h a0 12 0 (.int 0)).bind fun h1 => (gR h1 a0 12 13).bind fun v2 => (gI h1 v2 10 0).bind fun v3 => if v3 = 0 then (some (0, h1)) else ((onO h1 a0 12 (f_Md_wroteInAll fl a0 h1)).bind fun r5 => (gR h1 a0 12 13).bind fun v6 => (gI h1 v6 10 0).bind fun v7 => (ddC (FP.i2d r5) (FP.i2d v7)).bind fun v8 => some (v8, h1))
set_option maxRecDepth 100000 in
set_option maxHeartbeats 4000000 in
theorem c_Md_mean (l : Launch) (w : hp_W) (fl : Nat) (a0 : Nat) (h : hp_M) (out : UInt64 × hp_M) (hX : f_Md_mean fl a0 h = some out) : CT l w yX13_mean cX13_mean 1 (some .double) ({ frames := 1, cells := 0, slots := 0, locals := 22 }) [.ref a0] h (some (.double out.1)) out.2 := by
  unfold f_Md_mean at hX
  refine ct_of (by decide +kernel) (Nat.le_of_ble_eq_true rfl) hX ?_
  intro p e s m args below meth c Q C hr hlk hnm hQ
  refine j_aload_n C dX13_mean_0 (i := 0) rfl rfl ?_
  refine j_iconst C (v := 0) dX13_mean_1 (by decide) ?_
  refine j_putI C p_X13_54 (fun q => nomatch q) dX13_mean_2 (fun h1 eh1 => ?_)
  refine j_aload_n C dX13_mean_5 (i := 0) rfl rfl ?_
  refine j_getR C g_X13_47 dX13_mean_6 (fun v2 ev2 => ?_)
  refine j_getI C g_X13_253 dX13_mean_9 (fun v3 ev3 => ?_)
  refine j_ifne C (tgt := 19) dX13_mean_12 (by decide) (fun q4 => ?_) (fun q4 => ?_)
  · refine j_dconst0 C dX13_mean_15 ?_
    refine j_goto C (tgt := 33) dX13_mean_16 (by decide) ?_
    exact e_dretM C hQ hr hlk dX13_mean_33 (Nat.le_of_ble_eq_true rfl) (Nat.le_of_ble_eq_true rfl)
  · refine j_aload_n C dX13_mean_19 (i := 0) rfl rfl ?_
    refine j_callVi C (As := []) (rest := []) k_X13_305 ⟨Nat.le_of_ble_eq_true rfl, Nat.le_of_ble_eq_true rfl⟩ rfl (Nat.le_of_ble_eq_true rfl) ⟨Nat.le_of_ble_eq_true rfl, Nat.le_of_ble_eq_true rfl⟩ rfl dX13_mean_20 (fun r0 q0 => c_Md_wroteInAll l w fl _ _ _ q0) (fun r5 er5 nr5 => ?_)
    refine j_i2d C dX13_mean_23 ?_
    refine j_aload_n C dX13_mean_24 (i := 0) rfl rfl ?_
    refine j_getR C g_X13_47 dX13_mean_25 (fun v6 ev6 => ?_)
    refine j_getI C g_X13_253 dX13_mean_28 (fun v7 ev7 => ?_)
    refine j_i2d C dX13_mean_31 ?_
    refine j_ddivC C dX13_mean_32 (fun v8 ev8 => ?_)
    exact e_dretM C hQ hr hlk dX13_mean_33 (Nat.le_of_ble_eq_true rfl) (Nat.le_of_ble_eq_true rfl)
