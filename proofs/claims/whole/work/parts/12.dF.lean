def f_St_init (a0 : Nat) (a1 : Nat) (h : hp_M) : Option (hp_M) := (pF h a0 10 8 (.ref a1)).bind fun h1 => (pF (hN h1 (aI 8 (fun _ => 0))) a0 10 1 (.ref h1.2)).bind fun h2 => (pF (hN h2 (aI 8 (fun _ => 0))) a0 10 2 (.ref h2.2)).bind fun h3 => (pF (hN h3 (aI 8 (fun _ => 0))) a0 10 3 (.ref h3.2)).bind fun h4 => (pF (hN h4 (aI 12 (fun _ => 0))) a0 10 4 (.ref h4.2)).bind fun h5 => (pF (hN h5 (aI 600 (fun _ => 0))) a0 10 5 (.ref h5.2)).bind fun h6 => (pF (hN h6 (aI 400 (fun _ => 0))) a0 10 7 (.ref h6.2)).bind fun h7 => some h7
set_option maxRecDepth 100000 in
set_option maxHeartbeats 4000000 in
theorem c_St_init (l : Launch) (w : hp_W) (a0 : Nat) (a1 : Nat) (h : hp_M) (out : hp_M) (hX : f_St_init a0 a1 h = some out) : CT l w yX11_init cX11_init 2 none ({ frames := 1, cells := 6, slots := 1036, locals := 32 }) [.ref a0, .ref a1] h none out := by
  unfold f_St_init at hX
  refine ct_of (by decide +kernel) (Nat.le_of_ble_eq_true rfl) hX ?_
  intro p e s m args below meth c Q C hr hlk hnm hQ
  refine j_aload_n C dX11_init_0 (i := 0) rfl rfl ?_
  refine j_aload_n C dX11_init_1 (i := 1) rfl rfl ?_
  refine j_putR C p_X11_3 (fun _ => hnm) dX11_init_2 rfl rfl (fun h1 eh1 => ?_)
  refine j_aload_n C dX11_init_5 (i := 0) rfl rfl ?_
  refine j_objInit C k_X11_9 k_oi k_oc dX11_init_6 (Nat.le_of_ble_eq_true rfl) (Nat.le_of_ble_eq_true rfl) ?_
  refine j_aload_n C dX11_init_9 (i := 0) rfl rfl ?_
  refine j_bipush C (v := 8) dX11_init_10 (by decide) ?_
  refine j_newI C (N := 8) k_arr_int (by decide) (by decide) (Nat.le_of_ble_eq_true rfl) (Nat.le_of_ble_eq_true rfl) (Nat.le_of_ble_eq_true rfl) dX11_init_12 ?_
  refine j_putR C p_X11_15 (fun _ => hnm) dX11_init_14 rfl rfl (fun h2 eh2 => ?_)
  refine j_aload_n C dX11_init_17 (i := 0) rfl rfl ?_
  refine j_bipush C (v := 8) dX11_init_18 (by decide) ?_
  refine j_newI C (N := 8) k_arr_int (by decide) (by decide) (Nat.le_of_ble_eq_true rfl) (Nat.le_of_ble_eq_true rfl) (Nat.le_of_ble_eq_true rfl) dX11_init_20 ?_
  refine j_putR C p_X11_19 (fun _ => hnm) dX11_init_22 rfl rfl (fun h3 eh3 => ?_)
  refine j_aload_n C dX11_init_25 (i := 0) rfl rfl ?_
  refine j_bipush C (v := 8) dX11_init_26 (by decide) ?_
  refine j_newI C (N := 8) k_arr_int (by decide) (by decide) (Nat.le_of_ble_eq_true rfl) (Nat.le_of_ble_eq_true rfl) (Nat.le_of_ble_eq_true rfl) dX11_init_28 ?_
  refine j_putR C p_X11_22 (fun _ => hnm) dX11_init_30 rfl rfl (fun h4 eh4 => ?_)
  refine j_aload_n C dX11_init_33 (i := 0) rfl rfl ?_
  refine j_bipush C (v := 12) dX11_init_34 (by decide) ?_
  refine j_newI C (N := 12) k_arr_int (by decide) (by decide) (Nat.le_of_ble_eq_true rfl) (Nat.le_of_ble_eq_true rfl) (Nat.le_of_ble_eq_true rfl) dX11_init_36 ?_
  refine j_putR C p_X11_25 (fun _ => hnm) dX11_init_38 rfl rfl (fun h5 eh5 => ?_)
  refine j_aload_n C dX11_init_41 (i := 0) rfl rfl ?_
  refine j_sipush C (v := 600) dX11_init_42 (by decide) ?_
  refine j_newI C (N := 600) k_arr_int (by decide) (by decide) (Nat.le_of_ble_eq_true rfl) (Nat.le_of_ble_eq_true rfl) (Nat.le_of_ble_eq_true rfl) dX11_init_45 ?_
  refine j_putR C p_X11_28 (fun _ => hnm) dX11_init_47 rfl rfl (fun h6 eh6 => ?_)
  refine j_aload_n C dX11_init_50 (i := 0) rfl rfl ?_
  refine j_sipush C (v := 400) dX11_init_51 (by decide) ?_
  refine j_newI C (N := 400) k_arr_int (by decide) (by decide) (Nat.le_of_ble_eq_true rfl) (Nat.le_of_ble_eq_true rfl) (Nat.le_of_ble_eq_true rfl) dX11_init_54 ?_
  refine j_putR C p_X11_31 (fun _ => hnm) dX11_init_56 rfl rfl (fun h7 eh7 => ?_)
  exact e_vretM C hQ hr hlk dX11_init_59 (Nat.le_of_ble_eq_true rfl) (Nat.le_of_ble_eq_true rfl)
def f_St_copy (a0 : Nat) (a1 : Nat) (a2 : Nat) (h : hp_M) : Option (hp_M) := (gLen h a1).bind fun v1 => (cpI h a1 0 a2 0 v1).bind fun h2 => some h2
set_option maxRecDepth 100000 in
set_option maxHeartbeats 4000000 in
theorem c_St_copy (l : Launch) (w : hp_W) (a0 : Nat) (a1 : Nat) (a2 : Nat) (h : hp_M) (out : hp_M) (hX : f_St_copy a0 a1 a2 h = some out) : CT l w yX11_copy cX11_copy 3 none ({ frames := 6, cells := 0, slots := 0, locals := 200 }) [.ref a0, .ref a1, .ref a2] h none out := by
  unfold f_St_copy at hX
  refine ct_of (by decide +kernel) (Nat.le_of_ble_eq_true rfl) hX ?_
  intro p e s m args below meth c Q C hr hlk hnm hQ
  refine j_aload_n C dX11_copy_0 (i := 1) rfl rfl ?_
  refine j_iconst C (v := 0) dX11_copy_1 (by decide) ?_
  refine j_aload_n C dX11_copy_2 (i := 2) rfl rfl ?_
  refine j_iconst C (v := 0) dX11_copy_3 (by decide) ?_
  refine j_aload_n C dX11_copy_4 (i := 1) rfl rfl ?_
  refine j_alen C dX11_copy_5 (fun v1 ev1 => ?_)
  refine j_copy C k_X11_34 (Nat.le_of_ble_eq_true rfl) (Nat.le_of_ble_eq_true rfl) dX11_copy_6 (fun h2 eh2 => ?_)
  exact e_vretM C hQ hr hlk dX11_copy_9 (Nat.le_of_ble_eq_true rfl) (Nat.le_of_ble_eq_true rfl)
def f_St_become (a0 : Nat) (a1 : Nat) (h : hp_M) : Option (hp_M) := (gI h a1 10 0).bind fun v1 => (pF h a0 10 0 (.int v1)).bind fun h2 => (gI h2 a1 10 6).bind fun v3 => (pF h2 a0 10 6 (.int v3)).bind fun h4 => (gR h4 a1 10 1).bind fun v5 => (gR h4 a0 10 1).bind fun v6 => (onO h4 a0 10 (f_St_copy a0 v5 v6 h4)).bind fun h7 => (gR h7 a1 10 2).bind fun v8 => (gR h7 a0 10 2).bind fun v9 => (onO h7 a0 10 (f_St_copy a0 v8 v9 h7)).bind fun h10 => (gR h10 a1 10 3).bind fun v11 => (gR h10 a0 10 3).bind fun v12 => (onO h10 a0 10 (f_St_copy a0 v11 v12 h10)).bind fun h13 => (gR h13 a1 10 4).bind fun v14 => (gR h13 a0 10 4).bind fun v15 => (onO h13 a0 10 (f_St_copy a0 v14 v15 h13)).bind fun h16 => (gR h16 a1 10 5).bind fun v17 => (gR h16 a0 10 5).bind fun v18 => (onO h16 a0 10 (f_St_copy a0 v17 v18 h16)).bind fun h19 => some h19
set_option maxRecDepth 100000 in
set_option maxHeartbeats 4000000 in
theorem c_St_become (l : Launch) (w : hp_W) (a0 : Nat) (a1 : Nat) (h : hp_M) (out : hp_M) (hX : f_St_become a0 a1 h = some out) : CT l w yX11_become cX11_become 2 none ({ frames := 7, cells := 0, slots := 0, locals := 222 }) [.ref a0, .ref a1] h none out := by
  unfold f_St_become at hX
  refine ct_of (by decide +kernel) (Nat.le_of_ble_eq_true rfl) hX ?_
  intro p e s m args below meth c Q C hr hlk hnm hQ
  refine j_aload_n C dX11_become_0 (i := 0) rfl rfl ?_
  refine j_aload_n C dX11_become_1 (i := 1) rfl rfl ?_
  refine j_getI C g_X11_40 dX11_become_2 (fun v1 ev1 => ?_)
  refine j_putI C p_X11_40 (fun q => nomatch q) dX11_become_5 (fun h2 eh2 => ?_)
  refine j_aload_n C dX11_become_8 (i := 0) rfl rfl ?_
  refine j_aload_n C dX11_become_9 (i := 1) rfl rfl ?_
  refine j_getI C g_X11_44 dX11_become_10 (fun v3 ev3 => ?_)
  refine j_putI C p_X11_44 (fun q => nomatch q) dX11_become_13 (fun h4 eh4 => ?_)
  refine j_aload_n C dX11_become_16 (i := 0) rfl rfl ?_
  refine j_aload_n C dX11_become_17 (i := 1) rfl rfl ?_
  refine j_getR C g_X11_15 dX11_become_18 (fun v5 ev5 => ?_)
  refine j_aload_n C dX11_become_21 (i := 0) rfl rfl ?_
  refine j_getR C g_X11_15 dX11_become_22 (fun v6 ev6 => ?_)
  refine j_callVv C (As := [.ref _, .ref _]) (rest := []) k_X11_47 ⟨Nat.le_of_ble_eq_true rfl, Nat.le_of_ble_eq_true rfl⟩ rfl (Nat.le_of_ble_eq_true rfl) ⟨Nat.le_of_ble_eq_true rfl, Nat.le_of_ble_eq_true rfl⟩ rfl dX11_become_25 (fun r0 q0 => c_St_copy l w _ _ _ _ _ q0) (fun h7 eh7 _ => ?_)
  refine j_aload_n C dX11_become_28 (i := 0) rfl rfl ?_
  refine j_aload_n C dX11_become_29 (i := 1) rfl rfl ?_
  refine j_getR C g_X11_19 dX11_become_30 (fun v8 ev8 => ?_)
  refine j_aload_n C dX11_become_33 (i := 0) rfl rfl ?_
  refine j_getR C g_X11_19 dX11_become_34 (fun v9 ev9 => ?_)
  refine j_callVv C (As := [.ref _, .ref _]) (rest := []) k_X11_47 ⟨Nat.le_of_ble_eq_true rfl, Nat.le_of_ble_eq_true rfl⟩ rfl (Nat.le_of_ble_eq_true rfl) ⟨Nat.le_of_ble_eq_true rfl, Nat.le_of_ble_eq_true rfl⟩ rfl dX11_become_37 (fun r0 q0 => c_St_copy l w _ _ _ _ _ q0) (fun h10 eh10 _ => ?_)
  refine j_aload_n C dX11_become_40 (i := 0) rfl rfl ?_
  refine j_aload_n C dX11_become_41 (i := 1) rfl rfl ?_
  refine j_getR C g_X11_22 dX11_become_42 (fun v11 ev11 => ?_)
  refine j_aload_n C dX11_become_45 (i := 0) rfl rfl ?_
  refine j_getR C g_X11_22 dX11_become_46 (fun v12 ev12 => ?_)
  refine j_callVv C (As := [.ref _, .ref _]) (rest := []) k_X11_47 ⟨Nat.le_of_ble_eq_true rfl, Nat.le_of_ble_eq_true rfl⟩ rfl (Nat.le_of_ble_eq_true rfl) ⟨Nat.le_of_ble_eq_true rfl, Nat.le_of_ble_eq_true rfl⟩ rfl dX11_become_49 (fun r0 q0 => c_St_copy l w _ _ _ _ _ q0) (fun h13 eh13 _ => ?_)
  refine j_aload_n C dX11_become_52 (i := 0) rfl rfl ?_
  refine j_aload_n C dX11_become_53 (i := 1) rfl rfl ?_
  refine j_getR C g_X11_25 dX11_become_54 (fun v14 ev14 => ?_)
  refine j_aload_n C dX11_become_57 (i := 0) rfl rfl ?_
  refine j_getR C g_X11_25 dX11_become_58 (fun v15 ev15 => ?_)
  refine j_callVv C (As := [.ref _, .ref _]) (rest := []) k_X11_47 ⟨Nat.le_of_ble_eq_true rfl, Nat.le_of_ble_eq_true rfl⟩ rfl (Nat.le_of_ble_eq_true rfl) ⟨Nat.le_of_ble_eq_true rfl, Nat.le_of_ble_eq_true rfl⟩ rfl dX11_become_61 (fun r0 q0 => c_St_copy l w _ _ _ _ _ q0) (fun h16 eh16 _ => ?_)
  refine j_aload_n C dX11_become_64 (i := 0) rfl rfl ?_
  refine j_aload_n C dX11_become_65 (i := 1) rfl rfl ?_
  refine j_getR C g_X11_28 dX11_become_66 (fun v17 ev17 => ?_)
  refine j_aload_n C dX11_become_69 (i := 0) rfl rfl ?_
  refine j_getR C g_X11_28 dX11_become_70 (fun v18 ev18 => ?_)
  refine j_callVv C (As := [.ref _, .ref _]) (rest := []) k_X11_47 ⟨Nat.le_of_ble_eq_true rfl, Nat.le_of_ble_eq_true rfl⟩ rfl (Nat.le_of_ble_eq_true rfl) ⟨Nat.le_of_ble_eq_true rfl, Nat.le_of_ble_eq_true rfl⟩ rfl dX11_become_73 (fun r0 q0 => c_St_copy l w _ _ _ _ _ q0) (fun h19 eh19 _ => ?_)
  exact e_vretM C hQ hr hlk dX11_become_76 (Nat.le_of_ble_eq_true rfl) (Nat.le_of_ble_eq_true rfl)
def f_St_isRetro (a0 : Nat) (x1 : Int32) (h : hp_M) : Option (Int32) := (gI h a0 10 0).bind fun v1 => (gR h a0 10 8).bind fun v2 => (gR h v2 12 11).bind fun v3 => (gR h v3 11 1).bind fun v4 => (gaI h v4 ((5 * x1) + 4)).bind fun v5 => (remI v1 v5).bind fun v6 => (gR h a0 10 8).bind fun v7 => (gR h v7 12 11).bind fun v8 => (gR h v8 11 1).bind fun v9 => (gaI h v9 ((5 * x1) + 3)).bind fun v10 => if v10 ≤ v6 then (some 0) else (some 1)
set_option maxRecDepth 100000 in
set_option maxHeartbeats 4000000 in
theorem c_St_isRetro (l : Launch) (w : hp_W) (a0 : Nat) (x1 : Int32) (h : hp_M) (out : Int32) (hX : f_St_isRetro a0 x1 h = some out) : CT l w yX11_isRetro cX11_isRetro 2 (some .boolean) ({ frames := 0, cells := 0, slots := 0, locals := 0 }) [.ref a0, .int x1] h (some (.int out)) h := by
  unfold f_St_isRetro at hX
  refine ct_of (by decide +kernel) (Nat.le_of_ble_eq_true rfl) hX ?_
  intro p e s m args below meth c Q C hr hlk hnm hQ
  refine j_aload_n C dX11_isRetro_0 (i := 0) rfl rfl ?_
  refine j_getI C g_X11_40 dX11_isRetro_1 (fun v1 ev1 => ?_)
  refine j_aload_n C dX11_isRetro_4 (i := 0) rfl rfl ?_
  refine j_getR C g_X11_3 dX11_isRetro_5 (fun v2 ev2 => ?_)
  refine j_getR C g_X11_51 dX11_isRetro_8 (fun v3 ev3 => ?_)
  refine j_getR C g_X11_55 dX11_isRetro_11 (fun v4 ev4 => ?_)
  refine j_iconst C (v := 5) dX11_isRetro_14 (by decide) ?_
  refine j_iload_n C dX11_isRetro_15 (i := 1) rfl rfl ?_
  refine j_imul C dX11_isRetro_16 ?_
  refine j_iconst C (v := 4) dX11_isRetro_17 (by decide) ?_
  refine j_iadd C dX11_isRetro_18 ?_
  refine j_iaload C dX11_isRetro_19 (fun v5 ev5 => ?_)
  refine j_irem C dX11_isRetro_20 (fun v6 ev6 => ?_)
  refine j_aload_n C dX11_isRetro_21 (i := 0) rfl rfl ?_
  refine j_getR C g_X11_3 dX11_isRetro_22 (fun v7 ev7 => ?_)
  refine j_getR C g_X11_51 dX11_isRetro_25 (fun v8 ev8 => ?_)
  refine j_getR C g_X11_55 dX11_isRetro_28 (fun v9 ev9 => ?_)
  refine j_iconst C (v := 5) dX11_isRetro_31 (by decide) ?_
  refine j_iload_n C dX11_isRetro_32 (i := 1) rfl rfl ?_
  refine j_imul C dX11_isRetro_33 ?_
  refine j_iconst C (v := 3) dX11_isRetro_34 (by decide) ?_
  refine j_iadd C dX11_isRetro_35 ?_
  refine j_iaload C dX11_isRetro_36 (fun v10 ev10 => ?_)
  refine j_icmpge C (tgt := 44) dX11_isRetro_37 (by decide) (fun q11 => ?_) (fun q11 => ?_)
  · refine j_iconst C (v := 0) dX11_isRetro_44 (by decide) ?_
    exact e_iretR C hQ hr rfl hlk dX11_isRetro_45 (Nat.le_of_ble_eq_true rfl) (Nat.le_of_ble_eq_true rfl)
  · refine j_iconst C (v := 1) dX11_isRetro_40 (by decide) ?_
    refine j_goto C (tgt := 45) dX11_isRetro_41 (by decide) ?_
    exact e_iretR C hQ hr rfl hlk dX11_isRetro_45 (Nat.le_of_ble_eq_true rfl) (Nat.le_of_ble_eq_true rfl)
def f_St_set (a0 : Nat) (x1 : Int32) (x2 : Int32) (h : hp_M) : Option (hp_M) := (gR h a0 10 1).bind fun v1 => (paI h v1 x1 x2).bind fun h2 => (gR h2 a0 10 2).bind fun v3 => (paI h2 v3 x1 x2).bind fun h4 => some h4
set_option maxRecDepth 100000 in
set_option maxHeartbeats 4000000 in
theorem c_St_set (l : Launch) (w : hp_W) (a0 : Nat) (x1 : Int32) (x2 : Int32) (h : hp_M) (out : hp_M) (hX : f_St_set a0 x1 x2 h = some out) : CT l w yX11_set cX11_set 3 none ({ frames := 0, cells := 0, slots := 0, locals := 0 }) [.ref a0, .int x1, .int x2] h none out := by
  unfold f_St_set at hX
  refine ct_of (by decide +kernel) (Nat.le_of_ble_eq_true rfl) hX ?_
  intro p e s m args below meth c Q C hr hlk hnm hQ
  refine j_aload_n C dX11_set_0 (i := 0) rfl rfl ?_
  refine j_getR C g_X11_15 dX11_set_1 (fun v1 ev1 => ?_)
  refine j_iload_n C dX11_set_4 (i := 1) rfl rfl ?_
  refine j_iload_n C dX11_set_5 (i := 2) rfl rfl ?_
  refine j_iastore C dX11_set_6 (fun h2 eh2 => ?_)
  refine j_aload_n C dX11_set_7 (i := 0) rfl rfl ?_
  refine j_getR C g_X11_19 dX11_set_8 (fun v3 ev3 => ?_)
  refine j_iload_n C dX11_set_11 (i := 1) rfl rfl ?_
  refine j_iload_n C dX11_set_12 (i := 2) rfl rfl ?_
  refine j_iastore C dX11_set_13 (fun h4 eh4 => ?_)
  exact e_vretM C hQ hr hlk dX11_set_14 (Nat.le_of_ble_eq_true rfl) (Nat.le_of_ble_eq_true rfl)
def f_St_laps_b4 (fl : Nat) (a0 : Nat) (h : hp_M) : Nat → Int32 → Int32 → Option (Int32)
  | 0, _, _ => none
  | n + 1, x1, x2 => (gR h a0 10 8).bind fun v1001 => (gR h v1001 12 11).bind fun v1002 => (gI h v1002 11 0).bind fun v1003 => if v1003 ≤ x2 then (some x1) else ((gR h a0 10 3).bind fun v1005 => (gaI h v1005 x2).bind fun v1006 => f_St_laps_b4 fl a0 h n (x1 + v1006) (x2 + 1))
def f_St_laps (fl : Nat) (a0 : Nat) (h : hp_M) : Option (Int32) := f_St_laps_b4 fl a0 h fl 0 0
set_option maxRecDepth 100000 in
set_option maxHeartbeats 4000000 in
theorem b_St_laps_4 {p : Program} {l : Launch} {e : Env} {s : State} {m : MethodId} {args : Array Value} {below : List Frame} {meth : Method} {c : Code} {Q : State → Prop} {w : hp_W} {out : Int32} (fl : Nat)   (a0 : Nat) (h : hp_M) (C : Cx p m c cX11_laps 3 s args RX11 w) (hr : meth.sig.returnType = some .int) (hlk : meth.locks = false) (hnm : meth.name = "laps") (hQ : QM below w args s ({ frames := 0, cells := 0, slots := 0, locals := 0 }) (some .int) (some (.int out)) h = Q)  : ∀ (n : Nat) (x1 : Int32) (x2 : Int32), J p l e ({ frames := 0, cells := 0, slots := 0, locals := 0 }) s m args below meth c Q w 3 0 0 4 [(0, .ref a0), (1, .int x1), (2, .int x2)] [] h (f_St_laps_b4 fl a0 h n x1 x2) out := by
  intro n
  induction n with
  | zero => intro x1 x2; exact j_none
  | succ n ih =>
    intro x1 x2
    rw [f_St_laps_b4]
    refine j_iload_n C dX11_laps_4 (i := 2) rfl rfl ?_
    refine j_aload_n C dX11_laps_5 (i := 0) rfl rfl ?_
    refine j_getR C g_X11_3 dX11_laps_6 (fun v1001 ev1001 => ?_)
    refine j_getR C g_X11_51 dX11_laps_9 (fun v1002 ev1002 => ?_)
    refine j_getI C g_X11_70 dX11_laps_12 (fun v1003 ev1003 => ?_)
    refine j_icmpge C (tgt := 33) dX11_laps_15 (by decide) (fun q1004 => ?_) (fun q1004 => ?_)
    · refine j_iload_n C dX11_laps_33 (i := 1) rfl rfl ?_
      exact e_iretR C hQ hr rfl hlk dX11_laps_34 (Nat.le_of_ble_eq_true rfl) (Nat.le_of_ble_eq_true rfl)
    · refine j_iload_n C dX11_laps_18 (i := 1) rfl rfl ?_
      refine j_aload_n C dX11_laps_19 (i := 0) rfl rfl ?_
      refine j_getR C g_X11_22 dX11_laps_20 (fun v1005 ev1005 => ?_)
      refine j_iload_n C dX11_laps_23 (i := 2) rfl rfl ?_
      refine j_iaload C dX11_laps_24 (fun v1006 ev1006 => ?_)
      refine j_iadd C dX11_laps_25 ?_
      refine j_istore_n C [(1, _), (0, _), (2, _)] dX11_laps_26 (i := 1) rfl (by decide) rfl ?_
      refine j_iinc C (v := x2 + 1) [(2, _), (1, _), (0, _)] dX11_laps_27 rfl rfl (by decide) rfl ?_
      refine j_goto C (tgt := 4) dX11_laps_30 (by decide) ?_
      exact j_sub [2, 1, 0] rfl (ih _ _)
set_option maxRecDepth 100000 in
set_option maxHeartbeats 4000000 in
theorem c_St_laps (l : Launch) (w : hp_W) (fl : Nat) (a0 : Nat) (h : hp_M) (out : Int32) (hX : f_St_laps fl a0 h = some out) : CT l w yX11_laps cX11_laps 3 (some .int) ({ frames := 0, cells := 0, slots := 0, locals := 0 }) [.ref a0] h (some (.int out)) h := by
  unfold f_St_laps at hX
  refine ct_of (by decide +kernel) (Nat.le_of_ble_eq_true rfl) hX ?_
  intro p e s m args below meth c Q C hr hlk hnm hQ
  refine j_iconst C (v := 0) dX11_laps_0 (by decide) ?_
  refine j_istore_n C [(1, _), (0, _)] dX11_laps_1 (i := 1) rfl (by decide) rfl ?_
  refine j_iconst C (v := 0) dX11_laps_2 (by decide) ?_
  refine j_istore_n C [(2, _), (1, _), (0, _)] dX11_laps_3 (i := 2) rfl (by decide) rfl ?_
  refine j_sub [2, 1, 0] rfl (b_St_laps_4 fl  _ _ C hr hlk hnm hQ  _ _ _)
def f_St_move_b12 (fl : Nat) (a0 : Nat) : Nat → Int32 → hp_M → Option (hp_M)
  | 0, _, _ => none
  | n + 1, x1, h => (gR h a0 10 8).bind fun v1003 => (gR h v1003 12 11).bind fun v1004 => (gI h v1004 11 0).bind fun v1005 => if v1005 ≤ x1 then (some h) else (jn (fun (u1019 : Int32) (u1020 : Int32) (h1021 : hp_M) => jn (fun (u1025 : Int32) (u1026 : Int32) (u1027 : Int32) (u1028 : Int32) (u1029 : Nat) => (paI h1021 u1029 u1028 (u1027 + u1026)).bind fun h1030 => (gR h1030 a0 10 1).bind fun v1031 => (remI (u1025 + 360) 360).bind fun v1032 => (paI h1030 v1031 x1 v1032).bind fun h1033 => f_St_move_b12 fl a0 n (x1 + 1) h1033) fun (j1024 : Int32 → Int32 → Int32 → Int32 → Nat → Option (hp_M)) => (gR h1021 a0 10 3).bind fun v1034 => (gaI h1021 v1034 x1).bind fun v1035 => if 0 ≤ (u1020 + u1019) then (if (u1020 + u1019) ≤ 359 then (j1024 (u1020 + u1019) 0 v1035 x1 v1034) else (j1024 (u1020 + u1019) 1 v1035 x1 v1034)) else (j1024 (u1020 + u1019) (-1) v1035 x1 v1034)) fun (j1018 : Int32 → Int32 → hp_M → Option (hp_M)) => (gR h a0 10 2).bind fun v1038 => (gR h a0 10 1).bind fun v1039 => (gaI h v1039 x1).bind fun v1040 => (paI h v1038 x1 v1040).bind fun h1041 => (gR h1041 a0 10 1).bind fun v1042 => (gaI h1041 v1042 x1).bind fun v1043 => (onO h1041 a0 10 (f_St_isRetro a0 x1 h1041)).bind fun r1044 => if r1044 = 0 then ((gR h1041 a0 10 8).bind fun v1046 => (gR h1041 v1046 12 11).bind fun v1047 => (gR h1041 v1047 11 1).bind fun v1048 => (gaI h1041 v1048 ((5 * x1) + 1)).bind fun v1049 => j1018 v1049 v1043 h1041) else ((gR h1041 a0 10 8).bind fun v1050 => (gR h1041 v1050 12 11).bind fun v1051 => (gR h1041 v1051 11 1).bind fun v1052 => (gaI h1041 v1052 ((5 * x1) + 1)).bind fun v1053 => j1018 (-v1053) v1043 h1041))
def f_St_move (fl : Nat) (a0 : Nat) (h : hp_M) : Option (hp_M) := (gI h a0 10 0).bind fun v1 => (pF h a0 10 0 (.int (v1 + 1))).bind fun h2 => f_St_move_b12 fl a0 fl 0 h2
set_option maxRecDepth 100000 in
set_option maxHeartbeats 4000000 in
theorem b_St_move_12 {p : Program} {l : Launch} {e : Env} {s : State} {m : MethodId} {args : Array Value} {below : List Frame} {meth : Method} {c : Code} {Q : State → Prop} {w : hp_W} {out : hp_M} (fl : Nat)   (a0 : Nat) (C : Cx p m c cX11_move 3 s args RX11 w) (hr : meth.sig.returnType = none) (hlk : meth.locks = false) (hnm : meth.name = "move") (hQ : QM below w args s ({ frames := 1, cells := 0, slots := 0, locals := 21 }) none none out = Q)  : ∀ (n : Nat) (x1 : Int32) (h : hp_M), J p l e ({ frames := 1, cells := 0, slots := 0, locals := 21 }) s m args below meth c Q w 3 0 0 12 [(0, .ref a0), (1, .int x1)] [] h (f_St_move_b12 fl a0 n x1 h) out := by
  intro n
  induction n with
  | zero => intro x1 h; exact j_none
  | succ n ih =>
    intro x1 h
    rw [f_St_move_b12]
    refine j_iload_n C dX11_move_12 (i := 1) rfl rfl ?_
    refine j_aload_n C dX11_move_13 (i := 0) rfl rfl ?_
    refine j_getR C g_X11_3 dX11_move_14 (fun v1003 ev1003 => ?_)
    refine j_getR C g_X11_51 dX11_move_17 (fun v1004 ev1004 => ?_)
    refine j_getI C g_X11_70 dX11_move_20 (fun v1005 ev1005 => ?_)
    refine j_icmpge C (tgt := 140) dX11_move_23 (by decide) (fun q1006 => ?_) (fun q1006 => ?_)
    · exact e_vretM C hQ hr hlk dX11_move_140 (Nat.le_of_ble_eq_true rfl) (Nat.le_of_ble_eq_true rfl)
    · refine j_jn (P := fun (j1018 : Int32 → Int32 → hp_M → Option (hp_M)) => ∀ (u1019 : Int32) (u1020 : Int32) (h1021 : hp_M), J p l e ({ frames := 1, cells := 0, slots := 0, locals := 21 }) s m args below meth c Q w 3 0 0 88 [(0, .ref a0), (1, .int x1)] [.int u1019, .int u1020] h1021 (j1018 u1019 u1020 h1021) out) ?_ (fun j1018 hj1018 => ?_)
      · intro u1019 u1020 h1021
        refine j_jn (P := fun (j1024 : Int32 → Int32 → Int32 → Int32 → Nat → Option (hp_M)) => ∀ (u1025 : Int32) (u1026 : Int32) (u1027 : Int32) (u1028 : Int32) (u1029 : Nat), J p l e ({ frames := 1, cells := 0, slots := 0, locals := 21 }) s m args below meth c Q w 3 0 0 117 [(0, .ref a0), (1, .int x1), (2, .int u1025)] [.int u1026, .int u1027, .int u1028, .ref u1029] h1021 (j1024 u1025 u1026 u1027 u1028 u1029) out) ?_ (fun j1024 hj1024 => ?_)
        · intro u1025 u1026 u1027 u1028 u1029
          refine j_iadd C dX11_move_117 ?_
          refine j_iastore C dX11_move_118 (fun h1030 eh1030 => ?_)
          refine j_aload_n C dX11_move_119 (i := 0) rfl rfl ?_
          refine j_getR C g_X11_15 dX11_move_120 (fun v1031 ev1031 => ?_)
          refine j_iload_n C dX11_move_123 (i := 1) rfl rfl ?_
          refine j_iload_n C dX11_move_124 (i := 2) rfl rfl ?_
          refine j_sipush C (v := 360) dX11_move_125 (by decide) ?_
          refine j_iadd C dX11_move_128 ?_
          refine j_sipush C (v := 360) dX11_move_129 (by decide) ?_
          refine j_irem C dX11_move_132 (fun v1032 ev1032 => ?_)
          refine j_iastore C dX11_move_133 (fun h1033 eh1033 => ?_)
          refine j_iinc C (v := x1 + 1) [(1, _), (0, _), (2, _)] dX11_move_134 rfl rfl (by decide) rfl ?_
          refine j_goto C (tgt := 12) dX11_move_137 (by decide) ?_
          exact j_sub [1, 0] rfl (ih _ _)
        · refine j_iadd C dX11_move_88 ?_
          refine j_istore_n C [(2, _), (0, _), (1, _)] dX11_move_89 (i := 2) rfl (by decide) rfl ?_
          refine j_aload_n C dX11_move_90 (i := 0) rfl rfl ?_
          refine j_getR C g_X11_22 dX11_move_91 (fun v1034 ev1034 => ?_)
          refine j_iload_n C dX11_move_94 (i := 1) rfl rfl ?_
          refine j_dup2 C dX11_move_95 rfl rfl ?_
          refine j_iaload C dX11_move_96 (fun v1035 ev1035 => ?_)
          refine j_iload_n C dX11_move_97 (i := 2) rfl rfl ?_
          refine j_ifge C (tgt := 105) dX11_move_98 (by decide) (fun q1036 => ?_) (fun q1036 => ?_)
          · refine j_iload_n C dX11_move_105 (i := 2) rfl rfl ?_
            refine j_sipush C (v := 359) dX11_move_106 (by decide) ?_
            refine j_icmple C (tgt := 116) dX11_move_109 (by decide) (fun q1037 => ?_) (fun q1037 => ?_)
            · refine j_iconst C (v := 0) dX11_move_116 (by decide) ?_
              exact j_sub [1, 2, 0] rfl (hj1024 _ _ _ _ _)
            · refine j_iconst C (v := 1) dX11_move_112 (by decide) ?_
              refine j_goto C (tgt := 117) dX11_move_113 (by decide) ?_
              exact j_sub [1, 2, 0] rfl (hj1024 _ _ _ _ _)
          · refine j_iconst C (v := -1) dX11_move_101 (by decide) ?_
            refine j_goto C (tgt := 117) dX11_move_102 (by decide) ?_
            exact j_sub [1, 2, 0] rfl (hj1024 _ _ _ _ _)
      · refine j_aload_n C dX11_move_26 (i := 0) rfl rfl ?_
        refine j_getR C g_X11_19 dX11_move_27 (fun v1038 ev1038 => ?_)
        refine j_iload_n C dX11_move_30 (i := 1) rfl rfl ?_
        refine j_aload_n C dX11_move_31 (i := 0) rfl rfl ?_
        refine j_getR C g_X11_15 dX11_move_32 (fun v1039 ev1039 => ?_)
        refine j_iload_n C dX11_move_35 (i := 1) rfl rfl ?_
        refine j_iaload C dX11_move_36 (fun v1040 ev1040 => ?_)
        refine j_iastore C dX11_move_37 (fun h1041 eh1041 => ?_)
        refine j_aload_n C dX11_move_38 (i := 0) rfl rfl ?_
        refine j_getR C g_X11_15 dX11_move_39 (fun v1042 ev1042 => ?_)
        refine j_iload_n C dX11_move_42 (i := 1) rfl rfl ?_
        refine j_iaload C dX11_move_43 (fun v1043 ev1043 => ?_)
        refine j_aload_n C dX11_move_44 (i := 0) rfl rfl ?_
        refine j_iload_n C dX11_move_45 (i := 1) rfl rfl ?_
        refine j_callVi C (As := [.int _]) (rest := [_]) k_X11_77 ⟨Nat.le_of_ble_eq_true rfl, Nat.le_of_ble_eq_true rfl⟩ rfl (Nat.le_of_ble_eq_true rfl) ⟨Nat.le_of_ble_eq_true rfl, Nat.le_of_ble_eq_true rfl⟩ rfl dX11_move_46 (fun r0 q0 => c_St_isRetro l w _ _ _ _ q0) (fun r1044 er1044 nr1044 => ?_)
        refine j_ifeq C (tgt := 72) dX11_move_49 (by decide) (fun q1045 => ?_) (fun q1045 => ?_)
        · refine j_aload_n C dX11_move_72 (i := 0) rfl rfl ?_
          refine j_getR C g_X11_3 dX11_move_73 (fun v1046 ev1046 => ?_)
          refine j_getR C g_X11_51 dX11_move_76 (fun v1047 ev1047 => ?_)
          refine j_getR C g_X11_55 dX11_move_79 (fun v1048 ev1048 => ?_)
          refine j_iconst C (v := 5) dX11_move_82 (by decide) ?_
          refine j_iload_n C dX11_move_83 (i := 1) rfl rfl ?_
          refine j_imul C dX11_move_84 ?_
          refine j_iconst C (v := 1) dX11_move_85 (by decide) ?_
          refine j_iadd C dX11_move_86 ?_
          refine j_iaload C dX11_move_87 (fun v1049 ev1049 => ?_)
          exact hj1018 _ _ _
        · refine j_aload_n C dX11_move_52 (i := 0) rfl rfl ?_
          refine j_getR C g_X11_3 dX11_move_53 (fun v1050 ev1050 => ?_)
          refine j_getR C g_X11_51 dX11_move_56 (fun v1051 ev1051 => ?_)
          refine j_getR C g_X11_55 dX11_move_59 (fun v1052 ev1052 => ?_)
          refine j_iconst C (v := 5) dX11_move_62 (by decide) ?_
          refine j_iload_n C dX11_move_63 (i := 1) rfl rfl ?_
          refine j_imul C dX11_move_64 ?_
          refine j_iconst C (v := 1) dX11_move_65 (by decide) ?_
          refine j_iadd C dX11_move_66 ?_
          refine j_iaload C dX11_move_67 (fun v1053 ev1053 => ?_)
          refine j_ineg C dX11_move_68 ?_
          refine j_goto C (tgt := 88) dX11_move_69 (by decide) ?_
          exact hj1018 _ _ _
set_option maxRecDepth 100000 in
set_option maxHeartbeats 4000000 in
theorem c_St_move (l : Launch) (w : hp_W) (fl : Nat) (a0 : Nat) (h : hp_M) (out : hp_M) (hX : f_St_move fl a0 h = some out) : CT l w yX11_move cX11_move 3 none ({ frames := 1, cells := 0, slots := 0, locals := 21 }) [.ref a0] h none out := by
  unfold f_St_move at hX
  refine ct_of (by decide +kernel) (Nat.le_of_ble_eq_true rfl) hX ?_
  intro p e s m args below meth c Q C hr hlk hnm hQ
  refine j_aload_n C dX11_move_0 (i := 0) rfl rfl ?_
  refine j_dup C dX11_move_1 rfl ?_
  refine j_getI C g_X11_40 dX11_move_2 (fun v1 ev1 => ?_)
  refine j_iconst C (v := 1) dX11_move_5 (by decide) ?_
  refine j_iadd C dX11_move_6 ?_
  refine j_putI C p_X11_40 (fun q => nomatch q) dX11_move_7 (fun h2 eh2 => ?_)
  refine j_iconst C (v := 0) dX11_move_10 (by decide) ?_
  refine j_istore_n C [(1, _), (0, _)] dX11_move_11 (i := 1) rfl (by decide) rfl ?_
  refine j_sub [1, 0] rfl (b_St_move_12 fl  _ C hr hlk hnm hQ  _ _ _)
def f_St_find_b32 (fl : Nat) (a0 : Nat) (x2 : Int32) (h : hp_M) (k69 : Int32 → Option (Int32)) : Nat → Int32 → Option (Int32)
  | 0, _ => none
  | n + 1, x3 => (gR h a0 10 8).bind fun v2015 => (gI h v2015 12 2).bind fun v2016 => if v2016 ≤ x3 then (k69 x3) else ((gR h a0 10 5).bind fun v2018 => (gaI h v2018 (x2 + x3)).bind fun v2019 => (gR h a0 10 8).bind fun v2020 => (gR h v2020 12 1).bind fun v2021 => (gaI h v2021 x3).bind fun v2022 => if v2019 = v2022 then (f_St_find_b32 fl a0 x2 h k69 n (x3 + 1)) else (k69 x3))
def f_St_find_b14 (fl : Nat) (a0 : Nat) (h : hp_M) : Nat → Int32 → Option (Int32)
  | 0, _ => none
  | n + 1, x2 => (gR h a0 10 8).bind fun v1004 => (gI h v1004 12 2).bind fun v1005 => (gI h a0 10 6).bind fun v1006 => if v1006 < (x2 + v1005) then (some (-1)) else (f_St_find_b32 fl a0 x2 h (fun (u1008 : Int32) => (gR h a0 10 8).bind fun v1009 => (gI h v1009 12 2).bind fun v1010 => if u1008 = v1010 then (some x2) else (f_St_find_b14 fl a0 h n (x2 + 1))) fl 0)
def f_St_find (fl : Nat) (a0 : Nat) (x1 : Int32) (h : hp_M) : Option (Int32) := (gR h a0 10 8).bind fun v1 => (gI h v1 12 2).bind fun v2 => if v2 = 0 then (some (-1)) else (f_St_find_b14 fl a0 h fl x1)
set_option maxRecDepth 100000 in
set_option maxHeartbeats 4000000 in
theorem b_St_find_32 {p : Program} {l : Launch} {e : Env} {s : State} {m : MethodId} {args : Array Value} {below : List Frame} {meth : Method} {c : Code} {Q : State → Prop} {w : hp_W} {out : Int32} (fl : Nat)   (a0 : Nat) (x2 : Int32) (h : hp_M) (k69 : Int32 → Option (Int32)) (C : Cx p m c cX11_find 4 s args RX11 w) (hr : meth.sig.returnType = some .int) (hlk : meth.locks = false) (hnm : meth.name = "find") (hQ : QM below w args s ({ frames := 0, cells := 0, slots := 0, locals := 0 }) (some .int) (some (.int out)) h = Q) (hk69 : ∀ (z3 : Int32), J p l e ({ frames := 0, cells := 0, slots := 0, locals := 0 }) s m args below meth c Q w 4 0 0 69 [(0, .ref a0), (2, .int x2), (3, .int z3)] [] h (k69 z3) out) : ∀ (n : Nat) (x3 : Int32), J p l e ({ frames := 0, cells := 0, slots := 0, locals := 0 }) s m args below meth c Q w 4 0 0 32 [(0, .ref a0), (2, .int x2), (3, .int x3)] [] h (f_St_find_b32 fl a0 x2 h k69 n x3) out := by
  intro n
  induction n with
  | zero => intro x3; exact j_none
  | succ n ih =>
    intro x3
    rw [f_St_find_b32]
    refine j_iload_n C dX11_find_32 (i := 3) rfl rfl ?_
    refine j_aload_n C dX11_find_33 (i := 0) rfl rfl ?_
    refine j_getR C g_X11_3 dX11_find_34 (fun v2015 ev2015 => ?_)
    refine j_getI C g_X11_121 dX11_find_37 (fun v2016 ev2016 => ?_)
    refine j_icmpge C (tgt := 69) dX11_find_40 (by decide) (fun q2017 => ?_) (fun q2017 => ?_)
    · exact hk69 _
    · refine j_aload_n C dX11_find_43 (i := 0) rfl rfl ?_
      refine j_getR C g_X11_28 dX11_find_44 (fun v2018 ev2018 => ?_)
      refine j_iload_n C dX11_find_47 (i := 2) rfl rfl ?_
      refine j_iload_n C dX11_find_48 (i := 3) rfl rfl ?_
      refine j_iadd C dX11_find_49 ?_
      refine j_iaload C dX11_find_50 (fun v2019 ev2019 => ?_)
      refine j_aload_n C dX11_find_51 (i := 0) rfl rfl ?_
      refine j_getR C g_X11_3 dX11_find_52 (fun v2020 ev2020 => ?_)
      refine j_getR C g_X11_124 dX11_find_55 (fun v2021 ev2021 => ?_)
      refine j_iload_n C dX11_find_58 (i := 3) rfl rfl ?_
      refine j_iaload C dX11_find_59 (fun v2022 ev2022 => ?_)
      refine j_icmpne C (tgt := 69) dX11_find_60 (by decide) (fun q2023 => ?_) (fun q2023 => ?_)
      · refine j_iinc C (v := x3 + 1) [(3, _), (0, _), (2, _)] dX11_find_63 rfl rfl (by decide) rfl ?_
        refine j_goto C (tgt := 32) dX11_find_66 (by decide) ?_
        exact j_sub [1, 2, 0] rfl (ih _)
      · exact hk69 _
set_option maxRecDepth 100000 in
set_option maxHeartbeats 4000000 in
theorem b_St_find_14 {p : Program} {l : Launch} {e : Env} {s : State} {m : MethodId} {args : Array Value} {below : List Frame} {meth : Method} {c : Code} {Q : State → Prop} {w : hp_W} {out : Int32} (fl : Nat)   (a0 : Nat) (h : hp_M) (C : Cx p m c cX11_find 4 s args RX11 w) (hr : meth.sig.returnType = some .int) (hlk : meth.locks = false) (hnm : meth.name = "find") (hQ : QM below w args s ({ frames := 0, cells := 0, slots := 0, locals := 0 }) (some .int) (some (.int out)) h = Q)  : ∀ (n : Nat) (x2 : Int32), J p l e ({ frames := 0, cells := 0, slots := 0, locals := 0 }) s m args below meth c Q w 4 0 0 14 [(0, .ref a0), (2, .int x2)] [] h (f_St_find_b14 fl a0 h n x2) out := by
  intro n
  induction n with
  | zero => intro x2; exact j_none
  | succ n ih =>
    intro x2
    rw [f_St_find_b14]
    refine j_iload_n C dX11_find_14 (i := 2) rfl rfl ?_
    refine j_aload_n C dX11_find_15 (i := 0) rfl rfl ?_
    refine j_getR C g_X11_3 dX11_find_16 (fun v1004 ev1004 => ?_)
    refine j_getI C g_X11_121 dX11_find_19 (fun v1005 ev1005 => ?_)
    refine j_iadd C dX11_find_22 ?_
    refine j_aload_n C dX11_find_23 (i := 0) rfl rfl ?_
    refine j_getI C g_X11_44 dX11_find_24 (fun v1006 ev1006 => ?_)
    refine j_icmpgt C (tgt := 88) dX11_find_27 (by decide) (fun q1007 => ?_) (fun q1007 => ?_)
    · refine j_iconst C (v := -1) dX11_find_88 (by decide) ?_
      exact e_iretR C hQ hr rfl hlk dX11_find_89 (Nat.le_of_ble_eq_true rfl) (Nat.le_of_ble_eq_true rfl)
    · refine j_iconst C (v := 0) dX11_find_30 (by decide) ?_
      refine j_istore_n C [(3, _), (0, _), (2, _)] dX11_find_31 (i := 3) rfl (by decide) rfl ?_
      refine j_sub [1, 2, 0] rfl (b_St_find_32 fl  _ _ _ _ C hr hlk hnm hQ (fun u1008 => ?_) _ _)
      refine j_iload_n C dX11_find_69 (i := 3) rfl rfl ?_
      refine j_aload_n C dX11_find_70 (i := 0) rfl rfl ?_
      refine j_getR C g_X11_3 dX11_find_71 (fun v1009 ev1009 => ?_)
      refine j_getI C g_X11_121 dX11_find_74 (fun v1010 ev1010 => ?_)
      refine j_icmpne C (tgt := 82) dX11_find_77 (by decide) (fun q1011 => ?_) (fun q1011 => ?_)
      · refine j_iload_n C dX11_find_80 (i := 2) rfl rfl ?_
        exact e_iretR C hQ hr rfl hlk dX11_find_81 (Nat.le_of_ble_eq_true rfl) (Nat.le_of_ble_eq_true rfl)
      · refine j_iinc C (v := x2 + 1) [(2, _), (0, _), (3, _)] dX11_find_82 rfl rfl (by decide) rfl ?_
        refine j_goto C (tgt := 14) dX11_find_85 (by decide) ?_
        exact j_sub [1, 0] rfl (ih _)
set_option maxRecDepth 100000 in
set_option maxHeartbeats 4000000 in
theorem c_St_find (l : Launch) (w : hp_W) (fl : Nat) (a0 : Nat) (x1 : Int32) (h : hp_M) (out : Int32) (hX : f_St_find fl a0 x1 h = some out) : CT l w yX11_find cX11_find 4 (some .int) ({ frames := 0, cells := 0, slots := 0, locals := 0 }) [.ref a0, .int x1] h (some (.int out)) h := by
  unfold f_St_find at hX
  refine ct_of (by decide +kernel) (Nat.le_of_ble_eq_true rfl) hX ?_
  intro p e s m args below meth c Q C hr hlk hnm hQ
  refine j_aload_n C dX11_find_0 (i := 0) rfl rfl ?_
  refine j_getR C g_X11_3 dX11_find_1 (fun v1 ev1 => ?_)
  refine j_getI C g_X11_121 dX11_find_4 (fun v2 ev2 => ?_)
  refine j_ifne C (tgt := 12) dX11_find_7 (by decide) (fun q3 => ?_) (fun q3 => ?_)
  · refine j_iconst C (v := -1) dX11_find_10 (by decide) ?_
    exact e_iretR C hQ hr rfl hlk dX11_find_11 (Nat.le_of_ble_eq_true rfl) (Nat.le_of_ble_eq_true rfl)
  · refine j_iload_n C dX11_find_12 (i := 1) rfl rfl ?_
    refine j_istore_n C [(2, _), (0, _), (1, _)] dX11_find_13 (i := 2) rfl (by decide) rfl ?_
    refine j_sub [1, 0] rfl (b_St_find_14 fl  _ _ C hr hlk hnm hQ  _ _)
def f_To_init (a0 : Nat) (h : hp_M) : Option (hp_M) := (pF (hN h (aI 40 (fun _ => 0))) a0 11 1 (.ref h.2)).bind fun h1 => (pF (hN h1 (aI 6 (fun _ => 0))) a0 11 3 (.ref h1.2)).bind fun h2 => (pF (hN h2 (aI 72 (fun _ => 0))) a0 11 4 (.ref h2.2)).bind fun h3 => (pF (hN h3 (aI 13 (fun _ => 0))) a0 11 6 (.ref h3.2)).bind fun h4 => (pF (hN h4 (aI 13 (fun _ => 0))) a0 11 7 (.ref h4.2)).bind fun h5 => (pF (hN h5 (aI 13 (fun _ => 0))) a0 11 8 (.ref h5.2)).bind fun h6 => (pF (hN h6 (aI 1200 (fun _ => 0))) a0 11 9 (.ref h6.2)).bind fun h7 => (pF (hN h7 (aI 400 (fun _ => 0))) a0 11 11 (.ref h7.2)).bind fun h8 => some h8
set_option maxRecDepth 100000 in
set_option maxHeartbeats 4000000 in
theorem c_To_init (l : Launch) (w : hp_W) (a0 : Nat) (h : hp_M) (out : hp_M) (hX : f_To_init a0 h = some out) : CT l w yX12_init cX12_init 1 none ({ frames := 1, cells := 8, slots := 1757, locals := 32 }) [.ref a0] h none out := by
  unfold f_To_init at hX
  refine ct_of (by decide +kernel) (Nat.le_of_ble_eq_true rfl) hX ?_
  intro p e s m args below meth c Q C hr hlk hnm hQ
  refine j_aload_n C dX12_init_0 (i := 0) rfl rfl ?_
  refine j_objInit C k_X12_3 k_oi k_oc dX12_init_1 (Nat.le_of_ble_eq_true rfl) (Nat.le_of_ble_eq_true rfl) ?_
  refine j_aload_n C dX12_init_4 (i := 0) rfl rfl ?_
  refine j_bipush C (v := 40) dX12_init_5 (by decide) ?_
  refine j_newI C (N := 40) k_arr_int (by decide) (by decide) (Nat.le_of_ble_eq_true rfl) (Nat.le_of_ble_eq_true rfl) (Nat.le_of_ble_eq_true rfl) dX12_init_7 ?_
  refine j_putR C p_X12_9 (fun _ => hnm) dX12_init_9 rfl rfl (fun h1 eh1 => ?_)
  refine j_aload_n C dX12_init_12 (i := 0) rfl rfl ?_
  refine j_bipush C (v := 6) dX12_init_13 (by decide) ?_
  refine j_newI C (N := 6) k_arr_int (by decide) (by decide) (Nat.le_of_ble_eq_true rfl) (Nat.le_of_ble_eq_true rfl) (Nat.le_of_ble_eq_true rfl) dX12_init_15 ?_
  refine j_putR C p_X12_15 (fun _ => hnm) dX12_init_17 rfl rfl (fun h2 eh2 => ?_)
  refine j_aload_n C dX12_init_20 (i := 0) rfl rfl ?_
  refine j_bipush C (v := 72) dX12_init_21 (by decide) ?_
  refine j_newI C (N := 72) k_arr_int (by decide) (by decide) (Nat.le_of_ble_eq_true rfl) (Nat.le_of_ble_eq_true rfl) (Nat.le_of_ble_eq_true rfl) dX12_init_23 ?_
  refine j_putR C p_X12_18 (fun _ => hnm) dX12_init_25 rfl rfl (fun h3 eh3 => ?_)
  refine j_aload_n C dX12_init_28 (i := 0) rfl rfl ?_
  refine j_bipush C (v := 13) dX12_init_29 (by decide) ?_
  refine j_newI C (N := 13) k_arr_int (by decide) (by decide) (Nat.le_of_ble_eq_true rfl) (Nat.le_of_ble_eq_true rfl) (Nat.le_of_ble_eq_true rfl) dX12_init_31 ?_
  refine j_putR C p_X12_21 (fun _ => hnm) dX12_init_33 rfl rfl (fun h4 eh4 => ?_)
  refine j_aload_n C dX12_init_36 (i := 0) rfl rfl ?_
  refine j_bipush C (v := 13) dX12_init_37 (by decide) ?_
  refine j_newI C (N := 13) k_arr_int (by decide) (by decide) (Nat.le_of_ble_eq_true rfl) (Nat.le_of_ble_eq_true rfl) (Nat.le_of_ble_eq_true rfl) dX12_init_39 ?_
  refine j_putR C p_X12_24 (fun _ => hnm) dX12_init_41 rfl rfl (fun h5 eh5 => ?_)
  refine j_aload_n C dX12_init_44 (i := 0) rfl rfl ?_
  refine j_bipush C (v := 13) dX12_init_45 (by decide) ?_
  refine j_newI C (N := 13) k_arr_int (by decide) (by decide) (Nat.le_of_ble_eq_true rfl) (Nat.le_of_ble_eq_true rfl) (Nat.le_of_ble_eq_true rfl) dX12_init_47 ?_
  refine j_putR C p_X12_27 (fun _ => hnm) dX12_init_49 rfl rfl (fun h6 eh6 => ?_)
  refine j_aload_n C dX12_init_52 (i := 0) rfl rfl ?_
  refine j_sipush C (v := 1200) dX12_init_53 (by decide) ?_
  refine j_newI C (N := 1200) k_arr_int (by decide) (by decide) (Nat.le_of_ble_eq_true rfl) (Nat.le_of_ble_eq_true rfl) (Nat.le_of_ble_eq_true rfl) dX12_init_56 ?_
  refine j_putR C p_X12_30 (fun _ => hnm) dX12_init_58 rfl rfl (fun h7 eh7 => ?_)
  refine j_aload_n C dX12_init_61 (i := 0) rfl rfl ?_
  refine j_sipush C (v := 400) dX12_init_62 (by decide) ?_
  refine j_newI C (N := 400) k_arr_int (by decide) (by decide) (Nat.le_of_ble_eq_true rfl) (Nat.le_of_ble_eq_true rfl) (Nat.le_of_ble_eq_true rfl) dX12_init_65 ?_
  refine j_putR C p_X12_33 (fun _ => hnm) dX12_init_67 rfl rfl (fun h8 eh8 => ?_)
  exact e_vretM C hQ hr hlk dX12_init_70 (Nat.le_of_ble_eq_true rfl) (Nat.le_of_ble_eq_true rfl)
