def f_Al_init (a0 : Nat) (h : hp_M) : Option (hp_M) := (pF (hN h (aI 12 (fun _ => 0))) a0 0 0 (.ref h.2)).bind fun h1 => some h1
set_option maxRecDepth 100000 in
set_option maxHeartbeats 4000000 in
theorem c_Al_init (l : Launch) (w : hp_W) (a0 : Nat) (h : hp_M) (out : hp_M) (hX : f_Al_init a0 h = some out) : CT l w yX0_init cX0_init 1 none ({ frames := 1, cells := 1, slots := 12, locals := 32 }) [.ref a0] h none out := by
  unfold f_Al_init at hX
  refine ct_of (by decide +kernel) (Nat.le_of_ble_eq_true rfl) hX ?_
  intro p e s m args below meth c Q C hr hlk hnm hQ
  refine j_aload_n C dX0_init_0 (i := 0) rfl rfl ?_
  refine j_objInit C k_X0_1 k_oi k_oc dX0_init_1 (Nat.le_of_ble_eq_true rfl) (Nat.le_of_ble_eq_true rfl) ?_
  refine j_aload_n C dX0_init_4 (i := 0) rfl rfl ?_
  refine j_bipush C (v := 12) dX0_init_5 (by decide) ?_
  refine j_newI C (N := 12) k_arr_int (by decide) (by decide) (Nat.le_of_ble_eq_true rfl) (Nat.le_of_ble_eq_true rfl) (Nat.le_of_ble_eq_true rfl) dX0_init_7 ?_
  refine j_putR C p_X0_9 (fun _ => hnm) dX0_init_9 rfl rfl (fun h1 eh1 => ?_)
  exact e_vretM C hQ hr hlk dX0_init_12 (Nat.le_of_ble_eq_true rfl) (Nat.le_of_ble_eq_true rfl)
def f_Al_empty (a0 : Nat) (h : hp_M) : Option (hp_M) := (pF h a0 0 1 (.int 0)).bind fun h1 => some h1
set_option maxRecDepth 100000 in
set_option maxHeartbeats 4000000 in
theorem c_Al_empty (l : Launch) (w : hp_W) (a0 : Nat) (h : hp_M) (out : hp_M) (hX : f_Al_empty a0 h = some out) : CT l w yX0_empty cX0_empty 1 none ({ frames := 0, cells := 0, slots := 0, locals := 0 }) [.ref a0] h none out := by
  unfold f_Al_empty at hX
  refine ct_of (by decide +kernel) (Nat.le_of_ble_eq_true rfl) hX ?_
  intro p e s m args below meth c Q C hr hlk hnm hQ
  refine j_aload_n C dX0_empty_0 (i := 0) rfl rfl ?_
  refine j_iconst C (v := 0) dX0_empty_1 (by decide) ?_
  refine j_putI C p_X0_15 (fun q => nomatch q) dX0_empty_2 (fun h1 eh1 => ?_)
  exact e_vretM C hQ hr hlk dX0_empty_5 (Nat.le_of_ble_eq_true rfl) (Nat.le_of_ble_eq_true rfl)
def f_Al_size (a0 : Nat) (h : hp_M) : Option (Int32) := (gI h a0 0 1).bind fun v1 => some v1
set_option maxRecDepth 100000 in
set_option maxHeartbeats 4000000 in
theorem c_Al_size (l : Launch) (w : hp_W) (a0 : Nat) (h : hp_M) (out : Int32) (hX : f_Al_size a0 h = some out) : CT l w yX0_size cX0_size 1 (some .int) ({ frames := 0, cells := 0, slots := 0, locals := 0 }) [.ref a0] h (some (.int out)) h := by
  unfold f_Al_size at hX
  refine ct_of (by decide +kernel) (Nat.le_of_ble_eq_true rfl) hX ?_
  intro p e s m args below meth c Q C hr hlk hnm hQ
  refine j_aload_n C dX0_size_0 (i := 0) rfl rfl ?_
  refine j_getI C g_X0_15 dX0_size_1 (fun v1 ev1 => ?_)
  exact e_iretR C hQ hr rfl hlk dX0_size_4 (Nat.le_of_ble_eq_true rfl) (Nat.le_of_ble_eq_true rfl)
def f_Al_add (a0 : Nat) (x1 : Int32) (h : hp_M) : Option (hp_M) := (gI h a0 0 1).bind fun v1 => (gR h a0 0 0).bind fun v2 => (gLen h v2).bind fun v3 => if v3 ≤ v1 then (some h) else ((gR h a0 0 0).bind fun v5 => (gI h a0 0 1).bind fun v6 => (paI h v5 v6 x1).bind fun h7 => (gI h7 a0 0 1).bind fun v8 => (pF h7 a0 0 1 (.int (v8 + 1))).bind fun h9 => some h9)
set_option maxRecDepth 100000 in
set_option maxHeartbeats 4000000 in
theorem c_Al_add (l : Launch) (w : hp_W) (a0 : Nat) (x1 : Int32) (h : hp_M) (out : hp_M) (hX : f_Al_add a0 x1 h = some out) : CT l w yX0_add cX0_add 2 none ({ frames := 0, cells := 0, slots := 0, locals := 0 }) [.ref a0, .int x1] h none out := by
  unfold f_Al_add at hX
  refine ct_of (by decide +kernel) (Nat.le_of_ble_eq_true rfl) hX ?_
  intro p e s m args below meth c Q C hr hlk hnm hQ
  refine j_aload_n C dX0_add_0 (i := 0) rfl rfl ?_
  refine j_getI C g_X0_15 dX0_add_1 (fun v1 ev1 => ?_)
  refine j_aload_n C dX0_add_4 (i := 0) rfl rfl ?_
  refine j_getR C g_X0_9 dX0_add_5 (fun v2 ev2 => ?_)
  refine j_alen C dX0_add_8 (fun v3 ev3 => ?_)
  refine j_icmpge C (tgt := 32) dX0_add_9 (by decide) (fun q4 => ?_) (fun q4 => ?_)
  · exact e_vretM C hQ hr hlk dX0_add_32 (Nat.le_of_ble_eq_true rfl) (Nat.le_of_ble_eq_true rfl)
  · refine j_aload_n C dX0_add_12 (i := 0) rfl rfl ?_
    refine j_getR C g_X0_9 dX0_add_13 (fun v5 ev5 => ?_)
    refine j_aload_n C dX0_add_16 (i := 0) rfl rfl ?_
    refine j_getI C g_X0_15 dX0_add_17 (fun v6 ev6 => ?_)
    refine j_iload_n C dX0_add_20 (i := 1) rfl rfl ?_
    refine j_iastore C dX0_add_21 (fun h7 eh7 => ?_)
    refine j_aload_n C dX0_add_22 (i := 0) rfl rfl ?_
    refine j_dup C dX0_add_23 rfl ?_
    refine j_getI C g_X0_15 dX0_add_24 (fun v8 ev8 => ?_)
    refine j_iconst C (v := 1) dX0_add_27 (by decide) ?_
    refine j_iadd C dX0_add_28 ?_
    refine j_putI C p_X0_15 (fun q => nomatch q) dX0_add_29 (fun h9 eh9 => ?_)
    exact e_vretM C hQ hr hlk dX0_add_32 (Nat.le_of_ble_eq_true rfl) (Nat.le_of_ble_eq_true rfl)
def f_Al_at (a0 : Nat) (x1 : Int32) (h : hp_M) : Option (Int32) := jn (some 0) fun (j4 : Option (Int32)) => if x1 < 0 then (j4) else ((gI h a0 0 1).bind fun v6 => if v6 ≤ x1 then (j4) else ((gR h a0 0 0).bind fun v8 => (gaI h v8 x1).bind fun v9 => some v9))
set_option maxRecDepth 100000 in
set_option maxHeartbeats 4000000 in
theorem c_Al_at (l : Launch) (w : hp_W) (a0 : Nat) (x1 : Int32) (h : hp_M) (out : Int32) (hX : f_Al_at a0 x1 h = some out) : CT l w yX0_at cX0_at 2 (some .int) ({ frames := 0, cells := 0, slots := 0, locals := 0 }) [.ref a0, .int x1] h (some (.int out)) h := by
  unfold f_Al_at at hX
  refine ct_of (by decide +kernel) (Nat.le_of_ble_eq_true rfl) hX ?_
  intro p e s m args below meth c Q C hr hlk hnm hQ
  refine j_jn (P := fun j4 => J p l e ({ frames := 0, cells := 0, slots := 0, locals := 0 }) s m args below meth c Q w 2 0 0 21 [] [] h (j4) out) ?_ (fun j4 hj4 => ?_)
  · refine j_iconst C (v := 0) dX0_at_21 (by decide) ?_
    exact e_iretR C hQ hr rfl hlk dX0_at_22 (Nat.le_of_ble_eq_true rfl) (Nat.le_of_ble_eq_true rfl)
  · refine j_iload_n C dX0_at_0 (i := 1) rfl rfl ?_
    refine j_iflt C (tgt := 21) dX0_at_1 (by decide) (fun q5 => ?_) (fun q5 => ?_)
    · exact j_sub [] rfl (hj4)
    · refine j_iload_n C dX0_at_4 (i := 1) rfl rfl ?_
      refine j_aload_n C dX0_at_5 (i := 0) rfl rfl ?_
      refine j_getI C g_X0_15 dX0_at_6 (fun v6 ev6 => ?_)
      refine j_icmpge C (tgt := 21) dX0_at_9 (by decide) (fun q7 => ?_) (fun q7 => ?_)
      · exact j_sub [] rfl (hj4)
      · refine j_aload_n C dX0_at_12 (i := 0) rfl rfl ?_
        refine j_getR C g_X0_9 dX0_at_13 (fun v8 ev8 => ?_)
        refine j_iload_n C dX0_at_16 (i := 1) rfl rfl ?_
        refine j_iaload C dX0_at_17 (fun v9 ev9 => ?_)
        refine j_goto C (tgt := 22) dX0_at_18 (by decide) ?_
        exact e_iretR C hQ hr rfl hlk dX0_at_22 (Nat.le_of_ble_eq_true rfl) (Nat.le_of_ble_eq_true rfl)
def f_Al_numberOf_b2 (fl : Nat) (a0 : Nat) (x1 : Int32) (h : hp_M) : Nat → Int32 → Option (Int32)
  | 0, _ => none
  | n + 1, x2 => (gI h a0 0 1).bind fun v1001 => if v1001 ≤ x2 then (some (-1)) else ((gR h a0 0 0).bind fun v1003 => (gaI h v1003 x2).bind fun v1004 => if v1004 = x1 then (some x2) else (f_Al_numberOf_b2 fl a0 x1 h n (x2 + 1)))
def f_Al_numberOf (fl : Nat) (a0 : Nat) (x1 : Int32) (h : hp_M) : Option (Int32) := f_Al_numberOf_b2 fl a0 x1 h fl 0
set_option maxRecDepth 100000 in
set_option maxHeartbeats 4000000 in
theorem b_Al_numberOf_2 {p : Program} {l : Launch} {e : Env} {s : State} {m : MethodId} {args : Array Value} {below : List Frame} {meth : Method} {c : Code} {Q : State → Prop} {w : hp_W} {out : Int32} (fl : Nat)   (a0 : Nat) (x1 : Int32) (h : hp_M) (C : Cx p m c cX0_numberOf 3 s args RX0 w) (hr : meth.sig.returnType = some .int) (hlk : meth.locks = false) (hnm : meth.name = "numberOf") (hQ : QM below w args s ({ frames := 0, cells := 0, slots := 0, locals := 0 }) (some .int) (some (.int out)) h = Q)  : ∀ (n : Nat) (x2 : Int32), J p l e ({ frames := 0, cells := 0, slots := 0, locals := 0 }) s m args below meth c Q w 3 0 0 2 [(0, .ref a0), (1, .int x1), (2, .int x2)] [] h (f_Al_numberOf_b2 fl a0 x1 h n x2) out := by
  intro n
  induction n with
  | zero => intro x2; exact j_none
  | succ n ih =>
    intro x2
    rw [f_Al_numberOf_b2]
    refine j_iload_n C dX0_numberOf_2 (i := 2) rfl rfl ?_
    refine j_aload_n C dX0_numberOf_3 (i := 0) rfl rfl ?_
    refine j_getI C g_X0_15 dX0_numberOf_4 (fun v1001 ev1001 => ?_)
    refine j_icmpge C (tgt := 28) dX0_numberOf_7 (by decide) (fun q1002 => ?_) (fun q1002 => ?_)
    · refine j_iconst C (v := -1) dX0_numberOf_28 (by decide) ?_
      exact e_iretR C hQ hr rfl hlk dX0_numberOf_29 (Nat.le_of_ble_eq_true rfl) (Nat.le_of_ble_eq_true rfl)
    · refine j_aload_n C dX0_numberOf_10 (i := 0) rfl rfl ?_
      refine j_getR C g_X0_9 dX0_numberOf_11 (fun v1003 ev1003 => ?_)
      refine j_iload_n C dX0_numberOf_14 (i := 2) rfl rfl ?_
      refine j_iaload C dX0_numberOf_15 (fun v1004 ev1004 => ?_)
      refine j_iload_n C dX0_numberOf_16 (i := 1) rfl rfl ?_
      refine j_icmpne C (tgt := 22) dX0_numberOf_17 (by decide) (fun q1005 => ?_) (fun q1005 => ?_)
      · refine j_iload_n C dX0_numberOf_20 (i := 2) rfl rfl ?_
        exact e_iretR C hQ hr rfl hlk dX0_numberOf_21 (Nat.le_of_ble_eq_true rfl) (Nat.le_of_ble_eq_true rfl)
      · refine j_iinc C (v := x2 + 1) [(2, _), (0, _), (1, _)] dX0_numberOf_22 rfl rfl (by decide) rfl ?_
        refine j_goto C (tgt := 2) dX0_numberOf_25 (by decide) ?_
        exact j_sub [1, 2, 0] rfl (ih _)
set_option maxRecDepth 100000 in
set_option maxHeartbeats 4000000 in
theorem c_Al_numberOf (l : Launch) (w : hp_W) (fl : Nat) (a0 : Nat) (x1 : Int32) (h : hp_M) (out : Int32) (hX : f_Al_numberOf fl a0 x1 h = some out) : CT l w yX0_numberOf cX0_numberOf 3 (some .int) ({ frames := 0, cells := 0, slots := 0, locals := 0 }) [.ref a0, .int x1] h (some (.int out)) h := by
  unfold f_Al_numberOf at hX
  refine ct_of (by decide +kernel) (Nat.le_of_ble_eq_true rfl) hX ?_
  intro p e s m args below meth c Q C hr hlk hnm hQ
  refine j_iconst C (v := 0) dX0_numberOf_0 (by decide) ?_
  refine j_istore_n C [(2, _), (0, _), (1, _)] dX0_numberOf_1 (i := 2) rfl (by decide) rfl ?_
  refine j_sub [1, 2, 0] rfl (b_Al_numberOf_2 fl  _ _ _ C hr hlk hnm hQ  _ _)
def f_Al_copyFrom (a0 : Nat) (a1 : Nat) (h : hp_M) : Option (hp_M) := (gR h a1 0 0).bind fun v1 => (gR h a0 0 0).bind fun v2 => (gR h a0 0 0).bind fun v3 => (gLen h v3).bind fun v4 => (cpI h v1 0 v2 0 v4).bind fun h5 => (gI h5 a1 0 1).bind fun v6 => (pF h5 a0 0 1 (.int v6)).bind fun h7 => some h7
set_option maxRecDepth 100000 in
set_option maxHeartbeats 4000000 in
theorem c_Al_copyFrom (l : Launch) (w : hp_W) (a0 : Nat) (a1 : Nat) (h : hp_M) (out : hp_M) (hX : f_Al_copyFrom a0 a1 h = some out) : CT l w yX0_copyFrom cX0_copyFrom 2 none ({ frames := 6, cells := 0, slots := 0, locals := 200 }) [.ref a0, .ref a1] h none out := by
  unfold f_Al_copyFrom at hX
  refine ct_of (by decide +kernel) (Nat.le_of_ble_eq_true rfl) hX ?_
  intro p e s m args below meth c Q C hr hlk hnm hQ
  refine j_aload_n C dX0_copyFrom_0 (i := 1) rfl rfl ?_
  refine j_getR C g_X0_9 dX0_copyFrom_1 (fun v1 ev1 => ?_)
  refine j_iconst C (v := 0) dX0_copyFrom_4 (by decide) ?_
  refine j_aload_n C dX0_copyFrom_5 (i := 0) rfl rfl ?_
  refine j_getR C g_X0_9 dX0_copyFrom_6 (fun v2 ev2 => ?_)
  refine j_iconst C (v := 0) dX0_copyFrom_9 (by decide) ?_
  refine j_aload_n C dX0_copyFrom_10 (i := 0) rfl rfl ?_
  refine j_getR C g_X0_9 dX0_copyFrom_11 (fun v3 ev3 => ?_)
  refine j_alen C dX0_copyFrom_14 (fun v4 ev4 => ?_)
  refine j_copy C k_X0_19 (Nat.le_of_ble_eq_true rfl) (Nat.le_of_ble_eq_true rfl) dX0_copyFrom_15 (fun h5 eh5 => ?_)
  refine j_aload_n C dX0_copyFrom_18 (i := 0) rfl rfl ?_
  refine j_aload_n C dX0_copyFrom_19 (i := 1) rfl rfl ?_
  refine j_getI C g_X0_15 dX0_copyFrom_20 (fun v6 ev6 => ?_)
  refine j_putI C p_X0_15 (fun q => nomatch q) dX0_copyFrom_23 (fun h7 eh7 => ?_)
  exact e_vretM C hQ hr hlk dX0_copyFrom_26 (Nat.le_of_ble_eq_true rfl) (Nat.le_of_ble_eq_true rfl)
def f_Pl_init (a0 : Nat) (h : hp_M) : Option (hp_M) := (pF h a0 3 3 (.int 1)).bind fun h1 => some h1
set_option maxRecDepth 100000 in
set_option maxHeartbeats 4000000 in
theorem c_Pl_init (l : Launch) (w : hp_W) (a0 : Nat) (h : hp_M) (out : hp_M) (hX : f_Pl_init a0 h = some out) : CT l w yX4_init cX4_init 1 none ({ frames := 1, cells := 0, slots := 0, locals := 32 }) [.ref a0] h none out := by
  unfold f_Pl_init at hX
  refine ct_of (by decide +kernel) (Nat.le_of_ble_eq_true rfl) hX ?_
  intro p e s m args below meth c Q C hr hlk hnm hQ
  refine j_aload_n C dX4_init_0 (i := 0) rfl rfl ?_
  refine j_objInit C k_X4_1 k_oi k_oc dX4_init_1 (Nat.le_of_ble_eq_true rfl) (Nat.le_of_ble_eq_true rfl) ?_
  refine j_aload_n C dX4_init_4 (i := 0) rfl rfl ?_
  refine j_iconst C (v := 1) dX4_init_5 (by decide) ?_
  refine j_putI C p_X4_7 (fun q => nomatch q) dX4_init_6 (fun h1 eh1 => ?_)
  exact e_vretM C hQ hr hlk dX4_init_9 (Nat.le_of_ble_eq_true rfl) (Nat.le_of_ble_eq_true rfl)
def f_Pl_putAt (a0 : Nat) (x1 : Int32) (h : hp_M) : Option (hp_M) := (pF h a0 3 4 (.int x1)).bind fun h1 => (pF h1 a0 3 5 (.int x1)).bind fun h2 => some h2
set_option maxRecDepth 100000 in
set_option maxHeartbeats 4000000 in
theorem c_Pl_putAt (l : Launch) (w : hp_W) (a0 : Nat) (x1 : Int32) (h : hp_M) (out : hp_M) (hX : f_Pl_putAt a0 x1 h = some out) : CT l w yX4_putAt cX4_putAt 2 none ({ frames := 0, cells := 0, slots := 0, locals := 0 }) [.ref a0, .int x1] h none out := by
  unfold f_Pl_putAt at hX
  refine ct_of (by decide +kernel) (Nat.le_of_ble_eq_true rfl) hX ?_
  intro p e s m args below meth c Q C hr hlk hnm hQ
  refine j_aload_n C dX4_putAt_0 (i := 0) rfl rfl ?_
  refine j_iload_n C dX4_putAt_1 (i := 1) rfl rfl ?_
  refine j_putI C p_X4_29 (fun q => nomatch q) dX4_putAt_2 (fun h1 eh1 => ?_)
  refine j_aload_n C dX4_putAt_5 (i := 0) rfl rfl ?_
  refine j_iload_n C dX4_putAt_6 (i := 1) rfl rfl ?_
  refine j_putI C p_X4_32 (fun q => nomatch q) dX4_putAt_7 (fun h2 eh2 => ?_)
  exact e_vretM C hQ hr hlk dX4_putAt_10 (Nat.le_of_ble_eq_true rfl) (Nat.le_of_ble_eq_true rfl)
def f_Pl_tell (a0 : Nat) (x1 : Int32) (x2 : Int32) (x3 : Int32) (x4 : Int32) (x5 : Int32) (h : hp_M) : Option (hp_M) := (pF h a0 3 0 (.int x1)).bind fun h1 => (pF h1 a0 3 1 (.int x2)).bind fun h2 => (pF h2 a0 3 2 (.int x4)).bind fun h3 => (pF h3 a0 3 3 (.int x5)).bind fun h4 => (pF h4 a0 3 6 (.int 0)).bind fun h5 => (onO h5 a0 3 (f_Pl_putAt a0 x3 h5)).bind fun h6 => some h6
set_option maxRecDepth 100000 in
set_option maxHeartbeats 4000000 in
theorem c_Pl_tell (l : Launch) (w : hp_W) (a0 : Nat) (x1 : Int32) (x2 : Int32) (x3 : Int32) (x4 : Int32) (x5 : Int32) (h : hp_M) (out : hp_M) (hX : f_Pl_tell a0 x1 x2 x3 x4 x5 h = some out) : CT l w yX4_tell cX4_tell 6 none ({ frames := 1, cells := 0, slots := 0, locals := 21 }) [.ref a0, .int x1, .int x2, .int x3, .int x4, .int x5] h none out := by
  unfold f_Pl_tell at hX
  refine ct_of (by decide +kernel) (Nat.le_of_ble_eq_true rfl) hX ?_
  intro p e s m args below meth c Q C hr hlk hnm hQ
  refine j_aload_n C dX4_tell_0 (i := 0) rfl rfl ?_
  refine j_iload_n C dX4_tell_1 (i := 1) rfl rfl ?_
  refine j_putI C p_X4_13 (fun q => nomatch q) dX4_tell_2 (fun h1 eh1 => ?_)
  refine j_aload_n C dX4_tell_5 (i := 0) rfl rfl ?_
  refine j_iload_n C dX4_tell_6 (i := 2) rfl rfl ?_
  refine j_putI C p_X4_16 (fun q => nomatch q) dX4_tell_7 (fun h2 eh2 => ?_)
  refine j_aload_n C dX4_tell_10 (i := 0) rfl rfl ?_
  refine j_iload C dX4_tell_11 rfl ?_
  refine j_putI C p_X4_19 (fun q => nomatch q) dX4_tell_13 (fun h3 eh3 => ?_)
  refine j_aload_n C dX4_tell_16 (i := 0) rfl rfl ?_
  refine j_iload C dX4_tell_17 rfl ?_
  refine j_putI C p_X4_7 (fun q => nomatch q) dX4_tell_19 (fun h4 eh4 => ?_)
  refine j_aload_n C dX4_tell_22 (i := 0) rfl rfl ?_
  refine j_iconst C (v := 0) dX4_tell_23 (by decide) ?_
  refine j_putI C p_X4_22 (fun q => nomatch q) dX4_tell_24 (fun h5 eh5 => ?_)
  refine j_aload_n C dX4_tell_27 (i := 0) rfl rfl ?_
  refine j_iload_n C dX4_tell_28 (i := 3) rfl rfl ?_
  refine j_callVv C (As := [.int _]) (rest := []) k_X4_25 ⟨Nat.le_of_ble_eq_true rfl, Nat.le_of_ble_eq_true rfl⟩ rfl (Nat.le_of_ble_eq_true rfl) ⟨Nat.le_of_ble_eq_true rfl, Nat.le_of_ble_eq_true rfl⟩ rfl dX4_tell_29 (fun r0 q0 => c_Pl_putAt l w _ _ _ _ q0) (fun h6 eh6 _ => ?_)
  exact e_vretM C hQ hr hlk dX4_tell_32 (Nat.le_of_ble_eq_true rfl) (Nat.le_of_ble_eq_true rfl)
def f_Pl_copyFrom (a0 : Nat) (a1 : Nat) (h : hp_M) : Option (hp_M) := (gI h a1 3 0).bind fun v1 => (pF h a0 3 0 (.int v1)).bind fun h2 => (gI h2 a1 3 1).bind fun v3 => (pF h2 a0 3 1 (.int v3)).bind fun h4 => (gI h4 a1 3 2).bind fun v5 => (pF h4 a0 3 2 (.int v5)).bind fun h6 => (gI h6 a1 3 3).bind fun v7 => (pF h6 a0 3 3 (.int v7)).bind fun h8 => (gI h8 a1 3 4).bind fun v9 => (pF h8 a0 3 4 (.int v9)).bind fun h10 => (gI h10 a1 3 5).bind fun v11 => (pF h10 a0 3 5 (.int v11)).bind fun h12 => (gI h12 a1 3 6).bind fun v13 => (pF h12 a0 3 6 (.int v13)).bind fun h14 => some h14
set_option maxRecDepth 100000 in
set_option maxHeartbeats 4000000 in
theorem c_Pl_copyFrom (l : Launch) (w : hp_W) (a0 : Nat) (a1 : Nat) (h : hp_M) (out : hp_M) (hX : f_Pl_copyFrom a0 a1 h = some out) : CT l w yX4_copyFrom cX4_copyFrom 2 none ({ frames := 0, cells := 0, slots := 0, locals := 0 }) [.ref a0, .ref a1] h none out := by
  unfold f_Pl_copyFrom at hX
  refine ct_of (by decide +kernel) (Nat.le_of_ble_eq_true rfl) hX ?_
  intro p e s m args below meth c Q C hr hlk hnm hQ
  refine j_aload_n C dX4_copyFrom_0 (i := 0) rfl rfl ?_
  refine j_aload_n C dX4_copyFrom_1 (i := 1) rfl rfl ?_
  refine j_getI C g_X4_13 dX4_copyFrom_2 (fun v1 ev1 => ?_)
  refine j_putI C p_X4_13 (fun q => nomatch q) dX4_copyFrom_5 (fun h2 eh2 => ?_)
  refine j_aload_n C dX4_copyFrom_8 (i := 0) rfl rfl ?_
  refine j_aload_n C dX4_copyFrom_9 (i := 1) rfl rfl ?_
  refine j_getI C g_X4_16 dX4_copyFrom_10 (fun v3 ev3 => ?_)
  refine j_putI C p_X4_16 (fun q => nomatch q) dX4_copyFrom_13 (fun h4 eh4 => ?_)
  refine j_aload_n C dX4_copyFrom_16 (i := 0) rfl rfl ?_
  refine j_aload_n C dX4_copyFrom_17 (i := 1) rfl rfl ?_
  refine j_getI C g_X4_19 dX4_copyFrom_18 (fun v5 ev5 => ?_)
  refine j_putI C p_X4_19 (fun q => nomatch q) dX4_copyFrom_21 (fun h6 eh6 => ?_)
  refine j_aload_n C dX4_copyFrom_24 (i := 0) rfl rfl ?_
  refine j_aload_n C dX4_copyFrom_25 (i := 1) rfl rfl ?_
  refine j_getI C g_X4_7 dX4_copyFrom_26 (fun v7 ev7 => ?_)
  refine j_putI C p_X4_7 (fun q => nomatch q) dX4_copyFrom_29 (fun h8 eh8 => ?_)
  refine j_aload_n C dX4_copyFrom_32 (i := 0) rfl rfl ?_
  refine j_aload_n C dX4_copyFrom_33 (i := 1) rfl rfl ?_
  refine j_getI C g_X4_29 dX4_copyFrom_34 (fun v9 ev9 => ?_)
  refine j_putI C p_X4_29 (fun q => nomatch q) dX4_copyFrom_37 (fun h10 eh10 => ?_)
  refine j_aload_n C dX4_copyFrom_40 (i := 0) rfl rfl ?_
  refine j_aload_n C dX4_copyFrom_41 (i := 1) rfl rfl ?_
  refine j_getI C g_X4_32 dX4_copyFrom_42 (fun v11 ev11 => ?_)
  refine j_putI C p_X4_32 (fun q => nomatch q) dX4_copyFrom_45 (fun h12 eh12 => ?_)
  refine j_aload_n C dX4_copyFrom_48 (i := 0) rfl rfl ?_
  refine j_aload_n C dX4_copyFrom_49 (i := 1) rfl rfl ?_
  refine j_getI C g_X4_22 dX4_copyFrom_50 (fun v13 ev13 => ?_)
  refine j_putI C p_X4_22 (fun q => nomatch q) dX4_copyFrom_53 (fun h14 eh14 => ?_)
  exact e_vretM C hQ hr hlk dX4_copyFrom_56 (Nat.le_of_ble_eq_true rfl) (Nat.le_of_ble_eq_true rfl)
def f_Pl_angle (a0 : Nat) (h : hp_M) : Option (Int32) := (gI h a0 3 4).bind fun v1 => some v1
set_option maxRecDepth 100000 in
set_option maxHeartbeats 4000000 in
theorem c_Pl_angle (l : Launch) (w : hp_W) (a0 : Nat) (h : hp_M) (out : Int32) (hX : f_Pl_angle a0 h = some out) : CT l w yX4_angle cX4_angle 1 (some .int) ({ frames := 0, cells := 0, slots := 0, locals := 0 }) [.ref a0] h (some (.int out)) h := by
  unfold f_Pl_angle at hX
  refine ct_of (by decide +kernel) (Nat.le_of_ble_eq_true rfl) hX ?_
  intro p e s m args below meth c Q C hr hlk hnm hQ
  refine j_aload_n C dX4_angle_0 (i := 0) rfl rfl ?_
  refine j_getI C g_X4_29 dX4_angle_1 (fun v1 ev1 => ?_)
  exact e_iretR C hQ hr rfl hlk dX4_angle_4 (Nat.le_of_ble_eq_true rfl) (Nat.le_of_ble_eq_true rfl)
def f_Pl_lap (a0 : Nat) (h : hp_M) : Option (Int32) := (gI h a0 3 6).bind fun v1 => some v1
set_option maxRecDepth 100000 in
set_option maxHeartbeats 4000000 in
theorem c_Pl_lap (l : Launch) (w : hp_W) (a0 : Nat) (h : hp_M) (out : Int32) (hX : f_Pl_lap a0 h = some out) : CT l w yX4_lap cX4_lap 1 (some .int) ({ frames := 0, cells := 0, slots := 0, locals := 0 }) [.ref a0] h (some (.int out)) h := by
  unfold f_Pl_lap at hX
  refine ct_of (by decide +kernel) (Nat.le_of_ble_eq_true rfl) hX ?_
  intro p e s m args below meth c Q C hr hlk hnm hQ
  refine j_aload_n C dX4_lap_0 (i := 0) rfl rfl ?_
  refine j_getI C g_X4_22 dX4_lap_1 (fun v1 ev1 => ?_)
  exact e_iretR C hQ hr rfl hlk dX4_lap_4 (Nat.le_of_ble_eq_true rfl) (Nat.le_of_ble_eq_true rfl)
def f_Pl_shortest (x0 : Int32) (h : hp_M) : Option (Int32) := (remI x0 360).bind fun v1 => if v1 ≤ 180 then (if (-180) < v1 then (some v1) else (some (v1 + 360))) else (some (v1 - 360))
set_option maxRecDepth 100000 in
set_option maxHeartbeats 4000000 in
theorem c_Pl_shortest (l : Launch) (w : hp_W) (x0 : Int32) (h : hp_M) (out : Int32) (hX : f_Pl_shortest x0 h = some out) : CT l w yX4_shortest cX4_shortest 2 (some .int) ({ frames := 0, cells := 0, slots := 0, locals := 0 }) [.int x0] h (some (.int out)) h := by
  unfold f_Pl_shortest at hX
  refine ct_of (by decide +kernel) (Nat.le_of_ble_eq_true rfl) hX ?_
  intro p e s m args below meth c Q C hr hlk hnm hQ
  refine j_iload_n C dX4_shortest_0 (i := 0) rfl rfl ?_
  refine j_sipush C (v := 360) dX4_shortest_1 (by decide) ?_
  refine j_irem C dX4_shortest_4 (fun v1 ev1 => ?_)
  refine j_istore_n C [(1, _), (0, _)] dX4_shortest_5 (i := 1) rfl (by decide) rfl ?_
  refine j_iload_n C dX4_shortest_6 (i := 1) rfl rfl ?_
  refine j_sipush C (v := 180) dX4_shortest_7 (by decide) ?_
  refine j_icmple C (tgt := 19) dX4_shortest_10 (by decide) (fun q2 => ?_) (fun q2 => ?_)
  · refine j_iload_n C dX4_shortest_19 (i := 1) rfl rfl ?_
    refine j_sipush C (v := (-180)) dX4_shortest_20 (by decide) ?_
    refine j_icmpgt C (tgt := 34) dX4_shortest_23 (by decide) (fun q3 => ?_) (fun q3 => ?_)
    · refine j_iload_n C dX4_shortest_34 (i := 1) rfl rfl ?_
      exact e_iretR C hQ hr rfl hlk dX4_shortest_35 (Nat.le_of_ble_eq_true rfl) (Nat.le_of_ble_eq_true rfl)
    · refine j_iload_n C dX4_shortest_26 (i := 1) rfl rfl ?_
      refine j_sipush C (v := 360) dX4_shortest_27 (by decide) ?_
      refine j_iadd C dX4_shortest_30 ?_
      refine j_goto C (tgt := 35) dX4_shortest_31 (by decide) ?_
      exact e_iretR C hQ hr rfl hlk dX4_shortest_35 (Nat.le_of_ble_eq_true rfl) (Nat.le_of_ble_eq_true rfl)
  · refine j_iload_n C dX4_shortest_13 (i := 1) rfl rfl ?_
    refine j_sipush C (v := 360) dX4_shortest_14 (by decide) ?_
    refine j_isub C dX4_shortest_17 ?_
    exact e_iretR C hQ hr rfl hlk dX4_shortest_18 (Nat.le_of_ble_eq_true rfl) (Nat.le_of_ble_eq_true rfl)
def f_Pl_isRetro (a0 : Nat) (x1 : Int32) (h : hp_M) : Option (Int32) := jn (some 0) fun (j5 : Option (Int32)) => (gI h a0 3 3).bind fun v6 => if v6 ≤ 0 then (j5) else ((gI h a0 3 3).bind fun v8 => (remI x1 v8).bind fun v9 => (gI h a0 3 2).bind fun v10 => if v10 ≤ v9 then (j5) else (some 1))
set_option maxRecDepth 100000 in
set_option maxHeartbeats 4000000 in
theorem c_Pl_isRetro (l : Launch) (w : hp_W) (a0 : Nat) (x1 : Int32) (h : hp_M) (out : Int32) (hX : f_Pl_isRetro a0 x1 h = some out) : CT l w yX4_isRetro cX4_isRetro 2 (some .boolean) ({ frames := 0, cells := 0, slots := 0, locals := 0 }) [.ref a0, .int x1] h (some (.int out)) h := by
  unfold f_Pl_isRetro at hX
  refine ct_of (by decide +kernel) (Nat.le_of_ble_eq_true rfl) hX ?_
  intro p e s m args below meth c Q C hr hlk hnm hQ
  refine j_jn (P := fun j5 => J p l e ({ frames := 0, cells := 0, slots := 0, locals := 0 }) s m args below meth c Q w 2 0 0 24 [] [] h (j5) out) ?_ (fun j5 hj5 => ?_)
  · refine j_iconst C (v := 0) dX4_isRetro_24 (by decide) ?_
    exact e_iretR C hQ hr rfl hlk dX4_isRetro_25 (Nat.le_of_ble_eq_true rfl) (Nat.le_of_ble_eq_true rfl)
  · refine j_aload_n C dX4_isRetro_0 (i := 0) rfl rfl ?_
    refine j_getI C g_X4_7 dX4_isRetro_1 (fun v6 ev6 => ?_)
    refine j_ifle C (tgt := 24) dX4_isRetro_4 (by decide) (fun q7 => ?_) (fun q7 => ?_)
    · exact j_sub [] rfl (hj5)
    · refine j_iload_n C dX4_isRetro_7 (i := 1) rfl rfl ?_
      refine j_aload_n C dX4_isRetro_8 (i := 0) rfl rfl ?_
      refine j_getI C g_X4_7 dX4_isRetro_9 (fun v8 ev8 => ?_)
      refine j_irem C dX4_isRetro_12 (fun v9 ev9 => ?_)
      refine j_aload_n C dX4_isRetro_13 (i := 0) rfl rfl ?_
      refine j_getI C g_X4_19 dX4_isRetro_14 (fun v10 ev10 => ?_)
      refine j_icmpge C (tgt := 24) dX4_isRetro_17 (by decide) (fun q11 => ?_) (fun q11 => ?_)
      · exact j_sub [] rfl (hj5)
      · refine j_iconst C (v := 1) dX4_isRetro_20 (by decide) ?_
        refine j_goto C (tgt := 25) dX4_isRetro_21 (by decide) ?_
        exact e_iretR C hQ hr rfl hlk dX4_isRetro_25 (Nat.le_of_ble_eq_true rfl) (Nat.le_of_ble_eq_true rfl)
def f_Pl_rail (a0 : Nat) (h : hp_M) : Option (Int32) := (gI h a0 3 0).bind fun v1 => some v1
set_option maxRecDepth 100000 in
set_option maxHeartbeats 4000000 in
theorem c_Pl_rail (l : Launch) (w : hp_W) (a0 : Nat) (h : hp_M) (out : Int32) (hX : f_Pl_rail a0 h = some out) : CT l w yX4_rail cX4_rail 1 (some .int) ({ frames := 0, cells := 0, slots := 0, locals := 0 }) [.ref a0] h (some (.int out)) h := by
  unfold f_Pl_rail at hX
  refine ct_of (by decide +kernel) (Nat.le_of_ble_eq_true rfl) hX ?_
  intro p e s m args below meth c Q C hr hlk hnm hQ
  refine j_aload_n C dX4_rail_0 (i := 0) rfl rfl ?_
  refine j_getI C g_X4_13 dX4_rail_1 (fun v1 ev1 => ?_)
  exact e_iretR C hQ hr rfl hlk dX4_rail_4 (Nat.le_of_ble_eq_true rfl) (Nat.le_of_ble_eq_true rfl)
def f_Pl_angleBefore (a0 : Nat) (h : hp_M) : Option (Int32) := (gI h a0 3 5).bind fun v1 => some v1
set_option maxRecDepth 100000 in
set_option maxHeartbeats 4000000 in
theorem c_Pl_angleBefore (l : Launch) (w : hp_W) (a0 : Nat) (h : hp_M) (out : Int32) (hX : f_Pl_angleBefore a0 h = some out) : CT l w yX4_angleBefore cX4_angleBefore 1 (some .int) ({ frames := 0, cells := 0, slots := 0, locals := 0 }) [.ref a0] h (some (.int out)) h := by
  unfold f_Pl_angleBefore at hX
  refine ct_of (by decide +kernel) (Nat.le_of_ble_eq_true rfl) hX ?_
  intro p e s m args below meth c Q C hr hlk hnm hQ
  refine j_aload_n C dX4_angleBefore_0 (i := 0) rfl rfl ?_
  refine j_getI C g_X4_32 dX4_angleBefore_1 (fun v1 ev1 => ?_)
  exact e_iretR C hQ hr rfl hlk dX4_angleBefore_4 (Nat.le_of_ble_eq_true rfl) (Nat.le_of_ble_eq_true rfl)
def f_Kd_step (w : hp_W) (a0 : Nat) (h : hp_M) : Option (Int32) := (kStep w a0).bind fun v1 => some v1
set_option maxRecDepth 100000 in
set_option maxHeartbeats 4000000 in
theorem c_Kd_step (l : Launch) (w : hp_W) (a0 : Nat) (h : hp_M) (out : Int32) (hX : f_Kd_step w a0 h = some out) : CT l w yX2_step cX2_step 1 (some .int) ({ frames := 0, cells := 0, slots := 0, locals := 0 }) [.ref a0] h (some (.int out)) h := by
  unfold f_Kd_step at hX
  refine ct_of (by decide +kernel) (Nat.le_of_ble_eq_true rfl) hX ?_
  intro p e s m args below meth c Q C hr hlk hnm hQ
  refine j_aload_n C dX2_step_0 (i := 0) rfl rfl ?_
  refine j_kstep C s_X2_153 dX2_step_1 (fun v1 ev1 => ?_)
  exact e_iretR C hQ hr rfl hlk dX2_step_4 (Nat.le_of_ble_eq_true rfl) (Nat.le_of_ble_eq_true rfl)
def f_Tp_isAt_b21 (w : hp_W) (fl : Nat) (a0 : Nat) (x1 : Int32) (a2 : Nat) (h : hp_M) : Nat → Int32 → Option (Int32)
  | 0, _ => none
  | n + 1, x3 => (tLen w a2).bind fun r1005 => if r1005 ≤ x3 then (some 1) else ((gR h a0 8 0).bind fun v1007 => (gaI h v1007 (x1 + x3)).bind fun v1008 => (tAt w a2 x3).bind fun r1009 => if v1008 = r1009 then (f_Tp_isAt_b21 w fl a0 x1 a2 h n (x3 + 1)) else (some 0))
def f_Tp_isAt (w : hp_W) (fl : Nat) (a0 : Nat) (x1 : Int32) (a2 : Nat) (h : hp_M) : Option (Int32) := if x1 < 0 then (some 0) else ((tLen w a2).bind fun r2 => (gI h a0 8 1).bind fun v3 => if (x1 + r2) ≤ v3 then (f_Tp_isAt_b21 w fl a0 x1 a2 h fl 0) else (some 0))
set_option maxRecDepth 100000 in
set_option maxHeartbeats 4000000 in
theorem b_Tp_isAt_21 {p : Program} {l : Launch} {e : Env} {s : State} {m : MethodId} {args : Array Value} {below : List Frame} {meth : Method} {c : Code} {Q : State → Prop} {w : hp_W} {out : Int32} (fl : Nat)   (a0 : Nat) (x1 : Int32) (a2 : Nat) (h : hp_M) (C : Cx p m c cX9_isAt 4 s args RX9 w) (hr : meth.sig.returnType = some .boolean) (hlk : meth.locks = false) (hnm : meth.name = "isAt") (hQ : QM below w args s ({ frames := 6, cells := 0, slots := 0, locals := 200 }) (some .boolean) (some (.int out)) h = Q)  : ∀ (n : Nat) (x3 : Int32), J p l e ({ frames := 6, cells := 0, slots := 0, locals := 200 }) s m args below meth c Q w 4 0 0 21 [(0, .ref a0), (1, .int x1), (2, .ref a2), (3, .int x3)] [] h (f_Tp_isAt_b21 w fl a0 x1 a2 h n x3) out := by
  intro n
  induction n with
  | zero => intro x3; exact j_none
  | succ n ih =>
    intro x3
    rw [f_Tp_isAt_b21]
    refine j_iload_n C dX9_isAt_21 (i := 3) rfl rfl ?_
    refine j_aload_n C dX9_isAt_22 (i := 2) rfl rfl ?_
    refine j_slen C (rest := [_]) ⟨k_X9_21, Nat.le_of_ble_eq_true rfl, Nat.le_of_ble_eq_true rfl, Nat.le_of_ble_eq_true rfl⟩ (Nat.le_of_ble_eq_true rfl) (Nat.le_of_ble_eq_true rfl) dX9_isAt_23 (fun r1005 er1005 => ?_)
    refine j_icmpge C (tgt := 53) dX9_isAt_26 (by decide) (fun q1006 => ?_) (fun q1006 => ?_)
    · refine j_iconst C (v := 1) dX9_isAt_53 (by decide) ?_
      exact e_iretR C hQ hr rfl hlk dX9_isAt_54 (Nat.le_of_ble_eq_true rfl) (Nat.le_of_ble_eq_true rfl)
    · refine j_aload_n C dX9_isAt_29 (i := 0) rfl rfl ?_
      refine j_getR C g_X9_9 dX9_isAt_30 (fun v1007 ev1007 => ?_)
      refine j_iload_n C dX9_isAt_33 (i := 1) rfl rfl ?_
      refine j_iload_n C dX9_isAt_34 (i := 3) rfl rfl ?_
      refine j_iadd C dX9_isAt_35 ?_
      refine j_iaload C dX9_isAt_36 (fun v1008 ev1008 => ?_)
      refine j_aload_n C dX9_isAt_37 (i := 2) rfl rfl ?_
      refine j_iload_n C dX9_isAt_38 (i := 3) rfl rfl ?_
      refine j_sat C (rest := [_]) ⟨k_X9_27, Nat.le_of_ble_eq_true rfl, Nat.le_of_ble_eq_true rfl, Nat.le_of_ble_eq_true rfl⟩ (Nat.le_of_ble_eq_true rfl) (Nat.le_of_ble_eq_true rfl) dX9_isAt_39 (fun r1009 er1009 => ?_)
      refine j_icmpeq C (tgt := 47) dX9_isAt_42 (by decide) (fun q1010 => ?_) (fun q1010 => ?_)
      · refine j_iinc C (v := x3 + 1) [(3, _), (0, _), (1, _), (2, _)] dX9_isAt_47 rfl rfl (by decide) rfl ?_
        refine j_goto C (tgt := 21) dX9_isAt_50 (by decide) ?_
        exact j_sub [1, 2, 3, 0] rfl (ih _)
      · refine j_iconst C (v := 0) dX9_isAt_45 (by decide) ?_
        exact e_iretR C hQ hr rfl hlk dX9_isAt_46 (Nat.le_of_ble_eq_true rfl) (Nat.le_of_ble_eq_true rfl)
set_option maxRecDepth 100000 in
set_option maxHeartbeats 4000000 in
theorem c_Tp_isAt (l : Launch) (w : hp_W) (fl : Nat) (a0 : Nat) (x1 : Int32) (a2 : Nat) (h : hp_M) (out : Int32) (hX : f_Tp_isAt w fl a0 x1 a2 h = some out) : CT l w yX9_isAt cX9_isAt 4 (some .boolean) ({ frames := 6, cells := 0, slots := 0, locals := 200 }) [.ref a0, .int x1, .ref a2] h (some (.int out)) h := by
  unfold f_Tp_isAt at hX
  refine ct_of (by decide +kernel) (Nat.le_of_ble_eq_true rfl) hX ?_
  intro p e s m args below meth c Q C hr hlk hnm hQ
  refine j_iload_n C dX9_isAt_0 (i := 1) rfl rfl ?_
  refine j_iflt C (tgt := 17) dX9_isAt_1 (by decide) (fun q1 => ?_) (fun q1 => ?_)
  · refine j_iconst C (v := 0) dX9_isAt_17 (by decide) ?_
    exact e_iretR C hQ hr rfl hlk dX9_isAt_18 (Nat.le_of_ble_eq_true rfl) (Nat.le_of_ble_eq_true rfl)
  · refine j_iload_n C dX9_isAt_4 (i := 1) rfl rfl ?_
    refine j_aload_n C dX9_isAt_5 (i := 2) rfl rfl ?_
    refine j_slen C (rest := [_]) ⟨k_X9_21, Nat.le_of_ble_eq_true rfl, Nat.le_of_ble_eq_true rfl, Nat.le_of_ble_eq_true rfl⟩ (Nat.le_of_ble_eq_true rfl) (Nat.le_of_ble_eq_true rfl) dX9_isAt_6 (fun r2 er2 => ?_)
    refine j_iadd C dX9_isAt_9 ?_
    refine j_aload_n C dX9_isAt_10 (i := 0) rfl rfl ?_
    refine j_getI C g_X9_13 dX9_isAt_11 (fun v3 ev3 => ?_)
    refine j_icmple C (tgt := 19) dX9_isAt_14 (by decide) (fun q4 => ?_) (fun q4 => ?_)
    · refine j_iconst C (v := 0) dX9_isAt_19 (by decide) ?_
      refine j_istore_n C [(3, _), (0, _), (1, _), (2, _)] dX9_isAt_20 (i := 3) rfl (by decide) rfl ?_
      refine j_sub [1, 2, 3, 0] rfl (b_Tp_isAt_21 fl  _ _ _ _ C hr hlk hnm hQ  _ _)
    · refine j_iconst C (v := 0) dX9_isAt_17 (by decide) ?_
      exact e_iretR C hQ hr rfl hlk dX9_isAt_18 (Nat.le_of_ble_eq_true rfl) (Nat.le_of_ble_eq_true rfl)
def f_Kd_ofWord_b2 (w : hp_W) (fl : Nat) (a0 : Nat) (x1 : Int32) (x2 : Int32) (h : hp_M) : Nat → Int32 → Option (Nat)
  | 0, _ => none
  | n + 1, x3 => if 42 ≤ x3 then (some (w_kd w 2)) else (jn (f_Kd_ofWord_b2 w fl a0 x1 x2 h n (x3 + 1)) fun (j1007 : Option (Nat)) => (kAll w x3).bind fun v1008 => (kText w v1008).bind fun v1009 => (tLen w v1009).bind fun r1010 => if r1010 = x2 then ((kText w v1008).bind fun v1012 => (onO h a0 8 (f_Tp_isAt w fl a0 x1 v1012 h)).bind fun r1013 => if r1013 = 0 then (j1007) else (some v1008)) else (j1007))
def f_Kd_ofWord (w : hp_W) (fl : Nat) (a0 : Nat) (x1 : Int32) (x2 : Int32) (h : hp_M) : Option (Nat) := f_Kd_ofWord_b2 w fl a0 x1 x2 h fl 0
set_option maxRecDepth 100000 in
set_option maxHeartbeats 4000000 in
theorem b_Kd_ofWord_2 {p : Program} {l : Launch} {e : Env} {s : State} {m : MethodId} {args : Array Value} {below : List Frame} {meth : Method} {c : Code} {Q : State → Prop} {w : hp_W} {out : Nat} (fl : Nat)   (a0 : Nat) (x1 : Int32) (x2 : Int32) (h : hp_M) (C : Cx p m c cX2_ofWord 5 s args RX2 w) (hr : meth.sig.returnType = some (.object "ShadowSpell$Kind")) (hlk : meth.locks = false) (hnm : meth.name = "ofWord") (hQ : QM below w args s ({ frames := 7, cells := 0, slots := 0, locals := 223 }) (some (.object "ShadowSpell$Kind")) (some (.ref out)) h = Q)  : ∀ (n : Nat) (x3 : Int32), J p l e ({ frames := 7, cells := 0, slots := 0, locals := 223 }) s m args below meth c Q w 5 0 0 2 [(0, .ref a0), (1, .int x1), (2, .int x2), (3, .int x3)] [] h (f_Kd_ofWord_b2 w fl a0 x1 x2 h n x3) out := by
  intro n
  induction n with
  | zero => intro x3; exact j_none
  | succ n ih =>
    intro x3
    rw [f_Kd_ofWord_b2]
    refine j_iload_n C dX2_ofWord_2 (i := 3) rfl rfl ?_
    refine j_all C s_X2_157 dX2_ofWord_3 ?_
    refine j_alllen C dX2_ofWord_6 ?_
    refine j_icmpge C (tgt := 51) dX2_ofWord_7 (by decide) (fun q1001 => ?_) (fun q1001 => ?_)
    · refine j_kind C s_X2_10 (by decide) dX2_ofWord_51 ?_
      exact e_aretR C hQ hr (by first | exact Or.inl ⟨_, rfl⟩ | exact Or.inr ⟨_, rfl⟩) hlk dX2_ofWord_54 (Nat.le_of_ble_eq_true rfl) (Nat.le_of_ble_eq_true rfl)
    · refine j_jn (P := fun j1007 => J p l e ({ frames := 7, cells := 0, slots := 0, locals := 223 }) s m args below meth c Q w 5 0 0 45 [(0, .ref a0), (1, .int x1), (2, .int x2), (3, .int x3)] [] h (j1007) out) ?_ (fun j1007 hj1007 => ?_)
      · refine j_iinc C (v := x3 + 1) [(3, _), (0, _), (1, _), (2, _)] dX2_ofWord_45 rfl rfl (by decide) rfl ?_
        refine j_goto C (tgt := 2) dX2_ofWord_48 (by decide) ?_
        exact j_sub [1, 2, 3, 0] rfl (ih _)
      · refine j_all C s_X2_157 dX2_ofWord_10 ?_
        refine j_iload_n C dX2_ofWord_13 (i := 3) rfl rfl ?_
        refine j_allload C dX2_ofWord_14 (fun v1008 ev1008 => ?_)
        refine j_astore C [(4, _), (0, _), (1, _), (2, _), (3, _)] dX2_ofWord_15 (by decide) rfl ?_
        refine j_aload C dX2_ofWord_17 rfl ?_
        refine j_ktext C s_X2_149 dX2_ofWord_19 (fun v1009 ev1009 => ?_)
        refine j_slen C (rest := []) ⟨k_X2_160, Nat.le_of_ble_eq_true rfl, Nat.le_of_ble_eq_true rfl, Nat.le_of_ble_eq_true rfl⟩ (Nat.le_of_ble_eq_true rfl) (Nat.le_of_ble_eq_true rfl) dX2_ofWord_22 (fun r1010 er1010 => ?_)
        refine j_iload_n C dX2_ofWord_25 (i := 2) rfl rfl ?_
        refine j_icmpne C (tgt := 45) dX2_ofWord_26 (by decide) (fun q1011 => ?_) (fun q1011 => ?_)
        · refine j_aload_n C dX2_ofWord_29 (i := 0) rfl rfl ?_
          refine j_iload_n C dX2_ofWord_30 (i := 1) rfl rfl ?_
          refine j_aload C dX2_ofWord_31 rfl ?_
          refine j_ktext C s_X2_149 dX2_ofWord_33 (fun v1012 ev1012 => ?_)
          refine j_callVi C (As := [.int _, .ref _]) (rest := []) k_X2_166 ⟨Nat.le_of_ble_eq_true rfl, Nat.le_of_ble_eq_true rfl⟩ rfl (Nat.le_of_ble_eq_true rfl) ⟨Nat.le_of_ble_eq_true rfl, Nat.le_of_ble_eq_true rfl⟩ rfl dX2_ofWord_36 (fun r0 q0 => c_Tp_isAt l w fl _ _ _ _ _ q0) (fun r1013 er1013 nr1013 => ?_)
          refine j_ifeq C (tgt := 45) dX2_ofWord_39 (by decide) (fun q1014 => ?_) (fun q1014 => ?_)
          · exact j_sub [1, 2, 3, 4] rfl (hj1007)
          · refine j_aload C dX2_ofWord_42 rfl ?_
            exact e_aretR C hQ hr (by first | exact Or.inl ⟨_, rfl⟩ | exact Or.inr ⟨_, rfl⟩) hlk dX2_ofWord_44 (Nat.le_of_ble_eq_true rfl) (Nat.le_of_ble_eq_true rfl)
        · exact j_sub [1, 2, 3, 4] rfl (hj1007)
set_option maxRecDepth 100000 in
set_option maxHeartbeats 4000000 in
theorem c_Kd_ofWord (l : Launch) (w : hp_W) (fl : Nat) (a0 : Nat) (x1 : Int32) (x2 : Int32) (h : hp_M) (out : Nat) (hX : f_Kd_ofWord w fl a0 x1 x2 h = some out) : CT l w yX2_ofWord cX2_ofWord 5 (some (.object "ShadowSpell$Kind")) ({ frames := 7, cells := 0, slots := 0, locals := 223 }) [.ref a0, .int x1, .int x2] h (some (.ref out)) h := by
  unfold f_Kd_ofWord at hX
  refine ct_of (by decide +kernel) (Nat.le_of_ble_eq_true rfl) hX ?_
  intro p e s m args below meth c Q C hr hlk hnm hQ
  refine j_iconst C (v := 0) dX2_ofWord_0 (by decide) ?_
  refine j_istore_n C [(3, _), (0, _), (1, _), (2, _)] dX2_ofWord_1 (i := 3) rfl (by decide) rfl ?_
  refine j_sub [1, 2, 3, 0] rfl (b_Kd_ofWord_2 fl  _ _ _ _ C hr hlk hnm hQ  _ _)
def f_Kd_ofSymbol_b6 (w : hp_W) (fl : Nat) (a0 : Nat) (x1 : Int32) (h : hp_M) : Nat → Nat → Int32 → Option (Nat)
  | 0, _, _ => none
  | n + 1, a2, x3 => if 42 ≤ x3 then (some a2) else (jn (fun (u1010 : Nat) => f_Kd_ofSymbol_b6 w fl a0 x1 h n u1010 (x3 + 1)) fun (j1009 : Nat → Option (Nat)) => (kAll w x3).bind fun v1011 => (kText w v1011).bind fun v1012 => (tLen w v1012).bind fun r1013 => (kText w a2).bind fun v1014 => (tLen w v1014).bind fun r1015 => if r1013 ≤ r1015 then (j1009 a2) else ((kText w v1011).bind fun v1017 => (onO h a0 8 (f_Tp_isAt w fl a0 x1 v1017 h)).bind fun r1018 => if r1018 = 0 then (j1009 a2) else (j1009 v1011)))
def f_Kd_ofSymbol (w : hp_W) (fl : Nat) (a0 : Nat) (x1 : Int32) (h : hp_M) : Option (Nat) := f_Kd_ofSymbol_b6 w fl a0 x1 h fl (w_kd w 1) 0
set_option maxRecDepth 100000 in
set_option maxHeartbeats 4000000 in
theorem b_Kd_ofSymbol_6 {p : Program} {l : Launch} {e : Env} {s : State} {m : MethodId} {args : Array Value} {below : List Frame} {meth : Method} {c : Code} {Q : State → Prop} {w : hp_W} {out : Nat} (fl : Nat)   (a0 : Nat) (x1 : Int32) (h : hp_M) (C : Cx p m c cX2_ofSymbol 5 s args RX2 w) (hr : meth.sig.returnType = some (.object "ShadowSpell$Kind")) (hlk : meth.locks = false) (hnm : meth.name = "ofSymbol") (hQ : QM below w args s ({ frames := 7, cells := 0, slots := 0, locals := 223 }) (some (.object "ShadowSpell$Kind")) (some (.ref out)) h = Q)  : ∀ (n : Nat) (a2 : Nat) (x3 : Int32), J p l e ({ frames := 7, cells := 0, slots := 0, locals := 223 }) s m args below meth c Q w 5 0 0 6 [(0, .ref a0), (1, .int x1), (2, .ref a2), (3, .int x3)] [] h (f_Kd_ofSymbol_b6 w fl a0 x1 h n a2 x3) out := by
  intro n
  induction n with
  | zero => intro a2 x3; exact j_none
  | succ n ih =>
    intro a2 x3
    rw [f_Kd_ofSymbol_b6]
    refine j_iload_n C dX2_ofSymbol_6 (i := 3) rfl rfl ?_
    refine j_all C s_X2_157 dX2_ofSymbol_7 ?_
    refine j_alllen C dX2_ofSymbol_10 ?_
    refine j_icmpge C (tgt := 61) dX2_ofSymbol_11 (by decide) (fun q1001 => ?_) (fun q1001 => ?_)
    · refine j_aload_n C dX2_ofSymbol_61 (i := 2) rfl rfl ?_
      exact e_aretR C hQ hr (by first | exact Or.inl ⟨_, rfl⟩ | exact Or.inr ⟨_, rfl⟩) hlk dX2_ofSymbol_62 (Nat.le_of_ble_eq_true rfl) (Nat.le_of_ble_eq_true rfl)
    · refine j_jn (P := fun (j1009 : Nat → Option (Nat)) => ∀ (u1010 : Nat), J p l e ({ frames := 7, cells := 0, slots := 0, locals := 223 }) s m args below meth c Q w 5 0 0 55 [(0, .ref a0), (1, .int x1), (2, .ref u1010), (3, .int x3)] [] h (j1009 u1010) out) ?_ (fun j1009 hj1009 => ?_)
      · intro u1010
        refine j_iinc C (v := x3 + 1) [(3, _), (0, _), (1, _), (2, _)] dX2_ofSymbol_55 rfl rfl (by decide) rfl ?_
        refine j_goto C (tgt := 6) dX2_ofSymbol_58 (by decide) ?_
        exact j_sub [1, 2, 3, 0] rfl (ih _ _)
      · refine j_all C s_X2_157 dX2_ofSymbol_14 ?_
        refine j_iload_n C dX2_ofSymbol_17 (i := 3) rfl rfl ?_
        refine j_allload C dX2_ofSymbol_18 (fun v1011 ev1011 => ?_)
        refine j_astore C [(4, _), (0, _), (1, _), (2, _), (3, _)] dX2_ofSymbol_19 (by decide) rfl ?_
        refine j_aload C dX2_ofSymbol_21 rfl ?_
        refine j_ktext C s_X2_149 dX2_ofSymbol_23 (fun v1012 ev1012 => ?_)
        refine j_slen C (rest := []) ⟨k_X2_160, Nat.le_of_ble_eq_true rfl, Nat.le_of_ble_eq_true rfl, Nat.le_of_ble_eq_true rfl⟩ (Nat.le_of_ble_eq_true rfl) (Nat.le_of_ble_eq_true rfl) dX2_ofSymbol_26 (fun r1013 er1013 => ?_)
        refine j_aload_n C dX2_ofSymbol_29 (i := 2) rfl rfl ?_
        refine j_ktext C s_X2_149 dX2_ofSymbol_30 (fun v1014 ev1014 => ?_)
        refine j_slen C (rest := [_]) ⟨k_X2_160, Nat.le_of_ble_eq_true rfl, Nat.le_of_ble_eq_true rfl, Nat.le_of_ble_eq_true rfl⟩ (Nat.le_of_ble_eq_true rfl) (Nat.le_of_ble_eq_true rfl) dX2_ofSymbol_33 (fun r1015 er1015 => ?_)
        refine j_icmple C (tgt := 55) dX2_ofSymbol_36 (by decide) (fun q1016 => ?_) (fun q1016 => ?_)
        · exact j_sub [1, 2, 3, 4] rfl (hj1009 _)
        · refine j_aload_n C dX2_ofSymbol_39 (i := 0) rfl rfl ?_
          refine j_iload_n C dX2_ofSymbol_40 (i := 1) rfl rfl ?_
          refine j_aload C dX2_ofSymbol_41 rfl ?_
          refine j_ktext C s_X2_149 dX2_ofSymbol_43 (fun v1017 ev1017 => ?_)
          refine j_callVi C (As := [.int _, .ref _]) (rest := []) k_X2_166 ⟨Nat.le_of_ble_eq_true rfl, Nat.le_of_ble_eq_true rfl⟩ rfl (Nat.le_of_ble_eq_true rfl) ⟨Nat.le_of_ble_eq_true rfl, Nat.le_of_ble_eq_true rfl⟩ rfl dX2_ofSymbol_46 (fun r0 q0 => c_Tp_isAt l w fl _ _ _ _ _ q0) (fun r1018 er1018 nr1018 => ?_)
          refine j_ifeq C (tgt := 55) dX2_ofSymbol_49 (by decide) (fun q1019 => ?_) (fun q1019 => ?_)
          · exact j_sub [1, 2, 3, 4] rfl (hj1009 _)
          · refine j_aload C dX2_ofSymbol_52 rfl ?_
            refine j_astore_n C [(2, _), (4, _), (0, _), (1, _), (3, _)] dX2_ofSymbol_54 (i := 2) rfl (by decide) rfl ?_
            exact j_sub [2, 3, 0, 4] rfl (hj1009 _)
set_option maxRecDepth 100000 in
set_option maxHeartbeats 4000000 in
theorem c_Kd_ofSymbol (l : Launch) (w : hp_W) (fl : Nat) (a0 : Nat) (x1 : Int32) (h : hp_M) (out : Nat) (hX : f_Kd_ofSymbol w fl a0 x1 h = some out) : CT l w yX2_ofSymbol cX2_ofSymbol 5 (some (.object "ShadowSpell$Kind")) ({ frames := 7, cells := 0, slots := 0, locals := 223 }) [.ref a0, .int x1] h (some (.ref out)) h := by
  unfold f_Kd_ofSymbol at hX
  refine ct_of (by decide +kernel) (Nat.le_of_ble_eq_true rfl) hX ?_
  intro p e s m args below meth c Q C hr hlk hnm hQ
  refine j_kind C s_X2_7 (by decide) dX2_ofSymbol_0 ?_
  refine j_astore_n C [(2, _), (0, _), (1, _)] dX2_ofSymbol_3 (i := 2) rfl (by decide) rfl ?_
  refine j_iconst C (v := 0) dX2_ofSymbol_4 (by decide) ?_
  refine j_istore_n C [(3, _), (2, _), (0, _), (1, _)] dX2_ofSymbol_5 (i := 3) rfl (by decide) rfl ?_
  refine j_sub [2, 3, 1, 0] rfl (b_Kd_ofSymbol_6 fl  _ _ _ C hr hlk hnm hQ  _ _ _)
def f_Kd_length (w : hp_W) (a0 : Nat) (h : hp_M) : Option (Int32) := (kText w a0).bind fun v1 => (tLen w v1).bind fun r2 => some r2
set_option maxRecDepth 100000 in
set_option maxHeartbeats 4000000 in
theorem c_Kd_length (l : Launch) (w : hp_W) (a0 : Nat) (h : hp_M) (out : Int32) (hX : f_Kd_length w a0 h = some out) : CT l w yX2_length cX2_length 1 (some .int) ({ frames := 6, cells := 0, slots := 0, locals := 200 }) [.ref a0] h (some (.int out)) h := by
  unfold f_Kd_length at hX
  refine ct_of (by decide +kernel) (Nat.le_of_ble_eq_true rfl) hX ?_
  intro p e s m args below meth c Q C hr hlk hnm hQ
  refine j_aload_n C dX2_length_0 (i := 0) rfl rfl ?_
  refine j_ktext C s_X2_149 dX2_length_1 (fun v1 ev1 => ?_)
  refine j_slen C (rest := []) ⟨k_X2_160, Nat.le_of_ble_eq_true rfl, Nat.le_of_ble_eq_true rfl, Nat.le_of_ble_eq_true rfl⟩ (Nat.le_of_ble_eq_true rfl) (Nat.le_of_ble_eq_true rfl) dX2_length_4 (fun r2 er2 => ?_)
  exact e_iretR C hQ hr rfl hlk dX2_length_7 (Nat.le_of_ble_eq_true rfl) (Nat.le_of_ble_eq_true rfl)
def f_Tp_size (a0 : Nat) (h : hp_M) : Option (Int32) := (gI h a0 8 1).bind fun v1 => some v1
set_option maxRecDepth 100000 in
set_option maxHeartbeats 4000000 in
theorem c_Tp_size (l : Launch) (w : hp_W) (a0 : Nat) (h : hp_M) (out : Int32) (hX : f_Tp_size a0 h = some out) : CT l w yX9_size cX9_size 1 (some .int) ({ frames := 0, cells := 0, slots := 0, locals := 0 }) [.ref a0] h (some (.int out)) h := by
  unfold f_Tp_size at hX
  refine ct_of (by decide +kernel) (Nat.le_of_ble_eq_true rfl) hX ?_
  intro p e s m args below meth c Q C hr hlk hnm hQ
  refine j_aload_n C dX9_size_0 (i := 0) rfl rfl ?_
  refine j_getI C g_X9_13 dX9_size_1 (fun v1 ev1 => ?_)
  exact e_iretR C hQ hr rfl hlk dX9_size_4 (Nat.le_of_ble_eq_true rfl) (Nat.le_of_ble_eq_true rfl)
def f_Tp_at (a0 : Nat) (x1 : Int32) (h : hp_M) : Option (Int32) := jn (some 0) fun (j4 : Option (Int32)) => if x1 < 0 then (j4) else ((gI h a0 8 1).bind fun v6 => if v6 ≤ x1 then (j4) else ((gR h a0 8 0).bind fun v8 => (gaI h v8 x1).bind fun v9 => some v9))
set_option maxRecDepth 100000 in
set_option maxHeartbeats 4000000 in
theorem c_Tp_at (l : Launch) (w : hp_W) (a0 : Nat) (x1 : Int32) (h : hp_M) (out : Int32) (hX : f_Tp_at a0 x1 h = some out) : CT l w yX9_at cX9_at 2 (some .int) ({ frames := 0, cells := 0, slots := 0, locals := 0 }) [.ref a0, .int x1] h (some (.int out)) h := by
  unfold f_Tp_at at hX
  refine ct_of (by decide +kernel) (Nat.le_of_ble_eq_true rfl) hX ?_
  intro p e s m args below meth c Q C hr hlk hnm hQ
  refine j_jn (P := fun j4 => J p l e ({ frames := 0, cells := 0, slots := 0, locals := 0 }) s m args below meth c Q w 2 0 0 21 [] [] h (j4) out) ?_ (fun j4 hj4 => ?_)
  · refine j_iconst C (v := 0) dX9_at_21 (by decide) ?_
    exact e_iretR C hQ hr rfl hlk dX9_at_22 (Nat.le_of_ble_eq_true rfl) (Nat.le_of_ble_eq_true rfl)
  · refine j_iload_n C dX9_at_0 (i := 1) rfl rfl ?_
    refine j_iflt C (tgt := 21) dX9_at_1 (by decide) (fun q5 => ?_) (fun q5 => ?_)
    · exact j_sub [] rfl (hj4)
    · refine j_iload_n C dX9_at_4 (i := 1) rfl rfl ?_
      refine j_aload_n C dX9_at_5 (i := 0) rfl rfl ?_
      refine j_getI C g_X9_13 dX9_at_6 (fun v6 ev6 => ?_)
      refine j_icmpge C (tgt := 21) dX9_at_9 (by decide) (fun q7 => ?_) (fun q7 => ?_)
      · exact j_sub [] rfl (hj4)
      · refine j_aload_n C dX9_at_12 (i := 0) rfl rfl ?_
        refine j_getR C g_X9_9 dX9_at_13 (fun v8 ev8 => ?_)
        refine j_iload_n C dX9_at_16 (i := 1) rfl rfl ?_
        refine j_iaload C dX9_at_17 (fun v9 ev9 => ?_)
        refine j_goto C (tgt := 22) dX9_at_18 (by decide) ?_
        exact e_iretR C hQ hr rfl hlk dX9_at_22 (Nat.le_of_ble_eq_true rfl) (Nat.le_of_ble_eq_true rfl)
def f_Pl_fact (a0 : Nat) (x1 : Int32) (x2 : Int32) (h : hp_M) : Option (Int32) := if x1 = 0 then ((gI h a0 3 0).bind fun v2 => some v2) else if x1 = 1 then ((gI h a0 3 1).bind fun v4 => some v4) else if x1 = 2 then ((gI h a0 3 4).bind fun v6 => some v6) else if x1 = 3 then ((gI h a0 3 6).bind fun v8 => some v8) else if x1 = 4 then ((gI h a0 3 2).bind fun v10 => some v10) else if x1 = 5 then ((gI h a0 3 3).bind fun v12 => some v12) else ((onO h a0 3 (f_Pl_isRetro a0 x2 h)).bind fun r13 => if r13 = 0 then (some 0) else (some 1))
set_option maxRecDepth 100000 in
set_option maxHeartbeats 4000000 in
theorem c_Pl_fact (l : Launch) (w : hp_W) (a0 : Nat) (x1 : Int32) (x2 : Int32) (h : hp_M) (out : Int32) (hX : f_Pl_fact a0 x1 x2 h = some out) : CT l w yX4_fact cX4_fact 3 (some .int) ({ frames := 1, cells := 0, slots := 0, locals := 21 }) [.ref a0, .int x1, .int x2] h (some (.int out)) h := by
  unfold f_Pl_fact at hX
  refine ct_of (by decide +kernel) (Nat.le_of_ble_eq_true rfl) hX ?_
  intro p e s m args below meth c Q C hr hlk hnm hQ
  refine j_iload_n C dX4_fact_0 (i := 1) rfl rfl ?_
  refine j_ite (fun q1 => ?_) (fun q1 => ?_)
  · refine j_tin C (tgt := 40) dX4_fact_1 (by rw [q1]; decide) (by rw [q1]; decide) (by rw [q1]; rfl) (by decide) ?_
    refine j_aload_n C dX4_fact_40 (i := 0) rfl rfl ?_
    refine j_getI C g_X4_13 dX4_fact_41 (fun v2 ev2 => ?_)
    exact e_iretR C hQ hr rfl hlk dX4_fact_44 (Nat.le_of_ble_eq_true rfl) (Nat.le_of_ble_eq_true rfl)
  refine j_ite (fun q3 => ?_) (fun q3 => ?_)
  · refine j_tin C (tgt := 45) dX4_fact_1 (by rw [q3]; decide) (by rw [q3]; decide) (by rw [q3]; rfl) (by decide) ?_
    refine j_aload_n C dX4_fact_45 (i := 0) rfl rfl ?_
    refine j_getI C g_X4_16 dX4_fact_46 (fun v4 ev4 => ?_)
    exact e_iretR C hQ hr rfl hlk dX4_fact_49 (Nat.le_of_ble_eq_true rfl) (Nat.le_of_ble_eq_true rfl)
  refine j_ite (fun q5 => ?_) (fun q5 => ?_)
  · refine j_tin C (tgt := 50) dX4_fact_1 (by rw [q5]; decide) (by rw [q5]; decide) (by rw [q5]; rfl) (by decide) ?_
    refine j_aload_n C dX4_fact_50 (i := 0) rfl rfl ?_
    refine j_getI C g_X4_29 dX4_fact_51 (fun v6 ev6 => ?_)
    exact e_iretR C hQ hr rfl hlk dX4_fact_54 (Nat.le_of_ble_eq_true rfl) (Nat.le_of_ble_eq_true rfl)
  refine j_ite (fun q7 => ?_) (fun q7 => ?_)
  · refine j_tin C (tgt := 55) dX4_fact_1 (by rw [q7]; decide) (by rw [q7]; decide) (by rw [q7]; rfl) (by decide) ?_
    refine j_aload_n C dX4_fact_55 (i := 0) rfl rfl ?_
    refine j_getI C g_X4_22 dX4_fact_56 (fun v8 ev8 => ?_)
    exact e_iretR C hQ hr rfl hlk dX4_fact_59 (Nat.le_of_ble_eq_true rfl) (Nat.le_of_ble_eq_true rfl)
  refine j_ite (fun q9 => ?_) (fun q9 => ?_)
  · refine j_tin C (tgt := 60) dX4_fact_1 (by rw [q9]; decide) (by rw [q9]; decide) (by rw [q9]; rfl) (by decide) ?_
    refine j_aload_n C dX4_fact_60 (i := 0) rfl rfl ?_
    refine j_getI C g_X4_19 dX4_fact_61 (fun v10 ev10 => ?_)
    exact e_iretR C hQ hr rfl hlk dX4_fact_64 (Nat.le_of_ble_eq_true rfl) (Nat.le_of_ble_eq_true rfl)
  refine j_ite (fun q11 => ?_) (fun q11 => ?_)
  · refine j_tin C (tgt := 65) dX4_fact_1 (by rw [q11]; decide) (by rw [q11]; decide) (by rw [q11]; rfl) (by decide) ?_
    refine j_aload_n C dX4_fact_65 (i := 0) rfl rfl ?_
    refine j_getI C g_X4_7 dX4_fact_66 (fun v12 ev12 => ?_)
    exact e_iretR C hQ hr rfl hlk dX4_fact_69 (Nat.le_of_ble_eq_true rfl) (Nat.le_of_ble_eq_true rfl)
  refine j_tout C (tgt := 70) dX4_fact_1 (sw_out 6 (fun i hi => by rcases (show i = 0 ∨ i = 1 ∨ i = 2 ∨ i = 3 ∨ i = 4 ∨ i = 5 by omega) with rfl | rfl | rfl | rfl | rfl | rfl <;> first | exact q1 | exact q3 | exact q5 | exact q7 | exact q9 | exact q11) (by decide) (by decide) (by decide)) (by decide) ?_
  refine j_aload_n C dX4_fact_70 (i := 0) rfl rfl ?_
  refine j_iload_n C dX4_fact_71 (i := 2) rfl rfl ?_
  refine j_callVi C (As := [.int _]) (rest := []) k_X4_35 ⟨Nat.le_of_ble_eq_true rfl, Nat.le_of_ble_eq_true rfl⟩ rfl (Nat.le_of_ble_eq_true rfl) ⟨Nat.le_of_ble_eq_true rfl, Nat.le_of_ble_eq_true rfl⟩ rfl dX4_fact_72 (fun r0 q0 => c_Pl_isRetro l w _ _ _ _ q0) (fun r13 er13 nr13 => ?_)
  refine j_ifeq C (tgt := 82) dX4_fact_75 (by decide) (fun q14 => ?_) (fun q14 => ?_)
  · refine j_iconst C (v := 0) dX4_fact_82 (by decide) ?_
    exact e_iretR C hQ hr rfl hlk dX4_fact_83 (Nat.le_of_ble_eq_true rfl) (Nat.le_of_ble_eq_true rfl)
  · refine j_iconst C (v := 1) dX4_fact_78 (by decide) ?_
    refine j_goto C (tgt := 83) dX4_fact_79 (by decide) ?_
    exact e_iretR C hQ hr rfl hlk dX4_fact_83 (Nat.le_of_ble_eq_true rfl) (Nat.le_of_ble_eq_true rfl)
def f_Pl_turn (a0 : Nat) (x1 : Int32) (h : hp_M) : Option (hp_M) := jn (fun (u7 : Int32) (u8 : Int32) (u9 : Nat) (h10 : hp_M) => (pF h10 u9 3 4 (.int (u8 + u7))).bind fun h11 => (gI h11 a0 3 4).bind fun v12 => if v12 < 360 then ((gI h11 a0 3 4).bind fun v14 => if 0 ≤ v14 then (some h11) else ((gI h11 a0 3 4).bind fun v16 => (pF h11 a0 3 4 (.int (v16 + 360))).bind fun h17 => (gI h17 a0 3 6).bind fun v18 => (pF h17 a0 3 6 (.int (v18 - 1))).bind fun h19 => some h19)) else ((gI h11 a0 3 4).bind fun v20 => (pF h11 a0 3 4 (.int (v20 - 360))).bind fun h21 => (gI h21 a0 3 6).bind fun v22 => (pF h21 a0 3 6 (.int (v22 + 1))).bind fun h23 => some h23)) fun (j6 : Int32 → Int32 → Nat → hp_M → Option (hp_M)) => (gI h a0 3 4).bind fun v24 => (pF h a0 3 5 (.int v24)).bind fun h25 => (gI h25 a0 3 4).bind fun v26 => (onO h25 a0 3 (f_Pl_isRetro a0 x1 h25)).bind fun r27 => if r27 = 0 then ((gI h25 a0 3 1).bind fun v29 => j6 v29 v26 a0 h25) else ((gI h25 a0 3 1).bind fun v30 => j6 (-v30) v26 a0 h25)
set_option maxRecDepth 100000 in
set_option maxHeartbeats 4000000 in
theorem c_Pl_turn (l : Launch) (w : hp_W) (a0 : Nat) (x1 : Int32) (h : hp_M) (out : hp_M) (hX : f_Pl_turn a0 x1 h = some out) : CT l w yX4_turn cX4_turn 2 none ({ frames := 1, cells := 0, slots := 0, locals := 21 }) [.ref a0, .int x1] h none out := by
  unfold f_Pl_turn at hX
  refine ct_of (by decide +kernel) (Nat.le_of_ble_eq_true rfl) hX ?_
  intro p e s m args below meth c Q C hr hlk hnm hQ
  refine j_jn (P := fun (j6 : Int32 → Int32 → Nat → hp_M → Option (hp_M)) => ∀ (u7 : Int32) (u8 : Int32) (u9 : Nat) (h10 : hp_M), J p l e ({ frames := 1, cells := 0, slots := 0, locals := 21 }) s m args below meth c Q w 2 0 0 33 [(0, .ref a0)] [.int u7, .int u8, .ref u9] h10 (j6 u7 u8 u9 h10) out) ?_ (fun j6 hj6 => ?_)
  · intro u7 u8 u9 h10
    refine j_iadd C dX4_turn_33 ?_
    refine j_putI C p_X4_29 (fun q => nomatch q) dX4_turn_34 (fun h11 eh11 => ?_)
    refine j_aload_n C dX4_turn_37 (i := 0) rfl rfl ?_
    refine j_getI C g_X4_29 dX4_turn_38 (fun v12 ev12 => ?_)
    refine j_sipush C (v := 360) dX4_turn_41 (by decide) ?_
    refine j_icmplt C (tgt := 72) dX4_turn_44 (by decide) (fun q13 => ?_) (fun q13 => ?_)
    · refine j_aload_n C dX4_turn_72 (i := 0) rfl rfl ?_
      refine j_getI C g_X4_29 dX4_turn_73 (fun v14 ev14 => ?_)
      refine j_ifge C (tgt := 101) dX4_turn_76 (by decide) (fun q15 => ?_) (fun q15 => ?_)
      · exact e_vretM C hQ hr hlk dX4_turn_101 (Nat.le_of_ble_eq_true rfl) (Nat.le_of_ble_eq_true rfl)
      · refine j_aload_n C dX4_turn_79 (i := 0) rfl rfl ?_
        refine j_dup C dX4_turn_80 rfl ?_
        refine j_getI C g_X4_29 dX4_turn_81 (fun v16 ev16 => ?_)
        refine j_sipush C (v := 360) dX4_turn_84 (by decide) ?_
        refine j_iadd C dX4_turn_87 ?_
        refine j_putI C p_X4_29 (fun q => nomatch q) dX4_turn_88 (fun h17 eh17 => ?_)
        refine j_aload_n C dX4_turn_91 (i := 0) rfl rfl ?_
        refine j_dup C dX4_turn_92 rfl ?_
        refine j_getI C g_X4_22 dX4_turn_93 (fun v18 ev18 => ?_)
        refine j_iconst C (v := 1) dX4_turn_96 (by decide) ?_
        refine j_isub C dX4_turn_97 ?_
        refine j_putI C p_X4_22 (fun q => nomatch q) dX4_turn_98 (fun h19 eh19 => ?_)
        exact e_vretM C hQ hr hlk dX4_turn_101 (Nat.le_of_ble_eq_true rfl) (Nat.le_of_ble_eq_true rfl)
    · refine j_aload_n C dX4_turn_47 (i := 0) rfl rfl ?_
      refine j_dup C dX4_turn_48 rfl ?_
      refine j_getI C g_X4_29 dX4_turn_49 (fun v20 ev20 => ?_)
      refine j_sipush C (v := 360) dX4_turn_52 (by decide) ?_
      refine j_isub C dX4_turn_55 ?_
      refine j_putI C p_X4_29 (fun q => nomatch q) dX4_turn_56 (fun h21 eh21 => ?_)
      refine j_aload_n C dX4_turn_59 (i := 0) rfl rfl ?_
      refine j_dup C dX4_turn_60 rfl ?_
      refine j_getI C g_X4_22 dX4_turn_61 (fun v22 ev22 => ?_)
      refine j_iconst C (v := 1) dX4_turn_64 (by decide) ?_
      refine j_iadd C dX4_turn_65 ?_
      refine j_putI C p_X4_22 (fun q => nomatch q) dX4_turn_66 (fun h23 eh23 => ?_)
      refine j_goto C (tgt := 101) dX4_turn_69 (by decide) ?_
      exact e_vretM C hQ hr hlk dX4_turn_101 (Nat.le_of_ble_eq_true rfl) (Nat.le_of_ble_eq_true rfl)
  · refine j_aload_n C dX4_turn_0 (i := 0) rfl rfl ?_
    refine j_aload_n C dX4_turn_1 (i := 0) rfl rfl ?_
    refine j_getI C g_X4_29 dX4_turn_2 (fun v24 ev24 => ?_)
    refine j_putI C p_X4_32 (fun q => nomatch q) dX4_turn_5 (fun h25 eh25 => ?_)
    refine j_aload_n C dX4_turn_8 (i := 0) rfl rfl ?_
    refine j_dup C dX4_turn_9 rfl ?_
    refine j_getI C g_X4_29 dX4_turn_10 (fun v26 ev26 => ?_)
    refine j_aload_n C dX4_turn_13 (i := 0) rfl rfl ?_
    refine j_iload_n C dX4_turn_14 (i := 1) rfl rfl ?_
    refine j_callVi C (As := [.int _]) (rest := [_, _]) k_X4_35 ⟨Nat.le_of_ble_eq_true rfl, Nat.le_of_ble_eq_true rfl⟩ rfl (Nat.le_of_ble_eq_true rfl) ⟨Nat.le_of_ble_eq_true rfl, Nat.le_of_ble_eq_true rfl⟩ rfl dX4_turn_15 (fun r0 q0 => c_Pl_isRetro l w _ _ _ _ q0) (fun r27 er27 nr27 => ?_)
    refine j_ifeq C (tgt := 29) dX4_turn_18 (by decide) (fun q28 => ?_) (fun q28 => ?_)
    · refine j_aload_n C dX4_turn_29 (i := 0) rfl rfl ?_
      refine j_getI C g_X4_16 dX4_turn_30 (fun v29 ev29 => ?_)
      exact j_sub [0] rfl (hj6 _ _ _ _)
    · refine j_aload_n C dX4_turn_21 (i := 0) rfl rfl ?_
      refine j_getI C g_X4_16 dX4_turn_22 (fun v30 ev30 => ?_)
      refine j_ineg C dX4_turn_25 ?_
      refine j_goto C (tgt := 33) dX4_turn_26 (by decide) ?_
      exact j_sub [0] rfl (hj6 _ _ _ _)
def f_Tp_init (a0 : Nat) (h : hp_M) : Option (hp_M) := (pF (hN h (aI 2000 (fun _ => 0))) a0 8 0 (.ref h.2)).bind fun h1 => some h1
set_option maxRecDepth 100000 in
set_option maxHeartbeats 4000000 in
theorem c_Tp_init (l : Launch) (w : hp_W) (a0 : Nat) (h : hp_M) (out : hp_M) (hX : f_Tp_init a0 h = some out) : CT l w yX9_init cX9_init 1 none ({ frames := 1, cells := 1, slots := 2000, locals := 32 }) [.ref a0] h none out := by
  unfold f_Tp_init at hX
  refine ct_of (by decide +kernel) (Nat.le_of_ble_eq_true rfl) hX ?_
  intro p e s m args below meth c Q C hr hlk hnm hQ
  refine j_aload_n C dX9_init_0 (i := 0) rfl rfl ?_
  refine j_objInit C k_X9_1 k_oi k_oc dX9_init_1 (Nat.le_of_ble_eq_true rfl) (Nat.le_of_ble_eq_true rfl) ?_
  refine j_aload_n C dX9_init_4 (i := 0) rfl rfl ?_
  refine j_sipush C (v := 2000) dX9_init_5 (by decide) ?_
  refine j_newI C (N := 2000) k_arr_int (by decide) (by decide) (Nat.le_of_ble_eq_true rfl) (Nat.le_of_ble_eq_true rfl) (Nat.le_of_ble_eq_true rfl) dX9_init_8 ?_
  refine j_putR C p_X9_9 (fun _ => hnm) dX9_init_10 rfl rfl (fun h1 eh1 => ?_)
  exact e_vretM C hQ hr hlk dX9_init_13 (Nat.le_of_ble_eq_true rfl) (Nat.le_of_ble_eq_true rfl)
def f_Tp_hasRoomFor (a0 : Nat) (x1 : Int32) (h : hp_M) : Option (Int32) := (gI h a0 8 1).bind fun v1 => if 2000 < (v1 + x1) then (some 0) else (some 1)
set_option maxRecDepth 100000 in
set_option maxHeartbeats 4000000 in
theorem c_Tp_hasRoomFor (l : Launch) (w : hp_W) (a0 : Nat) (x1 : Int32) (h : hp_M) (out : Int32) (hX : f_Tp_hasRoomFor a0 x1 h = some out) : CT l w yX9_hasRoomFor cX9_hasRoomFor 2 (some .boolean) ({ frames := 0, cells := 0, slots := 0, locals := 0 }) [.ref a0, .int x1] h (some (.int out)) h := by
  unfold f_Tp_hasRoomFor at hX
  refine ct_of (by decide +kernel) (Nat.le_of_ble_eq_true rfl) hX ?_
  intro p e s m args below meth c Q C hr hlk hnm hQ
  refine j_aload_n C dX9_hasRoomFor_0 (i := 0) rfl rfl ?_
  refine j_getI C g_X9_13 dX9_hasRoomFor_1 (fun v1 ev1 => ?_)
  refine j_iload_n C dX9_hasRoomFor_4 (i := 1) rfl rfl ?_
  refine j_iadd C dX9_hasRoomFor_5 ?_
  refine j_sipush C (v := 2000) dX9_hasRoomFor_6 (by decide) ?_
  refine j_icmpgt C (tgt := 16) dX9_hasRoomFor_9 (by decide) (fun q2 => ?_) (fun q2 => ?_)
  · refine j_iconst C (v := 0) dX9_hasRoomFor_16 (by decide) ?_
    exact e_iretR C hQ hr rfl hlk dX9_hasRoomFor_17 (Nat.le_of_ble_eq_true rfl) (Nat.le_of_ble_eq_true rfl)
  · refine j_iconst C (v := 1) dX9_hasRoomFor_12 (by decide) ?_
    refine j_goto C (tgt := 17) dX9_hasRoomFor_13 (by decide) ?_
    exact e_iretR C hQ hr rfl hlk dX9_hasRoomFor_17 (Nat.le_of_ble_eq_true rfl) (Nat.le_of_ble_eq_true rfl)
def f_Tp_append (a0 : Nat) (x1 : Int32) (h : hp_M) : Option (hp_M) := (gI h a0 8 1).bind fun v1 => if 2000 ≤ v1 then (some h) else ((gR h a0 8 0).bind fun v3 => (gI h a0 8 1).bind fun v4 => (paI h v3 v4 (x1 &&& 255)).bind fun h5 => (gI h5 a0 8 1).bind fun v6 => (pF h5 a0 8 1 (.int (v6 + 1))).bind fun h7 => some h7)
set_option maxRecDepth 100000 in
set_option maxHeartbeats 4000000 in
theorem c_Tp_append (l : Launch) (w : hp_W) (a0 : Nat) (x1 : Int32) (h : hp_M) (out : hp_M) (hX : f_Tp_append a0 x1 h = some out) : CT l w yX9_append cX9_append 2 none ({ frames := 0, cells := 0, slots := 0, locals := 0 }) [.ref a0, .int x1] h none out := by
  unfold f_Tp_append at hX
  refine ct_of (by decide +kernel) (Nat.le_of_ble_eq_true rfl) hX ?_
  intro p e s m args below meth c Q C hr hlk hnm hQ
  refine j_aload_n C dX9_append_0 (i := 0) rfl rfl ?_
  refine j_getI C g_X9_13 dX9_append_1 (fun v1 ev1 => ?_)
  refine j_sipush C (v := 2000) dX9_append_4 (by decide) ?_
  refine j_icmpge C (tgt := 34) dX9_append_7 (by decide) (fun q2 => ?_) (fun q2 => ?_)
  · exact e_vretM C hQ hr hlk dX9_append_34 (Nat.le_of_ble_eq_true rfl) (Nat.le_of_ble_eq_true rfl)
  · refine j_aload_n C dX9_append_10 (i := 0) rfl rfl ?_
    refine j_getR C g_X9_9 dX9_append_11 (fun v3 ev3 => ?_)
    refine j_aload_n C dX9_append_14 (i := 0) rfl rfl ?_
    refine j_getI C g_X9_13 dX9_append_15 (fun v4 ev4 => ?_)
    refine j_iload_n C dX9_append_18 (i := 1) rfl rfl ?_
    refine j_sipush C (v := 255) dX9_append_19 (by decide) ?_
    refine j_iand C dX9_append_22 ?_
    refine j_iastore C dX9_append_23 (fun h5 eh5 => ?_)
    refine j_aload_n C dX9_append_24 (i := 0) rfl rfl ?_
    refine j_dup C dX9_append_25 rfl ?_
    refine j_getI C g_X9_13 dX9_append_26 (fun v6 ev6 => ?_)
    refine j_iconst C (v := 1) dX9_append_29 (by decide) ?_
    refine j_iadd C dX9_append_30 ?_
    refine j_putI C p_X9_13 (fun q => nomatch q) dX9_append_31 (fun h7 eh7 => ?_)
    exact e_vretM C hQ hr hlk dX9_append_34 (Nat.le_of_ble_eq_true rfl) (Nat.le_of_ble_eq_true rfl)
def f_Tp_appendNumber (a0 : Nat) (x1 : Int32) (h : hp_M) : Option (hp_M) := (onO h a0 8 (f_Tp_append a0 (ush x1 24) h)).bind fun h1 => (onO h1 a0 8 (f_Tp_append a0 (ush x1 16) h1)).bind fun h2 => (onO h2 a0 8 (f_Tp_append a0 (ush x1 8) h2)).bind fun h3 => (onO h3 a0 8 (f_Tp_append a0 x1 h3)).bind fun h4 => some h4
set_option maxRecDepth 100000 in
set_option maxHeartbeats 4000000 in
theorem c_Tp_appendNumber (l : Launch) (w : hp_W) (a0 : Nat) (x1 : Int32) (h : hp_M) (out : hp_M) (hX : f_Tp_appendNumber a0 x1 h = some out) : CT l w yX9_appendNumber cX9_appendNumber 2 none ({ frames := 1, cells := 0, slots := 0, locals := 21 }) [.ref a0, .int x1] h none out := by
  unfold f_Tp_appendNumber at hX
  refine ct_of (by decide +kernel) (Nat.le_of_ble_eq_true rfl) hX ?_
  intro p e s m args below meth c Q C hr hlk hnm hQ
  refine j_aload_n C dX9_appendNumber_0 (i := 0) rfl rfl ?_
  refine j_iload_n C dX9_appendNumber_1 (i := 1) rfl rfl ?_
  refine j_bipush C (v := 24) dX9_appendNumber_2 (by decide) ?_
  refine j_iushr C (v := (ush x1 24)) dX9_appendNumber_4 rfl ?_
  refine j_callVv C (As := [.int _]) (rest := []) k_X9_17 ⟨Nat.le_of_ble_eq_true rfl, Nat.le_of_ble_eq_true rfl⟩ rfl (Nat.le_of_ble_eq_true rfl) ⟨Nat.le_of_ble_eq_true rfl, Nat.le_of_ble_eq_true rfl⟩ rfl dX9_appendNumber_5 (fun r0 q0 => c_Tp_append l w _ _ _ _ q0) (fun h1 eh1 _ => ?_)
  refine j_aload_n C dX9_appendNumber_8 (i := 0) rfl rfl ?_
  refine j_iload_n C dX9_appendNumber_9 (i := 1) rfl rfl ?_
  refine j_bipush C (v := 16) dX9_appendNumber_10 (by decide) ?_
  refine j_iushr C (v := (ush x1 16)) dX9_appendNumber_12 rfl ?_
  refine j_callVv C (As := [.int _]) (rest := []) k_X9_17 ⟨Nat.le_of_ble_eq_true rfl, Nat.le_of_ble_eq_true rfl⟩ rfl (Nat.le_of_ble_eq_true rfl) ⟨Nat.le_of_ble_eq_true rfl, Nat.le_of_ble_eq_true rfl⟩ rfl dX9_appendNumber_13 (fun r0 q0 => c_Tp_append l w _ _ _ _ q0) (fun h2 eh2 _ => ?_)
  refine j_aload_n C dX9_appendNumber_16 (i := 0) rfl rfl ?_
  refine j_iload_n C dX9_appendNumber_17 (i := 1) rfl rfl ?_
  refine j_bipush C (v := 8) dX9_appendNumber_18 (by decide) ?_
  refine j_iushr C (v := (ush x1 8)) dX9_appendNumber_20 rfl ?_
  refine j_callVv C (As := [.int _]) (rest := []) k_X9_17 ⟨Nat.le_of_ble_eq_true rfl, Nat.le_of_ble_eq_true rfl⟩ rfl (Nat.le_of_ble_eq_true rfl) ⟨Nat.le_of_ble_eq_true rfl, Nat.le_of_ble_eq_true rfl⟩ rfl dX9_appendNumber_21 (fun r0 q0 => c_Tp_append l w _ _ _ _ q0) (fun h3 eh3 _ => ?_)
  refine j_aload_n C dX9_appendNumber_24 (i := 0) rfl rfl ?_
  refine j_iload_n C dX9_appendNumber_25 (i := 1) rfl rfl ?_
  refine j_callVv C (As := [.int _]) (rest := []) k_X9_17 ⟨Nat.le_of_ble_eq_true rfl, Nat.le_of_ble_eq_true rfl⟩ rfl (Nat.le_of_ble_eq_true rfl) ⟨Nat.le_of_ble_eq_true rfl, Nat.le_of_ble_eq_true rfl⟩ rfl dX9_appendNumber_26 (fun r0 q0 => c_Tp_append l w _ _ _ _ q0) (fun h4 eh4 _ => ?_)
  exact e_vretM C hQ hr hlk dX9_appendNumber_29 (Nat.le_of_ble_eq_true rfl) (Nat.le_of_ble_eq_true rfl)
def f_Tp_keepFirst (a0 : Nat) (x1 : Int32) (h : hp_M) : Option (hp_M) := if x1 < 0 then (some h) else ((gI h a0 8 1).bind fun v2 => if v2 ≤ x1 then (some h) else ((pF h a0 8 1 (.int x1)).bind fun h4 => some h4))
set_option maxRecDepth 100000 in
set_option maxHeartbeats 4000000 in
theorem c_Tp_keepFirst (l : Launch) (w : hp_W) (a0 : Nat) (x1 : Int32) (h : hp_M) (out : hp_M) (hX : f_Tp_keepFirst a0 x1 h = some out) : CT l w yX9_keepFirst cX9_keepFirst 2 none ({ frames := 0, cells := 0, slots := 0, locals := 0 }) [.ref a0, .int x1] h none out := by
  unfold f_Tp_keepFirst at hX
  refine ct_of (by decide +kernel) (Nat.le_of_ble_eq_true rfl) hX ?_
  intro p e s m args below meth c Q C hr hlk hnm hQ
  refine j_iload_n C dX9_keepFirst_0 (i := 1) rfl rfl ?_
  refine j_iflt C (tgt := 17) dX9_keepFirst_1 (by decide) (fun q1 => ?_) (fun q1 => ?_)
  · exact e_vretM C hQ hr hlk dX9_keepFirst_17 (Nat.le_of_ble_eq_true rfl) (Nat.le_of_ble_eq_true rfl)
  · refine j_iload_n C dX9_keepFirst_4 (i := 1) rfl rfl ?_
    refine j_aload_n C dX9_keepFirst_5 (i := 0) rfl rfl ?_
    refine j_getI C g_X9_13 dX9_keepFirst_6 (fun v2 ev2 => ?_)
    refine j_icmpge C (tgt := 17) dX9_keepFirst_9 (by decide) (fun q3 => ?_) (fun q3 => ?_)
    · exact e_vretM C hQ hr hlk dX9_keepFirst_17 (Nat.le_of_ble_eq_true rfl) (Nat.le_of_ble_eq_true rfl)
    · refine j_aload_n C dX9_keepFirst_12 (i := 0) rfl rfl ?_
      refine j_iload_n C dX9_keepFirst_13 (i := 1) rfl rfl ?_
      refine j_putI C p_X9_13 (fun q => nomatch q) dX9_keepFirst_14 (fun h4 eh4 => ?_)
      exact e_vretM C hQ hr hlk dX9_keepFirst_17 (Nat.le_of_ble_eq_true rfl) (Nat.le_of_ble_eq_true rfl)
