def f_Md_gapOf (x0 : Int32) (x1 : Int32) (h : hp_M) : Option (Int32) := (fmI (x0 - x1) 360).bind fun v1 => if v1 ≤ 180 then (some v1) else (some (v1 - 360))
set_option maxRecDepth 100000 in
set_option maxHeartbeats 4000000 in
theorem c_Md_gapOf (l : Launch) (w : hp_W) (x0 : Int32) (x1 : Int32) (h : hp_M) (out : Int32) (hX : f_Md_gapOf x0 x1 h = some out) : CT l w yX13_gapOf cX13_gapOf 3 (some .int) ({ frames := 6, cells := 0, slots := 0, locals := 200 }) [.int x0, .int x1] h (some (.int out)) h := by
  unfold f_Md_gapOf at hX
  refine ct_of (by decide +kernel) (Nat.le_of_ble_eq_true rfl) hX ?_
  intro p e s m args below meth c Q C hr hlk hnm hQ
  refine j_iload_n C dX13_gapOf_0 (i := 0) rfl rfl ?_
  refine j_iload_n C dX13_gapOf_1 (i := 1) rfl rfl ?_
  refine j_isub C dX13_gapOf_2 ?_
  refine j_sipush C (v := 360) dX13_gapOf_3 (by decide) ?_
  refine j_mfm C (rest := []) ⟨k_X13_67, Nat.le_of_ble_eq_true rfl, Nat.le_of_ble_eq_true rfl, Nat.le_of_ble_eq_true rfl⟩ (Nat.le_of_ble_eq_true rfl) (Nat.le_of_ble_eq_true rfl) dX13_gapOf_6 (fun v1 ev1 => ?_)
  refine j_istore_n C [(2, _), (0, _), (1, _)] dX13_gapOf_9 (i := 2) rfl (by decide) rfl ?_
  refine j_iload_n C dX13_gapOf_10 (i := 2) rfl rfl ?_
  refine j_sipush C (v := 180) dX13_gapOf_11 (by decide) ?_
  refine j_icmple C (tgt := 25) dX13_gapOf_14 (by decide) (fun q2 => ?_) (fun q2 => ?_)
  · refine j_iload_n C dX13_gapOf_25 (i := 2) rfl rfl ?_
    exact e_iretR C hQ hr rfl hlk dX13_gapOf_26 (Nat.le_of_ble_eq_true rfl) (Nat.le_of_ble_eq_true rfl)
  · refine j_iload_n C dX13_gapOf_17 (i := 2) rfl rfl ?_
    refine j_sipush C (v := 360) dX13_gapOf_18 (by decide) ?_
    refine j_isub C dX13_gapOf_21 ?_
    refine j_goto C (tgt := 26) dX13_gapOf_22 (by decide) ?_
    exact e_iretR C hQ hr rfl hlk dX13_gapOf_26 (Nat.le_of_ble_eq_true rfl) (Nat.le_of_ble_eq_true rfl)
def f_St_meets (a0 : Nat) (x1 : Int32) (x2 : Int32) (x3 : Int32) (h : hp_M) : Option (Int32) := (gR h a0 10 1).bind fun v1 => (gaI h v1 x1).bind fun v2 => (gR h a0 10 1).bind fun v3 => (gaI h v3 x2).bind fun v4 => (f_Md_gapOf v2 (v4 + x3) h).bind fun r5 => (gR h a0 10 2).bind fun v6 => (gaI h v6 x1).bind fun v7 => (gR h a0 10 2).bind fun v8 => (gaI h v8 x2).bind fun v9 => (f_Md_gapOf v7 (v9 + x3) h).bind fun r10 => if r5 = 0 then (some 1) else (jn (some 0) fun (j12 : Option (Int32)) => jn (if 180 ≤ ((iabs r5) + (iabs r10)) then (j12) else (some 1)) fun (j13 : Option (Int32)) => jn (if r5 ≤ 0 then (j12) else (if 0 ≤ r10 then (j12) else (j13))) fun (j15 : Option (Int32)) => if 0 ≤ r5 then (j15) else (if 0 < r10 then (j13) else (j15)))
set_option maxRecDepth 100000 in
set_option maxHeartbeats 4000000 in
theorem c_St_meets (l : Launch) (w : hp_W) (a0 : Nat) (x1 : Int32) (x2 : Int32) (x3 : Int32) (h : hp_M) (out : Int32) (hX : f_St_meets a0 x1 x2 x3 h = some out) : CT l w yX11_meets cX11_meets 6 (some .boolean) ({ frames := 7, cells := 0, slots := 0, locals := 222 }) [.ref a0, .int x1, .int x2, .int x3] h (some (.int out)) h := by
  unfold f_St_meets at hX
  refine ct_of (by decide +kernel) (Nat.le_of_ble_eq_true rfl) hX ?_
  intro p e s m args below meth c Q C hr hlk hnm hQ
  refine j_aload_n C dX11_meets_0 (i := 0) rfl rfl ?_
  refine j_getR C g_X11_15 dX11_meets_1 (fun v1 ev1 => ?_)
  refine j_iload_n C dX11_meets_4 (i := 1) rfl rfl ?_
  refine j_iaload C dX11_meets_5 (fun v2 ev2 => ?_)
  refine j_aload_n C dX11_meets_6 (i := 0) rfl rfl ?_
  refine j_getR C g_X11_15 dX11_meets_7 (fun v3 ev3 => ?_)
  refine j_iload_n C dX11_meets_10 (i := 2) rfl rfl ?_
  refine j_iaload C dX11_meets_11 (fun v4 ev4 => ?_)
  refine j_iload_n C dX11_meets_12 (i := 3) rfl rfl ?_
  refine j_iadd C dX11_meets_13 ?_
  refine j_callSNi C (As := [.int _, .int _]) (rest := []) k_X11_60 ⟨Nat.le_of_ble_eq_true rfl, Nat.le_of_ble_eq_true rfl⟩ rfl (Nat.le_of_ble_eq_true rfl) ⟨Nat.le_of_ble_eq_true rfl, Nat.le_of_ble_eq_true rfl⟩ rfl dX11_meets_14 (fun r0 q0 => c_Md_gapOf l w _ _ _ _ q0) (fun r5 er5 nr5 => ?_)
  refine j_istore C [(4, _), (0, _), (1, _), (2, _), (3, _)] dX11_meets_17 (by decide) rfl ?_
  refine j_aload_n C dX11_meets_19 (i := 0) rfl rfl ?_
  refine j_getR C g_X11_19 dX11_meets_20 (fun v6 ev6 => ?_)
  refine j_iload_n C dX11_meets_23 (i := 1) rfl rfl ?_
  refine j_iaload C dX11_meets_24 (fun v7 ev7 => ?_)
  refine j_aload_n C dX11_meets_25 (i := 0) rfl rfl ?_
  refine j_getR C g_X11_19 dX11_meets_26 (fun v8 ev8 => ?_)
  refine j_iload_n C dX11_meets_29 (i := 2) rfl rfl ?_
  refine j_iaload C dX11_meets_30 (fun v9 ev9 => ?_)
  refine j_iload_n C dX11_meets_31 (i := 3) rfl rfl ?_
  refine j_iadd C dX11_meets_32 ?_
  refine j_callSNi C (As := [.int _, .int _]) (rest := []) k_X11_60 ⟨Nat.le_of_ble_eq_true rfl, Nat.le_of_ble_eq_true rfl⟩ rfl (Nat.le_of_ble_eq_true rfl) ⟨Nat.le_of_ble_eq_true rfl, Nat.le_of_ble_eq_true rfl⟩ rfl dX11_meets_33 (fun r0 q0 => c_Md_gapOf l w _ _ _ _ q0) (fun r10 er10 nr10 => ?_)
  refine j_istore C [(5, _), (4, _), (0, _), (1, _), (2, _), (3, _)] dX11_meets_36 (by decide) rfl ?_
  refine j_iload C dX11_meets_38 rfl ?_
  refine j_ifne C (tgt := 45) dX11_meets_40 (by decide) (fun q11 => ?_) (fun q11 => ?_)
  · refine j_iconst C (v := 1) dX11_meets_43 (by decide) ?_
    exact e_iretR C hQ hr rfl hlk dX11_meets_44 (Nat.le_of_ble_eq_true rfl) (Nat.le_of_ble_eq_true rfl)
  · refine j_jn (P := fun j12 => J p l e ({ frames := 7, cells := 0, slots := 0, locals := 222 }) s m args below meth c Q w 6 0 0 86 [] [] h (j12) out) ?_ (fun j12 hj12 => ?_)
    · refine j_iconst C (v := 0) dX11_meets_86 (by decide) ?_
      exact e_iretR C hQ hr rfl hlk dX11_meets_87 (Nat.le_of_ble_eq_true rfl) (Nat.le_of_ble_eq_true rfl)
    · refine j_jn (P := fun j13 => J p l e ({ frames := 7, cells := 0, slots := 0, locals := 222 }) s m args below meth c Q w 6 0 0 65 [(4, .int r5), (5, .int r10)] [] h (j13) out) ?_ (fun j13 hj13 => ?_)
      · refine j_iload C dX11_meets_65 rfl ?_
        refine j_mabs C ⟨k_X11_64, Nat.le_of_ble_eq_true rfl, Nat.le_of_ble_eq_true rfl⟩ (Nat.le_of_ble_eq_true rfl) (Nat.le_of_ble_eq_true rfl) dX11_meets_67 ?_
        refine j_iload C dX11_meets_70 rfl ?_
        refine j_mabs C ⟨k_X11_64, Nat.le_of_ble_eq_true rfl, Nat.le_of_ble_eq_true rfl⟩ (Nat.le_of_ble_eq_true rfl) (Nat.le_of_ble_eq_true rfl) dX11_meets_72 ?_
        refine j_iadd C dX11_meets_75 ?_
        refine j_sipush C (v := 180) dX11_meets_76 (by decide) ?_
        refine j_icmpge C (tgt := 86) dX11_meets_79 (by decide) (fun q14 => ?_) (fun q14 => ?_)
        · exact j_sub [] rfl (hj12)
        · refine j_iconst C (v := 1) dX11_meets_82 (by decide) ?_
          refine j_goto C (tgt := 87) dX11_meets_83 (by decide) ?_
          exact e_iretR C hQ hr rfl hlk dX11_meets_87 (Nat.le_of_ble_eq_true rfl) (Nat.le_of_ble_eq_true rfl)
      · refine j_jn (P := fun j15 => J p l e ({ frames := 7, cells := 0, slots := 0, locals := 222 }) s m args below meth c Q w 6 0 0 55 [(4, .int r5), (5, .int r10)] [] h (j15) out) ?_ (fun j15 hj15 => ?_)
        · refine j_iload C dX11_meets_55 rfl ?_
          refine j_ifle C (tgt := 86) dX11_meets_57 (by decide) (fun q16 => ?_) (fun q16 => ?_)
          · exact j_sub [] rfl (hj12)
          · refine j_iload C dX11_meets_60 rfl ?_
            refine j_ifge C (tgt := 86) dX11_meets_62 (by decide) (fun q17 => ?_) (fun q17 => ?_)
            · exact j_sub [] rfl (hj12)
            · exact hj13
        · refine j_iload C dX11_meets_45 rfl ?_
          refine j_ifge C (tgt := 55) dX11_meets_47 (by decide) (fun q18 => ?_) (fun q18 => ?_)
          · exact j_sub [1, 0] rfl (hj15)
          · refine j_iload C dX11_meets_50 rfl ?_
            refine j_ifgt C (tgt := 65) dX11_meets_52 (by decide) (fun q19 => ?_) (fun q19 => ?_)
            · exact j_sub [1, 0] rfl (hj13)
            · exact j_sub [1, 0] rfl (hj15)
def f_St_pairs_b22 (fl : Nat) (a0 : Nat) (x2 : Int32) (h : hp_M) (k60 : Int32 → Option (Int32)) : Nat → Int32 → Int32 → Option (Int32)
  | 0, _, _ => none
  | n + 1, x1, x3 => (gR h a0 10 8).bind fun v2009 => (gR h v2009 12 11).bind fun v2010 => (gI h v2010 11 0).bind fun v2011 => if v2011 ≤ x3 then (k60 x1) else (jn (fun (u2015 : Int32) (u2016 : Int32) => f_St_pairs_b22 fl a0 x2 h k60 n (u2016 + u2015) (x3 + 1)) fun (j2014 : Int32 → Int32 → Option (Int32)) => (onO h a0 10 (f_St_meets a0 x2 x3 0 h)).bind fun r2017 => if r2017 = 0 then (j2014 0 x1) else (j2014 1 x1))
def f_St_pairs_b4 (fl : Nat) (a0 : Nat) (h : hp_M) : Nat → Int32 → Int32 → Option (Int32)
  | 0, _, _ => none
  | n + 1, x1, x2 => (gR h a0 10 8).bind fun v1001 => (gR h v1001 12 11).bind fun v1002 => (gI h v1002 11 0).bind fun v1003 => if v1003 ≤ x2 then (some x1) else (f_St_pairs_b22 fl a0 x2 h (fun (u1005 : Int32) => f_St_pairs_b4 fl a0 h n u1005 (x2 + 1)) fl x1 (x2 + 1))
def f_St_pairs (fl : Nat) (a0 : Nat) (h : hp_M) : Option (Int32) := f_St_pairs_b4 fl a0 h fl 0 0
set_option maxRecDepth 100000 in
set_option maxHeartbeats 4000000 in
theorem b_St_pairs_22 {p : Program} {l : Launch} {e : Env} {s : State} {m : MethodId} {args : Array Value} {below : List Frame} {meth : Method} {c : Code} {Q : State → Prop} {w : hp_W} {out : Int32} (fl : Nat)   (a0 : Nat) (x2 : Int32) (h : hp_M) (k60 : Int32 → Option (Int32)) (C : Cx p m c cX11_pairs 4 s args RX11 w) (hr : meth.sig.returnType = some .int) (hlk : meth.locks = false) (hnm : meth.name = "pairs") (hQ : QM below w args s ({ frames := 8, cells := 0, slots := 0, locals := 247 }) (some .int) (some (.int out)) h = Q) (hk60 : ∀ (z1 : Int32), J p l e ({ frames := 8, cells := 0, slots := 0, locals := 247 }) s m args below meth c Q w 4 0 0 60 [(0, .ref a0), (1, .int z1), (2, .int x2)] [] h (k60 z1) out) : ∀ (n : Nat) (x1 : Int32) (x3 : Int32), J p l e ({ frames := 8, cells := 0, slots := 0, locals := 247 }) s m args below meth c Q w 4 0 0 22 [(0, .ref a0), (1, .int x1), (2, .int x2), (3, .int x3)] [] h (f_St_pairs_b22 fl a0 x2 h k60 n x1 x3) out := by
  intro n
  induction n with
  | zero => intro x1 x3; exact j_none
  | succ n ih =>
    intro x1 x3
    rw [f_St_pairs_b22]
    refine j_iload_n C dX11_pairs_22 (i := 3) rfl rfl ?_
    refine j_aload_n C dX11_pairs_23 (i := 0) rfl rfl ?_
    refine j_getR C g_X11_3 dX11_pairs_24 (fun v2009 ev2009 => ?_)
    refine j_getR C g_X11_51 dX11_pairs_27 (fun v2010 ev2010 => ?_)
    refine j_getI C g_X11_70 dX11_pairs_30 (fun v2011 ev2011 => ?_)
    refine j_icmpge C (tgt := 60) dX11_pairs_33 (by decide) (fun q2012 => ?_) (fun q2012 => ?_)
    · exact j_sub [0, 1, 2] rfl (hk60 _)
    · refine j_jn (P := fun (j2014 : Int32 → Int32 → Option (Int32)) => ∀ (u2015 : Int32) (u2016 : Int32), J p l e ({ frames := 8, cells := 0, slots := 0, locals := 247 }) s m args below meth c Q w 4 0 0 52 [(0, .ref a0), (2, .int x2), (3, .int x3)] [.int u2015, .int u2016] h (j2014 u2015 u2016) out) ?_ (fun j2014 hj2014 => ?_)
      · intro u2015 u2016
        refine j_iadd C dX11_pairs_52 ?_
        refine j_istore_n C [(1, _), (0, _), (2, _), (3, _)] dX11_pairs_53 (i := 1) rfl (by decide) rfl ?_
        refine j_iinc C (v := x3 + 1) [(3, _), (1, _), (0, _), (2, _)] dX11_pairs_54 rfl rfl (by decide) rfl ?_
        refine j_goto C (tgt := 22) dX11_pairs_57 (by decide) ?_
        exact j_sub [2, 1, 3, 0] rfl (ih _ _)
      · refine j_iload_n C dX11_pairs_36 (i := 1) rfl rfl ?_
        refine j_aload_n C dX11_pairs_37 (i := 0) rfl rfl ?_
        refine j_iload_n C dX11_pairs_38 (i := 2) rfl rfl ?_
        refine j_iload_n C dX11_pairs_39 (i := 3) rfl rfl ?_
        refine j_iconst C (v := 0) dX11_pairs_40 (by decide) ?_
        refine j_callVi C (As := [.int _, .int _, .int _]) (rest := [_]) k_X11_73 ⟨Nat.le_of_ble_eq_true rfl, Nat.le_of_ble_eq_true rfl⟩ rfl (Nat.le_of_ble_eq_true rfl) ⟨Nat.le_of_ble_eq_true rfl, Nat.le_of_ble_eq_true rfl⟩ rfl dX11_pairs_41 (fun r0 q0 => c_St_meets l w _ _ _ _ _ _ q0) (fun r2017 er2017 nr2017 => ?_)
        refine j_ifeq C (tgt := 51) dX11_pairs_44 (by decide) (fun q2018 => ?_) (fun q2018 => ?_)
        · refine j_iconst C (v := 0) dX11_pairs_51 (by decide) ?_
          exact j_sub [0, 2, 3] rfl (hj2014 _ _)
        · refine j_iconst C (v := 1) dX11_pairs_47 (by decide) ?_
          refine j_goto C (tgt := 52) dX11_pairs_48 (by decide) ?_
          exact j_sub [0, 2, 3] rfl (hj2014 _ _)
set_option maxRecDepth 100000 in
set_option maxHeartbeats 4000000 in
theorem b_St_pairs_4 {p : Program} {l : Launch} {e : Env} {s : State} {m : MethodId} {args : Array Value} {below : List Frame} {meth : Method} {c : Code} {Q : State → Prop} {w : hp_W} {out : Int32} (fl : Nat)   (a0 : Nat) (h : hp_M) (C : Cx p m c cX11_pairs 4 s args RX11 w) (hr : meth.sig.returnType = some .int) (hlk : meth.locks = false) (hnm : meth.name = "pairs") (hQ : QM below w args s ({ frames := 8, cells := 0, slots := 0, locals := 247 }) (some .int) (some (.int out)) h = Q)  : ∀ (n : Nat) (x1 : Int32) (x2 : Int32), J p l e ({ frames := 8, cells := 0, slots := 0, locals := 247 }) s m args below meth c Q w 4 0 0 4 [(0, .ref a0), (1, .int x1), (2, .int x2)] [] h (f_St_pairs_b4 fl a0 h n x1 x2) out := by
  intro n
  induction n with
  | zero => intro x1 x2; exact j_none
  | succ n ih =>
    intro x1 x2
    rw [f_St_pairs_b4]
    refine j_iload_n C dX11_pairs_4 (i := 2) rfl rfl ?_
    refine j_aload_n C dX11_pairs_5 (i := 0) rfl rfl ?_
    refine j_getR C g_X11_3 dX11_pairs_6 (fun v1001 ev1001 => ?_)
    refine j_getR C g_X11_51 dX11_pairs_9 (fun v1002 ev1002 => ?_)
    refine j_getI C g_X11_70 dX11_pairs_12 (fun v1003 ev1003 => ?_)
    refine j_icmpge C (tgt := 66) dX11_pairs_15 (by decide) (fun q1004 => ?_) (fun q1004 => ?_)
    · refine j_iload_n C dX11_pairs_66 (i := 1) rfl rfl ?_
      exact e_iretR C hQ hr rfl hlk dX11_pairs_67 (Nat.le_of_ble_eq_true rfl) (Nat.le_of_ble_eq_true rfl)
    · refine j_iload_n C dX11_pairs_18 (i := 2) rfl rfl ?_
      refine j_iconst C (v := 1) dX11_pairs_19 (by decide) ?_
      refine j_iadd C dX11_pairs_20 ?_
      refine j_istore_n C [(3, _), (0, _), (1, _), (2, _)] dX11_pairs_21 (i := 3) rfl (by decide) rfl ?_
      refine j_sub [1, 2, 3, 0] rfl (b_St_pairs_22 fl  _ _ _ _ C hr hlk hnm hQ (fun u1005 => ?_) _ _ _)
      refine j_iinc C (v := x2 + 1) [(2, _), (0, _), (1, _)] dX11_pairs_60 rfl rfl (by decide) rfl ?_
      refine j_goto C (tgt := 4) dX11_pairs_63 (by decide) ?_
      exact j_sub [1, 2, 0] rfl (ih _ _)
set_option maxRecDepth 100000 in
set_option maxHeartbeats 4000000 in
theorem c_St_pairs (l : Launch) (w : hp_W) (fl : Nat) (a0 : Nat) (h : hp_M) (out : Int32) (hX : f_St_pairs fl a0 h = some out) : CT l w yX11_pairs cX11_pairs 4 (some .int) ({ frames := 8, cells := 0, slots := 0, locals := 247 }) [.ref a0] h (some (.int out)) h := by
  unfold f_St_pairs at hX
  refine ct_of (by decide +kernel) (Nat.le_of_ble_eq_true rfl) hX ?_
  intro p e s m args below meth c Q C hr hlk hnm hQ
  refine j_iconst C (v := 0) dX11_pairs_0 (by decide) ?_
  refine j_istore_n C [(1, _), (0, _)] dX11_pairs_1 (i := 1) rfl (by decide) rfl ?_
  refine j_iconst C (v := 0) dX11_pairs_2 (by decide) ?_
  refine j_istore_n C [(2, _), (1, _), (0, _)] dX11_pairs_3 (i := 2) rfl (by decide) rfl ?_
  refine j_sub [2, 1, 0] rfl (b_St_pairs_4 fl  _ _ C hr hlk hnm hQ  _ _ _)
def f_St_pushed (a0 : Nat) (x1 : Int32) (x2 : Int32) (x3 : Int32) (h : hp_M) : Option (Int32) := if x1 = 4 then ((onO h a0 10 (f_St_isRetro a0 x2 h)).bind fun r2 => if r2 = 0 then (some 0) else (some 1)) else if x1 = 10 then (jn (some 0) fun (j14 : Option (Int32)) => (onO h a0 10 (f_St_meets a0 x2 x3 0 h)).bind fun r15 => if r15 = 0 then (j14) else ((gR h a0 10 8).bind fun v17 => (gR h v17 12 11).bind fun v18 => (gR h v18 11 1).bind fun v19 => (gaI h v19 (5 * x2)).bind fun v20 => (gR h a0 10 8).bind fun v21 => (gR h v21 12 11).bind fun v22 => (gR h v22 11 1).bind fun v23 => (gaI h v23 (5 * x3)).bind fun v24 => if v24 < v20 then (j14) else (some 1))) else if x1 = 12 then ((gR h a0 10 1).bind fun v27 => (gaI h v27 x2).bind fun v28 => some v28) else if x1 = 13 then ((gR h a0 10 3).bind fun v30 => (gaI h v30 x2).bind fun v31 => some v31) else if x1 = 14 then ((gR h a0 10 1).bind fun v33 => (gaI h v33 x2).bind fun v34 => (gR h a0 10 1).bind fun v35 => (gaI h v35 x3).bind fun v36 => (f_Md_gapOf v34 v36 h).bind fun r37 => some r37) else if x1 = 15 then ((gI h a0 10 0).bind fun v39 => some v39) else if x1 = 16 then ((gI h a0 10 6).bind fun v41 => some v41) else if x1 = 40 then (some x2) else ((onO h a0 10 (f_St_meets a0 x2 x3 180 h)).bind fun r43 => if r43 = 0 then (some 0) else (some 1))
set_option maxRecDepth 100000 in
set_option maxHeartbeats 4000000 in
theorem c_St_pushed (l : Launch) (w : hp_W) (a0 : Nat) (x1 : Int32) (x2 : Int32) (x3 : Int32) (h : hp_M) (out : Int32) (hX : f_St_pushed a0 x1 x2 x3 h = some out) : CT l w yX11_pushed cX11_pushed 4 (some .int) ({ frames := 8, cells := 0, slots := 0, locals := 247 }) [.ref a0, .int x1, .int x2, .int x3] h (some (.int out)) h := by
  unfold f_St_pushed at hX
  refine ct_of (by decide +kernel) (Nat.le_of_ble_eq_true rfl) hX ?_
  intro p e s m args below meth c Q C hr hlk hnm hQ
  refine j_iload_n C dX11_pushed_0 (i := 1) rfl rfl ?_
  refine j_ite (fun q1 => ?_) (fun q1 => ?_)
  · refine j_look C (tgt := 118) dX11_pushed_1 (by decide) (by rw [q1]; first | done | rfl) (by decide) ?_
    refine j_aload_n C dX11_pushed_118 (i := 0) rfl rfl ?_
    refine j_iload_n C dX11_pushed_119 (i := 2) rfl rfl ?_
    refine j_callVi C (As := [.int _]) (rest := []) k_X11_77 ⟨Nat.le_of_ble_eq_true rfl, Nat.le_of_ble_eq_true rfl⟩ rfl (Nat.le_of_ble_eq_true rfl) ⟨Nat.le_of_ble_eq_true rfl, Nat.le_of_ble_eq_true rfl⟩ rfl dX11_pushed_120 (fun r0 q0 => c_St_isRetro l w _ _ _ _ q0) (fun r2 er2 nr2 => ?_)
    refine j_ifeq C (tgt := 130) dX11_pushed_123 (by decide) (fun q3 => ?_) (fun q3 => ?_)
    · refine j_iconst C (v := 0) dX11_pushed_130 (by decide) ?_
      exact e_iretR C hQ hr rfl hlk dX11_pushed_131 (Nat.le_of_ble_eq_true rfl) (Nat.le_of_ble_eq_true rfl)
    · refine j_iconst C (v := 1) dX11_pushed_126 (by decide) ?_
      refine j_goto C (tgt := 131) dX11_pushed_127 (by decide) ?_
      exact e_iretR C hQ hr rfl hlk dX11_pushed_131 (Nat.le_of_ble_eq_true rfl) (Nat.le_of_ble_eq_true rfl)
  refine j_ite (fun q4 => ?_) (fun q4 => ?_)
  · refine j_look C (tgt := 132) dX11_pushed_1 (by decide) (by rw [q4]; first | done | rfl) (by decide) ?_
    refine j_jn (P := fun j14 => J p l e ({ frames := 8, cells := 0, slots := 0, locals := 247 }) s m args below meth c Q w 4 0 0 177 [] [] h (j14) out) ?_ (fun j14 hj14 => ?_)
    · refine j_iconst C (v := 0) dX11_pushed_177 (by decide) ?_
      exact e_iretR C hQ hr rfl hlk dX11_pushed_178 (Nat.le_of_ble_eq_true rfl) (Nat.le_of_ble_eq_true rfl)
    · refine j_aload_n C dX11_pushed_132 (i := 0) rfl rfl ?_
      refine j_iload_n C dX11_pushed_133 (i := 2) rfl rfl ?_
      refine j_iload_n C dX11_pushed_134 (i := 3) rfl rfl ?_
      refine j_iconst C (v := 0) dX11_pushed_135 (by decide) ?_
      refine j_callVi C (As := [.int _, .int _, .int _]) (rest := []) k_X11_73 ⟨Nat.le_of_ble_eq_true rfl, Nat.le_of_ble_eq_true rfl⟩ rfl (Nat.le_of_ble_eq_true rfl) ⟨Nat.le_of_ble_eq_true rfl, Nat.le_of_ble_eq_true rfl⟩ rfl dX11_pushed_136 (fun r0 q0 => c_St_meets l w _ _ _ _ _ _ q0) (fun r15 er15 nr15 => ?_)
      refine j_ifeq C (tgt := 177) dX11_pushed_139 (by decide) (fun q16 => ?_) (fun q16 => ?_)
      · exact j_sub [] rfl (hj14)
      · refine j_aload_n C dX11_pushed_142 (i := 0) rfl rfl ?_
        refine j_getR C g_X11_3 dX11_pushed_143 (fun v17 ev17 => ?_)
        refine j_getR C g_X11_51 dX11_pushed_146 (fun v18 ev18 => ?_)
        refine j_getR C g_X11_55 dX11_pushed_149 (fun v19 ev19 => ?_)
        refine j_iconst C (v := 5) dX11_pushed_152 (by decide) ?_
        refine j_iload_n C dX11_pushed_153 (i := 2) rfl rfl ?_
        refine j_imul C dX11_pushed_154 ?_
        refine j_iaload C dX11_pushed_155 (fun v20 ev20 => ?_)
        refine j_aload_n C dX11_pushed_156 (i := 0) rfl rfl ?_
        refine j_getR C g_X11_3 dX11_pushed_157 (fun v21 ev21 => ?_)
        refine j_getR C g_X11_51 dX11_pushed_160 (fun v22 ev22 => ?_)
        refine j_getR C g_X11_55 dX11_pushed_163 (fun v23 ev23 => ?_)
        refine j_iconst C (v := 5) dX11_pushed_166 (by decide) ?_
        refine j_iload_n C dX11_pushed_167 (i := 3) rfl rfl ?_
        refine j_imul C dX11_pushed_168 ?_
        refine j_iaload C dX11_pushed_169 (fun v24 ev24 => ?_)
        refine j_icmpgt C (tgt := 177) dX11_pushed_170 (by decide) (fun q25 => ?_) (fun q25 => ?_)
        · exact j_sub [] rfl (hj14)
        · refine j_iconst C (v := 1) dX11_pushed_173 (by decide) ?_
          refine j_goto C (tgt := 178) dX11_pushed_174 (by decide) ?_
          exact e_iretR C hQ hr rfl hlk dX11_pushed_178 (Nat.le_of_ble_eq_true rfl) (Nat.le_of_ble_eq_true rfl)
  refine j_ite (fun q26 => ?_) (fun q26 => ?_)
  · refine j_look C (tgt := 88) dX11_pushed_1 (by decide) (by rw [q26]; first | done | rfl) (by decide) ?_
    refine j_aload_n C dX11_pushed_88 (i := 0) rfl rfl ?_
    refine j_getR C g_X11_15 dX11_pushed_89 (fun v27 ev27 => ?_)
    refine j_iload_n C dX11_pushed_92 (i := 2) rfl rfl ?_
    refine j_iaload C dX11_pushed_93 (fun v28 ev28 => ?_)
    exact e_iretR C hQ hr rfl hlk dX11_pushed_94 (Nat.le_of_ble_eq_true rfl) (Nat.le_of_ble_eq_true rfl)
  refine j_ite (fun q29 => ?_) (fun q29 => ?_)
  · refine j_look C (tgt := 95) dX11_pushed_1 (by decide) (by rw [q29]; first | done | rfl) (by decide) ?_
    refine j_aload_n C dX11_pushed_95 (i := 0) rfl rfl ?_
    refine j_getR C g_X11_22 dX11_pushed_96 (fun v30 ev30 => ?_)
    refine j_iload_n C dX11_pushed_99 (i := 2) rfl rfl ?_
    refine j_iaload C dX11_pushed_100 (fun v31 ev31 => ?_)
    exact e_iretR C hQ hr rfl hlk dX11_pushed_101 (Nat.le_of_ble_eq_true rfl) (Nat.le_of_ble_eq_true rfl)
  refine j_ite (fun q32 => ?_) (fun q32 => ?_)
  · refine j_look C (tgt := 102) dX11_pushed_1 (by decide) (by rw [q32]; first | done | rfl) (by decide) ?_
    refine j_aload_n C dX11_pushed_102 (i := 0) rfl rfl ?_
    refine j_getR C g_X11_15 dX11_pushed_103 (fun v33 ev33 => ?_)
    refine j_iload_n C dX11_pushed_106 (i := 2) rfl rfl ?_
    refine j_iaload C dX11_pushed_107 (fun v34 ev34 => ?_)
    refine j_aload_n C dX11_pushed_108 (i := 0) rfl rfl ?_
    refine j_getR C g_X11_15 dX11_pushed_109 (fun v35 ev35 => ?_)
    refine j_iload_n C dX11_pushed_112 (i := 3) rfl rfl ?_
    refine j_iaload C dX11_pushed_113 (fun v36 ev36 => ?_)
    refine j_callSNi C (As := [.int _, .int _]) (rest := []) k_X11_60 ⟨Nat.le_of_ble_eq_true rfl, Nat.le_of_ble_eq_true rfl⟩ rfl (Nat.le_of_ble_eq_true rfl) ⟨Nat.le_of_ble_eq_true rfl, Nat.le_of_ble_eq_true rfl⟩ rfl dX11_pushed_114 (fun r0 q0 => c_Md_gapOf l w _ _ _ _ q0) (fun r37 er37 nr37 => ?_)
    exact e_iretR C hQ hr rfl hlk dX11_pushed_117 (Nat.le_of_ble_eq_true rfl) (Nat.le_of_ble_eq_true rfl)
  refine j_ite (fun q38 => ?_) (fun q38 => ?_)
  · refine j_look C (tgt := 78) dX11_pushed_1 (by decide) (by rw [q38]; first | done | rfl) (by decide) ?_
    refine j_aload_n C dX11_pushed_78 (i := 0) rfl rfl ?_
    refine j_getI C g_X11_40 dX11_pushed_79 (fun v39 ev39 => ?_)
    exact e_iretR C hQ hr rfl hlk dX11_pushed_82 (Nat.le_of_ble_eq_true rfl) (Nat.le_of_ble_eq_true rfl)
  refine j_ite (fun q40 => ?_) (fun q40 => ?_)
  · refine j_look C (tgt := 83) dX11_pushed_1 (by decide) (by rw [q40]; first | done | rfl) (by decide) ?_
    refine j_aload_n C dX11_pushed_83 (i := 0) rfl rfl ?_
    refine j_getI C g_X11_44 dX11_pushed_84 (fun v41 ev41 => ?_)
    exact e_iretR C hQ hr rfl hlk dX11_pushed_87 (Nat.le_of_ble_eq_true rfl) (Nat.le_of_ble_eq_true rfl)
  refine j_ite (fun q42 => ?_) (fun q42 => ?_)
  · refine j_look C (tgt := 76) dX11_pushed_1 (by decide) (by rw [q42]; first | done | rfl) (by decide) ?_
    refine j_iload_n C dX11_pushed_76 (i := 2) rfl rfl ?_
    exact e_iretR C hQ hr rfl hlk dX11_pushed_77 (Nat.le_of_ble_eq_true rfl) (Nat.le_of_ble_eq_true rfl)
  refine j_look C (off := 178) (tgt := 179) dX11_pushed_1 (by decide) (by show Op.lookupswitch.offset [(4, 117), (10, 131), (12, 87), (13, 94), (14, 101), (15, 77), (16, 82), (40, 75)] _ _ = _; rw [lv_osw (a := 4) q1 (by decide), lv_osw (a := 10) q4 (by decide), lv_osw (a := 12) q26 (by decide), lv_osw (a := 13) q29 (by decide), lv_osw (a := 14) q32 (by decide), lv_osw (a := 15) q38 (by decide), lv_osw (a := 16) q40 (by decide), lv_osw (a := 40) q42 (by decide)] <;> rfl) (by decide) ?_
  refine j_aload_n C dX11_pushed_179 (i := 0) rfl rfl ?_
  refine j_iload_n C dX11_pushed_180 (i := 2) rfl rfl ?_
  refine j_iload_n C dX11_pushed_181 (i := 3) rfl rfl ?_
  refine j_sipush C (v := 180) dX11_pushed_182 (by decide) ?_
  refine j_callVi C (As := [.int _, .int _, .int _]) (rest := []) k_X11_73 ⟨Nat.le_of_ble_eq_true rfl, Nat.le_of_ble_eq_true rfl⟩ rfl (Nat.le_of_ble_eq_true rfl) ⟨Nat.le_of_ble_eq_true rfl, Nat.le_of_ble_eq_true rfl⟩ rfl dX11_pushed_185 (fun r0 q0 => c_St_meets l w _ _ _ _ _ _ q0) (fun r43 er43 nr43 => ?_)
  refine j_ifeq C (tgt := 195) dX11_pushed_188 (by decide) (fun q44 => ?_) (fun q44 => ?_)
  · refine j_iconst C (v := 0) dX11_pushed_195 (by decide) ?_
    exact e_iretR C hQ hr rfl hlk dX11_pushed_196 (Nat.le_of_ble_eq_true rfl) (Nat.le_of_ble_eq_true rfl)
  · refine j_iconst C (v := 1) dX11_pushed_191 (by decide) ?_
    refine j_goto C (tgt := 196) dX11_pushed_192 (by decide) ?_
    exact e_iretR C hQ hr rfl hlk dX11_pushed_196 (Nat.le_of_ble_eq_true rfl) (Nat.le_of_ble_eq_true rfl)
def f_Md_both (x0 : Int32) (x1 : Int32) (x2 : Int32) (h : hp_M) : Option (Int32) := jn (some (x1 ||| x2)) fun (j1 : Option (Int32)) => if x0 = 18 then (some (x1 &&& x2)) else if x0 = 19 then (j1) else if x0 = 20 then (some (imin x1 x2)) else if x0 = 21 then (some (imax x1 x2)) else if x0 = 22 then (j1) else if x0 = 23 then (j1) else if x0 = 24 then (j1) else if x0 = 25 then (j1) else if x0 = 26 then (j1) else if x0 = 27 then (j1) else if x0 = 28 then (j1) else if x0 = 29 then (j1) else if x0 = 30 then (j1) else if x0 = 31 then (j1) else if x0 = 32 then (j1) else if x0 = 33 then (j1) else if x0 = 34 then (j1) else if x0 = 35 then (j1) else if x0 = 36 then (j1) else if x0 = 37 then (j1) else if x0 = 38 then (j1) else if x0 = 39 then (j1) else if x0 = 40 then (j1) else if x0 = 41 then (j1) else if x0 = 42 then (some (x1 + x2)) else if x0 = 43 then (some (x1 - x2)) else if x0 = 44 then (some (x1 * x2)) else if x0 = 45 then (if x2 = 0 then (some 0) else ((divI x1 x2).bind fun v31 => some v31)) else if x0 = 46 then (if x2 = 0 then (some 0) else ((remI x1 x2).bind fun v34 => some v34)) else if x0 = 47 then (if x2 ≤ x1 then (some 0) else (some 1)) else if x0 = 48 then (if x1 ≤ x2 then (some 0) else (some 1)) else if x0 = 49 then (if x1 = x2 then (some 1) else (some 0)) else if x0 = 50 then (if x2 < x1 then (some 0) else (some 1)) else if x0 = 51 then (if x1 < x2 then (some 0) else (some 1)) else (j1)
set_option maxRecDepth 100000 in
set_option maxHeartbeats 4000000 in
theorem c_Md_both (l : Launch) (w : hp_W) (x0 : Int32) (x1 : Int32) (x2 : Int32) (h : hp_M) (out : Int32) (hX : f_Md_both x0 x1 x2 h = some out) : CT l w yX13_both cX13_both 3 (some .int) ({ frames := 6, cells := 0, slots := 0, locals := 200 }) [.int x0, .int x1, .int x2] h (some (.int out)) h := by
  unfold f_Md_both at hX
  refine ct_of (by decide +kernel) (Nat.le_of_ble_eq_true rfl) hX ?_
  intro p e s m args below meth c Q C hr hlk hnm hQ
  refine j_jn (P := fun j1 => J p l e ({ frames := 6, cells := 0, slots := 0, locals := 200 }) s m args below meth c Q w 3 0 0 259 [(1, .int x1), (2, .int x2)] [] h (j1) out) ?_ (fun j1 hj1 => ?_)
  · refine j_iload_n C dX13_both_259 (i := 1) rfl rfl ?_
    refine j_iload_n C dX13_both_260 (i := 2) rfl rfl ?_
    refine j_ior C dX13_both_261 ?_
    exact e_iretR C hQ hr rfl hlk dX13_both_262 (Nat.le_of_ble_eq_true rfl) (Nat.le_of_ble_eq_true rfl)
  · refine j_iload_n C dX13_both_0 (i := 0) rfl rfl ?_
    refine j_ite (fun q2 => ?_) (fun q2 => ?_)
    · refine j_tin C (tgt := 255) dX13_both_1 (by rw [q2]; decide) (by rw [q2]; decide) (by rw [q2]; rfl) (by decide) ?_
      refine j_iload_n C dX13_both_255 (i := 1) rfl rfl ?_
      refine j_iload_n C dX13_both_256 (i := 2) rfl rfl ?_
      refine j_iand C dX13_both_257 ?_
      exact e_iretR C hQ hr rfl hlk dX13_both_258 (Nat.le_of_ble_eq_true rfl) (Nat.le_of_ble_eq_true rfl)
    refine j_ite (fun q3 => ?_) (fun q3 => ?_)
    · refine j_tin C (tgt := 259) dX13_both_1 (by rw [q3]; decide) (by rw [q3]; decide) (by rw [q3]; rfl) (by decide) ?_
      exact j_sub [1, 2] rfl (hj1)
    refine j_ite (fun q4 => ?_) (fun q4 => ?_)
    · refine j_tin C (tgt := 188) dX13_both_1 (by rw [q4]; decide) (by rw [q4]; decide) (by rw [q4]; rfl) (by decide) ?_
      refine j_iload_n C dX13_both_188 (i := 1) rfl rfl ?_
      refine j_iload_n C dX13_both_189 (i := 2) rfl rfl ?_
      refine j_mmin C ⟨k_X13_73, Nat.le_of_ble_eq_true rfl, Nat.le_of_ble_eq_true rfl⟩ (Nat.le_of_ble_eq_true rfl) (Nat.le_of_ble_eq_true rfl) dX13_both_190 ?_
      exact e_iretR C hQ hr rfl hlk dX13_both_193 (Nat.le_of_ble_eq_true rfl) (Nat.le_of_ble_eq_true rfl)
    refine j_ite (fun q5 => ?_) (fun q5 => ?_)
    · refine j_tin C (tgt := 194) dX13_both_1 (by rw [q5]; decide) (by rw [q5]; decide) (by rw [q5]; rfl) (by decide) ?_
      refine j_iload_n C dX13_both_194 (i := 1) rfl rfl ?_
      refine j_iload_n C dX13_both_195 (i := 2) rfl rfl ?_
      refine j_mmax C ⟨k_X13_76, Nat.le_of_ble_eq_true rfl, Nat.le_of_ble_eq_true rfl⟩ (Nat.le_of_ble_eq_true rfl) (Nat.le_of_ble_eq_true rfl) dX13_both_196 ?_
      exact e_iretR C hQ hr rfl hlk dX13_both_199 (Nat.le_of_ble_eq_true rfl) (Nat.le_of_ble_eq_true rfl)
    refine j_ite (fun q6 => ?_) (fun q6 => ?_)
    · refine j_tin C (tgt := 259) dX13_both_1 (by rw [q6]; decide) (by rw [q6]; decide) (by rw [q6]; rfl) (by decide) ?_
      exact j_sub [1, 2] rfl (hj1)
    refine j_ite (fun q7 => ?_) (fun q7 => ?_)
    · refine j_tin C (tgt := 259) dX13_both_1 (by rw [q7]; decide) (by rw [q7]; decide) (by rw [q7]; rfl) (by decide) ?_
      exact j_sub [1, 2] rfl (hj1)
    refine j_ite (fun q8 => ?_) (fun q8 => ?_)
    · refine j_tin C (tgt := 259) dX13_both_1 (by rw [q8]; decide) (by rw [q8]; decide) (by rw [q8]; rfl) (by decide) ?_
      exact j_sub [1, 2] rfl (hj1)
    refine j_ite (fun q9 => ?_) (fun q9 => ?_)
    · refine j_tin C (tgt := 259) dX13_both_1 (by rw [q9]; decide) (by rw [q9]; decide) (by rw [q9]; rfl) (by decide) ?_
      exact j_sub [1, 2] rfl (hj1)
    refine j_ite (fun q10 => ?_) (fun q10 => ?_)
    · refine j_tin C (tgt := 259) dX13_both_1 (by rw [q10]; decide) (by rw [q10]; decide) (by rw [q10]; rfl) (by decide) ?_
      exact j_sub [1, 2] rfl (hj1)
    refine j_ite (fun q11 => ?_) (fun q11 => ?_)
    · refine j_tin C (tgt := 259) dX13_both_1 (by rw [q11]; decide) (by rw [q11]; decide) (by rw [q11]; rfl) (by decide) ?_
      exact j_sub [1, 2] rfl (hj1)
    refine j_ite (fun q12 => ?_) (fun q12 => ?_)
    · refine j_tin C (tgt := 259) dX13_both_1 (by rw [q12]; decide) (by rw [q12]; decide) (by rw [q12]; rfl) (by decide) ?_
      exact j_sub [1, 2] rfl (hj1)
    refine j_ite (fun q13 => ?_) (fun q13 => ?_)
    · refine j_tin C (tgt := 259) dX13_both_1 (by rw [q13]; decide) (by rw [q13]; decide) (by rw [q13]; rfl) (by decide) ?_
      exact j_sub [1, 2] rfl (hj1)
    refine j_ite (fun q14 => ?_) (fun q14 => ?_)
    · refine j_tin C (tgt := 259) dX13_both_1 (by rw [q14]; decide) (by rw [q14]; decide) (by rw [q14]; rfl) (by decide) ?_
      exact j_sub [1, 2] rfl (hj1)
    refine j_ite (fun q15 => ?_) (fun q15 => ?_)
    · refine j_tin C (tgt := 259) dX13_both_1 (by rw [q15]; decide) (by rw [q15]; decide) (by rw [q15]; rfl) (by decide) ?_
      exact j_sub [1, 2] rfl (hj1)
    refine j_ite (fun q16 => ?_) (fun q16 => ?_)
    · refine j_tin C (tgt := 259) dX13_both_1 (by rw [q16]; decide) (by rw [q16]; decide) (by rw [q16]; rfl) (by decide) ?_
      exact j_sub [1, 2] rfl (hj1)
    refine j_ite (fun q17 => ?_) (fun q17 => ?_)
    · refine j_tin C (tgt := 259) dX13_both_1 (by rw [q17]; decide) (by rw [q17]; decide) (by rw [q17]; rfl) (by decide) ?_
      exact j_sub [1, 2] rfl (hj1)
    refine j_ite (fun q18 => ?_) (fun q18 => ?_)
    · refine j_tin C (tgt := 259) dX13_both_1 (by rw [q18]; decide) (by rw [q18]; decide) (by rw [q18]; rfl) (by decide) ?_
      exact j_sub [1, 2] rfl (hj1)
    refine j_ite (fun q19 => ?_) (fun q19 => ?_)
    · refine j_tin C (tgt := 259) dX13_both_1 (by rw [q19]; decide) (by rw [q19]; decide) (by rw [q19]; rfl) (by decide) ?_
      exact j_sub [1, 2] rfl (hj1)
    refine j_ite (fun q20 => ?_) (fun q20 => ?_)
    · refine j_tin C (tgt := 259) dX13_both_1 (by rw [q20]; decide) (by rw [q20]; decide) (by rw [q20]; rfl) (by decide) ?_
      exact j_sub [1, 2] rfl (hj1)
    refine j_ite (fun q21 => ?_) (fun q21 => ?_)
    · refine j_tin C (tgt := 259) dX13_both_1 (by rw [q21]; decide) (by rw [q21]; decide) (by rw [q21]; rfl) (by decide) ?_
      exact j_sub [1, 2] rfl (hj1)
    refine j_ite (fun q22 => ?_) (fun q22 => ?_)
    · refine j_tin C (tgt := 259) dX13_both_1 (by rw [q22]; decide) (by rw [q22]; decide) (by rw [q22]; rfl) (by decide) ?_
      exact j_sub [1, 2] rfl (hj1)
    refine j_ite (fun q23 => ?_) (fun q23 => ?_)
    · refine j_tin C (tgt := 259) dX13_both_1 (by rw [q23]; decide) (by rw [q23]; decide) (by rw [q23]; rfl) (by decide) ?_
      exact j_sub [1, 2] rfl (hj1)
    refine j_ite (fun q24 => ?_) (fun q24 => ?_)
    · refine j_tin C (tgt := 259) dX13_both_1 (by rw [q24]; decide) (by rw [q24]; decide) (by rw [q24]; rfl) (by decide) ?_
      exact j_sub [1, 2] rfl (hj1)
    refine j_ite (fun q25 => ?_) (fun q25 => ?_)
    · refine j_tin C (tgt := 259) dX13_both_1 (by rw [q25]; decide) (by rw [q25]; decide) (by rw [q25]; rfl) (by decide) ?_
      exact j_sub [1, 2] rfl (hj1)
    refine j_ite (fun q26 => ?_) (fun q26 => ?_)
    · refine j_tin C (tgt := 152) dX13_both_1 (by rw [q26]; decide) (by rw [q26]; decide) (by rw [q26]; rfl) (by decide) ?_
      refine j_iload_n C dX13_both_152 (i := 1) rfl rfl ?_
      refine j_iload_n C dX13_both_153 (i := 2) rfl rfl ?_
      refine j_iadd C dX13_both_154 ?_
      exact e_iretR C hQ hr rfl hlk dX13_both_155 (Nat.le_of_ble_eq_true rfl) (Nat.le_of_ble_eq_true rfl)
    refine j_ite (fun q27 => ?_) (fun q27 => ?_)
    · refine j_tin C (tgt := 156) dX13_both_1 (by rw [q27]; decide) (by rw [q27]; decide) (by rw [q27]; rfl) (by decide) ?_
      refine j_iload_n C dX13_both_156 (i := 1) rfl rfl ?_
      refine j_iload_n C dX13_both_157 (i := 2) rfl rfl ?_
      refine j_isub C dX13_both_158 ?_
      exact e_iretR C hQ hr rfl hlk dX13_both_159 (Nat.le_of_ble_eq_true rfl) (Nat.le_of_ble_eq_true rfl)
    refine j_ite (fun q28 => ?_) (fun q28 => ?_)
    · refine j_tin C (tgt := 160) dX13_both_1 (by rw [q28]; decide) (by rw [q28]; decide) (by rw [q28]; rfl) (by decide) ?_
      refine j_iload_n C dX13_both_160 (i := 1) rfl rfl ?_
      refine j_iload_n C dX13_both_161 (i := 2) rfl rfl ?_
      refine j_imul C dX13_both_162 ?_
      exact e_iretR C hQ hr rfl hlk dX13_both_163 (Nat.le_of_ble_eq_true rfl) (Nat.le_of_ble_eq_true rfl)
    refine j_ite (fun q29 => ?_) (fun q29 => ?_)
    · refine j_tin C (tgt := 164) dX13_both_1 (by rw [q29]; decide) (by rw [q29]; decide) (by rw [q29]; rfl) (by decide) ?_
      refine j_iload_n C dX13_both_164 (i := 2) rfl rfl ?_
      refine j_ifne C (tgt := 172) dX13_both_165 (by decide) (fun q30 => ?_) (fun q30 => ?_)
      · refine j_iconst C (v := 0) dX13_both_168 (by decide) ?_
        refine j_goto C (tgt := 175) dX13_both_169 (by decide) ?_
        exact e_iretR C hQ hr rfl hlk dX13_both_175 (Nat.le_of_ble_eq_true rfl) (Nat.le_of_ble_eq_true rfl)
      · refine j_iload_n C dX13_both_172 (i := 1) rfl rfl ?_
        refine j_iload_n C dX13_both_173 (i := 2) rfl rfl ?_
        refine j_idiv C dX13_both_174 (fun v31 ev31 => ?_)
        exact e_iretR C hQ hr rfl hlk dX13_both_175 (Nat.le_of_ble_eq_true rfl) (Nat.le_of_ble_eq_true rfl)
    refine j_ite (fun q32 => ?_) (fun q32 => ?_)
    · refine j_tin C (tgt := 176) dX13_both_1 (by rw [q32]; decide) (by rw [q32]; decide) (by rw [q32]; rfl) (by decide) ?_
      refine j_iload_n C dX13_both_176 (i := 2) rfl rfl ?_
      refine j_ifne C (tgt := 184) dX13_both_177 (by decide) (fun q33 => ?_) (fun q33 => ?_)
      · refine j_iconst C (v := 0) dX13_both_180 (by decide) ?_
        refine j_goto C (tgt := 187) dX13_both_181 (by decide) ?_
        exact e_iretR C hQ hr rfl hlk dX13_both_187 (Nat.le_of_ble_eq_true rfl) (Nat.le_of_ble_eq_true rfl)
      · refine j_iload_n C dX13_both_184 (i := 1) rfl rfl ?_
        refine j_iload_n C dX13_both_185 (i := 2) rfl rfl ?_
        refine j_irem C dX13_both_186 (fun v34 ev34 => ?_)
        exact e_iretR C hQ hr rfl hlk dX13_both_187 (Nat.le_of_ble_eq_true rfl) (Nat.le_of_ble_eq_true rfl)
    refine j_ite (fun q35 => ?_) (fun q35 => ?_)
    · refine j_tin C (tgt := 200) dX13_both_1 (by rw [q35]; decide) (by rw [q35]; decide) (by rw [q35]; rfl) (by decide) ?_
      refine j_iload_n C dX13_both_200 (i := 1) rfl rfl ?_
      refine j_iload_n C dX13_both_201 (i := 2) rfl rfl ?_
      refine j_icmpge C (tgt := 209) dX13_both_202 (by decide) (fun q36 => ?_) (fun q36 => ?_)
      · refine j_iconst C (v := 0) dX13_both_209 (by decide) ?_
        exact e_iretR C hQ hr rfl hlk dX13_both_210 (Nat.le_of_ble_eq_true rfl) (Nat.le_of_ble_eq_true rfl)
      · refine j_iconst C (v := 1) dX13_both_205 (by decide) ?_
        refine j_goto C (tgt := 210) dX13_both_206 (by decide) ?_
        exact e_iretR C hQ hr rfl hlk dX13_both_210 (Nat.le_of_ble_eq_true rfl) (Nat.le_of_ble_eq_true rfl)
    refine j_ite (fun q37 => ?_) (fun q37 => ?_)
    · refine j_tin C (tgt := 211) dX13_both_1 (by rw [q37]; decide) (by rw [q37]; decide) (by rw [q37]; rfl) (by decide) ?_
      refine j_iload_n C dX13_both_211 (i := 1) rfl rfl ?_
      refine j_iload_n C dX13_both_212 (i := 2) rfl rfl ?_
      refine j_icmple C (tgt := 220) dX13_both_213 (by decide) (fun q38 => ?_) (fun q38 => ?_)
      · refine j_iconst C (v := 0) dX13_both_220 (by decide) ?_
        exact e_iretR C hQ hr rfl hlk dX13_both_221 (Nat.le_of_ble_eq_true rfl) (Nat.le_of_ble_eq_true rfl)
      · refine j_iconst C (v := 1) dX13_both_216 (by decide) ?_
        refine j_goto C (tgt := 221) dX13_both_217 (by decide) ?_
        exact e_iretR C hQ hr rfl hlk dX13_both_221 (Nat.le_of_ble_eq_true rfl) (Nat.le_of_ble_eq_true rfl)
    refine j_ite (fun q39 => ?_) (fun q39 => ?_)
    · refine j_tin C (tgt := 222) dX13_both_1 (by rw [q39]; decide) (by rw [q39]; decide) (by rw [q39]; rfl) (by decide) ?_
      refine j_iload_n C dX13_both_222 (i := 1) rfl rfl ?_
      refine j_iload_n C dX13_both_223 (i := 2) rfl rfl ?_
      refine j_icmpne C (tgt := 231) dX13_both_224 (by decide) (fun q40 => ?_) (fun q40 => ?_)
      · refine j_iconst C (v := 1) dX13_both_227 (by decide) ?_
        refine j_goto C (tgt := 232) dX13_both_228 (by decide) ?_
        exact e_iretR C hQ hr rfl hlk dX13_both_232 (Nat.le_of_ble_eq_true rfl) (Nat.le_of_ble_eq_true rfl)
      · refine j_iconst C (v := 0) dX13_both_231 (by decide) ?_
        exact e_iretR C hQ hr rfl hlk dX13_both_232 (Nat.le_of_ble_eq_true rfl) (Nat.le_of_ble_eq_true rfl)
    refine j_ite (fun q41 => ?_) (fun q41 => ?_)
    · refine j_tin C (tgt := 233) dX13_both_1 (by rw [q41]; decide) (by rw [q41]; decide) (by rw [q41]; rfl) (by decide) ?_
      refine j_iload_n C dX13_both_233 (i := 1) rfl rfl ?_
      refine j_iload_n C dX13_both_234 (i := 2) rfl rfl ?_
      refine j_icmpgt C (tgt := 242) dX13_both_235 (by decide) (fun q42 => ?_) (fun q42 => ?_)
      · refine j_iconst C (v := 0) dX13_both_242 (by decide) ?_
        exact e_iretR C hQ hr rfl hlk dX13_both_243 (Nat.le_of_ble_eq_true rfl) (Nat.le_of_ble_eq_true rfl)
      · refine j_iconst C (v := 1) dX13_both_238 (by decide) ?_
        refine j_goto C (tgt := 243) dX13_both_239 (by decide) ?_
        exact e_iretR C hQ hr rfl hlk dX13_both_243 (Nat.le_of_ble_eq_true rfl) (Nat.le_of_ble_eq_true rfl)
    refine j_ite (fun q43 => ?_) (fun q43 => ?_)
    · refine j_tin C (tgt := 244) dX13_both_1 (by rw [q43]; decide) (by rw [q43]; decide) (by rw [q43]; rfl) (by decide) ?_
      refine j_iload_n C dX13_both_244 (i := 1) rfl rfl ?_
      refine j_iload_n C dX13_both_245 (i := 2) rfl rfl ?_
      refine j_icmplt C (tgt := 253) dX13_both_246 (by decide) (fun q44 => ?_) (fun q44 => ?_)
      · refine j_iconst C (v := 0) dX13_both_253 (by decide) ?_
        exact e_iretR C hQ hr rfl hlk dX13_both_254 (Nat.le_of_ble_eq_true rfl) (Nat.le_of_ble_eq_true rfl)
      · refine j_iconst C (v := 1) dX13_both_249 (by decide) ?_
        refine j_goto C (tgt := 254) dX13_both_250 (by decide) ?_
        exact e_iretR C hQ hr rfl hlk dX13_both_254 (Nat.le_of_ble_eq_true rfl) (Nat.le_of_ble_eq_true rfl)
    refine j_tout C (tgt := 259) dX13_both_1 (sw_out 34 (fun i hi => by rcases (show i = 0 ∨ i = 1 ∨ i = 2 ∨ i = 3 ∨ i = 4 ∨ i = 5 ∨ i = 6 ∨ i = 7 ∨ i = 8 ∨ i = 9 ∨ i = 10 ∨ i = 11 ∨ i = 12 ∨ i = 13 ∨ i = 14 ∨ i = 15 ∨ i = 16 ∨ i = 17 ∨ i = 18 ∨ i = 19 ∨ i = 20 ∨ i = 21 ∨ i = 22 ∨ i = 23 ∨ i = 24 ∨ i = 25 ∨ i = 26 ∨ i = 27 ∨ i = 28 ∨ i = 29 ∨ i = 30 ∨ i = 31 ∨ i = 32 ∨ i = 33 by omega) with rfl | rfl | rfl | rfl | rfl | rfl | rfl | rfl | rfl | rfl | rfl | rfl | rfl | rfl | rfl | rfl | rfl | rfl | rfl | rfl | rfl | rfl | rfl | rfl | rfl | rfl | rfl | rfl | rfl | rfl | rfl | rfl | rfl | rfl <;> first | exact q2 | exact q3 | exact q4 | exact q5 | exact q6 | exact q7 | exact q8 | exact q9 | exact q10 | exact q11 | exact q12 | exact q13 | exact q14 | exact q15 | exact q16 | exact q17 | exact q18 | exact q19 | exact q20 | exact q21 | exact q22 | exact q23 | exact q24 | exact q25 | exact q26 | exact q27 | exact q28 | exact q29 | exact q32 | exact q35 | exact q37 | exact q39 | exact q41 | exact q43) (by decide) (by decide) (by decide)) (by decide) ?_
    exact j_sub [1, 2] rfl (hj1)
def f_Md_init (a0 : Nat) (h : hp_M) : Option (hp_M) := (pF (hN h (aI 2000 (fun _ => 0))) a0 12 1 (.ref h.2)).bind fun h1 => (pF h1 a0 12 3 (.int (-1))).bind fun h2 => (pF (hN h2 (aI 401 (fun _ => 0))) a0 12 4 (.ref h2.2)).bind fun h3 => (pF (hN h3 (aI 401 (fun _ => 0))) a0 12 5 (.ref h3.2)).bind fun h4 => (pF (hN h4 (aI 401 (fun _ => 0))) a0 12 6 (.ref h4.2)).bind fun h5 => (pF (hN h5 (aI 401 (fun _ => 0))) a0 12 7 (.ref h5.2)).bind fun h6 => (pF (hN h6 (aI 401 (fun _ => 0))) a0 12 8 (.ref h6.2)).bind fun h7 => (f_To_init h7.2 (hN h7 (oC 11 [.int 0, .null, .int 0, .null, .null, .int 0, .null, .null, .null, .null, .int 0, .null, .int 0]))).bind fun h8 => (pF h8 a0 12 11 (.ref h7.2)).bind fun h9 => (gR h9 a0 12 11).bind fun v10 => (pF h9 a0 12 12 (.ref v10)).bind fun h11 => (f_St_init h11.2 a0 (hN h11 (oC 10 [.int 0, .null, .null, .null, .null, .null, .int 0, .null, .null]))).bind fun h12 => (pF h12 a0 12 13 (.ref h11.2)).bind fun h13 => (f_St_init h13.2 a0 (hN h13 (oC 10 [.int 0, .null, .null, .null, .null, .null, .int 0, .null, .null]))).bind fun h14 => (pF h14 a0 12 14 (.ref h13.2)).bind fun h15 => some h15
set_option maxRecDepth 100000 in
set_option maxHeartbeats 4000000 in
theorem c_Md_init (l : Launch) (w : hp_W) (a0 : Nat) (h : hp_M) (out : hp_M) (hX : f_Md_init a0 h = some out) : CT l w yX13_init cX13_init 1 none ({ frames := 2, cells := 29, slots := 7865, locals := 53 }) [.ref a0] h none out := by
  unfold f_Md_init at hX
  refine ct_of (by decide +kernel) (Nat.le_of_ble_eq_true rfl) hX ?_
  intro p e s m args below meth c Q C hr hlk hnm hQ
  refine j_aload_n C dX13_init_0 (i := 0) rfl rfl ?_
  refine j_objInit C k_X13_1 k_oi k_oc dX13_init_1 (Nat.le_of_ble_eq_true rfl) (Nat.le_of_ble_eq_true rfl) ?_
  refine j_aload_n C dX13_init_4 (i := 0) rfl rfl ?_
  refine j_sipush C (v := 2000) dX13_init_5 (by decide) ?_
  refine j_newI C (N := 2000) k_arr_int (by decide) (by decide) (Nat.le_of_ble_eq_true rfl) (Nat.le_of_ble_eq_true rfl) (Nat.le_of_ble_eq_true rfl) dX13_init_8 ?_
  refine j_putR C p_X13_9 (fun _ => hnm) dX13_init_10 rfl rfl (fun h1 eh1 => ?_)
  refine j_aload_n C dX13_init_13 (i := 0) rfl rfl ?_
  refine j_iconst C (v := -1) dX13_init_14 (by decide) ?_
  refine j_putI C p_X13_13 (fun q => nomatch q) dX13_init_15 (fun h2 eh2 => ?_)
  refine j_aload_n C dX13_init_18 (i := 0) rfl rfl ?_
  refine j_sipush C (v := 401) dX13_init_19 (by decide) ?_
  refine j_newI C (N := 401) k_arr_int (by decide) (by decide) (Nat.le_of_ble_eq_true rfl) (Nat.le_of_ble_eq_true rfl) (Nat.le_of_ble_eq_true rfl) dX13_init_22 ?_
  refine j_putR C p_X13_17 (fun _ => hnm) dX13_init_24 rfl rfl (fun h3 eh3 => ?_)
  refine j_aload_n C dX13_init_27 (i := 0) rfl rfl ?_
  refine j_sipush C (v := 401) dX13_init_28 (by decide) ?_
  refine j_newI C (N := 401) k_arr_int (by decide) (by decide) (Nat.le_of_ble_eq_true rfl) (Nat.le_of_ble_eq_true rfl) (Nat.le_of_ble_eq_true rfl) dX13_init_31 ?_
  refine j_putR C p_X13_20 (fun _ => hnm) dX13_init_33 rfl rfl (fun h4 eh4 => ?_)
  refine j_aload_n C dX13_init_36 (i := 0) rfl rfl ?_
  refine j_sipush C (v := 401) dX13_init_37 (by decide) ?_
  refine j_newI C (N := 401) k_arr_int (by decide) (by decide) (Nat.le_of_ble_eq_true rfl) (Nat.le_of_ble_eq_true rfl) (Nat.le_of_ble_eq_true rfl) dX13_init_40 ?_
  refine j_putR C p_X13_23 (fun _ => hnm) dX13_init_42 rfl rfl (fun h5 eh5 => ?_)
  refine j_aload_n C dX13_init_45 (i := 0) rfl rfl ?_
  refine j_sipush C (v := 401) dX13_init_46 (by decide) ?_
  refine j_newI C (N := 401) k_arr_int (by decide) (by decide) (Nat.le_of_ble_eq_true rfl) (Nat.le_of_ble_eq_true rfl) (Nat.le_of_ble_eq_true rfl) dX13_init_49 ?_
  refine j_putR C p_X13_26 (fun _ => hnm) dX13_init_51 rfl rfl (fun h6 eh6 => ?_)
  refine j_aload_n C dX13_init_54 (i := 0) rfl rfl ?_
  refine j_sipush C (v := 401) dX13_init_55 (by decide) ?_
  refine j_newI C (N := 401) k_arr_int (by decide) (by decide) (Nat.le_of_ble_eq_true rfl) (Nat.le_of_ble_eq_true rfl) (Nat.le_of_ble_eq_true rfl) dX13_init_58 ?_
  refine j_putR C p_X13_29 (fun _ => hnm) dX13_init_60 rfl rfl (fun h7 eh7 => ?_)
  refine j_aload_n C dX13_init_63 (i := 0) rfl rfl ?_
  refine j_new C n_X13_32 (Nat.le_of_ble_eq_true rfl) (Nat.le_of_ble_eq_true rfl) dX13_init_64 ?_
  refine j_dup C dX13_init_67 rfl ?_
  refine j_callIN C (As := []) (rest := [_, _]) k_X13_34 ⟨Nat.le_of_ble_eq_true rfl, Nat.le_of_ble_eq_true rfl⟩ rfl (Nat.le_of_ble_eq_true rfl) ⟨Nat.le_of_ble_eq_true rfl, Nat.le_of_ble_eq_true rfl⟩ rfl dX13_init_68 (fun r0 q0 => c_To_init l w _ _ _ q0) (fun h8 eh8 => ?_)
  refine j_putR C p_X13_35 (fun q => nomatch q) dX13_init_71 rfl rfl (fun h9 eh9 => ?_)
  refine j_aload_n C dX13_init_74 (i := 0) rfl rfl ?_
  refine j_aload_n C dX13_init_75 (i := 0) rfl rfl ?_
  refine j_getR C g_X13_35 dX13_init_76 (fun v10 ev10 => ?_)
  refine j_putR C p_X13_39 (fun q => nomatch q) dX13_init_79 rfl rfl (fun h11 eh11 => ?_)
  refine j_aload_n C dX13_init_82 (i := 0) rfl rfl ?_
  refine j_new C n_X13_42 (Nat.le_of_ble_eq_true rfl) (Nat.le_of_ble_eq_true rfl) dX13_init_83 ?_
  refine j_dup C dX13_init_86 rfl ?_
  refine j_aload_n C dX13_init_87 (i := 0) rfl rfl ?_
  refine j_callIN C (As := [.ref _]) (rest := [_, _]) k_X13_44 ⟨Nat.le_of_ble_eq_true rfl, Nat.le_of_ble_eq_true rfl⟩ rfl (Nat.le_of_ble_eq_true rfl) ⟨Nat.le_of_ble_eq_true rfl, Nat.le_of_ble_eq_true rfl⟩ rfl dX13_init_88 (fun r0 q0 => c_St_init l w _ _ _ _ q0) (fun h12 eh12 => ?_)
  refine j_putR C p_X13_47 (fun _ => hnm) dX13_init_91 rfl rfl (fun h13 eh13 => ?_)
  refine j_aload_n C dX13_init_94 (i := 0) rfl rfl ?_
  refine j_new C n_X13_42 (Nat.le_of_ble_eq_true rfl) (Nat.le_of_ble_eq_true rfl) dX13_init_95 ?_
  refine j_dup C dX13_init_98 rfl ?_
  refine j_aload_n C dX13_init_99 (i := 0) rfl rfl ?_
  refine j_callIN C (As := [.ref _]) (rest := [_, _]) k_X13_44 ⟨Nat.le_of_ble_eq_true rfl, Nat.le_of_ble_eq_true rfl⟩ rfl (Nat.le_of_ble_eq_true rfl) ⟨Nat.le_of_ble_eq_true rfl, Nat.le_of_ble_eq_true rfl⟩ rfl dX13_init_100 (fun r0 q0 => c_St_init l w _ _ _ _ q0) (fun h14 eh14 => ?_)
  refine j_putR C p_X13_51 (fun _ => hnm) dX13_init_103 rfl rfl (fun h15 eh15 => ?_)
  exact e_vretM C hQ hr hlk dX13_init_106 (Nat.le_of_ble_eq_true rfl) (Nat.le_of_ble_eq_true rfl)
def f_Md_thrown (a0 : Nat) (h : hp_M) : Option (Int32) := (gI h a0 12 0).bind fun v1 => some v1
set_option maxRecDepth 100000 in
set_option maxHeartbeats 4000000 in
theorem c_Md_thrown (l : Launch) (w : hp_W) (a0 : Nat) (h : hp_M) (out : Int32) (hX : f_Md_thrown a0 h = some out) : CT l w yX13_thrown cX13_thrown 1 (some .int) ({ frames := 0, cells := 0, slots := 0, locals := 0 }) [.ref a0] h (some (.int out)) h := by
  unfold f_Md_thrown at hX
  refine ct_of (by decide +kernel) (Nat.le_of_ble_eq_true rfl) hX ?_
  intro p e s m args below meth c Q C hr hlk hnm hQ
  refine j_aload_n C dX13_thrown_0 (i := 0) rfl rfl ?_
  refine j_getI C g_X13_54 dX13_thrown_1 (fun v1 ev1 => ?_)
  exact e_iretR C hQ hr rfl hlk dX13_thrown_4 (Nat.le_of_ble_eq_true rfl) (Nat.le_of_ble_eq_true rfl)
def f_Md_no (a0 : Nat) (x1 : Int32) (h : hp_M) : Option (Int32 × hp_M) := (pF h a0 12 0 (.int x1)).bind fun h1 => some (0, h1)
set_option maxRecDepth 100000 in
set_option maxHeartbeats 4000000 in
theorem c_Md_no (l : Launch) (w : hp_W) (a0 : Nat) (x1 : Int32) (h : hp_M) (out : Int32 × hp_M) (hX : f_Md_no a0 x1 h = some out) : CT l w yX13_no cX13_no 2 (some .int) ({ frames := 0, cells := 0, slots := 0, locals := 0 }) [.ref a0, .int x1] h (some (.int out.1)) out.2 := by
  unfold f_Md_no at hX
  refine ct_of (by decide +kernel) (Nat.le_of_ble_eq_true rfl) hX ?_
  intro p e s m args below meth c Q C hr hlk hnm hQ
  refine j_aload_n C dX13_no_0 (i := 0) rfl rfl ?_
  refine j_iload_n C dX13_no_1 (i := 1) rfl rfl ?_
  refine j_putI C p_X13_54 (fun q => nomatch q) dX13_no_2 (fun h1 eh1 => ?_)
  refine j_iconst C (v := 0) dX13_no_5 (by decide) ?_
  exact e_iretM C hQ hr rfl hlk dX13_no_6 (Nat.le_of_ble_eq_true rfl) (Nat.le_of_ble_eq_true rfl)
def f_Md_byteOf (a0 : Nat) (x1 : Int32) (h : hp_M) : Option (Int32) := (gI h a0 12 2).bind fun v1 => if v1 ≤ x1 then (some (-1)) else ((gR h a0 12 1).bind fun v3 => (gaI h v3 x1).bind fun v4 => some v4)
set_option maxRecDepth 100000 in
set_option maxHeartbeats 4000000 in
theorem c_Md_byteOf (l : Launch) (w : hp_W) (a0 : Nat) (x1 : Int32) (h : hp_M) (out : Int32) (hX : f_Md_byteOf a0 x1 h = some out) : CT l w yX13_byteOf cX13_byteOf 2 (some .int) ({ frames := 0, cells := 0, slots := 0, locals := 0 }) [.ref a0, .int x1] h (some (.int out)) h := by
  unfold f_Md_byteOf at hX
  refine ct_of (by decide +kernel) (Nat.le_of_ble_eq_true rfl) hX ?_
  intro p e s m args below meth c Q C hr hlk hnm hQ
  refine j_iload_n C dX13_byteOf_0 (i := 1) rfl rfl ?_
  refine j_aload_n C dX13_byteOf_1 (i := 0) rfl rfl ?_
  refine j_getI C g_X13_79 dX13_byteOf_2 (fun v1 ev1 => ?_)
  refine j_icmpge C (tgt := 17) dX13_byteOf_5 (by decide) (fun q2 => ?_) (fun q2 => ?_)
  · refine j_iconst C (v := -1) dX13_byteOf_17 (by decide) ?_
    exact e_iretR C hQ hr rfl hlk dX13_byteOf_18 (Nat.le_of_ble_eq_true rfl) (Nat.le_of_ble_eq_true rfl)
  · refine j_aload_n C dX13_byteOf_8 (i := 0) rfl rfl ?_
    refine j_getR C g_X13_9 dX13_byteOf_9 (fun v3 ev3 => ?_)
    refine j_iload_n C dX13_byteOf_12 (i := 1) rfl rfl ?_
    refine j_iaload C dX13_byteOf_13 (fun v4 ev4 => ?_)
    refine j_goto C (tgt := 18) dX13_byteOf_14 (by decide) ?_
    exact e_iretR C hQ hr rfl hlk dX13_byteOf_18 (Nat.le_of_ble_eq_true rfl) (Nat.le_of_ble_eq_true rfl)
def f_Md_word_b32 (w : hp_W) (fl : Nat) (a0 : Nat) (x1 : Int32) (x2 : Int32) (x3 : Int32) (h : hp_M) (k78 : Int32 → Option (Int32)) : Nat → Int32 → Int32 → Option (Int32)
  | 0, _, _ => none
  | n + 1, x4, x5 => if x4 = 0 then (k78 x4) else (if x2 ≤ x5 then (k78 x4) else (jn (fun (u2017 : Int32) => f_Md_word_b32 w fl a0 x1 x2 x3 h k78 n u2017 (x5 + 1)) fun (j2016 : Int32 → Option (Int32)) => (kWord w x3).bind fun v2018 => (tAt w v2018 x5).bind fun r2019 => (gR h a0 12 1).bind fun v2020 => (gaI h v2020 (x1 + x5)).bind fun v2021 => if r2019 = v2021 then (j2016 1) else (j2016 0)))
def f_Md_word_b2 (w : hp_W) (fl : Nat) (a0 : Nat) (x1 : Int32) (x2 : Int32) (h : hp_M) : Nat → Int32 → Option (Int32)
  | 0, _ => none
  | n + 1, x3 => if 22 ≤ x3 then (some 30) else (jn (fun (u1005 : Int32) => f_Md_word_b32 w fl a0 x1 x2 x3 h (fun (u1006 : Int32) => if u1006 = 0 then (f_Md_word_b2 w fl a0 x1 x2 h n (x3 + 1)) else (some x3)) fl u1005 0) fun (j1004 : Int32 → Option (Int32)) => (kWord w x3).bind fun v1008 => (tLen w v1008).bind fun r1009 => if r1009 = x2 then (j1004 1) else (j1004 0))
def f_Md_word (w : hp_W) (fl : Nat) (a0 : Nat) (x1 : Int32) (x2 : Int32) (h : hp_M) : Option (Int32) := f_Md_word_b2 w fl a0 x1 x2 h fl 0
set_option maxRecDepth 100000 in
set_option maxHeartbeats 4000000 in
theorem b_Md_word_32 {p : Program} {l : Launch} {e : Env} {s : State} {m : MethodId} {args : Array Value} {below : List Frame} {meth : Method} {c : Code} {Q : State → Prop} {w : hp_W} {out : Int32} (fl : Nat)   (a0 : Nat) (x1 : Int32) (x2 : Int32) (x3 : Int32) (h : hp_M) (k78 : Int32 → Option (Int32)) (C : Cx p m c cX13_word 6 s args RX13 w) (hr : meth.sig.returnType = some .int) (hlk : meth.locks = false) (hnm : meth.name = "word") (hQ : QM below w args s ({ frames := 6, cells := 0, slots := 0, locals := 200 }) (some .int) (some (.int out)) h = Q) (hk78 : ∀ (z4 : Int32), J p l e ({ frames := 6, cells := 0, slots := 0, locals := 200 }) s m args below meth c Q w 6 0 0 78 [(0, .ref a0), (1, .int x1), (2, .int x2), (3, .int x3), (4, .int z4)] [] h (k78 z4) out) : ∀ (n : Nat) (x4 : Int32) (x5 : Int32), J p l e ({ frames := 6, cells := 0, slots := 0, locals := 200 }) s m args below meth c Q w 6 0 0 32 [(0, .ref a0), (1, .int x1), (2, .int x2), (3, .int x3), (4, .int x4), (5, .int x5)] [] h (f_Md_word_b32 w fl a0 x1 x2 x3 h k78 n x4 x5) out := by
  intro n
  induction n with
  | zero => intro x4 x5; exact j_none
  | succ n ih =>
    intro x4 x5
    rw [f_Md_word_b32]
    refine j_iload C dX13_word_32 rfl ?_
    refine j_ifeq C (tgt := 78) dX13_word_34 (by decide) (fun q2010 => ?_) (fun q2010 => ?_)
    · exact j_sub [0, 1, 2, 3, 4] rfl (hk78 _)
    · refine j_iload C dX13_word_37 rfl ?_
      refine j_iload_n C dX13_word_39 (i := 2) rfl rfl ?_
      refine j_icmpge C (tgt := 78) dX13_word_40 (by decide) (fun q2011 => ?_) (fun q2011 => ?_)
      · exact j_sub [0, 1, 2, 3, 4] rfl (hk78 _)
      · refine j_jn (P := fun (j2016 : Int32 → Option (Int32)) => ∀ (u2017 : Int32), J p l e ({ frames := 6, cells := 0, slots := 0, locals := 200 }) s m args below meth c Q w 6 0 0 70 [(0, .ref a0), (1, .int x1), (2, .int x2), (3, .int x3), (5, .int x5)] [.int u2017] h (j2016 u2017) out) ?_ (fun j2016 hj2016 => ?_)
        · intro u2017
          refine j_istore C [(4, _), (0, _), (1, _), (2, _), (3, _), (5, _)] dX13_word_70 (by decide) rfl ?_
          refine j_iinc C (v := x5 + 1) [(5, _), (4, _), (0, _), (1, _), (2, _), (3, _)] dX13_word_72 rfl rfl (by decide) rfl ?_
          refine j_goto C (tgt := 32) dX13_word_75 (by decide) ?_
          exact j_sub [2, 3, 4, 5, 1, 0] rfl (ih _ _)
        · refine j_words C s_X13_96 dX13_word_43 ?_
          refine j_iload_n C dX13_word_46 (i := 3) rfl rfl ?_
          refine j_wordload C dX13_word_47 (fun v2018 ev2018 => ?_)
          refine j_iload C dX13_word_48 rfl ?_
          refine j_sat C (rest := []) ⟨k_X13_106, Nat.le_of_ble_eq_true rfl, Nat.le_of_ble_eq_true rfl, Nat.le_of_ble_eq_true rfl⟩ (Nat.le_of_ble_eq_true rfl) (Nat.le_of_ble_eq_true rfl) dX13_word_50 (fun r2019 er2019 => ?_)
          refine j_aload_n C dX13_word_53 (i := 0) rfl rfl ?_
          refine j_getR C g_X13_9 dX13_word_54 (fun v2020 ev2020 => ?_)
          refine j_iload_n C dX13_word_57 (i := 1) rfl rfl ?_
          refine j_iload C dX13_word_58 rfl ?_
          refine j_iadd C dX13_word_60 ?_
          refine j_iaload C dX13_word_61 (fun v2021 ev2021 => ?_)
          refine j_icmpne C (tgt := 69) dX13_word_62 (by decide) (fun q2022 => ?_) (fun q2022 => ?_)
          · refine j_iconst C (v := 1) dX13_word_65 (by decide) ?_
            refine j_goto C (tgt := 70) dX13_word_66 (by decide) ?_
            exact j_sub [0, 1, 2, 3, 5] rfl (hj2016 _)
          · refine j_iconst C (v := 0) dX13_word_69 (by decide) ?_
            exact j_sub [0, 1, 2, 3, 5] rfl (hj2016 _)
set_option maxRecDepth 100000 in
set_option maxHeartbeats 4000000 in
theorem b_Md_word_2 {p : Program} {l : Launch} {e : Env} {s : State} {m : MethodId} {args : Array Value} {below : List Frame} {meth : Method} {c : Code} {Q : State → Prop} {w : hp_W} {out : Int32} (fl : Nat)   (a0 : Nat) (x1 : Int32) (x2 : Int32) (h : hp_M) (C : Cx p m c cX13_word 6 s args RX13 w) (hr : meth.sig.returnType = some .int) (hlk : meth.locks = false) (hnm : meth.name = "word") (hQ : QM below w args s ({ frames := 6, cells := 0, slots := 0, locals := 200 }) (some .int) (some (.int out)) h = Q)  : ∀ (n : Nat) (x3 : Int32), J p l e ({ frames := 6, cells := 0, slots := 0, locals := 200 }) s m args below meth c Q w 6 0 0 2 [(0, .ref a0), (1, .int x1), (2, .int x2), (3, .int x3)] [] h (f_Md_word_b2 w fl a0 x1 x2 h n x3) out := by
  intro n
  induction n with
  | zero => intro x3; exact j_none
  | succ n ih =>
    intro x3
    rw [f_Md_word_b2]
    refine j_iload_n C dX13_word_2 (i := 3) rfl rfl ?_
    refine j_words C s_X13_96 dX13_word_3 ?_
    refine j_wordlen C dX13_word_6 ?_
    refine j_icmpge C (tgt := 91) dX13_word_7 (by decide) (fun q1001 => ?_) (fun q1001 => ?_)
    · refine j_bipush C (v := 30) dX13_word_91 (by decide) ?_
      exact e_iretR C hQ hr rfl hlk dX13_word_93 (Nat.le_of_ble_eq_true rfl) (Nat.le_of_ble_eq_true rfl)
    · refine j_jn (P := fun (j1004 : Int32 → Option (Int32)) => ∀ (u1005 : Int32), J p l e ({ frames := 6, cells := 0, slots := 0, locals := 200 }) s m args below meth c Q w 6 0 0 27 [(0, .ref a0), (1, .int x1), (2, .int x2), (3, .int x3)] [.int u1005] h (j1004 u1005) out) ?_ (fun j1004 hj1004 => ?_)
      · intro u1005
        refine j_istore C [(4, _), (0, _), (1, _), (2, _), (3, _)] dX13_word_27 (by decide) rfl ?_
        refine j_iconst C (v := 0) dX13_word_29 (by decide) ?_
        refine j_istore C [(5, _), (4, _), (0, _), (1, _), (2, _), (3, _)] dX13_word_30 (by decide) rfl ?_
        refine j_sub [2, 3, 4, 5, 1, 0] rfl (b_Md_word_32 fl  _ _ _ _ _ _ C hr hlk hnm hQ (fun u1006 => ?_) _ _ _)
        refine j_iload C dX13_word_78 rfl ?_
        refine j_ifeq C (tgt := 85) dX13_word_80 (by decide) (fun q1007 => ?_) (fun q1007 => ?_)
        · refine j_iinc C (v := x3 + 1) [(3, _), (0, _), (1, _), (2, _), (4, _)] dX13_word_85 rfl rfl (by decide) rfl ?_
          refine j_goto C (tgt := 2) dX13_word_88 (by decide) ?_
          exact j_sub [1, 2, 3, 0] rfl (ih _)
        · refine j_iload_n C dX13_word_83 (i := 3) rfl rfl ?_
          exact e_iretR C hQ hr rfl hlk dX13_word_84 (Nat.le_of_ble_eq_true rfl) (Nat.le_of_ble_eq_true rfl)
      · refine j_words C s_X13_96 dX13_word_10 ?_
        refine j_iload_n C dX13_word_13 (i := 3) rfl rfl ?_
        refine j_wordload C dX13_word_14 (fun v1008 ev1008 => ?_)
        refine j_slen C (rest := []) ⟨k_X13_100, Nat.le_of_ble_eq_true rfl, Nat.le_of_ble_eq_true rfl, Nat.le_of_ble_eq_true rfl⟩ (Nat.le_of_ble_eq_true rfl) (Nat.le_of_ble_eq_true rfl) dX13_word_15 (fun r1009 er1009 => ?_)
        refine j_iload_n C dX13_word_18 (i := 2) rfl rfl ?_
        refine j_icmpne C (tgt := 26) dX13_word_19 (by decide) (fun q1010 => ?_) (fun q1010 => ?_)
        · refine j_iconst C (v := 1) dX13_word_22 (by decide) ?_
          refine j_goto C (tgt := 27) dX13_word_23 (by decide) ?_
          exact hj1004 _
        · refine j_iconst C (v := 0) dX13_word_26 (by decide) ?_
          exact hj1004 _
set_option maxRecDepth 100000 in
set_option maxHeartbeats 4000000 in
theorem c_Md_word (l : Launch) (w : hp_W) (fl : Nat) (a0 : Nat) (x1 : Int32) (x2 : Int32) (h : hp_M) (out : Int32) (hX : f_Md_word w fl a0 x1 x2 h = some out) : CT l w yX13_word cX13_word 6 (some .int) ({ frames := 6, cells := 0, slots := 0, locals := 200 }) [.ref a0, .int x1, .int x2] h (some (.int out)) h := by
  unfold f_Md_word at hX
  refine ct_of (by decide +kernel) (Nat.le_of_ble_eq_true rfl) hX ?_
  intro p e s m args below meth c Q C hr hlk hnm hQ
  refine j_iconst C (v := 0) dX13_word_0 (by decide) ?_
  refine j_istore_n C [(3, _), (0, _), (1, _), (2, _)] dX13_word_1 (i := 3) rfl (by decide) rfl ?_
  refine j_sub [1, 2, 3, 0] rfl (b_Md_word_2 fl  _ _ _ _ C hr hlk hnm hQ  _ _)
def f_Md_put (a0 : Nat) (x1 : Int32) (h : hp_M) : Option (hp_M) := (gR h a0 12 12).bind fun v1 => (gR h v1 11 9).bind fun v2 => (gR h a0 12 12).bind fun v3 => (gI h v3 11 10).bind fun v4 => (paI h v2 v4 x1).bind fun h5 => (gR h5 a0 12 12).bind fun v6 => (gI h5 v6 11 10).bind fun v7 => (pF h5 v6 11 10 (.int (v7 + 1))).bind fun h8 => some h8
set_option maxRecDepth 100000 in
set_option maxHeartbeats 4000000 in
theorem c_Md_put (l : Launch) (w : hp_W) (a0 : Nat) (x1 : Int32) (h : hp_M) (out : hp_M) (hX : f_Md_put a0 x1 h = some out) : CT l w yX13_put cX13_put 2 none ({ frames := 0, cells := 0, slots := 0, locals := 0 }) [.ref a0, .int x1] h none out := by
  unfold f_Md_put at hX
  refine ct_of (by decide +kernel) (Nat.le_of_ble_eq_true rfl) hX ?_
  intro p e s m args below meth c Q C hr hlk hnm hQ
  refine j_aload_n C dX13_put_0 (i := 0) rfl rfl ?_
  refine j_getR C g_X13_39 dX13_put_1 (fun v1 ev1 => ?_)
  refine j_getR C g_X13_122 dX13_put_4 (fun v2 ev2 => ?_)
  refine j_aload_n C dX13_put_7 (i := 0) rfl rfl ?_
  refine j_getR C g_X13_39 dX13_put_8 (fun v3 ev3 => ?_)
  refine j_getI C g_X13_125 dX13_put_11 (fun v4 ev4 => ?_)
  refine j_iload_n C dX13_put_14 (i := 1) rfl rfl ?_
  refine j_iastore C dX13_put_15 (fun h5 eh5 => ?_)
  refine j_aload_n C dX13_put_16 (i := 0) rfl rfl ?_
  refine j_getR C g_X13_39 dX13_put_17 (fun v6 ev6 => ?_)
  refine j_dup C dX13_put_20 rfl ?_
  refine j_getI C g_X13_125 dX13_put_21 (fun v7 ev7 => ?_)
  refine j_iconst C (v := 1) dX13_put_24 (by decide) ?_
  refine j_iadd C dX13_put_25 ?_
  refine j_putI C p_X13_125 (fun q => nomatch q) dX13_put_26 (fun h8 eh8 => ?_)
  exact e_vretM C hQ hr hlk dX13_put_29 (Nat.le_of_ble_eq_true rfl) (Nat.le_of_ble_eq_true rfl)
def f_Md_putToken (a0 : Nat) (x1 : Int32) (h : hp_M) : Option (hp_M) := (gR h a0 12 12).bind fun v1 => (gR h v1 11 11).bind fun v2 => (gR h a0 12 12).bind fun v3 => (gI h v3 11 12).bind fun v4 => (gR h a0 12 12).bind fun v5 => (gI h v5 11 10).bind fun v6 => (paI h v2 v4 v6).bind fun h7 => (gR h7 a0 12 12).bind fun v8 => (gI h7 v8 11 12).bind fun v9 => (pF h7 v8 11 12 (.int (v9 + 1))).bind fun h10 => (onO h10 a0 12 (f_Md_put a0 x1 h10)).bind fun h11 => some h11
set_option maxRecDepth 100000 in
set_option maxHeartbeats 4000000 in
theorem c_Md_putToken (l : Launch) (w : hp_W) (a0 : Nat) (x1 : Int32) (h : hp_M) (out : hp_M) (hX : f_Md_putToken a0 x1 h = some out) : CT l w yX13_putToken cX13_putToken 2 none ({ frames := 1, cells := 0, slots := 0, locals := 21 }) [.ref a0, .int x1] h none out := by
  unfold f_Md_putToken at hX
  refine ct_of (by decide +kernel) (Nat.le_of_ble_eq_true rfl) hX ?_
  intro p e s m args below meth c Q C hr hlk hnm hQ
  refine j_aload_n C dX13_putToken_0 (i := 0) rfl rfl ?_
  refine j_getR C g_X13_39 dX13_putToken_1 (fun v1 ev1 => ?_)
  refine j_getR C g_X13_127 dX13_putToken_4 (fun v2 ev2 => ?_)
  refine j_aload_n C dX13_putToken_7 (i := 0) rfl rfl ?_
  refine j_getR C g_X13_39 dX13_putToken_8 (fun v3 ev3 => ?_)
  refine j_getI C g_X13_130 dX13_putToken_11 (fun v4 ev4 => ?_)
  refine j_aload_n C dX13_putToken_14 (i := 0) rfl rfl ?_
  refine j_getR C g_X13_39 dX13_putToken_15 (fun v5 ev5 => ?_)
  refine j_getI C g_X13_125 dX13_putToken_18 (fun v6 ev6 => ?_)
  refine j_iastore C dX13_putToken_21 (fun h7 eh7 => ?_)
  refine j_aload_n C dX13_putToken_22 (i := 0) rfl rfl ?_
  refine j_getR C g_X13_39 dX13_putToken_23 (fun v8 ev8 => ?_)
  refine j_dup C dX13_putToken_26 rfl ?_
  refine j_getI C g_X13_130 dX13_putToken_27 (fun v9 ev9 => ?_)
  refine j_iconst C (v := 1) dX13_putToken_30 (by decide) ?_
  refine j_iadd C dX13_putToken_31 ?_
  refine j_putI C p_X13_130 (fun q => nomatch q) dX13_putToken_32 (fun h10 eh10 => ?_)
  refine j_aload_n C dX13_putToken_35 (i := 0) rfl rfl ?_
  refine j_iload_n C dX13_putToken_36 (i := 1) rfl rfl ?_
  refine j_callVv C (As := [.int _]) (rest := []) k_X13_133 ⟨Nat.le_of_ble_eq_true rfl, Nat.le_of_ble_eq_true rfl⟩ rfl (Nat.le_of_ble_eq_true rfl) ⟨Nat.le_of_ble_eq_true rfl, Nat.le_of_ble_eq_true rfl⟩ rfl dX13_putToken_37 (fun r0 q0 => c_Md_put l w _ _ _ _ q0) (fun h11 eh11 _ => ?_)
  exact e_vretM C hQ hr hlk dX13_putToken_40 (Nat.le_of_ble_eq_true rfl) (Nat.le_of_ble_eq_true rfl)
def f_Md_numberAt_b4 (fl : Nat) (a0 : Nat) (x1 : Int32) (h : hp_M) : Nat → Int32 → Int32 → Option (Int32)
  | 0, _, _ => none
  | n + 1, x2, x3 => (gR h a0 12 6).bind fun v1001 => (gaI h v1001 x1).bind fun v1002 => if v1002 ≤ x3 then (some x2) else ((gR h a0 12 1).bind fun v1004 => (gR h a0 12 5).bind fun v1005 => (gaI h v1005 x1).bind fun v1006 => (gaI h v1004 (v1006 + x3)).bind fun v1007 => f_Md_numberAt_b4 fl a0 x1 h n (((10 * x2) + v1007) - 48) (x3 + 1))
def f_Md_numberAt (fl : Nat) (a0 : Nat) (x1 : Int32) (h : hp_M) : Option (Int32) := f_Md_numberAt_b4 fl a0 x1 h fl 0 0
set_option maxRecDepth 100000 in
set_option maxHeartbeats 4000000 in
theorem b_Md_numberAt_4 {p : Program} {l : Launch} {e : Env} {s : State} {m : MethodId} {args : Array Value} {below : List Frame} {meth : Method} {c : Code} {Q : State → Prop} {w : hp_W} {out : Int32} (fl : Nat)   (a0 : Nat) (x1 : Int32) (h : hp_M) (C : Cx p m c cX13_numberAt 4 s args RX13 w) (hr : meth.sig.returnType = some .int) (hlk : meth.locks = false) (hnm : meth.name = "numberAt") (hQ : QM below w args s ({ frames := 0, cells := 0, slots := 0, locals := 0 }) (some .int) (some (.int out)) h = Q)  : ∀ (n : Nat) (x2 : Int32) (x3 : Int32), J p l e ({ frames := 0, cells := 0, slots := 0, locals := 0 }) s m args below meth c Q w 4 0 0 4 [(0, .ref a0), (1, .int x1), (2, .int x2), (3, .int x3)] [] h (f_Md_numberAt_b4 fl a0 x1 h n x2 x3) out := by
  intro n
  induction n with
  | zero => intro x2 x3; exact j_none
  | succ n ih =>
    intro x2 x3
    rw [f_Md_numberAt_b4]
    refine j_iload_n C dX13_numberAt_4 (i := 3) rfl rfl ?_
    refine j_aload_n C dX13_numberAt_5 (i := 0) rfl rfl ?_
    refine j_getR C g_X13_23 dX13_numberAt_6 (fun v1001 ev1001 => ?_)
    refine j_iload_n C dX13_numberAt_9 (i := 1) rfl rfl ?_
    refine j_iaload C dX13_numberAt_10 (fun v1002 ev1002 => ?_)
    refine j_icmpge C (tgt := 42) dX13_numberAt_11 (by decide) (fun q1003 => ?_) (fun q1003 => ?_)
    · refine j_iload_n C dX13_numberAt_42 (i := 2) rfl rfl ?_
      exact e_iretR C hQ hr rfl hlk dX13_numberAt_43 (Nat.le_of_ble_eq_true rfl) (Nat.le_of_ble_eq_true rfl)
    · refine j_bipush C (v := 10) dX13_numberAt_14 (by decide) ?_
      refine j_iload_n C dX13_numberAt_16 (i := 2) rfl rfl ?_
      refine j_imul C dX13_numberAt_17 ?_
      refine j_aload_n C dX13_numberAt_18 (i := 0) rfl rfl ?_
      refine j_getR C g_X13_9 dX13_numberAt_19 (fun v1004 ev1004 => ?_)
      refine j_aload_n C dX13_numberAt_22 (i := 0) rfl rfl ?_
      refine j_getR C g_X13_20 dX13_numberAt_23 (fun v1005 ev1005 => ?_)
      refine j_iload_n C dX13_numberAt_26 (i := 1) rfl rfl ?_
      refine j_iaload C dX13_numberAt_27 (fun v1006 ev1006 => ?_)
      refine j_iload_n C dX13_numberAt_28 (i := 3) rfl rfl ?_
      refine j_iadd C dX13_numberAt_29 ?_
      refine j_iaload C dX13_numberAt_30 (fun v1007 ev1007 => ?_)
      refine j_iadd C dX13_numberAt_31 ?_
      refine j_bipush C (v := 48) dX13_numberAt_32 (by decide) ?_
      refine j_isub C dX13_numberAt_34 ?_
      refine j_istore_n C [(2, _), (0, _), (1, _), (3, _)] dX13_numberAt_35 (i := 2) rfl (by decide) rfl ?_
      refine j_iinc C (v := x3 + 1) [(3, _), (2, _), (0, _), (1, _)] dX13_numberAt_36 rfl rfl (by decide) rfl ?_
      refine j_goto C (tgt := 4) dX13_numberAt_39 (by decide) ?_
      exact j_sub [2, 3, 1, 0] rfl (ih _ _)
set_option maxRecDepth 100000 in
set_option maxHeartbeats 4000000 in
theorem c_Md_numberAt (l : Launch) (w : hp_W) (fl : Nat) (a0 : Nat) (x1 : Int32) (h : hp_M) (out : Int32) (hX : f_Md_numberAt fl a0 x1 h = some out) : CT l w yX13_numberAt cX13_numberAt 4 (some .int) ({ frames := 0, cells := 0, slots := 0, locals := 0 }) [.ref a0, .int x1] h (some (.int out)) h := by
  unfold f_Md_numberAt at hX
  refine ct_of (by decide +kernel) (Nat.le_of_ble_eq_true rfl) hX ?_
  intro p e s m args below meth c Q C hr hlk hnm hQ
  refine j_iconst C (v := 0) dX13_numberAt_0 (by decide) ?_
  refine j_istore_n C [(2, _), (0, _), (1, _)] dX13_numberAt_1 (i := 2) rfl (by decide) rfl ?_
  refine j_iconst C (v := 0) dX13_numberAt_2 (by decide) ?_
  refine j_istore_n C [(3, _), (2, _), (0, _), (1, _)] dX13_numberAt_3 (i := 3) rfl (by decide) rfl ?_
  refine j_sub [2, 3, 1, 0] rfl (b_Md_numberAt_4 fl  _ _ _ C hr hlk hnm hQ  _ _ _)
def f_Md_feed_b51 (fl : Nat) (a0 : Nat) (a6 : Nat) (k98 : hp_M → Option (Int32 × hp_M)) : Nat → Int32 → hp_M → Option (Int32 × hp_M)
  | 0, _, _ => none
  | n + 1, x7, h => if 20 ≤ x7 then (k98 h) else ((gR h a0 12 1).bind fun v1016 => (gI h a0 12 2).bind fun v1017 => (divI x7 4).bind fun v1018 => (gaI h a6 v1018).bind fun v1019 => (remI x7 4).bind fun v1020 => (paI h v1016 (v1017 + x7) ((v1019 >>> ((24 - (8 * v1020)) &&& 31)) &&& 255)).bind fun h1021 => f_Md_feed_b51 fl a0 a6 k98 n (x7 + 1) h1021)
def f_Md_feed (fl : Nat) (a0 : Nat) (x1 : Int32) (x2 : Int32) (x3 : Int32) (x4 : Int32) (x5 : Int32) (h : hp_M) : Option (Int32 × hp_M) := (pF h a0 12 0 (.int 0)).bind fun h1 => (gI h1 a0 12 2).bind fun v2 => if v2 ≤ 1980 then ((paI (hN h1 (aI 5 (fun _ => 0))) h1.2 0 x1).bind fun h4 => (paI h4 h1.2 1 x2).bind fun h5 => (paI h5 h1.2 2 x3).bind fun h6 => (paI h6 h1.2 3 x4).bind fun h7 => (paI h7 h1.2 4 x5).bind fun h8 => f_Md_feed_b51 fl a0 h1.2 (fun (h9 : hp_M) => (gI h9 a0 12 2).bind fun v10 => (pF h9 a0 12 2 (.int (v10 + 20))).bind fun h11 => (gI h11 a0 12 2).bind fun v12 => some (v12, h11)) fl 0 h8) else ((onO h1 a0 12 (f_Md_no a0 1 h1)).bind fun r13 => some (r13.1, r13.2))
set_option maxRecDepth 100000 in
set_option maxHeartbeats 4000000 in
theorem b_Md_feed_51 {p : Program} {l : Launch} {e : Env} {s : State} {m : MethodId} {args : Array Value} {below : List Frame} {meth : Method} {c : Code} {Q : State → Prop} {w : hp_W} {out : Int32 × hp_M} (fl : Nat)   (a0 : Nat) (a6 : Nat) (k98 : hp_M → Option (Int32 × hp_M)) (C : Cx p m c cX13_feed 8 s args RX13 w) (hr : meth.sig.returnType = some .int) (hlk : meth.locks = false) (hnm : meth.name = "feed") (hQ : QM below w args s ({ frames := 1, cells := 1, slots := 5, locals := 21 }) (some .int) (some (.int out.1)) out.2 = Q) (hk98 : ∀ (hz : hp_M), J p l e ({ frames := 1, cells := 1, slots := 5, locals := 21 }) s m args below meth c Q w 8 1 5 98 [(0, .ref a0)] [] hz (k98 hz) out) : ∀ (n : Nat) (x7 : Int32) (h : hp_M), J p l e ({ frames := 1, cells := 1, slots := 5, locals := 21 }) s m args below meth c Q w 8 1 5 51 [(0, .ref a0), (6, .ref a6), (7, .int x7)] [] h (f_Md_feed_b51 fl a0 a6 k98 n x7 h) out := by
  intro n
  induction n with
  | zero => intro x7 h; exact j_none
  | succ n ih =>
    intro x7 h
    rw [f_Md_feed_b51]
    refine j_iload C dX13_feed_51 rfl ?_
    refine j_bipush C (v := 20) dX13_feed_53 (by decide) ?_
    refine j_icmpge C (tgt := 98) dX13_feed_55 (by decide) (fun q1015 => ?_) (fun q1015 => ?_)
    · exact j_sub [0] rfl (hk98 _)
    · refine j_aload_n C dX13_feed_58 (i := 0) rfl rfl ?_
      refine j_getR C g_X13_9 dX13_feed_59 (fun v1016 ev1016 => ?_)
      refine j_aload_n C dX13_feed_62 (i := 0) rfl rfl ?_
      refine j_getI C g_X13_79 dX13_feed_63 (fun v1017 ev1017 => ?_)
      refine j_iload C dX13_feed_66 rfl ?_
      refine j_iadd C dX13_feed_68 ?_
      refine j_aload C dX13_feed_69 rfl ?_
      refine j_iload C dX13_feed_71 rfl ?_
      refine j_iconst C (v := 4) dX13_feed_73 (by decide) ?_
      refine j_idiv C dX13_feed_74 (fun v1018 ev1018 => ?_)
      refine j_iaload C dX13_feed_75 (fun v1019 ev1019 => ?_)
      refine j_bipush C (v := 24) dX13_feed_76 (by decide) ?_
      refine j_bipush C (v := 8) dX13_feed_78 (by decide) ?_
      refine j_iload C dX13_feed_80 rfl ?_
      refine j_iconst C (v := 4) dX13_feed_82 (by decide) ?_
      refine j_irem C dX13_feed_83 (fun v1020 ev1020 => ?_)
      refine j_imul C dX13_feed_84 ?_
      refine j_isub C dX13_feed_85 ?_
      refine j_ishr C dX13_feed_86 ?_
      refine j_sipush C (v := 255) dX13_feed_87 (by decide) ?_
      refine j_iand C dX13_feed_90 ?_
      refine j_iastore C dX13_feed_91 (fun h1021 eh1021 => ?_)
      refine j_iinc C (v := x7 + 1) [(7, _), (0, _), (6, _)] dX13_feed_92 rfl rfl (by decide) rfl ?_
      refine j_goto C (tgt := 51) dX13_feed_95 (by decide) ?_
      exact j_sub [1, 2, 0] rfl (ih _ _)
set_option maxRecDepth 100000 in
set_option maxHeartbeats 4000000 in
theorem c_Md_feed (l : Launch) (w : hp_W) (fl : Nat) (a0 : Nat) (x1 : Int32) (x2 : Int32) (x3 : Int32) (x4 : Int32) (x5 : Int32) (h : hp_M) (out : Int32 × hp_M) (hX : f_Md_feed fl a0 x1 x2 x3 x4 x5 h = some out) : CT l w yX13_feed cX13_feed 8 (some .int) ({ frames := 1, cells := 1, slots := 5, locals := 21 }) [.ref a0, .int x1, .int x2, .int x3, .int x4, .int x5] h (some (.int out.1)) out.2 := by
  unfold f_Md_feed at hX
  refine ct_of (by decide +kernel) (Nat.le_of_ble_eq_true rfl) hX ?_
  intro p e s m args below meth c Q C hr hlk hnm hQ
  refine j_aload_n C dX13_feed_0 (i := 0) rfl rfl ?_
  refine j_iconst C (v := 0) dX13_feed_1 (by decide) ?_
  refine j_putI C p_X13_54 (fun q => nomatch q) dX13_feed_2 (fun h1 eh1 => ?_)
  refine j_aload_n C dX13_feed_5 (i := 0) rfl rfl ?_
  refine j_getI C g_X13_79 dX13_feed_6 (fun v2 ev2 => ?_)
  refine j_sipush C (v := 1980) dX13_feed_9 (by decide) ?_
  refine j_icmple C (tgt := 21) dX13_feed_12 (by decide) (fun q3 => ?_) (fun q3 => ?_)
  · refine j_iconst C (v := 5) dX13_feed_21 (by decide) ?_
    refine j_newI C (N := 5) k_arr_int (by decide) (by decide) (Nat.le_of_ble_eq_true rfl) (Nat.le_of_ble_eq_true rfl) (Nat.le_of_ble_eq_true rfl) dX13_feed_22 ?_
    refine j_dup C dX13_feed_24 rfl ?_
    refine j_iconst C (v := 0) dX13_feed_25 (by decide) ?_
    refine j_iload_n C dX13_feed_26 (i := 1) rfl rfl ?_
    refine j_iastore C dX13_feed_27 (fun h4 eh4 => ?_)
    refine j_dup C dX13_feed_28 rfl ?_
    refine j_iconst C (v := 1) dX13_feed_29 (by decide) ?_
    refine j_iload_n C dX13_feed_30 (i := 2) rfl rfl ?_
    refine j_iastore C dX13_feed_31 (fun h5 eh5 => ?_)
    refine j_dup C dX13_feed_32 rfl ?_
    refine j_iconst C (v := 2) dX13_feed_33 (by decide) ?_
    refine j_iload_n C dX13_feed_34 (i := 3) rfl rfl ?_
    refine j_iastore C dX13_feed_35 (fun h6 eh6 => ?_)
    refine j_dup C dX13_feed_36 rfl ?_
    refine j_iconst C (v := 3) dX13_feed_37 (by decide) ?_
    refine j_iload C dX13_feed_38 rfl ?_
    refine j_iastore C dX13_feed_40 (fun h7 eh7 => ?_)
    refine j_dup C dX13_feed_41 rfl ?_
    refine j_iconst C (v := 4) dX13_feed_42 (by decide) ?_
    refine j_iload C dX13_feed_43 rfl ?_
    refine j_iastore C dX13_feed_45 (fun h8 eh8 => ?_)
    refine j_astore C [(6, _), (0, _), (1, _), (2, _), (3, _), (4, _), (5, _)] dX13_feed_46 (by decide) rfl ?_
    refine j_iconst C (v := 0) dX13_feed_48 (by decide) ?_
    refine j_istore C [(7, _), (6, _), (0, _), (1, _), (2, _), (3, _), (4, _), (5, _)] dX13_feed_49 (by decide) rfl ?_
    refine j_sub [2, 1, 0] rfl (b_Md_feed_51 fl  _ _ _ C hr hlk hnm hQ (fun h9 => ?_) _ _ _)
    refine j_aload_n C dX13_feed_98 (i := 0) rfl rfl ?_
    refine j_dup C dX13_feed_99 rfl ?_
    refine j_getI C g_X13_79 dX13_feed_100 (fun v10 ev10 => ?_)
    refine j_bipush C (v := 20) dX13_feed_103 (by decide) ?_
    refine j_iadd C dX13_feed_105 ?_
    refine j_putI C p_X13_79 (fun q => nomatch q) dX13_feed_106 (fun h11 eh11 => ?_)
    refine j_aload_n C dX13_feed_109 (i := 0) rfl rfl ?_
    refine j_getI C g_X13_79 dX13_feed_110 (fun v12 ev12 => ?_)
    exact e_iretM C hQ hr rfl hlk dX13_feed_113 (Nat.le_of_ble_eq_true rfl) (Nat.le_of_ble_eq_true rfl)
  · refine j_aload_n C dX13_feed_15 (i := 0) rfl rfl ?_
    refine j_iconst C (v := 1) dX13_feed_16 (by decide) ?_
    refine j_callVim C (As := [.int _]) (rest := []) k_X13_234 ⟨Nat.le_of_ble_eq_true rfl, Nat.le_of_ble_eq_true rfl⟩ rfl (Nat.le_of_ble_eq_true rfl) ⟨Nat.le_of_ble_eq_true rfl, Nat.le_of_ble_eq_true rfl⟩ rfl dX13_feed_17 (fun r0 q0 => c_Md_no l w _ _ _ _ q0) (fun r13 er13 nr13 => ?_)
    exact e_iretM C hQ hr rfl hlk dX13_feed_20 (Nat.le_of_ble_eq_true rfl) (Nat.le_of_ble_eq_true rfl)
def f_Md_errorAt (a0 : Nat) (h : hp_M) : Option (Int32 × hp_M) := (pF h a0 12 0 (.int 0)).bind fun h1 => (gI h1 a0 12 3).bind fun v2 => some (v2, h1)
set_option maxRecDepth 100000 in
set_option maxHeartbeats 4000000 in
theorem c_Md_errorAt (l : Launch) (w : hp_W) (a0 : Nat) (h : hp_M) (out : Int32 × hp_M) (hX : f_Md_errorAt a0 h = some out) : CT l w yX13_errorAt cX13_errorAt 1 (some .int) ({ frames := 0, cells := 0, slots := 0, locals := 0 }) [.ref a0] h (some (.int out.1)) out.2 := by
  unfold f_Md_errorAt at hX
  refine ct_of (by decide +kernel) (Nat.le_of_ble_eq_true rfl) hX ?_
  intro p e s m args below meth c Q C hr hlk hnm hQ
  refine j_aload_n C dX13_errorAt_0 (i := 0) rfl rfl ?_
  refine j_iconst C (v := 0) dX13_errorAt_1 (by decide) ?_
  refine j_putI C p_X13_54 (fun q => nomatch q) dX13_errorAt_2 (fun h1 eh1 => ?_)
  refine j_aload_n C dX13_errorAt_5 (i := 0) rfl rfl ?_
  refine j_getI C g_X13_13 dX13_errorAt_6 (fun v2 ev2 => ?_)
  exact e_iretM C hQ hr rfl hlk dX13_errorAt_9 (Nat.le_of_ble_eq_true rfl) (Nat.le_of_ble_eq_true rfl)
def f_Md_counted_b4 (fl : Nat) (a0 : Nat) (x1 : Int32) (h : hp_M) (k40 : Int32 → Option (Int32 × hp_M)) : Nat → Int32 → Int32 → Option (Int32 × hp_M)
  | 0, _, _ => none
  | n + 1, x2, x3 => (gR h a0 12 11).bind fun v1005 => (gI h v1005 11 0).bind fun v1006 => if v1006 ≤ x3 then (k40 x2) else (jn (fun (u1011 : Int32) (u1012 : Int32) => f_Md_counted_b4 fl a0 x1 h k40 n (u1012 + u1011) (x3 + 1)) fun (j1010 : Int32 → Int32 → Option (Int32 × hp_M)) => (gR h a0 12 13).bind fun v1013 => (onO h v1013 10 (f_St_isRetro v1013 x3 h)).bind fun r1014 => if r1014 = 0 then (j1010 0 x2) else (j1010 1 x2))
def f_Md_counted (fl : Nat) (a0 : Nat) (x1 : Int32) (h : hp_M) : Option (Int32 × hp_M) := f_Md_counted_b4 fl a0 x1 h (fun (u1 : Int32) => (gR (hN h (aI 8 (fun _ => 0))) a0 12 13).bind fun v2 => (gI (hN h (aI 8 (fun _ => 0))) v2 10 0).bind fun v3 => (paI (hN h (aI 8 (fun _ => 0))) h.2 0 v3).bind fun h4 => (gR h4 a0 12 11).bind fun v5 => (gI h4 v5 11 0).bind fun v6 => (paI h4 h.2 1 v6).bind fun h7 => (gR h7 a0 12 11).bind fun v8 => (gI h7 v8 11 2).bind fun v9 => (paI h7 h.2 2 v9).bind fun h10 => (gR h10 a0 12 11).bind fun v11 => (gI h10 v11 11 5).bind fun v12 => (paI h10 h.2 3 v12).bind fun h13 => (gI h13 a0 12 2).bind fun v14 => (paI h13 h.2 4 v14).bind fun h15 => (gR h15 a0 12 13).bind fun v16 => (gI h15 v16 10 6).bind fun v17 => (paI h15 h.2 5 v17).bind fun h18 => (paI h18 h.2 6 u1).bind fun h19 => (gR h19 a0 12 13).bind fun v20 => (onO h19 v20 10 (f_St_pairs fl v20 h19)).bind fun r21 => (paI h19 h.2 7 r21).bind fun h22 => (gaI h22 h.2 x1).bind fun v23 => some (v23, h22)) fl 0 0
set_option maxRecDepth 100000 in
set_option maxHeartbeats 4000000 in
theorem b_Md_counted_4 {p : Program} {l : Launch} {e : Env} {s : State} {m : MethodId} {args : Array Value} {below : List Frame} {meth : Method} {c : Code} {Q : State → Prop} {w : hp_W} {out : Int32 × hp_M} (fl : Nat)   (a0 : Nat) (x1 : Int32) (h : hp_M) (k40 : Int32 → Option (Int32 × hp_M)) (C : Cx p m c cX13_counted 4 s args RX13 w) (hr : meth.sig.returnType = some .int) (hlk : meth.locks = false) (hnm : meth.name = "counted") (hQ : QM below w args s ({ frames := 9, cells := 1, slots := 8, locals := 270 }) (some .int) (some (.int out.1)) out.2 = Q) (hk40 : ∀ (z2 : Int32), J p l e ({ frames := 9, cells := 1, slots := 8, locals := 270 }) s m args below meth c Q w 4 0 0 40 [(0, .ref a0), (1, .int x1), (2, .int z2)] [] h (k40 z2) out) : ∀ (n : Nat) (x2 : Int32) (x3 : Int32), J p l e ({ frames := 9, cells := 1, slots := 8, locals := 270 }) s m args below meth c Q w 4 0 0 4 [(0, .ref a0), (1, .int x1), (2, .int x2), (3, .int x3)] [] h (f_Md_counted_b4 fl a0 x1 h k40 n x2 x3) out := by
  intro n
  induction n with
  | zero => intro x2 x3; exact j_none
  | succ n ih =>
    intro x2 x3
    rw [f_Md_counted_b4]
    refine j_iload_n C dX13_counted_4 (i := 3) rfl rfl ?_
    refine j_aload_n C dX13_counted_5 (i := 0) rfl rfl ?_
    refine j_getR C g_X13_35 dX13_counted_6 (fun v1005 ev1005 => ?_)
    refine j_getI C g_X13_57 dX13_counted_9 (fun v1006 ev1006 => ?_)
    refine j_icmpge C (tgt := 40) dX13_counted_12 (by decide) (fun q1007 => ?_) (fun q1007 => ?_)
    · exact j_sub [0, 1, 2] rfl (hk40 _)
    · refine j_jn (P := fun (j1010 : Int32 → Int32 → Option (Int32 × hp_M)) => ∀ (u1011 : Int32) (u1012 : Int32), J p l e ({ frames := 9, cells := 1, slots := 8, locals := 270 }) s m args below meth c Q w 4 0 0 32 [(0, .ref a0), (1, .int x1), (3, .int x3)] [.int u1011, .int u1012] h (j1010 u1011 u1012) out) ?_ (fun j1010 hj1010 => ?_)
      · intro u1011 u1012
        refine j_iadd C dX13_counted_32 ?_
        refine j_istore_n C [(2, _), (0, _), (1, _), (3, _)] dX13_counted_33 (i := 2) rfl (by decide) rfl ?_
        refine j_iinc C (v := x3 + 1) [(3, _), (2, _), (0, _), (1, _)] dX13_counted_34 rfl rfl (by decide) rfl ?_
        refine j_goto C (tgt := 4) dX13_counted_37 (by decide) ?_
        exact j_sub [2, 3, 1, 0] rfl (ih _ _)
      · refine j_iload_n C dX13_counted_15 (i := 2) rfl rfl ?_
        refine j_aload_n C dX13_counted_16 (i := 0) rfl rfl ?_
        refine j_getR C g_X13_47 dX13_counted_17 (fun v1013 ev1013 => ?_)
        refine j_iload_n C dX13_counted_20 (i := 3) rfl rfl ?_
        refine j_callVi C (As := [.int _]) (rest := [_]) k_X13_250 ⟨Nat.le_of_ble_eq_true rfl, Nat.le_of_ble_eq_true rfl⟩ rfl (Nat.le_of_ble_eq_true rfl) ⟨Nat.le_of_ble_eq_true rfl, Nat.le_of_ble_eq_true rfl⟩ rfl dX13_counted_21 (fun r0 q0 => c_St_isRetro l w _ _ _ _ q0) (fun r1014 er1014 nr1014 => ?_)
        refine j_ifeq C (tgt := 31) dX13_counted_24 (by decide) (fun q1015 => ?_) (fun q1015 => ?_)
        · refine j_iconst C (v := 0) dX13_counted_31 (by decide) ?_
          exact j_sub [0, 1, 3] rfl (hj1010 _ _)
        · refine j_iconst C (v := 1) dX13_counted_27 (by decide) ?_
          refine j_goto C (tgt := 32) dX13_counted_28 (by decide) ?_
          exact j_sub [0, 1, 3] rfl (hj1010 _ _)
set_option maxRecDepth 100000 in
set_option maxHeartbeats 4000000 in
theorem c_Md_counted (l : Launch) (w : hp_W) (fl : Nat) (a0 : Nat) (x1 : Int32) (h : hp_M) (out : Int32 × hp_M) (hX : f_Md_counted fl a0 x1 h = some out) : CT l w yX13_counted cX13_counted 4 (some .int) ({ frames := 9, cells := 1, slots := 8, locals := 270 }) [.ref a0, .int x1] h (some (.int out.1)) out.2 := by
  unfold f_Md_counted at hX
  refine ct_of (by decide +kernel) (Nat.le_of_ble_eq_true rfl) hX ?_
  intro p e s m args below meth c Q C hr hlk hnm hQ
  refine j_iconst C (v := 0) dX13_counted_0 (by decide) ?_
  refine j_istore_n C [(2, _), (0, _), (1, _)] dX13_counted_1 (i := 2) rfl (by decide) rfl ?_
  refine j_iconst C (v := 0) dX13_counted_2 (by decide) ?_
  refine j_istore_n C [(3, _), (2, _), (0, _), (1, _)] dX13_counted_3 (i := 3) rfl (by decide) rfl ?_
  refine j_sub [2, 3, 1, 0] rfl (b_Md_counted_4 fl  _ _ _ _ C hr hlk hnm hQ (fun u1 => ?_) _ _ _)
  refine j_bipush C (v := 8) dX13_counted_40 (by decide) ?_
  refine j_newI C (N := 8) k_arr_int (by decide) (by decide) (Nat.le_of_ble_eq_true rfl) (Nat.le_of_ble_eq_true rfl) (Nat.le_of_ble_eq_true rfl) dX13_counted_42 ?_
  refine j_dup C dX13_counted_44 rfl ?_
  refine j_iconst C (v := 0) dX13_counted_45 (by decide) ?_
  refine j_aload_n C dX13_counted_46 (i := 0) rfl rfl ?_
  refine j_getR C g_X13_47 dX13_counted_47 (fun v2 ev2 => ?_)
  refine j_getI C g_X13_253 dX13_counted_50 (fun v3 ev3 => ?_)
  refine j_iastore C dX13_counted_53 (fun h4 eh4 => ?_)
  refine j_dup C dX13_counted_54 rfl ?_
  refine j_iconst C (v := 1) dX13_counted_55 (by decide) ?_
  refine j_aload_n C dX13_counted_56 (i := 0) rfl rfl ?_
  refine j_getR C g_X13_35 dX13_counted_57 (fun v5 ev5 => ?_)
  refine j_getI C g_X13_57 dX13_counted_60 (fun v6 ev6 => ?_)
  refine j_iastore C dX13_counted_63 (fun h7 eh7 => ?_)
  refine j_dup C dX13_counted_64 rfl ?_
  refine j_iconst C (v := 2) dX13_counted_65 (by decide) ?_
  refine j_aload_n C dX13_counted_66 (i := 0) rfl rfl ?_
  refine j_getR C g_X13_35 dX13_counted_67 (fun v8 ev8 => ?_)
  refine j_getI C g_X13_64 dX13_counted_70 (fun v9 ev9 => ?_)
  refine j_iastore C dX13_counted_73 (fun h10 eh10 => ?_)
  refine j_dup C dX13_counted_74 rfl ?_
  refine j_iconst C (v := 3) dX13_counted_75 (by decide) ?_
  refine j_aload_n C dX13_counted_76 (i := 0) rfl rfl ?_
  refine j_getR C g_X13_35 dX13_counted_77 (fun v11 ev11 => ?_)
  refine j_getI C g_X13_155 dX13_counted_80 (fun v12 ev12 => ?_)
  refine j_iastore C dX13_counted_83 (fun h13 eh13 => ?_)
  refine j_dup C dX13_counted_84 rfl ?_
  refine j_iconst C (v := 4) dX13_counted_85 (by decide) ?_
  refine j_aload_n C dX13_counted_86 (i := 0) rfl rfl ?_
  refine j_getI C g_X13_79 dX13_counted_87 (fun v14 ev14 => ?_)
  refine j_iastore C dX13_counted_90 (fun h15 eh15 => ?_)
  refine j_dup C dX13_counted_91 rfl ?_
  refine j_iconst C (v := 5) dX13_counted_92 (by decide) ?_
  refine j_aload_n C dX13_counted_93 (i := 0) rfl rfl ?_
  refine j_getR C g_X13_47 dX13_counted_94 (fun v16 ev16 => ?_)
  refine j_getI C g_X13_256 dX13_counted_97 (fun v17 ev17 => ?_)
  refine j_iastore C dX13_counted_100 (fun h18 eh18 => ?_)
  refine j_dup C dX13_counted_101 rfl ?_
  refine j_bipush C (v := 6) dX13_counted_102 (by decide) ?_
  refine j_iload_n C dX13_counted_104 (i := 2) rfl rfl ?_
  refine j_iastore C dX13_counted_105 (fun h19 eh19 => ?_)
  refine j_dup C dX13_counted_106 rfl ?_
  refine j_bipush C (v := 7) dX13_counted_107 (by decide) ?_
  refine j_aload_n C dX13_counted_109 (i := 0) rfl rfl ?_
  refine j_getR C g_X13_47 dX13_counted_110 (fun v20 ev20 => ?_)
  refine j_callVi C (As := []) (rest := [_, _, _]) k_X13_259 ⟨Nat.le_of_ble_eq_true rfl, Nat.le_of_ble_eq_true rfl⟩ rfl (Nat.le_of_ble_eq_true rfl) ⟨Nat.le_of_ble_eq_true rfl, Nat.le_of_ble_eq_true rfl⟩ rfl dX13_counted_113 (fun r0 q0 => c_St_pairs l w fl _ _ _ q0) (fun r21 er21 nr21 => ?_)
  refine j_iastore C dX13_counted_116 (fun h22 eh22 => ?_)
  refine j_astore_n C [(3, _), (0, _), (1, _), (2, _)] dX13_counted_117 (i := 3) rfl (by decide) rfl ?_
  refine j_aload_n C dX13_counted_118 (i := 3) rfl rfl ?_
  refine j_iload_n C dX13_counted_119 (i := 1) rfl rfl ?_
  refine j_iaload C dX13_counted_120 (fun v23 ev23 => ?_)
  exact e_iretM C hQ hr rfl hlk dX13_counted_121 (Nat.le_of_ble_eq_true rfl) (Nat.le_of_ble_eq_true rfl)
def f_Md_planetTold (a0 : Nat) (x1 : Int32) (x2 : Int32) (h : hp_M) : Option (Int32 × hp_M) := jn (fun (u28 : Int32) (u29 : Int32) (u30 : Nat) (u31 : Nat) (h32 : hp_M) => (paI h32 u30 u29 u28).bind fun h33 => (gaI h33 u31 x2).bind fun v34 => some (v34, h33)) fun (j27 : Int32 → Int32 → Nat → Nat → hp_M → Option (Int32 × hp_M)) => (gR (hN h (aI 7 (fun _ => 0))) a0 12 11).bind fun v35 => (gR (hN h (aI 7 (fun _ => 0))) v35 11 1).bind fun v36 => (gaI (hN h (aI 7 (fun _ => 0))) v36 (5 * x1)).bind fun v37 => (paI (hN h (aI 7 (fun _ => 0))) h.2 0 v37).bind fun h38 => (gR h38 a0 12 11).bind fun v39 => (gR h38 v39 11 1).bind fun v40 => (gaI h38 v40 ((5 * x1) + 1)).bind fun v41 => (paI h38 h.2 1 v41).bind fun h42 => (gR h42 a0 12 13).bind fun v43 => (gR h42 v43 10 1).bind fun v44 => (gaI h42 v44 x1).bind fun v45 => (paI h42 h.2 2 v45).bind fun h46 => (gR h46 a0 12 13).bind fun v47 => (gR h46 v47 10 3).bind fun v48 => (gaI h46 v48 x1).bind fun v49 => (paI h46 h.2 3 v49).bind fun h50 => (gR h50 a0 12 11).bind fun v51 => (gR h50 v51 11 1).bind fun v52 => (gaI h50 v52 ((5 * x1) + 3)).bind fun v53 => (paI h50 h.2 4 v53).bind fun h54 => (gR h54 a0 12 11).bind fun v55 => (gR h54 v55 11 1).bind fun v56 => (gaI h54 v56 ((5 * x1) + 4)).bind fun v57 => (paI h54 h.2 5 v57).bind fun h58 => (gR h58 a0 12 13).bind fun v59 => (onO h58 v59 10 (f_St_isRetro v59 x1 h58)).bind fun r60 => if r60 = 0 then (j27 0 6 h.2 h.2 h58) else (j27 1 6 h.2 h.2 h58)
set_option maxRecDepth 100000 in
set_option maxHeartbeats 4000000 in
theorem c_Md_planetTold (l : Launch) (w : hp_W) (a0 : Nat) (x1 : Int32) (x2 : Int32) (h : hp_M) (out : Int32 × hp_M) (hX : f_Md_planetTold a0 x1 x2 h = some out) : CT l w yX13_planetTold cX13_planetTold 4 (some .int) ({ frames := 1, cells := 1, slots := 7, locals := 21 }) [.ref a0, .int x1, .int x2] h (some (.int out.1)) out.2 := by
  unfold f_Md_planetTold at hX
  refine ct_of (by decide +kernel) (Nat.le_of_ble_eq_true rfl) hX ?_
  intro p e s m args below meth c Q C hr hlk hnm hQ
  refine j_jn (P := fun (j27 : Int32 → Int32 → Nat → Nat → hp_M → Option (Int32 × hp_M)) => ∀ (u28 : Int32) (u29 : Int32) (u30 : Nat) (u31 : Nat) (h32 : hp_M), J p l e ({ frames := 1, cells := 1, slots := 7, locals := 21 }) s m args below meth c Q w 4 1 7 109 [(2, .int x2)] [.int u28, .int u29, .ref u30, .ref u31] h32 (j27 u28 u29 u30 u31 h32) out) ?_ (fun j27 hj27 => ?_)
  · intro u28 u29 u30 u31 h32
    refine j_iastore C dX13_planetTold_109 (fun h33 eh33 => ?_)
    refine j_astore_n C [(3, _), (2, _)] dX13_planetTold_110 (i := 3) rfl (by decide) rfl ?_
    refine j_aload_n C dX13_planetTold_111 (i := 3) rfl rfl ?_
    refine j_iload_n C dX13_planetTold_112 (i := 2) rfl rfl ?_
    refine j_iaload C dX13_planetTold_113 (fun v34 ev34 => ?_)
    exact e_iretM C hQ hr rfl hlk dX13_planetTold_114 (Nat.le_of_ble_eq_true rfl) (Nat.le_of_ble_eq_true rfl)
  · refine j_bipush C (v := 7) dX13_planetTold_0 (by decide) ?_
    refine j_newI C (N := 7) k_arr_int (by decide) (by decide) (Nat.le_of_ble_eq_true rfl) (Nat.le_of_ble_eq_true rfl) (Nat.le_of_ble_eq_true rfl) dX13_planetTold_2 ?_
    refine j_dup C dX13_planetTold_4 rfl ?_
    refine j_iconst C (v := 0) dX13_planetTold_5 (by decide) ?_
    refine j_aload_n C dX13_planetTold_6 (i := 0) rfl rfl ?_
    refine j_getR C g_X13_35 dX13_planetTold_7 (fun v35 ev35 => ?_)
    refine j_getR C g_X13_213 dX13_planetTold_10 (fun v36 ev36 => ?_)
    refine j_iconst C (v := 5) dX13_planetTold_13 (by decide) ?_
    refine j_iload_n C dX13_planetTold_14 (i := 1) rfl rfl ?_
    refine j_imul C dX13_planetTold_15 ?_
    refine j_iaload C dX13_planetTold_16 (fun v37 ev37 => ?_)
    refine j_iastore C dX13_planetTold_17 (fun h38 eh38 => ?_)
    refine j_dup C dX13_planetTold_18 rfl ?_
    refine j_iconst C (v := 1) dX13_planetTold_19 (by decide) ?_
    refine j_aload_n C dX13_planetTold_20 (i := 0) rfl rfl ?_
    refine j_getR C g_X13_35 dX13_planetTold_21 (fun v39 ev39 => ?_)
    refine j_getR C g_X13_213 dX13_planetTold_24 (fun v40 ev40 => ?_)
    refine j_iconst C (v := 5) dX13_planetTold_27 (by decide) ?_
    refine j_iload_n C dX13_planetTold_28 (i := 1) rfl rfl ?_
    refine j_imul C dX13_planetTold_29 ?_
    refine j_iconst C (v := 1) dX13_planetTold_30 (by decide) ?_
    refine j_iadd C dX13_planetTold_31 ?_
    refine j_iaload C dX13_planetTold_32 (fun v41 ev41 => ?_)
    refine j_iastore C dX13_planetTold_33 (fun h42 eh42 => ?_)
    refine j_dup C dX13_planetTold_34 rfl ?_
    refine j_iconst C (v := 2) dX13_planetTold_35 (by decide) ?_
    refine j_aload_n C dX13_planetTold_36 (i := 0) rfl rfl ?_
    refine j_getR C g_X13_47 dX13_planetTold_37 (fun v43 ev43 => ?_)
    refine j_getR C g_X13_265 dX13_planetTold_40 (fun v44 ev44 => ?_)
    refine j_iload_n C dX13_planetTold_43 (i := 1) rfl rfl ?_
    refine j_iaload C dX13_planetTold_44 (fun v45 ev45 => ?_)
    refine j_iastore C dX13_planetTold_45 (fun h46 eh46 => ?_)
    refine j_dup C dX13_planetTold_46 rfl ?_
    refine j_iconst C (v := 3) dX13_planetTold_47 (by decide) ?_
    refine j_aload_n C dX13_planetTold_48 (i := 0) rfl rfl ?_
    refine j_getR C g_X13_47 dX13_planetTold_49 (fun v47 ev47 => ?_)
    refine j_getR C g_X13_244 dX13_planetTold_52 (fun v48 ev48 => ?_)
    refine j_iload_n C dX13_planetTold_55 (i := 1) rfl rfl ?_
    refine j_iaload C dX13_planetTold_56 (fun v49 ev49 => ?_)
    refine j_iastore C dX13_planetTold_57 (fun h50 eh50 => ?_)
    refine j_dup C dX13_planetTold_58 rfl ?_
    refine j_iconst C (v := 4) dX13_planetTold_59 (by decide) ?_
    refine j_aload_n C dX13_planetTold_60 (i := 0) rfl rfl ?_
    refine j_getR C g_X13_35 dX13_planetTold_61 (fun v51 ev51 => ?_)
    refine j_getR C g_X13_213 dX13_planetTold_64 (fun v52 ev52 => ?_)
    refine j_iconst C (v := 5) dX13_planetTold_67 (by decide) ?_
    refine j_iload_n C dX13_planetTold_68 (i := 1) rfl rfl ?_
    refine j_imul C dX13_planetTold_69 ?_
    refine j_iconst C (v := 3) dX13_planetTold_70 (by decide) ?_
    refine j_iadd C dX13_planetTold_71 ?_
    refine j_iaload C dX13_planetTold_72 (fun v53 ev53 => ?_)
    refine j_iastore C dX13_planetTold_73 (fun h54 eh54 => ?_)
    refine j_dup C dX13_planetTold_74 rfl ?_
    refine j_iconst C (v := 5) dX13_planetTold_75 (by decide) ?_
    refine j_aload_n C dX13_planetTold_76 (i := 0) rfl rfl ?_
    refine j_getR C g_X13_35 dX13_planetTold_77 (fun v55 ev55 => ?_)
    refine j_getR C g_X13_213 dX13_planetTold_80 (fun v56 ev56 => ?_)
    refine j_iconst C (v := 5) dX13_planetTold_83 (by decide) ?_
    refine j_iload_n C dX13_planetTold_84 (i := 1) rfl rfl ?_
    refine j_imul C dX13_planetTold_85 ?_
    refine j_iconst C (v := 4) dX13_planetTold_86 (by decide) ?_
    refine j_iadd C dX13_planetTold_87 ?_
    refine j_iaload C dX13_planetTold_88 (fun v57 ev57 => ?_)
    refine j_iastore C dX13_planetTold_89 (fun h58 eh58 => ?_)
    refine j_dup C dX13_planetTold_90 rfl ?_
    refine j_bipush C (v := 6) dX13_planetTold_91 (by decide) ?_
    refine j_aload_n C dX13_planetTold_93 (i := 0) rfl rfl ?_
    refine j_getR C g_X13_47 dX13_planetTold_94 (fun v59 ev59 => ?_)
    refine j_iload_n C dX13_planetTold_97 (i := 1) rfl rfl ?_
    refine j_callVi C (As := [.int _]) (rest := [_, _, _]) k_X13_250 ⟨Nat.le_of_ble_eq_true rfl, Nat.le_of_ble_eq_true rfl⟩ rfl (Nat.le_of_ble_eq_true rfl) ⟨Nat.le_of_ble_eq_true rfl, Nat.le_of_ble_eq_true rfl⟩ rfl dX13_planetTold_98 (fun r0 q0 => c_St_isRetro l w _ _ _ _ q0) (fun r60 er60 nr60 => ?_)
    refine j_ifeq C (tgt := 108) dX13_planetTold_101 (by decide) (fun q61 => ?_) (fun q61 => ?_)
    · refine j_iconst C (v := 0) dX13_planetTold_108 (by decide) ?_
      exact j_sub [2] rfl (hj27 _ _ _ _ _)
    · refine j_iconst C (v := 1) dX13_planetTold_104 (by decide) ?_
      refine j_goto C (tgt := 109) dX13_planetTold_105 (by decide) ?_
      exact j_sub [2] rfl (hj27 _ _ _ _ _)
def f_Md_clear (a0 : Nat) (h : hp_M) : Option (Int32 × hp_M) := (pF h a0 12 0 (.int 0)).bind fun h1 => (gR h1 a0 12 13).bind fun v2 => (gI h1 v2 10 6).bind fun v3 => (gR h1 a0 12 13).bind fun v4 => (pF h1 v4 10 6 (.int 0)).bind fun h5 => some (v3, h5)
set_option maxRecDepth 100000 in
set_option maxHeartbeats 4000000 in
theorem c_Md_clear (l : Launch) (w : hp_W) (a0 : Nat) (h : hp_M) (out : Int32 × hp_M) (hX : f_Md_clear a0 h = some out) : CT l w yX13_clear cX13_clear 2 (some .int) ({ frames := 0, cells := 0, slots := 0, locals := 0 }) [.ref a0] h (some (.int out.1)) out.2 := by
  unfold f_Md_clear at hX
  refine ct_of (by decide +kernel) (Nat.le_of_ble_eq_true rfl) hX ?_
  intro p e s m args below meth c Q C hr hlk hnm hQ
  refine j_aload_n C dX13_clear_0 (i := 0) rfl rfl ?_
  refine j_iconst C (v := 0) dX13_clear_1 (by decide) ?_
  refine j_putI C p_X13_54 (fun q => nomatch q) dX13_clear_2 (fun h1 eh1 => ?_)
  refine j_aload_n C dX13_clear_5 (i := 0) rfl rfl ?_
  refine j_getR C g_X13_47 dX13_clear_6 (fun v2 ev2 => ?_)
  refine j_getI C g_X13_256 dX13_clear_9 (fun v3 ev3 => ?_)
  refine j_istore_n C [(1, _), (0, _)] dX13_clear_12 (i := 1) rfl (by decide) rfl ?_
  refine j_aload_n C dX13_clear_13 (i := 0) rfl rfl ?_
  refine j_getR C g_X13_47 dX13_clear_14 (fun v4 ev4 => ?_)
  refine j_iconst C (v := 0) dX13_clear_17 (by decide) ?_
  refine j_putI C p_X13_256 (fun q => nomatch q) dX13_clear_18 (fun h5 eh5 => ?_)
  refine j_iload_n C dX13_clear_21 (i := 1) rfl rfl ?_
  exact e_iretM C hQ hr rfl hlk dX13_clear_22 (Nat.le_of_ble_eq_true rfl) (Nat.le_of_ble_eq_true rfl)
def f_Md_find (fl : Nat) (a0 : Nat) (h : hp_M) : Option (Int32 × hp_M) := (pF h a0 12 0 (.int 0)).bind fun h1 => (gR h1 a0 12 13).bind fun v2 => (onO h1 v2 10 (f_St_find fl v2 0 h1)).bind fun r3 => some (r3, h1)
set_option maxRecDepth 100000 in
set_option maxHeartbeats 4000000 in
theorem c_Md_find (l : Launch) (w : hp_W) (fl : Nat) (a0 : Nat) (h : hp_M) (out : Int32 × hp_M) (hX : f_Md_find fl a0 h = some out) : CT l w yX13_find cX13_find 1 (some .int) ({ frames := 1, cells := 0, slots := 0, locals := 23 }) [.ref a0] h (some (.int out.1)) out.2 := by
  unfold f_Md_find at hX
  refine ct_of (by decide +kernel) (Nat.le_of_ble_eq_true rfl) hX ?_
  intro p e s m args below meth c Q C hr hlk hnm hQ
  refine j_aload_n C dX13_find_0 (i := 0) rfl rfl ?_
  refine j_iconst C (v := 0) dX13_find_1 (by decide) ?_
  refine j_putI C p_X13_54 (fun q => nomatch q) dX13_find_2 (fun h1 eh1 => ?_)
  refine j_aload_n C dX13_find_5 (i := 0) rfl rfl ?_
  refine j_getR C g_X13_47 dX13_find_6 (fun v2 ev2 => ?_)
  refine j_iconst C (v := 0) dX13_find_9 (by decide) ?_
  refine j_callVi C (As := [.int _]) (rest := []) k_X13_289 ⟨Nat.le_of_ble_eq_true rfl, Nat.le_of_ble_eq_true rfl⟩ rfl (Nat.le_of_ble_eq_true rfl) ⟨Nat.le_of_ble_eq_true rfl, Nat.le_of_ble_eq_true rfl⟩ rfl dX13_find_10 (fun r0 q0 => c_St_find l w fl _ _ _ _ q0) (fun r3 er3 nr3 => ?_)
  exact e_iretM C hQ hr rfl hlk dX13_find_13 (Nat.le_of_ble_eq_true rfl) (Nat.le_of_ble_eq_true rfl)
def f_Md_numberOf_b2 (fl : Nat) (a0 : Nat) (x1 : Int32) (x2 : Int32) (h : hp_M) : Nat → Int32 → Option (Int32)
  | 0, _ => none
  | n + 1, x3 => (gR h a0 12 11).bind fun v1001 => (gR h v1001 11 3).bind fun v1002 => (gaI h v1002 x1).bind fun v1003 => if v1003 ≤ x3 then (some (-1)) else ((gR h a0 12 11).bind fun v1005 => (gR h v1005 11 4).bind fun v1006 => (gaI h v1006 ((12 * x1) + x3)).bind fun v1007 => if v1007 = x2 then (some x3) else (f_Md_numberOf_b2 fl a0 x1 x2 h n (x3 + 1)))
def f_Md_numberOf (fl : Nat) (a0 : Nat) (x1 : Int32) (x2 : Int32) (h : hp_M) : Option (Int32) := f_Md_numberOf_b2 fl a0 x1 x2 h fl 0
set_option maxRecDepth 100000 in
set_option maxHeartbeats 4000000 in
theorem b_Md_numberOf_2 {p : Program} {l : Launch} {e : Env} {s : State} {m : MethodId} {args : Array Value} {below : List Frame} {meth : Method} {c : Code} {Q : State → Prop} {w : hp_W} {out : Int32} (fl : Nat)   (a0 : Nat) (x1 : Int32) (x2 : Int32) (h : hp_M) (C : Cx p m c cX13_numberOf 4 s args RX13 w) (hr : meth.sig.returnType = some .int) (hlk : meth.locks = false) (hnm : meth.name = "numberOf") (hQ : QM below w args s ({ frames := 0, cells := 0, slots := 0, locals := 0 }) (some .int) (some (.int out)) h = Q)  : ∀ (n : Nat) (x3 : Int32), J p l e ({ frames := 0, cells := 0, slots := 0, locals := 0 }) s m args below meth c Q w 4 0 0 2 [(0, .ref a0), (1, .int x1), (2, .int x2), (3, .int x3)] [] h (f_Md_numberOf_b2 fl a0 x1 x2 h n x3) out := by
  intro n
  induction n with
  | zero => intro x3; exact j_none
  | succ n ih =>
    intro x3
    rw [f_Md_numberOf_b2]
    refine j_iload_n C dX13_numberOf_2 (i := 3) rfl rfl ?_
    refine j_aload_n C dX13_numberOf_3 (i := 0) rfl rfl ?_
    refine j_getR C g_X13_35 dX13_numberOf_4 (fun v1001 ev1001 => ?_)
    refine j_getR C g_X13_219 dX13_numberOf_7 (fun v1002 ev1002 => ?_)
    refine j_iload_n C dX13_numberOf_10 (i := 1) rfl rfl ?_
    refine j_iaload C dX13_numberOf_11 (fun v1003 ev1003 => ?_)
    refine j_icmpge C (tgt := 41) dX13_numberOf_12 (by decide) (fun q1004 => ?_) (fun q1004 => ?_)
    · refine j_iconst C (v := -1) dX13_numberOf_41 (by decide) ?_
      exact e_iretR C hQ hr rfl hlk dX13_numberOf_42 (Nat.le_of_ble_eq_true rfl) (Nat.le_of_ble_eq_true rfl)
    · refine j_aload_n C dX13_numberOf_15 (i := 0) rfl rfl ?_
      refine j_getR C g_X13_35 dX13_numberOf_16 (fun v1005 ev1005 => ?_)
      refine j_getR C g_X13_222 dX13_numberOf_19 (fun v1006 ev1006 => ?_)
      refine j_bipush C (v := 12) dX13_numberOf_22 (by decide) ?_
      refine j_iload_n C dX13_numberOf_24 (i := 1) rfl rfl ?_
      refine j_imul C dX13_numberOf_25 ?_
      refine j_iload_n C dX13_numberOf_26 (i := 3) rfl rfl ?_
      refine j_iadd C dX13_numberOf_27 ?_
      refine j_iaload C dX13_numberOf_28 (fun v1007 ev1007 => ?_)
      refine j_iload_n C dX13_numberOf_29 (i := 2) rfl rfl ?_
      refine j_icmpne C (tgt := 35) dX13_numberOf_30 (by decide) (fun q1008 => ?_) (fun q1008 => ?_)
      · refine j_iload_n C dX13_numberOf_33 (i := 3) rfl rfl ?_
        exact e_iretR C hQ hr rfl hlk dX13_numberOf_34 (Nat.le_of_ble_eq_true rfl) (Nat.le_of_ble_eq_true rfl)
      · refine j_iinc C (v := x3 + 1) [(3, _), (0, _), (1, _), (2, _)] dX13_numberOf_35 rfl rfl (by decide) rfl ?_
        refine j_goto C (tgt := 2) dX13_numberOf_38 (by decide) ?_
        exact j_sub [1, 2, 3, 0] rfl (ih _)
set_option maxRecDepth 100000 in
set_option maxHeartbeats 4000000 in
theorem c_Md_numberOf (l : Launch) (w : hp_W) (fl : Nat) (a0 : Nat) (x1 : Int32) (x2 : Int32) (h : hp_M) (out : Int32) (hX : f_Md_numberOf fl a0 x1 x2 h = some out) : CT l w yX13_numberOf cX13_numberOf 4 (some .int) ({ frames := 0, cells := 0, slots := 0, locals := 0 }) [.ref a0, .int x1, .int x2] h (some (.int out)) h := by
  unfold f_Md_numberOf at hX
  refine ct_of (by decide +kernel) (Nat.le_of_ble_eq_true rfl) hX ?_
  intro p e s m args below meth c Q C hr hlk hnm hQ
  refine j_iconst C (v := 0) dX13_numberOf_0 (by decide) ?_
  refine j_istore_n C [(3, _), (0, _), (1, _), (2, _)] dX13_numberOf_1 (i := 3) rfl (by decide) rfl ?_
  refine j_sub [1, 2, 3, 0] rfl (b_Md_numberOf_2 fl  _ _ _ _ C hr hlk hnm hQ  _ _)
def f_Md_wroteInAll_b4 (fl : Nat) (a0 : Nat) (h : hp_M) : Nat → Int32 → Int32 → Option (Int32)
  | 0, _, _ => none
  | n + 1, x1, x2 => (gR h a0 12 11).bind fun v1001 => (gI h v1001 11 5).bind fun v1002 => if v1002 ≤ x2 then (some x1) else ((gR h a0 12 13).bind fun v1004 => (gR h v1004 10 4).bind fun v1005 => (gaI h v1005 x2).bind fun v1006 => f_Md_wroteInAll_b4 fl a0 h n (x1 + v1006) (x2 + 1))
def f_Md_wroteInAll (fl : Nat) (a0 : Nat) (h : hp_M) : Option (Int32) := f_Md_wroteInAll_b4 fl a0 h fl 0 0
set_option maxRecDepth 100000 in
set_option maxHeartbeats 4000000 in
theorem b_Md_wroteInAll_4 {p : Program} {l : Launch} {e : Env} {s : State} {m : MethodId} {args : Array Value} {below : List Frame} {meth : Method} {c : Code} {Q : State → Prop} {w : hp_W} {out : Int32} (fl : Nat)   (a0 : Nat) (h : hp_M) (C : Cx p m c cX13_wroteInAll 3 s args RX13 w) (hr : meth.sig.returnType = some .int) (hlk : meth.locks = false) (hnm : meth.name = "wroteInAll") (hQ : QM below w args s ({ frames := 0, cells := 0, slots := 0, locals := 0 }) (some .int) (some (.int out)) h = Q)  : ∀ (n : Nat) (x1 : Int32) (x2 : Int32), J p l e ({ frames := 0, cells := 0, slots := 0, locals := 0 }) s m args below meth c Q w 3 0 0 4 [(0, .ref a0), (1, .int x1), (2, .int x2)] [] h (f_Md_wroteInAll_b4 fl a0 h n x1 x2) out := by
  intro n
  induction n with
  | zero => intro x1 x2; exact j_none
  | succ n ih =>
    intro x1 x2
    rw [f_Md_wroteInAll_b4]
    refine j_iload_n C dX13_wroteInAll_4 (i := 2) rfl rfl ?_
    refine j_aload_n C dX13_wroteInAll_5 (i := 0) rfl rfl ?_
    refine j_getR C g_X13_35 dX13_wroteInAll_6 (fun v1001 ev1001 => ?_)
    refine j_getI C g_X13_155 dX13_wroteInAll_9 (fun v1002 ev1002 => ?_)
    refine j_icmpge C (tgt := 33) dX13_wroteInAll_12 (by decide) (fun q1003 => ?_) (fun q1003 => ?_)
    · refine j_iload_n C dX13_wroteInAll_33 (i := 1) rfl rfl ?_
      exact e_iretR C hQ hr rfl hlk dX13_wroteInAll_34 (Nat.le_of_ble_eq_true rfl) (Nat.le_of_ble_eq_true rfl)
    · refine j_iload_n C dX13_wroteInAll_15 (i := 1) rfl rfl ?_
      refine j_aload_n C dX13_wroteInAll_16 (i := 0) rfl rfl ?_
      refine j_getR C g_X13_47 dX13_wroteInAll_17 (fun v1004 ev1004 => ?_)
      refine j_getR C g_X13_247 dX13_wroteInAll_20 (fun v1005 ev1005 => ?_)
      refine j_iload_n C dX13_wroteInAll_23 (i := 2) rfl rfl ?_
      refine j_iaload C dX13_wroteInAll_24 (fun v1006 ev1006 => ?_)
      refine j_iadd C dX13_wroteInAll_25 ?_
      refine j_istore_n C [(1, _), (0, _), (2, _)] dX13_wroteInAll_26 (i := 1) rfl (by decide) rfl ?_
      refine j_iinc C (v := x2 + 1) [(2, _), (1, _), (0, _)] dX13_wroteInAll_27 rfl rfl (by decide) rfl ?_
      refine j_goto C (tgt := 4) dX13_wroteInAll_30 (by decide) ?_
      exact j_sub [2, 1, 0] rfl (ih _ _)
set_option maxRecDepth 100000 in
set_option maxHeartbeats 4000000 in
theorem c_Md_wroteInAll (l : Launch) (w : hp_W) (fl : Nat) (a0 : Nat) (h : hp_M) (out : Int32) (hX : f_Md_wroteInAll fl a0 h = some out) : CT l w yX13_wroteInAll cX13_wroteInAll 3 (some .int) ({ frames := 0, cells := 0, slots := 0, locals := 0 }) [.ref a0] h (some (.int out)) h := by
  unfold f_Md_wroteInAll at hX
  refine ct_of (by decide +kernel) (Nat.le_of_ble_eq_true rfl) hX ?_
  intro p e s m args below meth c Q C hr hlk hnm hQ
  refine j_iconst C (v := 0) dX13_wroteInAll_0 (by decide) ?_
  refine j_istore_n C [(1, _), (0, _)] dX13_wroteInAll_1 (i := 1) rfl (by decide) rfl ?_
  refine j_iconst C (v := 0) dX13_wroteInAll_2 (by decide) ?_
  refine j_istore_n C [(2, _), (1, _), (0, _)] dX13_wroteInAll_3 (i := 2) rfl (by decide) rfl ?_
  refine j_sub [2, 1, 0] rfl (b_Md_wroteInAll_4 fl  _ _ C hr hlk hnm hQ  _ _ _)
def f_Md_digest_b119 (fl : Nat) (a0 : Nat) (x3 : Int32) (h : hp_M) (k162 : Int64 → Option (Int64 × hp_M)) : Nat → Int64 → Int32 → Option (Int64 × hp_M)
  | 0, _, _ => none
  | n + 1, x1, x4 => (gR h a0 12 11).bind fun v2048 => (gR h v2048 11 3).bind fun v2049 => (gaI h v2049 x3).bind fun v2050 => if v2050 ≤ x4 then (k162 x1) else ((gR h a0 12 11).bind fun v2052 => (gR h v2052 11 4).bind fun v2053 => (gaI h v2053 ((12 * x3) + x4)).bind fun v2054 => f_Md_digest_b119 fl a0 x3 h k162 n ((x1 * 31) + (Int32.toInt64 v2054)) (x4 + 1))
def f_Md_digest_b88 (fl : Nat) (a0 : Nat) (h : hp_M) (k168 : Int64 → Option (Int64 × hp_M)) : Nat → Int64 → Int32 → Option (Int64 × hp_M)
  | 0, _, _ => none
  | n + 1, x1, x3 => (gR h a0 12 11).bind fun v1036 => (gI h v1036 11 2).bind fun v1037 => if v1037 ≤ x3 then (k168 x1) else ((gR h a0 12 11).bind fun v1039 => (gR h v1039 11 3).bind fun v1040 => (gaI h v1040 x3).bind fun v1041 => f_Md_digest_b119 fl a0 x3 h (fun (u1042 : Int64) => f_Md_digest_b88 fl a0 h k168 n u1042 (x3 + 1)) fl ((x1 * 31) + (Int32.toInt64 v1041)) 0)
def f_Md_digest_b170 (fl : Nat) (a0 : Nat) (h : hp_M) (k204 : Int64 → Option (Int64 × hp_M)) : Nat → Int64 → Int32 → Option (Int64 × hp_M)
  | 0, _, _ => none
  | n + 1, x1, x3 => (gR h a0 12 11).bind fun v1031 => (gI h v1031 11 5).bind fun v1032 => if v1032 ≤ x3 then (k204 x1) else ((gR h a0 12 13).bind fun v1034 => (gR h v1034 10 4).bind fun v1035 => (gaI h v1035 x3).bind fun v1036 => f_Md_digest_b170 fl a0 h k204 n ((x1 * 31) + (Int32.toInt64 v1036)) (x3 + 1))
def f_Md_digest_b206 (fl : Nat) (a0 : Nat) (h : hp_M) : Nat → Int64 → Int32 → Option (Int64 × hp_M)
  | 0, _, _ => none
  | n + 1, x1, x3 => (gR h a0 12 13).bind fun v1027 => (gI h v1027 10 6).bind fun v1028 => if v1028 ≤ x3 then (some (x1, h)) else ((gR h a0 12 13).bind fun v1030 => (gR h v1030 10 5).bind fun v1031 => (gaI h v1031 x3).bind fun v1032 => f_Md_digest_b206 fl a0 h n ((x1 * 31) + (Int32.toInt64 v1032)) (x3 + 1))
set_option maxRecDepth 100000 in
set_option maxHeartbeats 4000000 in
def f_Md_digest (fl : Nat) (a0 : Nat) (h : hp_M) : Option (Int64 × hp_M) := (pF h a0 12 0 (.int 0)).bind fun h1 => if (8 : Int32) ≤ 0 then (none) else ((onO h1 a0 12 (f_Md_counted fl a0 0 h1)).bind fun r3 => if (8 : Int32) ≤ 1 then (none) else ((onO r3.2 a0 12 (f_Md_counted fl a0 1 r3.2)).bind fun r5 => if (8 : Int32) ≤ 2 then (none) else ((onO r5.2 a0 12 (f_Md_counted fl a0 2 r5.2)).bind fun r7 => if (8 : Int32) ≤ 3 then (none) else ((onO r7.2 a0 12 (f_Md_counted fl a0 3 r7.2)).bind fun r9 => if (8 : Int32) ≤ 4 then (none) else ((onO r9.2 a0 12 (f_Md_counted fl a0 4 r9.2)).bind fun r11 => if (8 : Int32) ≤ 5 then (none) else ((onO r11.2 a0 12 (f_Md_counted fl a0 5 r11.2)).bind fun r13 => if (8 : Int32) ≤ 6 then (none) else ((onO r13.2 a0 12 (f_Md_counted fl a0 6 r13.2)).bind fun r15 => if (8 : Int32) ≤ 7 then (none) else ((onO r15.2 a0 12 (f_Md_counted fl a0 7 r15.2)).bind fun r17 => if (8 : Int32) ≤ 8 then (jn (fun (u23 : Int64) (h24 : hp_M) => f_Md_digest_b88 fl a0 h24 (fun (u25 : Int64) => f_Md_digest_b170 fl a0 h24 (fun (u26 : Int64) => f_Md_digest_b206 fl a0 h24 fl u26 0) fl u25 0) fl u23 0) fun (j22 : Int64 → hp_M → Option (Int64 × hp_M)) => (gR r17.2 a0 12 11).bind fun v27 => (gI r17.2 v27 11 0).bind fun v28 => if v28 ≤ 0 then (j22 ((((((((((((((((727 * 31) + (Int32.toInt64 r3.1)) * 31) + (Int32.toInt64 r5.1)) * 31) + (Int32.toInt64 r7.1)) * 31) + (Int32.toInt64 r9.1)) * 31) + (Int32.toInt64 r11.1)) * 31) + (Int32.toInt64 r13.1)) * 31) + (Int32.toInt64 r15.1)) * 31) + (Int32.toInt64 r17.1)) r17.2) else (if (7 : Int32) ≤ 0 then (none) else ((onO r17.2 a0 12 (f_Md_planetTold a0 0 0 r17.2)).bind fun r31 => if (7 : Int32) ≤ 1 then (none) else ((onO r31.2 a0 12 (f_Md_planetTold a0 0 1 r31.2)).bind fun r33 => if (7 : Int32) ≤ 2 then (none) else ((onO r33.2 a0 12 (f_Md_planetTold a0 0 2 r33.2)).bind fun r35 => if (7 : Int32) ≤ 3 then (none) else ((onO r35.2 a0 12 (f_Md_planetTold a0 0 3 r35.2)).bind fun r37 => if (7 : Int32) ≤ 4 then (none) else ((onO r37.2 a0 12 (f_Md_planetTold a0 0 4 r37.2)).bind fun r39 => if (7 : Int32) ≤ 5 then (none) else ((onO r39.2 a0 12 (f_Md_planetTold a0 0 5 r39.2)).bind fun r41 => if (7 : Int32) ≤ 6 then (none) else ((onO r41.2 a0 12 (f_Md_planetTold a0 0 6 r41.2)).bind fun r43 => if (7 : Int32) ≤ 7 then ((gR r43.2 a0 12 11).bind fun v45 => (gI r43.2 v45 11 0).bind fun v46 => if v46 ≤ 1 then (j22 ((((((((((((((((((((((((((((((727 * 31) + (Int32.toInt64 r3.1)) * 31) + (Int32.toInt64 r5.1)) * 31) + (Int32.toInt64 r7.1)) * 31) + (Int32.toInt64 r9.1)) * 31) + (Int32.toInt64 r11.1)) * 31) + (Int32.toInt64 r13.1)) * 31) + (Int32.toInt64 r15.1)) * 31) + (Int32.toInt64 r17.1)) * 31) + (Int32.toInt64 r31.1)) * 31) + (Int32.toInt64 r33.1)) * 31) + (Int32.toInt64 r35.1)) * 31) + (Int32.toInt64 r37.1)) * 31) + (Int32.toInt64 r39.1)) * 31) + (Int32.toInt64 r41.1)) * 31) + (Int32.toInt64 r43.1)) r43.2) else (if (7 : Int32) ≤ 0 then (none) else ((onO r43.2 a0 12 (f_Md_planetTold a0 1 0 r43.2)).bind fun r49 => if (7 : Int32) ≤ 1 then (none) else ((onO r49.2 a0 12 (f_Md_planetTold a0 1 1 r49.2)).bind fun r51 => if (7 : Int32) ≤ 2 then (none) else ((onO r51.2 a0 12 (f_Md_planetTold a0 1 2 r51.2)).bind fun r53 => if (7 : Int32) ≤ 3 then (none) else ((onO r53.2 a0 12 (f_Md_planetTold a0 1 3 r53.2)).bind fun r55 => if (7 : Int32) ≤ 4 then (none) else ((onO r55.2 a0 12 (f_Md_planetTold a0 1 4 r55.2)).bind fun r57 => if (7 : Int32) ≤ 5 then (none) else ((onO r57.2 a0 12 (f_Md_planetTold a0 1 5 r57.2)).bind fun r59 => if (7 : Int32) ≤ 6 then (none) else ((onO r59.2 a0 12 (f_Md_planetTold a0 1 6 r59.2)).bind fun r61 => if (7 : Int32) ≤ 7 then ((gR r61.2 a0 12 11).bind fun v63 => (gI r61.2 v63 11 0).bind fun v64 => if v64 ≤ 2 then (j22 ((((((((((((((((((((((((((((((((((((((((((((727 * 31) + (Int32.toInt64 r3.1)) * 31) + (Int32.toInt64 r5.1)) * 31) + (Int32.toInt64 r7.1)) * 31) + (Int32.toInt64 r9.1)) * 31) + (Int32.toInt64 r11.1)) * 31) + (Int32.toInt64 r13.1)) * 31) + (Int32.toInt64 r15.1)) * 31) + (Int32.toInt64 r17.1)) * 31) + (Int32.toInt64 r31.1)) * 31) + (Int32.toInt64 r33.1)) * 31) + (Int32.toInt64 r35.1)) * 31) + (Int32.toInt64 r37.1)) * 31) + (Int32.toInt64 r39.1)) * 31) + (Int32.toInt64 r41.1)) * 31) + (Int32.toInt64 r43.1)) * 31) + (Int32.toInt64 r49.1)) * 31) + (Int32.toInt64 r51.1)) * 31) + (Int32.toInt64 r53.1)) * 31) + (Int32.toInt64 r55.1)) * 31) + (Int32.toInt64 r57.1)) * 31) + (Int32.toInt64 r59.1)) * 31) + (Int32.toInt64 r61.1)) r61.2) else (if (7 : Int32) ≤ 0 then (none) else ((onO r61.2 a0 12 (f_Md_planetTold a0 2 0 r61.2)).bind fun r67 => if (7 : Int32) ≤ 1 then (none) else ((onO r67.2 a0 12 (f_Md_planetTold a0 2 1 r67.2)).bind fun r69 => if (7 : Int32) ≤ 2 then (none) else ((onO r69.2 a0 12 (f_Md_planetTold a0 2 2 r69.2)).bind fun r71 => if (7 : Int32) ≤ 3 then (none) else ((onO r71.2 a0 12 (f_Md_planetTold a0 2 3 r71.2)).bind fun r73 => if (7 : Int32) ≤ 4 then (none) else ((onO r73.2 a0 12 (f_Md_planetTold a0 2 4 r73.2)).bind fun r75 => if (7 : Int32) ≤ 5 then (none) else ((onO r75.2 a0 12 (f_Md_planetTold a0 2 5 r75.2)).bind fun r77 => if (7 : Int32) ≤ 6 then (none) else ((onO r77.2 a0 12 (f_Md_planetTold a0 2 6 r77.2)).bind fun r79 => if (7 : Int32) ≤ 7 then ((gR r79.2 a0 12 11).bind fun v81 => (gI r79.2 v81 11 0).bind fun v82 => if v82 ≤ 3 then (j22 ((((((((((((((((((((((((((((((((((((((((((((((((((((((((((727 * 31) + (Int32.toInt64 r3.1)) * 31) + (Int32.toInt64 r5.1)) * 31) + (Int32.toInt64 r7.1)) * 31) + (Int32.toInt64 r9.1)) * 31) + (Int32.toInt64 r11.1)) * 31) + (Int32.toInt64 r13.1)) * 31) + (Int32.toInt64 r15.1)) * 31) + (Int32.toInt64 r17.1)) * 31) + (Int32.toInt64 r31.1)) * 31) + (Int32.toInt64 r33.1)) * 31) + (Int32.toInt64 r35.1)) * 31) + (Int32.toInt64 r37.1)) * 31) + (Int32.toInt64 r39.1)) * 31) + (Int32.toInt64 r41.1)) * 31) + (Int32.toInt64 r43.1)) * 31) + (Int32.toInt64 r49.1)) * 31) + (Int32.toInt64 r51.1)) * 31) + (Int32.toInt64 r53.1)) * 31) + (Int32.toInt64 r55.1)) * 31) + (Int32.toInt64 r57.1)) * 31) + (Int32.toInt64 r59.1)) * 31) + (Int32.toInt64 r61.1)) * 31) + (Int32.toInt64 r67.1)) * 31) + (Int32.toInt64 r69.1)) * 31) + (Int32.toInt64 r71.1)) * 31) + (Int32.toInt64 r73.1)) * 31) + (Int32.toInt64 r75.1)) * 31) + (Int32.toInt64 r77.1)) * 31) + (Int32.toInt64 r79.1)) r79.2) else (if (7 : Int32) ≤ 0 then (none) else ((onO r79.2 a0 12 (f_Md_planetTold a0 3 0 r79.2)).bind fun r85 => if (7 : Int32) ≤ 1 then (none) else ((onO r85.2 a0 12 (f_Md_planetTold a0 3 1 r85.2)).bind fun r87 => if (7 : Int32) ≤ 2 then (none) else ((onO r87.2 a0 12 (f_Md_planetTold a0 3 2 r87.2)).bind fun r89 => if (7 : Int32) ≤ 3 then (none) else ((onO r89.2 a0 12 (f_Md_planetTold a0 3 3 r89.2)).bind fun r91 => if (7 : Int32) ≤ 4 then (none) else ((onO r91.2 a0 12 (f_Md_planetTold a0 3 4 r91.2)).bind fun r93 => if (7 : Int32) ≤ 5 then (none) else ((onO r93.2 a0 12 (f_Md_planetTold a0 3 5 r93.2)).bind fun r95 => if (7 : Int32) ≤ 6 then (none) else ((onO r95.2 a0 12 (f_Md_planetTold a0 3 6 r95.2)).bind fun r97 => if (7 : Int32) ≤ 7 then ((gR r97.2 a0 12 11).bind fun v99 => (gI r97.2 v99 11 0).bind fun v100 => if v100 ≤ 4 then (j22 ((((((((((((((((((((((((((((((((((((((((((((((((((((((((((((((((((((((((727 * 31) + (Int32.toInt64 r3.1)) * 31) + (Int32.toInt64 r5.1)) * 31) + (Int32.toInt64 r7.1)) * 31) + (Int32.toInt64 r9.1)) * 31) + (Int32.toInt64 r11.1)) * 31) + (Int32.toInt64 r13.1)) * 31) + (Int32.toInt64 r15.1)) * 31) + (Int32.toInt64 r17.1)) * 31) + (Int32.toInt64 r31.1)) * 31) + (Int32.toInt64 r33.1)) * 31) + (Int32.toInt64 r35.1)) * 31) + (Int32.toInt64 r37.1)) * 31) + (Int32.toInt64 r39.1)) * 31) + (Int32.toInt64 r41.1)) * 31) + (Int32.toInt64 r43.1)) * 31) + (Int32.toInt64 r49.1)) * 31) + (Int32.toInt64 r51.1)) * 31) + (Int32.toInt64 r53.1)) * 31) + (Int32.toInt64 r55.1)) * 31) + (Int32.toInt64 r57.1)) * 31) + (Int32.toInt64 r59.1)) * 31) + (Int32.toInt64 r61.1)) * 31) + (Int32.toInt64 r67.1)) * 31) + (Int32.toInt64 r69.1)) * 31) + (Int32.toInt64 r71.1)) * 31) + (Int32.toInt64 r73.1)) * 31) + (Int32.toInt64 r75.1)) * 31) + (Int32.toInt64 r77.1)) * 31) + (Int32.toInt64 r79.1)) * 31) + (Int32.toInt64 r85.1)) * 31) + (Int32.toInt64 r87.1)) * 31) + (Int32.toInt64 r89.1)) * 31) + (Int32.toInt64 r91.1)) * 31) + (Int32.toInt64 r93.1)) * 31) + (Int32.toInt64 r95.1)) * 31) + (Int32.toInt64 r97.1)) r97.2) else (if (7 : Int32) ≤ 0 then (none) else ((onO r97.2 a0 12 (f_Md_planetTold a0 4 0 r97.2)).bind fun r103 => if (7 : Int32) ≤ 1 then (none) else ((onO r103.2 a0 12 (f_Md_planetTold a0 4 1 r103.2)).bind fun r105 => if (7 : Int32) ≤ 2 then (none) else ((onO r105.2 a0 12 (f_Md_planetTold a0 4 2 r105.2)).bind fun r107 => if (7 : Int32) ≤ 3 then (none) else ((onO r107.2 a0 12 (f_Md_planetTold a0 4 3 r107.2)).bind fun r109 => if (7 : Int32) ≤ 4 then (none) else ((onO r109.2 a0 12 (f_Md_planetTold a0 4 4 r109.2)).bind fun r111 => if (7 : Int32) ≤ 5 then (none) else ((onO r111.2 a0 12 (f_Md_planetTold a0 4 5 r111.2)).bind fun r113 => if (7 : Int32) ≤ 6 then (none) else ((onO r113.2 a0 12 (f_Md_planetTold a0 4 6 r113.2)).bind fun r115 => if (7 : Int32) ≤ 7 then ((gR r115.2 a0 12 11).bind fun v117 => (gI r115.2 v117 11 0).bind fun v118 => if v118 ≤ 5 then (j22 ((((((((((((((((((((((((((((((((((((((((((((((((((((((((((((((((((((((((((((((((((((((727 * 31) + (Int32.toInt64 r3.1)) * 31) + (Int32.toInt64 r5.1)) * 31) + (Int32.toInt64 r7.1)) * 31) + (Int32.toInt64 r9.1)) * 31) + (Int32.toInt64 r11.1)) * 31) + (Int32.toInt64 r13.1)) * 31) + (Int32.toInt64 r15.1)) * 31) + (Int32.toInt64 r17.1)) * 31) + (Int32.toInt64 r31.1)) * 31) + (Int32.toInt64 r33.1)) * 31) + (Int32.toInt64 r35.1)) * 31) + (Int32.toInt64 r37.1)) * 31) + (Int32.toInt64 r39.1)) * 31) + (Int32.toInt64 r41.1)) * 31) + (Int32.toInt64 r43.1)) * 31) + (Int32.toInt64 r49.1)) * 31) + (Int32.toInt64 r51.1)) * 31) + (Int32.toInt64 r53.1)) * 31) + (Int32.toInt64 r55.1)) * 31) + (Int32.toInt64 r57.1)) * 31) + (Int32.toInt64 r59.1)) * 31) + (Int32.toInt64 r61.1)) * 31) + (Int32.toInt64 r67.1)) * 31) + (Int32.toInt64 r69.1)) * 31) + (Int32.toInt64 r71.1)) * 31) + (Int32.toInt64 r73.1)) * 31) + (Int32.toInt64 r75.1)) * 31) + (Int32.toInt64 r77.1)) * 31) + (Int32.toInt64 r79.1)) * 31) + (Int32.toInt64 r85.1)) * 31) + (Int32.toInt64 r87.1)) * 31) + (Int32.toInt64 r89.1)) * 31) + (Int32.toInt64 r91.1)) * 31) + (Int32.toInt64 r93.1)) * 31) + (Int32.toInt64 r95.1)) * 31) + (Int32.toInt64 r97.1)) * 31) + (Int32.toInt64 r103.1)) * 31) + (Int32.toInt64 r105.1)) * 31) + (Int32.toInt64 r107.1)) * 31) + (Int32.toInt64 r109.1)) * 31) + (Int32.toInt64 r111.1)) * 31) + (Int32.toInt64 r113.1)) * 31) + (Int32.toInt64 r115.1)) r115.2) else (if (7 : Int32) ≤ 0 then (none) else ((onO r115.2 a0 12 (f_Md_planetTold a0 5 0 r115.2)).bind fun r121 => if (7 : Int32) ≤ 1 then (none) else ((onO r121.2 a0 12 (f_Md_planetTold a0 5 1 r121.2)).bind fun r123 => if (7 : Int32) ≤ 2 then (none) else ((onO r123.2 a0 12 (f_Md_planetTold a0 5 2 r123.2)).bind fun r125 => if (7 : Int32) ≤ 3 then (none) else ((onO r125.2 a0 12 (f_Md_planetTold a0 5 3 r125.2)).bind fun r127 => if (7 : Int32) ≤ 4 then (none) else ((onO r127.2 a0 12 (f_Md_planetTold a0 5 4 r127.2)).bind fun r129 => if (7 : Int32) ≤ 5 then (none) else ((onO r129.2 a0 12 (f_Md_planetTold a0 5 5 r129.2)).bind fun r131 => if (7 : Int32) ≤ 6 then (none) else ((onO r131.2 a0 12 (f_Md_planetTold a0 5 6 r131.2)).bind fun r133 => if (7 : Int32) ≤ 7 then ((gR r133.2 a0 12 11).bind fun v135 => (gI r133.2 v135 11 0).bind fun v136 => if v136 ≤ 6 then (j22 ((((((((((((((((((((((((((((((((((((((((((((((((((((((((((((((((((((((((((((((((((((((((((((((((((((727 * 31) + (Int32.toInt64 r3.1)) * 31) + (Int32.toInt64 r5.1)) * 31) + (Int32.toInt64 r7.1)) * 31) + (Int32.toInt64 r9.1)) * 31) + (Int32.toInt64 r11.1)) * 31) + (Int32.toInt64 r13.1)) * 31) + (Int32.toInt64 r15.1)) * 31) + (Int32.toInt64 r17.1)) * 31) + (Int32.toInt64 r31.1)) * 31) + (Int32.toInt64 r33.1)) * 31) + (Int32.toInt64 r35.1)) * 31) + (Int32.toInt64 r37.1)) * 31) + (Int32.toInt64 r39.1)) * 31) + (Int32.toInt64 r41.1)) * 31) + (Int32.toInt64 r43.1)) * 31) + (Int32.toInt64 r49.1)) * 31) + (Int32.toInt64 r51.1)) * 31) + (Int32.toInt64 r53.1)) * 31) + (Int32.toInt64 r55.1)) * 31) + (Int32.toInt64 r57.1)) * 31) + (Int32.toInt64 r59.1)) * 31) + (Int32.toInt64 r61.1)) * 31) + (Int32.toInt64 r67.1)) * 31) + (Int32.toInt64 r69.1)) * 31) + (Int32.toInt64 r71.1)) * 31) + (Int32.toInt64 r73.1)) * 31) + (Int32.toInt64 r75.1)) * 31) + (Int32.toInt64 r77.1)) * 31) + (Int32.toInt64 r79.1)) * 31) + (Int32.toInt64 r85.1)) * 31) + (Int32.toInt64 r87.1)) * 31) + (Int32.toInt64 r89.1)) * 31) + (Int32.toInt64 r91.1)) * 31) + (Int32.toInt64 r93.1)) * 31) + (Int32.toInt64 r95.1)) * 31) + (Int32.toInt64 r97.1)) * 31) + (Int32.toInt64 r103.1)) * 31) + (Int32.toInt64 r105.1)) * 31) + (Int32.toInt64 r107.1)) * 31) + (Int32.toInt64 r109.1)) * 31) + (Int32.toInt64 r111.1)) * 31) + (Int32.toInt64 r113.1)) * 31) + (Int32.toInt64 r115.1)) * 31) + (Int32.toInt64 r121.1)) * 31) + (Int32.toInt64 r123.1)) * 31) + (Int32.toInt64 r125.1)) * 31) + (Int32.toInt64 r127.1)) * 31) + (Int32.toInt64 r129.1)) * 31) + (Int32.toInt64 r131.1)) * 31) + (Int32.toInt64 r133.1)) r133.2) else (if (7 : Int32) ≤ 0 then (none) else ((onO r133.2 a0 12 (f_Md_planetTold a0 6 0 r133.2)).bind fun r139 => if (7 : Int32) ≤ 1 then (none) else ((onO r139.2 a0 12 (f_Md_planetTold a0 6 1 r139.2)).bind fun r141 => if (7 : Int32) ≤ 2 then (none) else ((onO r141.2 a0 12 (f_Md_planetTold a0 6 2 r141.2)).bind fun r143 => if (7 : Int32) ≤ 3 then (none) else ((onO r143.2 a0 12 (f_Md_planetTold a0 6 3 r143.2)).bind fun r145 => if (7 : Int32) ≤ 4 then (none) else ((onO r145.2 a0 12 (f_Md_planetTold a0 6 4 r145.2)).bind fun r147 => if (7 : Int32) ≤ 5 then (none) else ((onO r147.2 a0 12 (f_Md_planetTold a0 6 5 r147.2)).bind fun r149 => if (7 : Int32) ≤ 6 then (none) else ((onO r149.2 a0 12 (f_Md_planetTold a0 6 6 r149.2)).bind fun r151 => if (7 : Int32) ≤ 7 then ((gR r151.2 a0 12 11).bind fun v153 => (gI r151.2 v153 11 0).bind fun v154 => if v154 ≤ 7 then (j22 ((((((((((((((((((((((((((((((((((((((((((((((((((((((((((((((((((((((((((((((((((((((((((((((((((((((((((((((((((727 * 31) + (Int32.toInt64 r3.1)) * 31) + (Int32.toInt64 r5.1)) * 31) + (Int32.toInt64 r7.1)) * 31) + (Int32.toInt64 r9.1)) * 31) + (Int32.toInt64 r11.1)) * 31) + (Int32.toInt64 r13.1)) * 31) + (Int32.toInt64 r15.1)) * 31) + (Int32.toInt64 r17.1)) * 31) + (Int32.toInt64 r31.1)) * 31) + (Int32.toInt64 r33.1)) * 31) + (Int32.toInt64 r35.1)) * 31) + (Int32.toInt64 r37.1)) * 31) + (Int32.toInt64 r39.1)) * 31) + (Int32.toInt64 r41.1)) * 31) + (Int32.toInt64 r43.1)) * 31) + (Int32.toInt64 r49.1)) * 31) + (Int32.toInt64 r51.1)) * 31) + (Int32.toInt64 r53.1)) * 31) + (Int32.toInt64 r55.1)) * 31) + (Int32.toInt64 r57.1)) * 31) + (Int32.toInt64 r59.1)) * 31) + (Int32.toInt64 r61.1)) * 31) + (Int32.toInt64 r67.1)) * 31) + (Int32.toInt64 r69.1)) * 31) + (Int32.toInt64 r71.1)) * 31) + (Int32.toInt64 r73.1)) * 31) + (Int32.toInt64 r75.1)) * 31) + (Int32.toInt64 r77.1)) * 31) + (Int32.toInt64 r79.1)) * 31) + (Int32.toInt64 r85.1)) * 31) + (Int32.toInt64 r87.1)) * 31) + (Int32.toInt64 r89.1)) * 31) + (Int32.toInt64 r91.1)) * 31) + (Int32.toInt64 r93.1)) * 31) + (Int32.toInt64 r95.1)) * 31) + (Int32.toInt64 r97.1)) * 31) + (Int32.toInt64 r103.1)) * 31) + (Int32.toInt64 r105.1)) * 31) + (Int32.toInt64 r107.1)) * 31) + (Int32.toInt64 r109.1)) * 31) + (Int32.toInt64 r111.1)) * 31) + (Int32.toInt64 r113.1)) * 31) + (Int32.toInt64 r115.1)) * 31) + (Int32.toInt64 r121.1)) * 31) + (Int32.toInt64 r123.1)) * 31) + (Int32.toInt64 r125.1)) * 31) + (Int32.toInt64 r127.1)) * 31) + (Int32.toInt64 r129.1)) * 31) + (Int32.toInt64 r131.1)) * 31) + (Int32.toInt64 r133.1)) * 31) + (Int32.toInt64 r139.1)) * 31) + (Int32.toInt64 r141.1)) * 31) + (Int32.toInt64 r143.1)) * 31) + (Int32.toInt64 r145.1)) * 31) + (Int32.toInt64 r147.1)) * 31) + (Int32.toInt64 r149.1)) * 31) + (Int32.toInt64 r151.1)) r151.2) else (if (7 : Int32) ≤ 0 then (none) else ((onO r151.2 a0 12 (f_Md_planetTold a0 7 0 r151.2)).bind fun r157 => if (7 : Int32) ≤ 1 then (none) else ((onO r157.2 a0 12 (f_Md_planetTold a0 7 1 r157.2)).bind fun r159 => if (7 : Int32) ≤ 2 then (none) else ((onO r159.2 a0 12 (f_Md_planetTold a0 7 2 r159.2)).bind fun r161 => if (7 : Int32) ≤ 3 then (none) else ((onO r161.2 a0 12 (f_Md_planetTold a0 7 3 r161.2)).bind fun r163 => if (7 : Int32) ≤ 4 then (none) else ((onO r163.2 a0 12 (f_Md_planetTold a0 7 4 r163.2)).bind fun r165 => if (7 : Int32) ≤ 5 then (none) else ((onO r165.2 a0 12 (f_Md_planetTold a0 7 5 r165.2)).bind fun r167 => if (7 : Int32) ≤ 6 then (none) else ((onO r167.2 a0 12 (f_Md_planetTold a0 7 6 r167.2)).bind fun r169 => if (7 : Int32) ≤ 7 then ((gR r169.2 a0 12 11).bind fun v171 => (gI r169.2 v171 11 0).bind fun v172 => if v172 ≤ 8 then (j22 ((((((((((((((((((((((((((((((((((((((((((((((((((((((((((((((((((((((((((((((((((((((((((((((((((((((((((((((((((((((((((((((((727 * 31) + (Int32.toInt64 r3.1)) * 31) + (Int32.toInt64 r5.1)) * 31) + (Int32.toInt64 r7.1)) * 31) + (Int32.toInt64 r9.1)) * 31) + (Int32.toInt64 r11.1)) * 31) + (Int32.toInt64 r13.1)) * 31) + (Int32.toInt64 r15.1)) * 31) + (Int32.toInt64 r17.1)) * 31) + (Int32.toInt64 r31.1)) * 31) + (Int32.toInt64 r33.1)) * 31) + (Int32.toInt64 r35.1)) * 31) + (Int32.toInt64 r37.1)) * 31) + (Int32.toInt64 r39.1)) * 31) + (Int32.toInt64 r41.1)) * 31) + (Int32.toInt64 r43.1)) * 31) + (Int32.toInt64 r49.1)) * 31) + (Int32.toInt64 r51.1)) * 31) + (Int32.toInt64 r53.1)) * 31) + (Int32.toInt64 r55.1)) * 31) + (Int32.toInt64 r57.1)) * 31) + (Int32.toInt64 r59.1)) * 31) + (Int32.toInt64 r61.1)) * 31) + (Int32.toInt64 r67.1)) * 31) + (Int32.toInt64 r69.1)) * 31) + (Int32.toInt64 r71.1)) * 31) + (Int32.toInt64 r73.1)) * 31) + (Int32.toInt64 r75.1)) * 31) + (Int32.toInt64 r77.1)) * 31) + (Int32.toInt64 r79.1)) * 31) + (Int32.toInt64 r85.1)) * 31) + (Int32.toInt64 r87.1)) * 31) + (Int32.toInt64 r89.1)) * 31) + (Int32.toInt64 r91.1)) * 31) + (Int32.toInt64 r93.1)) * 31) + (Int32.toInt64 r95.1)) * 31) + (Int32.toInt64 r97.1)) * 31) + (Int32.toInt64 r103.1)) * 31) + (Int32.toInt64 r105.1)) * 31) + (Int32.toInt64 r107.1)) * 31) + (Int32.toInt64 r109.1)) * 31) + (Int32.toInt64 r111.1)) * 31) + (Int32.toInt64 r113.1)) * 31) + (Int32.toInt64 r115.1)) * 31) + (Int32.toInt64 r121.1)) * 31) + (Int32.toInt64 r123.1)) * 31) + (Int32.toInt64 r125.1)) * 31) + (Int32.toInt64 r127.1)) * 31) + (Int32.toInt64 r129.1)) * 31) + (Int32.toInt64 r131.1)) * 31) + (Int32.toInt64 r133.1)) * 31) + (Int32.toInt64 r139.1)) * 31) + (Int32.toInt64 r141.1)) * 31) + (Int32.toInt64 r143.1)) * 31) + (Int32.toInt64 r145.1)) * 31) + (Int32.toInt64 r147.1)) * 31) + (Int32.toInt64 r149.1)) * 31) + (Int32.toInt64 r151.1)) * 31) + (Int32.toInt64 r157.1)) * 31) + (Int32.toInt64 r159.1)) * 31) + (Int32.toInt64 r161.1)) * 31) + (Int32.toInt64 r163.1)) * 31) + (Int32.toInt64 r165.1)) * 31) + (Int32.toInt64 r167.1)) * 31) + (Int32.toInt64 r169.1)) r169.2) else (none)) else (none)))))))))) else (none)))))))))) else (none)))))))))) else (none)))))))))) else (none)))))))))) else (none)))))))))) else (none)))))))))) else (none)))))))))) else (none)))))))))
set_option maxRecDepth 100000 in
set_option maxHeartbeats 4000000 in
theorem b_Md_digest_119 {p : Program} {l : Launch} {e : Env} {s : State} {m : MethodId} {args : Array Value} {below : List Frame} {meth : Method} {c : Code} {Q : State → Prop} {w : hp_W} {out : Int64 × hp_M} (fl : Nat)   (a0 : Nat) (x3 : Int32) (h : hp_M) (k162 : Int64 → Option (Int64 × hp_M)) (C : Cx p m c cX13_digest 5 s args RX13 w) (hr : meth.sig.returnType = some .long) (hlk : meth.locks = false) (hnm : meth.name = "digest") (hQ : QM below w args s ({ frames := 10, cells := 64, slots := 456, locals := 293 }) (some .long) (some (.long out.1)) out.2 = Q) (hk162 : ∀ (z1 : Int64), J p l e ({ frames := 10, cells := 64, slots := 456, locals := 293 }) s m args below meth c Q w 5 64 456 162 [(0, .ref a0), (1, .long z1), (3, .int x3)] [] h (k162 z1) out) : ∀ (n : Nat) (x1 : Int64) (x4 : Int32), J p l e ({ frames := 10, cells := 64, slots := 456, locals := 293 }) s m args below meth c Q w 5 64 456 119 [(0, .ref a0), (1, .long x1), (3, .int x3), (4, .int x4)] [] h (f_Md_digest_b119 fl a0 x3 h k162 n x1 x4) out := by
  intro n
  induction n with
  | zero => intro x1 x4; exact j_none
  | succ n ih =>
    intro x1 x4
    rw [f_Md_digest_b119]
    refine j_iload C dX13_digest_119 rfl ?_
    refine j_aload_n C dX13_digest_121 (i := 0) rfl rfl ?_
    refine j_getR C g_X13_35 dX13_digest_122 (fun v2048 ev2048 => ?_)
    refine j_getR C g_X13_219 dX13_digest_125 (fun v2049 ev2049 => ?_)
    refine j_iload_n C dX13_digest_128 (i := 3) rfl rfl ?_
    refine j_iaload C dX13_digest_129 (fun v2050 ev2050 => ?_)
    refine j_icmpge C (tgt := 162) dX13_digest_130 (by decide) (fun q2051 => ?_) (fun q2051 => ?_)
    · exact j_sub [0, 1, 2] rfl (hk162 _)
    · refine j_lload_n C dX13_digest_133 (i := 1) rfl rfl ?_
      refine j_ldc2 C dX13_digest_134 q_X13_310 ?_
      refine j_lmul C dX13_digest_137 ?_
      refine j_aload_n C dX13_digest_138 (i := 0) rfl rfl ?_
      refine j_getR C g_X13_35 dX13_digest_139 (fun v2052 ev2052 => ?_)
      refine j_getR C g_X13_222 dX13_digest_142 (fun v2053 ev2053 => ?_)
      refine j_bipush C (v := 12) dX13_digest_145 (by decide) ?_
      refine j_iload_n C dX13_digest_147 (i := 3) rfl rfl ?_
      refine j_imul C dX13_digest_148 ?_
      refine j_iload C dX13_digest_149 rfl ?_
      refine j_iadd C dX13_digest_151 ?_
      refine j_iaload C dX13_digest_152 (fun v2054 ev2054 => ?_)
      refine j_i2l C dX13_digest_153 ?_
      refine j_ladd C dX13_digest_154 ?_
      refine j_lstore_n C [(1, _), (0, _), (3, _), (4, _)] dX13_digest_155 (i := 1) rfl (by decide) rfl ?_
      refine j_iinc C (v := x4 + 1) [(4, _), (1, _), (0, _), (3, _)] dX13_digest_156 rfl rfl (by decide) rfl ?_
      refine j_goto C (tgt := 119) dX13_digest_159 (by decide) ?_
      exact j_sub [2, 1, 3, 0] rfl (ih _ _)
set_option maxRecDepth 100000 in
set_option maxHeartbeats 4000000 in
theorem b_Md_digest_88 {p : Program} {l : Launch} {e : Env} {s : State} {m : MethodId} {args : Array Value} {below : List Frame} {meth : Method} {c : Code} {Q : State → Prop} {w : hp_W} {out : Int64 × hp_M} (fl : Nat)   (a0 : Nat) (h : hp_M) (k168 : Int64 → Option (Int64 × hp_M)) (C : Cx p m c cX13_digest 5 s args RX13 w) (hr : meth.sig.returnType = some .long) (hlk : meth.locks = false) (hnm : meth.name = "digest") (hQ : QM below w args s ({ frames := 10, cells := 64, slots := 456, locals := 293 }) (some .long) (some (.long out.1)) out.2 = Q) (hk168 : ∀ (z1 : Int64), J p l e ({ frames := 10, cells := 64, slots := 456, locals := 293 }) s m args below meth c Q w 5 64 456 168 [(0, .ref a0), (1, .long z1)] [] h (k168 z1) out) : ∀ (n : Nat) (x1 : Int64) (x3 : Int32), J p l e ({ frames := 10, cells := 64, slots := 456, locals := 293 }) s m args below meth c Q w 5 64 456 88 [(0, .ref a0), (1, .long x1), (3, .int x3)] [] h (f_Md_digest_b88 fl a0 h k168 n x1 x3) out := by
  intro n
  induction n with
  | zero => intro x1 x3; exact j_none
  | succ n ih =>
    intro x1 x3
    rw [f_Md_digest_b88]
    refine j_iload_n C dX13_digest_88 (i := 3) rfl rfl ?_
    refine j_aload_n C dX13_digest_89 (i := 0) rfl rfl ?_
    refine j_getR C g_X13_35 dX13_digest_90 (fun v1036 ev1036 => ?_)
    refine j_getI C g_X13_64 dX13_digest_93 (fun v1037 ev1037 => ?_)
    refine j_icmpge C (tgt := 168) dX13_digest_96 (by decide) (fun q1038 => ?_) (fun q1038 => ?_)
    · exact j_sub [0, 1] rfl (hk168 _)
    · refine j_lload_n C dX13_digest_99 (i := 1) rfl rfl ?_
      refine j_ldc2 C dX13_digest_100 q_X13_310 ?_
      refine j_lmul C dX13_digest_103 ?_
      refine j_aload_n C dX13_digest_104 (i := 0) rfl rfl ?_
      refine j_getR C g_X13_35 dX13_digest_105 (fun v1039 ev1039 => ?_)
      refine j_getR C g_X13_219 dX13_digest_108 (fun v1040 ev1040 => ?_)
      refine j_iload_n C dX13_digest_111 (i := 3) rfl rfl ?_
      refine j_iaload C dX13_digest_112 (fun v1041 ev1041 => ?_)
      refine j_i2l C dX13_digest_113 ?_
      refine j_ladd C dX13_digest_114 ?_
      refine j_lstore_n C [(1, _), (0, _), (3, _)] dX13_digest_115 (i := 1) rfl (by decide) rfl ?_
      refine j_iconst C (v := 0) dX13_digest_116 (by decide) ?_
      refine j_istore C [(4, _), (1, _), (0, _), (3, _)] dX13_digest_117 (by decide) rfl ?_
      refine j_sub [2, 1, 3, 0] rfl (b_Md_digest_119 fl  _ _ _ _ C hr hlk hnm hQ (fun u1042 => ?_) _ _ _)
      refine j_iinc C (v := x3 + 1) [(3, _), (0, _), (1, _)] dX13_digest_162 rfl rfl (by decide) rfl ?_
      refine j_goto C (tgt := 88) dX13_digest_165 (by decide) ?_
      exact j_sub [1, 2, 0] rfl (ih _ _)
set_option maxRecDepth 100000 in
set_option maxHeartbeats 4000000 in
theorem b_Md_digest_170 {p : Program} {l : Launch} {e : Env} {s : State} {m : MethodId} {args : Array Value} {below : List Frame} {meth : Method} {c : Code} {Q : State → Prop} {w : hp_W} {out : Int64 × hp_M} (fl : Nat)   (a0 : Nat) (h : hp_M) (k204 : Int64 → Option (Int64 × hp_M)) (C : Cx p m c cX13_digest 5 s args RX13 w) (hr : meth.sig.returnType = some .long) (hlk : meth.locks = false) (hnm : meth.name = "digest") (hQ : QM below w args s ({ frames := 10, cells := 64, slots := 456, locals := 293 }) (some .long) (some (.long out.1)) out.2 = Q) (hk204 : ∀ (z1 : Int64), J p l e ({ frames := 10, cells := 64, slots := 456, locals := 293 }) s m args below meth c Q w 5 64 456 204 [(0, .ref a0), (1, .long z1)] [] h (k204 z1) out) : ∀ (n : Nat) (x1 : Int64) (x3 : Int32), J p l e ({ frames := 10, cells := 64, slots := 456, locals := 293 }) s m args below meth c Q w 5 64 456 170 [(0, .ref a0), (1, .long x1), (3, .int x3)] [] h (f_Md_digest_b170 fl a0 h k204 n x1 x3) out := by
  intro n
  induction n with
  | zero => intro x1 x3; exact j_none
  | succ n ih =>
    intro x1 x3
    rw [f_Md_digest_b170]
    refine j_iload_n C dX13_digest_170 (i := 3) rfl rfl ?_
    refine j_aload_n C dX13_digest_171 (i := 0) rfl rfl ?_
    refine j_getR C g_X13_35 dX13_digest_172 (fun v1031 ev1031 => ?_)
    refine j_getI C g_X13_155 dX13_digest_175 (fun v1032 ev1032 => ?_)
    refine j_icmpge C (tgt := 204) dX13_digest_178 (by decide) (fun q1033 => ?_) (fun q1033 => ?_)
    · exact j_sub [0, 1] rfl (hk204 _)
    · refine j_lload_n C dX13_digest_181 (i := 1) rfl rfl ?_
      refine j_ldc2 C dX13_digest_182 q_X13_310 ?_
      refine j_lmul C dX13_digest_185 ?_
      refine j_aload_n C dX13_digest_186 (i := 0) rfl rfl ?_
      refine j_getR C g_X13_47 dX13_digest_187 (fun v1034 ev1034 => ?_)
      refine j_getR C g_X13_247 dX13_digest_190 (fun v1035 ev1035 => ?_)
      refine j_iload_n C dX13_digest_193 (i := 3) rfl rfl ?_
      refine j_iaload C dX13_digest_194 (fun v1036 ev1036 => ?_)
      refine j_i2l C dX13_digest_195 ?_
      refine j_ladd C dX13_digest_196 ?_
      refine j_lstore_n C [(1, _), (0, _), (3, _)] dX13_digest_197 (i := 1) rfl (by decide) rfl ?_
      refine j_iinc C (v := x3 + 1) [(3, _), (1, _), (0, _)] dX13_digest_198 rfl rfl (by decide) rfl ?_
      refine j_goto C (tgt := 170) dX13_digest_201 (by decide) ?_
      exact j_sub [2, 1, 0] rfl (ih _ _)
set_option maxRecDepth 100000 in
set_option maxHeartbeats 4000000 in
theorem b_Md_digest_206 {p : Program} {l : Launch} {e : Env} {s : State} {m : MethodId} {args : Array Value} {below : List Frame} {meth : Method} {c : Code} {Q : State → Prop} {w : hp_W} {out : Int64 × hp_M} (fl : Nat)   (a0 : Nat) (h : hp_M) (C : Cx p m c cX13_digest 5 s args RX13 w) (hr : meth.sig.returnType = some .long) (hlk : meth.locks = false) (hnm : meth.name = "digest") (hQ : QM below w args s ({ frames := 10, cells := 64, slots := 456, locals := 293 }) (some .long) (some (.long out.1)) out.2 = Q)  : ∀ (n : Nat) (x1 : Int64) (x3 : Int32), J p l e ({ frames := 10, cells := 64, slots := 456, locals := 293 }) s m args below meth c Q w 5 64 456 206 [(0, .ref a0), (1, .long x1), (3, .int x3)] [] h (f_Md_digest_b206 fl a0 h n x1 x3) out := by
  intro n
  induction n with
  | zero => intro x1 x3; exact j_none
  | succ n ih =>
    intro x1 x3
    rw [f_Md_digest_b206]
    refine j_iload_n C dX13_digest_206 (i := 3) rfl rfl ?_
    refine j_aload_n C dX13_digest_207 (i := 0) rfl rfl ?_
    refine j_getR C g_X13_47 dX13_digest_208 (fun v1027 ev1027 => ?_)
    refine j_getI C g_X13_256 dX13_digest_211 (fun v1028 ev1028 => ?_)
    refine j_icmpge C (tgt := 240) dX13_digest_214 (by decide) (fun q1029 => ?_) (fun q1029 => ?_)
    · refine j_lload_n C dX13_digest_240 (i := 1) rfl rfl ?_
      exact e_lretM C hQ hr hlk dX13_digest_241 (Nat.le_of_ble_eq_true rfl) (Nat.le_of_ble_eq_true rfl)
    · refine j_lload_n C dX13_digest_217 (i := 1) rfl rfl ?_
      refine j_ldc2 C dX13_digest_218 q_X13_310 ?_
      refine j_lmul C dX13_digest_221 ?_
      refine j_aload_n C dX13_digest_222 (i := 0) rfl rfl ?_
      refine j_getR C g_X13_47 dX13_digest_223 (fun v1030 ev1030 => ?_)
      refine j_getR C g_X13_286 dX13_digest_226 (fun v1031 ev1031 => ?_)
      refine j_iload_n C dX13_digest_229 (i := 3) rfl rfl ?_
      refine j_iaload C dX13_digest_230 (fun v1032 ev1032 => ?_)
      refine j_i2l C dX13_digest_231 ?_
      refine j_ladd C dX13_digest_232 ?_
      refine j_lstore_n C [(1, _), (0, _), (3, _)] dX13_digest_233 (i := 1) rfl (by decide) rfl ?_
      refine j_iinc C (v := x3 + 1) [(3, _), (1, _), (0, _)] dX13_digest_234 rfl rfl (by decide) rfl ?_
      refine j_goto C (tgt := 206) dX13_digest_237 (by decide) ?_
      exact j_sub [2, 1, 0] rfl (ih _ _)
set_option maxRecDepth 100000 in
set_option maxHeartbeats 4000000 in
theorem c_Md_digest (l : Launch) (w : hp_W) (fl : Nat) (a0 : Nat) (h : hp_M) (out : Int64 × hp_M) (hX : f_Md_digest fl a0 h = some out) : CT l w yX13_digest cX13_digest 5 (some .long) ({ frames := 10, cells := 64, slots := 456, locals := 293 }) [.ref a0] h (some (.long out.1)) out.2 := by
  unfold f_Md_digest at hX
  refine ct_of (by decide +kernel) (Nat.le_of_ble_eq_true rfl) hX ?_
  intro p e s m args below meth c Q C hr hlk hnm hQ
  refine j_aload_n C dX13_digest_0 (i := 0) rfl rfl ?_
  refine j_iconst C (v := 0) dX13_digest_1 (by decide) ?_
  refine j_putI C p_X13_54 (fun q => nomatch q) dX13_digest_2 (fun h1 eh1 => ?_)
  refine j_ldc2 C dX13_digest_5 q_X13_308 ?_
  refine j_lstore_n C [(1, _), (0, _)] dX13_digest_8 (i := 1) rfl (by decide) rfl ?_
  refine j_iconst C (v := 0) dX13_digest_9 (by decide) ?_
  refine j_istore_n C [(3, _), (1, _), (0, _)] dX13_digest_10 (i := 3) rfl (by decide) rfl ?_
  refine j_iload_n C dX13_digest_11 (i := 3) rfl rfl ?_
  refine j_bipush C (v := 8) dX13_digest_12 (by decide) ?_
  refine j_icmpge C (tgt := 36) dX13_digest_14 (by decide) (fun q2 => ?_) (fun q2 => ?_)
  · exact j_none
  · refine j_lload_n C dX13_digest_17 (i := 1) rfl rfl ?_
    refine j_ldc2 C dX13_digest_18 q_X13_310 ?_
    refine j_lmul C dX13_digest_21 ?_
    refine j_aload_n C dX13_digest_22 (i := 0) rfl rfl ?_
    refine j_iload_n C dX13_digest_23 (i := 3) rfl rfl ?_
    refine j_callVim C (As := [.int _]) (rest := [_]) k_X13_262 ⟨Nat.le_of_ble_eq_true rfl, Nat.le_of_ble_eq_true rfl⟩ rfl (Nat.le_of_ble_eq_true rfl) ⟨Nat.le_of_ble_eq_true rfl, Nat.le_of_ble_eq_true rfl⟩ rfl dX13_digest_24 (fun r0 q0 => c_Md_counted l w fl _ _ _ _ q0) (fun r3 er3 nr3 => ?_)
    refine j_i2l C dX13_digest_27 ?_
    refine j_ladd C dX13_digest_28 ?_
    refine j_lstore_n C [(1, _), (3, _), (0, _)] dX13_digest_29 (i := 1) rfl (by decide) rfl ?_
    refine j_iinc C (v := 1) [(3, _), (1, _), (0, _)] dX13_digest_30 rfl (by decide) (by decide) rfl ?_
    refine j_goto C (tgt := 11) dX13_digest_33 (by decide) ?_
    refine j_iload_n C dX13_digest_11 (i := 3) rfl rfl ?_
    refine j_bipush C (v := 8) dX13_digest_12 (by decide) ?_
    refine j_icmpge C (tgt := 36) dX13_digest_14 (by decide) (fun q4 => ?_) (fun q4 => ?_)
    · exact j_none
    · refine j_lload_n C dX13_digest_17 (i := 1) rfl rfl ?_
      refine j_ldc2 C dX13_digest_18 q_X13_310 ?_
      refine j_lmul C dX13_digest_21 ?_
      refine j_aload_n C dX13_digest_22 (i := 0) rfl rfl ?_
      refine j_iload_n C dX13_digest_23 (i := 3) rfl rfl ?_
      refine j_callVim C (As := [.int _]) (rest := [_]) k_X13_262 ⟨Nat.le_of_ble_eq_true rfl, Nat.le_of_ble_eq_true rfl⟩ rfl (Nat.le_of_ble_eq_true rfl) ⟨Nat.le_of_ble_eq_true rfl, Nat.le_of_ble_eq_true rfl⟩ rfl dX13_digest_24 (fun r0 q0 => c_Md_counted l w fl _ _ _ _ q0) (fun r5 er5 nr5 => ?_)
      refine j_i2l C dX13_digest_27 ?_
      refine j_ladd C dX13_digest_28 ?_
      refine j_lstore_n C [(1, _), (3, _), (0, _)] dX13_digest_29 (i := 1) rfl (by decide) rfl ?_
      refine j_iinc C (v := 2) [(3, _), (1, _), (0, _)] dX13_digest_30 rfl (by decide) (by decide) rfl ?_
      refine j_goto C (tgt := 11) dX13_digest_33 (by decide) ?_
      refine j_iload_n C dX13_digest_11 (i := 3) rfl rfl ?_
      refine j_bipush C (v := 8) dX13_digest_12 (by decide) ?_
      refine j_icmpge C (tgt := 36) dX13_digest_14 (by decide) (fun q6 => ?_) (fun q6 => ?_)
      · exact j_none
      · refine j_lload_n C dX13_digest_17 (i := 1) rfl rfl ?_
        refine j_ldc2 C dX13_digest_18 q_X13_310 ?_
        refine j_lmul C dX13_digest_21 ?_
        refine j_aload_n C dX13_digest_22 (i := 0) rfl rfl ?_
        refine j_iload_n C dX13_digest_23 (i := 3) rfl rfl ?_
        refine j_callVim C (As := [.int _]) (rest := [_]) k_X13_262 ⟨Nat.le_of_ble_eq_true rfl, Nat.le_of_ble_eq_true rfl⟩ rfl (Nat.le_of_ble_eq_true rfl) ⟨Nat.le_of_ble_eq_true rfl, Nat.le_of_ble_eq_true rfl⟩ rfl dX13_digest_24 (fun r0 q0 => c_Md_counted l w fl _ _ _ _ q0) (fun r7 er7 nr7 => ?_)
        refine j_i2l C dX13_digest_27 ?_
        refine j_ladd C dX13_digest_28 ?_
        refine j_lstore_n C [(1, _), (3, _), (0, _)] dX13_digest_29 (i := 1) rfl (by decide) rfl ?_
        refine j_iinc C (v := 3) [(3, _), (1, _), (0, _)] dX13_digest_30 rfl (by decide) (by decide) rfl ?_
        refine j_goto C (tgt := 11) dX13_digest_33 (by decide) ?_
        refine j_iload_n C dX13_digest_11 (i := 3) rfl rfl ?_
        refine j_bipush C (v := 8) dX13_digest_12 (by decide) ?_
        refine j_icmpge C (tgt := 36) dX13_digest_14 (by decide) (fun q8 => ?_) (fun q8 => ?_)
        · exact j_none
        · refine j_lload_n C dX13_digest_17 (i := 1) rfl rfl ?_
          refine j_ldc2 C dX13_digest_18 q_X13_310 ?_
          refine j_lmul C dX13_digest_21 ?_
          refine j_aload_n C dX13_digest_22 (i := 0) rfl rfl ?_
          refine j_iload_n C dX13_digest_23 (i := 3) rfl rfl ?_
          refine j_callVim C (As := [.int _]) (rest := [_]) k_X13_262 ⟨Nat.le_of_ble_eq_true rfl, Nat.le_of_ble_eq_true rfl⟩ rfl (Nat.le_of_ble_eq_true rfl) ⟨Nat.le_of_ble_eq_true rfl, Nat.le_of_ble_eq_true rfl⟩ rfl dX13_digest_24 (fun r0 q0 => c_Md_counted l w fl _ _ _ _ q0) (fun r9 er9 nr9 => ?_)
          refine j_i2l C dX13_digest_27 ?_
          refine j_ladd C dX13_digest_28 ?_
          refine j_lstore_n C [(1, _), (3, _), (0, _)] dX13_digest_29 (i := 1) rfl (by decide) rfl ?_
          refine j_iinc C (v := 4) [(3, _), (1, _), (0, _)] dX13_digest_30 rfl (by decide) (by decide) rfl ?_
          refine j_goto C (tgt := 11) dX13_digest_33 (by decide) ?_
          refine j_iload_n C dX13_digest_11 (i := 3) rfl rfl ?_
          refine j_bipush C (v := 8) dX13_digest_12 (by decide) ?_
          refine j_icmpge C (tgt := 36) dX13_digest_14 (by decide) (fun q10 => ?_) (fun q10 => ?_)
          · exact j_none
          · refine j_lload_n C dX13_digest_17 (i := 1) rfl rfl ?_
            refine j_ldc2 C dX13_digest_18 q_X13_310 ?_
            refine j_lmul C dX13_digest_21 ?_
            refine j_aload_n C dX13_digest_22 (i := 0) rfl rfl ?_
            refine j_iload_n C dX13_digest_23 (i := 3) rfl rfl ?_
            refine j_callVim C (As := [.int _]) (rest := [_]) k_X13_262 ⟨Nat.le_of_ble_eq_true rfl, Nat.le_of_ble_eq_true rfl⟩ rfl (Nat.le_of_ble_eq_true rfl) ⟨Nat.le_of_ble_eq_true rfl, Nat.le_of_ble_eq_true rfl⟩ rfl dX13_digest_24 (fun r0 q0 => c_Md_counted l w fl _ _ _ _ q0) (fun r11 er11 nr11 => ?_)
            refine j_i2l C dX13_digest_27 ?_
            refine j_ladd C dX13_digest_28 ?_
            refine j_lstore_n C [(1, _), (3, _), (0, _)] dX13_digest_29 (i := 1) rfl (by decide) rfl ?_
            refine j_iinc C (v := 5) [(3, _), (1, _), (0, _)] dX13_digest_30 rfl (by decide) (by decide) rfl ?_
            refine j_goto C (tgt := 11) dX13_digest_33 (by decide) ?_
            refine j_iload_n C dX13_digest_11 (i := 3) rfl rfl ?_
            refine j_bipush C (v := 8) dX13_digest_12 (by decide) ?_
            refine j_icmpge C (tgt := 36) dX13_digest_14 (by decide) (fun q12 => ?_) (fun q12 => ?_)
            · exact j_none
            · refine j_lload_n C dX13_digest_17 (i := 1) rfl rfl ?_
              refine j_ldc2 C dX13_digest_18 q_X13_310 ?_
              refine j_lmul C dX13_digest_21 ?_
              refine j_aload_n C dX13_digest_22 (i := 0) rfl rfl ?_
              refine j_iload_n C dX13_digest_23 (i := 3) rfl rfl ?_
              refine j_callVim C (As := [.int _]) (rest := [_]) k_X13_262 ⟨Nat.le_of_ble_eq_true rfl, Nat.le_of_ble_eq_true rfl⟩ rfl (Nat.le_of_ble_eq_true rfl) ⟨Nat.le_of_ble_eq_true rfl, Nat.le_of_ble_eq_true rfl⟩ rfl dX13_digest_24 (fun r0 q0 => c_Md_counted l w fl _ _ _ _ q0) (fun r13 er13 nr13 => ?_)
              refine j_i2l C dX13_digest_27 ?_
              refine j_ladd C dX13_digest_28 ?_
              refine j_lstore_n C [(1, _), (3, _), (0, _)] dX13_digest_29 (i := 1) rfl (by decide) rfl ?_
              refine j_iinc C (v := 6) [(3, _), (1, _), (0, _)] dX13_digest_30 rfl (by decide) (by decide) rfl ?_
              refine j_goto C (tgt := 11) dX13_digest_33 (by decide) ?_
              refine j_iload_n C dX13_digest_11 (i := 3) rfl rfl ?_
              refine j_bipush C (v := 8) dX13_digest_12 (by decide) ?_
              refine j_icmpge C (tgt := 36) dX13_digest_14 (by decide) (fun q14 => ?_) (fun q14 => ?_)
              · exact j_none
              · refine j_lload_n C dX13_digest_17 (i := 1) rfl rfl ?_
                refine j_ldc2 C dX13_digest_18 q_X13_310 ?_
                refine j_lmul C dX13_digest_21 ?_
                refine j_aload_n C dX13_digest_22 (i := 0) rfl rfl ?_
                refine j_iload_n C dX13_digest_23 (i := 3) rfl rfl ?_
                refine j_callVim C (As := [.int _]) (rest := [_]) k_X13_262 ⟨Nat.le_of_ble_eq_true rfl, Nat.le_of_ble_eq_true rfl⟩ rfl (Nat.le_of_ble_eq_true rfl) ⟨Nat.le_of_ble_eq_true rfl, Nat.le_of_ble_eq_true rfl⟩ rfl dX13_digest_24 (fun r0 q0 => c_Md_counted l w fl _ _ _ _ q0) (fun r15 er15 nr15 => ?_)
                refine j_i2l C dX13_digest_27 ?_
                refine j_ladd C dX13_digest_28 ?_
                refine j_lstore_n C [(1, _), (3, _), (0, _)] dX13_digest_29 (i := 1) rfl (by decide) rfl ?_
                refine j_iinc C (v := 7) [(3, _), (1, _), (0, _)] dX13_digest_30 rfl (by decide) (by decide) rfl ?_
                refine j_goto C (tgt := 11) dX13_digest_33 (by decide) ?_
                refine j_iload_n C dX13_digest_11 (i := 3) rfl rfl ?_
                refine j_bipush C (v := 8) dX13_digest_12 (by decide) ?_
                refine j_icmpge C (tgt := 36) dX13_digest_14 (by decide) (fun q16 => ?_) (fun q16 => ?_)
                · exact j_none
                · refine j_lload_n C dX13_digest_17 (i := 1) rfl rfl ?_
                  refine j_ldc2 C dX13_digest_18 q_X13_310 ?_
                  refine j_lmul C dX13_digest_21 ?_
                  refine j_aload_n C dX13_digest_22 (i := 0) rfl rfl ?_
                  refine j_iload_n C dX13_digest_23 (i := 3) rfl rfl ?_
                  refine j_callVim C (As := [.int _]) (rest := [_]) k_X13_262 ⟨Nat.le_of_ble_eq_true rfl, Nat.le_of_ble_eq_true rfl⟩ rfl (Nat.le_of_ble_eq_true rfl) ⟨Nat.le_of_ble_eq_true rfl, Nat.le_of_ble_eq_true rfl⟩ rfl dX13_digest_24 (fun r0 q0 => c_Md_counted l w fl _ _ _ _ q0) (fun r17 er17 nr17 => ?_)
                  refine j_i2l C dX13_digest_27 ?_
                  refine j_ladd C dX13_digest_28 ?_
                  refine j_lstore_n C [(1, _), (3, _), (0, _)] dX13_digest_29 (i := 1) rfl (by decide) rfl ?_
                  refine j_iinc C (v := 8) [(3, _), (1, _), (0, _)] dX13_digest_30 rfl (by decide) (by decide) rfl ?_
                  refine j_goto C (tgt := 11) dX13_digest_33 (by decide) ?_
                  refine j_iload_n C dX13_digest_11 (i := 3) rfl rfl ?_
                  refine j_bipush C (v := 8) dX13_digest_12 (by decide) ?_
                  refine j_icmpge C (tgt := 36) dX13_digest_14 (by decide) (fun q18 => ?_) (fun q18 => ?_)
                  · refine j_iconst C (v := 0) dX13_digest_36 (by decide) ?_
                    refine j_istore_n C [(3, _), (1, _), (0, _)] dX13_digest_37 (i := 3) rfl (by decide) rfl ?_
                    refine j_jn (P := fun (j22 : Int64 → hp_M → Option (Int64 × hp_M)) => ∀ (u23 : Int64) (h24 : hp_M), J p l e ({ frames := 10, cells := 64, slots := 456, locals := 293 }) s m args below meth c Q w 5 64 456 86 [(0, .ref a0), (1, .long u23)] [] h24 (j22 u23 h24) out) ?_ (fun j22 hj22 => ?_)
                    · intro u23 h24
                      refine j_iconst C (v := 0) dX13_digest_86 (by decide) ?_
                      refine j_istore_n C [(3, _), (0, _), (1, _)] dX13_digest_87 (i := 3) rfl (by decide) rfl ?_
                      refine j_sub [1, 2, 0] rfl (b_Md_digest_88 fl  _ _ _ C hr hlk hnm hQ (fun u25 => ?_) _ _ _)
                      refine j_iconst C (v := 0) dX13_digest_168 (by decide) ?_
                      refine j_istore_n C [(3, _), (0, _), (1, _)] dX13_digest_169 (i := 3) rfl (by decide) rfl ?_
                      refine j_sub [1, 2, 0] rfl (b_Md_digest_170 fl  _ _ _ C hr hlk hnm hQ (fun u26 => ?_) _ _ _)
                      refine j_iconst C (v := 0) dX13_digest_204 (by decide) ?_
                      refine j_istore_n C [(3, _), (0, _), (1, _)] dX13_digest_205 (i := 3) rfl (by decide) rfl ?_
                      refine j_sub [1, 2, 0] rfl (b_Md_digest_206 fl  _ _ C hr hlk hnm hQ  _ _ _)
                    · refine j_iload_n C dX13_digest_38 (i := 3) rfl rfl ?_
                      refine j_aload_n C dX13_digest_39 (i := 0) rfl rfl ?_
                      refine j_getR C g_X13_35 dX13_digest_40 (fun v27 ev27 => ?_)
                      refine j_getI C g_X13_57 dX13_digest_43 (fun v28 ev28 => ?_)
                      refine j_icmpge C (tgt := 86) dX13_digest_46 (by decide) (fun q29 => ?_) (fun q29 => ?_)
                      · refine j_widen (c1 := 64) (s1 := 456) (Nat.le_of_ble_eq_true rfl) (Nat.le_of_ble_eq_true rfl) ?_
                        exact j_sub [2, 1] rfl (hj22 _ _)
                      · refine j_iconst C (v := 0) dX13_digest_49 (by decide) ?_
                        refine j_istore C [(4, _), (3, _), (1, _), (0, _)] dX13_digest_50 (by decide) rfl ?_
                        refine j_iload C dX13_digest_52 rfl ?_
                        refine j_bipush C (v := 7) dX13_digest_54 (by decide) ?_
                        refine j_icmpge C (tgt := 80) dX13_digest_56 (by decide) (fun q30 => ?_) (fun q30 => ?_)
                        · exact j_none
                        · refine j_lload_n C dX13_digest_59 (i := 1) rfl rfl ?_
                          refine j_ldc2 C dX13_digest_60 q_X13_310 ?_
                          refine j_lmul C dX13_digest_63 ?_
                          refine j_aload_n C dX13_digest_64 (i := 0) rfl rfl ?_
                          refine j_iload_n C dX13_digest_65 (i := 3) rfl rfl ?_
                          refine j_iload C dX13_digest_66 rfl ?_
                          refine j_callVim C (As := [.int _, .int _]) (rest := [_]) k_X13_271 ⟨Nat.le_of_ble_eq_true rfl, Nat.le_of_ble_eq_true rfl⟩ rfl (Nat.le_of_ble_eq_true rfl) ⟨Nat.le_of_ble_eq_true rfl, Nat.le_of_ble_eq_true rfl⟩ rfl dX13_digest_68 (fun r0 q0 => c_Md_planetTold l w _ _ _ _ _ q0) (fun r31 er31 nr31 => ?_)
                          refine j_i2l C dX13_digest_71 ?_
                          refine j_ladd C dX13_digest_72 ?_
                          refine j_lstore_n C [(1, _), (4, _), (3, _), (0, _)] dX13_digest_73 (i := 1) rfl (by decide) rfl ?_
                          refine j_iinc C (v := 1) [(4, _), (1, _), (3, _), (0, _)] dX13_digest_74 rfl (by decide) (by decide) rfl ?_
                          refine j_goto C (tgt := 52) dX13_digest_77 (by decide) ?_
                          refine j_iload C dX13_digest_52 rfl ?_
                          refine j_bipush C (v := 7) dX13_digest_54 (by decide) ?_
                          refine j_icmpge C (tgt := 80) dX13_digest_56 (by decide) (fun q32 => ?_) (fun q32 => ?_)
                          · exact j_none
                          · refine j_lload_n C dX13_digest_59 (i := 1) rfl rfl ?_
                            refine j_ldc2 C dX13_digest_60 q_X13_310 ?_
                            refine j_lmul C dX13_digest_63 ?_
                            refine j_aload_n C dX13_digest_64 (i := 0) rfl rfl ?_
                            refine j_iload_n C dX13_digest_65 (i := 3) rfl rfl ?_
                            refine j_iload C dX13_digest_66 rfl ?_
                            refine j_callVim C (As := [.int _, .int _]) (rest := [_]) k_X13_271 ⟨Nat.le_of_ble_eq_true rfl, Nat.le_of_ble_eq_true rfl⟩ rfl (Nat.le_of_ble_eq_true rfl) ⟨Nat.le_of_ble_eq_true rfl, Nat.le_of_ble_eq_true rfl⟩ rfl dX13_digest_68 (fun r0 q0 => c_Md_planetTold l w _ _ _ _ _ q0) (fun r33 er33 nr33 => ?_)
                            refine j_i2l C dX13_digest_71 ?_
                            refine j_ladd C dX13_digest_72 ?_
                            refine j_lstore_n C [(1, _), (4, _), (3, _), (0, _)] dX13_digest_73 (i := 1) rfl (by decide) rfl ?_
                            refine j_iinc C (v := 2) [(4, _), (1, _), (3, _), (0, _)] dX13_digest_74 rfl (by decide) (by decide) rfl ?_
                            refine j_goto C (tgt := 52) dX13_digest_77 (by decide) ?_
                            refine j_iload C dX13_digest_52 rfl ?_
                            refine j_bipush C (v := 7) dX13_digest_54 (by decide) ?_
                            refine j_icmpge C (tgt := 80) dX13_digest_56 (by decide) (fun q34 => ?_) (fun q34 => ?_)
                            · exact j_none
                            · refine j_lload_n C dX13_digest_59 (i := 1) rfl rfl ?_
                              refine j_ldc2 C dX13_digest_60 q_X13_310 ?_
                              refine j_lmul C dX13_digest_63 ?_
                              refine j_aload_n C dX13_digest_64 (i := 0) rfl rfl ?_
                              refine j_iload_n C dX13_digest_65 (i := 3) rfl rfl ?_
                              refine j_iload C dX13_digest_66 rfl ?_
                              refine j_callVim C (As := [.int _, .int _]) (rest := [_]) k_X13_271 ⟨Nat.le_of_ble_eq_true rfl, Nat.le_of_ble_eq_true rfl⟩ rfl (Nat.le_of_ble_eq_true rfl) ⟨Nat.le_of_ble_eq_true rfl, Nat.le_of_ble_eq_true rfl⟩ rfl dX13_digest_68 (fun r0 q0 => c_Md_planetTold l w _ _ _ _ _ q0) (fun r35 er35 nr35 => ?_)
                              refine j_i2l C dX13_digest_71 ?_
                              refine j_ladd C dX13_digest_72 ?_
                              refine j_lstore_n C [(1, _), (4, _), (3, _), (0, _)] dX13_digest_73 (i := 1) rfl (by decide) rfl ?_
                              refine j_iinc C (v := 3) [(4, _), (1, _), (3, _), (0, _)] dX13_digest_74 rfl (by decide) (by decide) rfl ?_
                              refine j_goto C (tgt := 52) dX13_digest_77 (by decide) ?_
                              refine j_iload C dX13_digest_52 rfl ?_
                              refine j_bipush C (v := 7) dX13_digest_54 (by decide) ?_
                              refine j_icmpge C (tgt := 80) dX13_digest_56 (by decide) (fun q36 => ?_) (fun q36 => ?_)
                              · exact j_none
                              · refine j_lload_n C dX13_digest_59 (i := 1) rfl rfl ?_
                                refine j_ldc2 C dX13_digest_60 q_X13_310 ?_
                                refine j_lmul C dX13_digest_63 ?_
                                refine j_aload_n C dX13_digest_64 (i := 0) rfl rfl ?_
                                refine j_iload_n C dX13_digest_65 (i := 3) rfl rfl ?_
                                refine j_iload C dX13_digest_66 rfl ?_
                                refine j_callVim C (As := [.int _, .int _]) (rest := [_]) k_X13_271 ⟨Nat.le_of_ble_eq_true rfl, Nat.le_of_ble_eq_true rfl⟩ rfl (Nat.le_of_ble_eq_true rfl) ⟨Nat.le_of_ble_eq_true rfl, Nat.le_of_ble_eq_true rfl⟩ rfl dX13_digest_68 (fun r0 q0 => c_Md_planetTold l w _ _ _ _ _ q0) (fun r37 er37 nr37 => ?_)
                                refine j_i2l C dX13_digest_71 ?_
                                refine j_ladd C dX13_digest_72 ?_
                                refine j_lstore_n C [(1, _), (4, _), (3, _), (0, _)] dX13_digest_73 (i := 1) rfl (by decide) rfl ?_
                                refine j_iinc C (v := 4) [(4, _), (1, _), (3, _), (0, _)] dX13_digest_74 rfl (by decide) (by decide) rfl ?_
                                refine j_goto C (tgt := 52) dX13_digest_77 (by decide) ?_
                                refine j_iload C dX13_digest_52 rfl ?_
                                refine j_bipush C (v := 7) dX13_digest_54 (by decide) ?_
                                refine j_icmpge C (tgt := 80) dX13_digest_56 (by decide) (fun q38 => ?_) (fun q38 => ?_)
                                · exact j_none
                                · refine j_lload_n C dX13_digest_59 (i := 1) rfl rfl ?_
                                  refine j_ldc2 C dX13_digest_60 q_X13_310 ?_
                                  refine j_lmul C dX13_digest_63 ?_
                                  refine j_aload_n C dX13_digest_64 (i := 0) rfl rfl ?_
                                  refine j_iload_n C dX13_digest_65 (i := 3) rfl rfl ?_
                                  refine j_iload C dX13_digest_66 rfl ?_
                                  refine j_callVim C (As := [.int _, .int _]) (rest := [_]) k_X13_271 ⟨Nat.le_of_ble_eq_true rfl, Nat.le_of_ble_eq_true rfl⟩ rfl (Nat.le_of_ble_eq_true rfl) ⟨Nat.le_of_ble_eq_true rfl, Nat.le_of_ble_eq_true rfl⟩ rfl dX13_digest_68 (fun r0 q0 => c_Md_planetTold l w _ _ _ _ _ q0) (fun r39 er39 nr39 => ?_)
                                  refine j_i2l C dX13_digest_71 ?_
                                  refine j_ladd C dX13_digest_72 ?_
                                  refine j_lstore_n C [(1, _), (4, _), (3, _), (0, _)] dX13_digest_73 (i := 1) rfl (by decide) rfl ?_
                                  refine j_iinc C (v := 5) [(4, _), (1, _), (3, _), (0, _)] dX13_digest_74 rfl (by decide) (by decide) rfl ?_
                                  refine j_goto C (tgt := 52) dX13_digest_77 (by decide) ?_
                                  refine j_iload C dX13_digest_52 rfl ?_
                                  refine j_bipush C (v := 7) dX13_digest_54 (by decide) ?_
                                  refine j_icmpge C (tgt := 80) dX13_digest_56 (by decide) (fun q40 => ?_) (fun q40 => ?_)
                                  · exact j_none
                                  · refine j_lload_n C dX13_digest_59 (i := 1) rfl rfl ?_
                                    refine j_ldc2 C dX13_digest_60 q_X13_310 ?_
                                    refine j_lmul C dX13_digest_63 ?_
                                    refine j_aload_n C dX13_digest_64 (i := 0) rfl rfl ?_
                                    refine j_iload_n C dX13_digest_65 (i := 3) rfl rfl ?_
                                    refine j_iload C dX13_digest_66 rfl ?_
                                    refine j_callVim C (As := [.int _, .int _]) (rest := [_]) k_X13_271 ⟨Nat.le_of_ble_eq_true rfl, Nat.le_of_ble_eq_true rfl⟩ rfl (Nat.le_of_ble_eq_true rfl) ⟨Nat.le_of_ble_eq_true rfl, Nat.le_of_ble_eq_true rfl⟩ rfl dX13_digest_68 (fun r0 q0 => c_Md_planetTold l w _ _ _ _ _ q0) (fun r41 er41 nr41 => ?_)
                                    refine j_i2l C dX13_digest_71 ?_
                                    refine j_ladd C dX13_digest_72 ?_
                                    refine j_lstore_n C [(1, _), (4, _), (3, _), (0, _)] dX13_digest_73 (i := 1) rfl (by decide) rfl ?_
                                    refine j_iinc C (v := 6) [(4, _), (1, _), (3, _), (0, _)] dX13_digest_74 rfl (by decide) (by decide) rfl ?_
                                    refine j_goto C (tgt := 52) dX13_digest_77 (by decide) ?_
                                    refine j_iload C dX13_digest_52 rfl ?_
                                    refine j_bipush C (v := 7) dX13_digest_54 (by decide) ?_
                                    refine j_icmpge C (tgt := 80) dX13_digest_56 (by decide) (fun q42 => ?_) (fun q42 => ?_)
                                    · exact j_none
                                    · refine j_lload_n C dX13_digest_59 (i := 1) rfl rfl ?_
                                      refine j_ldc2 C dX13_digest_60 q_X13_310 ?_
                                      refine j_lmul C dX13_digest_63 ?_
                                      refine j_aload_n C dX13_digest_64 (i := 0) rfl rfl ?_
                                      refine j_iload_n C dX13_digest_65 (i := 3) rfl rfl ?_
                                      refine j_iload C dX13_digest_66 rfl ?_
                                      refine j_callVim C (As := [.int _, .int _]) (rest := [_]) k_X13_271 ⟨Nat.le_of_ble_eq_true rfl, Nat.le_of_ble_eq_true rfl⟩ rfl (Nat.le_of_ble_eq_true rfl) ⟨Nat.le_of_ble_eq_true rfl, Nat.le_of_ble_eq_true rfl⟩ rfl dX13_digest_68 (fun r0 q0 => c_Md_planetTold l w _ _ _ _ _ q0) (fun r43 er43 nr43 => ?_)
                                      refine j_i2l C dX13_digest_71 ?_
                                      refine j_ladd C dX13_digest_72 ?_
                                      refine j_lstore_n C [(1, _), (4, _), (3, _), (0, _)] dX13_digest_73 (i := 1) rfl (by decide) rfl ?_
                                      refine j_iinc C (v := 7) [(4, _), (1, _), (3, _), (0, _)] dX13_digest_74 rfl (by decide) (by decide) rfl ?_
                                      refine j_goto C (tgt := 52) dX13_digest_77 (by decide) ?_
                                      refine j_iload C dX13_digest_52 rfl ?_
                                      refine j_bipush C (v := 7) dX13_digest_54 (by decide) ?_
                                      refine j_icmpge C (tgt := 80) dX13_digest_56 (by decide) (fun q44 => ?_) (fun q44 => ?_)
                                      · refine j_iinc C (v := 1) [(3, _), (4, _), (1, _), (0, _)] dX13_digest_80 rfl (by decide) (by decide) rfl ?_
                                        refine j_goto C (tgt := 38) dX13_digest_83 (by decide) ?_
                                        refine j_iload_n C dX13_digest_38 (i := 3) rfl rfl ?_
                                        refine j_aload_n C dX13_digest_39 (i := 0) rfl rfl ?_
                                        refine j_getR C g_X13_35 dX13_digest_40 (fun v45 ev45 => ?_)
                                        refine j_getI C g_X13_57 dX13_digest_43 (fun v46 ev46 => ?_)
                                        refine j_icmpge C (tgt := 86) dX13_digest_46 (by decide) (fun q47 => ?_) (fun q47 => ?_)
                                        · refine j_widen (c1 := 64) (s1 := 456) (Nat.le_of_ble_eq_true rfl) (Nat.le_of_ble_eq_true rfl) ?_
                                          exact j_sub [3, 2] rfl (hj22 _ _)
                                        · refine j_iconst C (v := 0) dX13_digest_49 (by decide) ?_
                                          refine j_istore C [(4, _), (3, _), (1, _), (0, _)] dX13_digest_50 (by decide) rfl ?_
                                          refine j_iload C dX13_digest_52 rfl ?_
                                          refine j_bipush C (v := 7) dX13_digest_54 (by decide) ?_
                                          refine j_icmpge C (tgt := 80) dX13_digest_56 (by decide) (fun q48 => ?_) (fun q48 => ?_)
                                          · exact j_none
                                          · refine j_lload_n C dX13_digest_59 (i := 1) rfl rfl ?_
                                            refine j_ldc2 C dX13_digest_60 q_X13_310 ?_
                                            refine j_lmul C dX13_digest_63 ?_
                                            refine j_aload_n C dX13_digest_64 (i := 0) rfl rfl ?_
                                            refine j_iload_n C dX13_digest_65 (i := 3) rfl rfl ?_
                                            refine j_iload C dX13_digest_66 rfl ?_
                                            refine j_callVim C (As := [.int _, .int _]) (rest := [_]) k_X13_271 ⟨Nat.le_of_ble_eq_true rfl, Nat.le_of_ble_eq_true rfl⟩ rfl (Nat.le_of_ble_eq_true rfl) ⟨Nat.le_of_ble_eq_true rfl, Nat.le_of_ble_eq_true rfl⟩ rfl dX13_digest_68 (fun r0 q0 => c_Md_planetTold l w _ _ _ _ _ q0) (fun r49 er49 nr49 => ?_)
                                            refine j_i2l C dX13_digest_71 ?_
                                            refine j_ladd C dX13_digest_72 ?_
                                            refine j_lstore_n C [(1, _), (4, _), (3, _), (0, _)] dX13_digest_73 (i := 1) rfl (by decide) rfl ?_
                                            refine j_iinc C (v := 1) [(4, _), (1, _), (3, _), (0, _)] dX13_digest_74 rfl (by decide) (by decide) rfl ?_
                                            refine j_goto C (tgt := 52) dX13_digest_77 (by decide) ?_
                                            refine j_iload C dX13_digest_52 rfl ?_
                                            refine j_bipush C (v := 7) dX13_digest_54 (by decide) ?_
                                            refine j_icmpge C (tgt := 80) dX13_digest_56 (by decide) (fun q50 => ?_) (fun q50 => ?_)
                                            · exact j_none
                                            · refine j_lload_n C dX13_digest_59 (i := 1) rfl rfl ?_
                                              refine j_ldc2 C dX13_digest_60 q_X13_310 ?_
                                              refine j_lmul C dX13_digest_63 ?_
                                              refine j_aload_n C dX13_digest_64 (i := 0) rfl rfl ?_
                                              refine j_iload_n C dX13_digest_65 (i := 3) rfl rfl ?_
                                              refine j_iload C dX13_digest_66 rfl ?_
                                              refine j_callVim C (As := [.int _, .int _]) (rest := [_]) k_X13_271 ⟨Nat.le_of_ble_eq_true rfl, Nat.le_of_ble_eq_true rfl⟩ rfl (Nat.le_of_ble_eq_true rfl) ⟨Nat.le_of_ble_eq_true rfl, Nat.le_of_ble_eq_true rfl⟩ rfl dX13_digest_68 (fun r0 q0 => c_Md_planetTold l w _ _ _ _ _ q0) (fun r51 er51 nr51 => ?_)
                                              refine j_i2l C dX13_digest_71 ?_
                                              refine j_ladd C dX13_digest_72 ?_
                                              refine j_lstore_n C [(1, _), (4, _), (3, _), (0, _)] dX13_digest_73 (i := 1) rfl (by decide) rfl ?_
                                              refine j_iinc C (v := 2) [(4, _), (1, _), (3, _), (0, _)] dX13_digest_74 rfl (by decide) (by decide) rfl ?_
                                              refine j_goto C (tgt := 52) dX13_digest_77 (by decide) ?_
                                              refine j_iload C dX13_digest_52 rfl ?_
                                              refine j_bipush C (v := 7) dX13_digest_54 (by decide) ?_
                                              refine j_icmpge C (tgt := 80) dX13_digest_56 (by decide) (fun q52 => ?_) (fun q52 => ?_)
                                              · exact j_none
                                              · refine j_lload_n C dX13_digest_59 (i := 1) rfl rfl ?_
                                                refine j_ldc2 C dX13_digest_60 q_X13_310 ?_
                                                refine j_lmul C dX13_digest_63 ?_
                                                refine j_aload_n C dX13_digest_64 (i := 0) rfl rfl ?_
                                                refine j_iload_n C dX13_digest_65 (i := 3) rfl rfl ?_
                                                refine j_iload C dX13_digest_66 rfl ?_
                                                refine j_callVim C (As := [.int _, .int _]) (rest := [_]) k_X13_271 ⟨Nat.le_of_ble_eq_true rfl, Nat.le_of_ble_eq_true rfl⟩ rfl (Nat.le_of_ble_eq_true rfl) ⟨Nat.le_of_ble_eq_true rfl, Nat.le_of_ble_eq_true rfl⟩ rfl dX13_digest_68 (fun r0 q0 => c_Md_planetTold l w _ _ _ _ _ q0) (fun r53 er53 nr53 => ?_)
                                                refine j_i2l C dX13_digest_71 ?_
                                                refine j_ladd C dX13_digest_72 ?_
                                                refine j_lstore_n C [(1, _), (4, _), (3, _), (0, _)] dX13_digest_73 (i := 1) rfl (by decide) rfl ?_
                                                refine j_iinc C (v := 3) [(4, _), (1, _), (3, _), (0, _)] dX13_digest_74 rfl (by decide) (by decide) rfl ?_
                                                refine j_goto C (tgt := 52) dX13_digest_77 (by decide) ?_
                                                refine j_iload C dX13_digest_52 rfl ?_
                                                refine j_bipush C (v := 7) dX13_digest_54 (by decide) ?_
                                                refine j_icmpge C (tgt := 80) dX13_digest_56 (by decide) (fun q54 => ?_) (fun q54 => ?_)
                                                · exact j_none
                                                · refine j_lload_n C dX13_digest_59 (i := 1) rfl rfl ?_
                                                  refine j_ldc2 C dX13_digest_60 q_X13_310 ?_
                                                  refine j_lmul C dX13_digest_63 ?_
                                                  refine j_aload_n C dX13_digest_64 (i := 0) rfl rfl ?_
                                                  refine j_iload_n C dX13_digest_65 (i := 3) rfl rfl ?_
                                                  refine j_iload C dX13_digest_66 rfl ?_
                                                  refine j_callVim C (As := [.int _, .int _]) (rest := [_]) k_X13_271 ⟨Nat.le_of_ble_eq_true rfl, Nat.le_of_ble_eq_true rfl⟩ rfl (Nat.le_of_ble_eq_true rfl) ⟨Nat.le_of_ble_eq_true rfl, Nat.le_of_ble_eq_true rfl⟩ rfl dX13_digest_68 (fun r0 q0 => c_Md_planetTold l w _ _ _ _ _ q0) (fun r55 er55 nr55 => ?_)
                                                  refine j_i2l C dX13_digest_71 ?_
                                                  refine j_ladd C dX13_digest_72 ?_
                                                  refine j_lstore_n C [(1, _), (4, _), (3, _), (0, _)] dX13_digest_73 (i := 1) rfl (by decide) rfl ?_
                                                  refine j_iinc C (v := 4) [(4, _), (1, _), (3, _), (0, _)] dX13_digest_74 rfl (by decide) (by decide) rfl ?_
                                                  refine j_goto C (tgt := 52) dX13_digest_77 (by decide) ?_
                                                  refine j_iload C dX13_digest_52 rfl ?_
                                                  refine j_bipush C (v := 7) dX13_digest_54 (by decide) ?_
                                                  refine j_icmpge C (tgt := 80) dX13_digest_56 (by decide) (fun q56 => ?_) (fun q56 => ?_)
                                                  · exact j_none
                                                  · refine j_lload_n C dX13_digest_59 (i := 1) rfl rfl ?_
                                                    refine j_ldc2 C dX13_digest_60 q_X13_310 ?_
                                                    refine j_lmul C dX13_digest_63 ?_
                                                    refine j_aload_n C dX13_digest_64 (i := 0) rfl rfl ?_
                                                    refine j_iload_n C dX13_digest_65 (i := 3) rfl rfl ?_
                                                    refine j_iload C dX13_digest_66 rfl ?_
                                                    refine j_callVim C (As := [.int _, .int _]) (rest := [_]) k_X13_271 ⟨Nat.le_of_ble_eq_true rfl, Nat.le_of_ble_eq_true rfl⟩ rfl (Nat.le_of_ble_eq_true rfl) ⟨Nat.le_of_ble_eq_true rfl, Nat.le_of_ble_eq_true rfl⟩ rfl dX13_digest_68 (fun r0 q0 => c_Md_planetTold l w _ _ _ _ _ q0) (fun r57 er57 nr57 => ?_)
                                                    refine j_i2l C dX13_digest_71 ?_
                                                    refine j_ladd C dX13_digest_72 ?_
                                                    refine j_lstore_n C [(1, _), (4, _), (3, _), (0, _)] dX13_digest_73 (i := 1) rfl (by decide) rfl ?_
                                                    refine j_iinc C (v := 5) [(4, _), (1, _), (3, _), (0, _)] dX13_digest_74 rfl (by decide) (by decide) rfl ?_
                                                    refine j_goto C (tgt := 52) dX13_digest_77 (by decide) ?_
                                                    refine j_iload C dX13_digest_52 rfl ?_
                                                    refine j_bipush C (v := 7) dX13_digest_54 (by decide) ?_
                                                    refine j_icmpge C (tgt := 80) dX13_digest_56 (by decide) (fun q58 => ?_) (fun q58 => ?_)
                                                    · exact j_none
                                                    · refine j_lload_n C dX13_digest_59 (i := 1) rfl rfl ?_
                                                      refine j_ldc2 C dX13_digest_60 q_X13_310 ?_
                                                      refine j_lmul C dX13_digest_63 ?_
                                                      refine j_aload_n C dX13_digest_64 (i := 0) rfl rfl ?_
                                                      refine j_iload_n C dX13_digest_65 (i := 3) rfl rfl ?_
                                                      refine j_iload C dX13_digest_66 rfl ?_
                                                      refine j_callVim C (As := [.int _, .int _]) (rest := [_]) k_X13_271 ⟨Nat.le_of_ble_eq_true rfl, Nat.le_of_ble_eq_true rfl⟩ rfl (Nat.le_of_ble_eq_true rfl) ⟨Nat.le_of_ble_eq_true rfl, Nat.le_of_ble_eq_true rfl⟩ rfl dX13_digest_68 (fun r0 q0 => c_Md_planetTold l w _ _ _ _ _ q0) (fun r59 er59 nr59 => ?_)
                                                      refine j_i2l C dX13_digest_71 ?_
                                                      refine j_ladd C dX13_digest_72 ?_
                                                      refine j_lstore_n C [(1, _), (4, _), (3, _), (0, _)] dX13_digest_73 (i := 1) rfl (by decide) rfl ?_
                                                      refine j_iinc C (v := 6) [(4, _), (1, _), (3, _), (0, _)] dX13_digest_74 rfl (by decide) (by decide) rfl ?_
                                                      refine j_goto C (tgt := 52) dX13_digest_77 (by decide) ?_
                                                      refine j_iload C dX13_digest_52 rfl ?_
                                                      refine j_bipush C (v := 7) dX13_digest_54 (by decide) ?_
                                                      refine j_icmpge C (tgt := 80) dX13_digest_56 (by decide) (fun q60 => ?_) (fun q60 => ?_)
                                                      · exact j_none
                                                      · refine j_lload_n C dX13_digest_59 (i := 1) rfl rfl ?_
                                                        refine j_ldc2 C dX13_digest_60 q_X13_310 ?_
                                                        refine j_lmul C dX13_digest_63 ?_
                                                        refine j_aload_n C dX13_digest_64 (i := 0) rfl rfl ?_
                                                        refine j_iload_n C dX13_digest_65 (i := 3) rfl rfl ?_
                                                        refine j_iload C dX13_digest_66 rfl ?_
                                                        refine j_callVim C (As := [.int _, .int _]) (rest := [_]) k_X13_271 ⟨Nat.le_of_ble_eq_true rfl, Nat.le_of_ble_eq_true rfl⟩ rfl (Nat.le_of_ble_eq_true rfl) ⟨Nat.le_of_ble_eq_true rfl, Nat.le_of_ble_eq_true rfl⟩ rfl dX13_digest_68 (fun r0 q0 => c_Md_planetTold l w _ _ _ _ _ q0) (fun r61 er61 nr61 => ?_)
                                                        refine j_i2l C dX13_digest_71 ?_
                                                        refine j_ladd C dX13_digest_72 ?_
                                                        refine j_lstore_n C [(1, _), (4, _), (3, _), (0, _)] dX13_digest_73 (i := 1) rfl (by decide) rfl ?_
                                                        refine j_iinc C (v := 7) [(4, _), (1, _), (3, _), (0, _)] dX13_digest_74 rfl (by decide) (by decide) rfl ?_
                                                        refine j_goto C (tgt := 52) dX13_digest_77 (by decide) ?_
                                                        refine j_iload C dX13_digest_52 rfl ?_
                                                        refine j_bipush C (v := 7) dX13_digest_54 (by decide) ?_
                                                        refine j_icmpge C (tgt := 80) dX13_digest_56 (by decide) (fun q62 => ?_) (fun q62 => ?_)
                                                        · refine j_iinc C (v := 2) [(3, _), (4, _), (1, _), (0, _)] dX13_digest_80 rfl (by decide) (by decide) rfl ?_
                                                          refine j_goto C (tgt := 38) dX13_digest_83 (by decide) ?_
                                                          refine j_iload_n C dX13_digest_38 (i := 3) rfl rfl ?_
                                                          refine j_aload_n C dX13_digest_39 (i := 0) rfl rfl ?_
                                                          refine j_getR C g_X13_35 dX13_digest_40 (fun v63 ev63 => ?_)
                                                          refine j_getI C g_X13_57 dX13_digest_43 (fun v64 ev64 => ?_)
                                                          refine j_icmpge C (tgt := 86) dX13_digest_46 (by decide) (fun q65 => ?_) (fun q65 => ?_)
                                                          · refine j_widen (c1 := 64) (s1 := 456) (Nat.le_of_ble_eq_true rfl) (Nat.le_of_ble_eq_true rfl) ?_
                                                            exact j_sub [3, 2] rfl (hj22 _ _)
                                                          · refine j_iconst C (v := 0) dX13_digest_49 (by decide) ?_
                                                            refine j_istore C [(4, _), (3, _), (1, _), (0, _)] dX13_digest_50 (by decide) rfl ?_
                                                            refine j_iload C dX13_digest_52 rfl ?_
                                                            refine j_bipush C (v := 7) dX13_digest_54 (by decide) ?_
                                                            refine j_icmpge C (tgt := 80) dX13_digest_56 (by decide) (fun q66 => ?_) (fun q66 => ?_)
                                                            · exact j_none
                                                            · refine j_lload_n C dX13_digest_59 (i := 1) rfl rfl ?_
                                                              refine j_ldc2 C dX13_digest_60 q_X13_310 ?_
                                                              refine j_lmul C dX13_digest_63 ?_
                                                              refine j_aload_n C dX13_digest_64 (i := 0) rfl rfl ?_
                                                              refine j_iload_n C dX13_digest_65 (i := 3) rfl rfl ?_
                                                              refine j_iload C dX13_digest_66 rfl ?_
                                                              refine j_callVim C (As := [.int _, .int _]) (rest := [_]) k_X13_271 ⟨Nat.le_of_ble_eq_true rfl, Nat.le_of_ble_eq_true rfl⟩ rfl (Nat.le_of_ble_eq_true rfl) ⟨Nat.le_of_ble_eq_true rfl, Nat.le_of_ble_eq_true rfl⟩ rfl dX13_digest_68 (fun r0 q0 => c_Md_planetTold l w _ _ _ _ _ q0) (fun r67 er67 nr67 => ?_)
                                                              refine j_i2l C dX13_digest_71 ?_
                                                              refine j_ladd C dX13_digest_72 ?_
                                                              refine j_lstore_n C [(1, _), (4, _), (3, _), (0, _)] dX13_digest_73 (i := 1) rfl (by decide) rfl ?_
                                                              refine j_iinc C (v := 1) [(4, _), (1, _), (3, _), (0, _)] dX13_digest_74 rfl (by decide) (by decide) rfl ?_
                                                              refine j_goto C (tgt := 52) dX13_digest_77 (by decide) ?_
                                                              refine j_iload C dX13_digest_52 rfl ?_
                                                              refine j_bipush C (v := 7) dX13_digest_54 (by decide) ?_
                                                              refine j_icmpge C (tgt := 80) dX13_digest_56 (by decide) (fun q68 => ?_) (fun q68 => ?_)
                                                              · exact j_none
                                                              · refine j_lload_n C dX13_digest_59 (i := 1) rfl rfl ?_
                                                                refine j_ldc2 C dX13_digest_60 q_X13_310 ?_
                                                                refine j_lmul C dX13_digest_63 ?_
                                                                refine j_aload_n C dX13_digest_64 (i := 0) rfl rfl ?_
                                                                refine j_iload_n C dX13_digest_65 (i := 3) rfl rfl ?_
                                                                refine j_iload C dX13_digest_66 rfl ?_
                                                                refine j_callVim C (As := [.int _, .int _]) (rest := [_]) k_X13_271 ⟨Nat.le_of_ble_eq_true rfl, Nat.le_of_ble_eq_true rfl⟩ rfl (Nat.le_of_ble_eq_true rfl) ⟨Nat.le_of_ble_eq_true rfl, Nat.le_of_ble_eq_true rfl⟩ rfl dX13_digest_68 (fun r0 q0 => c_Md_planetTold l w _ _ _ _ _ q0) (fun r69 er69 nr69 => ?_)
                                                                refine j_i2l C dX13_digest_71 ?_
                                                                refine j_ladd C dX13_digest_72 ?_
                                                                refine j_lstore_n C [(1, _), (4, _), (3, _), (0, _)] dX13_digest_73 (i := 1) rfl (by decide) rfl ?_
                                                                refine j_iinc C (v := 2) [(4, _), (1, _), (3, _), (0, _)] dX13_digest_74 rfl (by decide) (by decide) rfl ?_
                                                                refine j_goto C (tgt := 52) dX13_digest_77 (by decide) ?_
                                                                refine j_iload C dX13_digest_52 rfl ?_
                                                                refine j_bipush C (v := 7) dX13_digest_54 (by decide) ?_
                                                                refine j_icmpge C (tgt := 80) dX13_digest_56 (by decide) (fun q70 => ?_) (fun q70 => ?_)
                                                                · exact j_none
                                                                · refine j_lload_n C dX13_digest_59 (i := 1) rfl rfl ?_
                                                                  refine j_ldc2 C dX13_digest_60 q_X13_310 ?_
                                                                  refine j_lmul C dX13_digest_63 ?_
                                                                  refine j_aload_n C dX13_digest_64 (i := 0) rfl rfl ?_
                                                                  refine j_iload_n C dX13_digest_65 (i := 3) rfl rfl ?_
                                                                  refine j_iload C dX13_digest_66 rfl ?_
                                                                  refine j_callVim C (As := [.int _, .int _]) (rest := [_]) k_X13_271 ⟨Nat.le_of_ble_eq_true rfl, Nat.le_of_ble_eq_true rfl⟩ rfl (Nat.le_of_ble_eq_true rfl) ⟨Nat.le_of_ble_eq_true rfl, Nat.le_of_ble_eq_true rfl⟩ rfl dX13_digest_68 (fun r0 q0 => c_Md_planetTold l w _ _ _ _ _ q0) (fun r71 er71 nr71 => ?_)
                                                                  refine j_i2l C dX13_digest_71 ?_
                                                                  refine j_ladd C dX13_digest_72 ?_
                                                                  refine j_lstore_n C [(1, _), (4, _), (3, _), (0, _)] dX13_digest_73 (i := 1) rfl (by decide) rfl ?_
                                                                  refine j_iinc C (v := 3) [(4, _), (1, _), (3, _), (0, _)] dX13_digest_74 rfl (by decide) (by decide) rfl ?_
                                                                  refine j_goto C (tgt := 52) dX13_digest_77 (by decide) ?_
                                                                  refine j_iload C dX13_digest_52 rfl ?_
                                                                  refine j_bipush C (v := 7) dX13_digest_54 (by decide) ?_
                                                                  refine j_icmpge C (tgt := 80) dX13_digest_56 (by decide) (fun q72 => ?_) (fun q72 => ?_)
                                                                  · exact j_none
                                                                  · refine j_lload_n C dX13_digest_59 (i := 1) rfl rfl ?_
                                                                    refine j_ldc2 C dX13_digest_60 q_X13_310 ?_
                                                                    refine j_lmul C dX13_digest_63 ?_
                                                                    refine j_aload_n C dX13_digest_64 (i := 0) rfl rfl ?_
                                                                    refine j_iload_n C dX13_digest_65 (i := 3) rfl rfl ?_
                                                                    refine j_iload C dX13_digest_66 rfl ?_
                                                                    refine j_callVim C (As := [.int _, .int _]) (rest := [_]) k_X13_271 ⟨Nat.le_of_ble_eq_true rfl, Nat.le_of_ble_eq_true rfl⟩ rfl (Nat.le_of_ble_eq_true rfl) ⟨Nat.le_of_ble_eq_true rfl, Nat.le_of_ble_eq_true rfl⟩ rfl dX13_digest_68 (fun r0 q0 => c_Md_planetTold l w _ _ _ _ _ q0) (fun r73 er73 nr73 => ?_)
                                                                    refine j_i2l C dX13_digest_71 ?_
                                                                    refine j_ladd C dX13_digest_72 ?_
                                                                    refine j_lstore_n C [(1, _), (4, _), (3, _), (0, _)] dX13_digest_73 (i := 1) rfl (by decide) rfl ?_
                                                                    refine j_iinc C (v := 4) [(4, _), (1, _), (3, _), (0, _)] dX13_digest_74 rfl (by decide) (by decide) rfl ?_
                                                                    refine j_goto C (tgt := 52) dX13_digest_77 (by decide) ?_
                                                                    refine j_iload C dX13_digest_52 rfl ?_
                                                                    refine j_bipush C (v := 7) dX13_digest_54 (by decide) ?_
                                                                    refine j_icmpge C (tgt := 80) dX13_digest_56 (by decide) (fun q74 => ?_) (fun q74 => ?_)
                                                                    · exact j_none
                                                                    · refine j_lload_n C dX13_digest_59 (i := 1) rfl rfl ?_
                                                                      refine j_ldc2 C dX13_digest_60 q_X13_310 ?_
                                                                      refine j_lmul C dX13_digest_63 ?_
                                                                      refine j_aload_n C dX13_digest_64 (i := 0) rfl rfl ?_
                                                                      refine j_iload_n C dX13_digest_65 (i := 3) rfl rfl ?_
                                                                      refine j_iload C dX13_digest_66 rfl ?_
                                                                      refine j_callVim C (As := [.int _, .int _]) (rest := [_]) k_X13_271 ⟨Nat.le_of_ble_eq_true rfl, Nat.le_of_ble_eq_true rfl⟩ rfl (Nat.le_of_ble_eq_true rfl) ⟨Nat.le_of_ble_eq_true rfl, Nat.le_of_ble_eq_true rfl⟩ rfl dX13_digest_68 (fun r0 q0 => c_Md_planetTold l w _ _ _ _ _ q0) (fun r75 er75 nr75 => ?_)
                                                                      refine j_i2l C dX13_digest_71 ?_
                                                                      refine j_ladd C dX13_digest_72 ?_
                                                                      refine j_lstore_n C [(1, _), (4, _), (3, _), (0, _)] dX13_digest_73 (i := 1) rfl (by decide) rfl ?_
                                                                      refine j_iinc C (v := 5) [(4, _), (1, _), (3, _), (0, _)] dX13_digest_74 rfl (by decide) (by decide) rfl ?_
                                                                      refine j_goto C (tgt := 52) dX13_digest_77 (by decide) ?_
                                                                      refine j_iload C dX13_digest_52 rfl ?_
                                                                      refine j_bipush C (v := 7) dX13_digest_54 (by decide) ?_
                                                                      refine j_icmpge C (tgt := 80) dX13_digest_56 (by decide) (fun q76 => ?_) (fun q76 => ?_)
                                                                      · exact j_none
                                                                      · refine j_lload_n C dX13_digest_59 (i := 1) rfl rfl ?_
                                                                        refine j_ldc2 C dX13_digest_60 q_X13_310 ?_
                                                                        refine j_lmul C dX13_digest_63 ?_
                                                                        refine j_aload_n C dX13_digest_64 (i := 0) rfl rfl ?_
                                                                        refine j_iload_n C dX13_digest_65 (i := 3) rfl rfl ?_
                                                                        refine j_iload C dX13_digest_66 rfl ?_
                                                                        refine j_callVim C (As := [.int _, .int _]) (rest := [_]) k_X13_271 ⟨Nat.le_of_ble_eq_true rfl, Nat.le_of_ble_eq_true rfl⟩ rfl (Nat.le_of_ble_eq_true rfl) ⟨Nat.le_of_ble_eq_true rfl, Nat.le_of_ble_eq_true rfl⟩ rfl dX13_digest_68 (fun r0 q0 => c_Md_planetTold l w _ _ _ _ _ q0) (fun r77 er77 nr77 => ?_)
                                                                        refine j_i2l C dX13_digest_71 ?_
                                                                        refine j_ladd C dX13_digest_72 ?_
                                                                        refine j_lstore_n C [(1, _), (4, _), (3, _), (0, _)] dX13_digest_73 (i := 1) rfl (by decide) rfl ?_
                                                                        refine j_iinc C (v := 6) [(4, _), (1, _), (3, _), (0, _)] dX13_digest_74 rfl (by decide) (by decide) rfl ?_
                                                                        refine j_goto C (tgt := 52) dX13_digest_77 (by decide) ?_
                                                                        refine j_iload C dX13_digest_52 rfl ?_
                                                                        refine j_bipush C (v := 7) dX13_digest_54 (by decide) ?_
                                                                        refine j_icmpge C (tgt := 80) dX13_digest_56 (by decide) (fun q78 => ?_) (fun q78 => ?_)
                                                                        · exact j_none
                                                                        · refine j_lload_n C dX13_digest_59 (i := 1) rfl rfl ?_
                                                                          refine j_ldc2 C dX13_digest_60 q_X13_310 ?_
                                                                          refine j_lmul C dX13_digest_63 ?_
                                                                          refine j_aload_n C dX13_digest_64 (i := 0) rfl rfl ?_
                                                                          refine j_iload_n C dX13_digest_65 (i := 3) rfl rfl ?_
                                                                          refine j_iload C dX13_digest_66 rfl ?_
                                                                          refine j_callVim C (As := [.int _, .int _]) (rest := [_]) k_X13_271 ⟨Nat.le_of_ble_eq_true rfl, Nat.le_of_ble_eq_true rfl⟩ rfl (Nat.le_of_ble_eq_true rfl) ⟨Nat.le_of_ble_eq_true rfl, Nat.le_of_ble_eq_true rfl⟩ rfl dX13_digest_68 (fun r0 q0 => c_Md_planetTold l w _ _ _ _ _ q0) (fun r79 er79 nr79 => ?_)
                                                                          refine j_i2l C dX13_digest_71 ?_
                                                                          refine j_ladd C dX13_digest_72 ?_
                                                                          refine j_lstore_n C [(1, _), (4, _), (3, _), (0, _)] dX13_digest_73 (i := 1) rfl (by decide) rfl ?_
                                                                          refine j_iinc C (v := 7) [(4, _), (1, _), (3, _), (0, _)] dX13_digest_74 rfl (by decide) (by decide) rfl ?_
                                                                          refine j_goto C (tgt := 52) dX13_digest_77 (by decide) ?_
                                                                          refine j_iload C dX13_digest_52 rfl ?_
                                                                          refine j_bipush C (v := 7) dX13_digest_54 (by decide) ?_
                                                                          refine j_icmpge C (tgt := 80) dX13_digest_56 (by decide) (fun q80 => ?_) (fun q80 => ?_)
                                                                          · refine j_iinc C (v := 3) [(3, _), (4, _), (1, _), (0, _)] dX13_digest_80 rfl (by decide) (by decide) rfl ?_
                                                                            refine j_goto C (tgt := 38) dX13_digest_83 (by decide) ?_
                                                                            refine j_iload_n C dX13_digest_38 (i := 3) rfl rfl ?_
                                                                            refine j_aload_n C dX13_digest_39 (i := 0) rfl rfl ?_
                                                                            refine j_getR C g_X13_35 dX13_digest_40 (fun v81 ev81 => ?_)
                                                                            refine j_getI C g_X13_57 dX13_digest_43 (fun v82 ev82 => ?_)
                                                                            refine j_icmpge C (tgt := 86) dX13_digest_46 (by decide) (fun q83 => ?_) (fun q83 => ?_)
                                                                            · refine j_widen (c1 := 64) (s1 := 456) (Nat.le_of_ble_eq_true rfl) (Nat.le_of_ble_eq_true rfl) ?_
                                                                              exact j_sub [3, 2] rfl (hj22 _ _)
                                                                            · refine j_iconst C (v := 0) dX13_digest_49 (by decide) ?_
                                                                              refine j_istore C [(4, _), (3, _), (1, _), (0, _)] dX13_digest_50 (by decide) rfl ?_
                                                                              refine j_iload C dX13_digest_52 rfl ?_
                                                                              refine j_bipush C (v := 7) dX13_digest_54 (by decide) ?_
                                                                              refine j_icmpge C (tgt := 80) dX13_digest_56 (by decide) (fun q84 => ?_) (fun q84 => ?_)
                                                                              · exact j_none
                                                                              · refine j_lload_n C dX13_digest_59 (i := 1) rfl rfl ?_
                                                                                refine j_ldc2 C dX13_digest_60 q_X13_310 ?_
                                                                                refine j_lmul C dX13_digest_63 ?_
                                                                                refine j_aload_n C dX13_digest_64 (i := 0) rfl rfl ?_
                                                                                refine j_iload_n C dX13_digest_65 (i := 3) rfl rfl ?_
                                                                                refine j_iload C dX13_digest_66 rfl ?_
                                                                                refine j_callVim C (As := [.int _, .int _]) (rest := [_]) k_X13_271 ⟨Nat.le_of_ble_eq_true rfl, Nat.le_of_ble_eq_true rfl⟩ rfl (Nat.le_of_ble_eq_true rfl) ⟨Nat.le_of_ble_eq_true rfl, Nat.le_of_ble_eq_true rfl⟩ rfl dX13_digest_68 (fun r0 q0 => c_Md_planetTold l w _ _ _ _ _ q0) (fun r85 er85 nr85 => ?_)
                                                                                refine j_i2l C dX13_digest_71 ?_
                                                                                refine j_ladd C dX13_digest_72 ?_
                                                                                refine j_lstore_n C [(1, _), (4, _), (3, _), (0, _)] dX13_digest_73 (i := 1) rfl (by decide) rfl ?_
                                                                                refine j_iinc C (v := 1) [(4, _), (1, _), (3, _), (0, _)] dX13_digest_74 rfl (by decide) (by decide) rfl ?_
                                                                                refine j_goto C (tgt := 52) dX13_digest_77 (by decide) ?_
                                                                                refine j_iload C dX13_digest_52 rfl ?_
                                                                                refine j_bipush C (v := 7) dX13_digest_54 (by decide) ?_
                                                                                refine j_icmpge C (tgt := 80) dX13_digest_56 (by decide) (fun q86 => ?_) (fun q86 => ?_)
                                                                                · exact j_none
                                                                                · refine j_lload_n C dX13_digest_59 (i := 1) rfl rfl ?_
                                                                                  refine j_ldc2 C dX13_digest_60 q_X13_310 ?_
                                                                                  refine j_lmul C dX13_digest_63 ?_
                                                                                  refine j_aload_n C dX13_digest_64 (i := 0) rfl rfl ?_
                                                                                  refine j_iload_n C dX13_digest_65 (i := 3) rfl rfl ?_
                                                                                  refine j_iload C dX13_digest_66 rfl ?_
                                                                                  refine j_callVim C (As := [.int _, .int _]) (rest := [_]) k_X13_271 ⟨Nat.le_of_ble_eq_true rfl, Nat.le_of_ble_eq_true rfl⟩ rfl (Nat.le_of_ble_eq_true rfl) ⟨Nat.le_of_ble_eq_true rfl, Nat.le_of_ble_eq_true rfl⟩ rfl dX13_digest_68 (fun r0 q0 => c_Md_planetTold l w _ _ _ _ _ q0) (fun r87 er87 nr87 => ?_)
                                                                                  refine j_i2l C dX13_digest_71 ?_
                                                                                  refine j_ladd C dX13_digest_72 ?_
                                                                                  refine j_lstore_n C [(1, _), (4, _), (3, _), (0, _)] dX13_digest_73 (i := 1) rfl (by decide) rfl ?_
                                                                                  refine j_iinc C (v := 2) [(4, _), (1, _), (3, _), (0, _)] dX13_digest_74 rfl (by decide) (by decide) rfl ?_
                                                                                  refine j_goto C (tgt := 52) dX13_digest_77 (by decide) ?_
                                                                                  refine j_iload C dX13_digest_52 rfl ?_
                                                                                  refine j_bipush C (v := 7) dX13_digest_54 (by decide) ?_
                                                                                  refine j_icmpge C (tgt := 80) dX13_digest_56 (by decide) (fun q88 => ?_) (fun q88 => ?_)
                                                                                  · exact j_none
                                                                                  · refine j_lload_n C dX13_digest_59 (i := 1) rfl rfl ?_
                                                                                    refine j_ldc2 C dX13_digest_60 q_X13_310 ?_
                                                                                    refine j_lmul C dX13_digest_63 ?_
                                                                                    refine j_aload_n C dX13_digest_64 (i := 0) rfl rfl ?_
                                                                                    refine j_iload_n C dX13_digest_65 (i := 3) rfl rfl ?_
                                                                                    refine j_iload C dX13_digest_66 rfl ?_
                                                                                    refine j_callVim C (As := [.int _, .int _]) (rest := [_]) k_X13_271 ⟨Nat.le_of_ble_eq_true rfl, Nat.le_of_ble_eq_true rfl⟩ rfl (Nat.le_of_ble_eq_true rfl) ⟨Nat.le_of_ble_eq_true rfl, Nat.le_of_ble_eq_true rfl⟩ rfl dX13_digest_68 (fun r0 q0 => c_Md_planetTold l w _ _ _ _ _ q0) (fun r89 er89 nr89 => ?_)
                                                                                    refine j_i2l C dX13_digest_71 ?_
                                                                                    refine j_ladd C dX13_digest_72 ?_
                                                                                    refine j_lstore_n C [(1, _), (4, _), (3, _), (0, _)] dX13_digest_73 (i := 1) rfl (by decide) rfl ?_
                                                                                    refine j_iinc C (v := 3) [(4, _), (1, _), (3, _), (0, _)] dX13_digest_74 rfl (by decide) (by decide) rfl ?_
                                                                                    refine j_goto C (tgt := 52) dX13_digest_77 (by decide) ?_
                                                                                    refine j_iload C dX13_digest_52 rfl ?_
                                                                                    refine j_bipush C (v := 7) dX13_digest_54 (by decide) ?_
                                                                                    refine j_icmpge C (tgt := 80) dX13_digest_56 (by decide) (fun q90 => ?_) (fun q90 => ?_)
                                                                                    · exact j_none
                                                                                    · refine j_lload_n C dX13_digest_59 (i := 1) rfl rfl ?_
                                                                                      refine j_ldc2 C dX13_digest_60 q_X13_310 ?_
                                                                                      refine j_lmul C dX13_digest_63 ?_
                                                                                      refine j_aload_n C dX13_digest_64 (i := 0) rfl rfl ?_
                                                                                      refine j_iload_n C dX13_digest_65 (i := 3) rfl rfl ?_
                                                                                      refine j_iload C dX13_digest_66 rfl ?_
                                                                                      refine j_callVim C (As := [.int _, .int _]) (rest := [_]) k_X13_271 ⟨Nat.le_of_ble_eq_true rfl, Nat.le_of_ble_eq_true rfl⟩ rfl (Nat.le_of_ble_eq_true rfl) ⟨Nat.le_of_ble_eq_true rfl, Nat.le_of_ble_eq_true rfl⟩ rfl dX13_digest_68 (fun r0 q0 => c_Md_planetTold l w _ _ _ _ _ q0) (fun r91 er91 nr91 => ?_)
                                                                                      refine j_i2l C dX13_digest_71 ?_
                                                                                      refine j_ladd C dX13_digest_72 ?_
                                                                                      refine j_lstore_n C [(1, _), (4, _), (3, _), (0, _)] dX13_digest_73 (i := 1) rfl (by decide) rfl ?_
                                                                                      refine j_iinc C (v := 4) [(4, _), (1, _), (3, _), (0, _)] dX13_digest_74 rfl (by decide) (by decide) rfl ?_
                                                                                      refine j_goto C (tgt := 52) dX13_digest_77 (by decide) ?_
                                                                                      refine j_iload C dX13_digest_52 rfl ?_
                                                                                      refine j_bipush C (v := 7) dX13_digest_54 (by decide) ?_
                                                                                      refine j_icmpge C (tgt := 80) dX13_digest_56 (by decide) (fun q92 => ?_) (fun q92 => ?_)
                                                                                      · exact j_none
                                                                                      · refine j_lload_n C dX13_digest_59 (i := 1) rfl rfl ?_
                                                                                        refine j_ldc2 C dX13_digest_60 q_X13_310 ?_
                                                                                        refine j_lmul C dX13_digest_63 ?_
                                                                                        refine j_aload_n C dX13_digest_64 (i := 0) rfl rfl ?_
                                                                                        refine j_iload_n C dX13_digest_65 (i := 3) rfl rfl ?_
                                                                                        refine j_iload C dX13_digest_66 rfl ?_
                                                                                        refine j_callVim C (As := [.int _, .int _]) (rest := [_]) k_X13_271 ⟨Nat.le_of_ble_eq_true rfl, Nat.le_of_ble_eq_true rfl⟩ rfl (Nat.le_of_ble_eq_true rfl) ⟨Nat.le_of_ble_eq_true rfl, Nat.le_of_ble_eq_true rfl⟩ rfl dX13_digest_68 (fun r0 q0 => c_Md_planetTold l w _ _ _ _ _ q0) (fun r93 er93 nr93 => ?_)
                                                                                        refine j_i2l C dX13_digest_71 ?_
                                                                                        refine j_ladd C dX13_digest_72 ?_
                                                                                        refine j_lstore_n C [(1, _), (4, _), (3, _), (0, _)] dX13_digest_73 (i := 1) rfl (by decide) rfl ?_
                                                                                        refine j_iinc C (v := 5) [(4, _), (1, _), (3, _), (0, _)] dX13_digest_74 rfl (by decide) (by decide) rfl ?_
                                                                                        refine j_goto C (tgt := 52) dX13_digest_77 (by decide) ?_
                                                                                        refine j_iload C dX13_digest_52 rfl ?_
                                                                                        refine j_bipush C (v := 7) dX13_digest_54 (by decide) ?_
                                                                                        refine j_icmpge C (tgt := 80) dX13_digest_56 (by decide) (fun q94 => ?_) (fun q94 => ?_)
                                                                                        · exact j_none
                                                                                        · refine j_lload_n C dX13_digest_59 (i := 1) rfl rfl ?_
                                                                                          refine j_ldc2 C dX13_digest_60 q_X13_310 ?_
                                                                                          refine j_lmul C dX13_digest_63 ?_
                                                                                          refine j_aload_n C dX13_digest_64 (i := 0) rfl rfl ?_
                                                                                          refine j_iload_n C dX13_digest_65 (i := 3) rfl rfl ?_
                                                                                          refine j_iload C dX13_digest_66 rfl ?_
                                                                                          refine j_callVim C (As := [.int _, .int _]) (rest := [_]) k_X13_271 ⟨Nat.le_of_ble_eq_true rfl, Nat.le_of_ble_eq_true rfl⟩ rfl (Nat.le_of_ble_eq_true rfl) ⟨Nat.le_of_ble_eq_true rfl, Nat.le_of_ble_eq_true rfl⟩ rfl dX13_digest_68 (fun r0 q0 => c_Md_planetTold l w _ _ _ _ _ q0) (fun r95 er95 nr95 => ?_)
                                                                                          refine j_i2l C dX13_digest_71 ?_
                                                                                          refine j_ladd C dX13_digest_72 ?_
                                                                                          refine j_lstore_n C [(1, _), (4, _), (3, _), (0, _)] dX13_digest_73 (i := 1) rfl (by decide) rfl ?_
                                                                                          refine j_iinc C (v := 6) [(4, _), (1, _), (3, _), (0, _)] dX13_digest_74 rfl (by decide) (by decide) rfl ?_
                                                                                          refine j_goto C (tgt := 52) dX13_digest_77 (by decide) ?_
                                                                                          refine j_iload C dX13_digest_52 rfl ?_
                                                                                          refine j_bipush C (v := 7) dX13_digest_54 (by decide) ?_
                                                                                          refine j_icmpge C (tgt := 80) dX13_digest_56 (by decide) (fun q96 => ?_) (fun q96 => ?_)
                                                                                          · exact j_none
                                                                                          · refine j_lload_n C dX13_digest_59 (i := 1) rfl rfl ?_
                                                                                            refine j_ldc2 C dX13_digest_60 q_X13_310 ?_
                                                                                            refine j_lmul C dX13_digest_63 ?_
                                                                                            refine j_aload_n C dX13_digest_64 (i := 0) rfl rfl ?_
                                                                                            refine j_iload_n C dX13_digest_65 (i := 3) rfl rfl ?_
                                                                                            refine j_iload C dX13_digest_66 rfl ?_
                                                                                            refine j_callVim C (As := [.int _, .int _]) (rest := [_]) k_X13_271 ⟨Nat.le_of_ble_eq_true rfl, Nat.le_of_ble_eq_true rfl⟩ rfl (Nat.le_of_ble_eq_true rfl) ⟨Nat.le_of_ble_eq_true rfl, Nat.le_of_ble_eq_true rfl⟩ rfl dX13_digest_68 (fun r0 q0 => c_Md_planetTold l w _ _ _ _ _ q0) (fun r97 er97 nr97 => ?_)
                                                                                            refine j_i2l C dX13_digest_71 ?_
                                                                                            refine j_ladd C dX13_digest_72 ?_
                                                                                            refine j_lstore_n C [(1, _), (4, _), (3, _), (0, _)] dX13_digest_73 (i := 1) rfl (by decide) rfl ?_
                                                                                            refine j_iinc C (v := 7) [(4, _), (1, _), (3, _), (0, _)] dX13_digest_74 rfl (by decide) (by decide) rfl ?_
                                                                                            refine j_goto C (tgt := 52) dX13_digest_77 (by decide) ?_
                                                                                            refine j_iload C dX13_digest_52 rfl ?_
                                                                                            refine j_bipush C (v := 7) dX13_digest_54 (by decide) ?_
                                                                                            refine j_icmpge C (tgt := 80) dX13_digest_56 (by decide) (fun q98 => ?_) (fun q98 => ?_)
                                                                                            · refine j_iinc C (v := 4) [(3, _), (4, _), (1, _), (0, _)] dX13_digest_80 rfl (by decide) (by decide) rfl ?_
                                                                                              refine j_goto C (tgt := 38) dX13_digest_83 (by decide) ?_
                                                                                              refine j_iload_n C dX13_digest_38 (i := 3) rfl rfl ?_
                                                                                              refine j_aload_n C dX13_digest_39 (i := 0) rfl rfl ?_
                                                                                              refine j_getR C g_X13_35 dX13_digest_40 (fun v99 ev99 => ?_)
                                                                                              refine j_getI C g_X13_57 dX13_digest_43 (fun v100 ev100 => ?_)
                                                                                              refine j_icmpge C (tgt := 86) dX13_digest_46 (by decide) (fun q101 => ?_) (fun q101 => ?_)
                                                                                              · refine j_widen (c1 := 64) (s1 := 456) (Nat.le_of_ble_eq_true rfl) (Nat.le_of_ble_eq_true rfl) ?_
                                                                                                exact j_sub [3, 2] rfl (hj22 _ _)
                                                                                              · refine j_iconst C (v := 0) dX13_digest_49 (by decide) ?_
                                                                                                refine j_istore C [(4, _), (3, _), (1, _), (0, _)] dX13_digest_50 (by decide) rfl ?_
                                                                                                refine j_iload C dX13_digest_52 rfl ?_
                                                                                                refine j_bipush C (v := 7) dX13_digest_54 (by decide) ?_
                                                                                                refine j_icmpge C (tgt := 80) dX13_digest_56 (by decide) (fun q102 => ?_) (fun q102 => ?_)
                                                                                                · exact j_none
                                                                                                · refine j_lload_n C dX13_digest_59 (i := 1) rfl rfl ?_
                                                                                                  refine j_ldc2 C dX13_digest_60 q_X13_310 ?_
                                                                                                  refine j_lmul C dX13_digest_63 ?_
                                                                                                  refine j_aload_n C dX13_digest_64 (i := 0) rfl rfl ?_
                                                                                                  refine j_iload_n C dX13_digest_65 (i := 3) rfl rfl ?_
                                                                                                  refine j_iload C dX13_digest_66 rfl ?_
                                                                                                  refine j_callVim C (As := [.int _, .int _]) (rest := [_]) k_X13_271 ⟨Nat.le_of_ble_eq_true rfl, Nat.le_of_ble_eq_true rfl⟩ rfl (Nat.le_of_ble_eq_true rfl) ⟨Nat.le_of_ble_eq_true rfl, Nat.le_of_ble_eq_true rfl⟩ rfl dX13_digest_68 (fun r0 q0 => c_Md_planetTold l w _ _ _ _ _ q0) (fun r103 er103 nr103 => ?_)
                                                                                                  refine j_i2l C dX13_digest_71 ?_
                                                                                                  refine j_ladd C dX13_digest_72 ?_
                                                                                                  refine j_lstore_n C [(1, _), (4, _), (3, _), (0, _)] dX13_digest_73 (i := 1) rfl (by decide) rfl ?_
                                                                                                  refine j_iinc C (v := 1) [(4, _), (1, _), (3, _), (0, _)] dX13_digest_74 rfl (by decide) (by decide) rfl ?_
                                                                                                  refine j_goto C (tgt := 52) dX13_digest_77 (by decide) ?_
                                                                                                  refine j_iload C dX13_digest_52 rfl ?_
                                                                                                  refine j_bipush C (v := 7) dX13_digest_54 (by decide) ?_
                                                                                                  refine j_icmpge C (tgt := 80) dX13_digest_56 (by decide) (fun q104 => ?_) (fun q104 => ?_)
                                                                                                  · exact j_none
                                                                                                  · refine j_lload_n C dX13_digest_59 (i := 1) rfl rfl ?_
                                                                                                    refine j_ldc2 C dX13_digest_60 q_X13_310 ?_
                                                                                                    refine j_lmul C dX13_digest_63 ?_
                                                                                                    refine j_aload_n C dX13_digest_64 (i := 0) rfl rfl ?_
                                                                                                    refine j_iload_n C dX13_digest_65 (i := 3) rfl rfl ?_
                                                                                                    refine j_iload C dX13_digest_66 rfl ?_
                                                                                                    refine j_callVim C (As := [.int _, .int _]) (rest := [_]) k_X13_271 ⟨Nat.le_of_ble_eq_true rfl, Nat.le_of_ble_eq_true rfl⟩ rfl (Nat.le_of_ble_eq_true rfl) ⟨Nat.le_of_ble_eq_true rfl, Nat.le_of_ble_eq_true rfl⟩ rfl dX13_digest_68 (fun r0 q0 => c_Md_planetTold l w _ _ _ _ _ q0) (fun r105 er105 nr105 => ?_)
                                                                                                    refine j_i2l C dX13_digest_71 ?_
                                                                                                    refine j_ladd C dX13_digest_72 ?_
                                                                                                    refine j_lstore_n C [(1, _), (4, _), (3, _), (0, _)] dX13_digest_73 (i := 1) rfl (by decide) rfl ?_
                                                                                                    refine j_iinc C (v := 2) [(4, _), (1, _), (3, _), (0, _)] dX13_digest_74 rfl (by decide) (by decide) rfl ?_
                                                                                                    refine j_goto C (tgt := 52) dX13_digest_77 (by decide) ?_
                                                                                                    refine j_iload C dX13_digest_52 rfl ?_
                                                                                                    refine j_bipush C (v := 7) dX13_digest_54 (by decide) ?_
                                                                                                    refine j_icmpge C (tgt := 80) dX13_digest_56 (by decide) (fun q106 => ?_) (fun q106 => ?_)
                                                                                                    · exact j_none
                                                                                                    · refine j_lload_n C dX13_digest_59 (i := 1) rfl rfl ?_
                                                                                                      refine j_ldc2 C dX13_digest_60 q_X13_310 ?_
                                                                                                      refine j_lmul C dX13_digest_63 ?_
                                                                                                      refine j_aload_n C dX13_digest_64 (i := 0) rfl rfl ?_
                                                                                                      refine j_iload_n C dX13_digest_65 (i := 3) rfl rfl ?_
                                                                                                      refine j_iload C dX13_digest_66 rfl ?_
                                                                                                      refine j_callVim C (As := [.int _, .int _]) (rest := [_]) k_X13_271 ⟨Nat.le_of_ble_eq_true rfl, Nat.le_of_ble_eq_true rfl⟩ rfl (Nat.le_of_ble_eq_true rfl) ⟨Nat.le_of_ble_eq_true rfl, Nat.le_of_ble_eq_true rfl⟩ rfl dX13_digest_68 (fun r0 q0 => c_Md_planetTold l w _ _ _ _ _ q0) (fun r107 er107 nr107 => ?_)
                                                                                                      refine j_i2l C dX13_digest_71 ?_
                                                                                                      refine j_ladd C dX13_digest_72 ?_
                                                                                                      refine j_lstore_n C [(1, _), (4, _), (3, _), (0, _)] dX13_digest_73 (i := 1) rfl (by decide) rfl ?_
                                                                                                      refine j_iinc C (v := 3) [(4, _), (1, _), (3, _), (0, _)] dX13_digest_74 rfl (by decide) (by decide) rfl ?_
                                                                                                      refine j_goto C (tgt := 52) dX13_digest_77 (by decide) ?_
                                                                                                      refine j_iload C dX13_digest_52 rfl ?_
                                                                                                      refine j_bipush C (v := 7) dX13_digest_54 (by decide) ?_
                                                                                                      refine j_icmpge C (tgt := 80) dX13_digest_56 (by decide) (fun q108 => ?_) (fun q108 => ?_)
                                                                                                      · exact j_none
                                                                                                      · refine j_lload_n C dX13_digest_59 (i := 1) rfl rfl ?_
                                                                                                        refine j_ldc2 C dX13_digest_60 q_X13_310 ?_
                                                                                                        refine j_lmul C dX13_digest_63 ?_
                                                                                                        refine j_aload_n C dX13_digest_64 (i := 0) rfl rfl ?_
                                                                                                        refine j_iload_n C dX13_digest_65 (i := 3) rfl rfl ?_
                                                                                                        refine j_iload C dX13_digest_66 rfl ?_
                                                                                                        refine j_callVim C (As := [.int _, .int _]) (rest := [_]) k_X13_271 ⟨Nat.le_of_ble_eq_true rfl, Nat.le_of_ble_eq_true rfl⟩ rfl (Nat.le_of_ble_eq_true rfl) ⟨Nat.le_of_ble_eq_true rfl, Nat.le_of_ble_eq_true rfl⟩ rfl dX13_digest_68 (fun r0 q0 => c_Md_planetTold l w _ _ _ _ _ q0) (fun r109 er109 nr109 => ?_)
                                                                                                        refine j_i2l C dX13_digest_71 ?_
                                                                                                        refine j_ladd C dX13_digest_72 ?_
                                                                                                        refine j_lstore_n C [(1, _), (4, _), (3, _), (0, _)] dX13_digest_73 (i := 1) rfl (by decide) rfl ?_
                                                                                                        refine j_iinc C (v := 4) [(4, _), (1, _), (3, _), (0, _)] dX13_digest_74 rfl (by decide) (by decide) rfl ?_
                                                                                                        refine j_goto C (tgt := 52) dX13_digest_77 (by decide) ?_
                                                                                                        refine j_iload C dX13_digest_52 rfl ?_
                                                                                                        refine j_bipush C (v := 7) dX13_digest_54 (by decide) ?_
                                                                                                        refine j_icmpge C (tgt := 80) dX13_digest_56 (by decide) (fun q110 => ?_) (fun q110 => ?_)
                                                                                                        · exact j_none
                                                                                                        · refine j_lload_n C dX13_digest_59 (i := 1) rfl rfl ?_
                                                                                                          refine j_ldc2 C dX13_digest_60 q_X13_310 ?_
                                                                                                          refine j_lmul C dX13_digest_63 ?_
                                                                                                          refine j_aload_n C dX13_digest_64 (i := 0) rfl rfl ?_
                                                                                                          refine j_iload_n C dX13_digest_65 (i := 3) rfl rfl ?_
                                                                                                          refine j_iload C dX13_digest_66 rfl ?_
                                                                                                          refine j_callVim C (As := [.int _, .int _]) (rest := [_]) k_X13_271 ⟨Nat.le_of_ble_eq_true rfl, Nat.le_of_ble_eq_true rfl⟩ rfl (Nat.le_of_ble_eq_true rfl) ⟨Nat.le_of_ble_eq_true rfl, Nat.le_of_ble_eq_true rfl⟩ rfl dX13_digest_68 (fun r0 q0 => c_Md_planetTold l w _ _ _ _ _ q0) (fun r111 er111 nr111 => ?_)
                                                                                                          refine j_i2l C dX13_digest_71 ?_
                                                                                                          refine j_ladd C dX13_digest_72 ?_
                                                                                                          refine j_lstore_n C [(1, _), (4, _), (3, _), (0, _)] dX13_digest_73 (i := 1) rfl (by decide) rfl ?_
                                                                                                          refine j_iinc C (v := 5) [(4, _), (1, _), (3, _), (0, _)] dX13_digest_74 rfl (by decide) (by decide) rfl ?_
                                                                                                          refine j_goto C (tgt := 52) dX13_digest_77 (by decide) ?_
                                                                                                          refine j_iload C dX13_digest_52 rfl ?_
                                                                                                          refine j_bipush C (v := 7) dX13_digest_54 (by decide) ?_
                                                                                                          refine j_icmpge C (tgt := 80) dX13_digest_56 (by decide) (fun q112 => ?_) (fun q112 => ?_)
                                                                                                          · exact j_none
                                                                                                          · refine j_lload_n C dX13_digest_59 (i := 1) rfl rfl ?_
                                                                                                            refine j_ldc2 C dX13_digest_60 q_X13_310 ?_
                                                                                                            refine j_lmul C dX13_digest_63 ?_
                                                                                                            refine j_aload_n C dX13_digest_64 (i := 0) rfl rfl ?_
                                                                                                            refine j_iload_n C dX13_digest_65 (i := 3) rfl rfl ?_
                                                                                                            refine j_iload C dX13_digest_66 rfl ?_
                                                                                                            refine j_callVim C (As := [.int _, .int _]) (rest := [_]) k_X13_271 ⟨Nat.le_of_ble_eq_true rfl, Nat.le_of_ble_eq_true rfl⟩ rfl (Nat.le_of_ble_eq_true rfl) ⟨Nat.le_of_ble_eq_true rfl, Nat.le_of_ble_eq_true rfl⟩ rfl dX13_digest_68 (fun r0 q0 => c_Md_planetTold l w _ _ _ _ _ q0) (fun r113 er113 nr113 => ?_)
                                                                                                            refine j_i2l C dX13_digest_71 ?_
                                                                                                            refine j_ladd C dX13_digest_72 ?_
                                                                                                            refine j_lstore_n C [(1, _), (4, _), (3, _), (0, _)] dX13_digest_73 (i := 1) rfl (by decide) rfl ?_
                                                                                                            refine j_iinc C (v := 6) [(4, _), (1, _), (3, _), (0, _)] dX13_digest_74 rfl (by decide) (by decide) rfl ?_
                                                                                                            refine j_goto C (tgt := 52) dX13_digest_77 (by decide) ?_
                                                                                                            refine j_iload C dX13_digest_52 rfl ?_
                                                                                                            refine j_bipush C (v := 7) dX13_digest_54 (by decide) ?_
                                                                                                            refine j_icmpge C (tgt := 80) dX13_digest_56 (by decide) (fun q114 => ?_) (fun q114 => ?_)
                                                                                                            · exact j_none
                                                                                                            · refine j_lload_n C dX13_digest_59 (i := 1) rfl rfl ?_
                                                                                                              refine j_ldc2 C dX13_digest_60 q_X13_310 ?_
                                                                                                              refine j_lmul C dX13_digest_63 ?_
                                                                                                              refine j_aload_n C dX13_digest_64 (i := 0) rfl rfl ?_
                                                                                                              refine j_iload_n C dX13_digest_65 (i := 3) rfl rfl ?_
                                                                                                              refine j_iload C dX13_digest_66 rfl ?_
                                                                                                              refine j_callVim C (As := [.int _, .int _]) (rest := [_]) k_X13_271 ⟨Nat.le_of_ble_eq_true rfl, Nat.le_of_ble_eq_true rfl⟩ rfl (Nat.le_of_ble_eq_true rfl) ⟨Nat.le_of_ble_eq_true rfl, Nat.le_of_ble_eq_true rfl⟩ rfl dX13_digest_68 (fun r0 q0 => c_Md_planetTold l w _ _ _ _ _ q0) (fun r115 er115 nr115 => ?_)
                                                                                                              refine j_i2l C dX13_digest_71 ?_
                                                                                                              refine j_ladd C dX13_digest_72 ?_
                                                                                                              refine j_lstore_n C [(1, _), (4, _), (3, _), (0, _)] dX13_digest_73 (i := 1) rfl (by decide) rfl ?_
                                                                                                              refine j_iinc C (v := 7) [(4, _), (1, _), (3, _), (0, _)] dX13_digest_74 rfl (by decide) (by decide) rfl ?_
                                                                                                              refine j_goto C (tgt := 52) dX13_digest_77 (by decide) ?_
                                                                                                              refine j_iload C dX13_digest_52 rfl ?_
                                                                                                              refine j_bipush C (v := 7) dX13_digest_54 (by decide) ?_
                                                                                                              refine j_icmpge C (tgt := 80) dX13_digest_56 (by decide) (fun q116 => ?_) (fun q116 => ?_)
                                                                                                              · refine j_iinc C (v := 5) [(3, _), (4, _), (1, _), (0, _)] dX13_digest_80 rfl (by decide) (by decide) rfl ?_
                                                                                                                refine j_goto C (tgt := 38) dX13_digest_83 (by decide) ?_
                                                                                                                refine j_iload_n C dX13_digest_38 (i := 3) rfl rfl ?_
                                                                                                                refine j_aload_n C dX13_digest_39 (i := 0) rfl rfl ?_
                                                                                                                refine j_getR C g_X13_35 dX13_digest_40 (fun v117 ev117 => ?_)
                                                                                                                refine j_getI C g_X13_57 dX13_digest_43 (fun v118 ev118 => ?_)
                                                                                                                refine j_icmpge C (tgt := 86) dX13_digest_46 (by decide) (fun q119 => ?_) (fun q119 => ?_)
                                                                                                                · refine j_widen (c1 := 64) (s1 := 456) (Nat.le_of_ble_eq_true rfl) (Nat.le_of_ble_eq_true rfl) ?_
                                                                                                                  exact j_sub [3, 2] rfl (hj22 _ _)
                                                                                                                · refine j_iconst C (v := 0) dX13_digest_49 (by decide) ?_
                                                                                                                  refine j_istore C [(4, _), (3, _), (1, _), (0, _)] dX13_digest_50 (by decide) rfl ?_
                                                                                                                  refine j_iload C dX13_digest_52 rfl ?_
                                                                                                                  refine j_bipush C (v := 7) dX13_digest_54 (by decide) ?_
                                                                                                                  refine j_icmpge C (tgt := 80) dX13_digest_56 (by decide) (fun q120 => ?_) (fun q120 => ?_)
                                                                                                                  · exact j_none
                                                                                                                  · refine j_lload_n C dX13_digest_59 (i := 1) rfl rfl ?_
                                                                                                                    refine j_ldc2 C dX13_digest_60 q_X13_310 ?_
                                                                                                                    refine j_lmul C dX13_digest_63 ?_
                                                                                                                    refine j_aload_n C dX13_digest_64 (i := 0) rfl rfl ?_
                                                                                                                    refine j_iload_n C dX13_digest_65 (i := 3) rfl rfl ?_
                                                                                                                    refine j_iload C dX13_digest_66 rfl ?_
                                                                                                                    refine j_callVim C (As := [.int _, .int _]) (rest := [_]) k_X13_271 ⟨Nat.le_of_ble_eq_true rfl, Nat.le_of_ble_eq_true rfl⟩ rfl (Nat.le_of_ble_eq_true rfl) ⟨Nat.le_of_ble_eq_true rfl, Nat.le_of_ble_eq_true rfl⟩ rfl dX13_digest_68 (fun r0 q0 => c_Md_planetTold l w _ _ _ _ _ q0) (fun r121 er121 nr121 => ?_)
                                                                                                                    refine j_i2l C dX13_digest_71 ?_
                                                                                                                    refine j_ladd C dX13_digest_72 ?_
                                                                                                                    refine j_lstore_n C [(1, _), (4, _), (3, _), (0, _)] dX13_digest_73 (i := 1) rfl (by decide) rfl ?_
                                                                                                                    refine j_iinc C (v := 1) [(4, _), (1, _), (3, _), (0, _)] dX13_digest_74 rfl (by decide) (by decide) rfl ?_
                                                                                                                    refine j_goto C (tgt := 52) dX13_digest_77 (by decide) ?_
                                                                                                                    refine j_iload C dX13_digest_52 rfl ?_
                                                                                                                    refine j_bipush C (v := 7) dX13_digest_54 (by decide) ?_
                                                                                                                    refine j_icmpge C (tgt := 80) dX13_digest_56 (by decide) (fun q122 => ?_) (fun q122 => ?_)
                                                                                                                    · exact j_none
                                                                                                                    · refine j_lload_n C dX13_digest_59 (i := 1) rfl rfl ?_
                                                                                                                      refine j_ldc2 C dX13_digest_60 q_X13_310 ?_
                                                                                                                      refine j_lmul C dX13_digest_63 ?_
                                                                                                                      refine j_aload_n C dX13_digest_64 (i := 0) rfl rfl ?_
                                                                                                                      refine j_iload_n C dX13_digest_65 (i := 3) rfl rfl ?_
                                                                                                                      refine j_iload C dX13_digest_66 rfl ?_
                                                                                                                      refine j_callVim C (As := [.int _, .int _]) (rest := [_]) k_X13_271 ⟨Nat.le_of_ble_eq_true rfl, Nat.le_of_ble_eq_true rfl⟩ rfl (Nat.le_of_ble_eq_true rfl) ⟨Nat.le_of_ble_eq_true rfl, Nat.le_of_ble_eq_true rfl⟩ rfl dX13_digest_68 (fun r0 q0 => c_Md_planetTold l w _ _ _ _ _ q0) (fun r123 er123 nr123 => ?_)
                                                                                                                      refine j_i2l C dX13_digest_71 ?_
                                                                                                                      refine j_ladd C dX13_digest_72 ?_
                                                                                                                      refine j_lstore_n C [(1, _), (4, _), (3, _), (0, _)] dX13_digest_73 (i := 1) rfl (by decide) rfl ?_
                                                                                                                      refine j_iinc C (v := 2) [(4, _), (1, _), (3, _), (0, _)] dX13_digest_74 rfl (by decide) (by decide) rfl ?_
                                                                                                                      refine j_goto C (tgt := 52) dX13_digest_77 (by decide) ?_
                                                                                                                      refine j_iload C dX13_digest_52 rfl ?_
                                                                                                                      refine j_bipush C (v := 7) dX13_digest_54 (by decide) ?_
                                                                                                                      refine j_icmpge C (tgt := 80) dX13_digest_56 (by decide) (fun q124 => ?_) (fun q124 => ?_)
                                                                                                                      · exact j_none
                                                                                                                      · refine j_lload_n C dX13_digest_59 (i := 1) rfl rfl ?_
                                                                                                                        refine j_ldc2 C dX13_digest_60 q_X13_310 ?_
                                                                                                                        refine j_lmul C dX13_digest_63 ?_
                                                                                                                        refine j_aload_n C dX13_digest_64 (i := 0) rfl rfl ?_
                                                                                                                        refine j_iload_n C dX13_digest_65 (i := 3) rfl rfl ?_
                                                                                                                        refine j_iload C dX13_digest_66 rfl ?_
                                                                                                                        refine j_callVim C (As := [.int _, .int _]) (rest := [_]) k_X13_271 ⟨Nat.le_of_ble_eq_true rfl, Nat.le_of_ble_eq_true rfl⟩ rfl (Nat.le_of_ble_eq_true rfl) ⟨Nat.le_of_ble_eq_true rfl, Nat.le_of_ble_eq_true rfl⟩ rfl dX13_digest_68 (fun r0 q0 => c_Md_planetTold l w _ _ _ _ _ q0) (fun r125 er125 nr125 => ?_)
                                                                                                                        refine j_i2l C dX13_digest_71 ?_
                                                                                                                        refine j_ladd C dX13_digest_72 ?_
                                                                                                                        refine j_lstore_n C [(1, _), (4, _), (3, _), (0, _)] dX13_digest_73 (i := 1) rfl (by decide) rfl ?_
                                                                                                                        refine j_iinc C (v := 3) [(4, _), (1, _), (3, _), (0, _)] dX13_digest_74 rfl (by decide) (by decide) rfl ?_
                                                                                                                        refine j_goto C (tgt := 52) dX13_digest_77 (by decide) ?_
                                                                                                                        refine j_iload C dX13_digest_52 rfl ?_
                                                                                                                        refine j_bipush C (v := 7) dX13_digest_54 (by decide) ?_
                                                                                                                        refine j_icmpge C (tgt := 80) dX13_digest_56 (by decide) (fun q126 => ?_) (fun q126 => ?_)
                                                                                                                        · exact j_none
                                                                                                                        · refine j_lload_n C dX13_digest_59 (i := 1) rfl rfl ?_
                                                                                                                          refine j_ldc2 C dX13_digest_60 q_X13_310 ?_
                                                                                                                          refine j_lmul C dX13_digest_63 ?_
                                                                                                                          refine j_aload_n C dX13_digest_64 (i := 0) rfl rfl ?_
                                                                                                                          refine j_iload_n C dX13_digest_65 (i := 3) rfl rfl ?_
                                                                                                                          refine j_iload C dX13_digest_66 rfl ?_
                                                                                                                          refine j_callVim C (As := [.int _, .int _]) (rest := [_]) k_X13_271 ⟨Nat.le_of_ble_eq_true rfl, Nat.le_of_ble_eq_true rfl⟩ rfl (Nat.le_of_ble_eq_true rfl) ⟨Nat.le_of_ble_eq_true rfl, Nat.le_of_ble_eq_true rfl⟩ rfl dX13_digest_68 (fun r0 q0 => c_Md_planetTold l w _ _ _ _ _ q0) (fun r127 er127 nr127 => ?_)
                                                                                                                          refine j_i2l C dX13_digest_71 ?_
                                                                                                                          refine j_ladd C dX13_digest_72 ?_
                                                                                                                          refine j_lstore_n C [(1, _), (4, _), (3, _), (0, _)] dX13_digest_73 (i := 1) rfl (by decide) rfl ?_
                                                                                                                          refine j_iinc C (v := 4) [(4, _), (1, _), (3, _), (0, _)] dX13_digest_74 rfl (by decide) (by decide) rfl ?_
                                                                                                                          refine j_goto C (tgt := 52) dX13_digest_77 (by decide) ?_
                                                                                                                          refine j_iload C dX13_digest_52 rfl ?_
                                                                                                                          refine j_bipush C (v := 7) dX13_digest_54 (by decide) ?_
                                                                                                                          refine j_icmpge C (tgt := 80) dX13_digest_56 (by decide) (fun q128 => ?_) (fun q128 => ?_)
                                                                                                                          · exact j_none
                                                                                                                          · refine j_lload_n C dX13_digest_59 (i := 1) rfl rfl ?_
                                                                                                                            refine j_ldc2 C dX13_digest_60 q_X13_310 ?_
                                                                                                                            refine j_lmul C dX13_digest_63 ?_
                                                                                                                            refine j_aload_n C dX13_digest_64 (i := 0) rfl rfl ?_
                                                                                                                            refine j_iload_n C dX13_digest_65 (i := 3) rfl rfl ?_
                                                                                                                            refine j_iload C dX13_digest_66 rfl ?_
                                                                                                                            refine j_callVim C (As := [.int _, .int _]) (rest := [_]) k_X13_271 ⟨Nat.le_of_ble_eq_true rfl, Nat.le_of_ble_eq_true rfl⟩ rfl (Nat.le_of_ble_eq_true rfl) ⟨Nat.le_of_ble_eq_true rfl, Nat.le_of_ble_eq_true rfl⟩ rfl dX13_digest_68 (fun r0 q0 => c_Md_planetTold l w _ _ _ _ _ q0) (fun r129 er129 nr129 => ?_)
                                                                                                                            refine j_i2l C dX13_digest_71 ?_
                                                                                                                            refine j_ladd C dX13_digest_72 ?_
                                                                                                                            refine j_lstore_n C [(1, _), (4, _), (3, _), (0, _)] dX13_digest_73 (i := 1) rfl (by decide) rfl ?_
                                                                                                                            refine j_iinc C (v := 5) [(4, _), (1, _), (3, _), (0, _)] dX13_digest_74 rfl (by decide) (by decide) rfl ?_
                                                                                                                            refine j_goto C (tgt := 52) dX13_digest_77 (by decide) ?_
                                                                                                                            refine j_iload C dX13_digest_52 rfl ?_
                                                                                                                            refine j_bipush C (v := 7) dX13_digest_54 (by decide) ?_
                                                                                                                            refine j_icmpge C (tgt := 80) dX13_digest_56 (by decide) (fun q130 => ?_) (fun q130 => ?_)
                                                                                                                            · exact j_none
                                                                                                                            · refine j_lload_n C dX13_digest_59 (i := 1) rfl rfl ?_
                                                                                                                              refine j_ldc2 C dX13_digest_60 q_X13_310 ?_
                                                                                                                              refine j_lmul C dX13_digest_63 ?_
                                                                                                                              refine j_aload_n C dX13_digest_64 (i := 0) rfl rfl ?_
                                                                                                                              refine j_iload_n C dX13_digest_65 (i := 3) rfl rfl ?_
                                                                                                                              refine j_iload C dX13_digest_66 rfl ?_
                                                                                                                              refine j_callVim C (As := [.int _, .int _]) (rest := [_]) k_X13_271 ⟨Nat.le_of_ble_eq_true rfl, Nat.le_of_ble_eq_true rfl⟩ rfl (Nat.le_of_ble_eq_true rfl) ⟨Nat.le_of_ble_eq_true rfl, Nat.le_of_ble_eq_true rfl⟩ rfl dX13_digest_68 (fun r0 q0 => c_Md_planetTold l w _ _ _ _ _ q0) (fun r131 er131 nr131 => ?_)
                                                                                                                              refine j_i2l C dX13_digest_71 ?_
                                                                                                                              refine j_ladd C dX13_digest_72 ?_
                                                                                                                              refine j_lstore_n C [(1, _), (4, _), (3, _), (0, _)] dX13_digest_73 (i := 1) rfl (by decide) rfl ?_
                                                                                                                              refine j_iinc C (v := 6) [(4, _), (1, _), (3, _), (0, _)] dX13_digest_74 rfl (by decide) (by decide) rfl ?_
                                                                                                                              refine j_goto C (tgt := 52) dX13_digest_77 (by decide) ?_
                                                                                                                              refine j_iload C dX13_digest_52 rfl ?_
                                                                                                                              refine j_bipush C (v := 7) dX13_digest_54 (by decide) ?_
                                                                                                                              refine j_icmpge C (tgt := 80) dX13_digest_56 (by decide) (fun q132 => ?_) (fun q132 => ?_)
                                                                                                                              · exact j_none
                                                                                                                              · refine j_lload_n C dX13_digest_59 (i := 1) rfl rfl ?_
                                                                                                                                refine j_ldc2 C dX13_digest_60 q_X13_310 ?_
                                                                                                                                refine j_lmul C dX13_digest_63 ?_
                                                                                                                                refine j_aload_n C dX13_digest_64 (i := 0) rfl rfl ?_
                                                                                                                                refine j_iload_n C dX13_digest_65 (i := 3) rfl rfl ?_
                                                                                                                                refine j_iload C dX13_digest_66 rfl ?_
                                                                                                                                refine j_callVim C (As := [.int _, .int _]) (rest := [_]) k_X13_271 ⟨Nat.le_of_ble_eq_true rfl, Nat.le_of_ble_eq_true rfl⟩ rfl (Nat.le_of_ble_eq_true rfl) ⟨Nat.le_of_ble_eq_true rfl, Nat.le_of_ble_eq_true rfl⟩ rfl dX13_digest_68 (fun r0 q0 => c_Md_planetTold l w _ _ _ _ _ q0) (fun r133 er133 nr133 => ?_)
                                                                                                                                refine j_i2l C dX13_digest_71 ?_
                                                                                                                                refine j_ladd C dX13_digest_72 ?_
                                                                                                                                refine j_lstore_n C [(1, _), (4, _), (3, _), (0, _)] dX13_digest_73 (i := 1) rfl (by decide) rfl ?_
                                                                                                                                refine j_iinc C (v := 7) [(4, _), (1, _), (3, _), (0, _)] dX13_digest_74 rfl (by decide) (by decide) rfl ?_
                                                                                                                                refine j_goto C (tgt := 52) dX13_digest_77 (by decide) ?_
                                                                                                                                refine j_iload C dX13_digest_52 rfl ?_
                                                                                                                                refine j_bipush C (v := 7) dX13_digest_54 (by decide) ?_
                                                                                                                                refine j_icmpge C (tgt := 80) dX13_digest_56 (by decide) (fun q134 => ?_) (fun q134 => ?_)
                                                                                                                                · refine j_iinc C (v := 6) [(3, _), (4, _), (1, _), (0, _)] dX13_digest_80 rfl (by decide) (by decide) rfl ?_
                                                                                                                                  refine j_goto C (tgt := 38) dX13_digest_83 (by decide) ?_
                                                                                                                                  refine j_iload_n C dX13_digest_38 (i := 3) rfl rfl ?_
                                                                                                                                  refine j_aload_n C dX13_digest_39 (i := 0) rfl rfl ?_
                                                                                                                                  refine j_getR C g_X13_35 dX13_digest_40 (fun v135 ev135 => ?_)
                                                                                                                                  refine j_getI C g_X13_57 dX13_digest_43 (fun v136 ev136 => ?_)
                                                                                                                                  refine j_icmpge C (tgt := 86) dX13_digest_46 (by decide) (fun q137 => ?_) (fun q137 => ?_)
                                                                                                                                  · refine j_widen (c1 := 64) (s1 := 456) (Nat.le_of_ble_eq_true rfl) (Nat.le_of_ble_eq_true rfl) ?_
                                                                                                                                    exact j_sub [3, 2] rfl (hj22 _ _)
                                                                                                                                  · refine j_iconst C (v := 0) dX13_digest_49 (by decide) ?_
                                                                                                                                    refine j_istore C [(4, _), (3, _), (1, _), (0, _)] dX13_digest_50 (by decide) rfl ?_
                                                                                                                                    refine j_iload C dX13_digest_52 rfl ?_
                                                                                                                                    refine j_bipush C (v := 7) dX13_digest_54 (by decide) ?_
                                                                                                                                    refine j_icmpge C (tgt := 80) dX13_digest_56 (by decide) (fun q138 => ?_) (fun q138 => ?_)
                                                                                                                                    · exact j_none
                                                                                                                                    · refine j_lload_n C dX13_digest_59 (i := 1) rfl rfl ?_
                                                                                                                                      refine j_ldc2 C dX13_digest_60 q_X13_310 ?_
                                                                                                                                      refine j_lmul C dX13_digest_63 ?_
                                                                                                                                      refine j_aload_n C dX13_digest_64 (i := 0) rfl rfl ?_
                                                                                                                                      refine j_iload_n C dX13_digest_65 (i := 3) rfl rfl ?_
                                                                                                                                      refine j_iload C dX13_digest_66 rfl ?_
                                                                                                                                      refine j_callVim C (As := [.int _, .int _]) (rest := [_]) k_X13_271 ⟨Nat.le_of_ble_eq_true rfl, Nat.le_of_ble_eq_true rfl⟩ rfl (Nat.le_of_ble_eq_true rfl) ⟨Nat.le_of_ble_eq_true rfl, Nat.le_of_ble_eq_true rfl⟩ rfl dX13_digest_68 (fun r0 q0 => c_Md_planetTold l w _ _ _ _ _ q0) (fun r139 er139 nr139 => ?_)
                                                                                                                                      refine j_i2l C dX13_digest_71 ?_
                                                                                                                                      refine j_ladd C dX13_digest_72 ?_
                                                                                                                                      refine j_lstore_n C [(1, _), (4, _), (3, _), (0, _)] dX13_digest_73 (i := 1) rfl (by decide) rfl ?_
                                                                                                                                      refine j_iinc C (v := 1) [(4, _), (1, _), (3, _), (0, _)] dX13_digest_74 rfl (by decide) (by decide) rfl ?_
                                                                                                                                      refine j_goto C (tgt := 52) dX13_digest_77 (by decide) ?_
                                                                                                                                      refine j_iload C dX13_digest_52 rfl ?_
                                                                                                                                      refine j_bipush C (v := 7) dX13_digest_54 (by decide) ?_
                                                                                                                                      refine j_icmpge C (tgt := 80) dX13_digest_56 (by decide) (fun q140 => ?_) (fun q140 => ?_)
                                                                                                                                      · exact j_none
                                                                                                                                      · refine j_lload_n C dX13_digest_59 (i := 1) rfl rfl ?_
                                                                                                                                        refine j_ldc2 C dX13_digest_60 q_X13_310 ?_
                                                                                                                                        refine j_lmul C dX13_digest_63 ?_
                                                                                                                                        refine j_aload_n C dX13_digest_64 (i := 0) rfl rfl ?_
                                                                                                                                        refine j_iload_n C dX13_digest_65 (i := 3) rfl rfl ?_
                                                                                                                                        refine j_iload C dX13_digest_66 rfl ?_
                                                                                                                                        refine j_callVim C (As := [.int _, .int _]) (rest := [_]) k_X13_271 ⟨Nat.le_of_ble_eq_true rfl, Nat.le_of_ble_eq_true rfl⟩ rfl (Nat.le_of_ble_eq_true rfl) ⟨Nat.le_of_ble_eq_true rfl, Nat.le_of_ble_eq_true rfl⟩ rfl dX13_digest_68 (fun r0 q0 => c_Md_planetTold l w _ _ _ _ _ q0) (fun r141 er141 nr141 => ?_)
                                                                                                                                        refine j_i2l C dX13_digest_71 ?_
                                                                                                                                        refine j_ladd C dX13_digest_72 ?_
                                                                                                                                        refine j_lstore_n C [(1, _), (4, _), (3, _), (0, _)] dX13_digest_73 (i := 1) rfl (by decide) rfl ?_
                                                                                                                                        refine j_iinc C (v := 2) [(4, _), (1, _), (3, _), (0, _)] dX13_digest_74 rfl (by decide) (by decide) rfl ?_
                                                                                                                                        refine j_goto C (tgt := 52) dX13_digest_77 (by decide) ?_
                                                                                                                                        refine j_iload C dX13_digest_52 rfl ?_
                                                                                                                                        refine j_bipush C (v := 7) dX13_digest_54 (by decide) ?_
                                                                                                                                        refine j_icmpge C (tgt := 80) dX13_digest_56 (by decide) (fun q142 => ?_) (fun q142 => ?_)
                                                                                                                                        · exact j_none
                                                                                                                                        · refine j_lload_n C dX13_digest_59 (i := 1) rfl rfl ?_
                                                                                                                                          refine j_ldc2 C dX13_digest_60 q_X13_310 ?_
                                                                                                                                          refine j_lmul C dX13_digest_63 ?_
                                                                                                                                          refine j_aload_n C dX13_digest_64 (i := 0) rfl rfl ?_
                                                                                                                                          refine j_iload_n C dX13_digest_65 (i := 3) rfl rfl ?_
                                                                                                                                          refine j_iload C dX13_digest_66 rfl ?_
                                                                                                                                          refine j_callVim C (As := [.int _, .int _]) (rest := [_]) k_X13_271 ⟨Nat.le_of_ble_eq_true rfl, Nat.le_of_ble_eq_true rfl⟩ rfl (Nat.le_of_ble_eq_true rfl) ⟨Nat.le_of_ble_eq_true rfl, Nat.le_of_ble_eq_true rfl⟩ rfl dX13_digest_68 (fun r0 q0 => c_Md_planetTold l w _ _ _ _ _ q0) (fun r143 er143 nr143 => ?_)
                                                                                                                                          refine j_i2l C dX13_digest_71 ?_
                                                                                                                                          refine j_ladd C dX13_digest_72 ?_
                                                                                                                                          refine j_lstore_n C [(1, _), (4, _), (3, _), (0, _)] dX13_digest_73 (i := 1) rfl (by decide) rfl ?_
                                                                                                                                          refine j_iinc C (v := 3) [(4, _), (1, _), (3, _), (0, _)] dX13_digest_74 rfl (by decide) (by decide) rfl ?_
                                                                                                                                          refine j_goto C (tgt := 52) dX13_digest_77 (by decide) ?_
                                                                                                                                          refine j_iload C dX13_digest_52 rfl ?_
                                                                                                                                          refine j_bipush C (v := 7) dX13_digest_54 (by decide) ?_
                                                                                                                                          refine j_icmpge C (tgt := 80) dX13_digest_56 (by decide) (fun q144 => ?_) (fun q144 => ?_)
                                                                                                                                          · exact j_none
                                                                                                                                          · refine j_lload_n C dX13_digest_59 (i := 1) rfl rfl ?_
                                                                                                                                            refine j_ldc2 C dX13_digest_60 q_X13_310 ?_
                                                                                                                                            refine j_lmul C dX13_digest_63 ?_
                                                                                                                                            refine j_aload_n C dX13_digest_64 (i := 0) rfl rfl ?_
                                                                                                                                            refine j_iload_n C dX13_digest_65 (i := 3) rfl rfl ?_
                                                                                                                                            refine j_iload C dX13_digest_66 rfl ?_
                                                                                                                                            refine j_callVim C (As := [.int _, .int _]) (rest := [_]) k_X13_271 ⟨Nat.le_of_ble_eq_true rfl, Nat.le_of_ble_eq_true rfl⟩ rfl (Nat.le_of_ble_eq_true rfl) ⟨Nat.le_of_ble_eq_true rfl, Nat.le_of_ble_eq_true rfl⟩ rfl dX13_digest_68 (fun r0 q0 => c_Md_planetTold l w _ _ _ _ _ q0) (fun r145 er145 nr145 => ?_)
                                                                                                                                            refine j_i2l C dX13_digest_71 ?_
                                                                                                                                            refine j_ladd C dX13_digest_72 ?_
                                                                                                                                            refine j_lstore_n C [(1, _), (4, _), (3, _), (0, _)] dX13_digest_73 (i := 1) rfl (by decide) rfl ?_
                                                                                                                                            refine j_iinc C (v := 4) [(4, _), (1, _), (3, _), (0, _)] dX13_digest_74 rfl (by decide) (by decide) rfl ?_
                                                                                                                                            refine j_goto C (tgt := 52) dX13_digest_77 (by decide) ?_
                                                                                                                                            refine j_iload C dX13_digest_52 rfl ?_
                                                                                                                                            refine j_bipush C (v := 7) dX13_digest_54 (by decide) ?_
                                                                                                                                            refine j_icmpge C (tgt := 80) dX13_digest_56 (by decide) (fun q146 => ?_) (fun q146 => ?_)
                                                                                                                                            · exact j_none
                                                                                                                                            · refine j_lload_n C dX13_digest_59 (i := 1) rfl rfl ?_
                                                                                                                                              refine j_ldc2 C dX13_digest_60 q_X13_310 ?_
                                                                                                                                              refine j_lmul C dX13_digest_63 ?_
                                                                                                                                              refine j_aload_n C dX13_digest_64 (i := 0) rfl rfl ?_
                                                                                                                                              refine j_iload_n C dX13_digest_65 (i := 3) rfl rfl ?_
                                                                                                                                              refine j_iload C dX13_digest_66 rfl ?_
                                                                                                                                              refine j_callVim C (As := [.int _, .int _]) (rest := [_]) k_X13_271 ⟨Nat.le_of_ble_eq_true rfl, Nat.le_of_ble_eq_true rfl⟩ rfl (Nat.le_of_ble_eq_true rfl) ⟨Nat.le_of_ble_eq_true rfl, Nat.le_of_ble_eq_true rfl⟩ rfl dX13_digest_68 (fun r0 q0 => c_Md_planetTold l w _ _ _ _ _ q0) (fun r147 er147 nr147 => ?_)
                                                                                                                                              refine j_i2l C dX13_digest_71 ?_
                                                                                                                                              refine j_ladd C dX13_digest_72 ?_
                                                                                                                                              refine j_lstore_n C [(1, _), (4, _), (3, _), (0, _)] dX13_digest_73 (i := 1) rfl (by decide) rfl ?_
                                                                                                                                              refine j_iinc C (v := 5) [(4, _), (1, _), (3, _), (0, _)] dX13_digest_74 rfl (by decide) (by decide) rfl ?_
                                                                                                                                              refine j_goto C (tgt := 52) dX13_digest_77 (by decide) ?_
                                                                                                                                              refine j_iload C dX13_digest_52 rfl ?_
                                                                                                                                              refine j_bipush C (v := 7) dX13_digest_54 (by decide) ?_
                                                                                                                                              refine j_icmpge C (tgt := 80) dX13_digest_56 (by decide) (fun q148 => ?_) (fun q148 => ?_)
                                                                                                                                              · exact j_none
                                                                                                                                              · refine j_lload_n C dX13_digest_59 (i := 1) rfl rfl ?_
                                                                                                                                                refine j_ldc2 C dX13_digest_60 q_X13_310 ?_
                                                                                                                                                refine j_lmul C dX13_digest_63 ?_
                                                                                                                                                refine j_aload_n C dX13_digest_64 (i := 0) rfl rfl ?_
                                                                                                                                                refine j_iload_n C dX13_digest_65 (i := 3) rfl rfl ?_
                                                                                                                                                refine j_iload C dX13_digest_66 rfl ?_
                                                                                                                                                refine j_callVim C (As := [.int _, .int _]) (rest := [_]) k_X13_271 ⟨Nat.le_of_ble_eq_true rfl, Nat.le_of_ble_eq_true rfl⟩ rfl (Nat.le_of_ble_eq_true rfl) ⟨Nat.le_of_ble_eq_true rfl, Nat.le_of_ble_eq_true rfl⟩ rfl dX13_digest_68 (fun r0 q0 => c_Md_planetTold l w _ _ _ _ _ q0) (fun r149 er149 nr149 => ?_)
                                                                                                                                                refine j_i2l C dX13_digest_71 ?_
                                                                                                                                                refine j_ladd C dX13_digest_72 ?_
                                                                                                                                                refine j_lstore_n C [(1, _), (4, _), (3, _), (0, _)] dX13_digest_73 (i := 1) rfl (by decide) rfl ?_
                                                                                                                                                refine j_iinc C (v := 6) [(4, _), (1, _), (3, _), (0, _)] dX13_digest_74 rfl (by decide) (by decide) rfl ?_
                                                                                                                                                refine j_goto C (tgt := 52) dX13_digest_77 (by decide) ?_
                                                                                                                                                refine j_iload C dX13_digest_52 rfl ?_
                                                                                                                                                refine j_bipush C (v := 7) dX13_digest_54 (by decide) ?_
                                                                                                                                                refine j_icmpge C (tgt := 80) dX13_digest_56 (by decide) (fun q150 => ?_) (fun q150 => ?_)
                                                                                                                                                · exact j_none
                                                                                                                                                · refine j_lload_n C dX13_digest_59 (i := 1) rfl rfl ?_
                                                                                                                                                  refine j_ldc2 C dX13_digest_60 q_X13_310 ?_
                                                                                                                                                  refine j_lmul C dX13_digest_63 ?_
                                                                                                                                                  refine j_aload_n C dX13_digest_64 (i := 0) rfl rfl ?_
                                                                                                                                                  refine j_iload_n C dX13_digest_65 (i := 3) rfl rfl ?_
                                                                                                                                                  refine j_iload C dX13_digest_66 rfl ?_
                                                                                                                                                  refine j_callVim C (As := [.int _, .int _]) (rest := [_]) k_X13_271 ⟨Nat.le_of_ble_eq_true rfl, Nat.le_of_ble_eq_true rfl⟩ rfl (Nat.le_of_ble_eq_true rfl) ⟨Nat.le_of_ble_eq_true rfl, Nat.le_of_ble_eq_true rfl⟩ rfl dX13_digest_68 (fun r0 q0 => c_Md_planetTold l w _ _ _ _ _ q0) (fun r151 er151 nr151 => ?_)
                                                                                                                                                  refine j_i2l C dX13_digest_71 ?_
                                                                                                                                                  refine j_ladd C dX13_digest_72 ?_
                                                                                                                                                  refine j_lstore_n C [(1, _), (4, _), (3, _), (0, _)] dX13_digest_73 (i := 1) rfl (by decide) rfl ?_
                                                                                                                                                  refine j_iinc C (v := 7) [(4, _), (1, _), (3, _), (0, _)] dX13_digest_74 rfl (by decide) (by decide) rfl ?_
                                                                                                                                                  refine j_goto C (tgt := 52) dX13_digest_77 (by decide) ?_
                                                                                                                                                  refine j_iload C dX13_digest_52 rfl ?_
                                                                                                                                                  refine j_bipush C (v := 7) dX13_digest_54 (by decide) ?_
                                                                                                                                                  refine j_icmpge C (tgt := 80) dX13_digest_56 (by decide) (fun q152 => ?_) (fun q152 => ?_)
                                                                                                                                                  · refine j_iinc C (v := 7) [(3, _), (4, _), (1, _), (0, _)] dX13_digest_80 rfl (by decide) (by decide) rfl ?_
                                                                                                                                                    refine j_goto C (tgt := 38) dX13_digest_83 (by decide) ?_
                                                                                                                                                    refine j_iload_n C dX13_digest_38 (i := 3) rfl rfl ?_
                                                                                                                                                    refine j_aload_n C dX13_digest_39 (i := 0) rfl rfl ?_
                                                                                                                                                    refine j_getR C g_X13_35 dX13_digest_40 (fun v153 ev153 => ?_)
                                                                                                                                                    refine j_getI C g_X13_57 dX13_digest_43 (fun v154 ev154 => ?_)
                                                                                                                                                    refine j_icmpge C (tgt := 86) dX13_digest_46 (by decide) (fun q155 => ?_) (fun q155 => ?_)
                                                                                                                                                    · refine j_widen (c1 := 64) (s1 := 456) (Nat.le_of_ble_eq_true rfl) (Nat.le_of_ble_eq_true rfl) ?_
                                                                                                                                                      exact j_sub [3, 2] rfl (hj22 _ _)
                                                                                                                                                    · refine j_iconst C (v := 0) dX13_digest_49 (by decide) ?_
                                                                                                                                                      refine j_istore C [(4, _), (3, _), (1, _), (0, _)] dX13_digest_50 (by decide) rfl ?_
                                                                                                                                                      refine j_iload C dX13_digest_52 rfl ?_
                                                                                                                                                      refine j_bipush C (v := 7) dX13_digest_54 (by decide) ?_
                                                                                                                                                      refine j_icmpge C (tgt := 80) dX13_digest_56 (by decide) (fun q156 => ?_) (fun q156 => ?_)
                                                                                                                                                      · exact j_none
                                                                                                                                                      · refine j_lload_n C dX13_digest_59 (i := 1) rfl rfl ?_
                                                                                                                                                        refine j_ldc2 C dX13_digest_60 q_X13_310 ?_
                                                                                                                                                        refine j_lmul C dX13_digest_63 ?_
                                                                                                                                                        refine j_aload_n C dX13_digest_64 (i := 0) rfl rfl ?_
                                                                                                                                                        refine j_iload_n C dX13_digest_65 (i := 3) rfl rfl ?_
                                                                                                                                                        refine j_iload C dX13_digest_66 rfl ?_
                                                                                                                                                        refine j_callVim C (As := [.int _, .int _]) (rest := [_]) k_X13_271 ⟨Nat.le_of_ble_eq_true rfl, Nat.le_of_ble_eq_true rfl⟩ rfl (Nat.le_of_ble_eq_true rfl) ⟨Nat.le_of_ble_eq_true rfl, Nat.le_of_ble_eq_true rfl⟩ rfl dX13_digest_68 (fun r0 q0 => c_Md_planetTold l w _ _ _ _ _ q0) (fun r157 er157 nr157 => ?_)
                                                                                                                                                        refine j_i2l C dX13_digest_71 ?_
                                                                                                                                                        refine j_ladd C dX13_digest_72 ?_
                                                                                                                                                        refine j_lstore_n C [(1, _), (4, _), (3, _), (0, _)] dX13_digest_73 (i := 1) rfl (by decide) rfl ?_
                                                                                                                                                        refine j_iinc C (v := 1) [(4, _), (1, _), (3, _), (0, _)] dX13_digest_74 rfl (by decide) (by decide) rfl ?_
                                                                                                                                                        refine j_goto C (tgt := 52) dX13_digest_77 (by decide) ?_
                                                                                                                                                        refine j_iload C dX13_digest_52 rfl ?_
                                                                                                                                                        refine j_bipush C (v := 7) dX13_digest_54 (by decide) ?_
                                                                                                                                                        refine j_icmpge C (tgt := 80) dX13_digest_56 (by decide) (fun q158 => ?_) (fun q158 => ?_)
                                                                                                                                                        · exact j_none
                                                                                                                                                        · refine j_lload_n C dX13_digest_59 (i := 1) rfl rfl ?_
                                                                                                                                                          refine j_ldc2 C dX13_digest_60 q_X13_310 ?_
                                                                                                                                                          refine j_lmul C dX13_digest_63 ?_
                                                                                                                                                          refine j_aload_n C dX13_digest_64 (i := 0) rfl rfl ?_
                                                                                                                                                          refine j_iload_n C dX13_digest_65 (i := 3) rfl rfl ?_
                                                                                                                                                          refine j_iload C dX13_digest_66 rfl ?_
                                                                                                                                                          refine j_callVim C (As := [.int _, .int _]) (rest := [_]) k_X13_271 ⟨Nat.le_of_ble_eq_true rfl, Nat.le_of_ble_eq_true rfl⟩ rfl (Nat.le_of_ble_eq_true rfl) ⟨Nat.le_of_ble_eq_true rfl, Nat.le_of_ble_eq_true rfl⟩ rfl dX13_digest_68 (fun r0 q0 => c_Md_planetTold l w _ _ _ _ _ q0) (fun r159 er159 nr159 => ?_)
                                                                                                                                                          refine j_i2l C dX13_digest_71 ?_
                                                                                                                                                          refine j_ladd C dX13_digest_72 ?_
                                                                                                                                                          refine j_lstore_n C [(1, _), (4, _), (3, _), (0, _)] dX13_digest_73 (i := 1) rfl (by decide) rfl ?_
                                                                                                                                                          refine j_iinc C (v := 2) [(4, _), (1, _), (3, _), (0, _)] dX13_digest_74 rfl (by decide) (by decide) rfl ?_
                                                                                                                                                          refine j_goto C (tgt := 52) dX13_digest_77 (by decide) ?_
                                                                                                                                                          refine j_iload C dX13_digest_52 rfl ?_
                                                                                                                                                          refine j_bipush C (v := 7) dX13_digest_54 (by decide) ?_
                                                                                                                                                          refine j_icmpge C (tgt := 80) dX13_digest_56 (by decide) (fun q160 => ?_) (fun q160 => ?_)
                                                                                                                                                          · exact j_none
                                                                                                                                                          · refine j_lload_n C dX13_digest_59 (i := 1) rfl rfl ?_
                                                                                                                                                            refine j_ldc2 C dX13_digest_60 q_X13_310 ?_
                                                                                                                                                            refine j_lmul C dX13_digest_63 ?_
                                                                                                                                                            refine j_aload_n C dX13_digest_64 (i := 0) rfl rfl ?_
                                                                                                                                                            refine j_iload_n C dX13_digest_65 (i := 3) rfl rfl ?_
                                                                                                                                                            refine j_iload C dX13_digest_66 rfl ?_
                                                                                                                                                            refine j_callVim C (As := [.int _, .int _]) (rest := [_]) k_X13_271 ⟨Nat.le_of_ble_eq_true rfl, Nat.le_of_ble_eq_true rfl⟩ rfl (Nat.le_of_ble_eq_true rfl) ⟨Nat.le_of_ble_eq_true rfl, Nat.le_of_ble_eq_true rfl⟩ rfl dX13_digest_68 (fun r0 q0 => c_Md_planetTold l w _ _ _ _ _ q0) (fun r161 er161 nr161 => ?_)
                                                                                                                                                            refine j_i2l C dX13_digest_71 ?_
                                                                                                                                                            refine j_ladd C dX13_digest_72 ?_
                                                                                                                                                            refine j_lstore_n C [(1, _), (4, _), (3, _), (0, _)] dX13_digest_73 (i := 1) rfl (by decide) rfl ?_
                                                                                                                                                            refine j_iinc C (v := 3) [(4, _), (1, _), (3, _), (0, _)] dX13_digest_74 rfl (by decide) (by decide) rfl ?_
                                                                                                                                                            refine j_goto C (tgt := 52) dX13_digest_77 (by decide) ?_
                                                                                                                                                            refine j_iload C dX13_digest_52 rfl ?_
                                                                                                                                                            refine j_bipush C (v := 7) dX13_digest_54 (by decide) ?_
                                                                                                                                                            refine j_icmpge C (tgt := 80) dX13_digest_56 (by decide) (fun q162 => ?_) (fun q162 => ?_)
                                                                                                                                                            · exact j_none
                                                                                                                                                            · refine j_lload_n C dX13_digest_59 (i := 1) rfl rfl ?_
                                                                                                                                                              refine j_ldc2 C dX13_digest_60 q_X13_310 ?_
                                                                                                                                                              refine j_lmul C dX13_digest_63 ?_
                                                                                                                                                              refine j_aload_n C dX13_digest_64 (i := 0) rfl rfl ?_
                                                                                                                                                              refine j_iload_n C dX13_digest_65 (i := 3) rfl rfl ?_
                                                                                                                                                              refine j_iload C dX13_digest_66 rfl ?_
                                                                                                                                                              refine j_callVim C (As := [.int _, .int _]) (rest := [_]) k_X13_271 ⟨Nat.le_of_ble_eq_true rfl, Nat.le_of_ble_eq_true rfl⟩ rfl (Nat.le_of_ble_eq_true rfl) ⟨Nat.le_of_ble_eq_true rfl, Nat.le_of_ble_eq_true rfl⟩ rfl dX13_digest_68 (fun r0 q0 => c_Md_planetTold l w _ _ _ _ _ q0) (fun r163 er163 nr163 => ?_)
                                                                                                                                                              refine j_i2l C dX13_digest_71 ?_
                                                                                                                                                              refine j_ladd C dX13_digest_72 ?_
                                                                                                                                                              refine j_lstore_n C [(1, _), (4, _), (3, _), (0, _)] dX13_digest_73 (i := 1) rfl (by decide) rfl ?_
                                                                                                                                                              refine j_iinc C (v := 4) [(4, _), (1, _), (3, _), (0, _)] dX13_digest_74 rfl (by decide) (by decide) rfl ?_
                                                                                                                                                              refine j_goto C (tgt := 52) dX13_digest_77 (by decide) ?_
                                                                                                                                                              refine j_iload C dX13_digest_52 rfl ?_
                                                                                                                                                              refine j_bipush C (v := 7) dX13_digest_54 (by decide) ?_
                                                                                                                                                              refine j_icmpge C (tgt := 80) dX13_digest_56 (by decide) (fun q164 => ?_) (fun q164 => ?_)
                                                                                                                                                              · exact j_none
                                                                                                                                                              · refine j_lload_n C dX13_digest_59 (i := 1) rfl rfl ?_
                                                                                                                                                                refine j_ldc2 C dX13_digest_60 q_X13_310 ?_
                                                                                                                                                                refine j_lmul C dX13_digest_63 ?_
                                                                                                                                                                refine j_aload_n C dX13_digest_64 (i := 0) rfl rfl ?_
                                                                                                                                                                refine j_iload_n C dX13_digest_65 (i := 3) rfl rfl ?_
                                                                                                                                                                refine j_iload C dX13_digest_66 rfl ?_
                                                                                                                                                                refine j_callVim C (As := [.int _, .int _]) (rest := [_]) k_X13_271 ⟨Nat.le_of_ble_eq_true rfl, Nat.le_of_ble_eq_true rfl⟩ rfl (Nat.le_of_ble_eq_true rfl) ⟨Nat.le_of_ble_eq_true rfl, Nat.le_of_ble_eq_true rfl⟩ rfl dX13_digest_68 (fun r0 q0 => c_Md_planetTold l w _ _ _ _ _ q0) (fun r165 er165 nr165 => ?_)
                                                                                                                                                                refine j_i2l C dX13_digest_71 ?_
                                                                                                                                                                refine j_ladd C dX13_digest_72 ?_
                                                                                                                                                                refine j_lstore_n C [(1, _), (4, _), (3, _), (0, _)] dX13_digest_73 (i := 1) rfl (by decide) rfl ?_
                                                                                                                                                                refine j_iinc C (v := 5) [(4, _), (1, _), (3, _), (0, _)] dX13_digest_74 rfl (by decide) (by decide) rfl ?_
                                                                                                                                                                refine j_goto C (tgt := 52) dX13_digest_77 (by decide) ?_
                                                                                                                                                                refine j_iload C dX13_digest_52 rfl ?_
                                                                                                                                                                refine j_bipush C (v := 7) dX13_digest_54 (by decide) ?_
                                                                                                                                                                refine j_icmpge C (tgt := 80) dX13_digest_56 (by decide) (fun q166 => ?_) (fun q166 => ?_)
                                                                                                                                                                · exact j_none
                                                                                                                                                                · refine j_lload_n C dX13_digest_59 (i := 1) rfl rfl ?_
                                                                                                                                                                  refine j_ldc2 C dX13_digest_60 q_X13_310 ?_
                                                                                                                                                                  refine j_lmul C dX13_digest_63 ?_
                                                                                                                                                                  refine j_aload_n C dX13_digest_64 (i := 0) rfl rfl ?_
                                                                                                                                                                  refine j_iload_n C dX13_digest_65 (i := 3) rfl rfl ?_
                                                                                                                                                                  refine j_iload C dX13_digest_66 rfl ?_
                                                                                                                                                                  refine j_callVim C (As := [.int _, .int _]) (rest := [_]) k_X13_271 ⟨Nat.le_of_ble_eq_true rfl, Nat.le_of_ble_eq_true rfl⟩ rfl (Nat.le_of_ble_eq_true rfl) ⟨Nat.le_of_ble_eq_true rfl, Nat.le_of_ble_eq_true rfl⟩ rfl dX13_digest_68 (fun r0 q0 => c_Md_planetTold l w _ _ _ _ _ q0) (fun r167 er167 nr167 => ?_)
                                                                                                                                                                  refine j_i2l C dX13_digest_71 ?_
                                                                                                                                                                  refine j_ladd C dX13_digest_72 ?_
                                                                                                                                                                  refine j_lstore_n C [(1, _), (4, _), (3, _), (0, _)] dX13_digest_73 (i := 1) rfl (by decide) rfl ?_
                                                                                                                                                                  refine j_iinc C (v := 6) [(4, _), (1, _), (3, _), (0, _)] dX13_digest_74 rfl (by decide) (by decide) rfl ?_
                                                                                                                                                                  refine j_goto C (tgt := 52) dX13_digest_77 (by decide) ?_
                                                                                                                                                                  refine j_iload C dX13_digest_52 rfl ?_
                                                                                                                                                                  refine j_bipush C (v := 7) dX13_digest_54 (by decide) ?_
                                                                                                                                                                  refine j_icmpge C (tgt := 80) dX13_digest_56 (by decide) (fun q168 => ?_) (fun q168 => ?_)
                                                                                                                                                                  · exact j_none
                                                                                                                                                                  · refine j_lload_n C dX13_digest_59 (i := 1) rfl rfl ?_
                                                                                                                                                                    refine j_ldc2 C dX13_digest_60 q_X13_310 ?_
                                                                                                                                                                    refine j_lmul C dX13_digest_63 ?_
                                                                                                                                                                    refine j_aload_n C dX13_digest_64 (i := 0) rfl rfl ?_
                                                                                                                                                                    refine j_iload_n C dX13_digest_65 (i := 3) rfl rfl ?_
                                                                                                                                                                    refine j_iload C dX13_digest_66 rfl ?_
                                                                                                                                                                    refine j_callVim C (As := [.int _, .int _]) (rest := [_]) k_X13_271 ⟨Nat.le_of_ble_eq_true rfl, Nat.le_of_ble_eq_true rfl⟩ rfl (Nat.le_of_ble_eq_true rfl) ⟨Nat.le_of_ble_eq_true rfl, Nat.le_of_ble_eq_true rfl⟩ rfl dX13_digest_68 (fun r0 q0 => c_Md_planetTold l w _ _ _ _ _ q0) (fun r169 er169 nr169 => ?_)
                                                                                                                                                                    refine j_i2l C dX13_digest_71 ?_
                                                                                                                                                                    refine j_ladd C dX13_digest_72 ?_
                                                                                                                                                                    refine j_lstore_n C [(1, _), (4, _), (3, _), (0, _)] dX13_digest_73 (i := 1) rfl (by decide) rfl ?_
                                                                                                                                                                    refine j_iinc C (v := 7) [(4, _), (1, _), (3, _), (0, _)] dX13_digest_74 rfl (by decide) (by decide) rfl ?_
                                                                                                                                                                    refine j_goto C (tgt := 52) dX13_digest_77 (by decide) ?_
                                                                                                                                                                    refine j_iload C dX13_digest_52 rfl ?_
                                                                                                                                                                    refine j_bipush C (v := 7) dX13_digest_54 (by decide) ?_
                                                                                                                                                                    refine j_icmpge C (tgt := 80) dX13_digest_56 (by decide) (fun q170 => ?_) (fun q170 => ?_)
                                                                                                                                                                    · refine j_iinc C (v := 8) [(3, _), (4, _), (1, _), (0, _)] dX13_digest_80 rfl (by decide) (by decide) rfl ?_
                                                                                                                                                                      refine j_goto C (tgt := 38) dX13_digest_83 (by decide) ?_
                                                                                                                                                                      refine j_iload_n C dX13_digest_38 (i := 3) rfl rfl ?_
                                                                                                                                                                      refine j_aload_n C dX13_digest_39 (i := 0) rfl rfl ?_
                                                                                                                                                                      refine j_getR C g_X13_35 dX13_digest_40 (fun v171 ev171 => ?_)
                                                                                                                                                                      refine j_getI C g_X13_57 dX13_digest_43 (fun v172 ev172 => ?_)
                                                                                                                                                                      refine j_icmpge C (tgt := 86) dX13_digest_46 (by decide) (fun q173 => ?_) (fun q173 => ?_)
                                                                                                                                                                      · exact j_sub [3, 2] rfl (hj22 _ _)
                                                                                                                                                                      · exact j_none
                                                                                                                                                                    · exact j_none
                                                                                                                                                  · exact j_none
                                                                                                                                · exact j_none
                                                                                                              · exact j_none
                                                                                            · exact j_none
                                                                          · exact j_none
                                                        · exact j_none
                                      · exact j_none
                  · exact j_none
