def f_Md_isIn (x0 : Int32) (x1 : Int32) (x2 : Int32) (h : hp_M) : Option (Int32) := jn (some 0) fun (j1 : Option (Int32)) => if x0 < x1 then (j1) else (if x2 < x0 then (j1) else (some 1))
set_option maxRecDepth 100000 in
set_option maxHeartbeats 4000000 in
theorem c_Md_isIn (l : Launch) (w : hp_W) (x0 : Int32) (x1 : Int32) (x2 : Int32) (h : hp_M) (out : Int32) (hX : f_Md_isIn x0 x1 x2 h = some out) : CT l w yX13_isIn cX13_isIn 3 (some .boolean) ({ frames := 0, cells := 0, slots := 0, locals := 0 }) [.int x0, .int x1, .int x2] h (some (.int out)) h := by
  unfold f_Md_isIn at hX
  refine ct_of (by decide +kernel) (Nat.le_of_ble_eq_true rfl) hX ?_
  intro p e s m args below meth c Q C hr hlk hnm hQ
  refine j_jn (P := fun j1 => J p l e ({ frames := 0, cells := 0, slots := 0, locals := 0 }) s m args below meth c Q w 3 0 0 14 [] [] h (j1) out) ?_ (fun j1 hj1 => ?_)
  · refine j_iconst C (v := 0) dX13_isIn_14 (by decide) ?_
    exact e_iretR C hQ hr rfl hlk dX13_isIn_15 (Nat.le_of_ble_eq_true rfl) (Nat.le_of_ble_eq_true rfl)
  · refine j_iload_n C dX13_isIn_0 (i := 0) rfl rfl ?_
    refine j_iload_n C dX13_isIn_1 (i := 1) rfl rfl ?_
    refine j_icmplt C (tgt := 14) dX13_isIn_2 (by decide) (fun q2 => ?_) (fun q2 => ?_)
    · exact j_sub [] rfl (hj1)
    · refine j_iload_n C dX13_isIn_5 (i := 0) rfl rfl ?_
      refine j_iload_n C dX13_isIn_6 (i := 2) rfl rfl ?_
      refine j_icmpgt C (tgt := 14) dX13_isIn_7 (by decide) (fun q3 => ?_) (fun q3 => ?_)
      · exact j_sub [] rfl (hj1)
      · refine j_iconst C (v := 1) dX13_isIn_10 (by decide) ?_
        refine j_goto C (tgt := 15) dX13_isIn_11 (by decide) ?_
        exact e_iretR C hQ hr rfl hlk dX13_isIn_15 (Nat.le_of_ble_eq_true rfl) (Nat.le_of_ble_eq_true rfl)
def f_Md_isPushed (x0 : Int32) (h : hp_M) : Option (Int32) := jn (some 1) fun (j2 : Option (Int32)) => if x0 = 40 then (j2) else ((f_Md_isIn x0 12 16 h).bind fun r4 => if r4 = 0 then (if x0 = 4 then (j2) else (if x0 = 10 then (j2) else (if x0 = 11 then (j2) else (some 0)))) else (j2))
set_option maxRecDepth 100000 in
set_option maxHeartbeats 4000000 in
theorem c_Md_isPushed (l : Launch) (w : hp_W) (x0 : Int32) (h : hp_M) (out : Int32) (hX : f_Md_isPushed x0 h = some out) : CT l w yX13_isPushed cX13_isPushed 1 (some .boolean) ({ frames := 1, cells := 0, slots := 0, locals := 22 }) [.int x0] h (some (.int out)) h := by
  unfold f_Md_isPushed at hX
  refine ct_of (by decide +kernel) (Nat.le_of_ble_eq_true rfl) hX ?_
  intro p e s m args below meth c Q C hr hlk hnm hQ
  refine j_jn (P := fun j2 => J p l e ({ frames := 1, cells := 0, slots := 0, locals := 22 }) s m args below meth c Q w 1 0 0 34 [] [] h (j2) out) ?_ (fun j2 hj2 => ?_)
  · refine j_iconst C (v := 1) dX13_isPushed_34 (by decide) ?_
    refine j_goto C (tgt := 39) dX13_isPushed_35 (by decide) ?_
    exact e_iretR C hQ hr rfl hlk dX13_isPushed_39 (Nat.le_of_ble_eq_true rfl) (Nat.le_of_ble_eq_true rfl)
  · refine j_iload_n C dX13_isPushed_0 (i := 0) rfl rfl ?_
    refine j_bipush C (v := 40) dX13_isPushed_1 (by decide) ?_
    refine j_icmpeq C (tgt := 34) dX13_isPushed_3 (by decide) (fun q3 => ?_) (fun q3 => ?_)
    · exact j_sub [] rfl (hj2)
    · refine j_iload_n C dX13_isPushed_6 (i := 0) rfl rfl ?_
      refine j_bipush C (v := 12) dX13_isPushed_7 (by decide) ?_
      refine j_bipush C (v := 16) dX13_isPushed_9 (by decide) ?_
      refine j_callSi C (As := [.int _, .int _, .int _]) (rest := []) k_X13_60 ⟨Nat.le_of_ble_eq_true rfl, Nat.le_of_ble_eq_true rfl⟩ rfl (Nat.le_of_ble_eq_true rfl) ⟨Nat.le_of_ble_eq_true rfl, Nat.le_of_ble_eq_true rfl⟩ rfl dX13_isPushed_11 (fun r0 q0 => c_Md_isIn l w _ _ _ _ _ q0) (fun r4 er4 nr4 => ?_)
      refine j_ifne C (tgt := 34) dX13_isPushed_14 (by decide) (fun q5 => ?_) (fun q5 => ?_)
      · refine j_iload_n C dX13_isPushed_17 (i := 0) rfl rfl ?_
        refine j_iconst C (v := 4) dX13_isPushed_18 (by decide) ?_
        refine j_icmpeq C (tgt := 34) dX13_isPushed_19 (by decide) (fun q6 => ?_) (fun q6 => ?_)
        · exact j_sub [] rfl (hj2)
        · refine j_iload_n C dX13_isPushed_22 (i := 0) rfl rfl ?_
          refine j_bipush C (v := 10) dX13_isPushed_23 (by decide) ?_
          refine j_icmpeq C (tgt := 34) dX13_isPushed_25 (by decide) (fun q7 => ?_) (fun q7 => ?_)
          · exact j_sub [] rfl (hj2)
          · refine j_iload_n C dX13_isPushed_28 (i := 0) rfl rfl ?_
            refine j_bipush C (v := 11) dX13_isPushed_29 (by decide) ?_
            refine j_icmpne C (tgt := 38) dX13_isPushed_31 (by decide) (fun q8 => ?_) (fun q8 => ?_)
            · exact j_sub [] rfl (hj2)
            · refine j_iconst C (v := 0) dX13_isPushed_38 (by decide) ?_
              exact e_iretR C hQ hr rfl hlk dX13_isPushed_39 (Nat.le_of_ble_eq_true rfl) (Nat.le_of_ble_eq_true rfl)
      · exact j_sub [] rfl (hj2)
def f_St_carryOut_b5 (fl : Nat) (a0 : Nat) (x2 : Int32) (k221 : hp_M → Option (Int32 × hp_M)) : Nat → Int32 → Int32 → hp_M → Option (Int32 × hp_M)
  | 0, _, _, _ => none
  | n + 1, x3, x4, h => if x2 ≤ x4 then (k221 h) else ((gR h a0 10 8).bind fun v1031 => (gR h v1031 12 11).bind fun v1032 => (gR h v1032 11 9).bind fun v1033 => (gaI h v1033 x4).bind fun v1034 => (gR h a0 10 8).bind fun v1035 => (gR h v1035 12 11).bind fun v1036 => (gR h v1036 11 9).bind fun v1037 => (gaI h v1037 (x4 + 1)).bind fun v1038 => (gR h a0 10 8).bind fun v1039 => (gR h v1039 12 11).bind fun v1040 => (gR h v1040 11 9).bind fun v1041 => (gaI h v1041 (x4 + 2)).bind fun v1042 => (f_Md_isPushed v1034 h).bind fun r1043 => if r1043 = 0 then (jn (fun (u1046 : Int32) => jn (fun (u1051 : Int32) (u1052 : Int32) (u1053 : Nat) => (paI h u1053 u1052 u1051).bind fun h1054 => f_St_carryOut_b5 fl a0 x2 k221 n x3 u1046 h1054) fun (j1050 : Int32 → Int32 → Nat → Option (Int32 × hp_M)) => (gR h a0 10 7).bind fun v1055 => if v1034 = 41 then ((gR h a0 10 7).bind fun v1057 => (gaI h v1057 x3).bind fun v1058 => j1050 (-v1058) x3 v1055) else ((gR h a0 10 7).bind fun v1059 => (gaI h v1059 x3).bind fun v1060 => j1050 (1 - v1060) x3 v1055)) fun (j1045 : Int32 → Option (Int32 × hp_M)) => if v1034 = 41 then (j1045 (x4 + 1)) else (if v1034 = 17 then (j1045 (x4 + 1)) else ((gR h a0 10 7).bind fun v1063 => (gR h a0 10 7).bind fun v1064 => (gaI h v1064 (x3 + (-1))).bind fun v1065 => (gR h a0 10 7).bind fun v1066 => (gaI h v1066 ((x3 + (-1)) + 1)).bind fun v1067 => (f_Md_both v1034 v1065 v1067 h).bind fun r1068 => (paI h v1063 (x3 + (-1)) r1068).bind fun h1069 => f_St_carryOut_b5 fl a0 x2 k221 n (x3 + (-1)) (x4 + 1) h1069))) else (jn (fun (u1074 : Int32) (u1075 : Int32) (u1076 : Int32) (h1077 : hp_M) => f_St_carryOut_b5 fl a0 x2 k221 n u1074 (u1076 + u1075) h1077) fun (j1073 : Int32 → Int32 → Int32 → hp_M → Option (Int32 × hp_M)) => jn (fun (u1082 : Int32) (u1083 : Int32) (h1084 : hp_M) => j1073 u1082 3 u1083 h1084) fun (j1081 : Int32 → Int32 → hp_M → Option (Int32 × hp_M)) => (gR h a0 10 7).bind fun v1085 => (onO h a0 10 (f_St_pushed a0 v1034 v1038 v1042 h)).bind fun r1086 => (paI h v1085 (x3 + 1) r1086).bind fun h1087 => if v1034 = 14 then (j1081 (x3 + 1) x4 h1087) else (if v1034 = 10 then (j1081 (x3 + 1) x4 h1087) else (if v1034 = 11 then (j1081 (x3 + 1) x4 h1087) else (jn (fun (u1092 : Int32) => j1073 (x3 + 1) 1 u1092 h1087) fun (j1091 : Int32 → Option (Int32 × hp_M)) => if v1034 = 15 then (j1091 x4) else (if v1034 = 16 then (j1091 x4) else (j1073 (x3 + 1) 2 x4 h1087)))))))
def f_St_carryOut (fl : Nat) (a0 : Nat) (x1 : Int32) (x2 : Int32) (h : hp_M) : Option (Int32 × hp_M) := f_St_carryOut_b5 fl a0 x2 (fun (h1 : hp_M) => (gR h1 a0 10 7).bind fun v2 => (gaI h1 v2 0).bind fun v3 => some (v3, h1)) fl (-1) x1 h
set_option maxRecDepth 100000 in
set_option maxHeartbeats 4000000 in
theorem b_St_carryOut_5 {p : Program} {l : Launch} {e : Env} {s : State} {m : MethodId} {args : Array Value} {below : List Frame} {meth : Method} {c : Code} {Q : State → Prop} {w : hp_W} {out : Int32 × hp_M} (fl : Nat)   (a0 : Nat) (x2 : Int32) (k221 : hp_M → Option (Int32 × hp_M)) (C : Cx p m c cX11_carryOut 8 s args RX11 w) (hr : meth.sig.returnType = some .int) (hlk : meth.locks = false) (hnm : meth.name = "carryOut") (hQ : QM below w args s ({ frames := 9, cells := 0, slots := 0, locals := 270 }) (some .int) (some (.int out.1)) out.2 = Q) (hk221 : ∀ (hz : hp_M), J p l e ({ frames := 9, cells := 0, slots := 0, locals := 270 }) s m args below meth c Q w 8 0 0 221 [(0, .ref a0)] [] hz (k221 hz) out) : ∀ (n : Nat) (x3 : Int32) (x4 : Int32) (h : hp_M), J p l e ({ frames := 9, cells := 0, slots := 0, locals := 270 }) s m args below meth c Q w 8 0 0 5 [(0, .ref a0), (2, .int x2), (3, .int x3), (4, .int x4)] [] h (f_St_carryOut_b5 fl a0 x2 k221 n x3 x4 h) out := by
  intro n
  induction n with
  | zero => intro x3 x4 h; exact j_none
  | succ n ih =>
    intro x3 x4 h
    rw [f_St_carryOut_b5]
    refine j_iload C dX11_carryOut_5 rfl ?_
    refine j_iload_n C dX11_carryOut_7 (i := 2) rfl rfl ?_
    refine j_icmpge C (tgt := 221) dX11_carryOut_8 (by decide) (fun q1030 => ?_) (fun q1030 => ?_)
    · exact j_sub [0] rfl (hk221 _)
    · refine j_aload_n C dX11_carryOut_11 (i := 0) rfl rfl ?_
      refine j_getR C g_X11_3 dX11_carryOut_12 (fun v1031 ev1031 => ?_)
      refine j_getR C g_X11_51 dX11_carryOut_15 (fun v1032 ev1032 => ?_)
      refine j_getR C g_X11_108 dX11_carryOut_18 (fun v1033 ev1033 => ?_)
      refine j_iload C dX11_carryOut_21 rfl ?_
      refine j_iaload C dX11_carryOut_23 (fun v1034 ev1034 => ?_)
      refine j_istore C [(5, _), (0, _), (2, _), (3, _), (4, _)] dX11_carryOut_24 (by decide) rfl ?_
      refine j_aload_n C dX11_carryOut_26 (i := 0) rfl rfl ?_
      refine j_getR C g_X11_3 dX11_carryOut_27 (fun v1035 ev1035 => ?_)
      refine j_getR C g_X11_51 dX11_carryOut_30 (fun v1036 ev1036 => ?_)
      refine j_getR C g_X11_108 dX11_carryOut_33 (fun v1037 ev1037 => ?_)
      refine j_iload C dX11_carryOut_36 rfl ?_
      refine j_iconst C (v := 1) dX11_carryOut_38 (by decide) ?_
      refine j_iadd C dX11_carryOut_39 ?_
      refine j_iaload C dX11_carryOut_40 (fun v1038 ev1038 => ?_)
      refine j_istore C [(6, _), (5, _), (0, _), (2, _), (3, _), (4, _)] dX11_carryOut_41 (by decide) rfl ?_
      refine j_aload_n C dX11_carryOut_43 (i := 0) rfl rfl ?_
      refine j_getR C g_X11_3 dX11_carryOut_44 (fun v1039 ev1039 => ?_)
      refine j_getR C g_X11_51 dX11_carryOut_47 (fun v1040 ev1040 => ?_)
      refine j_getR C g_X11_108 dX11_carryOut_50 (fun v1041 ev1041 => ?_)
      refine j_iload C dX11_carryOut_53 rfl ?_
      refine j_iconst C (v := 2) dX11_carryOut_55 (by decide) ?_
      refine j_iadd C dX11_carryOut_56 ?_
      refine j_iaload C dX11_carryOut_57 (fun v1042 ev1042 => ?_)
      refine j_istore C [(7, _), (6, _), (5, _), (0, _), (2, _), (3, _), (4, _)] dX11_carryOut_58 (by decide) rfl ?_
      refine j_iload C dX11_carryOut_60 rfl ?_
      refine j_callSNi C (As := [.int _]) (rest := []) k_X11_111 ⟨Nat.le_of_ble_eq_true rfl, Nat.le_of_ble_eq_true rfl⟩ rfl (Nat.le_of_ble_eq_true rfl) ⟨Nat.le_of_ble_eq_true rfl, Nat.le_of_ble_eq_true rfl⟩ rfl dX11_carryOut_62 (fun r0 q0 => c_Md_isPushed l w _ _ _ q0) (fun r1043 er1043 nr1043 => ?_)
      refine j_ifeq C (tgt := 139) dX11_carryOut_65 (by decide) (fun q1044 => ?_) (fun q1044 => ?_)
      · refine j_jn (P := fun (j1045 : Int32 → Option (Int32 × hp_M)) => ∀ (u1046 : Int32), J p l e ({ frames := 9, cells := 0, slots := 0, locals := 270 }) s m args below meth c Q w 8 0 0 156 [(0, .ref a0), (2, .int x2), (3, .int x3), (4, .int u1046), (5, .int v1034)] [] h (j1045 u1046) out) ?_ (fun j1045 hj1045 => ?_)
        · intro u1046
          refine j_jn (P := fun (j1050 : Int32 → Int32 → Nat → Option (Int32 × hp_M)) => ∀ (u1051 : Int32) (u1052 : Int32) (u1053 : Nat), J p l e ({ frames := 9, cells := 0, slots := 0, locals := 270 }) s m args below meth c Q w 8 0 0 186 [(0, .ref a0), (2, .int x2), (3, .int x3), (4, .int u1046)] [.int u1051, .int u1052, .ref u1053] h (j1050 u1051 u1052 u1053) out) ?_ (fun j1050 hj1050 => ?_)
          · intro u1051 u1052 u1053
            refine j_iastore C dX11_carryOut_186 (fun h1054 eh1054 => ?_)
            refine j_goto C (tgt := 5) dX11_carryOut_187 (by decide) ?_
            exact ih _ _ _
          · refine j_aload_n C dX11_carryOut_156 (i := 0) rfl rfl ?_
            refine j_getR C g_X11_31 dX11_carryOut_157 (fun v1055 ev1055 => ?_)
            refine j_iload_n C dX11_carryOut_160 (i := 3) rfl rfl ?_
            refine j_iload C dX11_carryOut_161 rfl ?_
            refine j_bipush C (v := 41) dX11_carryOut_163 (by decide) ?_
            refine j_icmpne C (tgt := 178) dX11_carryOut_165 (by decide) (fun q1056 => ?_) (fun q1056 => ?_)
            · refine j_aload_n C dX11_carryOut_168 (i := 0) rfl rfl ?_
              refine j_getR C g_X11_31 dX11_carryOut_169 (fun v1057 ev1057 => ?_)
              refine j_iload_n C dX11_carryOut_172 (i := 3) rfl rfl ?_
              refine j_iaload C dX11_carryOut_173 (fun v1058 ev1058 => ?_)
              refine j_ineg C dX11_carryOut_174 ?_
              refine j_goto C (tgt := 186) dX11_carryOut_175 (by decide) ?_
              exact j_sub [0, 1, 2, 3] rfl (hj1050 _ _ _)
            · refine j_iconst C (v := 1) dX11_carryOut_178 (by decide) ?_
              refine j_aload_n C dX11_carryOut_179 (i := 0) rfl rfl ?_
              refine j_getR C g_X11_31 dX11_carryOut_180 (fun v1059 ev1059 => ?_)
              refine j_iload_n C dX11_carryOut_183 (i := 3) rfl rfl ?_
              refine j_iaload C dX11_carryOut_184 (fun v1060 ev1060 => ?_)
              refine j_isub C dX11_carryOut_185 ?_
              exact j_sub [0, 1, 2, 3] rfl (hj1050 _ _ _)
        · refine j_iinc C (v := x4 + 1) [(4, _), (7, _), (6, _), (5, _), (0, _), (2, _), (3, _)] dX11_carryOut_139 rfl rfl (by decide) rfl ?_
          refine j_iload C dX11_carryOut_142 rfl ?_
          refine j_bipush C (v := 41) dX11_carryOut_144 (by decide) ?_
          refine j_icmpeq C (tgt := 156) dX11_carryOut_146 (by decide) (fun q1061 => ?_) (fun q1061 => ?_)
          · exact j_sub [4, 5, 6, 0, 3] rfl (hj1045 _)
          · refine j_iload C dX11_carryOut_149 rfl ?_
            refine j_bipush C (v := 17) dX11_carryOut_151 (by decide) ?_
            refine j_icmpne C (tgt := 190) dX11_carryOut_153 (by decide) (fun q1062 => ?_) (fun q1062 => ?_)
            · exact j_sub [4, 5, 6, 0, 3] rfl (hj1045 _)
            · refine j_iinc C (v := x3 + (-1)) [(3, _), (4, _), (7, _), (6, _), (5, _), (0, _), (2, _)] dX11_carryOut_190 rfl rfl (by decide) rfl ?_
              refine j_aload_n C dX11_carryOut_193 (i := 0) rfl rfl ?_
              refine j_getR C g_X11_31 dX11_carryOut_194 (fun v1063 ev1063 => ?_)
              refine j_iload_n C dX11_carryOut_197 (i := 3) rfl rfl ?_
              refine j_iload C dX11_carryOut_198 rfl ?_
              refine j_aload_n C dX11_carryOut_200 (i := 0) rfl rfl ?_
              refine j_getR C g_X11_31 dX11_carryOut_201 (fun v1064 ev1064 => ?_)
              refine j_iload_n C dX11_carryOut_204 (i := 3) rfl rfl ?_
              refine j_iaload C dX11_carryOut_205 (fun v1065 ev1065 => ?_)
              refine j_aload_n C dX11_carryOut_206 (i := 0) rfl rfl ?_
              refine j_getR C g_X11_31 dX11_carryOut_207 (fun v1066 ev1066 => ?_)
              refine j_iload_n C dX11_carryOut_210 (i := 3) rfl rfl ?_
              refine j_iconst C (v := 1) dX11_carryOut_211 (by decide) ?_
              refine j_iadd C dX11_carryOut_212 ?_
              refine j_iaload C dX11_carryOut_213 (fun v1067 ev1067 => ?_)
              refine j_callSNi C (As := [.int _, .int _, .int _]) (rest := [_, _]) k_X11_118 ⟨Nat.le_of_ble_eq_true rfl, Nat.le_of_ble_eq_true rfl⟩ rfl (Nat.le_of_ble_eq_true rfl) ⟨Nat.le_of_ble_eq_true rfl, Nat.le_of_ble_eq_true rfl⟩ rfl dX11_carryOut_214 (fun r0 q0 => c_Md_both l w _ _ _ _ _ q0) (fun r1068 er1068 nr1068 => ?_)
              refine j_iastore C dX11_carryOut_217 (fun h1069 eh1069 => ?_)
              refine j_goto C (tgt := 5) dX11_carryOut_218 (by decide) ?_
              exact j_sub [5, 6, 0, 1] rfl (ih _ _ _)
      · refine j_jn (P := fun (j1073 : Int32 → Int32 → Int32 → hp_M → Option (Int32 × hp_M)) => ∀ (u1074 : Int32) (u1075 : Int32) (u1076 : Int32) (h1077 : hp_M), J p l e ({ frames := 9, cells := 0, slots := 0, locals := 270 }) s m args below meth c Q w 8 0 0 133 [(0, .ref a0), (2, .int x2), (3, .int u1074)] [.int u1075, .int u1076] h1077 (j1073 u1074 u1075 u1076 h1077) out) ?_ (fun j1073 hj1073 => ?_)
        · intro u1074 u1075 u1076 h1077
          refine j_iadd C dX11_carryOut_133 ?_
          refine j_istore C [(4, _), (0, _), (2, _), (3, _)] dX11_carryOut_134 (by decide) rfl ?_
          refine j_goto C (tgt := 5) dX11_carryOut_136 (by decide) ?_
          exact j_sub [1, 2, 3, 0] rfl (ih _ _ _)
        · refine j_jn (P := fun (j1081 : Int32 → Int32 → hp_M → Option (Int32 × hp_M)) => ∀ (u1082 : Int32) (u1083 : Int32) (h1084 : hp_M), J p l e ({ frames := 9, cells := 0, slots := 0, locals := 270 }) s m args below meth c Q w 8 0 0 110 [(0, .ref a0), (2, .int x2), (3, .int u1082)] [.int u1083] h1084 (j1081 u1082 u1083 h1084) out) ?_ (fun j1081 hj1081 => ?_)
          · intro u1082 u1083 h1084
            refine j_iconst C (v := 3) dX11_carryOut_110 (by decide) ?_
            refine j_goto C (tgt := 133) dX11_carryOut_111 (by decide) ?_
            exact hj1073 _ _ _ _
          · refine j_iinc C (v := x3 + 1) [(3, _), (7, _), (6, _), (5, _), (0, _), (2, _), (4, _)] dX11_carryOut_68 rfl rfl (by decide) rfl ?_
            refine j_aload_n C dX11_carryOut_71 (i := 0) rfl rfl ?_
            refine j_getR C g_X11_31 dX11_carryOut_72 (fun v1085 ev1085 => ?_)
            refine j_iload_n C dX11_carryOut_75 (i := 3) rfl rfl ?_
            refine j_aload_n C dX11_carryOut_76 (i := 0) rfl rfl ?_
            refine j_iload C dX11_carryOut_77 rfl ?_
            refine j_iload C dX11_carryOut_79 rfl ?_
            refine j_iload C dX11_carryOut_81 rfl ?_
            refine j_callVi C (As := [.int _, .int _, .int _]) (rest := [_, _]) k_X11_114 ⟨Nat.le_of_ble_eq_true rfl, Nat.le_of_ble_eq_true rfl⟩ rfl (Nat.le_of_ble_eq_true rfl) ⟨Nat.le_of_ble_eq_true rfl, Nat.le_of_ble_eq_true rfl⟩ rfl dX11_carryOut_83 (fun r0 q0 => c_St_pushed l w _ _ _ _ _ _ q0) (fun r1086 er1086 nr1086 => ?_)
            refine j_iastore C dX11_carryOut_86 (fun h1087 eh1087 => ?_)
            refine j_iload C dX11_carryOut_87 rfl ?_
            refine j_iload C dX11_carryOut_89 rfl ?_
            refine j_bipush C (v := 14) dX11_carryOut_91 (by decide) ?_
            refine j_icmpeq C (tgt := 110) dX11_carryOut_93 (by decide) (fun q1088 => ?_) (fun q1088 => ?_)
            · exact j_sub [4, 5, 0] rfl (hj1081 _ _ _)
            · refine j_iload C dX11_carryOut_96 rfl ?_
              refine j_bipush C (v := 10) dX11_carryOut_98 (by decide) ?_
              refine j_icmpeq C (tgt := 110) dX11_carryOut_100 (by decide) (fun q1089 => ?_) (fun q1089 => ?_)
              · exact j_sub [4, 5, 0] rfl (hj1081 _ _ _)
              · refine j_iload C dX11_carryOut_103 rfl ?_
                refine j_bipush C (v := 11) dX11_carryOut_105 (by decide) ?_
                refine j_icmpne C (tgt := 114) dX11_carryOut_107 (by decide) (fun q1090 => ?_) (fun q1090 => ?_)
                · exact j_sub [4, 5, 0] rfl (hj1081 _ _ _)
                · refine j_jn (P := fun (j1091 : Int32 → Option (Int32 × hp_M)) => ∀ (u1092 : Int32), J p l e ({ frames := 9, cells := 0, slots := 0, locals := 270 }) s m args below meth c Q w 8 0 0 128 [(0, .ref a0), (2, .int x2), (3, .int (x3 + 1))] [.int u1092] h1087 (j1091 u1092) out) ?_ (fun j1091 hj1091 => ?_)
                  · intro u1092
                    refine j_iconst C (v := 1) dX11_carryOut_128 (by decide) ?_
                    refine j_goto C (tgt := 133) dX11_carryOut_129 (by decide) ?_
                    exact hj1073 _ _ _ _
                  · refine j_iload C dX11_carryOut_114 rfl ?_
                    refine j_bipush C (v := 15) dX11_carryOut_116 (by decide) ?_
                    refine j_icmpeq C (tgt := 128) dX11_carryOut_118 (by decide) (fun q1093 => ?_) (fun q1093 => ?_)
                    · exact j_sub [4, 5, 0] rfl (hj1091 _)
                    · refine j_iload C dX11_carryOut_121 rfl ?_
                      refine j_bipush C (v := 16) dX11_carryOut_123 (by decide) ?_
                      refine j_icmpne C (tgt := 132) dX11_carryOut_125 (by decide) (fun q1094 => ?_) (fun q1094 => ?_)
                      · exact j_sub [4, 5, 0] rfl (hj1091 _)
                      · refine j_iconst C (v := 2) dX11_carryOut_132 (by decide) ?_
                        exact j_sub [4, 5, 0] rfl (hj1073 _ _ _ _)
set_option maxRecDepth 100000 in
set_option maxHeartbeats 4000000 in
theorem c_St_carryOut (l : Launch) (w : hp_W) (fl : Nat) (a0 : Nat) (x1 : Int32) (x2 : Int32) (h : hp_M) (out : Int32 × hp_M) (hX : f_St_carryOut fl a0 x1 x2 h = some out) : CT l w yX11_carryOut cX11_carryOut 8 (some .int) ({ frames := 9, cells := 0, slots := 0, locals := 270 }) [.ref a0, .int x1, .int x2] h (some (.int out.1)) out.2 := by
  unfold f_St_carryOut at hX
  refine ct_of (by decide +kernel) (Nat.le_of_ble_eq_true rfl) hX ?_
  intro p e s m args below meth c Q C hr hlk hnm hQ
  refine j_iconst C (v := -1) dX11_carryOut_0 (by decide) ?_
  refine j_istore_n C [(3, _), (0, _), (1, _), (2, _)] dX11_carryOut_1 (i := 3) rfl (by decide) rfl ?_
  refine j_iload_n C dX11_carryOut_2 (i := 1) rfl rfl ?_
  refine j_istore C [(4, _), (3, _), (0, _), (1, _), (2, _)] dX11_carryOut_3 (by decide) rfl ?_
  refine j_sub [2, 4, 1, 0] rfl (b_St_carryOut_5 fl  _ _ _ C hr hlk hnm hQ (fun h1 => ?_) _ _ _ _)
  refine j_aload_n C dX11_carryOut_221 (i := 0) rfl rfl ?_
  refine j_getR C g_X11_31 dX11_carryOut_222 (fun v2 ev2 => ?_)
  refine j_iconst C (v := 0) dX11_carryOut_225 (by decide) ?_
  refine j_iaload C dX11_carryOut_226 (fun v3 ev3 => ?_)
  exact e_iretM C hQ hr rfl hlk dX11_carryOut_227 (Nat.le_of_ble_eq_true rfl) (Nat.le_of_ble_eq_true rfl)
def f_St_pass_b11 (fl : Nat) (a0 : Nat) (x1 : Int32) (k178 : hp_M → Option (Int32 × hp_M)) : Nat → Int32 → hp_M → Option (Int32 × hp_M)
  | 0, _, _ => none
  | n + 1, x2, h => (gR h a0 10 8).bind fun v1046 => (gR h v1046 12 11).bind fun v1047 => (gI h v1047 11 5).bind fun v1048 => if v1048 ≤ x2 then (k178 h) else ((gI h a0 10 6).bind fun v1050 => if 600 ≤ v1050 then (k178 h) else (jn (fun (h1062 : hp_M) => f_St_pass_b11 fl a0 x1 k178 n (x2 + 1) h1062) fun (j1061 : hp_M → Option (Int32 × hp_M)) => (gR h a0 10 8).bind fun v1063 => (gR h v1063 12 11).bind fun v1064 => (gR h v1064 11 6).bind fun v1065 => (gaI h v1065 x2).bind fun v1066 => (gR h a0 10 8).bind fun v1067 => (gR h v1067 12 11).bind fun v1068 => (gR h v1068 11 7).bind fun v1069 => (gaI h v1069 x2).bind fun v1070 => (onO h a0 10 (f_St_carryOut fl a0 v1066 v1070 h)).bind fun r1071 => if r1071.1 = 0 then (j1061 r1071.2) else ((gR r1071.2 a0 10 8).bind fun v1073 => (gR r1071.2 v1073 12 11).bind fun v1074 => (gR r1071.2 v1074 11 8).bind fun v1075 => (gaI r1071.2 v1075 x2).bind fun v1076 => (gR r1071.2 a0 10 5).bind fun v1077 => (gI r1071.2 a0 10 6).bind fun v1078 => (gR r1071.2 a0 10 8).bind fun v1079 => (gR r1071.2 v1079 12 11).bind fun v1080 => (gR r1071.2 v1080 11 4).bind fun v1081 => (gR r1071.2 a0 10 8).bind fun v1082 => (gR r1071.2 v1082 12 11).bind fun v1083 => (gR r1071.2 v1083 11 7).bind fun v1084 => (gaI r1071.2 v1084 x2).bind fun v1085 => (gR r1071.2 a0 10 8).bind fun v1086 => (gR r1071.2 v1086 12 11).bind fun v1087 => (gR r1071.2 v1087 11 6).bind fun v1088 => (gaI r1071.2 v1088 (x2 + 1)).bind fun v1089 => (onO r1071.2 a0 10 (f_St_carryOut fl a0 v1085 v1089 r1071.2)).bind fun r1090 => (gR r1090.2 a0 10 8).bind fun v1091 => (gR r1090.2 v1091 12 11).bind fun v1092 => (gR r1090.2 v1092 11 3).bind fun v1093 => (gaI r1090.2 v1093 v1076).bind fun v1094 => (fmI r1090.1 v1094).bind fun v1095 => (gaI r1090.2 v1081 ((12 * v1076) + v1095)).bind fun v1096 => (paI r1090.2 v1077 v1078 v1096).bind fun h1097 => (gI h1097 a0 10 6).bind fun v1098 => (pF h1097 a0 10 6 (.int (v1098 + 1))).bind fun h1099 => (gR h1099 a0 10 4).bind fun v1100 => (gaI h1099 v1100 x2).bind fun v1101 => (paI h1099 v1100 x2 (v1101 + 1)).bind fun h1102 => j1061 h1102)))
def f_St_pass (fl : Nat) (a0 : Nat) (h : hp_M) : Option (Int32 × hp_M) := (onO h a0 10 (f_St_move fl a0 h)).bind fun h1 => (gI h1 a0 10 6).bind fun v2 => f_St_pass_b11 fl a0 v2 (fun (h3 : hp_M) => (gI h3 a0 10 6).bind fun v4 => some ((v4 - v2), h3)) fl 0 h1
set_option maxRecDepth 100000 in
set_option maxHeartbeats 4000000 in
theorem b_St_pass_11 {p : Program} {l : Launch} {e : Env} {s : State} {m : MethodId} {args : Array Value} {below : List Frame} {meth : Method} {c : Code} {Q : State → Prop} {w : hp_W} {out : Int32 × hp_M} (fl : Nat)   (a0 : Nat) (x1 : Int32) (k178 : hp_M → Option (Int32 × hp_M)) (C : Cx p m c cX11_pass 4 s args RX11 w) (hr : meth.sig.returnType = some .int) (hlk : meth.locks = false) (hnm : meth.name = "pass") (hQ : QM below w args s ({ frames := 10, cells := 0, slots := 0, locals := 297 }) (some .int) (some (.int out.1)) out.2 = Q) (hk178 : ∀ (hz : hp_M), J p l e ({ frames := 10, cells := 0, slots := 0, locals := 297 }) s m args below meth c Q w 4 0 0 178 [(0, .ref a0), (1, .int x1)] [] hz (k178 hz) out) : ∀ (n : Nat) (x2 : Int32) (h : hp_M), J p l e ({ frames := 10, cells := 0, slots := 0, locals := 297 }) s m args below meth c Q w 4 0 0 11 [(0, .ref a0), (1, .int x1), (2, .int x2)] [] h (f_St_pass_b11 fl a0 x1 k178 n x2 h) out := by
  intro n
  induction n with
  | zero => intro x2 h; exact j_none
  | succ n ih =>
    intro x2 h
    rw [f_St_pass_b11]
    refine j_iload_n C dX11_pass_11 (i := 2) rfl rfl ?_
    refine j_aload_n C dX11_pass_12 (i := 0) rfl rfl ?_
    refine j_getR C g_X11_3 dX11_pass_13 (fun v1046 ev1046 => ?_)
    refine j_getR C g_X11_51 dX11_pass_16 (fun v1047 ev1047 => ?_)
    refine j_getI C g_X11_84 dX11_pass_19 (fun v1048 ev1048 => ?_)
    refine j_icmpge C (tgt := 178) dX11_pass_22 (by decide) (fun q1049 => ?_) (fun q1049 => ?_)
    · exact j_sub [0, 1] rfl (hk178 _)
    · refine j_aload_n C dX11_pass_25 (i := 0) rfl rfl ?_
      refine j_getI C g_X11_44 dX11_pass_26 (fun v1050 ev1050 => ?_)
      refine j_sipush C (v := 600) dX11_pass_29 (by decide) ?_
      refine j_icmpge C (tgt := 178) dX11_pass_32 (by decide) (fun q1051 => ?_) (fun q1051 => ?_)
      · exact j_sub [0, 1] rfl (hk178 _)
      · refine j_jn (P := fun (j1061 : hp_M → Option (Int32 × hp_M)) => ∀ (h1062 : hp_M), J p l e ({ frames := 10, cells := 0, slots := 0, locals := 297 }) s m args below meth c Q w 4 0 0 172 [(0, .ref a0), (1, .int x1), (2, .int x2)] [] h1062 (j1061 h1062) out) ?_ (fun j1061 hj1061 => ?_)
        · intro h1062
          refine j_iinc C (v := x2 + 1) [(2, _), (0, _), (1, _)] dX11_pass_172 rfl rfl (by decide) rfl ?_
          refine j_goto C (tgt := 11) dX11_pass_175 (by decide) ?_
          exact j_sub [1, 2, 0] rfl (ih _ _)
        · refine j_aload_n C dX11_pass_35 (i := 0) rfl rfl ?_
          refine j_aload_n C dX11_pass_36 (i := 0) rfl rfl ?_
          refine j_getR C g_X11_3 dX11_pass_37 (fun v1063 ev1063 => ?_)
          refine j_getR C g_X11_51 dX11_pass_40 (fun v1064 ev1064 => ?_)
          refine j_getR C g_X11_87 dX11_pass_43 (fun v1065 ev1065 => ?_)
          refine j_iload_n C dX11_pass_46 (i := 2) rfl rfl ?_
          refine j_iaload C dX11_pass_47 (fun v1066 ev1066 => ?_)
          refine j_aload_n C dX11_pass_48 (i := 0) rfl rfl ?_
          refine j_getR C g_X11_3 dX11_pass_49 (fun v1067 ev1067 => ?_)
          refine j_getR C g_X11_51 dX11_pass_52 (fun v1068 ev1068 => ?_)
          refine j_getR C g_X11_90 dX11_pass_55 (fun v1069 ev1069 => ?_)
          refine j_iload_n C dX11_pass_58 (i := 2) rfl rfl ?_
          refine j_iaload C dX11_pass_59 (fun v1070 ev1070 => ?_)
          refine j_callVim C (As := [.int _, .int _]) (rest := []) k_X11_93 ⟨Nat.le_of_ble_eq_true rfl, Nat.le_of_ble_eq_true rfl⟩ rfl (Nat.le_of_ble_eq_true rfl) ⟨Nat.le_of_ble_eq_true rfl, Nat.le_of_ble_eq_true rfl⟩ rfl dX11_pass_60 (fun r0 q0 => c_St_carryOut l w fl _ _ _ _ _ q0) (fun r1071 er1071 nr1071 => ?_)
          refine j_ifne C (tgt := 69) dX11_pass_63 (by decide) (fun q1072 => ?_) (fun q1072 => ?_)
          · refine j_goto C (tgt := 172) dX11_pass_66 (by decide) ?_
            exact hj1061 _
          · refine j_aload_n C dX11_pass_69 (i := 0) rfl rfl ?_
            refine j_getR C g_X11_3 dX11_pass_70 (fun v1073 ev1073 => ?_)
            refine j_getR C g_X11_51 dX11_pass_73 (fun v1074 ev1074 => ?_)
            refine j_getR C g_X11_96 dX11_pass_76 (fun v1075 ev1075 => ?_)
            refine j_iload_n C dX11_pass_79 (i := 2) rfl rfl ?_
            refine j_iaload C dX11_pass_80 (fun v1076 ev1076 => ?_)
            refine j_istore_n C [(3, _), (0, _), (1, _), (2, _)] dX11_pass_81 (i := 3) rfl (by decide) rfl ?_
            refine j_aload_n C dX11_pass_82 (i := 0) rfl rfl ?_
            refine j_getR C g_X11_28 dX11_pass_83 (fun v1077 ev1077 => ?_)
            refine j_aload_n C dX11_pass_86 (i := 0) rfl rfl ?_
            refine j_getI C g_X11_44 dX11_pass_87 (fun v1078 ev1078 => ?_)
            refine j_aload_n C dX11_pass_90 (i := 0) rfl rfl ?_
            refine j_getR C g_X11_3 dX11_pass_91 (fun v1079 ev1079 => ?_)
            refine j_getR C g_X11_51 dX11_pass_94 (fun v1080 ev1080 => ?_)
            refine j_getR C g_X11_99 dX11_pass_97 (fun v1081 ev1081 => ?_)
            refine j_bipush C (v := 12) dX11_pass_100 (by decide) ?_
            refine j_iload_n C dX11_pass_102 (i := 3) rfl rfl ?_
            refine j_imul C dX11_pass_103 ?_
            refine j_aload_n C dX11_pass_104 (i := 0) rfl rfl ?_
            refine j_aload_n C dX11_pass_105 (i := 0) rfl rfl ?_
            refine j_getR C g_X11_3 dX11_pass_106 (fun v1082 ev1082 => ?_)
            refine j_getR C g_X11_51 dX11_pass_109 (fun v1083 ev1083 => ?_)
            refine j_getR C g_X11_90 dX11_pass_112 (fun v1084 ev1084 => ?_)
            refine j_iload_n C dX11_pass_115 (i := 2) rfl rfl ?_
            refine j_iaload C dX11_pass_116 (fun v1085 ev1085 => ?_)
            refine j_aload_n C dX11_pass_117 (i := 0) rfl rfl ?_
            refine j_getR C g_X11_3 dX11_pass_118 (fun v1086 ev1086 => ?_)
            refine j_getR C g_X11_51 dX11_pass_121 (fun v1087 ev1087 => ?_)
            refine j_getR C g_X11_87 dX11_pass_124 (fun v1088 ev1088 => ?_)
            refine j_iload_n C dX11_pass_127 (i := 2) rfl rfl ?_
            refine j_iconst C (v := 1) dX11_pass_128 (by decide) ?_
            refine j_iadd C dX11_pass_129 ?_
            refine j_iaload C dX11_pass_130 (fun v1089 ev1089 => ?_)
            refine j_callVim C (As := [.int _, .int _]) (rest := [_, _, _, _]) k_X11_93 ⟨Nat.le_of_ble_eq_true rfl, Nat.le_of_ble_eq_true rfl⟩ rfl (Nat.le_of_ble_eq_true rfl) ⟨Nat.le_of_ble_eq_true rfl, Nat.le_of_ble_eq_true rfl⟩ rfl dX11_pass_131 (fun r0 q0 => c_St_carryOut l w fl _ _ _ _ _ q0) (fun r1090 er1090 nr1090 => ?_)
            refine j_aload_n C dX11_pass_134 (i := 0) rfl rfl ?_
            refine j_getR C g_X11_3 dX11_pass_135 (fun v1091 ev1091 => ?_)
            refine j_getR C g_X11_51 dX11_pass_138 (fun v1092 ev1092 => ?_)
            refine j_getR C g_X11_102 dX11_pass_141 (fun v1093 ev1093 => ?_)
            refine j_iload_n C dX11_pass_144 (i := 3) rfl rfl ?_
            refine j_iaload C dX11_pass_145 (fun v1094 ev1094 => ?_)
            refine j_mfm C (rest := [_, _, _, _]) ⟨k_X11_105, Nat.le_of_ble_eq_true rfl, Nat.le_of_ble_eq_true rfl, Nat.le_of_ble_eq_true rfl⟩ (Nat.le_of_ble_eq_true rfl) (Nat.le_of_ble_eq_true rfl) dX11_pass_146 (fun v1095 ev1095 => ?_)
            refine j_iadd C dX11_pass_149 ?_
            refine j_iaload C dX11_pass_150 (fun v1096 ev1096 => ?_)
            refine j_iastore C dX11_pass_151 (fun h1097 eh1097 => ?_)
            refine j_aload_n C dX11_pass_152 (i := 0) rfl rfl ?_
            refine j_dup C dX11_pass_153 rfl ?_
            refine j_getI C g_X11_44 dX11_pass_154 (fun v1098 ev1098 => ?_)
            refine j_iconst C (v := 1) dX11_pass_157 (by decide) ?_
            refine j_iadd C dX11_pass_158 ?_
            refine j_putI C p_X11_44 (fun q => nomatch q) dX11_pass_159 (fun h1099 eh1099 => ?_)
            refine j_aload_n C dX11_pass_162 (i := 0) rfl rfl ?_
            refine j_getR C g_X11_25 dX11_pass_163 (fun v1100 ev1100 => ?_)
            refine j_iload_n C dX11_pass_166 (i := 2) rfl rfl ?_
            refine j_dup2 C dX11_pass_167 rfl rfl ?_
            refine j_iaload C dX11_pass_168 (fun v1101 ev1101 => ?_)
            refine j_iconst C (v := 1) dX11_pass_169 (by decide) ?_
            refine j_iadd C dX11_pass_170 ?_
            refine j_iastore C dX11_pass_171 (fun h1102 eh1102 => ?_)
            exact j_sub [1, 2, 3] rfl (hj1061 _)
set_option maxRecDepth 100000 in
set_option maxHeartbeats 4000000 in
theorem c_St_pass (l : Launch) (w : hp_W) (fl : Nat) (a0 : Nat) (h : hp_M) (out : Int32 × hp_M) (hX : f_St_pass fl a0 h = some out) : CT l w yX11_pass cX11_pass 4 (some .int) ({ frames := 10, cells := 0, slots := 0, locals := 297 }) [.ref a0] h (some (.int out.1)) out.2 := by
  unfold f_St_pass at hX
  refine ct_of (by decide +kernel) (Nat.le_of_ble_eq_true rfl) hX ?_
  intro p e s m args below meth c Q C hr hlk hnm hQ
  refine j_aload_n C dX11_pass_0 (i := 0) rfl rfl ?_
  refine j_callVv C (As := []) (rest := []) k_X11_81 ⟨Nat.le_of_ble_eq_true rfl, Nat.le_of_ble_eq_true rfl⟩ rfl (Nat.le_of_ble_eq_true rfl) ⟨Nat.le_of_ble_eq_true rfl, Nat.le_of_ble_eq_true rfl⟩ rfl dX11_pass_1 (fun r0 q0 => c_St_move l w fl _ _ _ q0) (fun h1 eh1 _ => ?_)
  refine j_aload_n C dX11_pass_4 (i := 0) rfl rfl ?_
  refine j_getI C g_X11_44 dX11_pass_5 (fun v2 ev2 => ?_)
  refine j_istore_n C [(1, _), (0, _)] dX11_pass_8 (i := 1) rfl (by decide) rfl ?_
  refine j_iconst C (v := 0) dX11_pass_9 (by decide) ?_
  refine j_istore_n C [(2, _), (1, _), (0, _)] dX11_pass_10 (i := 2) rfl (by decide) rfl ?_
  refine j_sub [2, 1, 0] rfl (b_St_pass_11 fl  _ _ _ C hr hlk hnm hQ (fun h3 => ?_) _ _ _)
  refine j_aload_n C dX11_pass_178 (i := 0) rfl rfl ?_
  refine j_getI C g_X11_44 dX11_pass_179 (fun v4 ev4 => ?_)
  refine j_iload_n C dX11_pass_182 (i := 1) rfl rfl ?_
  refine j_isub C dX11_pass_183 ?_
  exact e_iretM C hQ hr rfl hlk dX11_pass_184 (Nat.le_of_ble_eq_true rfl) (Nat.le_of_ble_eq_true rfl)
def f_Md_isPlanet (a0 : Nat) (x1 : Int32) (h : hp_M) : Option (Int32) := (gR h a0 12 11).bind fun v1 => (gI h v1 11 0).bind fun v2 => (f_Md_isIn x1 0 (v2 - 1) h).bind fun r3 => some r3
set_option maxRecDepth 100000 in
set_option maxHeartbeats 4000000 in
theorem c_Md_isPlanet (l : Launch) (w : hp_W) (a0 : Nat) (x1 : Int32) (h : hp_M) (out : Int32) (hX : f_Md_isPlanet a0 x1 h = some out) : CT l w yX13_isPlanet cX13_isPlanet 2 (some .boolean) ({ frames := 1, cells := 0, slots := 0, locals := 22 }) [.ref a0, .int x1] h (some (.int out)) h := by
  unfold f_Md_isPlanet at hX
  refine ct_of (by decide +kernel) (Nat.le_of_ble_eq_true rfl) hX ?_
  intro p e s m args below meth c Q C hr hlk hnm hQ
  refine j_iload_n C dX13_isPlanet_0 (i := 1) rfl rfl ?_
  refine j_iconst C (v := 0) dX13_isPlanet_1 (by decide) ?_
  refine j_aload_n C dX13_isPlanet_2 (i := 0) rfl rfl ?_
  refine j_getR C g_X13_35 dX13_isPlanet_3 (fun v1 ev1 => ?_)
  refine j_getI C g_X13_57 dX13_isPlanet_6 (fun v2 ev2 => ?_)
  refine j_iconst C (v := 1) dX13_isPlanet_9 (by decide) ?_
  refine j_isub C dX13_isPlanet_10 ?_
  refine j_callSi C (As := [.int _, .int _, .int _]) (rest := []) k_X13_60 ⟨Nat.le_of_ble_eq_true rfl, Nat.le_of_ble_eq_true rfl⟩ rfl (Nat.le_of_ble_eq_true rfl) ⟨Nat.le_of_ble_eq_true rfl, Nat.le_of_ble_eq_true rfl⟩ rfl dX13_isPlanet_11 (fun r0 q0 => c_Md_isIn l w _ _ _ _ _ q0) (fun r3 er3 nr3 => ?_)
  exact e_iretR C hQ hr (nr3 _ _ rfl rfl) hlk dX13_isPlanet_14 (Nat.le_of_ble_eq_true rfl) (Nat.le_of_ble_eq_true rfl)
def f_Md_isAlphabet (a0 : Nat) (x1 : Int32) (h : hp_M) : Option (Int32) := (gR h a0 12 11).bind fun v1 => (gI h v1 11 2).bind fun v2 => (f_Md_isIn x1 0 (v2 - 1) h).bind fun r3 => some r3
set_option maxRecDepth 100000 in
set_option maxHeartbeats 4000000 in
theorem c_Md_isAlphabet (l : Launch) (w : hp_W) (a0 : Nat) (x1 : Int32) (h : hp_M) (out : Int32) (hX : f_Md_isAlphabet a0 x1 h = some out) : CT l w yX13_isAlphabet cX13_isAlphabet 2 (some .boolean) ({ frames := 1, cells := 0, slots := 0, locals := 22 }) [.ref a0, .int x1] h (some (.int out)) h := by
  unfold f_Md_isAlphabet at hX
  refine ct_of (by decide +kernel) (Nat.le_of_ble_eq_true rfl) hX ?_
  intro p e s m args below meth c Q C hr hlk hnm hQ
  refine j_iload_n C dX13_isAlphabet_0 (i := 1) rfl rfl ?_
  refine j_iconst C (v := 0) dX13_isAlphabet_1 (by decide) ?_
  refine j_aload_n C dX13_isAlphabet_2 (i := 0) rfl rfl ?_
  refine j_getR C g_X13_35 dX13_isAlphabet_3 (fun v1 ev1 => ?_)
  refine j_getI C g_X13_64 dX13_isAlphabet_6 (fun v2 ev2 => ?_)
  refine j_iconst C (v := 1) dX13_isAlphabet_9 (by decide) ?_
  refine j_isub C dX13_isAlphabet_10 ?_
  refine j_callSi C (As := [.int _, .int _, .int _]) (rest := []) k_X13_60 ⟨Nat.le_of_ble_eq_true rfl, Nat.le_of_ble_eq_true rfl⟩ rfl (Nat.le_of_ble_eq_true rfl) ⟨Nat.le_of_ble_eq_true rfl, Nat.le_of_ble_eq_true rfl⟩ rfl dX13_isAlphabet_11 (fun r0 q0 => c_Md_isIn l w _ _ _ _ _ q0) (fun r3 er3 nr3 => ?_)
  exact e_iretR C hQ hr (nr3 _ _ rfl rfl) hlk dX13_isAlphabet_14 (Nat.le_of_ble_eq_true rfl) (Nat.le_of_ble_eq_true rfl)
def f_Md_isLetter (x0 : Int32) (h : hp_M) : Option (Int32) := jn (some 0) fun (j1 : Option (Int32)) => if x0 < 97 then (j1) else (if 122 < x0 then (j1) else (some 1))
set_option maxRecDepth 100000 in
set_option maxHeartbeats 4000000 in
theorem c_Md_isLetter (l : Launch) (w : hp_W) (x0 : Int32) (h : hp_M) (out : Int32) (hX : f_Md_isLetter x0 h = some out) : CT l w yX13_isLetter cX13_isLetter 1 (some .boolean) ({ frames := 0, cells := 0, slots := 0, locals := 0 }) [.int x0] h (some (.int out)) h := by
  unfold f_Md_isLetter at hX
  refine ct_of (by decide +kernel) (Nat.le_of_ble_eq_true rfl) hX ?_
  intro p e s m args below meth c Q C hr hlk hnm hQ
  refine j_jn (P := fun j1 => J p l e ({ frames := 0, cells := 0, slots := 0, locals := 0 }) s m args below meth c Q w 1 0 0 16 [] [] h (j1) out) ?_ (fun j1 hj1 => ?_)
  · refine j_iconst C (v := 0) dX13_isLetter_16 (by decide) ?_
    exact e_iretR C hQ hr rfl hlk dX13_isLetter_17 (Nat.le_of_ble_eq_true rfl) (Nat.le_of_ble_eq_true rfl)
  · refine j_iload_n C dX13_isLetter_0 (i := 0) rfl rfl ?_
    refine j_bipush C (v := 97) dX13_isLetter_1 (by decide) ?_
    refine j_icmplt C (tgt := 16) dX13_isLetter_3 (by decide) (fun q2 => ?_) (fun q2 => ?_)
    · exact j_sub [] rfl (hj1)
    · refine j_iload_n C dX13_isLetter_6 (i := 0) rfl rfl ?_
      refine j_bipush C (v := 122) dX13_isLetter_7 (by decide) ?_
      refine j_icmpgt C (tgt := 16) dX13_isLetter_9 (by decide) (fun q3 => ?_) (fun q3 => ?_)
      · exact j_sub [] rfl (hj1)
      · refine j_iconst C (v := 1) dX13_isLetter_12 (by decide) ?_
        refine j_goto C (tgt := 17) dX13_isLetter_13 (by decide) ?_
        exact e_iretR C hQ hr rfl hlk dX13_isLetter_17 (Nat.le_of_ble_eq_true rfl) (Nat.le_of_ble_eq_true rfl)
def f_Md_isDigit (x0 : Int32) (h : hp_M) : Option (Int32) := jn (some 0) fun (j1 : Option (Int32)) => if x0 < 48 then (j1) else (if 57 < x0 then (j1) else (some 1))
set_option maxRecDepth 100000 in
set_option maxHeartbeats 4000000 in
theorem c_Md_isDigit (l : Launch) (w : hp_W) (x0 : Int32) (h : hp_M) (out : Int32) (hX : f_Md_isDigit x0 h = some out) : CT l w yX13_isDigit cX13_isDigit 1 (some .boolean) ({ frames := 0, cells := 0, slots := 0, locals := 0 }) [.int x0] h (some (.int out)) h := by
  unfold f_Md_isDigit at hX
  refine ct_of (by decide +kernel) (Nat.le_of_ble_eq_true rfl) hX ?_
  intro p e s m args below meth c Q C hr hlk hnm hQ
  refine j_jn (P := fun j1 => J p l e ({ frames := 0, cells := 0, slots := 0, locals := 0 }) s m args below meth c Q w 1 0 0 16 [] [] h (j1) out) ?_ (fun j1 hj1 => ?_)
  · refine j_iconst C (v := 0) dX13_isDigit_16 (by decide) ?_
    exact e_iretR C hQ hr rfl hlk dX13_isDigit_17 (Nat.le_of_ble_eq_true rfl) (Nat.le_of_ble_eq_true rfl)
  · refine j_iload_n C dX13_isDigit_0 (i := 0) rfl rfl ?_
    refine j_bipush C (v := 48) dX13_isDigit_1 (by decide) ?_
    refine j_icmplt C (tgt := 16) dX13_isDigit_3 (by decide) (fun q2 => ?_) (fun q2 => ?_)
    · exact j_sub [] rfl (hj1)
    · refine j_iload_n C dX13_isDigit_6 (i := 0) rfl rfl ?_
      refine j_bipush C (v := 57) dX13_isDigit_7 (by decide) ?_
      refine j_icmpgt C (tgt := 16) dX13_isDigit_9 (by decide) (fun q3 => ?_) (fun q3 => ?_)
      · exact j_sub [] rfl (hj1)
      · refine j_iconst C (v := 1) dX13_isDigit_12 (by decide) ?_
        refine j_goto C (tgt := 17) dX13_isDigit_13 (by decide) ?_
        exact e_iretR C hQ hr rfl hlk dX13_isDigit_17 (Nat.le_of_ble_eq_true rfl) (Nat.le_of_ble_eq_true rfl)
def f_Md_kindAt_b90 (w : hp_W) (fl : Nat) (a0 : Nat) (x1 : Int32) (x2 : Int32) (h : hp_M) (k108 : Int32 → Option (Int32 × hp_M)) : Nat → Int32 → Option (Int32 × hp_M)
  | 0, _ => none
  | n + 1, x4 => (onO h a0 12 (f_Md_byteOf a0 x4 h)).bind fun r1047 => (f_Md_isDigit r1047 h).bind fun r1048 => if r1048 = 0 then (k108 x4) else (f_Md_kindAt_b90 w fl a0 x1 x2 h k108 n (x4 + 1))
def f_Md_kindAt_b18 (w : hp_W) (fl : Nat) (a0 : Nat) (x1 : Int32) (x2 : Int32) (h : hp_M) (k48 : Int32 → Option (Int32 × hp_M)) : Nat → Int32 → Option (Int32 × hp_M)
  | 0, _ => none
  | n + 1, x4 => jn (f_Md_kindAt_b18 w fl a0 x1 x2 h k48 n (x4 + 1)) fun (j1057 : Option (Int32 × hp_M)) => (onO h a0 12 (f_Md_byteOf a0 x4 h)).bind fun r1058 => (f_Md_isLetter r1058 h).bind fun r1059 => if r1059 = 0 then ((onO h a0 12 (f_Md_byteOf a0 x4 h)).bind fun r1061 => (f_Md_isDigit r1061 h).bind fun r1062 => if r1062 = 0 then (k48 x4) else (j1057)) else (j1057)
def f_Md_kindAt (w : hp_W) (fl : Nat) (a0 : Nat) (x1 : Int32) (x2 : Int32) (h : hp_M) : Option (Int32 × hp_M) := (onO h a0 12 (f_Md_byteOf a0 x1 h)).bind fun r1 => (f_Md_isLetter r1 h).bind fun r2 => if r2 = 0 then ((f_Md_isDigit r1 h).bind fun r4 => if r4 = 0 then (jn (fun (u8 : Int32) => jn (fun (u11 : Int32) (u12 : Int32) (u13 : Int32) (u14 : Nat) => (paI h u14 u13 u12).bind fun h15 => if u11 = 0 then (if r1 = (-1) then (some (900, h15)) else (jn (some ((32 + r1), h15)) fun (j18 : Option (Int32 × hp_M)) => if r1 = 40 then (j18) else (if r1 = 41 then (j18) else (if r1 = 91 then (j18) else (if r1 = 93 then (j18) else (if r1 = 59 then (j18) else (if r1 = 44 then (j18) else (if r1 = 43 then (j18) else (if r1 = 45 then (j18) else (if r1 = 42 then (j18) else (if r1 = 47 then (j18) else (if r1 = 37 then (j18) else (if r1 = 60 then (j18) else (if r1 = 62 then (j18) else (if r1 = 61 then (j18) else (some (901, h15))))))))))))))))) else (if r1 = 60 then (some (800, h15)) else (some (801, h15)))) fun (j10 : Int32 → Int32 → Int32 → Nat → Option (Int32 × hp_M)) => (gR h a0 12 6).bind fun v34 => if u8 = 0 then (j10 u8 1 x2 v34) else (j10 u8 2 x2 v34)) fun (j7 : Int32 → Option (Int32 × hp_M)) => jn (j7 0) fun (j39 : Option (Int32 × hp_M)) => jn ((onO h a0 12 (f_Md_byteOf a0 (x1 + 1) h)).bind fun r41 => if r41 = 61 then (j7 1) else (j39)) fun (j40 : Option (Int32 × hp_M)) => if r1 = 60 then (j40) else (if r1 = 62 then (j40) else (j39))) else (f_Md_kindAt_b90 w fl a0 x1 x2 h (fun (u45 : Int32) => (gR h a0 12 6).bind fun v46 => (paI h v46 x2 (u45 - x1)).bind fun h47 => if (u45 - x1) ≤ 6 then (some (31, h47)) else (some (901, h47))) fl (x1 + 1))) else (f_Md_kindAt_b18 w fl a0 x1 x2 h (fun (u49 : Int32) => (gR h a0 12 6).bind fun v50 => (paI h v50 x2 (u49 - x1)).bind fun h51 => if (u49 - x1) ≤ 12 then ((onO h51 a0 12 (f_Md_word w fl a0 x1 (u49 - x1) h51)).bind fun r53 => some (r53, h51)) else (some (901, h51))) fl (x1 + 1))
set_option maxRecDepth 100000 in
set_option maxHeartbeats 4000000 in
theorem b_Md_kindAt_90 {p : Program} {l : Launch} {e : Env} {s : State} {m : MethodId} {args : Array Value} {below : List Frame} {meth : Method} {c : Code} {Q : State → Prop} {w : hp_W} {out : Int32 × hp_M} (fl : Nat)   (a0 : Nat) (x1 : Int32) (x2 : Int32) (h : hp_M) (k108 : Int32 → Option (Int32 × hp_M)) (C : Cx p m c cX13_kindAt 6 s args RX13 w) (hr : meth.sig.returnType = some .int) (hlk : meth.locks = false) (hnm : meth.name = "kindAt") (hQ : QM below w args s ({ frames := 7, cells := 0, slots := 0, locals := 225 }) (some .int) (some (.int out.1)) out.2 = Q) (hk108 : ∀ (z4 : Int32), J p l e ({ frames := 7, cells := 0, slots := 0, locals := 225 }) s m args below meth c Q w 6 0 0 108 [(0, .ref a0), (1, .int x1), (2, .int x2), (4, .int z4)] [] h (k108 z4) out) : ∀ (n : Nat) (x4 : Int32), J p l e ({ frames := 7, cells := 0, slots := 0, locals := 225 }) s m args below meth c Q w 6 0 0 90 [(0, .ref a0), (1, .int x1), (2, .int x2), (4, .int x4)] [] h (f_Md_kindAt_b90 w fl a0 x1 x2 h k108 n x4) out := by
  intro n
  induction n with
  | zero => intro x4; exact j_none
  | succ n ih =>
    intro x4
    rw [f_Md_kindAt_b90]
    refine j_aload_n C dX13_kindAt_90 (i := 0) rfl rfl ?_
    refine j_iload C dX13_kindAt_91 rfl ?_
    refine j_callVi C (As := [.int _]) (rest := []) k_X13_82 ⟨Nat.le_of_ble_eq_true rfl, Nat.le_of_ble_eq_true rfl⟩ rfl (Nat.le_of_ble_eq_true rfl) ⟨Nat.le_of_ble_eq_true rfl, Nat.le_of_ble_eq_true rfl⟩ rfl dX13_kindAt_93 (fun r0 q0 => c_Md_byteOf l w _ _ _ _ q0) (fun r1047 er1047 nr1047 => ?_)
    refine j_callSi C (As := [.int _]) (rest := []) k_X13_90 ⟨Nat.le_of_ble_eq_true rfl, Nat.le_of_ble_eq_true rfl⟩ rfl (Nat.le_of_ble_eq_true rfl) ⟨Nat.le_of_ble_eq_true rfl, Nat.le_of_ble_eq_true rfl⟩ rfl dX13_kindAt_96 (fun r0 q0 => c_Md_isDigit l w _ _ _ q0) (fun r1048 er1048 nr1048 => ?_)
    refine j_ifeq C (tgt := 108) dX13_kindAt_99 (by decide) (fun q1049 => ?_) (fun q1049 => ?_)
    · exact hk108 _
    · refine j_iinc C (v := x4 + 1) [(4, _), (0, _), (1, _), (2, _)] dX13_kindAt_102 rfl rfl (by decide) rfl ?_
      refine j_goto C (tgt := 90) dX13_kindAt_105 (by decide) ?_
      exact j_sub [1, 2, 3, 0] rfl (ih _)
set_option maxRecDepth 100000 in
set_option maxHeartbeats 4000000 in
theorem b_Md_kindAt_18 {p : Program} {l : Launch} {e : Env} {s : State} {m : MethodId} {args : Array Value} {below : List Frame} {meth : Method} {c : Code} {Q : State → Prop} {w : hp_W} {out : Int32 × hp_M} (fl : Nat)   (a0 : Nat) (x1 : Int32) (x2 : Int32) (h : hp_M) (k48 : Int32 → Option (Int32 × hp_M)) (C : Cx p m c cX13_kindAt 6 s args RX13 w) (hr : meth.sig.returnType = some .int) (hlk : meth.locks = false) (hnm : meth.name = "kindAt") (hQ : QM below w args s ({ frames := 7, cells := 0, slots := 0, locals := 225 }) (some .int) (some (.int out.1)) out.2 = Q) (hk48 : ∀ (z4 : Int32), J p l e ({ frames := 7, cells := 0, slots := 0, locals := 225 }) s m args below meth c Q w 6 0 0 48 [(0, .ref a0), (1, .int x1), (2, .int x2), (4, .int z4)] [] h (k48 z4) out) : ∀ (n : Nat) (x4 : Int32), J p l e ({ frames := 7, cells := 0, slots := 0, locals := 225 }) s m args below meth c Q w 6 0 0 18 [(0, .ref a0), (1, .int x1), (2, .int x2), (4, .int x4)] [] h (f_Md_kindAt_b18 w fl a0 x1 x2 h k48 n x4) out := by
  intro n
  induction n with
  | zero => intro x4; exact j_none
  | succ n ih =>
    intro x4
    rw [f_Md_kindAt_b18]
    refine j_jn (P := fun j1057 => J p l e ({ frames := 7, cells := 0, slots := 0, locals := 225 }) s m args below meth c Q w 6 0 0 42 [(0, .ref a0), (1, .int x1), (2, .int x2), (4, .int x4)] [] h (j1057) out) ?_ (fun j1057 hj1057 => ?_)
    · refine j_iinc C (v := x4 + 1) [(4, _), (0, _), (1, _), (2, _)] dX13_kindAt_42 rfl rfl (by decide) rfl ?_
      refine j_goto C (tgt := 18) dX13_kindAt_45 (by decide) ?_
      exact j_sub [1, 2, 3, 0] rfl (ih _)
    · refine j_aload_n C dX13_kindAt_18 (i := 0) rfl rfl ?_
      refine j_iload C dX13_kindAt_19 rfl ?_
      refine j_callVi C (As := [.int _]) (rest := []) k_X13_82 ⟨Nat.le_of_ble_eq_true rfl, Nat.le_of_ble_eq_true rfl⟩ rfl (Nat.le_of_ble_eq_true rfl) ⟨Nat.le_of_ble_eq_true rfl, Nat.le_of_ble_eq_true rfl⟩ rfl dX13_kindAt_21 (fun r0 q0 => c_Md_byteOf l w _ _ _ _ q0) (fun r1058 er1058 nr1058 => ?_)
      refine j_callSi C (As := [.int _]) (rest := []) k_X13_86 ⟨Nat.le_of_ble_eq_true rfl, Nat.le_of_ble_eq_true rfl⟩ rfl (Nat.le_of_ble_eq_true rfl) ⟨Nat.le_of_ble_eq_true rfl, Nat.le_of_ble_eq_true rfl⟩ rfl dX13_kindAt_24 (fun r0 q0 => c_Md_isLetter l w _ _ _ q0) (fun r1059 er1059 nr1059 => ?_)
      refine j_ifne C (tgt := 42) dX13_kindAt_27 (by decide) (fun q1060 => ?_) (fun q1060 => ?_)
      · refine j_aload_n C dX13_kindAt_30 (i := 0) rfl rfl ?_
        refine j_iload C dX13_kindAt_31 rfl ?_
        refine j_callVi C (As := [.int _]) (rest := []) k_X13_82 ⟨Nat.le_of_ble_eq_true rfl, Nat.le_of_ble_eq_true rfl⟩ rfl (Nat.le_of_ble_eq_true rfl) ⟨Nat.le_of_ble_eq_true rfl, Nat.le_of_ble_eq_true rfl⟩ rfl dX13_kindAt_33 (fun r0 q0 => c_Md_byteOf l w _ _ _ _ q0) (fun r1061 er1061 nr1061 => ?_)
        refine j_callSi C (As := [.int _]) (rest := []) k_X13_90 ⟨Nat.le_of_ble_eq_true rfl, Nat.le_of_ble_eq_true rfl⟩ rfl (Nat.le_of_ble_eq_true rfl) ⟨Nat.le_of_ble_eq_true rfl, Nat.le_of_ble_eq_true rfl⟩ rfl dX13_kindAt_36 (fun r0 q0 => c_Md_isDigit l w _ _ _ q0) (fun r1062 er1062 nr1062 => ?_)
        refine j_ifeq C (tgt := 48) dX13_kindAt_39 (by decide) (fun q1063 => ?_) (fun q1063 => ?_)
        · exact hk48 _
        · exact hj1057
      · exact hj1057
set_option maxRecDepth 100000 in
set_option maxHeartbeats 4000000 in
theorem c_Md_kindAt (l : Launch) (w : hp_W) (fl : Nat) (a0 : Nat) (x1 : Int32) (x2 : Int32) (h : hp_M) (out : Int32 × hp_M) (hX : f_Md_kindAt w fl a0 x1 x2 h = some out) : CT l w yX13_kindAt cX13_kindAt 6 (some .int) ({ frames := 7, cells := 0, slots := 0, locals := 225 }) [.ref a0, .int x1, .int x2] h (some (.int out.1)) out.2 := by
  unfold f_Md_kindAt at hX
  refine ct_of (by decide +kernel) (Nat.le_of_ble_eq_true rfl) hX ?_
  intro p e s m args below meth c Q C hr hlk hnm hQ
  refine j_aload_n C dX13_kindAt_0 (i := 0) rfl rfl ?_
  refine j_iload_n C dX13_kindAt_1 (i := 1) rfl rfl ?_
  refine j_callVi C (As := [.int _]) (rest := []) k_X13_82 ⟨Nat.le_of_ble_eq_true rfl, Nat.le_of_ble_eq_true rfl⟩ rfl (Nat.le_of_ble_eq_true rfl) ⟨Nat.le_of_ble_eq_true rfl, Nat.le_of_ble_eq_true rfl⟩ rfl dX13_kindAt_2 (fun r0 q0 => c_Md_byteOf l w _ _ _ _ q0) (fun r1 er1 nr1 => ?_)
  refine j_istore_n C [(3, _), (0, _), (1, _), (2, _)] dX13_kindAt_5 (i := 3) rfl (by decide) rfl ?_
  refine j_iload_n C dX13_kindAt_6 (i := 1) rfl rfl ?_
  refine j_iconst C (v := 1) dX13_kindAt_7 (by decide) ?_
  refine j_iadd C dX13_kindAt_8 ?_
  refine j_istore C [(4, _), (3, _), (0, _), (1, _), (2, _)] dX13_kindAt_9 (by decide) rfl ?_
  refine j_iload_n C dX13_kindAt_11 (i := 3) rfl rfl ?_
  refine j_callSi C (As := [.int _]) (rest := []) k_X13_86 ⟨Nat.le_of_ble_eq_true rfl, Nat.le_of_ble_eq_true rfl⟩ rfl (Nat.le_of_ble_eq_true rfl) ⟨Nat.le_of_ble_eq_true rfl, Nat.le_of_ble_eq_true rfl⟩ rfl dX13_kindAt_12 (fun r0 q0 => c_Md_isLetter l w _ _ _ q0) (fun r2 er2 nr2 => ?_)
  refine j_ifeq C (tgt := 83) dX13_kindAt_15 (by decide) (fun q3 => ?_) (fun q3 => ?_)
  · refine j_iload_n C dX13_kindAt_83 (i := 3) rfl rfl ?_
    refine j_callSi C (As := [.int _]) (rest := []) k_X13_90 ⟨Nat.le_of_ble_eq_true rfl, Nat.le_of_ble_eq_true rfl⟩ rfl (Nat.le_of_ble_eq_true rfl) ⟨Nat.le_of_ble_eq_true rfl, Nat.le_of_ble_eq_true rfl⟩ rfl dX13_kindAt_84 (fun r0 q0 => c_Md_isDigit l w _ _ _ q0) (fun r4 er4 nr4 => ?_)
    refine j_ifeq C (tgt := 136) dX13_kindAt_87 (by decide) (fun q5 => ?_) (fun q5 => ?_)
    · refine j_jn (P := fun (j7 : Int32 → Option (Int32 × hp_M)) => ∀ (u8 : Int32), J p l e ({ frames := 7, cells := 0, slots := 0, locals := 225 }) s m args below meth c Q w 6 0 0 164 [(0, .ref a0), (2, .int x2), (3, .int r1)] [.int u8] h (j7 u8) out) ?_ (fun j7 hj7 => ?_)
      · intro u8
        refine j_jn (P := fun (j10 : Int32 → Int32 → Int32 → Nat → Option (Int32 × hp_M)) => ∀ (u11 : Int32) (u12 : Int32) (u13 : Int32) (u14 : Nat), J p l e ({ frames := 7, cells := 0, slots := 0, locals := 225 }) s m args below meth c Q w 6 0 0 181 [(3, .int r1), (5, .int u11)] [.int u12, .int u13, .ref u14] h (j10 u11 u12 u13 u14) out) ?_ (fun j10 hj10 => ?_)
        · intro u11 u12 u13 u14
          refine j_iastore C dX13_kindAt_181 (fun h15 eh15 => ?_)
          refine j_iload C dX13_kindAt_182 rfl ?_
          refine j_ifeq C (tgt := 203) dX13_kindAt_184 (by decide) (fun q16 => ?_) (fun q16 => ?_)
          · refine j_iload_n C dX13_kindAt_203 (i := 3) rfl rfl ?_
            refine j_iconst C (v := -1) dX13_kindAt_204 (by decide) ?_
            refine j_icmpne C (tgt := 212) dX13_kindAt_205 (by decide) (fun q17 => ?_) (fun q17 => ?_)
            · refine j_sipush C (v := 900) dX13_kindAt_208 (by decide) ?_
              exact e_iretM C hQ hr rfl hlk dX13_kindAt_211 (Nat.le_of_ble_eq_true rfl) (Nat.le_of_ble_eq_true rfl)
            · refine j_jn (P := fun j18 => J p l e ({ frames := 7, cells := 0, slots := 0, locals := 225 }) s m args below meth c Q w 6 0 0 296 [(3, .int r1)] [] h15 (j18) out) ?_ (fun j18 hj18 => ?_)
              · refine j_bipush C (v := 32) dX13_kindAt_296 (by decide) ?_
                refine j_iload_n C dX13_kindAt_298 (i := 3) rfl rfl ?_
                refine j_iadd C dX13_kindAt_299 ?_
                refine j_goto C (tgt := 306) dX13_kindAt_300 (by decide) ?_
                exact e_iretM C hQ hr rfl hlk dX13_kindAt_306 (Nat.le_of_ble_eq_true rfl) (Nat.le_of_ble_eq_true rfl)
              · refine j_iload_n C dX13_kindAt_212 (i := 3) rfl rfl ?_
                refine j_bipush C (v := 40) dX13_kindAt_213 (by decide) ?_
                refine j_icmpeq C (tgt := 296) dX13_kindAt_215 (by decide) (fun q19 => ?_) (fun q19 => ?_)
                · exact j_sub [0] rfl (hj18)
                · refine j_iload_n C dX13_kindAt_218 (i := 3) rfl rfl ?_
                  refine j_bipush C (v := 41) dX13_kindAt_219 (by decide) ?_
                  refine j_icmpeq C (tgt := 296) dX13_kindAt_221 (by decide) (fun q20 => ?_) (fun q20 => ?_)
                  · exact j_sub [0] rfl (hj18)
                  · refine j_iload_n C dX13_kindAt_224 (i := 3) rfl rfl ?_
                    refine j_bipush C (v := 91) dX13_kindAt_225 (by decide) ?_
                    refine j_icmpeq C (tgt := 296) dX13_kindAt_227 (by decide) (fun q21 => ?_) (fun q21 => ?_)
                    · exact j_sub [0] rfl (hj18)
                    · refine j_iload_n C dX13_kindAt_230 (i := 3) rfl rfl ?_
                      refine j_bipush C (v := 93) dX13_kindAt_231 (by decide) ?_
                      refine j_icmpeq C (tgt := 296) dX13_kindAt_233 (by decide) (fun q22 => ?_) (fun q22 => ?_)
                      · exact j_sub [0] rfl (hj18)
                      · refine j_iload_n C dX13_kindAt_236 (i := 3) rfl rfl ?_
                        refine j_bipush C (v := 59) dX13_kindAt_237 (by decide) ?_
                        refine j_icmpeq C (tgt := 296) dX13_kindAt_239 (by decide) (fun q23 => ?_) (fun q23 => ?_)
                        · exact j_sub [0] rfl (hj18)
                        · refine j_iload_n C dX13_kindAt_242 (i := 3) rfl rfl ?_
                          refine j_bipush C (v := 44) dX13_kindAt_243 (by decide) ?_
                          refine j_icmpeq C (tgt := 296) dX13_kindAt_245 (by decide) (fun q24 => ?_) (fun q24 => ?_)
                          · exact j_sub [0] rfl (hj18)
                          · refine j_iload_n C dX13_kindAt_248 (i := 3) rfl rfl ?_
                            refine j_bipush C (v := 43) dX13_kindAt_249 (by decide) ?_
                            refine j_icmpeq C (tgt := 296) dX13_kindAt_251 (by decide) (fun q25 => ?_) (fun q25 => ?_)
                            · exact j_sub [0] rfl (hj18)
                            · refine j_iload_n C dX13_kindAt_254 (i := 3) rfl rfl ?_
                              refine j_bipush C (v := 45) dX13_kindAt_255 (by decide) ?_
                              refine j_icmpeq C (tgt := 296) dX13_kindAt_257 (by decide) (fun q26 => ?_) (fun q26 => ?_)
                              · exact j_sub [0] rfl (hj18)
                              · refine j_iload_n C dX13_kindAt_260 (i := 3) rfl rfl ?_
                                refine j_bipush C (v := 42) dX13_kindAt_261 (by decide) ?_
                                refine j_icmpeq C (tgt := 296) dX13_kindAt_263 (by decide) (fun q27 => ?_) (fun q27 => ?_)
                                · exact j_sub [0] rfl (hj18)
                                · refine j_iload_n C dX13_kindAt_266 (i := 3) rfl rfl ?_
                                  refine j_bipush C (v := 47) dX13_kindAt_267 (by decide) ?_
                                  refine j_icmpeq C (tgt := 296) dX13_kindAt_269 (by decide) (fun q28 => ?_) (fun q28 => ?_)
                                  · exact j_sub [0] rfl (hj18)
                                  · refine j_iload_n C dX13_kindAt_272 (i := 3) rfl rfl ?_
                                    refine j_bipush C (v := 37) dX13_kindAt_273 (by decide) ?_
                                    refine j_icmpeq C (tgt := 296) dX13_kindAt_275 (by decide) (fun q29 => ?_) (fun q29 => ?_)
                                    · exact j_sub [0] rfl (hj18)
                                    · refine j_iload_n C dX13_kindAt_278 (i := 3) rfl rfl ?_
                                      refine j_bipush C (v := 60) dX13_kindAt_279 (by decide) ?_
                                      refine j_icmpeq C (tgt := 296) dX13_kindAt_281 (by decide) (fun q30 => ?_) (fun q30 => ?_)
                                      · exact j_sub [0] rfl (hj18)
                                      · refine j_iload_n C dX13_kindAt_284 (i := 3) rfl rfl ?_
                                        refine j_bipush C (v := 62) dX13_kindAt_285 (by decide) ?_
                                        refine j_icmpeq C (tgt := 296) dX13_kindAt_287 (by decide) (fun q31 => ?_) (fun q31 => ?_)
                                        · exact j_sub [0] rfl (hj18)
                                        · refine j_iload_n C dX13_kindAt_290 (i := 3) rfl rfl ?_
                                          refine j_bipush C (v := 61) dX13_kindAt_291 (by decide) ?_
                                          refine j_icmpne C (tgt := 303) dX13_kindAt_293 (by decide) (fun q32 => ?_) (fun q32 => ?_)
                                          · exact j_sub [0] rfl (hj18)
                                          · refine j_sipush C (v := 901) dX13_kindAt_303 (by decide) ?_
                                            exact e_iretM C hQ hr rfl hlk dX13_kindAt_306 (Nat.le_of_ble_eq_true rfl) (Nat.le_of_ble_eq_true rfl)
          · refine j_iload_n C dX13_kindAt_187 (i := 3) rfl rfl ?_
            refine j_bipush C (v := 60) dX13_kindAt_188 (by decide) ?_
            refine j_icmpne C (tgt := 199) dX13_kindAt_190 (by decide) (fun q33 => ?_) (fun q33 => ?_)
            · refine j_sipush C (v := 800) dX13_kindAt_193 (by decide) ?_
              refine j_goto C (tgt := 202) dX13_kindAt_196 (by decide) ?_
              exact e_iretM C hQ hr rfl hlk dX13_kindAt_202 (Nat.le_of_ble_eq_true rfl) (Nat.le_of_ble_eq_true rfl)
            · refine j_sipush C (v := 801) dX13_kindAt_199 (by decide) ?_
              exact e_iretM C hQ hr rfl hlk dX13_kindAt_202 (Nat.le_of_ble_eq_true rfl) (Nat.le_of_ble_eq_true rfl)
        · refine j_istore C [(5, _), (0, _), (2, _), (3, _)] dX13_kindAt_164 (by decide) rfl ?_
          refine j_aload_n C dX13_kindAt_166 (i := 0) rfl rfl ?_
          refine j_getR C g_X13_23 dX13_kindAt_167 (fun v34 ev34 => ?_)
          refine j_iload_n C dX13_kindAt_170 (i := 2) rfl rfl ?_
          refine j_iload C dX13_kindAt_171 rfl ?_
          refine j_ifeq C (tgt := 180) dX13_kindAt_173 (by decide) (fun q35 => ?_) (fun q35 => ?_)
          · refine j_iconst C (v := 1) dX13_kindAt_180 (by decide) ?_
            exact j_sub [3, 0] rfl (hj10 _ _ _ _)
          · refine j_iconst C (v := 2) dX13_kindAt_176 (by decide) ?_
            refine j_goto C (tgt := 181) dX13_kindAt_177 (by decide) ?_
            exact j_sub [3, 0] rfl (hj10 _ _ _ _)
      · refine j_jn (P := fun j39 => J p l e ({ frames := 7, cells := 0, slots := 0, locals := 225 }) s m args below meth c Q w 6 0 0 163 [(0, .ref a0), (2, .int x2), (3, .int r1)] [] h (j39) out) ?_ (fun j39 hj39 => ?_)
        · refine j_iconst C (v := 0) dX13_kindAt_163 (by decide) ?_
          exact hj7 _
        · refine j_jn (P := fun j40 => J p l e ({ frames := 7, cells := 0, slots := 0, locals := 225 }) s m args below meth c Q w 6 0 0 148 [(0, .ref a0), (2, .int x2), (3, .int r1), (4, .int (x1 + 1))] [] h (j40) out) ?_ (fun j40 hj40 => ?_)
          · refine j_aload_n C dX13_kindAt_148 (i := 0) rfl rfl ?_
            refine j_iload C dX13_kindAt_149 rfl ?_
            refine j_callVi C (As := [.int _]) (rest := []) k_X13_82 ⟨Nat.le_of_ble_eq_true rfl, Nat.le_of_ble_eq_true rfl⟩ rfl (Nat.le_of_ble_eq_true rfl) ⟨Nat.le_of_ble_eq_true rfl, Nat.le_of_ble_eq_true rfl⟩ rfl dX13_kindAt_151 (fun r0 q0 => c_Md_byteOf l w _ _ _ _ q0) (fun r41 er41 nr41 => ?_)
            refine j_bipush C (v := 61) dX13_kindAt_154 (by decide) ?_
            refine j_icmpne C (tgt := 163) dX13_kindAt_156 (by decide) (fun q42 => ?_) (fun q42 => ?_)
            · refine j_iconst C (v := 1) dX13_kindAt_159 (by decide) ?_
              refine j_goto C (tgt := 164) dX13_kindAt_160 (by decide) ?_
              exact j_sub [0, 1, 2] rfl (hj7 _)
            · exact j_sub [0, 1, 2] rfl (hj39)
          · refine j_iload_n C dX13_kindAt_136 (i := 3) rfl rfl ?_
            refine j_bipush C (v := 60) dX13_kindAt_137 (by decide) ?_
            refine j_icmpeq C (tgt := 148) dX13_kindAt_139 (by decide) (fun q43 => ?_) (fun q43 => ?_)
            · exact j_sub [2, 4, 1, 0] rfl (hj40)
            · refine j_iload_n C dX13_kindAt_142 (i := 3) rfl rfl ?_
              refine j_bipush C (v := 62) dX13_kindAt_143 (by decide) ?_
              refine j_icmpne C (tgt := 163) dX13_kindAt_145 (by decide) (fun q44 => ?_) (fun q44 => ?_)
              · exact j_sub [2, 4, 1, 0] rfl (hj40)
              · exact j_sub [2, 4, 1] rfl (hj39)
    · refine j_sub [2, 3, 4, 0] rfl (b_Md_kindAt_90 fl  _ _ _ _ _ C hr hlk hnm hQ (fun u45 => ?_) _ _)
      refine j_aload_n C dX13_kindAt_108 (i := 0) rfl rfl ?_
      refine j_getR C g_X13_23 dX13_kindAt_109 (fun v46 ev46 => ?_)
      refine j_iload_n C dX13_kindAt_112 (i := 2) rfl rfl ?_
      refine j_iload C dX13_kindAt_113 rfl ?_
      refine j_iload_n C dX13_kindAt_115 (i := 1) rfl rfl ?_
      refine j_isub C dX13_kindAt_116 ?_
      refine j_iastore C dX13_kindAt_117 (fun h47 eh47 => ?_)
      refine j_iload C dX13_kindAt_118 rfl ?_
      refine j_iload_n C dX13_kindAt_120 (i := 1) rfl rfl ?_
      refine j_isub C dX13_kindAt_121 ?_
      refine j_bipush C (v := 6) dX13_kindAt_122 (by decide) ?_
      refine j_icmple C (tgt := 133) dX13_kindAt_124 (by decide) (fun q48 => ?_) (fun q48 => ?_)
      · refine j_bipush C (v := 31) dX13_kindAt_133 (by decide) ?_
        exact e_iretM C hQ hr rfl hlk dX13_kindAt_135 (Nat.le_of_ble_eq_true rfl) (Nat.le_of_ble_eq_true rfl)
      · refine j_sipush C (v := 901) dX13_kindAt_127 (by decide) ?_
        refine j_goto C (tgt := 135) dX13_kindAt_130 (by decide) ?_
        exact e_iretM C hQ hr rfl hlk dX13_kindAt_135 (Nat.le_of_ble_eq_true rfl) (Nat.le_of_ble_eq_true rfl)
  · refine j_sub [2, 3, 4, 0] rfl (b_Md_kindAt_18 fl  _ _ _ _ _ C hr hlk hnm hQ (fun u49 => ?_) _ _)
    refine j_aload_n C dX13_kindAt_48 (i := 0) rfl rfl ?_
    refine j_getR C g_X13_23 dX13_kindAt_49 (fun v50 ev50 => ?_)
    refine j_iload_n C dX13_kindAt_52 (i := 2) rfl rfl ?_
    refine j_iload C dX13_kindAt_53 rfl ?_
    refine j_iload_n C dX13_kindAt_55 (i := 1) rfl rfl ?_
    refine j_isub C dX13_kindAt_56 ?_
    refine j_iastore C dX13_kindAt_57 (fun h51 eh51 => ?_)
    refine j_iload C dX13_kindAt_58 rfl ?_
    refine j_iload_n C dX13_kindAt_60 (i := 1) rfl rfl ?_
    refine j_isub C dX13_kindAt_61 ?_
    refine j_bipush C (v := 12) dX13_kindAt_62 (by decide) ?_
    refine j_icmple C (tgt := 73) dX13_kindAt_64 (by decide) (fun q52 => ?_) (fun q52 => ?_)
    · refine j_aload_n C dX13_kindAt_73 (i := 0) rfl rfl ?_
      refine j_iload_n C dX13_kindAt_74 (i := 1) rfl rfl ?_
      refine j_iload C dX13_kindAt_75 rfl ?_
      refine j_iload_n C dX13_kindAt_77 (i := 1) rfl rfl ?_
      refine j_isub C dX13_kindAt_78 ?_
      refine j_callVi C (As := [.int _, .int _]) (rest := []) k_X13_93 ⟨Nat.le_of_ble_eq_true rfl, Nat.le_of_ble_eq_true rfl⟩ rfl (Nat.le_of_ble_eq_true rfl) ⟨Nat.le_of_ble_eq_true rfl, Nat.le_of_ble_eq_true rfl⟩ rfl dX13_kindAt_79 (fun r0 q0 => c_Md_word l w fl _ _ _ _ _ q0) (fun r53 er53 nr53 => ?_)
      exact e_iretM C hQ hr rfl hlk dX13_kindAt_82 (Nat.le_of_ble_eq_true rfl) (Nat.le_of_ble_eq_true rfl)
    · refine j_sipush C (v := 901) dX13_kindAt_67 (by decide) ?_
      refine j_goto C (tgt := 82) dX13_kindAt_70 (by decide) ?_
      exact e_iretM C hQ hr rfl hlk dX13_kindAt_82 (Nat.le_of_ble_eq_true rfl) (Nat.le_of_ble_eq_true rfl)
def f_Md_cutIntoTokens_b11 (w : hp_W) (fl : Nat) (a0 : Nat) (x2 : Int32) (h : hp_M) (k37 : Int32 → Option (hp_M)) : Nat → Int32 → Option (hp_M)
  | 0, _ => none
  | n + 1, x1 => jn (f_Md_cutIntoTokens_b11 w fl a0 x2 h k37 n (x1 + 1)) fun (j2006 : Option (hp_M)) => (onO h a0 12 (f_Md_byteOf a0 x1 h)).bind fun r2007 => if r2007 = 32 then (j2006) else ((onO h a0 12 (f_Md_byteOf a0 x1 h)).bind fun r2009 => if r2009 = 10 then (j2006) else (k37 x1))
def f_Md_cutIntoTokens_b4 (w : hp_W) (fl : Nat) (a0 : Nat) : Nat → Int32 → Int32 → hp_M → Option (hp_M)
  | 0, _, _, _ => none
  | n + 1, x1, x2, h => if 400 < x2 then (some h) else (f_Md_cutIntoTokens_b11 w fl a0 x2 h (fun (u1002 : Int32) => jn (fun (h1017 : hp_M) => (gR h1017 a0 12 4).bind fun v1018 => (gaI h1017 v1018 x2).bind fun v1019 => if v1019 < 900 then ((gR h1017 a0 12 6).bind fun v1021 => (gaI h1017 v1021 x2).bind fun v1022 => f_Md_cutIntoTokens_b4 w fl a0 n (u1002 + v1022) (x2 + 1) h1017) else (some h1017)) fun (j1016 : hp_M → Option (hp_M)) => (gR h a0 12 5).bind fun v1023 => (paI h v1023 x2 u1002).bind fun h1024 => (gR h1024 a0 12 7).bind fun v1025 => (paI h1024 v1025 x2 0).bind fun h1026 => (gR h1026 a0 12 8).bind fun v1027 => (paI h1026 v1027 x2 0).bind fun h1028 => (gR h1028 a0 12 4).bind fun v1029 => (onO h1028 a0 12 (f_Md_kindAt w fl a0 u1002 x2 h1028)).bind fun r1030 => (paI r1030.2 v1029 x2 r1030.1).bind fun h1031 => if x2 = 400 then ((gR h1031 a0 12 4).bind fun v1033 => (gaI h1031 v1033 x2).bind fun v1034 => if v1034 = 900 then (j1016 h1031) else ((gR h1031 a0 12 4).bind fun v1036 => (paI h1031 v1036 x2 901).bind fun h1037 => j1016 h1037)) else (j1016 h1031)) fl x1)
def f_Md_cutIntoTokens (w : hp_W) (fl : Nat) (a0 : Nat) (h : hp_M) : Option (hp_M) := f_Md_cutIntoTokens_b4 w fl a0 fl 0 0 h
set_option maxRecDepth 100000 in
set_option maxHeartbeats 4000000 in
theorem b_Md_cutIntoTokens_11 {p : Program} {l : Launch} {e : Env} {s : State} {m : MethodId} {args : Array Value} {below : List Frame} {meth : Method} {c : Code} {Q : State → Prop} {w : hp_W} {out : hp_M} (fl : Nat)   (a0 : Nat) (x2 : Int32) (h : hp_M) (k37 : Int32 → Option (hp_M)) (C : Cx p m c cX13_cutIntoTokens 3 s args RX13 w) (hr : meth.sig.returnType = none) (hlk : meth.locks = false) (hnm : meth.name = "cutIntoTokens") (hQ : QM below w args s ({ frames := 8, cells := 0, slots := 0, locals := 250 }) none none out = Q) (hk37 : ∀ (z1 : Int32), J p l e ({ frames := 8, cells := 0, slots := 0, locals := 250 }) s m args below meth c Q w 3 0 0 37 [(0, .ref a0), (1, .int z1), (2, .int x2)] [] h (k37 z1) out) : ∀ (n : Nat) (x1 : Int32), J p l e ({ frames := 8, cells := 0, slots := 0, locals := 250 }) s m args below meth c Q w 3 0 0 11 [(0, .ref a0), (1, .int x1), (2, .int x2)] [] h (f_Md_cutIntoTokens_b11 w fl a0 x2 h k37 n x1) out := by
  intro n
  induction n with
  | zero => intro x1; exact j_none
  | succ n ih =>
    intro x1
    rw [f_Md_cutIntoTokens_b11]
    refine j_jn (P := fun j2006 => J p l e ({ frames := 8, cells := 0, slots := 0, locals := 250 }) s m args below meth c Q w 3 0 0 31 [(0, .ref a0), (1, .int x1), (2, .int x2)] [] h (j2006) out) ?_ (fun j2006 hj2006 => ?_)
    · refine j_iinc C (v := x1 + 1) [(1, _), (0, _), (2, _)] dX13_cutIntoTokens_31 rfl rfl (by decide) rfl ?_
      refine j_goto C (tgt := 11) dX13_cutIntoTokens_34 (by decide) ?_
      exact j_sub [1, 0, 2] rfl (ih _)
    · refine j_aload_n C dX13_cutIntoTokens_11 (i := 0) rfl rfl ?_
      refine j_iload_n C dX13_cutIntoTokens_12 (i := 1) rfl rfl ?_
      refine j_callVi C (As := [.int _]) (rest := []) k_X13_82 ⟨Nat.le_of_ble_eq_true rfl, Nat.le_of_ble_eq_true rfl⟩ rfl (Nat.le_of_ble_eq_true rfl) ⟨Nat.le_of_ble_eq_true rfl, Nat.le_of_ble_eq_true rfl⟩ rfl dX13_cutIntoTokens_13 (fun r0 q0 => c_Md_byteOf l w _ _ _ _ q0) (fun r2007 er2007 nr2007 => ?_)
      refine j_bipush C (v := 32) dX13_cutIntoTokens_16 (by decide) ?_
      refine j_icmpeq C (tgt := 31) dX13_cutIntoTokens_18 (by decide) (fun q2008 => ?_) (fun q2008 => ?_)
      · exact hj2006
      · refine j_aload_n C dX13_cutIntoTokens_21 (i := 0) rfl rfl ?_
        refine j_iload_n C dX13_cutIntoTokens_22 (i := 1) rfl rfl ?_
        refine j_callVi C (As := [.int _]) (rest := []) k_X13_82 ⟨Nat.le_of_ble_eq_true rfl, Nat.le_of_ble_eq_true rfl⟩ rfl (Nat.le_of_ble_eq_true rfl) ⟨Nat.le_of_ble_eq_true rfl, Nat.le_of_ble_eq_true rfl⟩ rfl dX13_cutIntoTokens_23 (fun r0 q0 => c_Md_byteOf l w _ _ _ _ q0) (fun r2009 er2009 nr2009 => ?_)
        refine j_bipush C (v := 10) dX13_cutIntoTokens_26 (by decide) ?_
        refine j_icmpne C (tgt := 37) dX13_cutIntoTokens_28 (by decide) (fun q2010 => ?_) (fun q2010 => ?_)
        · exact hj2006
        · exact hk37 _
set_option maxRecDepth 100000 in
set_option maxHeartbeats 4000000 in
theorem b_Md_cutIntoTokens_4 {p : Program} {l : Launch} {e : Env} {s : State} {m : MethodId} {args : Array Value} {below : List Frame} {meth : Method} {c : Code} {Q : State → Prop} {w : hp_W} {out : hp_M} (fl : Nat)   (a0 : Nat) (C : Cx p m c cX13_cutIntoTokens 3 s args RX13 w) (hr : meth.sig.returnType = none) (hlk : meth.locks = false) (hnm : meth.name = "cutIntoTokens") (hQ : QM below w args s ({ frames := 8, cells := 0, slots := 0, locals := 250 }) none none out = Q)  : ∀ (n : Nat) (x1 : Int32) (x2 : Int32) (h : hp_M), J p l e ({ frames := 8, cells := 0, slots := 0, locals := 250 }) s m args below meth c Q w 3 0 0 4 [(0, .ref a0), (1, .int x1), (2, .int x2)] [] h (f_Md_cutIntoTokens_b4 w fl a0 n x1 x2 h) out := by
  intro n
  induction n with
  | zero => intro x1 x2 h; exact j_none
  | succ n ih =>
    intro x1 x2 h
    rw [f_Md_cutIntoTokens_b4]
    refine j_iload_n C dX13_cutIntoTokens_4 (i := 2) rfl rfl ?_
    refine j_sipush C (v := 400) dX13_cutIntoTokens_5 (by decide) ?_
    refine j_icmpgt C (tgt := 126) dX13_cutIntoTokens_8 (by decide) (fun q1001 => ?_) (fun q1001 => ?_)
    · exact e_vretM C hQ hr hlk dX13_cutIntoTokens_126 (Nat.le_of_ble_eq_true rfl) (Nat.le_of_ble_eq_true rfl)
    · refine j_sub [0, 1, 2] rfl (b_Md_cutIntoTokens_11 fl  _ _ _ _ C hr hlk hnm hQ (fun u1002 => ?_) _ _)
      refine j_jn (P := fun (j1016 : hp_M → Option (hp_M)) => ∀ (h1017 : hp_M), J p l e ({ frames := 8, cells := 0, slots := 0, locals := 250 }) s m args below meth c Q w 3 0 0 98 [(0, .ref a0), (1, .int u1002), (2, .int x2)] [] h1017 (j1016 h1017) out) ?_ (fun j1016 hj1016 => ?_)
      · intro h1017
        refine j_aload_n C dX13_cutIntoTokens_98 (i := 0) rfl rfl ?_
        refine j_getR C g_X13_17 dX13_cutIntoTokens_99 (fun v1018 ev1018 => ?_)
        refine j_iload_n C dX13_cutIntoTokens_102 (i := 2) rfl rfl ?_
        refine j_iaload C dX13_cutIntoTokens_103 (fun v1019 ev1019 => ?_)
        refine j_sipush C (v := 900) dX13_cutIntoTokens_104 (by decide) ?_
        refine j_icmplt C (tgt := 111) dX13_cutIntoTokens_107 (by decide) (fun q1020 => ?_) (fun q1020 => ?_)
        · refine j_iload_n C dX13_cutIntoTokens_111 (i := 1) rfl rfl ?_
          refine j_aload_n C dX13_cutIntoTokens_112 (i := 0) rfl rfl ?_
          refine j_getR C g_X13_23 dX13_cutIntoTokens_113 (fun v1021 ev1021 => ?_)
          refine j_iload_n C dX13_cutIntoTokens_116 (i := 2) rfl rfl ?_
          refine j_iaload C dX13_cutIntoTokens_117 (fun v1022 ev1022 => ?_)
          refine j_iadd C dX13_cutIntoTokens_118 ?_
          refine j_istore_n C [(1, _), (0, _), (2, _)] dX13_cutIntoTokens_119 (i := 1) rfl (by decide) rfl ?_
          refine j_iinc C (v := x2 + 1) [(2, _), (1, _), (0, _)] dX13_cutIntoTokens_120 rfl rfl (by decide) rfl ?_
          refine j_goto C (tgt := 4) dX13_cutIntoTokens_123 (by decide) ?_
          exact j_sub [2, 1, 0] rfl (ih _ _ _)
        · exact e_vretM C hQ hr hlk dX13_cutIntoTokens_110 (Nat.le_of_ble_eq_true rfl) (Nat.le_of_ble_eq_true rfl)
      · refine j_aload_n C dX13_cutIntoTokens_37 (i := 0) rfl rfl ?_
        refine j_getR C g_X13_20 dX13_cutIntoTokens_38 (fun v1023 ev1023 => ?_)
        refine j_iload_n C dX13_cutIntoTokens_41 (i := 2) rfl rfl ?_
        refine j_iload_n C dX13_cutIntoTokens_42 (i := 1) rfl rfl ?_
        refine j_iastore C dX13_cutIntoTokens_43 (fun h1024 eh1024 => ?_)
        refine j_aload_n C dX13_cutIntoTokens_44 (i := 0) rfl rfl ?_
        refine j_getR C g_X13_26 dX13_cutIntoTokens_45 (fun v1025 ev1025 => ?_)
        refine j_iload_n C dX13_cutIntoTokens_48 (i := 2) rfl rfl ?_
        refine j_iconst C (v := 0) dX13_cutIntoTokens_49 (by decide) ?_
        refine j_iastore C dX13_cutIntoTokens_50 (fun h1026 eh1026 => ?_)
        refine j_aload_n C dX13_cutIntoTokens_51 (i := 0) rfl rfl ?_
        refine j_getR C g_X13_29 dX13_cutIntoTokens_52 (fun v1027 ev1027 => ?_)
        refine j_iload_n C dX13_cutIntoTokens_55 (i := 2) rfl rfl ?_
        refine j_iconst C (v := 0) dX13_cutIntoTokens_56 (by decide) ?_
        refine j_iastore C dX13_cutIntoTokens_57 (fun h1028 eh1028 => ?_)
        refine j_aload_n C dX13_cutIntoTokens_58 (i := 0) rfl rfl ?_
        refine j_getR C g_X13_17 dX13_cutIntoTokens_59 (fun v1029 ev1029 => ?_)
        refine j_iload_n C dX13_cutIntoTokens_62 (i := 2) rfl rfl ?_
        refine j_aload_n C dX13_cutIntoTokens_63 (i := 0) rfl rfl ?_
        refine j_iload_n C dX13_cutIntoTokens_64 (i := 1) rfl rfl ?_
        refine j_iload_n C dX13_cutIntoTokens_65 (i := 2) rfl rfl ?_
        refine j_callVim C (As := [.int _, .int _]) (rest := [_, _]) k_X13_110 ⟨Nat.le_of_ble_eq_true rfl, Nat.le_of_ble_eq_true rfl⟩ rfl (Nat.le_of_ble_eq_true rfl) ⟨Nat.le_of_ble_eq_true rfl, Nat.le_of_ble_eq_true rfl⟩ rfl dX13_cutIntoTokens_66 (fun r0 q0 => c_Md_kindAt l w fl _ _ _ _ _ q0) (fun r1030 er1030 nr1030 => ?_)
        refine j_iastore C dX13_cutIntoTokens_69 (fun h1031 eh1031 => ?_)
        refine j_iload_n C dX13_cutIntoTokens_70 (i := 2) rfl rfl ?_
        refine j_sipush C (v := 400) dX13_cutIntoTokens_71 (by decide) ?_
        refine j_icmpne C (tgt := 98) dX13_cutIntoTokens_74 (by decide) (fun q1032 => ?_) (fun q1032 => ?_)
        · refine j_aload_n C dX13_cutIntoTokens_77 (i := 0) rfl rfl ?_
          refine j_getR C g_X13_17 dX13_cutIntoTokens_78 (fun v1033 ev1033 => ?_)
          refine j_iload_n C dX13_cutIntoTokens_81 (i := 2) rfl rfl ?_
          refine j_iaload C dX13_cutIntoTokens_82 (fun v1034 ev1034 => ?_)
          refine j_sipush C (v := 900) dX13_cutIntoTokens_83 (by decide) ?_
          refine j_icmpeq C (tgt := 98) dX13_cutIntoTokens_86 (by decide) (fun q1035 => ?_) (fun q1035 => ?_)
          · exact hj1016 _
          · refine j_aload_n C dX13_cutIntoTokens_89 (i := 0) rfl rfl ?_
            refine j_getR C g_X13_17 dX13_cutIntoTokens_90 (fun v1036 ev1036 => ?_)
            refine j_iload_n C dX13_cutIntoTokens_93 (i := 2) rfl rfl ?_
            refine j_sipush C (v := 901) dX13_cutIntoTokens_94 (by decide) ?_
            refine j_iastore C dX13_cutIntoTokens_97 (fun h1037 eh1037 => ?_)
            exact hj1016 _
        · exact hj1016 _
set_option maxRecDepth 100000 in
set_option maxHeartbeats 4000000 in
theorem c_Md_cutIntoTokens (l : Launch) (w : hp_W) (fl : Nat) (a0 : Nat) (h : hp_M) (out : hp_M) (hX : f_Md_cutIntoTokens w fl a0 h = some out) : CT l w yX13_cutIntoTokens cX13_cutIntoTokens 3 none ({ frames := 8, cells := 0, slots := 0, locals := 250 }) [.ref a0] h none out := by
  unfold f_Md_cutIntoTokens at hX
  refine ct_of (by decide +kernel) (Nat.le_of_ble_eq_true rfl) hX ?_
  intro p e s m args below meth c Q C hr hlk hnm hQ
  refine j_iconst C (v := 0) dX13_cutIntoTokens_0 (by decide) ?_
  refine j_istore_n C [(1, _), (0, _)] dX13_cutIntoTokens_1 (i := 1) rfl (by decide) rfl ?_
  refine j_iconst C (v := 0) dX13_cutIntoTokens_2 (by decide) ?_
  refine j_istore_n C [(2, _), (1, _), (0, _)] dX13_cutIntoTokens_3 (i := 2) rfl (by decide) rfl ?_
  refine j_sub [2, 1, 0] rfl (b_Md_cutIntoTokens_4 fl  _ C hr hlk hnm hQ  _ _ _ _)
def f_Md_is (a0 : Nat) (x1 : Int32) (h : hp_M) : Option (Int32) := (gR h a0 12 4).bind fun v1 => (gI h a0 12 9).bind fun v2 => (gaI h v1 v2).bind fun v3 => if v3 = x1 then (some 1) else (some 0)
set_option maxRecDepth 100000 in
set_option maxHeartbeats 4000000 in
theorem c_Md_is (l : Launch) (w : hp_W) (a0 : Nat) (x1 : Int32) (h : hp_M) (out : Int32) (hX : f_Md_is a0 x1 h = some out) : CT l w yX13_is cX13_is 2 (some .boolean) ({ frames := 0, cells := 0, slots := 0, locals := 0 }) [.ref a0, .int x1] h (some (.int out)) h := by
  unfold f_Md_is at hX
  refine ct_of (by decide +kernel) (Nat.le_of_ble_eq_true rfl) hX ?_
  intro p e s m args below meth c Q C hr hlk hnm hQ
  refine j_aload_n C dX13_is_0 (i := 0) rfl rfl ?_
  refine j_getR C g_X13_17 dX13_is_1 (fun v1 ev1 => ?_)
  refine j_aload_n C dX13_is_4 (i := 0) rfl rfl ?_
  refine j_getI C g_X13_113 dX13_is_5 (fun v2 ev2 => ?_)
  refine j_iaload C dX13_is_8 (fun v3 ev3 => ?_)
  refine j_iload_n C dX13_is_9 (i := 1) rfl rfl ?_
  refine j_icmpne C (tgt := 17) dX13_is_10 (by decide) (fun q4 => ?_) (fun q4 => ?_)
  · refine j_iconst C (v := 1) dX13_is_13 (by decide) ?_
    refine j_goto C (tgt := 18) dX13_is_14 (by decide) ?_
    exact e_iretR C hQ hr rfl hlk dX13_is_18 (Nat.le_of_ble_eq_true rfl) (Nat.le_of_ble_eq_true rfl)
  · refine j_iconst C (v := 0) dX13_is_17 (by decide) ?_
    exact e_iretR C hQ hr rfl hlk dX13_is_18 (Nat.le_of_ble_eq_true rfl) (Nat.le_of_ble_eq_true rfl)
def f_Md_isSign (a0 : Nat) (x1 : Int32) (h : hp_M) : Option (Int32) := (gR h a0 12 4).bind fun v1 => (gI h a0 12 9).bind fun v2 => (gaI h v1 v2).bind fun v3 => if v3 = (32 + x1) then (some 1) else (some 0)
set_option maxRecDepth 100000 in
set_option maxHeartbeats 4000000 in
theorem c_Md_isSign (l : Launch) (w : hp_W) (a0 : Nat) (x1 : Int32) (h : hp_M) (out : Int32) (hX : f_Md_isSign a0 x1 h = some out) : CT l w yX13_isSign cX13_isSign 2 (some .boolean) ({ frames := 0, cells := 0, slots := 0, locals := 0 }) [.ref a0, .int x1] h (some (.int out)) h := by
  unfold f_Md_isSign at hX
  refine ct_of (by decide +kernel) (Nat.le_of_ble_eq_true rfl) hX ?_
  intro p e s m args below meth c Q C hr hlk hnm hQ
  refine j_aload_n C dX13_isSign_0 (i := 0) rfl rfl ?_
  refine j_getR C g_X13_17 dX13_isSign_1 (fun v1 ev1 => ?_)
  refine j_aload_n C dX13_isSign_4 (i := 0) rfl rfl ?_
  refine j_getI C g_X13_113 dX13_isSign_5 (fun v2 ev2 => ?_)
  refine j_iaload C dX13_isSign_8 (fun v3 ev3 => ?_)
  refine j_bipush C (v := 32) dX13_isSign_9 (by decide) ?_
  refine j_iload_n C dX13_isSign_11 (i := 1) rfl rfl ?_
  refine j_iadd C dX13_isSign_12 ?_
  refine j_icmpne C (tgt := 20) dX13_isSign_13 (by decide) (fun q4 => ?_) (fun q4 => ?_)
  · refine j_iconst C (v := 1) dX13_isSign_16 (by decide) ?_
    refine j_goto C (tgt := 21) dX13_isSign_17 (by decide) ?_
    exact e_iretR C hQ hr rfl hlk dX13_isSign_21 (Nat.le_of_ble_eq_true rfl) (Nat.le_of_ble_eq_true rfl)
  · refine j_iconst C (v := 0) dX13_isSign_20 (by decide) ?_
    exact e_iretR C hQ hr rfl hlk dX13_isSign_21 (Nat.le_of_ble_eq_true rfl) (Nat.le_of_ble_eq_true rfl)
def f_Md_eat (a0 : Nat) (x1 : Int32) (h : hp_M) : Option (Int32 × hp_M) := (onO h a0 12 (f_Md_is a0 x1 h)).bind fun r1 => if r1 = 0 then (some (0, h)) else ((gI h a0 12 9).bind fun v3 => (pF h a0 12 9 (.int (v3 + 1))).bind fun h4 => some (1, h4))
set_option maxRecDepth 100000 in
set_option maxHeartbeats 4000000 in
theorem c_Md_eat (l : Launch) (w : hp_W) (a0 : Nat) (x1 : Int32) (h : hp_M) (out : Int32 × hp_M) (hX : f_Md_eat a0 x1 h = some out) : CT l w yX13_eat cX13_eat 2 (some .boolean) ({ frames := 1, cells := 0, slots := 0, locals := 21 }) [.ref a0, .int x1] h (some (.int out.1)) out.2 := by
  unfold f_Md_eat at hX
  refine ct_of (by decide +kernel) (Nat.le_of_ble_eq_true rfl) hX ?_
  intro p e s m args below meth c Q C hr hlk hnm hQ
  refine j_aload_n C dX13_eat_0 (i := 0) rfl rfl ?_
  refine j_iload_n C dX13_eat_1 (i := 1) rfl rfl ?_
  refine j_callVi C (As := [.int _]) (rest := []) k_X13_116 ⟨Nat.le_of_ble_eq_true rfl, Nat.le_of_ble_eq_true rfl⟩ rfl (Nat.le_of_ble_eq_true rfl) ⟨Nat.le_of_ble_eq_true rfl, Nat.le_of_ble_eq_true rfl⟩ rfl dX13_eat_2 (fun r0 q0 => c_Md_is l w _ _ _ _ q0) (fun r1 er1 nr1 => ?_)
  refine j_ifne C (tgt := 10) dX13_eat_5 (by decide) (fun q2 => ?_) (fun q2 => ?_)
  · refine j_iconst C (v := 0) dX13_eat_8 (by decide) ?_
    exact e_iretM C hQ hr rfl hlk dX13_eat_9 (Nat.le_of_ble_eq_true rfl) (Nat.le_of_ble_eq_true rfl)
  · refine j_aload_n C dX13_eat_10 (i := 0) rfl rfl ?_
    refine j_dup C dX13_eat_11 rfl ?_
    refine j_getI C g_X13_113 dX13_eat_12 (fun v3 ev3 => ?_)
    refine j_iconst C (v := 1) dX13_eat_15 (by decide) ?_
    refine j_iadd C dX13_eat_16 ?_
    refine j_putI C p_X13_113 (fun q => nomatch q) dX13_eat_17 (fun h4 eh4 => ?_)
    refine j_iconst C (v := 1) dX13_eat_20 (by decide) ?_
    exact e_iretM C hQ hr rfl hlk dX13_eat_21 (Nat.le_of_ble_eq_true rfl) (Nat.le_of_ble_eq_true rfl)
def f_Md_eatSign (a0 : Nat) (x1 : Int32) (h : hp_M) : Option (Int32 × hp_M) := (onO h a0 12 (f_Md_eat a0 (32 + x1) h)).bind fun r1 => some (r1.1, r1.2)
set_option maxRecDepth 100000 in
set_option maxHeartbeats 4000000 in
theorem c_Md_eatSign (l : Launch) (w : hp_W) (a0 : Nat) (x1 : Int32) (h : hp_M) (out : Int32 × hp_M) (hX : f_Md_eatSign a0 x1 h = some out) : CT l w yX13_eatSign cX13_eatSign 2 (some .boolean) ({ frames := 2, cells := 0, slots := 0, locals := 42 }) [.ref a0, .int x1] h (some (.int out.1)) out.2 := by
  unfold f_Md_eatSign at hX
  refine ct_of (by decide +kernel) (Nat.le_of_ble_eq_true rfl) hX ?_
  intro p e s m args below meth c Q C hr hlk hnm hQ
  refine j_aload_n C dX13_eatSign_0 (i := 0) rfl rfl ?_
  refine j_bipush C (v := 32) dX13_eatSign_1 (by decide) ?_
  refine j_iload_n C dX13_eatSign_3 (i := 1) rfl rfl ?_
  refine j_iadd C dX13_eatSign_4 ?_
  refine j_callVim C (As := [.int _]) (rest := []) k_X13_119 ⟨Nat.le_of_ble_eq_true rfl, Nat.le_of_ble_eq_true rfl⟩ rfl (Nat.le_of_ble_eq_true rfl) ⟨Nat.le_of_ble_eq_true rfl, Nat.le_of_ble_eq_true rfl⟩ rfl dX13_eatSign_5 (fun r0 q0 => c_Md_eat l w _ _ _ _ q0) (fun r1 er1 nr1 => ?_)
  exact e_iretM C hQ hr (nr1 _ _ rfl rfl) hlk dX13_eatSign_8 (Nat.le_of_ble_eq_true rfl) (Nat.le_of_ble_eq_true rfl)
def f_Md_eatAs (a0 : Nat) (x1 : Int32) (x2 : Int32) (h : hp_M) : Option (Int32 × hp_M) := (gR h a0 12 7).bind fun v1 => (gI h a0 12 9).bind fun v2 => (paI h v1 v2 x2).bind fun h3 => (onO h3 a0 12 (f_Md_eat a0 x1 h3)).bind fun r4 => some (r4.1, r4.2)
set_option maxRecDepth 100000 in
set_option maxHeartbeats 4000000 in
theorem c_Md_eatAs (l : Launch) (w : hp_W) (a0 : Nat) (x1 : Int32) (x2 : Int32) (h : hp_M) (out : Int32 × hp_M) (hX : f_Md_eatAs a0 x1 x2 h = some out) : CT l w yX13_eatAs cX13_eatAs 3 (some .boolean) ({ frames := 2, cells := 0, slots := 0, locals := 42 }) [.ref a0, .int x1, .int x2] h (some (.int out.1)) out.2 := by
  unfold f_Md_eatAs at hX
  refine ct_of (by decide +kernel) (Nat.le_of_ble_eq_true rfl) hX ?_
  intro p e s m args below meth c Q C hr hlk hnm hQ
  refine j_aload_n C dX13_eatAs_0 (i := 0) rfl rfl ?_
  refine j_getR C g_X13_26 dX13_eatAs_1 (fun v1 ev1 => ?_)
  refine j_aload_n C dX13_eatAs_4 (i := 0) rfl rfl ?_
  refine j_getI C g_X13_113 dX13_eatAs_5 (fun v2 ev2 => ?_)
  refine j_iload_n C dX13_eatAs_8 (i := 2) rfl rfl ?_
  refine j_iastore C dX13_eatAs_9 (fun h3 eh3 => ?_)
  refine j_aload_n C dX13_eatAs_10 (i := 0) rfl rfl ?_
  refine j_iload_n C dX13_eatAs_11 (i := 1) rfl rfl ?_
  refine j_callVim C (As := [.int _]) (rest := []) k_X13_119 ⟨Nat.le_of_ble_eq_true rfl, Nat.le_of_ble_eq_true rfl⟩ rfl (Nat.le_of_ble_eq_true rfl) ⟨Nat.le_of_ble_eq_true rfl, Nat.le_of_ble_eq_true rfl⟩ rfl dX13_eatAs_12 (fun r0 q0 => c_Md_eat l w _ _ _ _ q0) (fun r4 er4 nr4 => ?_)
  exact e_iretM C hQ hr (nr4 _ _ rfl rfl) hlk dX13_eatAs_15 (Nat.le_of_ble_eq_true rfl) (Nat.le_of_ble_eq_true rfl)
def f_Md_isPlanetLine (a0 : Nat) (h : hp_M) : Option (Int32 × hp_M) := (gI h a0 12 9).bind fun v1 => (pF h a0 12 9 (.int (v1 + 1))).bind fun h2 => (onO h2 a0 12 (f_Md_eatAs a0 30 1 h2)).bind fun r3 => if r3.1 = 0 then (some (0, r3.2)) else ((onO r3.2 a0 12 (f_Md_eat a0 1 r3.2)).bind fun r5 => if r5.1 = 0 then (some (0, r5.2)) else ((onO r5.2 a0 12 (f_Md_eatAs a0 31 8 r5.2)).bind fun r7 => if r7.1 = 0 then (some (0, r7.2)) else ((onO r7.2 a0 12 (f_Md_eat a0 2 r7.2)).bind fun r9 => if r9.1 = 0 then (some (0, r9.2)) else ((onO r9.2 a0 12 (f_Md_eatAs a0 31 9 r9.2)).bind fun r11 => if r11.1 = 0 then (some (0, r11.2)) else (jn (fun (h16 : hp_M) => jn (fun (h22 : hp_M) => (onO h22 a0 12 (f_Md_eatSign a0 59 h22)).bind fun r23 => some (r23.1, r23.2)) fun (j21 : hp_M → Option (Int32 × hp_M)) => (onO h16 a0 12 (f_Md_eat a0 4 h16)).bind fun r24 => if r24.1 = 0 then (j21 r24.2) else ((onO r24.2 a0 12 (f_Md_eatAs a0 31 11 r24.2)).bind fun r26 => if r26.1 = 0 then (some (0, r26.2)) else ((onO r26.2 a0 12 (f_Md_eat a0 5 r26.2)).bind fun r28 => if r28.1 = 0 then (some (0, r28.2)) else ((onO r28.2 a0 12 (f_Md_eatAs a0 31 12 r28.2)).bind fun r30 => if r30.1 = 0 then (some (0, r30.2)) else (j21 r30.2))))) fun (j15 : hp_M → Option (Int32 × hp_M)) => (onO r11.2 a0 12 (f_Md_eat a0 3 r11.2)).bind fun r32 => if r32.1 = 0 then (j15 r32.2) else ((onO r32.2 a0 12 (f_Md_eatAs a0 31 10 r32.2)).bind fun r34 => if r34.1 = 0 then (some (0, r34.2)) else (j15 r34.2)))))))
set_option maxRecDepth 100000 in
set_option maxHeartbeats 4000000 in
theorem c_Md_isPlanetLine (l : Launch) (w : hp_W) (a0 : Nat) (h : hp_M) (out : Int32 × hp_M) (hX : f_Md_isPlanetLine a0 h = some out) : CT l w yX13_isPlanetLine cX13_isPlanetLine 1 (some .boolean) ({ frames := 3, cells := 0, slots := 0, locals := 64 }) [.ref a0] h (some (.int out.1)) out.2 := by
  unfold f_Md_isPlanetLine at hX
  refine ct_of (by decide +kernel) (Nat.le_of_ble_eq_true rfl) hX ?_
  intro p e s m args below meth c Q C hr hlk hnm hQ
  refine j_aload_n C dX13_isPlanetLine_0 (i := 0) rfl rfl ?_
  refine j_dup C dX13_isPlanetLine_1 rfl ?_
  refine j_getI C g_X13_113 dX13_isPlanetLine_2 (fun v1 ev1 => ?_)
  refine j_iconst C (v := 1) dX13_isPlanetLine_5 (by decide) ?_
  refine j_iadd C dX13_isPlanetLine_6 ?_
  refine j_putI C p_X13_113 (fun q => nomatch q) dX13_isPlanetLine_7 (fun h2 eh2 => ?_)
  refine j_aload_n C dX13_isPlanetLine_10 (i := 0) rfl rfl ?_
  refine j_bipush C (v := 30) dX13_isPlanetLine_11 (by decide) ?_
  refine j_iconst C (v := 1) dX13_isPlanetLine_13 (by decide) ?_
  refine j_callVim C (As := [.int _, .int _]) (rest := []) k_X13_147 ⟨Nat.le_of_ble_eq_true rfl, Nat.le_of_ble_eq_true rfl⟩ rfl (Nat.le_of_ble_eq_true rfl) ⟨Nat.le_of_ble_eq_true rfl, Nat.le_of_ble_eq_true rfl⟩ rfl dX13_isPlanetLine_14 (fun r0 q0 => c_Md_eatAs l w _ _ _ _ _ q0) (fun r3 er3 nr3 => ?_)
  refine j_ifeq C (tgt := 58) dX13_isPlanetLine_17 (by decide) (fun q4 => ?_) (fun q4 => ?_)
  · refine j_iconst C (v := 0) dX13_isPlanetLine_58 (by decide) ?_
    exact e_iretM C hQ hr rfl hlk dX13_isPlanetLine_59 (Nat.le_of_ble_eq_true rfl) (Nat.le_of_ble_eq_true rfl)
  · refine j_aload_n C dX13_isPlanetLine_20 (i := 0) rfl rfl ?_
    refine j_iconst C (v := 1) dX13_isPlanetLine_21 (by decide) ?_
    refine j_callVim C (As := [.int _]) (rest := []) k_X13_119 ⟨Nat.le_of_ble_eq_true rfl, Nat.le_of_ble_eq_true rfl⟩ rfl (Nat.le_of_ble_eq_true rfl) ⟨Nat.le_of_ble_eq_true rfl, Nat.le_of_ble_eq_true rfl⟩ rfl dX13_isPlanetLine_22 (fun r0 q0 => c_Md_eat l w _ _ _ _ q0) (fun r5 er5 nr5 => ?_)
    refine j_ifeq C (tgt := 58) dX13_isPlanetLine_25 (by decide) (fun q6 => ?_) (fun q6 => ?_)
    · refine j_iconst C (v := 0) dX13_isPlanetLine_58 (by decide) ?_
      exact e_iretM C hQ hr rfl hlk dX13_isPlanetLine_59 (Nat.le_of_ble_eq_true rfl) (Nat.le_of_ble_eq_true rfl)
    · refine j_aload_n C dX13_isPlanetLine_28 (i := 0) rfl rfl ?_
      refine j_bipush C (v := 31) dX13_isPlanetLine_29 (by decide) ?_
      refine j_bipush C (v := 8) dX13_isPlanetLine_31 (by decide) ?_
      refine j_callVim C (As := [.int _, .int _]) (rest := []) k_X13_147 ⟨Nat.le_of_ble_eq_true rfl, Nat.le_of_ble_eq_true rfl⟩ rfl (Nat.le_of_ble_eq_true rfl) ⟨Nat.le_of_ble_eq_true rfl, Nat.le_of_ble_eq_true rfl⟩ rfl dX13_isPlanetLine_33 (fun r0 q0 => c_Md_eatAs l w _ _ _ _ _ q0) (fun r7 er7 nr7 => ?_)
      refine j_ifeq C (tgt := 58) dX13_isPlanetLine_36 (by decide) (fun q8 => ?_) (fun q8 => ?_)
      · refine j_iconst C (v := 0) dX13_isPlanetLine_58 (by decide) ?_
        exact e_iretM C hQ hr rfl hlk dX13_isPlanetLine_59 (Nat.le_of_ble_eq_true rfl) (Nat.le_of_ble_eq_true rfl)
      · refine j_aload_n C dX13_isPlanetLine_39 (i := 0) rfl rfl ?_
        refine j_iconst C (v := 2) dX13_isPlanetLine_40 (by decide) ?_
        refine j_callVim C (As := [.int _]) (rest := []) k_X13_119 ⟨Nat.le_of_ble_eq_true rfl, Nat.le_of_ble_eq_true rfl⟩ rfl (Nat.le_of_ble_eq_true rfl) ⟨Nat.le_of_ble_eq_true rfl, Nat.le_of_ble_eq_true rfl⟩ rfl dX13_isPlanetLine_41 (fun r0 q0 => c_Md_eat l w _ _ _ _ q0) (fun r9 er9 nr9 => ?_)
        refine j_ifeq C (tgt := 58) dX13_isPlanetLine_44 (by decide) (fun q10 => ?_) (fun q10 => ?_)
        · refine j_iconst C (v := 0) dX13_isPlanetLine_58 (by decide) ?_
          exact e_iretM C hQ hr rfl hlk dX13_isPlanetLine_59 (Nat.le_of_ble_eq_true rfl) (Nat.le_of_ble_eq_true rfl)
        · refine j_aload_n C dX13_isPlanetLine_47 (i := 0) rfl rfl ?_
          refine j_bipush C (v := 31) dX13_isPlanetLine_48 (by decide) ?_
          refine j_bipush C (v := 9) dX13_isPlanetLine_50 (by decide) ?_
          refine j_callVim C (As := [.int _, .int _]) (rest := []) k_X13_147 ⟨Nat.le_of_ble_eq_true rfl, Nat.le_of_ble_eq_true rfl⟩ rfl (Nat.le_of_ble_eq_true rfl) ⟨Nat.le_of_ble_eq_true rfl, Nat.le_of_ble_eq_true rfl⟩ rfl dX13_isPlanetLine_52 (fun r0 q0 => c_Md_eatAs l w _ _ _ _ _ q0) (fun r11 er11 nr11 => ?_)
          refine j_ifne C (tgt := 60) dX13_isPlanetLine_55 (by decide) (fun q12 => ?_) (fun q12 => ?_)
          · refine j_iconst C (v := 0) dX13_isPlanetLine_58 (by decide) ?_
            exact e_iretM C hQ hr rfl hlk dX13_isPlanetLine_59 (Nat.le_of_ble_eq_true rfl) (Nat.le_of_ble_eq_true rfl)
          · refine j_jn (P := fun (j15 : hp_M → Option (Int32 × hp_M)) => ∀ (h16 : hp_M), J p l e ({ frames := 3, cells := 0, slots := 0, locals := 64 }) s m args below meth c Q w 1 0 0 81 [(0, .ref a0)] [] h16 (j15 h16) out) ?_ (fun j15 hj15 => ?_)
            · intro h16
              refine j_jn (P := fun (j21 : hp_M → Option (Int32 × hp_M)) => ∀ (h22 : hp_M), J p l e ({ frames := 3, cells := 0, slots := 0, locals := 64 }) s m args below meth c Q w 1 0 0 121 [(0, .ref a0)] [] h22 (j21 h22) out) ?_ (fun j21 hj21 => ?_)
              · intro h22
                refine j_aload_n C dX13_isPlanetLine_121 (i := 0) rfl rfl ?_
                refine j_bipush C (v := 59) dX13_isPlanetLine_122 (by decide) ?_
                refine j_callVim C (As := [.int _]) (rest := []) k_X13_151 ⟨Nat.le_of_ble_eq_true rfl, Nat.le_of_ble_eq_true rfl⟩ rfl (Nat.le_of_ble_eq_true rfl) ⟨Nat.le_of_ble_eq_true rfl, Nat.le_of_ble_eq_true rfl⟩ rfl dX13_isPlanetLine_124 (fun r0 q0 => c_Md_eatSign l w _ _ _ _ q0) (fun r23 er23 nr23 => ?_)
                exact e_iretM C hQ hr (nr23 _ _ rfl rfl) hlk dX13_isPlanetLine_127 (Nat.le_of_ble_eq_true rfl) (Nat.le_of_ble_eq_true rfl)
              · refine j_aload_n C dX13_isPlanetLine_81 (i := 0) rfl rfl ?_
                refine j_iconst C (v := 4) dX13_isPlanetLine_82 (by decide) ?_
                refine j_callVim C (As := [.int _]) (rest := []) k_X13_119 ⟨Nat.le_of_ble_eq_true rfl, Nat.le_of_ble_eq_true rfl⟩ rfl (Nat.le_of_ble_eq_true rfl) ⟨Nat.le_of_ble_eq_true rfl, Nat.le_of_ble_eq_true rfl⟩ rfl dX13_isPlanetLine_83 (fun r0 q0 => c_Md_eat l w _ _ _ _ q0) (fun r24 er24 nr24 => ?_)
                refine j_ifeq C (tgt := 121) dX13_isPlanetLine_86 (by decide) (fun q25 => ?_) (fun q25 => ?_)
                · exact hj21 _
                · refine j_aload_n C dX13_isPlanetLine_89 (i := 0) rfl rfl ?_
                  refine j_bipush C (v := 31) dX13_isPlanetLine_90 (by decide) ?_
                  refine j_bipush C (v := 11) dX13_isPlanetLine_92 (by decide) ?_
                  refine j_callVim C (As := [.int _, .int _]) (rest := []) k_X13_147 ⟨Nat.le_of_ble_eq_true rfl, Nat.le_of_ble_eq_true rfl⟩ rfl (Nat.le_of_ble_eq_true rfl) ⟨Nat.le_of_ble_eq_true rfl, Nat.le_of_ble_eq_true rfl⟩ rfl dX13_isPlanetLine_94 (fun r0 q0 => c_Md_eatAs l w _ _ _ _ _ q0) (fun r26 er26 nr26 => ?_)
                  refine j_ifeq C (tgt := 119) dX13_isPlanetLine_97 (by decide) (fun q27 => ?_) (fun q27 => ?_)
                  · refine j_iconst C (v := 0) dX13_isPlanetLine_119 (by decide) ?_
                    exact e_iretM C hQ hr rfl hlk dX13_isPlanetLine_120 (Nat.le_of_ble_eq_true rfl) (Nat.le_of_ble_eq_true rfl)
                  · refine j_aload_n C dX13_isPlanetLine_100 (i := 0) rfl rfl ?_
                    refine j_iconst C (v := 5) dX13_isPlanetLine_101 (by decide) ?_
                    refine j_callVim C (As := [.int _]) (rest := []) k_X13_119 ⟨Nat.le_of_ble_eq_true rfl, Nat.le_of_ble_eq_true rfl⟩ rfl (Nat.le_of_ble_eq_true rfl) ⟨Nat.le_of_ble_eq_true rfl, Nat.le_of_ble_eq_true rfl⟩ rfl dX13_isPlanetLine_102 (fun r0 q0 => c_Md_eat l w _ _ _ _ q0) (fun r28 er28 nr28 => ?_)
                    refine j_ifeq C (tgt := 119) dX13_isPlanetLine_105 (by decide) (fun q29 => ?_) (fun q29 => ?_)
                    · refine j_iconst C (v := 0) dX13_isPlanetLine_119 (by decide) ?_
                      exact e_iretM C hQ hr rfl hlk dX13_isPlanetLine_120 (Nat.le_of_ble_eq_true rfl) (Nat.le_of_ble_eq_true rfl)
                    · refine j_aload_n C dX13_isPlanetLine_108 (i := 0) rfl rfl ?_
                      refine j_bipush C (v := 31) dX13_isPlanetLine_109 (by decide) ?_
                      refine j_bipush C (v := 12) dX13_isPlanetLine_111 (by decide) ?_
                      refine j_callVim C (As := [.int _, .int _]) (rest := []) k_X13_147 ⟨Nat.le_of_ble_eq_true rfl, Nat.le_of_ble_eq_true rfl⟩ rfl (Nat.le_of_ble_eq_true rfl) ⟨Nat.le_of_ble_eq_true rfl, Nat.le_of_ble_eq_true rfl⟩ rfl dX13_isPlanetLine_113 (fun r0 q0 => c_Md_eatAs l w _ _ _ _ _ q0) (fun r30 er30 nr30 => ?_)
                      refine j_ifne C (tgt := 121) dX13_isPlanetLine_116 (by decide) (fun q31 => ?_) (fun q31 => ?_)
                      · refine j_iconst C (v := 0) dX13_isPlanetLine_119 (by decide) ?_
                        exact e_iretM C hQ hr rfl hlk dX13_isPlanetLine_120 (Nat.le_of_ble_eq_true rfl) (Nat.le_of_ble_eq_true rfl)
                      · exact hj21 _
            · refine j_aload_n C dX13_isPlanetLine_60 (i := 0) rfl rfl ?_
              refine j_iconst C (v := 3) dX13_isPlanetLine_61 (by decide) ?_
              refine j_callVim C (As := [.int _]) (rest := []) k_X13_119 ⟨Nat.le_of_ble_eq_true rfl, Nat.le_of_ble_eq_true rfl⟩ rfl (Nat.le_of_ble_eq_true rfl) ⟨Nat.le_of_ble_eq_true rfl, Nat.le_of_ble_eq_true rfl⟩ rfl dX13_isPlanetLine_62 (fun r0 q0 => c_Md_eat l w _ _ _ _ q0) (fun r32 er32 nr32 => ?_)
              refine j_ifeq C (tgt := 81) dX13_isPlanetLine_65 (by decide) (fun q33 => ?_) (fun q33 => ?_)
              · exact hj15 _
              · refine j_aload_n C dX13_isPlanetLine_68 (i := 0) rfl rfl ?_
                refine j_bipush C (v := 31) dX13_isPlanetLine_69 (by decide) ?_
                refine j_bipush C (v := 10) dX13_isPlanetLine_71 (by decide) ?_
                refine j_callVim C (As := [.int _, .int _]) (rest := []) k_X13_147 ⟨Nat.le_of_ble_eq_true rfl, Nat.le_of_ble_eq_true rfl⟩ rfl (Nat.le_of_ble_eq_true rfl) ⟨Nat.le_of_ble_eq_true rfl, Nat.le_of_ble_eq_true rfl⟩ rfl dX13_isPlanetLine_73 (fun r0 q0 => c_Md_eatAs l w _ _ _ _ _ q0) (fun r34 er34 nr34 => ?_)
                refine j_ifne C (tgt := 81) dX13_isPlanetLine_76 (by decide) (fun q35 => ?_) (fun q35 => ?_)
                · refine j_iconst C (v := 0) dX13_isPlanetLine_79 (by decide) ?_
                  exact e_iretM C hQ hr rfl hlk dX13_isPlanetLine_80 (Nat.le_of_ble_eq_true rfl) (Nat.le_of_ble_eq_true rfl)
                · exact hj15 _
def f_Md_isAlphabetLine (a0 : Nat) (h : hp_M) : Option (Int32 × hp_M) := jn (fun (h7 : hp_M) => some (0, h7)) fun (j6 : hp_M → Option (Int32 × hp_M)) => (gI h a0 12 9).bind fun v8 => (pF h a0 12 9 (.int (v8 + 1))).bind fun h9 => (onO h9 a0 12 (f_Md_eatAs a0 30 2 h9)).bind fun r10 => if r10.1 = 0 then (j6 r10.2) else ((onO r10.2 a0 12 (f_Md_eatAs a0 30 3 r10.2)).bind fun r12 => if r12.1 = 0 then (j6 r12.2) else ((onO r12.2 a0 12 (f_Md_eatSign a0 59 r12.2)).bind fun r14 => if r14.1 = 0 then (j6 r14.2) else (some (1, r14.2))))
set_option maxRecDepth 100000 in
set_option maxHeartbeats 4000000 in
theorem c_Md_isAlphabetLine (l : Launch) (w : hp_W) (a0 : Nat) (h : hp_M) (out : Int32 × hp_M) (hX : f_Md_isAlphabetLine a0 h = some out) : CT l w yX13_isAlphabetLine cX13_isAlphabetLine 1 (some .boolean) ({ frames := 3, cells := 0, slots := 0, locals := 64 }) [.ref a0] h (some (.int out.1)) out.2 := by
  unfold f_Md_isAlphabetLine at hX
  refine ct_of (by decide +kernel) (Nat.le_of_ble_eq_true rfl) hX ?_
  intro p e s m args below meth c Q C hr hlk hnm hQ
  refine j_jn (P := fun (j6 : hp_M → Option (Int32 × hp_M)) => ∀ (h7 : hp_M), J p l e ({ frames := 3, cells := 0, slots := 0, locals := 64 }) s m args below meth c Q w 1 0 0 43 [] [] h7 (j6 h7) out) ?_ (fun j6 hj6 => ?_)
  · intro h7
    refine j_iconst C (v := 0) dX13_isAlphabetLine_43 (by decide) ?_
    exact e_iretM C hQ hr rfl hlk dX13_isAlphabetLine_44 (Nat.le_of_ble_eq_true rfl) (Nat.le_of_ble_eq_true rfl)
  · refine j_aload_n C dX13_isAlphabetLine_0 (i := 0) rfl rfl ?_
    refine j_dup C dX13_isAlphabetLine_1 rfl ?_
    refine j_getI C g_X13_113 dX13_isAlphabetLine_2 (fun v8 ev8 => ?_)
    refine j_iconst C (v := 1) dX13_isAlphabetLine_5 (by decide) ?_
    refine j_iadd C dX13_isAlphabetLine_6 ?_
    refine j_putI C p_X13_113 (fun q => nomatch q) dX13_isAlphabetLine_7 (fun h9 eh9 => ?_)
    refine j_aload_n C dX13_isAlphabetLine_10 (i := 0) rfl rfl ?_
    refine j_bipush C (v := 30) dX13_isAlphabetLine_11 (by decide) ?_
    refine j_iconst C (v := 2) dX13_isAlphabetLine_13 (by decide) ?_
    refine j_callVim C (As := [.int _, .int _]) (rest := []) k_X13_147 ⟨Nat.le_of_ble_eq_true rfl, Nat.le_of_ble_eq_true rfl⟩ rfl (Nat.le_of_ble_eq_true rfl) ⟨Nat.le_of_ble_eq_true rfl, Nat.le_of_ble_eq_true rfl⟩ rfl dX13_isAlphabetLine_14 (fun r0 q0 => c_Md_eatAs l w _ _ _ _ _ q0) (fun r10 er10 nr10 => ?_)
    refine j_ifeq C (tgt := 43) dX13_isAlphabetLine_17 (by decide) (fun q11 => ?_) (fun q11 => ?_)
    · exact j_sub [] rfl (hj6 _)
    · refine j_aload_n C dX13_isAlphabetLine_20 (i := 0) rfl rfl ?_
      refine j_bipush C (v := 30) dX13_isAlphabetLine_21 (by decide) ?_
      refine j_iconst C (v := 3) dX13_isAlphabetLine_23 (by decide) ?_
      refine j_callVim C (As := [.int _, .int _]) (rest := []) k_X13_147 ⟨Nat.le_of_ble_eq_true rfl, Nat.le_of_ble_eq_true rfl⟩ rfl (Nat.le_of_ble_eq_true rfl) ⟨Nat.le_of_ble_eq_true rfl, Nat.le_of_ble_eq_true rfl⟩ rfl dX13_isAlphabetLine_24 (fun r0 q0 => c_Md_eatAs l w _ _ _ _ _ q0) (fun r12 er12 nr12 => ?_)
      refine j_ifeq C (tgt := 43) dX13_isAlphabetLine_27 (by decide) (fun q13 => ?_) (fun q13 => ?_)
      · exact j_sub [] rfl (hj6 _)
      · refine j_aload_n C dX13_isAlphabetLine_30 (i := 0) rfl rfl ?_
        refine j_bipush C (v := 59) dX13_isAlphabetLine_31 (by decide) ?_
        refine j_callVim C (As := [.int _]) (rest := []) k_X13_151 ⟨Nat.le_of_ble_eq_true rfl, Nat.le_of_ble_eq_true rfl⟩ rfl (Nat.le_of_ble_eq_true rfl) ⟨Nat.le_of_ble_eq_true rfl, Nat.le_of_ble_eq_true rfl⟩ rfl dX13_isAlphabetLine_33 (fun r0 q0 => c_Md_eatSign l w _ _ _ _ q0) (fun r14 er14 nr14 => ?_)
        refine j_ifeq C (tgt := 43) dX13_isAlphabetLine_36 (by decide) (fun q15 => ?_) (fun q15 => ?_)
        · exact j_sub [] rfl (hj6 _)
        · refine j_iconst C (v := 1) dX13_isAlphabetLine_39 (by decide) ?_
          refine j_goto C (tgt := 44) dX13_isAlphabetLine_40 (by decide) ?_
          exact e_iretM C hQ hr rfl hlk dX13_isAlphabetLine_44 (Nat.le_of_ble_eq_true rfl) (Nat.le_of_ble_eq_true rfl)
def f_Md_isIn_ (a0 : Nat) (h : hp_M) : Option (Int32 × hp_M) := (gI h a0 12 10).bind fun v1 => if v1 = 8 then (some (0, h)) else ((gI h a0 12 10).bind fun v3 => (pF h a0 12 10 (.int (v3 + 1))).bind fun h4 => (gI h4 a0 12 9).bind fun v5 => (pF h4 a0 12 9 (.int (v5 + 1))).bind fun h6 => some (1, h6))
set_option maxRecDepth 100000 in
set_option maxHeartbeats 4000000 in
theorem c_Md_isIn_ (l : Launch) (w : hp_W) (a0 : Nat) (h : hp_M) (out : Int32 × hp_M) (hX : f_Md_isIn_ a0 h = some out) : CT l w yX13_isIn_ cX13_isIn_ 1 (some .boolean) ({ frames := 0, cells := 0, slots := 0, locals := 0 }) [.ref a0] h (some (.int out.1)) out.2 := by
  unfold f_Md_isIn_ at hX
  refine ct_of (by decide +kernel) (Nat.le_of_ble_eq_true rfl) hX ?_
  intro p e s m args below meth c Q C hr hlk hnm hQ
  refine j_aload_n C dX13_isIn__0 (i := 0) rfl rfl ?_
  refine j_getI C g_X13_179 dX13_isIn__1 (fun v1 ev1 => ?_)
  refine j_bipush C (v := 8) dX13_isIn__4 (by decide) ?_
  refine j_icmpne C (tgt := 11) dX13_isIn__6 (by decide) (fun q2 => ?_) (fun q2 => ?_)
  · refine j_iconst C (v := 0) dX13_isIn__9 (by decide) ?_
    exact e_iretM C hQ hr rfl hlk dX13_isIn__10 (Nat.le_of_ble_eq_true rfl) (Nat.le_of_ble_eq_true rfl)
  · refine j_aload_n C dX13_isIn__11 (i := 0) rfl rfl ?_
    refine j_dup C dX13_isIn__12 rfl ?_
    refine j_getI C g_X13_179 dX13_isIn__13 (fun v3 ev3 => ?_)
    refine j_iconst C (v := 1) dX13_isIn__16 (by decide) ?_
    refine j_iadd C dX13_isIn__17 ?_
    refine j_putI C p_X13_179 (fun q => nomatch q) dX13_isIn__18 (fun h4 eh4 => ?_)
    refine j_aload_n C dX13_isIn__21 (i := 0) rfl rfl ?_
    refine j_dup C dX13_isIn__22 rfl ?_
    refine j_getI C g_X13_113 dX13_isIn__23 (fun v5 ev5 => ?_)
    refine j_iconst C (v := 1) dX13_isIn__26 (by decide) ?_
    refine j_iadd C dX13_isIn__27 ?_
    refine j_putI C p_X13_113 (fun q => nomatch q) dX13_isIn__28 (fun h6 eh6 => ?_)
    refine j_iconst C (v := 1) dX13_isIn__31 (by decide) ?_
    exact e_iretM C hQ hr rfl hlk dX13_isIn__32 (Nat.le_of_ble_eq_true rfl) (Nat.le_of_ble_eq_true rfl)
def f_Md_isPair (a0 : Nat) (x1 : Int32) (h : hp_M) : Option (Int32 × hp_M) := (onO h a0 12 (f_Md_put a0 x1 h)).bind fun h1 => (gI h1 a0 12 9).bind fun v2 => (pF h1 a0 12 9 (.int (v2 + 1))).bind fun h3 => (gI h3 a0 12 9).bind fun v4 => (onO h3 a0 12 (f_Md_putToken a0 v4 h3)).bind fun h5 => (onO h5 a0 12 (f_Md_eatAs a0 30 4 h5)).bind fun r6 => if r6.1 = 0 then (some (0, r6.2)) else ((gI r6.2 a0 12 9).bind fun v8 => (onO r6.2 a0 12 (f_Md_putToken a0 v8 r6.2)).bind fun h9 => (onO h9 a0 12 (f_Md_eatAs a0 30 5 h9)).bind fun r10 => some (r10.1, r10.2))
set_option maxRecDepth 100000 in
set_option maxHeartbeats 4000000 in
theorem c_Md_isPair (l : Launch) (w : hp_W) (a0 : Nat) (x1 : Int32) (h : hp_M) (out : Int32 × hp_M) (hX : f_Md_isPair a0 x1 h = some out) : CT l w yX13_isPair cX13_isPair 2 (some .boolean) ({ frames := 3, cells := 0, slots := 0, locals := 64 }) [.ref a0, .int x1] h (some (.int out.1)) out.2 := by
  unfold f_Md_isPair at hX
  refine ct_of (by decide +kernel) (Nat.le_of_ble_eq_true rfl) hX ?_
  intro p e s m args below meth c Q C hr hlk hnm hQ
  refine j_aload_n C dX13_isPair_0 (i := 0) rfl rfl ?_
  refine j_iload_n C dX13_isPair_1 (i := 1) rfl rfl ?_
  refine j_callVv C (As := [.int _]) (rest := []) k_X13_133 ⟨Nat.le_of_ble_eq_true rfl, Nat.le_of_ble_eq_true rfl⟩ rfl (Nat.le_of_ble_eq_true rfl) ⟨Nat.le_of_ble_eq_true rfl, Nat.le_of_ble_eq_true rfl⟩ rfl dX13_isPair_2 (fun r0 q0 => c_Md_put l w _ _ _ _ q0) (fun h1 eh1 _ => ?_)
  refine j_aload_n C dX13_isPair_5 (i := 0) rfl rfl ?_
  refine j_dup C dX13_isPair_6 rfl ?_
  refine j_getI C g_X13_113 dX13_isPair_7 (fun v2 ev2 => ?_)
  refine j_iconst C (v := 1) dX13_isPair_10 (by decide) ?_
  refine j_iadd C dX13_isPair_11 ?_
  refine j_putI C p_X13_113 (fun q => nomatch q) dX13_isPair_12 (fun h3 eh3 => ?_)
  refine j_aload_n C dX13_isPair_15 (i := 0) rfl rfl ?_
  refine j_aload_n C dX13_isPair_16 (i := 0) rfl rfl ?_
  refine j_getI C g_X13_113 dX13_isPair_17 (fun v4 ev4 => ?_)
  refine j_callVv C (As := [.int _]) (rest := []) k_X13_182 ⟨Nat.le_of_ble_eq_true rfl, Nat.le_of_ble_eq_true rfl⟩ rfl (Nat.le_of_ble_eq_true rfl) ⟨Nat.le_of_ble_eq_true rfl, Nat.le_of_ble_eq_true rfl⟩ rfl dX13_isPair_20 (fun r0 q0 => c_Md_putToken l w _ _ _ _ q0) (fun h5 eh5 _ => ?_)
  refine j_aload_n C dX13_isPair_23 (i := 0) rfl rfl ?_
  refine j_bipush C (v := 30) dX13_isPair_24 (by decide) ?_
  refine j_iconst C (v := 4) dX13_isPair_26 (by decide) ?_
  refine j_callVim C (As := [.int _, .int _]) (rest := []) k_X13_147 ⟨Nat.le_of_ble_eq_true rfl, Nat.le_of_ble_eq_true rfl⟩ rfl (Nat.le_of_ble_eq_true rfl) ⟨Nat.le_of_ble_eq_true rfl, Nat.le_of_ble_eq_true rfl⟩ rfl dX13_isPair_27 (fun r0 q0 => c_Md_eatAs l w _ _ _ _ _ q0) (fun r6 er6 nr6 => ?_)
  refine j_ifne C (tgt := 35) dX13_isPair_30 (by decide) (fun q7 => ?_) (fun q7 => ?_)
  · refine j_iconst C (v := 0) dX13_isPair_33 (by decide) ?_
    exact e_iretM C hQ hr rfl hlk dX13_isPair_34 (Nat.le_of_ble_eq_true rfl) (Nat.le_of_ble_eq_true rfl)
  · refine j_aload_n C dX13_isPair_35 (i := 0) rfl rfl ?_
    refine j_aload_n C dX13_isPair_36 (i := 0) rfl rfl ?_
    refine j_getI C g_X13_113 dX13_isPair_37 (fun v8 ev8 => ?_)
    refine j_callVv C (As := [.int _]) (rest := []) k_X13_182 ⟨Nat.le_of_ble_eq_true rfl, Nat.le_of_ble_eq_true rfl⟩ rfl (Nat.le_of_ble_eq_true rfl) ⟨Nat.le_of_ble_eq_true rfl, Nat.le_of_ble_eq_true rfl⟩ rfl dX13_isPair_40 (fun r0 q0 => c_Md_putToken l w _ _ _ _ q0) (fun h9 eh9 _ => ?_)
    refine j_aload_n C dX13_isPair_43 (i := 0) rfl rfl ?_
    refine j_bipush C (v := 30) dX13_isPair_44 (by decide) ?_
    refine j_iconst C (v := 5) dX13_isPair_46 (by decide) ?_
    refine j_callVim C (As := [.int _, .int _]) (rest := []) k_X13_147 ⟨Nat.le_of_ble_eq_true rfl, Nat.le_of_ble_eq_true rfl⟩ rfl (Nat.le_of_ble_eq_true rfl) ⟨Nat.le_of_ble_eq_true rfl, Nat.le_of_ble_eq_true rfl⟩ rfl dX13_isPair_47 (fun r0 q0 => c_Md_eatAs l w _ _ _ _ _ q0) (fun r10 er10 nr10 => ?_)
    exact e_iretM C hQ hr (nr10 _ _ rfl rfl) hlk dX13_isPair_50 (Nat.le_of_ble_eq_true rfl) (Nat.le_of_ble_eq_true rfl)
def f_Md_isOne (a0 : Nat) (x1 : Int32) (h : hp_M) : Option (Int32 × hp_M) := (onO h a0 12 (f_Md_put a0 x1 h)).bind fun h1 => (gI h1 a0 12 9).bind fun v2 => (pF h1 a0 12 9 (.int (v2 + 1))).bind fun h3 => (gI h3 a0 12 9).bind fun v4 => (onO h3 a0 12 (f_Md_putToken a0 v4 h3)).bind fun h5 => (onO h5 a0 12 (f_Md_eatAs a0 30 4 h5)).bind fun r6 => some (r6.1, r6.2)
set_option maxRecDepth 100000 in
set_option maxHeartbeats 4000000 in
theorem c_Md_isOne (l : Launch) (w : hp_W) (a0 : Nat) (x1 : Int32) (h : hp_M) (out : Int32 × hp_M) (hX : f_Md_isOne a0 x1 h = some out) : CT l w yX13_isOne cX13_isOne 2 (some .boolean) ({ frames := 3, cells := 0, slots := 0, locals := 64 }) [.ref a0, .int x1] h (some (.int out.1)) out.2 := by
  unfold f_Md_isOne at hX
  refine ct_of (by decide +kernel) (Nat.le_of_ble_eq_true rfl) hX ?_
  intro p e s m args below meth c Q C hr hlk hnm hQ
  refine j_aload_n C dX13_isOne_0 (i := 0) rfl rfl ?_
  refine j_iload_n C dX13_isOne_1 (i := 1) rfl rfl ?_
  refine j_callVv C (As := [.int _]) (rest := []) k_X13_133 ⟨Nat.le_of_ble_eq_true rfl, Nat.le_of_ble_eq_true rfl⟩ rfl (Nat.le_of_ble_eq_true rfl) ⟨Nat.le_of_ble_eq_true rfl, Nat.le_of_ble_eq_true rfl⟩ rfl dX13_isOne_2 (fun r0 q0 => c_Md_put l w _ _ _ _ q0) (fun h1 eh1 _ => ?_)
  refine j_aload_n C dX13_isOne_5 (i := 0) rfl rfl ?_
  refine j_dup C dX13_isOne_6 rfl ?_
  refine j_getI C g_X13_113 dX13_isOne_7 (fun v2 ev2 => ?_)
  refine j_iconst C (v := 1) dX13_isOne_10 (by decide) ?_
  refine j_iadd C dX13_isOne_11 ?_
  refine j_putI C p_X13_113 (fun q => nomatch q) dX13_isOne_12 (fun h3 eh3 => ?_)
  refine j_aload_n C dX13_isOne_15 (i := 0) rfl rfl ?_
  refine j_aload_n C dX13_isOne_16 (i := 0) rfl rfl ?_
  refine j_getI C g_X13_113 dX13_isOne_17 (fun v4 ev4 => ?_)
  refine j_callVv C (As := [.int _]) (rest := []) k_X13_182 ⟨Nat.le_of_ble_eq_true rfl, Nat.le_of_ble_eq_true rfl⟩ rfl (Nat.le_of_ble_eq_true rfl) ⟨Nat.le_of_ble_eq_true rfl, Nat.le_of_ble_eq_true rfl⟩ rfl dX13_isOne_20 (fun r0 q0 => c_Md_putToken l w _ _ _ _ q0) (fun h5 eh5 _ => ?_)
  refine j_aload_n C dX13_isOne_23 (i := 0) rfl rfl ?_
  refine j_bipush C (v := 30) dX13_isOne_24 (by decide) ?_
  refine j_iconst C (v := 4) dX13_isOne_26 (by decide) ?_
  refine j_callVim C (As := [.int _, .int _]) (rest := []) k_X13_147 ⟨Nat.le_of_ble_eq_true rfl, Nat.le_of_ble_eq_true rfl⟩ rfl (Nat.le_of_ble_eq_true rfl) ⟨Nat.le_of_ble_eq_true rfl, Nat.le_of_ble_eq_true rfl⟩ rfl dX13_isOne_27 (fun r0 q0 => c_Md_eatAs l w _ _ _ _ _ q0) (fun r6 er6 nr6 => ?_)
  exact e_iretM C hQ hr (nr6 _ _ rfl rfl) hlk dX13_isOne_30 (Nat.le_of_ble_eq_true rfl) (Nat.le_of_ble_eq_true rfl)
def rm_g_Md_isProduct (n : Nat) : Room := { frames := n + 4, cells := 0, slots := 0, locals := n * 22 + 85 }
def f_Md_isProduct_b9 (fl : Nat) (rc : Nat → Nat → hp_M → Option (Int32 × hp_M)) (a0 : Nat) : Nat → hp_M → Option (Int32 × hp_M)
  | 0, _ => none
  | n + 1, h => jn (jn (fun (u1009 : Int32) => (gI h a0 12 9).bind fun v1010 => (pF h a0 12 9 (.int (v1010 + 1))).bind fun h1011 => (onO h1011 a0 12 (rc 2 a0 h1011)).bind fun r1012 => if r1012.1 = 0 then (some (0, r1012.2)) else ((onO r1012.2 a0 12 (f_Md_put a0 u1009 r1012.2)).bind fun h1014 => f_Md_isProduct_b9 fl rc a0 n h1014)) fun (j1008 : Int32 → Option (Int32 × hp_M)) => (onO h a0 12 (f_Md_isSign a0 42 h)).bind fun r1015 => if r1015 = 0 then ((onO h a0 12 (f_Md_isSign a0 47 h)).bind fun r1017 => if r1017 = 0 then (j1008 46) else (j1008 45)) else (j1008 44)) fun (j1006 : Option (Int32 × hp_M)) => (onO h a0 12 (f_Md_isSign a0 42 h)).bind fun r1019 => if r1019 = 0 then ((onO h a0 12 (f_Md_isSign a0 47 h)).bind fun r1021 => if r1021 = 0 then ((onO h a0 12 (f_Md_isSign a0 37 h)).bind fun r1023 => if r1023 = 0 then (some (1, h)) else (j1006)) else (j1006)) else (j1006)
def f_Md_isProduct_body (fl : Nat) (rc : Nat → Nat → hp_M → Option (Int32 × hp_M)) (a0 : Nat) (h : hp_M) : Option (Int32 × hp_M) := (onO h a0 12 (rc 2 a0 h)).bind fun r1 => if r1.1 = 0 then (some (0, r1.2)) else (f_Md_isProduct_b9 fl rc a0 fl r1.2)
def f_Md_isSum_b9 (fl : Nat) (rc : Nat → Nat → hp_M → Option (Int32 × hp_M)) (a0 : Nat) : Nat → hp_M → Option (Int32 × hp_M)
  | 0, _ => none
  | n + 1, h => jn (jn (fun (u1008 : Int32) => (gI h a0 12 9).bind fun v1009 => (pF h a0 12 9 (.int (v1009 + 1))).bind fun h1010 => (onO h1010 a0 12 (rc 0 a0 h1010)).bind fun r1011 => if r1011.1 = 0 then (some (0, r1011.2)) else ((onO r1011.2 a0 12 (f_Md_put a0 u1008 r1011.2)).bind fun h1013 => f_Md_isSum_b9 fl rc a0 n h1013)) fun (j1007 : Int32 → Option (Int32 × hp_M)) => (onO h a0 12 (f_Md_isSign a0 43 h)).bind fun r1014 => if r1014 = 0 then (j1007 43) else (j1007 42)) fun (j1005 : Option (Int32 × hp_M)) => (onO h a0 12 (f_Md_isSign a0 43 h)).bind fun r1016 => if r1016 = 0 then ((onO h a0 12 (f_Md_isSign a0 45 h)).bind fun r1018 => if r1018 = 0 then (some (1, h)) else (j1005)) else (j1005)
def f_Md_isSum_body (fl : Nat) (rc : Nat → Nat → hp_M → Option (Int32 × hp_M)) (a0 : Nat) (h : hp_M) : Option (Int32 × hp_M) := (onO h a0 12 (rc 0 a0 h)).bind fun r1 => if r1.1 = 0 then (some (0, r1.2)) else (f_Md_isSum_b9 fl rc a0 fl r1.2)
def f_Md_isValue_body (fl : Nat) (rc : Nat → Nat → hp_M → Option (Int32 × hp_M)) (a0 : Nat) (h : hp_M) : Option (Int32 × hp_M) := (onO h a0 12 (f_Md_is a0 31 h)).bind fun r1 => if r1 = 0 then (jn ((gR h a0 12 4).bind fun v6 => (gI h a0 12 9).bind fun v7 => (gaI h v6 v7).bind fun v8 => (onO h a0 12 (f_Md_put a0 v8 h)).bind fun h9 => (gI h9 a0 12 9).bind fun v10 => (pF h9 a0 12 9 (.int (v10 + 1))).bind fun h11 => some (1, h11)) fun (j5 : Option (Int32 × hp_M)) => (onO h a0 12 (f_Md_is a0 15 h)).bind fun r12 => if r12 = 0 then ((onO h a0 12 (f_Md_is a0 16 h)).bind fun r14 => if r14 = 0 then (jn ((gR h a0 12 4).bind fun v19 => (gI h a0 12 9).bind fun v20 => (gaI h v19 v20).bind fun v21 => (onO h a0 12 (f_Md_isOne a0 v21 h)).bind fun r22 => some (r22.1, r22.2)) fun (j18 : Option (Int32 × hp_M)) => (onO h a0 12 (f_Md_is a0 12 h)).bind fun r23 => if r23 = 0 then ((onO h a0 12 (f_Md_is a0 13 h)).bind fun r25 => if r25 = 0 then ((onO h a0 12 (f_Md_is a0 14 h)).bind fun r27 => if r27 = 0 then ((onO h a0 12 (f_Md_isSign a0 45 h)).bind fun r29 => if r29 = 0 then (jn (fun (u37 : Int32) (u38 : Int32) (h39 : hp_M) => (onO h39 a0 12 (f_Md_isSign a0 40 h39)).bind fun r40 => if r40 = 0 then (some (0, h39)) else ((onO h39 a0 12 (f_Md_isIn_ a0 h39)).bind fun r42 => if r42.1 = 0 then (some (0, r42.2)) else ((onO r42.2 a0 12 (rc 1 a0 r42.2)).bind fun r44 => if r44.1 = 0 then (some (0, r44.2)) else (jn (fun (h49 : hp_M) => jn (fun (h54 : hp_M) => (onO h54 a0 12 (f_Md_eatSign a0 41 h54)).bind fun r55 => some (r55.1, r55.2)) fun (j53 : hp_M → Option (Int32 × hp_M)) => (gI h49 a0 12 10).bind fun v56 => (pF h49 a0 12 10 (.int (v56 - 1))).bind fun h57 => if u38 = 0 then (j53 h57) else ((onO h57 a0 12 (f_Md_put a0 u37 h57)).bind fun h59 => j53 h59)) fun (j48 : hp_M → Option (Int32 × hp_M)) => if u38 = 0 then (j48 r44.2) else ((onO r44.2 a0 12 (f_Md_eatSign a0 44 r44.2)).bind fun r61 => if r61.1 = 0 then (some (0, r61.2)) else ((onO r61.2 a0 12 (rc 1 a0 r61.2)).bind fun r63 => if r63.1 = 0 then (some (0, r63.2)) else (j48 r63.2))))))) fun (j36 : Int32 → Int32 → hp_M → Option (Int32 × hp_M)) => jn (fun (u71 : Int32) (h72 : hp_M) => j36 u71 1 h72) fun (j70 : Int32 → hp_M → Option (Int32 × hp_M)) => (gR h a0 12 4).bind fun v73 => (gI h a0 12 9).bind fun v74 => (gaI h v73 v74).bind fun v75 => (onO h a0 12 (f_Md_eat a0 20 h)).bind fun r76 => if r76.1 = 0 then ((onO r76.2 a0 12 (f_Md_eat a0 21 r76.2)).bind fun r78 => if r78.1 = 0 then (j36 v75 0 r78.2) else (j70 v75 r78.2)) else (j70 v75 r76.2)) else ((onO h a0 12 (f_Md_isIn_ a0 h)).bind fun r80 => if r80.1 = 0 then (some (0, r80.2)) else ((onO r80.2 a0 12 (rc 2 a0 r80.2)).bind fun r82 => if r82.1 = 0 then (some (0, r82.2)) else ((gI r82.2 a0 12 10).bind fun v84 => (pF r82.2 a0 12 10 (.int (v84 - 1))).bind fun h85 => (onO h85 a0 12 (f_Md_put a0 41 h85)).bind fun h86 => some (1, h86))))) else ((onO h a0 12 (f_Md_isPair a0 14 h)).bind fun r87 => some (r87.1, r87.2))) else (j18)) else (j18)) else (j5)) else (j5)) else ((onO h a0 12 (f_Md_put a0 40 h)).bind fun h88 => (gI h88 a0 12 9).bind fun v89 => (onO h88 a0 12 (f_Md_numberAt fl a0 v89 h88)).bind fun r90 => (onO h88 a0 12 (f_Md_put a0 r90 h88)).bind fun h91 => (gI h91 a0 12 9).bind fun v92 => (pF h91 a0 12 9 (.int (v92 + 1))).bind fun h93 => some (1, h93))
def g_Md_isProduct (fl : Nat) : Nat → Nat → Nat → hp_M → Option (Int32 × hp_M)
  | 0, _, _, _ => none
  | n + 1, k, a, h => if k = 0 then f_Md_isProduct_body fl (g_Md_isProduct fl n) a h else if k = 1 then f_Md_isSum_body fl (g_Md_isProduct fl n) a h else f_Md_isValue_body fl (g_Md_isProduct fl n) a h
def f_Md_isProduct (fl : Nat) (a0 : Nat) (h : hp_M) : Option (Int32 × hp_M) := g_Md_isProduct fl 64 0 a0 h
def f_Md_isSum (fl : Nat) (a0 : Nat) (h : hp_M) : Option (Int32 × hp_M) := g_Md_isProduct fl 64 1 a0 h
def f_Md_isValue (fl : Nat) (a0 : Nat) (h : hp_M) : Option (Int32 × hp_M) := g_Md_isProduct fl 64 2 a0 h
set_option maxRecDepth 100000 in
set_option maxHeartbeats 4000000 in
theorem b_Md_isProduct_9 {p : Program} {l : Launch} {e : Env} {s : State} {m : MethodId} {args : Array Value} {below : List Frame} {meth : Method} {c : Code} {Q : State → Prop} {w : hp_W} {out : Int32 × hp_M} (fl : Nat)  (nr : Nat) (rc : Nat → Nat → hp_M → Option (Int32 × hp_M)) (hrec0 : ∀ (a : Nat) (h : hp_M) (r : Int32 × hp_M), rc 0 a h = some r → CT l w yX13_isProduct cX13_isProduct 2 (some .boolean) (rm_g_Md_isProduct nr) [.ref a] h (some (.int r.1)) r.2) (hrec1 : ∀ (a : Nat) (h : hp_M) (r : Int32 × hp_M), rc 1 a h = some r → CT l w yX13_isSum cX13_isSum 2 (some .boolean) (rm_g_Md_isProduct nr) [.ref a] h (some (.int r.1)) r.2) (hrec2 : ∀ (a : Nat) (h : hp_M) (r : Int32 × hp_M), rc 2 a h = some r → CT l w yX13_isValue cX13_isValue 3 (some .boolean) (rm_g_Md_isProduct nr) [.ref a] h (some (.int r.1)) r.2)  (a0 : Nat) (C : Cx p m c cX13_isProduct 2 s args RX13 w) (hr : meth.sig.returnType = some .boolean) (hlk : meth.locks = false) (hnm : meth.name = "isProduct") (hQ : QM below w args s (rm_g_Md_isProduct (nr + 1)) (some .boolean) (some (.int out.1)) out.2 = Q)  : ∀ (n : Nat) (h : hp_M), J p l e (rm_g_Md_isProduct (nr + 1)) s m args below meth c Q w 2 0 0 9 [(0, .ref a0)] [] h (f_Md_isProduct_b9 fl rc a0 n h) out := by
  intro n
  induction n with
  | zero => intro h; exact j_none
  | succ n ih =>
    intro h
    rw [f_Md_isProduct_b9]
    refine j_jn (P := fun j1006 => J p l e (rm_g_Md_isProduct (nr + 1)) s m args below meth c Q w 2 0 0 36 [(0, .ref a0)] [] h (j1006) out) ?_ (fun j1006 hj1006 => ?_)
    · refine j_jn (P := fun (j1008 : Int32 → Option (Int32 × hp_M)) => ∀ (u1009 : Int32), J p l e (rm_g_Md_isProduct (nr + 1)) s m args below meth c Q w 2 0 0 66 [(0, .ref a0)] [.int u1009] h (j1008 u1009) out) ?_ (fun j1008 hj1008 => ?_)
      · intro u1009
        refine j_istore_n C [(1, _), (0, _)] dX13_isProduct_66 (i := 1) rfl (by decide) rfl ?_
        refine j_aload_n C dX13_isProduct_67 (i := 0) rfl rfl ?_
        refine j_dup C dX13_isProduct_68 rfl ?_
        refine j_getI C g_X13_113 dX13_isProduct_69 (fun v1010 ev1010 => ?_)
        refine j_iconst C (v := 1) dX13_isProduct_72 (by decide) ?_
        refine j_iadd C dX13_isProduct_73 ?_
        refine j_putI C p_X13_113 (fun q => nomatch q) dX13_isProduct_74 (fun h1011 eh1011 => ?_)
        refine j_aload_n C dX13_isProduct_77 (i := 0) rfl rfl ?_
        refine j_callVim C (As := []) (rest := []) k_X13_202 ⟨by simp only [rm_g_Md_isProduct]; omega, by simp only [rm_g_Md_isProduct]; omega⟩ rfl (Nat.le_of_ble_eq_true rfl) ⟨Nat.le_of_ble_eq_true rfl, Nat.le_of_ble_eq_true rfl⟩ rfl dX13_isProduct_78 (fun r0 q0 => hrec2 _  _ r0 q0) (fun r1012 er1012 nr1012 => ?_)
        refine j_ifne C (tgt := 86) dX13_isProduct_81 (by decide) (fun q1013 => ?_) (fun q1013 => ?_)
        · refine j_iconst C (v := 0) dX13_isProduct_84 (by decide) ?_
          exact e_iretM C hQ hr rfl hlk dX13_isProduct_85 (Nat.le_of_ble_eq_true rfl) (Nat.le_of_ble_eq_true rfl)
        · refine j_aload_n C dX13_isProduct_86 (i := 0) rfl rfl ?_
          refine j_iload_n C dX13_isProduct_87 (i := 1) rfl rfl ?_
          refine j_callVv C (As := [.int _]) (rest := []) k_X13_133 ⟨by simp only [rm_g_Md_isProduct]; omega, by simp only [rm_g_Md_isProduct]; omega⟩ rfl (Nat.le_of_ble_eq_true rfl) ⟨Nat.le_of_ble_eq_true rfl, Nat.le_of_ble_eq_true rfl⟩ rfl dX13_isProduct_88 (fun r0 q0 => c_Md_put l w _ _ _ _ q0) (fun h1014 eh1014 _ => ?_)
          refine j_goto C (tgt := 9) dX13_isProduct_91 (by decide) ?_
          exact j_sub [1] rfl (ih _)
      · refine j_aload_n C dX13_isProduct_36 (i := 0) rfl rfl ?_
        refine j_bipush C (v := 42) dX13_isProduct_37 (by decide) ?_
        refine j_callVi C (As := [.int _]) (rest := []) k_X13_187 ⟨by simp only [rm_g_Md_isProduct]; omega, by simp only [rm_g_Md_isProduct]; omega⟩ rfl (Nat.le_of_ble_eq_true rfl) ⟨Nat.le_of_ble_eq_true rfl, Nat.le_of_ble_eq_true rfl⟩ rfl dX13_isProduct_39 (fun r0 q0 => c_Md_isSign l w _ _ _ _ q0) (fun r1015 er1015 nr1015 => ?_)
        refine j_ifeq C (tgt := 50) dX13_isProduct_42 (by decide) (fun q1016 => ?_) (fun q1016 => ?_)
        · refine j_aload_n C dX13_isProduct_50 (i := 0) rfl rfl ?_
          refine j_bipush C (v := 47) dX13_isProduct_51 (by decide) ?_
          refine j_callVi C (As := [.int _]) (rest := []) k_X13_187 ⟨by simp only [rm_g_Md_isProduct]; omega, by simp only [rm_g_Md_isProduct]; omega⟩ rfl (Nat.le_of_ble_eq_true rfl) ⟨Nat.le_of_ble_eq_true rfl, Nat.le_of_ble_eq_true rfl⟩ rfl dX13_isProduct_53 (fun r0 q0 => c_Md_isSign l w _ _ _ _ q0) (fun r1017 er1017 nr1017 => ?_)
          refine j_ifeq C (tgt := 64) dX13_isProduct_56 (by decide) (fun q1018 => ?_) (fun q1018 => ?_)
          · refine j_bipush C (v := 46) dX13_isProduct_64 (by decide) ?_
            exact hj1008 _
          · refine j_bipush C (v := 45) dX13_isProduct_59 (by decide) ?_
            refine j_goto C (tgt := 66) dX13_isProduct_61 (by decide) ?_
            exact hj1008 _
        · refine j_bipush C (v := 44) dX13_isProduct_45 (by decide) ?_
          refine j_goto C (tgt := 66) dX13_isProduct_47 (by decide) ?_
          exact hj1008 _
    · refine j_aload_n C dX13_isProduct_9 (i := 0) rfl rfl ?_
      refine j_bipush C (v := 42) dX13_isProduct_10 (by decide) ?_
      refine j_callVi C (As := [.int _]) (rest := []) k_X13_187 ⟨by simp only [rm_g_Md_isProduct]; omega, by simp only [rm_g_Md_isProduct]; omega⟩ rfl (Nat.le_of_ble_eq_true rfl) ⟨Nat.le_of_ble_eq_true rfl, Nat.le_of_ble_eq_true rfl⟩ rfl dX13_isProduct_12 (fun r0 q0 => c_Md_isSign l w _ _ _ _ q0) (fun r1019 er1019 nr1019 => ?_)
      refine j_ifne C (tgt := 36) dX13_isProduct_15 (by decide) (fun q1020 => ?_) (fun q1020 => ?_)
      · refine j_aload_n C dX13_isProduct_18 (i := 0) rfl rfl ?_
        refine j_bipush C (v := 47) dX13_isProduct_19 (by decide) ?_
        refine j_callVi C (As := [.int _]) (rest := []) k_X13_187 ⟨by simp only [rm_g_Md_isProduct]; omega, by simp only [rm_g_Md_isProduct]; omega⟩ rfl (Nat.le_of_ble_eq_true rfl) ⟨Nat.le_of_ble_eq_true rfl, Nat.le_of_ble_eq_true rfl⟩ rfl dX13_isProduct_21 (fun r0 q0 => c_Md_isSign l w _ _ _ _ q0) (fun r1021 er1021 nr1021 => ?_)
        refine j_ifne C (tgt := 36) dX13_isProduct_24 (by decide) (fun q1022 => ?_) (fun q1022 => ?_)
        · refine j_aload_n C dX13_isProduct_27 (i := 0) rfl rfl ?_
          refine j_bipush C (v := 37) dX13_isProduct_28 (by decide) ?_
          refine j_callVi C (As := [.int _]) (rest := []) k_X13_187 ⟨by simp only [rm_g_Md_isProduct]; omega, by simp only [rm_g_Md_isProduct]; omega⟩ rfl (Nat.le_of_ble_eq_true rfl) ⟨Nat.le_of_ble_eq_true rfl, Nat.le_of_ble_eq_true rfl⟩ rfl dX13_isProduct_30 (fun r0 q0 => c_Md_isSign l w _ _ _ _ q0) (fun r1023 er1023 nr1023 => ?_)
          refine j_ifeq C (tgt := 94) dX13_isProduct_33 (by decide) (fun q1024 => ?_) (fun q1024 => ?_)
          · refine j_iconst C (v := 1) dX13_isProduct_94 (by decide) ?_
            exact e_iretM C hQ hr rfl hlk dX13_isProduct_95 (Nat.le_of_ble_eq_true rfl) (Nat.le_of_ble_eq_true rfl)
          · exact hj1006
        · exact hj1006
      · exact hj1006
set_option maxRecDepth 100000 in
set_option maxHeartbeats 4000000 in
theorem cb_Md_isProduct (l : Launch) (w : hp_W) (fl : Nat) (nr : Nat) (rc : Nat → Nat → hp_M → Option (Int32 × hp_M)) (hrec0 : ∀ (a : Nat) (h : hp_M) (r : Int32 × hp_M), rc 0 a h = some r → CT l w yX13_isProduct cX13_isProduct 2 (some .boolean) (rm_g_Md_isProduct nr) [.ref a] h (some (.int r.1)) r.2) (hrec1 : ∀ (a : Nat) (h : hp_M) (r : Int32 × hp_M), rc 1 a h = some r → CT l w yX13_isSum cX13_isSum 2 (some .boolean) (rm_g_Md_isProduct nr) [.ref a] h (some (.int r.1)) r.2) (hrec2 : ∀ (a : Nat) (h : hp_M) (r : Int32 × hp_M), rc 2 a h = some r → CT l w yX13_isValue cX13_isValue 3 (some .boolean) (rm_g_Md_isProduct nr) [.ref a] h (some (.int r.1)) r.2) (a0 : Nat) (h : hp_M) (out : Int32 × hp_M) (hX : f_Md_isProduct_body fl rc a0 h = some out) : CT l w yX13_isProduct cX13_isProduct 2 (some .boolean) (rm_g_Md_isProduct (nr + 1)) [.ref a0] h (some (.int out.1)) out.2 := by
  unfold f_Md_isProduct_body at hX
  refine ct_of (by decide +kernel) (Nat.le_of_ble_eq_true rfl) hX ?_
  intro p e s m args below meth c Q C hr hlk hnm hQ
  refine j_aload_n C dX13_isProduct_0 (i := 0) rfl rfl ?_
  refine j_callVim C (As := []) (rest := []) k_X13_202 ⟨by simp only [rm_g_Md_isProduct]; omega, by simp only [rm_g_Md_isProduct]; omega⟩ rfl (Nat.le_of_ble_eq_true rfl) ⟨Nat.le_of_ble_eq_true rfl, Nat.le_of_ble_eq_true rfl⟩ rfl dX13_isProduct_1 (fun r0 q0 => hrec2 _  _ r0 q0) (fun r1 er1 nr1 => ?_)
  refine j_ifne C (tgt := 9) dX13_isProduct_4 (by decide) (fun q2 => ?_) (fun q2 => ?_)
  · refine j_iconst C (v := 0) dX13_isProduct_7 (by decide) ?_
    exact e_iretM C hQ hr rfl hlk dX13_isProduct_8 (Nat.le_of_ble_eq_true rfl) (Nat.le_of_ble_eq_true rfl)
  · refine j_sub [0] rfl (b_Md_isProduct_9 fl nr rc hrec0 hrec1 hrec2  _ C hr hlk hnm hQ  _ _)
set_option maxRecDepth 100000 in
set_option maxHeartbeats 4000000 in
theorem b_Md_isSum_9 {p : Program} {l : Launch} {e : Env} {s : State} {m : MethodId} {args : Array Value} {below : List Frame} {meth : Method} {c : Code} {Q : State → Prop} {w : hp_W} {out : Int32 × hp_M} (fl : Nat)  (nr : Nat) (rc : Nat → Nat → hp_M → Option (Int32 × hp_M)) (hrec0 : ∀ (a : Nat) (h : hp_M) (r : Int32 × hp_M), rc 0 a h = some r → CT l w yX13_isProduct cX13_isProduct 2 (some .boolean) (rm_g_Md_isProduct nr) [.ref a] h (some (.int r.1)) r.2) (hrec1 : ∀ (a : Nat) (h : hp_M) (r : Int32 × hp_M), rc 1 a h = some r → CT l w yX13_isSum cX13_isSum 2 (some .boolean) (rm_g_Md_isProduct nr) [.ref a] h (some (.int r.1)) r.2) (hrec2 : ∀ (a : Nat) (h : hp_M) (r : Int32 × hp_M), rc 2 a h = some r → CT l w yX13_isValue cX13_isValue 3 (some .boolean) (rm_g_Md_isProduct nr) [.ref a] h (some (.int r.1)) r.2)  (a0 : Nat) (C : Cx p m c cX13_isSum 2 s args RX13 w) (hr : meth.sig.returnType = some .boolean) (hlk : meth.locks = false) (hnm : meth.name = "isSum") (hQ : QM below w args s (rm_g_Md_isProduct (nr + 1)) (some .boolean) (some (.int out.1)) out.2 = Q)  : ∀ (n : Nat) (h : hp_M), J p l e (rm_g_Md_isProduct (nr + 1)) s m args below meth c Q w 2 0 0 9 [(0, .ref a0)] [] h (f_Md_isSum_b9 fl rc a0 n h) out := by
  intro n
  induction n with
  | zero => intro h; exact j_none
  | succ n ih =>
    intro h
    rw [f_Md_isSum_b9]
    refine j_jn (P := fun j1005 => J p l e (rm_g_Md_isProduct (nr + 1)) s m args below meth c Q w 2 0 0 27 [(0, .ref a0)] [] h (j1005) out) ?_ (fun j1005 hj1005 => ?_)
    · refine j_jn (P := fun (j1007 : Int32 → Option (Int32 × hp_M)) => ∀ (u1008 : Int32), J p l e (rm_g_Md_isProduct (nr + 1)) s m args below meth c Q w 2 0 0 43 [(0, .ref a0)] [.int u1008] h (j1007 u1008) out) ?_ (fun j1007 hj1007 => ?_)
      · intro u1008
        refine j_istore_n C [(1, _), (0, _)] dX13_isSum_43 (i := 1) rfl (by decide) rfl ?_
        refine j_aload_n C dX13_isSum_44 (i := 0) rfl rfl ?_
        refine j_dup C dX13_isSum_45 rfl ?_
        refine j_getI C g_X13_113 dX13_isSum_46 (fun v1009 ev1009 => ?_)
        refine j_iconst C (v := 1) dX13_isSum_49 (by decide) ?_
        refine j_iadd C dX13_isSum_50 ?_
        refine j_putI C p_X13_113 (fun q => nomatch q) dX13_isSum_51 (fun h1010 eh1010 => ?_)
        refine j_aload_n C dX13_isSum_54 (i := 0) rfl rfl ?_
        refine j_callVim C (As := []) (rest := []) k_X13_199 ⟨by simp only [rm_g_Md_isProduct]; omega, by simp only [rm_g_Md_isProduct]; omega⟩ rfl (Nat.le_of_ble_eq_true rfl) ⟨Nat.le_of_ble_eq_true rfl, Nat.le_of_ble_eq_true rfl⟩ rfl dX13_isSum_55 (fun r0 q0 => hrec0 _  _ r0 q0) (fun r1011 er1011 nr1011 => ?_)
        refine j_ifne C (tgt := 63) dX13_isSum_58 (by decide) (fun q1012 => ?_) (fun q1012 => ?_)
        · refine j_iconst C (v := 0) dX13_isSum_61 (by decide) ?_
          exact e_iretM C hQ hr rfl hlk dX13_isSum_62 (Nat.le_of_ble_eq_true rfl) (Nat.le_of_ble_eq_true rfl)
        · refine j_aload_n C dX13_isSum_63 (i := 0) rfl rfl ?_
          refine j_iload_n C dX13_isSum_64 (i := 1) rfl rfl ?_
          refine j_callVv C (As := [.int _]) (rest := []) k_X13_133 ⟨by simp only [rm_g_Md_isProduct]; omega, by simp only [rm_g_Md_isProduct]; omega⟩ rfl (Nat.le_of_ble_eq_true rfl) ⟨Nat.le_of_ble_eq_true rfl, Nat.le_of_ble_eq_true rfl⟩ rfl dX13_isSum_65 (fun r0 q0 => c_Md_put l w _ _ _ _ q0) (fun h1013 eh1013 _ => ?_)
          refine j_goto C (tgt := 9) dX13_isSum_68 (by decide) ?_
          exact j_sub [1] rfl (ih _)
      · refine j_aload_n C dX13_isSum_27 (i := 0) rfl rfl ?_
        refine j_bipush C (v := 43) dX13_isSum_28 (by decide) ?_
        refine j_callVi C (As := [.int _]) (rest := []) k_X13_187 ⟨by simp only [rm_g_Md_isProduct]; omega, by simp only [rm_g_Md_isProduct]; omega⟩ rfl (Nat.le_of_ble_eq_true rfl) ⟨Nat.le_of_ble_eq_true rfl, Nat.le_of_ble_eq_true rfl⟩ rfl dX13_isSum_30 (fun r0 q0 => c_Md_isSign l w _ _ _ _ q0) (fun r1014 er1014 nr1014 => ?_)
        refine j_ifeq C (tgt := 41) dX13_isSum_33 (by decide) (fun q1015 => ?_) (fun q1015 => ?_)
        · refine j_bipush C (v := 43) dX13_isSum_41 (by decide) ?_
          exact hj1007 _
        · refine j_bipush C (v := 42) dX13_isSum_36 (by decide) ?_
          refine j_goto C (tgt := 43) dX13_isSum_38 (by decide) ?_
          exact hj1007 _
    · refine j_aload_n C dX13_isSum_9 (i := 0) rfl rfl ?_
      refine j_bipush C (v := 43) dX13_isSum_10 (by decide) ?_
      refine j_callVi C (As := [.int _]) (rest := []) k_X13_187 ⟨by simp only [rm_g_Md_isProduct]; omega, by simp only [rm_g_Md_isProduct]; omega⟩ rfl (Nat.le_of_ble_eq_true rfl) ⟨Nat.le_of_ble_eq_true rfl, Nat.le_of_ble_eq_true rfl⟩ rfl dX13_isSum_12 (fun r0 q0 => c_Md_isSign l w _ _ _ _ q0) (fun r1016 er1016 nr1016 => ?_)
      refine j_ifne C (tgt := 27) dX13_isSum_15 (by decide) (fun q1017 => ?_) (fun q1017 => ?_)
      · refine j_aload_n C dX13_isSum_18 (i := 0) rfl rfl ?_
        refine j_bipush C (v := 45) dX13_isSum_19 (by decide) ?_
        refine j_callVi C (As := [.int _]) (rest := []) k_X13_187 ⟨by simp only [rm_g_Md_isProduct]; omega, by simp only [rm_g_Md_isProduct]; omega⟩ rfl (Nat.le_of_ble_eq_true rfl) ⟨Nat.le_of_ble_eq_true rfl, Nat.le_of_ble_eq_true rfl⟩ rfl dX13_isSum_21 (fun r0 q0 => c_Md_isSign l w _ _ _ _ q0) (fun r1018 er1018 nr1018 => ?_)
        refine j_ifeq C (tgt := 71) dX13_isSum_24 (by decide) (fun q1019 => ?_) (fun q1019 => ?_)
        · refine j_iconst C (v := 1) dX13_isSum_71 (by decide) ?_
          exact e_iretM C hQ hr rfl hlk dX13_isSum_72 (Nat.le_of_ble_eq_true rfl) (Nat.le_of_ble_eq_true rfl)
        · exact hj1005
      · exact hj1005
set_option maxRecDepth 100000 in
set_option maxHeartbeats 4000000 in
theorem cb_Md_isSum (l : Launch) (w : hp_W) (fl : Nat) (nr : Nat) (rc : Nat → Nat → hp_M → Option (Int32 × hp_M)) (hrec0 : ∀ (a : Nat) (h : hp_M) (r : Int32 × hp_M), rc 0 a h = some r → CT l w yX13_isProduct cX13_isProduct 2 (some .boolean) (rm_g_Md_isProduct nr) [.ref a] h (some (.int r.1)) r.2) (hrec1 : ∀ (a : Nat) (h : hp_M) (r : Int32 × hp_M), rc 1 a h = some r → CT l w yX13_isSum cX13_isSum 2 (some .boolean) (rm_g_Md_isProduct nr) [.ref a] h (some (.int r.1)) r.2) (hrec2 : ∀ (a : Nat) (h : hp_M) (r : Int32 × hp_M), rc 2 a h = some r → CT l w yX13_isValue cX13_isValue 3 (some .boolean) (rm_g_Md_isProduct nr) [.ref a] h (some (.int r.1)) r.2) (a0 : Nat) (h : hp_M) (out : Int32 × hp_M) (hX : f_Md_isSum_body fl rc a0 h = some out) : CT l w yX13_isSum cX13_isSum 2 (some .boolean) (rm_g_Md_isProduct (nr + 1)) [.ref a0] h (some (.int out.1)) out.2 := by
  unfold f_Md_isSum_body at hX
  refine ct_of (by decide +kernel) (Nat.le_of_ble_eq_true rfl) hX ?_
  intro p e s m args below meth c Q C hr hlk hnm hQ
  refine j_aload_n C dX13_isSum_0 (i := 0) rfl rfl ?_
  refine j_callVim C (As := []) (rest := []) k_X13_199 ⟨by simp only [rm_g_Md_isProduct]; omega, by simp only [rm_g_Md_isProduct]; omega⟩ rfl (Nat.le_of_ble_eq_true rfl) ⟨Nat.le_of_ble_eq_true rfl, Nat.le_of_ble_eq_true rfl⟩ rfl dX13_isSum_1 (fun r0 q0 => hrec0 _  _ r0 q0) (fun r1 er1 nr1 => ?_)
  refine j_ifne C (tgt := 9) dX13_isSum_4 (by decide) (fun q2 => ?_) (fun q2 => ?_)
  · refine j_iconst C (v := 0) dX13_isSum_7 (by decide) ?_
    exact e_iretM C hQ hr rfl hlk dX13_isSum_8 (Nat.le_of_ble_eq_true rfl) (Nat.le_of_ble_eq_true rfl)
  · refine j_sub [0] rfl (b_Md_isSum_9 fl nr rc hrec0 hrec1 hrec2  _ C hr hlk hnm hQ  _ _)
set_option maxRecDepth 100000 in
set_option maxHeartbeats 4000000 in
theorem cb_Md_isValue (l : Launch) (w : hp_W) (fl : Nat) (nr : Nat) (rc : Nat → Nat → hp_M → Option (Int32 × hp_M)) (hrec0 : ∀ (a : Nat) (h : hp_M) (r : Int32 × hp_M), rc 0 a h = some r → CT l w yX13_isProduct cX13_isProduct 2 (some .boolean) (rm_g_Md_isProduct nr) [.ref a] h (some (.int r.1)) r.2) (hrec1 : ∀ (a : Nat) (h : hp_M) (r : Int32 × hp_M), rc 1 a h = some r → CT l w yX13_isSum cX13_isSum 2 (some .boolean) (rm_g_Md_isProduct nr) [.ref a] h (some (.int r.1)) r.2) (hrec2 : ∀ (a : Nat) (h : hp_M) (r : Int32 × hp_M), rc 2 a h = some r → CT l w yX13_isValue cX13_isValue 3 (some .boolean) (rm_g_Md_isProduct nr) [.ref a] h (some (.int r.1)) r.2) (a0 : Nat) (h : hp_M) (out : Int32 × hp_M) (hX : f_Md_isValue_body fl rc a0 h = some out) : CT l w yX13_isValue cX13_isValue 3 (some .boolean) (rm_g_Md_isProduct (nr + 1)) [.ref a0] h (some (.int out.1)) out.2 := by
  unfold f_Md_isValue_body at hX
  refine ct_of (by decide +kernel) (Nat.le_of_ble_eq_true rfl) hX ?_
  intro p e s m args below meth c Q C hr hlk hnm hQ
  refine j_aload_n C dX13_isValue_0 (i := 0) rfl rfl ?_
  refine j_bipush C (v := 31) dX13_isValue_1 (by decide) ?_
  refine j_callVi C (As := [.int _]) (rest := []) k_X13_116 ⟨by simp only [rm_g_Md_isProduct]; omega, by simp only [rm_g_Md_isProduct]; omega⟩ rfl (Nat.le_of_ble_eq_true rfl) ⟨Nat.le_of_ble_eq_true rfl, Nat.le_of_ble_eq_true rfl⟩ rfl dX13_isValue_3 (fun r0 q0 => c_Md_is l w _ _ _ _ q0) (fun r1 er1 nr1 => ?_)
  refine j_ifeq C (tgt := 39) dX13_isValue_6 (by decide) (fun q2 => ?_) (fun q2 => ?_)
  · refine j_jn (P := fun j5 => J p l e (rm_g_Md_isProduct (nr + 1)) s m args below meth c Q w 3 0 0 57 [(0, .ref a0)] [] h (j5) out) ?_ (fun j5 hj5 => ?_)
    · refine j_aload_n C dX13_isValue_57 (i := 0) rfl rfl ?_
      refine j_aload_n C dX13_isValue_58 (i := 0) rfl rfl ?_
      refine j_getR C g_X13_17 dX13_isValue_59 (fun v6 ev6 => ?_)
      refine j_aload_n C dX13_isValue_62 (i := 0) rfl rfl ?_
      refine j_getI C g_X13_113 dX13_isValue_63 (fun v7 ev7 => ?_)
      refine j_iaload C dX13_isValue_66 (fun v8 ev8 => ?_)
      refine j_callVv C (As := [.int _]) (rest := []) k_X13_133 ⟨by simp only [rm_g_Md_isProduct]; omega, by simp only [rm_g_Md_isProduct]; omega⟩ rfl (Nat.le_of_ble_eq_true rfl) ⟨Nat.le_of_ble_eq_true rfl, Nat.le_of_ble_eq_true rfl⟩ rfl dX13_isValue_67 (fun r0 q0 => c_Md_put l w _ _ _ _ q0) (fun h9 eh9 _ => ?_)
      refine j_aload_n C dX13_isValue_70 (i := 0) rfl rfl ?_
      refine j_dup C dX13_isValue_71 rfl ?_
      refine j_getI C g_X13_113 dX13_isValue_72 (fun v10 ev10 => ?_)
      refine j_iconst C (v := 1) dX13_isValue_75 (by decide) ?_
      refine j_iadd C dX13_isValue_76 ?_
      refine j_putI C p_X13_113 (fun q => nomatch q) dX13_isValue_77 (fun h11 eh11 => ?_)
      refine j_iconst C (v := 1) dX13_isValue_80 (by decide) ?_
      exact e_iretM C hQ hr rfl hlk dX13_isValue_81 (Nat.le_of_ble_eq_true rfl) (Nat.le_of_ble_eq_true rfl)
    · refine j_aload_n C dX13_isValue_39 (i := 0) rfl rfl ?_
      refine j_bipush C (v := 15) dX13_isValue_40 (by decide) ?_
      refine j_callVi C (As := [.int _]) (rest := []) k_X13_116 ⟨by simp only [rm_g_Md_isProduct]; omega, by simp only [rm_g_Md_isProduct]; omega⟩ rfl (Nat.le_of_ble_eq_true rfl) ⟨Nat.le_of_ble_eq_true rfl, Nat.le_of_ble_eq_true rfl⟩ rfl dX13_isValue_42 (fun r0 q0 => c_Md_is l w _ _ _ _ q0) (fun r12 er12 nr12 => ?_)
      refine j_ifne C (tgt := 57) dX13_isValue_45 (by decide) (fun q13 => ?_) (fun q13 => ?_)
      · refine j_aload_n C dX13_isValue_48 (i := 0) rfl rfl ?_
        refine j_bipush C (v := 16) dX13_isValue_49 (by decide) ?_
        refine j_callVi C (As := [.int _]) (rest := []) k_X13_116 ⟨by simp only [rm_g_Md_isProduct]; omega, by simp only [rm_g_Md_isProduct]; omega⟩ rfl (Nat.le_of_ble_eq_true rfl) ⟨Nat.le_of_ble_eq_true rfl, Nat.le_of_ble_eq_true rfl⟩ rfl dX13_isValue_51 (fun r0 q0 => c_Md_is l w _ _ _ _ q0) (fun r14 er14 nr14 => ?_)
        refine j_ifeq C (tgt := 82) dX13_isValue_54 (by decide) (fun q15 => ?_) (fun q15 => ?_)
        · refine j_jn (P := fun j18 => J p l e (rm_g_Md_isProduct (nr + 1)) s m args below meth c Q w 3 0 0 100 [(0, .ref a0)] [] h (j18) out) ?_ (fun j18 hj18 => ?_)
          · refine j_aload_n C dX13_isValue_100 (i := 0) rfl rfl ?_
            refine j_aload_n C dX13_isValue_101 (i := 0) rfl rfl ?_
            refine j_getR C g_X13_17 dX13_isValue_102 (fun v19 ev19 => ?_)
            refine j_aload_n C dX13_isValue_105 (i := 0) rfl rfl ?_
            refine j_getI C g_X13_113 dX13_isValue_106 (fun v20 ev20 => ?_)
            refine j_iaload C dX13_isValue_109 (fun v21 ev21 => ?_)
            refine j_callVim C (As := [.int _]) (rest := []) k_X13_193 ⟨by simp only [rm_g_Md_isProduct]; omega, by simp only [rm_g_Md_isProduct]; omega⟩ rfl (Nat.le_of_ble_eq_true rfl) ⟨Nat.le_of_ble_eq_true rfl, Nat.le_of_ble_eq_true rfl⟩ rfl dX13_isValue_110 (fun r0 q0 => c_Md_isOne l w _ _ _ _ q0) (fun r22 er22 nr22 => ?_)
            exact e_iretM C hQ hr (nr22 _ _ rfl rfl) hlk dX13_isValue_113 (Nat.le_of_ble_eq_true rfl) (Nat.le_of_ble_eq_true rfl)
          · refine j_aload_n C dX13_isValue_82 (i := 0) rfl rfl ?_
            refine j_bipush C (v := 12) dX13_isValue_83 (by decide) ?_
            refine j_callVi C (As := [.int _]) (rest := []) k_X13_116 ⟨by simp only [rm_g_Md_isProduct]; omega, by simp only [rm_g_Md_isProduct]; omega⟩ rfl (Nat.le_of_ble_eq_true rfl) ⟨Nat.le_of_ble_eq_true rfl, Nat.le_of_ble_eq_true rfl⟩ rfl dX13_isValue_85 (fun r0 q0 => c_Md_is l w _ _ _ _ q0) (fun r23 er23 nr23 => ?_)
            refine j_ifne C (tgt := 100) dX13_isValue_88 (by decide) (fun q24 => ?_) (fun q24 => ?_)
            · refine j_aload_n C dX13_isValue_91 (i := 0) rfl rfl ?_
              refine j_bipush C (v := 13) dX13_isValue_92 (by decide) ?_
              refine j_callVi C (As := [.int _]) (rest := []) k_X13_116 ⟨by simp only [rm_g_Md_isProduct]; omega, by simp only [rm_g_Md_isProduct]; omega⟩ rfl (Nat.le_of_ble_eq_true rfl) ⟨Nat.le_of_ble_eq_true rfl, Nat.le_of_ble_eq_true rfl⟩ rfl dX13_isValue_94 (fun r0 q0 => c_Md_is l w _ _ _ _ q0) (fun r25 er25 nr25 => ?_)
              refine j_ifeq C (tgt := 114) dX13_isValue_97 (by decide) (fun q26 => ?_) (fun q26 => ?_)
              · refine j_aload_n C dX13_isValue_114 (i := 0) rfl rfl ?_
                refine j_bipush C (v := 14) dX13_isValue_115 (by decide) ?_
                refine j_callVi C (As := [.int _]) (rest := []) k_X13_116 ⟨by simp only [rm_g_Md_isProduct]; omega, by simp only [rm_g_Md_isProduct]; omega⟩ rfl (Nat.le_of_ble_eq_true rfl) ⟨Nat.le_of_ble_eq_true rfl, Nat.le_of_ble_eq_true rfl⟩ rfl dX13_isValue_117 (fun r0 q0 => c_Md_is l w _ _ _ _ q0) (fun r27 er27 nr27 => ?_)
                refine j_ifeq C (tgt := 130) dX13_isValue_120 (by decide) (fun q28 => ?_) (fun q28 => ?_)
                · refine j_aload_n C dX13_isValue_130 (i := 0) rfl rfl ?_
                  refine j_bipush C (v := 45) dX13_isValue_131 (by decide) ?_
                  refine j_callVi C (As := [.int _]) (rest := []) k_X13_187 ⟨by simp only [rm_g_Md_isProduct]; omega, by simp only [rm_g_Md_isProduct]; omega⟩ rfl (Nat.le_of_ble_eq_true rfl) ⟨Nat.le_of_ble_eq_true rfl, Nat.le_of_ble_eq_true rfl⟩ rfl dX13_isValue_133 (fun r0 q0 => c_Md_isSign l w _ _ _ _ q0) (fun r29 er29 nr29 => ?_)
                  refine j_ifeq C (tgt := 173) dX13_isValue_136 (by decide) (fun q30 => ?_) (fun q30 => ?_)
                  · refine j_jn (P := fun (j36 : Int32 → Int32 → hp_M → Option (Int32 × hp_M)) => ∀ (u37 : Int32) (u38 : Int32) (h39 : hp_M), J p l e (rm_g_Md_isProduct (nr + 1)) s m args below meth c Q w 3 0 0 206 [(0, .ref a0), (1, .int u37)] [.int u38] h39 (j36 u37 u38 h39) out) ?_ (fun j36 hj36 => ?_)
                    · intro u37 u38 h39
                      refine j_istore_n C [(2, _), (0, _), (1, _)] dX13_isValue_206 (i := 2) rfl (by decide) rfl ?_
                      refine j_aload_n C dX13_isValue_207 (i := 0) rfl rfl ?_
                      refine j_bipush C (v := 40) dX13_isValue_208 (by decide) ?_
                      refine j_callVi C (As := [.int _]) (rest := []) k_X13_187 ⟨by simp only [rm_g_Md_isProduct]; omega, by simp only [rm_g_Md_isProduct]; omega⟩ rfl (Nat.le_of_ble_eq_true rfl) ⟨Nat.le_of_ble_eq_true rfl, Nat.le_of_ble_eq_true rfl⟩ rfl dX13_isValue_210 (fun r0 q0 => c_Md_isSign l w _ _ _ _ q0) (fun r40 er40 nr40 => ?_)
                      refine j_ifeq C (tgt := 250) dX13_isValue_213 (by decide) (fun q41 => ?_) (fun q41 => ?_)
                      · refine j_iconst C (v := 0) dX13_isValue_250 (by decide) ?_
                        exact e_iretM C hQ hr rfl hlk dX13_isValue_251 (Nat.le_of_ble_eq_true rfl) (Nat.le_of_ble_eq_true rfl)
                      · refine j_aload_n C dX13_isValue_216 (i := 0) rfl rfl ?_
                        refine j_callVim C (As := []) (rest := []) k_X13_185 ⟨by simp only [rm_g_Md_isProduct]; omega, by simp only [rm_g_Md_isProduct]; omega⟩ rfl (Nat.le_of_ble_eq_true rfl) ⟨Nat.le_of_ble_eq_true rfl, Nat.le_of_ble_eq_true rfl⟩ rfl dX13_isValue_217 (fun r0 q0 => c_Md_isIn_ l w _ _ _ q0) (fun r42 er42 nr42 => ?_)
                        refine j_ifeq C (tgt := 250) dX13_isValue_220 (by decide) (fun q43 => ?_) (fun q43 => ?_)
                        · refine j_iconst C (v := 0) dX13_isValue_250 (by decide) ?_
                          exact e_iretM C hQ hr rfl hlk dX13_isValue_251 (Nat.le_of_ble_eq_true rfl) (Nat.le_of_ble_eq_true rfl)
                        · refine j_aload_n C dX13_isValue_223 (i := 0) rfl rfl ?_
                          refine j_callVim C (As := []) (rest := []) k_X13_167 ⟨by simp only [rm_g_Md_isProduct]; omega, by simp only [rm_g_Md_isProduct]; omega⟩ rfl (Nat.le_of_ble_eq_true rfl) ⟨Nat.le_of_ble_eq_true rfl, Nat.le_of_ble_eq_true rfl⟩ rfl dX13_isValue_224 (fun r0 q0 => hrec1 _  _ r0 q0) (fun r44 er44 nr44 => ?_)
                          refine j_ifeq C (tgt := 250) dX13_isValue_227 (by decide) (fun q45 => ?_) (fun q45 => ?_)
                          · refine j_iconst C (v := 0) dX13_isValue_250 (by decide) ?_
                            exact e_iretM C hQ hr rfl hlk dX13_isValue_251 (Nat.le_of_ble_eq_true rfl) (Nat.le_of_ble_eq_true rfl)
                          · refine j_jn (P := fun (j48 : hp_M → Option (Int32 × hp_M)) => ∀ (h49 : hp_M), J p l e (rm_g_Md_isProduct (nr + 1)) s m args below meth c Q w 3 0 0 252 [(0, .ref a0), (1, .int u37), (2, .int u38)] [] h49 (j48 h49) out) ?_ (fun j48 hj48 => ?_)
                            · intro h49
                              refine j_jn (P := fun (j53 : hp_M → Option (Int32 × hp_M)) => ∀ (h54 : hp_M), J p l e (rm_g_Md_isProduct (nr + 1)) s m args below meth c Q w 3 0 0 271 [(0, .ref a0)] [] h54 (j53 h54) out) ?_ (fun j53 hj53 => ?_)
                              · intro h54
                                refine j_aload_n C dX13_isValue_271 (i := 0) rfl rfl ?_
                                refine j_bipush C (v := 41) dX13_isValue_272 (by decide) ?_
                                refine j_callVim C (As := [.int _]) (rest := []) k_X13_151 ⟨by simp only [rm_g_Md_isProduct]; omega, by simp only [rm_g_Md_isProduct]; omega⟩ rfl (Nat.le_of_ble_eq_true rfl) ⟨Nat.le_of_ble_eq_true rfl, Nat.le_of_ble_eq_true rfl⟩ rfl dX13_isValue_274 (fun r0 q0 => c_Md_eatSign l w _ _ _ _ q0) (fun r55 er55 nr55 => ?_)
                                exact e_iretM C hQ hr (nr55 _ _ rfl rfl) hlk dX13_isValue_277 (Nat.le_of_ble_eq_true rfl) (Nat.le_of_ble_eq_true rfl)
                              · refine j_aload_n C dX13_isValue_252 (i := 0) rfl rfl ?_
                                refine j_dup C dX13_isValue_253 rfl ?_
                                refine j_getI C g_X13_179 dX13_isValue_254 (fun v56 ev56 => ?_)
                                refine j_iconst C (v := 1) dX13_isValue_257 (by decide) ?_
                                refine j_isub C dX13_isValue_258 ?_
                                refine j_putI C p_X13_179 (fun q => nomatch q) dX13_isValue_259 (fun h57 eh57 => ?_)
                                refine j_iload_n C dX13_isValue_262 (i := 2) rfl rfl ?_
                                refine j_ifeq C (tgt := 271) dX13_isValue_263 (by decide) (fun q58 => ?_) (fun q58 => ?_)
                                · exact j_sub [0] rfl (hj53 _)
                                · refine j_aload_n C dX13_isValue_266 (i := 0) rfl rfl ?_
                                  refine j_iload_n C dX13_isValue_267 (i := 1) rfl rfl ?_
                                  refine j_callVv C (As := [.int _]) (rest := []) k_X13_133 ⟨by simp only [rm_g_Md_isProduct]; omega, by simp only [rm_g_Md_isProduct]; omega⟩ rfl (Nat.le_of_ble_eq_true rfl) ⟨Nat.le_of_ble_eq_true rfl, Nat.le_of_ble_eq_true rfl⟩ rfl dX13_isValue_268 (fun r0 q0 => c_Md_put l w _ _ _ _ q0) (fun h59 eh59 _ => ?_)
                                  exact j_sub [0] rfl (hj53 _)
                            · refine j_iload_n C dX13_isValue_230 (i := 2) rfl rfl ?_
                              refine j_ifeq C (tgt := 252) dX13_isValue_231 (by decide) (fun q60 => ?_) (fun q60 => ?_)
                              · exact j_sub [1, 2, 0] rfl (hj48 _)
                              · refine j_aload_n C dX13_isValue_234 (i := 0) rfl rfl ?_
                                refine j_bipush C (v := 44) dX13_isValue_235 (by decide) ?_
                                refine j_callVim C (As := [.int _]) (rest := []) k_X13_151 ⟨by simp only [rm_g_Md_isProduct]; omega, by simp only [rm_g_Md_isProduct]; omega⟩ rfl (Nat.le_of_ble_eq_true rfl) ⟨Nat.le_of_ble_eq_true rfl, Nat.le_of_ble_eq_true rfl⟩ rfl dX13_isValue_237 (fun r0 q0 => c_Md_eatSign l w _ _ _ _ q0) (fun r61 er61 nr61 => ?_)
                                refine j_ifeq C (tgt := 250) dX13_isValue_240 (by decide) (fun q62 => ?_) (fun q62 => ?_)
                                · refine j_iconst C (v := 0) dX13_isValue_250 (by decide) ?_
                                  exact e_iretM C hQ hr rfl hlk dX13_isValue_251 (Nat.le_of_ble_eq_true rfl) (Nat.le_of_ble_eq_true rfl)
                                · refine j_aload_n C dX13_isValue_243 (i := 0) rfl rfl ?_
                                  refine j_callVim C (As := []) (rest := []) k_X13_167 ⟨by simp only [rm_g_Md_isProduct]; omega, by simp only [rm_g_Md_isProduct]; omega⟩ rfl (Nat.le_of_ble_eq_true rfl) ⟨Nat.le_of_ble_eq_true rfl, Nat.le_of_ble_eq_true rfl⟩ rfl dX13_isValue_244 (fun r0 q0 => hrec1 _  _ r0 q0) (fun r63 er63 nr63 => ?_)
                                  refine j_ifne C (tgt := 252) dX13_isValue_247 (by decide) (fun q64 => ?_) (fun q64 => ?_)
                                  · refine j_iconst C (v := 0) dX13_isValue_250 (by decide) ?_
                                    exact e_iretM C hQ hr rfl hlk dX13_isValue_251 (Nat.le_of_ble_eq_true rfl) (Nat.le_of_ble_eq_true rfl)
                                  · exact j_sub [1, 2, 0] rfl (hj48 _)
                    · refine j_jn (P := fun (j70 : Int32 → hp_M → Option (Int32 × hp_M)) => ∀ (u71 : Int32) (h72 : hp_M), J p l e (rm_g_Md_isProduct (nr + 1)) s m args below meth c Q w 3 0 0 201 [(0, .ref a0), (1, .int u71)] [] h72 (j70 u71 h72) out) ?_ (fun j70 hj70 => ?_)
                      · intro u71 h72
                        refine j_iconst C (v := 1) dX13_isValue_201 (by decide) ?_
                        refine j_goto C (tgt := 206) dX13_isValue_202 (by decide) ?_
                        exact hj36 _ _ _
                      · refine j_aload_n C dX13_isValue_173 (i := 0) rfl rfl ?_
                        refine j_getR C g_X13_17 dX13_isValue_174 (fun v73 ev73 => ?_)
                        refine j_aload_n C dX13_isValue_177 (i := 0) rfl rfl ?_
                        refine j_getI C g_X13_113 dX13_isValue_178 (fun v74 ev74 => ?_)
                        refine j_iaload C dX13_isValue_181 (fun v75 ev75 => ?_)
                        refine j_istore_n C [(1, _), (0, _)] dX13_isValue_182 (i := 1) rfl (by decide) rfl ?_
                        refine j_aload_n C dX13_isValue_183 (i := 0) rfl rfl ?_
                        refine j_bipush C (v := 20) dX13_isValue_184 (by decide) ?_
                        refine j_callVim C (As := [.int _]) (rest := []) k_X13_119 ⟨by simp only [rm_g_Md_isProduct]; omega, by simp only [rm_g_Md_isProduct]; omega⟩ rfl (Nat.le_of_ble_eq_true rfl) ⟨Nat.le_of_ble_eq_true rfl, Nat.le_of_ble_eq_true rfl⟩ rfl dX13_isValue_186 (fun r0 q0 => c_Md_eat l w _ _ _ _ q0) (fun r76 er76 nr76 => ?_)
                        refine j_ifne C (tgt := 201) dX13_isValue_189 (by decide) (fun q77 => ?_) (fun q77 => ?_)
                        · refine j_aload_n C dX13_isValue_192 (i := 0) rfl rfl ?_
                          refine j_bipush C (v := 21) dX13_isValue_193 (by decide) ?_
                          refine j_callVim C (As := [.int _]) (rest := []) k_X13_119 ⟨by simp only [rm_g_Md_isProduct]; omega, by simp only [rm_g_Md_isProduct]; omega⟩ rfl (Nat.le_of_ble_eq_true rfl) ⟨Nat.le_of_ble_eq_true rfl, Nat.le_of_ble_eq_true rfl⟩ rfl dX13_isValue_195 (fun r0 q0 => c_Md_eat l w _ _ _ _ q0) (fun r78 er78 nr78 => ?_)
                          refine j_ifeq C (tgt := 205) dX13_isValue_198 (by decide) (fun q79 => ?_) (fun q79 => ?_)
                          · refine j_iconst C (v := 0) dX13_isValue_205 (by decide) ?_
                            exact j_sub [1, 0] rfl (hj36 _ _ _)
                          · exact j_sub [1, 0] rfl (hj70 _ _)
                        · exact j_sub [1, 0] rfl (hj70 _ _)
                  · refine j_aload_n C dX13_isValue_139 (i := 0) rfl rfl ?_
                    refine j_callVim C (As := []) (rest := []) k_X13_185 ⟨by simp only [rm_g_Md_isProduct]; omega, by simp only [rm_g_Md_isProduct]; omega⟩ rfl (Nat.le_of_ble_eq_true rfl) ⟨Nat.le_of_ble_eq_true rfl, Nat.le_of_ble_eq_true rfl⟩ rfl dX13_isValue_140 (fun r0 q0 => c_Md_isIn_ l w _ _ _ q0) (fun r80 er80 nr80 => ?_)
                    refine j_ifeq C (tgt := 153) dX13_isValue_143 (by decide) (fun q81 => ?_) (fun q81 => ?_)
                    · refine j_iconst C (v := 0) dX13_isValue_153 (by decide) ?_
                      exact e_iretM C hQ hr rfl hlk dX13_isValue_154 (Nat.le_of_ble_eq_true rfl) (Nat.le_of_ble_eq_true rfl)
                    · refine j_aload_n C dX13_isValue_146 (i := 0) rfl rfl ?_
                      refine j_callVim C (As := []) (rest := []) k_X13_202 ⟨by simp only [rm_g_Md_isProduct]; omega, by simp only [rm_g_Md_isProduct]; omega⟩ rfl (Nat.le_of_ble_eq_true rfl) ⟨Nat.le_of_ble_eq_true rfl, Nat.le_of_ble_eq_true rfl⟩ rfl dX13_isValue_147 (fun r0 q0 => hrec2 _  _ r0 q0) (fun r82 er82 nr82 => ?_)
                      refine j_ifne C (tgt := 155) dX13_isValue_150 (by decide) (fun q83 => ?_) (fun q83 => ?_)
                      · refine j_iconst C (v := 0) dX13_isValue_153 (by decide) ?_
                        exact e_iretM C hQ hr rfl hlk dX13_isValue_154 (Nat.le_of_ble_eq_true rfl) (Nat.le_of_ble_eq_true rfl)
                      · refine j_aload_n C dX13_isValue_155 (i := 0) rfl rfl ?_
                        refine j_dup C dX13_isValue_156 rfl ?_
                        refine j_getI C g_X13_179 dX13_isValue_157 (fun v84 ev84 => ?_)
                        refine j_iconst C (v := 1) dX13_isValue_160 (by decide) ?_
                        refine j_isub C dX13_isValue_161 ?_
                        refine j_putI C p_X13_179 (fun q => nomatch q) dX13_isValue_162 (fun h85 eh85 => ?_)
                        refine j_aload_n C dX13_isValue_165 (i := 0) rfl rfl ?_
                        refine j_bipush C (v := 41) dX13_isValue_166 (by decide) ?_
                        refine j_callVv C (As := [.int _]) (rest := []) k_X13_133 ⟨by simp only [rm_g_Md_isProduct]; omega, by simp only [rm_g_Md_isProduct]; omega⟩ rfl (Nat.le_of_ble_eq_true rfl) ⟨Nat.le_of_ble_eq_true rfl, Nat.le_of_ble_eq_true rfl⟩ rfl dX13_isValue_168 (fun r0 q0 => c_Md_put l w _ _ _ _ q0) (fun h86 eh86 _ => ?_)
                        refine j_iconst C (v := 1) dX13_isValue_171 (by decide) ?_
                        exact e_iretM C hQ hr rfl hlk dX13_isValue_172 (Nat.le_of_ble_eq_true rfl) (Nat.le_of_ble_eq_true rfl)
                · refine j_aload_n C dX13_isValue_123 (i := 0) rfl rfl ?_
                  refine j_bipush C (v := 14) dX13_isValue_124 (by decide) ?_
                  refine j_callVim C (As := [.int _]) (rest := []) k_X13_190 ⟨by simp only [rm_g_Md_isProduct]; omega, by simp only [rm_g_Md_isProduct]; omega⟩ rfl (Nat.le_of_ble_eq_true rfl) ⟨Nat.le_of_ble_eq_true rfl, Nat.le_of_ble_eq_true rfl⟩ rfl dX13_isValue_126 (fun r0 q0 => c_Md_isPair l w _ _ _ _ q0) (fun r87 er87 nr87 => ?_)
                  exact e_iretM C hQ hr (nr87 _ _ rfl rfl) hlk dX13_isValue_129 (Nat.le_of_ble_eq_true rfl) (Nat.le_of_ble_eq_true rfl)
              · exact hj18
            · exact hj18
        · exact hj5
      · exact hj5
  · refine j_aload_n C dX13_isValue_9 (i := 0) rfl rfl ?_
    refine j_bipush C (v := 40) dX13_isValue_10 (by decide) ?_
    refine j_callVv C (As := [.int _]) (rest := []) k_X13_133 ⟨by simp only [rm_g_Md_isProduct]; omega, by simp only [rm_g_Md_isProduct]; omega⟩ rfl (Nat.le_of_ble_eq_true rfl) ⟨Nat.le_of_ble_eq_true rfl, Nat.le_of_ble_eq_true rfl⟩ rfl dX13_isValue_12 (fun r0 q0 => c_Md_put l w _ _ _ _ q0) (fun h88 eh88 _ => ?_)
    refine j_aload_n C dX13_isValue_15 (i := 0) rfl rfl ?_
    refine j_aload_n C dX13_isValue_16 (i := 0) rfl rfl ?_
    refine j_aload_n C dX13_isValue_17 (i := 0) rfl rfl ?_
    refine j_getI C g_X13_113 dX13_isValue_18 (fun v89 ev89 => ?_)
    refine j_callVi C (As := [.int _]) (rest := [_]) k_X13_205 ⟨by simp only [rm_g_Md_isProduct]; omega, by simp only [rm_g_Md_isProduct]; omega⟩ rfl (Nat.le_of_ble_eq_true rfl) ⟨Nat.le_of_ble_eq_true rfl, Nat.le_of_ble_eq_true rfl⟩ rfl dX13_isValue_21 (fun r0 q0 => c_Md_numberAt l w fl _ _ _ _ q0) (fun r90 er90 nr90 => ?_)
    refine j_callVv C (As := [.int _]) (rest := []) k_X13_133 ⟨by simp only [rm_g_Md_isProduct]; omega, by simp only [rm_g_Md_isProduct]; omega⟩ rfl (Nat.le_of_ble_eq_true rfl) ⟨Nat.le_of_ble_eq_true rfl, Nat.le_of_ble_eq_true rfl⟩ rfl dX13_isValue_24 (fun r0 q0 => c_Md_put l w _ _ _ _ q0) (fun h91 eh91 _ => ?_)
    refine j_aload_n C dX13_isValue_27 (i := 0) rfl rfl ?_
    refine j_dup C dX13_isValue_28 rfl ?_
    refine j_getI C g_X13_113 dX13_isValue_29 (fun v92 ev92 => ?_)
    refine j_iconst C (v := 1) dX13_isValue_32 (by decide) ?_
    refine j_iadd C dX13_isValue_33 ?_
    refine j_putI C p_X13_113 (fun q => nomatch q) dX13_isValue_34 (fun h93 eh93 => ?_)
    refine j_iconst C (v := 1) dX13_isValue_37 (by decide) ?_
    exact e_iretM C hQ hr rfl hlk dX13_isValue_38 (Nat.le_of_ble_eq_true rfl) (Nat.le_of_ble_eq_true rfl)
theorem c_g_Md_isProduct (l : Launch) (w : hp_W) (fl : Nat) : ∀ n : Nat, (∀ (a : Nat) (h : hp_M) (r : Int32 × hp_M), g_Md_isProduct fl n 0 a h = some r → CT l w yX13_isProduct cX13_isProduct 2 (some .boolean) (rm_g_Md_isProduct n) [.ref a] h (some (.int r.1)) r.2) ∧ (∀ (a : Nat) (h : hp_M) (r : Int32 × hp_M), g_Md_isProduct fl n 1 a h = some r → CT l w yX13_isSum cX13_isSum 2 (some .boolean) (rm_g_Md_isProduct n) [.ref a] h (some (.int r.1)) r.2) ∧ (∀ (a : Nat) (h : hp_M) (r : Int32 × hp_M), g_Md_isProduct fl n 2 a h = some r → CT l w yX13_isValue cX13_isValue 3 (some .boolean) (rm_g_Md_isProduct n) [.ref a] h (some (.int r.1)) r.2) := by
  intro n
  induction n with
  | zero => exact ⟨(fun a h r q => nomatch q), (fun a h r q => nomatch q), (fun a h r q => nomatch q)⟩
  | succ n ih =>
    obtain ⟨ih0, ih1, ih2⟩ := ih
    exact ⟨fun a h r q => cb_Md_isProduct l w fl n (g_Md_isProduct fl n) ih0 ih1 ih2 a h r (by first | exact q | simpa [g_Md_isProduct] using q), fun a h r q => cb_Md_isSum l w fl n (g_Md_isProduct fl n) ih0 ih1 ih2 a h r (by first | exact q | simpa [g_Md_isProduct] using q), fun a h r q => cb_Md_isValue l w fl n (g_Md_isProduct fl n) ih0 ih1 ih2 a h r (by first | exact q | simpa [g_Md_isProduct] using q)⟩
theorem c_Md_isProduct (l : Launch) (w : hp_W) (fl : Nat) (a0 : Nat) (h : hp_M) (out : Int32 × hp_M) (hX : f_Md_isProduct fl a0 h = some out) : CT l w yX13_isProduct cX13_isProduct 2 (some .boolean) ({ frames := 68, cells := 0, slots := 0, locals := 1493 }) [.ref a0] h (some (.int out.1)) out.2 := (c_g_Md_isProduct l w fl 64).1 a0 h out hX
theorem c_Md_isSum (l : Launch) (w : hp_W) (fl : Nat) (a0 : Nat) (h : hp_M) (out : Int32 × hp_M) (hX : f_Md_isSum fl a0 h = some out) : CT l w yX13_isSum cX13_isSum 2 (some .boolean) ({ frames := 68, cells := 0, slots := 0, locals := 1493 }) [.ref a0] h (some (.int out.1)) out.2 := (c_g_Md_isProduct l w fl 64).2.1 a0 h out hX
theorem c_Md_isValue (l : Launch) (w : hp_W) (fl : Nat) (a0 : Nat) (h : hp_M) (out : Int32 × hp_M) (hX : f_Md_isValue fl a0 h = some out) : CT l w yX13_isValue cX13_isValue 3 (some .boolean) ({ frames := 68, cells := 0, slots := 0, locals := 1493 }) [.ref a0] h (some (.int out.1)) out.2 := (c_g_Md_isProduct l w fl 64).2.2 a0 h out hX
def f_Md_isCompared (fl : Nat) (a0 : Nat) (h : hp_M) : Option (Int32 × hp_M) := (onO h a0 12 (f_Md_isSum fl a0 h)).bind fun r1 => if r1.1 = 0 then (some (0, r1.2)) else (jn (fun (u5 : Int32) => if u5 = (-1) then (some (0, r1.2)) else ((gI r1.2 a0 12 9).bind fun v7 => (pF r1.2 a0 12 9 (.int (v7 + 1))).bind fun h8 => (onO h8 a0 12 (f_Md_isSum fl a0 h8)).bind fun r9 => if r9.1 = 0 then (some (0, r9.2)) else ((onO r9.2 a0 12 (f_Md_put a0 u5 r9.2)).bind fun h11 => some (1, h11)))) fun (j4 : Int32 → Option (Int32 × hp_M)) => (onO r1.2 a0 12 (f_Md_isSign a0 60 r1.2)).bind fun r12 => if r12 = 0 then ((onO r1.2 a0 12 (f_Md_isSign a0 62 r1.2)).bind fun r14 => if r14 = 0 then ((onO r1.2 a0 12 (f_Md_isSign a0 61 r1.2)).bind fun r16 => if r16 = 0 then ((onO r1.2 a0 12 (f_Md_is a0 800 r1.2)).bind fun r18 => if r18 = 0 then ((onO r1.2 a0 12 (f_Md_is a0 801 r1.2)).bind fun r20 => if r20 = 0 then (j4 (-1)) else (j4 51)) else (j4 50)) else (j4 49)) else (j4 48)) else (j4 47))
set_option maxRecDepth 100000 in
set_option maxHeartbeats 4000000 in
theorem c_Md_isCompared (l : Launch) (w : hp_W) (fl : Nat) (a0 : Nat) (h : hp_M) (out : Int32 × hp_M) (hX : f_Md_isCompared fl a0 h = some out) : CT l w yX13_isCompared cX13_isCompared 2 (some .boolean) ({ frames := 69, cells := 0, slots := 0, locals := 1514 }) [.ref a0] h (some (.int out.1)) out.2 := by
  unfold f_Md_isCompared at hX
  refine ct_of (by decide +kernel) (Nat.le_of_ble_eq_true rfl) hX ?_
  intro p e s m args below meth c Q C hr hlk hnm hQ
  refine j_aload_n C dX13_isCompared_0 (i := 0) rfl rfl ?_
  refine j_callVim C (As := []) (rest := []) k_X13_167 ⟨Nat.le_of_ble_eq_true rfl, Nat.le_of_ble_eq_true rfl⟩ rfl (Nat.le_of_ble_eq_true rfl) ⟨Nat.le_of_ble_eq_true rfl, Nat.le_of_ble_eq_true rfl⟩ rfl dX13_isCompared_1 (fun r0 q0 => c_Md_isSum l w fl _ _ _ q0) (fun r1 er1 nr1 => ?_)
  refine j_ifne C (tgt := 9) dX13_isCompared_4 (by decide) (fun q2 => ?_) (fun q2 => ?_)
  · refine j_iconst C (v := 0) dX13_isCompared_7 (by decide) ?_
    exact e_iretM C hQ hr rfl hlk dX13_isCompared_8 (Nat.le_of_ble_eq_true rfl) (Nat.le_of_ble_eq_true rfl)
  · refine j_jn (P := fun (j4 : Int32 → Option (Int32 × hp_M)) => ∀ (u5 : Int32), J p l e ({ frames := 69, cells := 0, slots := 0, locals := 1514 }) s m args below meth c Q w 2 0 0 82 [(0, .ref a0)] [.int u5] r1.2 (j4 u5) out) ?_ (fun j4 hj4 => ?_)
    · intro u5
      refine j_istore_n C [(1, _), (0, _)] dX13_isCompared_82 (i := 1) rfl (by decide) rfl ?_
      refine j_iload_n C dX13_isCompared_83 (i := 1) rfl rfl ?_
      refine j_iconst C (v := -1) dX13_isCompared_84 (by decide) ?_
      refine j_icmpne C (tgt := 90) dX13_isCompared_85 (by decide) (fun q6 => ?_) (fun q6 => ?_)
      · refine j_iconst C (v := 0) dX13_isCompared_88 (by decide) ?_
        exact e_iretM C hQ hr rfl hlk dX13_isCompared_89 (Nat.le_of_ble_eq_true rfl) (Nat.le_of_ble_eq_true rfl)
      · refine j_aload_n C dX13_isCompared_90 (i := 0) rfl rfl ?_
        refine j_dup C dX13_isCompared_91 rfl ?_
        refine j_getI C g_X13_113 dX13_isCompared_92 (fun v7 ev7 => ?_)
        refine j_iconst C (v := 1) dX13_isCompared_95 (by decide) ?_
        refine j_iadd C dX13_isCompared_96 ?_
        refine j_putI C p_X13_113 (fun q => nomatch q) dX13_isCompared_97 (fun h8 eh8 => ?_)
        refine j_aload_n C dX13_isCompared_100 (i := 0) rfl rfl ?_
        refine j_callVim C (As := []) (rest := []) k_X13_167 ⟨Nat.le_of_ble_eq_true rfl, Nat.le_of_ble_eq_true rfl⟩ rfl (Nat.le_of_ble_eq_true rfl) ⟨Nat.le_of_ble_eq_true rfl, Nat.le_of_ble_eq_true rfl⟩ rfl dX13_isCompared_101 (fun r0 q0 => c_Md_isSum l w fl _ _ _ q0) (fun r9 er9 nr9 => ?_)
        refine j_ifne C (tgt := 109) dX13_isCompared_104 (by decide) (fun q10 => ?_) (fun q10 => ?_)
        · refine j_iconst C (v := 0) dX13_isCompared_107 (by decide) ?_
          exact e_iretM C hQ hr rfl hlk dX13_isCompared_108 (Nat.le_of_ble_eq_true rfl) (Nat.le_of_ble_eq_true rfl)
        · refine j_aload_n C dX13_isCompared_109 (i := 0) rfl rfl ?_
          refine j_iload_n C dX13_isCompared_110 (i := 1) rfl rfl ?_
          refine j_callVv C (As := [.int _]) (rest := []) k_X13_133 ⟨Nat.le_of_ble_eq_true rfl, Nat.le_of_ble_eq_true rfl⟩ rfl (Nat.le_of_ble_eq_true rfl) ⟨Nat.le_of_ble_eq_true rfl, Nat.le_of_ble_eq_true rfl⟩ rfl dX13_isCompared_111 (fun r0 q0 => c_Md_put l w _ _ _ _ q0) (fun h11 eh11 _ => ?_)
          refine j_iconst C (v := 1) dX13_isCompared_114 (by decide) ?_
          exact e_iretM C hQ hr rfl hlk dX13_isCompared_115 (Nat.le_of_ble_eq_true rfl) (Nat.le_of_ble_eq_true rfl)
    · refine j_aload_n C dX13_isCompared_9 (i := 0) rfl rfl ?_
      refine j_bipush C (v := 60) dX13_isCompared_10 (by decide) ?_
      refine j_callVi C (As := [.int _]) (rest := []) k_X13_187 ⟨Nat.le_of_ble_eq_true rfl, Nat.le_of_ble_eq_true rfl⟩ rfl (Nat.le_of_ble_eq_true rfl) ⟨Nat.le_of_ble_eq_true rfl, Nat.le_of_ble_eq_true rfl⟩ rfl dX13_isCompared_12 (fun r0 q0 => c_Md_isSign l w _ _ _ _ q0) (fun r12 er12 nr12 => ?_)
      refine j_ifeq C (tgt := 23) dX13_isCompared_15 (by decide) (fun q13 => ?_) (fun q13 => ?_)
      · refine j_aload_n C dX13_isCompared_23 (i := 0) rfl rfl ?_
        refine j_bipush C (v := 62) dX13_isCompared_24 (by decide) ?_
        refine j_callVi C (As := [.int _]) (rest := []) k_X13_187 ⟨Nat.le_of_ble_eq_true rfl, Nat.le_of_ble_eq_true rfl⟩ rfl (Nat.le_of_ble_eq_true rfl) ⟨Nat.le_of_ble_eq_true rfl, Nat.le_of_ble_eq_true rfl⟩ rfl dX13_isCompared_26 (fun r0 q0 => c_Md_isSign l w _ _ _ _ q0) (fun r14 er14 nr14 => ?_)
        refine j_ifeq C (tgt := 37) dX13_isCompared_29 (by decide) (fun q15 => ?_) (fun q15 => ?_)
        · refine j_aload_n C dX13_isCompared_37 (i := 0) rfl rfl ?_
          refine j_bipush C (v := 61) dX13_isCompared_38 (by decide) ?_
          refine j_callVi C (As := [.int _]) (rest := []) k_X13_187 ⟨Nat.le_of_ble_eq_true rfl, Nat.le_of_ble_eq_true rfl⟩ rfl (Nat.le_of_ble_eq_true rfl) ⟨Nat.le_of_ble_eq_true rfl, Nat.le_of_ble_eq_true rfl⟩ rfl dX13_isCompared_40 (fun r0 q0 => c_Md_isSign l w _ _ _ _ q0) (fun r16 er16 nr16 => ?_)
          refine j_ifeq C (tgt := 51) dX13_isCompared_43 (by decide) (fun q17 => ?_) (fun q17 => ?_)
          · refine j_aload_n C dX13_isCompared_51 (i := 0) rfl rfl ?_
            refine j_sipush C (v := 800) dX13_isCompared_52 (by decide) ?_
            refine j_callVi C (As := [.int _]) (rest := []) k_X13_116 ⟨Nat.le_of_ble_eq_true rfl, Nat.le_of_ble_eq_true rfl⟩ rfl (Nat.le_of_ble_eq_true rfl) ⟨Nat.le_of_ble_eq_true rfl, Nat.le_of_ble_eq_true rfl⟩ rfl dX13_isCompared_55 (fun r0 q0 => c_Md_is l w _ _ _ _ q0) (fun r18 er18 nr18 => ?_)
            refine j_ifeq C (tgt := 66) dX13_isCompared_58 (by decide) (fun q19 => ?_) (fun q19 => ?_)
            · refine j_aload_n C dX13_isCompared_66 (i := 0) rfl rfl ?_
              refine j_sipush C (v := 801) dX13_isCompared_67 (by decide) ?_
              refine j_callVi C (As := [.int _]) (rest := []) k_X13_116 ⟨Nat.le_of_ble_eq_true rfl, Nat.le_of_ble_eq_true rfl⟩ rfl (Nat.le_of_ble_eq_true rfl) ⟨Nat.le_of_ble_eq_true rfl, Nat.le_of_ble_eq_true rfl⟩ rfl dX13_isCompared_70 (fun r0 q0 => c_Md_is l w _ _ _ _ q0) (fun r20 er20 nr20 => ?_)
              refine j_ifeq C (tgt := 81) dX13_isCompared_73 (by decide) (fun q21 => ?_) (fun q21 => ?_)
              · refine j_iconst C (v := -1) dX13_isCompared_81 (by decide) ?_
                exact hj4 _
              · refine j_bipush C (v := 51) dX13_isCompared_76 (by decide) ?_
                refine j_goto C (tgt := 82) dX13_isCompared_78 (by decide) ?_
                exact hj4 _
            · refine j_bipush C (v := 50) dX13_isCompared_61 (by decide) ?_
              refine j_goto C (tgt := 82) dX13_isCompared_63 (by decide) ?_
              exact hj4 _
          · refine j_bipush C (v := 49) dX13_isCompared_46 (by decide) ?_
            refine j_goto C (tgt := 82) dX13_isCompared_48 (by decide) ?_
            exact hj4 _
        · refine j_bipush C (v := 48) dX13_isCompared_32 (by decide) ?_
          refine j_goto C (tgt := 82) dX13_isCompared_34 (by decide) ?_
          exact hj4 _
      · refine j_bipush C (v := 47) dX13_isCompared_18 (by decide) ?_
        refine j_goto C (tgt := 82) dX13_isCompared_20 (by decide) ?_
        exact hj4 _
def rm_g_Md_isBoth (n : Nat) : Room := { frames := n + 70, cells := 0, slots := 0, locals := n * 20 + 1535 }
def f_Md_isBoth_b9 (fl : Nat) (rc : Nat → Nat → hp_M → Option (Int32 × hp_M)) (a0 : Nat) : Nat → hp_M → Option (Int32 × hp_M)
  | 0, _ => none
  | n + 1, h => (onO h a0 12 (f_Md_eat a0 18 h)).bind fun r1003 => if r1003.1 = 0 then (some (1, r1003.2)) else ((onO r1003.2 a0 12 (rc 1 a0 r1003.2)).bind fun r1005 => if r1005.1 = 0 then (some (0, r1005.2)) else ((onO r1005.2 a0 12 (f_Md_put a0 18 r1005.2)).bind fun h1007 => f_Md_isBoth_b9 fl rc a0 n h1007))
def f_Md_isBoth_body (fl : Nat) (rc : Nat → Nat → hp_M → Option (Int32 × hp_M)) (a0 : Nat) (h : hp_M) : Option (Int32 × hp_M) := (onO h a0 12 (rc 1 a0 h)).bind fun r1 => if r1.1 = 0 then (some (0, r1.2)) else (f_Md_isBoth_b9 fl rc a0 fl r1.2)
def f_Md_isSingle_body (fl : Nat) (rc : Nat → Nat → hp_M → Option (Int32 × hp_M)) (a0 : Nat) (h : hp_M) : Option (Int32 × hp_M) := (onO h a0 12 (f_Md_is a0 17 h)).bind fun r1 => if r1 = 0 then ((onO h a0 12 (f_Md_isSign a0 91 h)).bind fun r3 => if r3 = 0 then (jn ((gR h a0 12 4).bind fun v8 => (gI h a0 12 9).bind fun v9 => (gaI h v8 v9).bind fun v10 => (onO h a0 12 (f_Md_isPair a0 v10 h)).bind fun r11 => some (r11.1, r11.2)) fun (j7 : Option (Int32 × hp_M)) => (onO h a0 12 (f_Md_is a0 10 h)).bind fun r12 => if r12 = 0 then ((onO h a0 12 (f_Md_is a0 11 h)).bind fun r14 => if r14 = 0 then ((onO h a0 12 (f_Md_is a0 4 h)).bind fun r16 => if r16 = 0 then ((onO h a0 12 (f_Md_isCompared fl a0 h)).bind fun r18 => some (r18.1, r18.2)) else ((onO h a0 12 (f_Md_isOne a0 4 h)).bind fun r19 => some (r19.1, r19.2))) else (j7)) else (j7)) else ((onO h a0 12 (f_Md_isIn_ a0 h)).bind fun r20 => if r20.1 = 0 then (some (0, r20.2)) else ((onO r20.2 a0 12 (rc 2 a0 r20.2)).bind fun r22 => if r22.1 = 0 then (some (0, r22.2)) else ((gI r22.2 a0 12 10).bind fun v24 => (pF r22.2 a0 12 10 (.int (v24 - 1))).bind fun h25 => (onO h25 a0 12 (f_Md_eatSign a0 93 h25)).bind fun r26 => some (r26.1, r26.2))))) else ((onO h a0 12 (f_Md_isIn_ a0 h)).bind fun r27 => if r27.1 = 0 then (some (0, r27.2)) else ((onO r27.2 a0 12 (rc 1 a0 r27.2)).bind fun r29 => if r29.1 = 0 then (some (0, r29.2)) else ((gI r29.2 a0 12 10).bind fun v31 => (pF r29.2 a0 12 10 (.int (v31 - 1))).bind fun h32 => (onO h32 a0 12 (f_Md_put a0 17 h32)).bind fun h33 => some (1, h33))))
def f_Md_isTest_b9 (fl : Nat) (rc : Nat → Nat → hp_M → Option (Int32 × hp_M)) (a0 : Nat) : Nat → hp_M → Option (Int32 × hp_M)
  | 0, _ => none
  | n + 1, h => (onO h a0 12 (f_Md_eat a0 19 h)).bind fun r1003 => if r1003.1 = 0 then (some (1, r1003.2)) else ((onO r1003.2 a0 12 (rc 0 a0 r1003.2)).bind fun r1005 => if r1005.1 = 0 then (some (0, r1005.2)) else ((onO r1005.2 a0 12 (f_Md_put a0 19 r1005.2)).bind fun h1007 => f_Md_isTest_b9 fl rc a0 n h1007))
def f_Md_isTest_body (fl : Nat) (rc : Nat → Nat → hp_M → Option (Int32 × hp_M)) (a0 : Nat) (h : hp_M) : Option (Int32 × hp_M) := (onO h a0 12 (rc 0 a0 h)).bind fun r1 => if r1.1 = 0 then (some (0, r1.2)) else (f_Md_isTest_b9 fl rc a0 fl r1.2)
def g_Md_isBoth (fl : Nat) : Nat → Nat → Nat → hp_M → Option (Int32 × hp_M)
  | 0, _, _, _ => none
  | n + 1, k, a, h => if k = 0 then f_Md_isBoth_body fl (g_Md_isBoth fl n) a h else if k = 1 then f_Md_isSingle_body fl (g_Md_isBoth fl n) a h else f_Md_isTest_body fl (g_Md_isBoth fl n) a h
def f_Md_isBoth (fl : Nat) (a0 : Nat) (h : hp_M) : Option (Int32 × hp_M) := g_Md_isBoth fl 64 0 a0 h
def f_Md_isSingle (fl : Nat) (a0 : Nat) (h : hp_M) : Option (Int32 × hp_M) := g_Md_isBoth fl 64 1 a0 h
def f_Md_isTest (fl : Nat) (a0 : Nat) (h : hp_M) : Option (Int32 × hp_M) := g_Md_isBoth fl 64 2 a0 h
set_option maxRecDepth 100000 in
set_option maxHeartbeats 4000000 in
theorem b_Md_isBoth_9 {p : Program} {l : Launch} {e : Env} {s : State} {m : MethodId} {args : Array Value} {below : List Frame} {meth : Method} {c : Code} {Q : State → Prop} {w : hp_W} {out : Int32 × hp_M} (fl : Nat)  (nr : Nat) (rc : Nat → Nat → hp_M → Option (Int32 × hp_M)) (hrec0 : ∀ (a : Nat) (h : hp_M) (r : Int32 × hp_M), rc 0 a h = some r → CT l w yX13_isBoth cX13_isBoth 1 (some .boolean) (rm_g_Md_isBoth nr) [.ref a] h (some (.int r.1)) r.2) (hrec1 : ∀ (a : Nat) (h : hp_M) (r : Int32 × hp_M), rc 1 a h = some r → CT l w yX13_isSingle cX13_isSingle 1 (some .boolean) (rm_g_Md_isBoth nr) [.ref a] h (some (.int r.1)) r.2) (hrec2 : ∀ (a : Nat) (h : hp_M) (r : Int32 × hp_M), rc 2 a h = some r → CT l w yX13_isTest cX13_isTest 1 (some .boolean) (rm_g_Md_isBoth nr) [.ref a] h (some (.int r.1)) r.2)  (a0 : Nat) (C : Cx p m c cX13_isBoth 1 s args RX13 w) (hr : meth.sig.returnType = some .boolean) (hlk : meth.locks = false) (hnm : meth.name = "isBoth") (hQ : QM below w args s (rm_g_Md_isBoth (nr + 1)) (some .boolean) (some (.int out.1)) out.2 = Q)  : ∀ (n : Nat) (h : hp_M), J p l e (rm_g_Md_isBoth (nr + 1)) s m args below meth c Q w 1 0 0 9 [(0, .ref a0)] [] h (f_Md_isBoth_b9 fl rc a0 n h) out := by
  intro n
  induction n with
  | zero => intro h; exact j_none
  | succ n ih =>
    intro h
    rw [f_Md_isBoth_b9]
    refine j_aload_n C dX13_isBoth_9 (i := 0) rfl rfl ?_
    refine j_bipush C (v := 18) dX13_isBoth_10 (by decide) ?_
    refine j_callVim C (As := [.int _]) (rest := []) k_X13_119 ⟨by simp only [rm_g_Md_isBoth]; omega, by simp only [rm_g_Md_isBoth]; omega⟩ rfl (Nat.le_of_ble_eq_true rfl) ⟨Nat.le_of_ble_eq_true rfl, Nat.le_of_ble_eq_true rfl⟩ rfl dX13_isBoth_12 (fun r0 q0 => c_Md_eat l w _ _ _ _ q0) (fun r1003 er1003 nr1003 => ?_)
    refine j_ifeq C (tgt := 36) dX13_isBoth_15 (by decide) (fun q1004 => ?_) (fun q1004 => ?_)
    · refine j_iconst C (v := 1) dX13_isBoth_36 (by decide) ?_
      exact e_iretM C hQ hr rfl hlk dX13_isBoth_37 (Nat.le_of_ble_eq_true rfl) (Nat.le_of_ble_eq_true rfl)
    · refine j_aload_n C dX13_isBoth_18 (i := 0) rfl rfl ?_
      refine j_callVim C (As := []) (rest := []) k_X13_176 ⟨by simp only [rm_g_Md_isBoth]; omega, by simp only [rm_g_Md_isBoth]; omega⟩ rfl (Nat.le_of_ble_eq_true rfl) ⟨Nat.le_of_ble_eq_true rfl, Nat.le_of_ble_eq_true rfl⟩ rfl dX13_isBoth_19 (fun r0 q0 => hrec1 _  _ r0 q0) (fun r1005 er1005 nr1005 => ?_)
      refine j_ifne C (tgt := 27) dX13_isBoth_22 (by decide) (fun q1006 => ?_) (fun q1006 => ?_)
      · refine j_iconst C (v := 0) dX13_isBoth_25 (by decide) ?_
        exact e_iretM C hQ hr rfl hlk dX13_isBoth_26 (Nat.le_of_ble_eq_true rfl) (Nat.le_of_ble_eq_true rfl)
      · refine j_aload_n C dX13_isBoth_27 (i := 0) rfl rfl ?_
        refine j_bipush C (v := 18) dX13_isBoth_28 (by decide) ?_
        refine j_callVv C (As := [.int _]) (rest := []) k_X13_133 ⟨by simp only [rm_g_Md_isBoth]; omega, by simp only [rm_g_Md_isBoth]; omega⟩ rfl (Nat.le_of_ble_eq_true rfl) ⟨Nat.le_of_ble_eq_true rfl, Nat.le_of_ble_eq_true rfl⟩ rfl dX13_isBoth_30 (fun r0 q0 => c_Md_put l w _ _ _ _ q0) (fun h1007 eh1007 _ => ?_)
        refine j_goto C (tgt := 9) dX13_isBoth_33 (by decide) ?_
        exact ih _
set_option maxRecDepth 100000 in
set_option maxHeartbeats 4000000 in
theorem cb_Md_isBoth (l : Launch) (w : hp_W) (fl : Nat) (nr : Nat) (rc : Nat → Nat → hp_M → Option (Int32 × hp_M)) (hrec0 : ∀ (a : Nat) (h : hp_M) (r : Int32 × hp_M), rc 0 a h = some r → CT l w yX13_isBoth cX13_isBoth 1 (some .boolean) (rm_g_Md_isBoth nr) [.ref a] h (some (.int r.1)) r.2) (hrec1 : ∀ (a : Nat) (h : hp_M) (r : Int32 × hp_M), rc 1 a h = some r → CT l w yX13_isSingle cX13_isSingle 1 (some .boolean) (rm_g_Md_isBoth nr) [.ref a] h (some (.int r.1)) r.2) (hrec2 : ∀ (a : Nat) (h : hp_M) (r : Int32 × hp_M), rc 2 a h = some r → CT l w yX13_isTest cX13_isTest 1 (some .boolean) (rm_g_Md_isBoth nr) [.ref a] h (some (.int r.1)) r.2) (a0 : Nat) (h : hp_M) (out : Int32 × hp_M) (hX : f_Md_isBoth_body fl rc a0 h = some out) : CT l w yX13_isBoth cX13_isBoth 1 (some .boolean) (rm_g_Md_isBoth (nr + 1)) [.ref a0] h (some (.int out.1)) out.2 := by
  unfold f_Md_isBoth_body at hX
  refine ct_of (by decide +kernel) (Nat.le_of_ble_eq_true rfl) hX ?_
  intro p e s m args below meth c Q C hr hlk hnm hQ
  refine j_aload_n C dX13_isBoth_0 (i := 0) rfl rfl ?_
  refine j_callVim C (As := []) (rest := []) k_X13_176 ⟨by simp only [rm_g_Md_isBoth]; omega, by simp only [rm_g_Md_isBoth]; omega⟩ rfl (Nat.le_of_ble_eq_true rfl) ⟨Nat.le_of_ble_eq_true rfl, Nat.le_of_ble_eq_true rfl⟩ rfl dX13_isBoth_1 (fun r0 q0 => hrec1 _  _ r0 q0) (fun r1 er1 nr1 => ?_)
  refine j_ifne C (tgt := 9) dX13_isBoth_4 (by decide) (fun q2 => ?_) (fun q2 => ?_)
  · refine j_iconst C (v := 0) dX13_isBoth_7 (by decide) ?_
    exact e_iretM C hQ hr rfl hlk dX13_isBoth_8 (Nat.le_of_ble_eq_true rfl) (Nat.le_of_ble_eq_true rfl)
  · refine j_sub [0] rfl (b_Md_isBoth_9 fl nr rc hrec0 hrec1 hrec2  _ C hr hlk hnm hQ  _ _)
set_option maxRecDepth 100000 in
set_option maxHeartbeats 4000000 in
theorem cb_Md_isSingle (l : Launch) (w : hp_W) (fl : Nat) (nr : Nat) (rc : Nat → Nat → hp_M → Option (Int32 × hp_M)) (hrec0 : ∀ (a : Nat) (h : hp_M) (r : Int32 × hp_M), rc 0 a h = some r → CT l w yX13_isBoth cX13_isBoth 1 (some .boolean) (rm_g_Md_isBoth nr) [.ref a] h (some (.int r.1)) r.2) (hrec1 : ∀ (a : Nat) (h : hp_M) (r : Int32 × hp_M), rc 1 a h = some r → CT l w yX13_isSingle cX13_isSingle 1 (some .boolean) (rm_g_Md_isBoth nr) [.ref a] h (some (.int r.1)) r.2) (hrec2 : ∀ (a : Nat) (h : hp_M) (r : Int32 × hp_M), rc 2 a h = some r → CT l w yX13_isTest cX13_isTest 1 (some .boolean) (rm_g_Md_isBoth nr) [.ref a] h (some (.int r.1)) r.2) (a0 : Nat) (h : hp_M) (out : Int32 × hp_M) (hX : f_Md_isSingle_body fl rc a0 h = some out) : CT l w yX13_isSingle cX13_isSingle 1 (some .boolean) (rm_g_Md_isBoth (nr + 1)) [.ref a0] h (some (.int out.1)) out.2 := by
  unfold f_Md_isSingle_body at hX
  refine ct_of (by decide +kernel) (Nat.le_of_ble_eq_true rfl) hX ?_
  intro p e s m args below meth c Q C hr hlk hnm hQ
  refine j_aload_n C dX13_isSingle_0 (i := 0) rfl rfl ?_
  refine j_bipush C (v := 17) dX13_isSingle_1 (by decide) ?_
  refine j_callVi C (As := [.int _]) (rest := []) k_X13_116 ⟨by simp only [rm_g_Md_isBoth]; omega, by simp only [rm_g_Md_isBoth]; omega⟩ rfl (Nat.le_of_ble_eq_true rfl) ⟨Nat.le_of_ble_eq_true rfl, Nat.le_of_ble_eq_true rfl⟩ rfl dX13_isSingle_3 (fun r0 q0 => c_Md_is l w _ _ _ _ q0) (fun r1 er1 nr1 => ?_)
  refine j_ifeq C (tgt := 43) dX13_isSingle_6 (by decide) (fun q2 => ?_) (fun q2 => ?_)
  · refine j_aload_n C dX13_isSingle_43 (i := 0) rfl rfl ?_
    refine j_bipush C (v := 91) dX13_isSingle_44 (by decide) ?_
    refine j_callVi C (As := [.int _]) (rest := []) k_X13_187 ⟨by simp only [rm_g_Md_isBoth]; omega, by simp only [rm_g_Md_isBoth]; omega⟩ rfl (Nat.le_of_ble_eq_true rfl) ⟨Nat.le_of_ble_eq_true rfl, Nat.le_of_ble_eq_true rfl⟩ rfl dX13_isSingle_46 (fun r0 q0 => c_Md_isSign l w _ _ _ _ q0) (fun r3 er3 nr3 => ?_)
    refine j_ifeq C (tgt := 85) dX13_isSingle_49 (by decide) (fun q4 => ?_) (fun q4 => ?_)
    · refine j_jn (P := fun j7 => J p l e (rm_g_Md_isBoth (nr + 1)) s m args below meth c Q w 1 0 0 103 [(0, .ref a0)] [] h (j7) out) ?_ (fun j7 hj7 => ?_)
      · refine j_aload_n C dX13_isSingle_103 (i := 0) rfl rfl ?_
        refine j_aload_n C dX13_isSingle_104 (i := 0) rfl rfl ?_
        refine j_getR C g_X13_17 dX13_isSingle_105 (fun v8 ev8 => ?_)
        refine j_aload_n C dX13_isSingle_108 (i := 0) rfl rfl ?_
        refine j_getI C g_X13_113 dX13_isSingle_109 (fun v9 ev9 => ?_)
        refine j_iaload C dX13_isSingle_112 (fun v10 ev10 => ?_)
        refine j_callVim C (As := [.int _]) (rest := []) k_X13_190 ⟨by simp only [rm_g_Md_isBoth]; omega, by simp only [rm_g_Md_isBoth]; omega⟩ rfl (Nat.le_of_ble_eq_true rfl) ⟨Nat.le_of_ble_eq_true rfl, Nat.le_of_ble_eq_true rfl⟩ rfl dX13_isSingle_113 (fun r0 q0 => c_Md_isPair l w _ _ _ _ q0) (fun r11 er11 nr11 => ?_)
        exact e_iretM C hQ hr (nr11 _ _ rfl rfl) hlk dX13_isSingle_116 (Nat.le_of_ble_eq_true rfl) (Nat.le_of_ble_eq_true rfl)
      · refine j_aload_n C dX13_isSingle_85 (i := 0) rfl rfl ?_
        refine j_bipush C (v := 10) dX13_isSingle_86 (by decide) ?_
        refine j_callVi C (As := [.int _]) (rest := []) k_X13_116 ⟨by simp only [rm_g_Md_isBoth]; omega, by simp only [rm_g_Md_isBoth]; omega⟩ rfl (Nat.le_of_ble_eq_true rfl) ⟨Nat.le_of_ble_eq_true rfl, Nat.le_of_ble_eq_true rfl⟩ rfl dX13_isSingle_88 (fun r0 q0 => c_Md_is l w _ _ _ _ q0) (fun r12 er12 nr12 => ?_)
        refine j_ifne C (tgt := 103) dX13_isSingle_91 (by decide) (fun q13 => ?_) (fun q13 => ?_)
        · refine j_aload_n C dX13_isSingle_94 (i := 0) rfl rfl ?_
          refine j_bipush C (v := 11) dX13_isSingle_95 (by decide) ?_
          refine j_callVi C (As := [.int _]) (rest := []) k_X13_116 ⟨by simp only [rm_g_Md_isBoth]; omega, by simp only [rm_g_Md_isBoth]; omega⟩ rfl (Nat.le_of_ble_eq_true rfl) ⟨Nat.le_of_ble_eq_true rfl, Nat.le_of_ble_eq_true rfl⟩ rfl dX13_isSingle_97 (fun r0 q0 => c_Md_is l w _ _ _ _ q0) (fun r14 er14 nr14 => ?_)
          refine j_ifeq C (tgt := 117) dX13_isSingle_100 (by decide) (fun q15 => ?_) (fun q15 => ?_)
          · refine j_aload_n C dX13_isSingle_117 (i := 0) rfl rfl ?_
            refine j_iconst C (v := 4) dX13_isSingle_118 (by decide) ?_
            refine j_callVi C (As := [.int _]) (rest := []) k_X13_116 ⟨by simp only [rm_g_Md_isBoth]; omega, by simp only [rm_g_Md_isBoth]; omega⟩ rfl (Nat.le_of_ble_eq_true rfl) ⟨Nat.le_of_ble_eq_true rfl, Nat.le_of_ble_eq_true rfl⟩ rfl dX13_isSingle_119 (fun r0 q0 => c_Md_is l w _ _ _ _ q0) (fun r16 er16 nr16 => ?_)
            refine j_ifeq C (tgt := 133) dX13_isSingle_122 (by decide) (fun q17 => ?_) (fun q17 => ?_)
            · refine j_aload_n C dX13_isSingle_133 (i := 0) rfl rfl ?_
              refine j_callVim C (As := []) (rest := []) k_X13_196 ⟨by simp only [rm_g_Md_isBoth]; omega, by simp only [rm_g_Md_isBoth]; omega⟩ rfl (Nat.le_of_ble_eq_true rfl) ⟨Nat.le_of_ble_eq_true rfl, Nat.le_of_ble_eq_true rfl⟩ rfl dX13_isSingle_134 (fun r0 q0 => c_Md_isCompared l w fl _ _ _ q0) (fun r18 er18 nr18 => ?_)
              exact e_iretM C hQ hr (nr18 _ _ rfl rfl) hlk dX13_isSingle_137 (Nat.le_of_ble_eq_true rfl) (Nat.le_of_ble_eq_true rfl)
            · refine j_aload_n C dX13_isSingle_125 (i := 0) rfl rfl ?_
              refine j_iconst C (v := 4) dX13_isSingle_126 (by decide) ?_
              refine j_callVim C (As := [.int _]) (rest := []) k_X13_193 ⟨by simp only [rm_g_Md_isBoth]; omega, by simp only [rm_g_Md_isBoth]; omega⟩ rfl (Nat.le_of_ble_eq_true rfl) ⟨Nat.le_of_ble_eq_true rfl, Nat.le_of_ble_eq_true rfl⟩ rfl dX13_isSingle_127 (fun r0 q0 => c_Md_isOne l w _ _ _ _ q0) (fun r19 er19 nr19 => ?_)
              refine j_goto C (tgt := 137) dX13_isSingle_130 (by decide) ?_
              exact e_iretM C hQ hr (nr19 _ _ rfl rfl) hlk dX13_isSingle_137 (Nat.le_of_ble_eq_true rfl) (Nat.le_of_ble_eq_true rfl)
          · exact hj7
        · exact hj7
    · refine j_aload_n C dX13_isSingle_52 (i := 0) rfl rfl ?_
      refine j_callVim C (As := []) (rest := []) k_X13_185 ⟨by simp only [rm_g_Md_isBoth]; omega, by simp only [rm_g_Md_isBoth]; omega⟩ rfl (Nat.le_of_ble_eq_true rfl) ⟨Nat.le_of_ble_eq_true rfl, Nat.le_of_ble_eq_true rfl⟩ rfl dX13_isSingle_53 (fun r0 q0 => c_Md_isIn_ l w _ _ _ q0) (fun r20 er20 nr20 => ?_)
      refine j_ifeq C (tgt := 66) dX13_isSingle_56 (by decide) (fun q21 => ?_) (fun q21 => ?_)
      · refine j_iconst C (v := 0) dX13_isSingle_66 (by decide) ?_
        exact e_iretM C hQ hr rfl hlk dX13_isSingle_67 (Nat.le_of_ble_eq_true rfl) (Nat.le_of_ble_eq_true rfl)
      · refine j_aload_n C dX13_isSingle_59 (i := 0) rfl rfl ?_
        refine j_callVim C (As := []) (rest := []) k_X13_161 ⟨by simp only [rm_g_Md_isBoth]; omega, by simp only [rm_g_Md_isBoth]; omega⟩ rfl (Nat.le_of_ble_eq_true rfl) ⟨Nat.le_of_ble_eq_true rfl, Nat.le_of_ble_eq_true rfl⟩ rfl dX13_isSingle_60 (fun r0 q0 => hrec2 _  _ r0 q0) (fun r22 er22 nr22 => ?_)
        refine j_ifne C (tgt := 68) dX13_isSingle_63 (by decide) (fun q23 => ?_) (fun q23 => ?_)
        · refine j_iconst C (v := 0) dX13_isSingle_66 (by decide) ?_
          exact e_iretM C hQ hr rfl hlk dX13_isSingle_67 (Nat.le_of_ble_eq_true rfl) (Nat.le_of_ble_eq_true rfl)
        · refine j_aload_n C dX13_isSingle_68 (i := 0) rfl rfl ?_
          refine j_dup C dX13_isSingle_69 rfl ?_
          refine j_getI C g_X13_179 dX13_isSingle_70 (fun v24 ev24 => ?_)
          refine j_iconst C (v := 1) dX13_isSingle_73 (by decide) ?_
          refine j_isub C dX13_isSingle_74 ?_
          refine j_putI C p_X13_179 (fun q => nomatch q) dX13_isSingle_75 (fun h25 eh25 => ?_)
          refine j_aload_n C dX13_isSingle_78 (i := 0) rfl rfl ?_
          refine j_bipush C (v := 93) dX13_isSingle_79 (by decide) ?_
          refine j_callVim C (As := [.int _]) (rest := []) k_X13_151 ⟨by simp only [rm_g_Md_isBoth]; omega, by simp only [rm_g_Md_isBoth]; omega⟩ rfl (Nat.le_of_ble_eq_true rfl) ⟨Nat.le_of_ble_eq_true rfl, Nat.le_of_ble_eq_true rfl⟩ rfl dX13_isSingle_81 (fun r0 q0 => c_Md_eatSign l w _ _ _ _ q0) (fun r26 er26 nr26 => ?_)
          exact e_iretM C hQ hr (nr26 _ _ rfl rfl) hlk dX13_isSingle_84 (Nat.le_of_ble_eq_true rfl) (Nat.le_of_ble_eq_true rfl)
  · refine j_aload_n C dX13_isSingle_9 (i := 0) rfl rfl ?_
    refine j_callVim C (As := []) (rest := []) k_X13_185 ⟨by simp only [rm_g_Md_isBoth]; omega, by simp only [rm_g_Md_isBoth]; omega⟩ rfl (Nat.le_of_ble_eq_true rfl) ⟨Nat.le_of_ble_eq_true rfl, Nat.le_of_ble_eq_true rfl⟩ rfl dX13_isSingle_10 (fun r0 q0 => c_Md_isIn_ l w _ _ _ q0) (fun r27 er27 nr27 => ?_)
    refine j_ifeq C (tgt := 23) dX13_isSingle_13 (by decide) (fun q28 => ?_) (fun q28 => ?_)
    · refine j_iconst C (v := 0) dX13_isSingle_23 (by decide) ?_
      exact e_iretM C hQ hr rfl hlk dX13_isSingle_24 (Nat.le_of_ble_eq_true rfl) (Nat.le_of_ble_eq_true rfl)
    · refine j_aload_n C dX13_isSingle_16 (i := 0) rfl rfl ?_
      refine j_callVim C (As := []) (rest := []) k_X13_176 ⟨by simp only [rm_g_Md_isBoth]; omega, by simp only [rm_g_Md_isBoth]; omega⟩ rfl (Nat.le_of_ble_eq_true rfl) ⟨Nat.le_of_ble_eq_true rfl, Nat.le_of_ble_eq_true rfl⟩ rfl dX13_isSingle_17 (fun r0 q0 => hrec1 _  _ r0 q0) (fun r29 er29 nr29 => ?_)
      refine j_ifne C (tgt := 25) dX13_isSingle_20 (by decide) (fun q30 => ?_) (fun q30 => ?_)
      · refine j_iconst C (v := 0) dX13_isSingle_23 (by decide) ?_
        exact e_iretM C hQ hr rfl hlk dX13_isSingle_24 (Nat.le_of_ble_eq_true rfl) (Nat.le_of_ble_eq_true rfl)
      · refine j_aload_n C dX13_isSingle_25 (i := 0) rfl rfl ?_
        refine j_dup C dX13_isSingle_26 rfl ?_
        refine j_getI C g_X13_179 dX13_isSingle_27 (fun v31 ev31 => ?_)
        refine j_iconst C (v := 1) dX13_isSingle_30 (by decide) ?_
        refine j_isub C dX13_isSingle_31 ?_
        refine j_putI C p_X13_179 (fun q => nomatch q) dX13_isSingle_32 (fun h32 eh32 => ?_)
        refine j_aload_n C dX13_isSingle_35 (i := 0) rfl rfl ?_
        refine j_bipush C (v := 17) dX13_isSingle_36 (by decide) ?_
        refine j_callVv C (As := [.int _]) (rest := []) k_X13_133 ⟨by simp only [rm_g_Md_isBoth]; omega, by simp only [rm_g_Md_isBoth]; omega⟩ rfl (Nat.le_of_ble_eq_true rfl) ⟨Nat.le_of_ble_eq_true rfl, Nat.le_of_ble_eq_true rfl⟩ rfl dX13_isSingle_38 (fun r0 q0 => c_Md_put l w _ _ _ _ q0) (fun h33 eh33 _ => ?_)
        refine j_iconst C (v := 1) dX13_isSingle_41 (by decide) ?_
        exact e_iretM C hQ hr rfl hlk dX13_isSingle_42 (Nat.le_of_ble_eq_true rfl) (Nat.le_of_ble_eq_true rfl)
set_option maxRecDepth 100000 in
set_option maxHeartbeats 4000000 in
theorem b_Md_isTest_9 {p : Program} {l : Launch} {e : Env} {s : State} {m : MethodId} {args : Array Value} {below : List Frame} {meth : Method} {c : Code} {Q : State → Prop} {w : hp_W} {out : Int32 × hp_M} (fl : Nat)  (nr : Nat) (rc : Nat → Nat → hp_M → Option (Int32 × hp_M)) (hrec0 : ∀ (a : Nat) (h : hp_M) (r : Int32 × hp_M), rc 0 a h = some r → CT l w yX13_isBoth cX13_isBoth 1 (some .boolean) (rm_g_Md_isBoth nr) [.ref a] h (some (.int r.1)) r.2) (hrec1 : ∀ (a : Nat) (h : hp_M) (r : Int32 × hp_M), rc 1 a h = some r → CT l w yX13_isSingle cX13_isSingle 1 (some .boolean) (rm_g_Md_isBoth nr) [.ref a] h (some (.int r.1)) r.2) (hrec2 : ∀ (a : Nat) (h : hp_M) (r : Int32 × hp_M), rc 2 a h = some r → CT l w yX13_isTest cX13_isTest 1 (some .boolean) (rm_g_Md_isBoth nr) [.ref a] h (some (.int r.1)) r.2)  (a0 : Nat) (C : Cx p m c cX13_isTest 1 s args RX13 w) (hr : meth.sig.returnType = some .boolean) (hlk : meth.locks = false) (hnm : meth.name = "isTest") (hQ : QM below w args s (rm_g_Md_isBoth (nr + 1)) (some .boolean) (some (.int out.1)) out.2 = Q)  : ∀ (n : Nat) (h : hp_M), J p l e (rm_g_Md_isBoth (nr + 1)) s m args below meth c Q w 1 0 0 9 [(0, .ref a0)] [] h (f_Md_isTest_b9 fl rc a0 n h) out := by
  intro n
  induction n with
  | zero => intro h; exact j_none
  | succ n ih =>
    intro h
    rw [f_Md_isTest_b9]
    refine j_aload_n C dX13_isTest_9 (i := 0) rfl rfl ?_
    refine j_bipush C (v := 19) dX13_isTest_10 (by decide) ?_
    refine j_callVim C (As := [.int _]) (rest := []) k_X13_119 ⟨by simp only [rm_g_Md_isBoth]; omega, by simp only [rm_g_Md_isBoth]; omega⟩ rfl (Nat.le_of_ble_eq_true rfl) ⟨Nat.le_of_ble_eq_true rfl, Nat.le_of_ble_eq_true rfl⟩ rfl dX13_isTest_12 (fun r0 q0 => c_Md_eat l w _ _ _ _ q0) (fun r1003 er1003 nr1003 => ?_)
    refine j_ifeq C (tgt := 36) dX13_isTest_15 (by decide) (fun q1004 => ?_) (fun q1004 => ?_)
    · refine j_iconst C (v := 1) dX13_isTest_36 (by decide) ?_
      exact e_iretM C hQ hr rfl hlk dX13_isTest_37 (Nat.le_of_ble_eq_true rfl) (Nat.le_of_ble_eq_true rfl)
    · refine j_aload_n C dX13_isTest_18 (i := 0) rfl rfl ?_
      refine j_callVim C (As := []) (rest := []) k_X13_173 ⟨by simp only [rm_g_Md_isBoth]; omega, by simp only [rm_g_Md_isBoth]; omega⟩ rfl (Nat.le_of_ble_eq_true rfl) ⟨Nat.le_of_ble_eq_true rfl, Nat.le_of_ble_eq_true rfl⟩ rfl dX13_isTest_19 (fun r0 q0 => hrec0 _  _ r0 q0) (fun r1005 er1005 nr1005 => ?_)
      refine j_ifne C (tgt := 27) dX13_isTest_22 (by decide) (fun q1006 => ?_) (fun q1006 => ?_)
      · refine j_iconst C (v := 0) dX13_isTest_25 (by decide) ?_
        exact e_iretM C hQ hr rfl hlk dX13_isTest_26 (Nat.le_of_ble_eq_true rfl) (Nat.le_of_ble_eq_true rfl)
      · refine j_aload_n C dX13_isTest_27 (i := 0) rfl rfl ?_
        refine j_bipush C (v := 19) dX13_isTest_28 (by decide) ?_
        refine j_callVv C (As := [.int _]) (rest := []) k_X13_133 ⟨by simp only [rm_g_Md_isBoth]; omega, by simp only [rm_g_Md_isBoth]; omega⟩ rfl (Nat.le_of_ble_eq_true rfl) ⟨Nat.le_of_ble_eq_true rfl, Nat.le_of_ble_eq_true rfl⟩ rfl dX13_isTest_30 (fun r0 q0 => c_Md_put l w _ _ _ _ q0) (fun h1007 eh1007 _ => ?_)
        refine j_goto C (tgt := 9) dX13_isTest_33 (by decide) ?_
        exact ih _
set_option maxRecDepth 100000 in
set_option maxHeartbeats 4000000 in
theorem cb_Md_isTest (l : Launch) (w : hp_W) (fl : Nat) (nr : Nat) (rc : Nat → Nat → hp_M → Option (Int32 × hp_M)) (hrec0 : ∀ (a : Nat) (h : hp_M) (r : Int32 × hp_M), rc 0 a h = some r → CT l w yX13_isBoth cX13_isBoth 1 (some .boolean) (rm_g_Md_isBoth nr) [.ref a] h (some (.int r.1)) r.2) (hrec1 : ∀ (a : Nat) (h : hp_M) (r : Int32 × hp_M), rc 1 a h = some r → CT l w yX13_isSingle cX13_isSingle 1 (some .boolean) (rm_g_Md_isBoth nr) [.ref a] h (some (.int r.1)) r.2) (hrec2 : ∀ (a : Nat) (h : hp_M) (r : Int32 × hp_M), rc 2 a h = some r → CT l w yX13_isTest cX13_isTest 1 (some .boolean) (rm_g_Md_isBoth nr) [.ref a] h (some (.int r.1)) r.2) (a0 : Nat) (h : hp_M) (out : Int32 × hp_M) (hX : f_Md_isTest_body fl rc a0 h = some out) : CT l w yX13_isTest cX13_isTest 1 (some .boolean) (rm_g_Md_isBoth (nr + 1)) [.ref a0] h (some (.int out.1)) out.2 := by
  unfold f_Md_isTest_body at hX
  refine ct_of (by decide +kernel) (Nat.le_of_ble_eq_true rfl) hX ?_
  intro p e s m args below meth c Q C hr hlk hnm hQ
  refine j_aload_n C dX13_isTest_0 (i := 0) rfl rfl ?_
  refine j_callVim C (As := []) (rest := []) k_X13_173 ⟨by simp only [rm_g_Md_isBoth]; omega, by simp only [rm_g_Md_isBoth]; omega⟩ rfl (Nat.le_of_ble_eq_true rfl) ⟨Nat.le_of_ble_eq_true rfl, Nat.le_of_ble_eq_true rfl⟩ rfl dX13_isTest_1 (fun r0 q0 => hrec0 _  _ r0 q0) (fun r1 er1 nr1 => ?_)
  refine j_ifne C (tgt := 9) dX13_isTest_4 (by decide) (fun q2 => ?_) (fun q2 => ?_)
  · refine j_iconst C (v := 0) dX13_isTest_7 (by decide) ?_
    exact e_iretM C hQ hr rfl hlk dX13_isTest_8 (Nat.le_of_ble_eq_true rfl) (Nat.le_of_ble_eq_true rfl)
  · refine j_sub [0] rfl (b_Md_isTest_9 fl nr rc hrec0 hrec1 hrec2  _ C hr hlk hnm hQ  _ _)
theorem c_g_Md_isBoth (l : Launch) (w : hp_W) (fl : Nat) : ∀ n : Nat, (∀ (a : Nat) (h : hp_M) (r : Int32 × hp_M), g_Md_isBoth fl n 0 a h = some r → CT l w yX13_isBoth cX13_isBoth 1 (some .boolean) (rm_g_Md_isBoth n) [.ref a] h (some (.int r.1)) r.2) ∧ (∀ (a : Nat) (h : hp_M) (r : Int32 × hp_M), g_Md_isBoth fl n 1 a h = some r → CT l w yX13_isSingle cX13_isSingle 1 (some .boolean) (rm_g_Md_isBoth n) [.ref a] h (some (.int r.1)) r.2) ∧ (∀ (a : Nat) (h : hp_M) (r : Int32 × hp_M), g_Md_isBoth fl n 2 a h = some r → CT l w yX13_isTest cX13_isTest 1 (some .boolean) (rm_g_Md_isBoth n) [.ref a] h (some (.int r.1)) r.2) := by
  intro n
  induction n with
  | zero => exact ⟨(fun a h r q => nomatch q), (fun a h r q => nomatch q), (fun a h r q => nomatch q)⟩
  | succ n ih =>
    obtain ⟨ih0, ih1, ih2⟩ := ih
    exact ⟨fun a h r q => cb_Md_isBoth l w fl n (g_Md_isBoth fl n) ih0 ih1 ih2 a h r (by first | exact q | simpa [g_Md_isBoth] using q), fun a h r q => cb_Md_isSingle l w fl n (g_Md_isBoth fl n) ih0 ih1 ih2 a h r (by first | exact q | simpa [g_Md_isBoth] using q), fun a h r q => cb_Md_isTest l w fl n (g_Md_isBoth fl n) ih0 ih1 ih2 a h r (by first | exact q | simpa [g_Md_isBoth] using q)⟩
theorem c_Md_isBoth (l : Launch) (w : hp_W) (fl : Nat) (a0 : Nat) (h : hp_M) (out : Int32 × hp_M) (hX : f_Md_isBoth fl a0 h = some out) : CT l w yX13_isBoth cX13_isBoth 1 (some .boolean) ({ frames := 134, cells := 0, slots := 0, locals := 2815 }) [.ref a0] h (some (.int out.1)) out.2 := (c_g_Md_isBoth l w fl 64).1 a0 h out hX
theorem c_Md_isSingle (l : Launch) (w : hp_W) (fl : Nat) (a0 : Nat) (h : hp_M) (out : Int32 × hp_M) (hX : f_Md_isSingle fl a0 h = some out) : CT l w yX13_isSingle cX13_isSingle 1 (some .boolean) ({ frames := 134, cells := 0, slots := 0, locals := 2815 }) [.ref a0] h (some (.int out.1)) out.2 := (c_g_Md_isBoth l w fl 64).2.1 a0 h out hX
theorem c_Md_isTest (l : Launch) (w : hp_W) (fl : Nat) (a0 : Nat) (h : hp_M) (out : Int32 × hp_M) (hX : f_Md_isTest fl a0 h = some out) : CT l w yX13_isTest cX13_isTest 1 (some .boolean) ({ frames := 134, cells := 0, slots := 0, locals := 2815 }) [.ref a0] h (some (.int out.1)) out.2 := (c_g_Md_isBoth l w fl 64).2.2 a0 h out hX
def f_Md_isRule (fl : Nat) (a0 : Nat) (h : hp_M) : Option (Int32 × hp_M) := (gR h a0 12 7).bind fun v1 => (gI h a0 12 9).bind fun v2 => (paI h v1 v2 7).bind fun h3 => (gI h3 a0 12 9).bind fun v4 => (pF h3 a0 12 9 (.int (v4 + 1))).bind fun h5 => (gR h5 a0 12 12).bind fun v6 => (gI h5 v6 11 5).bind fun v7 => (gR h5 a0 12 12).bind fun v8 => (gR h5 v8 11 6).bind fun v9 => (gR h5 a0 12 12).bind fun v10 => (gI h5 v10 11 10).bind fun v11 => (paI h5 v9 (imin v7 12) v11).bind fun h12 => (onO h12 a0 12 (f_Md_isTest fl a0 h12)).bind fun r13 => if r13.1 = 0 then (some (0, r13.2)) else ((onO r13.2 a0 12 (f_Md_eat a0 8 r13.2)).bind fun r15 => if r15.1 = 0 then (some (0, r15.2)) else ((gR r15.2 a0 12 12).bind fun v17 => (gR r15.2 v17 11 7).bind fun v18 => (gR r15.2 a0 12 12).bind fun v19 => (gI r15.2 v19 11 10).bind fun v20 => (paI r15.2 v18 (imin v7 12) v20).bind fun h21 => (onO h21 a0 12 (f_Md_isSum fl a0 h21)).bind fun r22 => if r22.1 = 0 then (some (0, r22.2)) else ((onO r22.2 a0 12 (f_Md_eat a0 9 r22.2)).bind fun r24 => if r24.1 = 0 then (some (0, r24.2)) else ((gR r24.2 a0 12 12).bind fun v26 => (gR r24.2 v26 11 8).bind fun v27 => (gI r24.2 a0 12 9).bind fun v28 => (paI r24.2 v27 (imin v7 12) v28).bind fun h29 => (onO h29 a0 12 (f_Md_eatAs a0 30 6 h29)).bind fun r30 => if r30.1 = 0 then (some (0, r30.2)) else ((gR r30.2 a0 12 12).bind fun v32 => (gI r30.2 v32 11 5).bind fun v33 => (pF r30.2 v32 11 5 (.int (v33 + 1))).bind fun h34 => (gR h34 a0 12 12).bind fun v35 => (gR h34 v35 11 6).bind fun v36 => (gR h34 a0 12 12).bind fun v37 => (gI h34 v37 11 5).bind fun v38 => (gR h34 a0 12 12).bind fun v39 => (gI h34 v39 11 10).bind fun v40 => (paI h34 v36 (imin v38 12) v40).bind fun h41 => (onO h41 a0 12 (f_Md_eatSign a0 59 h41)).bind fun r42 => some (r42.1, r42.2))))))
set_option maxRecDepth 100000 in
set_option maxHeartbeats 4000000 in
theorem c_Md_isRule (l : Launch) (w : hp_W) (fl : Nat) (a0 : Nat) (h : hp_M) (out : Int32 × hp_M) (hX : f_Md_isRule fl a0 h = some out) : CT l w yX13_isRule cX13_isRule 2 (some .boolean) ({ frames := 135, cells := 0, slots := 0, locals := 2835 }) [.ref a0] h (some (.int out.1)) out.2 := by
  unfold f_Md_isRule at hX
  refine ct_of (by decide +kernel) (Nat.le_of_ble_eq_true rfl) hX ?_
  intro p e s m args below meth c Q C hr hlk hnm hQ
  refine j_aload_n C dX13_isRule_0 (i := 0) rfl rfl ?_
  refine j_getR C g_X13_26 dX13_isRule_1 (fun v1 ev1 => ?_)
  refine j_aload_n C dX13_isRule_4 (i := 0) rfl rfl ?_
  refine j_getI C g_X13_113 dX13_isRule_5 (fun v2 ev2 => ?_)
  refine j_bipush C (v := 7) dX13_isRule_8 (by decide) ?_
  refine j_iastore C dX13_isRule_10 (fun h3 eh3 => ?_)
  refine j_aload_n C dX13_isRule_11 (i := 0) rfl rfl ?_
  refine j_dup C dX13_isRule_12 rfl ?_
  refine j_getI C g_X13_113 dX13_isRule_13 (fun v4 ev4 => ?_)
  refine j_iconst C (v := 1) dX13_isRule_16 (by decide) ?_
  refine j_iadd C dX13_isRule_17 ?_
  refine j_putI C p_X13_113 (fun q => nomatch q) dX13_isRule_18 (fun h5 eh5 => ?_)
  refine j_aload_n C dX13_isRule_21 (i := 0) rfl rfl ?_
  refine j_getR C g_X13_39 dX13_isRule_22 (fun v6 ev6 => ?_)
  refine j_getI C g_X13_155 dX13_isRule_25 (fun v7 ev7 => ?_)
  refine j_bipush C (v := 12) dX13_isRule_28 (by decide) ?_
  refine j_mmin C ⟨k_X13_73, Nat.le_of_ble_eq_true rfl, Nat.le_of_ble_eq_true rfl⟩ (Nat.le_of_ble_eq_true rfl) (Nat.le_of_ble_eq_true rfl) dX13_isRule_30 ?_
  refine j_istore_n C [(1, _), (0, _)] dX13_isRule_33 (i := 1) rfl (by decide) rfl ?_
  refine j_aload_n C dX13_isRule_34 (i := 0) rfl rfl ?_
  refine j_getR C g_X13_39 dX13_isRule_35 (fun v8 ev8 => ?_)
  refine j_getR C g_X13_158 dX13_isRule_38 (fun v9 ev9 => ?_)
  refine j_iload_n C dX13_isRule_41 (i := 1) rfl rfl ?_
  refine j_aload_n C dX13_isRule_42 (i := 0) rfl rfl ?_
  refine j_getR C g_X13_39 dX13_isRule_43 (fun v10 ev10 => ?_)
  refine j_getI C g_X13_125 dX13_isRule_46 (fun v11 ev11 => ?_)
  refine j_iastore C dX13_isRule_49 (fun h12 eh12 => ?_)
  refine j_aload_n C dX13_isRule_50 (i := 0) rfl rfl ?_
  refine j_callVim C (As := []) (rest := []) k_X13_161 ⟨Nat.le_of_ble_eq_true rfl, Nat.le_of_ble_eq_true rfl⟩ rfl (Nat.le_of_ble_eq_true rfl) ⟨Nat.le_of_ble_eq_true rfl, Nat.le_of_ble_eq_true rfl⟩ rfl dX13_isRule_51 (fun r0 q0 => c_Md_isTest l w fl _ _ _ q0) (fun r13 er13 nr13 => ?_)
  refine j_ifeq C (tgt := 66) dX13_isRule_54 (by decide) (fun q14 => ?_) (fun q14 => ?_)
  · refine j_iconst C (v := 0) dX13_isRule_66 (by decide) ?_
    exact e_iretM C hQ hr rfl hlk dX13_isRule_67 (Nat.le_of_ble_eq_true rfl) (Nat.le_of_ble_eq_true rfl)
  · refine j_aload_n C dX13_isRule_57 (i := 0) rfl rfl ?_
    refine j_bipush C (v := 8) dX13_isRule_58 (by decide) ?_
    refine j_callVim C (As := [.int _]) (rest := []) k_X13_119 ⟨Nat.le_of_ble_eq_true rfl, Nat.le_of_ble_eq_true rfl⟩ rfl (Nat.le_of_ble_eq_true rfl) ⟨Nat.le_of_ble_eq_true rfl, Nat.le_of_ble_eq_true rfl⟩ rfl dX13_isRule_60 (fun r0 q0 => c_Md_eat l w _ _ _ _ q0) (fun r15 er15 nr15 => ?_)
    refine j_ifne C (tgt := 68) dX13_isRule_63 (by decide) (fun q16 => ?_) (fun q16 => ?_)
    · refine j_iconst C (v := 0) dX13_isRule_66 (by decide) ?_
      exact e_iretM C hQ hr rfl hlk dX13_isRule_67 (Nat.le_of_ble_eq_true rfl) (Nat.le_of_ble_eq_true rfl)
    · refine j_aload_n C dX13_isRule_68 (i := 0) rfl rfl ?_
      refine j_getR C g_X13_39 dX13_isRule_69 (fun v17 ev17 => ?_)
      refine j_getR C g_X13_164 dX13_isRule_72 (fun v18 ev18 => ?_)
      refine j_iload_n C dX13_isRule_75 (i := 1) rfl rfl ?_
      refine j_aload_n C dX13_isRule_76 (i := 0) rfl rfl ?_
      refine j_getR C g_X13_39 dX13_isRule_77 (fun v19 ev19 => ?_)
      refine j_getI C g_X13_125 dX13_isRule_80 (fun v20 ev20 => ?_)
      refine j_iastore C dX13_isRule_83 (fun h21 eh21 => ?_)
      refine j_aload_n C dX13_isRule_84 (i := 0) rfl rfl ?_
      refine j_callVim C (As := []) (rest := []) k_X13_167 ⟨Nat.le_of_ble_eq_true rfl, Nat.le_of_ble_eq_true rfl⟩ rfl (Nat.le_of_ble_eq_true rfl) ⟨Nat.le_of_ble_eq_true rfl, Nat.le_of_ble_eq_true rfl⟩ rfl dX13_isRule_85 (fun r0 q0 => c_Md_isSum l w fl _ _ _ q0) (fun r22 er22 nr22 => ?_)
      refine j_ifeq C (tgt := 100) dX13_isRule_88 (by decide) (fun q23 => ?_) (fun q23 => ?_)
      · refine j_iconst C (v := 0) dX13_isRule_100 (by decide) ?_
        exact e_iretM C hQ hr rfl hlk dX13_isRule_101 (Nat.le_of_ble_eq_true rfl) (Nat.le_of_ble_eq_true rfl)
      · refine j_aload_n C dX13_isRule_91 (i := 0) rfl rfl ?_
        refine j_bipush C (v := 9) dX13_isRule_92 (by decide) ?_
        refine j_callVim C (As := [.int _]) (rest := []) k_X13_119 ⟨Nat.le_of_ble_eq_true rfl, Nat.le_of_ble_eq_true rfl⟩ rfl (Nat.le_of_ble_eq_true rfl) ⟨Nat.le_of_ble_eq_true rfl, Nat.le_of_ble_eq_true rfl⟩ rfl dX13_isRule_94 (fun r0 q0 => c_Md_eat l w _ _ _ _ q0) (fun r24 er24 nr24 => ?_)
        refine j_ifne C (tgt := 102) dX13_isRule_97 (by decide) (fun q25 => ?_) (fun q25 => ?_)
        · refine j_iconst C (v := 0) dX13_isRule_100 (by decide) ?_
          exact e_iretM C hQ hr rfl hlk dX13_isRule_101 (Nat.le_of_ble_eq_true rfl) (Nat.le_of_ble_eq_true rfl)
        · refine j_aload_n C dX13_isRule_102 (i := 0) rfl rfl ?_
          refine j_getR C g_X13_39 dX13_isRule_103 (fun v26 ev26 => ?_)
          refine j_getR C g_X13_170 dX13_isRule_106 (fun v27 ev27 => ?_)
          refine j_iload_n C dX13_isRule_109 (i := 1) rfl rfl ?_
          refine j_aload_n C dX13_isRule_110 (i := 0) rfl rfl ?_
          refine j_getI C g_X13_113 dX13_isRule_111 (fun v28 ev28 => ?_)
          refine j_iastore C dX13_isRule_114 (fun h29 eh29 => ?_)
          refine j_aload_n C dX13_isRule_115 (i := 0) rfl rfl ?_
          refine j_bipush C (v := 30) dX13_isRule_116 (by decide) ?_
          refine j_bipush C (v := 6) dX13_isRule_118 (by decide) ?_
          refine j_callVim C (As := [.int _, .int _]) (rest := []) k_X13_147 ⟨Nat.le_of_ble_eq_true rfl, Nat.le_of_ble_eq_true rfl⟩ rfl (Nat.le_of_ble_eq_true rfl) ⟨Nat.le_of_ble_eq_true rfl, Nat.le_of_ble_eq_true rfl⟩ rfl dX13_isRule_120 (fun r0 q0 => c_Md_eatAs l w _ _ _ _ _ q0) (fun r30 er30 nr30 => ?_)
          refine j_ifne C (tgt := 128) dX13_isRule_123 (by decide) (fun q31 => ?_) (fun q31 => ?_)
          · refine j_iconst C (v := 0) dX13_isRule_126 (by decide) ?_
            exact e_iretM C hQ hr rfl hlk dX13_isRule_127 (Nat.le_of_ble_eq_true rfl) (Nat.le_of_ble_eq_true rfl)
          · refine j_aload_n C dX13_isRule_128 (i := 0) rfl rfl ?_
            refine j_getR C g_X13_39 dX13_isRule_129 (fun v32 ev32 => ?_)
            refine j_dup C dX13_isRule_132 rfl ?_
            refine j_getI C g_X13_155 dX13_isRule_133 (fun v33 ev33 => ?_)
            refine j_iconst C (v := 1) dX13_isRule_136 (by decide) ?_
            refine j_iadd C dX13_isRule_137 ?_
            refine j_putI C p_X13_155 (fun q => nomatch q) dX13_isRule_138 (fun h34 eh34 => ?_)
            refine j_aload_n C dX13_isRule_141 (i := 0) rfl rfl ?_
            refine j_getR C g_X13_39 dX13_isRule_142 (fun v35 ev35 => ?_)
            refine j_getR C g_X13_158 dX13_isRule_145 (fun v36 ev36 => ?_)
            refine j_aload_n C dX13_isRule_148 (i := 0) rfl rfl ?_
            refine j_getR C g_X13_39 dX13_isRule_149 (fun v37 ev37 => ?_)
            refine j_getI C g_X13_155 dX13_isRule_152 (fun v38 ev38 => ?_)
            refine j_bipush C (v := 12) dX13_isRule_155 (by decide) ?_
            refine j_mmin C ⟨k_X13_73, Nat.le_of_ble_eq_true rfl, Nat.le_of_ble_eq_true rfl⟩ (Nat.le_of_ble_eq_true rfl) (Nat.le_of_ble_eq_true rfl) dX13_isRule_157 ?_
            refine j_aload_n C dX13_isRule_160 (i := 0) rfl rfl ?_
            refine j_getR C g_X13_39 dX13_isRule_161 (fun v39 ev39 => ?_)
            refine j_getI C g_X13_125 dX13_isRule_164 (fun v40 ev40 => ?_)
            refine j_iastore C dX13_isRule_167 (fun h41 eh41 => ?_)
            refine j_aload_n C dX13_isRule_168 (i := 0) rfl rfl ?_
            refine j_bipush C (v := 59) dX13_isRule_169 (by decide) ?_
            refine j_callVim C (As := [.int _]) (rest := []) k_X13_151 ⟨Nat.le_of_ble_eq_true rfl, Nat.le_of_ble_eq_true rfl⟩ rfl (Nat.le_of_ble_eq_true rfl) ⟨Nat.le_of_ble_eq_true rfl, Nat.le_of_ble_eq_true rfl⟩ rfl dX13_isRule_171 (fun r0 q0 => c_Md_eatSign l w _ _ _ _ q0) (fun r42 er42 nr42 => ?_)
            exact e_iretM C hQ hr (nr42 _ _ rfl rfl) hlk dX13_isRule_174 (Nat.le_of_ble_eq_true rfl) (Nat.le_of_ble_eq_true rfl)
def f_Md_isText_b0 (fl : Nat) (a0 : Nat) : Nat → hp_M → Option (Int32 × hp_M)
  | 0, _ => none
  | n + 1, h => (onO h a0 12 (f_Md_is a0 900 h)).bind fun r1001 => if r1001 = 0 then (jn (fun (u1006 : Int32) (h1007 : hp_M) => if u1006 = 0 then (some (0, h1007)) else (f_Md_isText_b0 fl a0 n h1007)) fun (j1005 : Int32 → hp_M → Option (Int32 × hp_M)) => (onO h a0 12 (f_Md_is a0 0 h)).bind fun r1009 => if r1009 = 0 then ((onO h a0 12 (f_Md_is a0 6 h)).bind fun r1011 => if r1011 = 0 then (jn (fun (h1021 : hp_M) => j1005 0 h1021) fun (j1020 : hp_M → Option (Int32 × hp_M)) => (onO h a0 12 (f_Md_is a0 7 h)).bind fun r1022 => if r1022 = 0 then (j1020 h) else ((onO h a0 12 (f_Md_isRule fl a0 h)).bind fun r1024 => if r1024.1 = 0 then (j1020 r1024.2) else (j1005 1 r1024.2))) else ((onO h a0 12 (f_Md_isAlphabetLine a0 h)).bind fun r1026 => j1005 r1026.1 r1026.2)) else ((onO h a0 12 (f_Md_isPlanetLine a0 h)).bind fun r1027 => j1005 r1027.1 r1027.2)) else (some (1, h))
def f_Md_isText (fl : Nat) (a0 : Nat) (h : hp_M) : Option (Int32 × hp_M) := f_Md_isText_b0 fl a0 fl h
set_option maxRecDepth 100000 in
set_option maxHeartbeats 4000000 in
theorem b_Md_isText_0 {p : Program} {l : Launch} {e : Env} {s : State} {m : MethodId} {args : Array Value} {below : List Frame} {meth : Method} {c : Code} {Q : State → Prop} {w : hp_W} {out : Int32 × hp_M} (fl : Nat)   (a0 : Nat) (C : Cx p m c cX13_isText 2 s args RX13 w) (hr : meth.sig.returnType = some .boolean) (hlk : meth.locks = false) (hnm : meth.name = "isText") (hQ : QM below w args s ({ frames := 136, cells := 0, slots := 0, locals := 2856 }) (some .boolean) (some (.int out.1)) out.2 = Q)  : ∀ (n : Nat) (h : hp_M), J p l e ({ frames := 136, cells := 0, slots := 0, locals := 2856 }) s m args below meth c Q w 2 0 0 0 [(0, .ref a0)] [] h (f_Md_isText_b0 fl a0 n h) out := by
  intro n
  induction n with
  | zero => intro h; exact j_none
  | succ n ih =>
    intro h
    rw [f_Md_isText_b0]
    refine j_aload_n C dX13_isText_0 (i := 0) rfl rfl ?_
    refine j_sipush C (v := 900) dX13_isText_1 (by decide) ?_
    refine j_callVi C (As := [.int _]) (rest := []) k_X13_116 ⟨Nat.le_of_ble_eq_true rfl, Nat.le_of_ble_eq_true rfl⟩ rfl (Nat.le_of_ble_eq_true rfl) ⟨Nat.le_of_ble_eq_true rfl, Nat.le_of_ble_eq_true rfl⟩ rfl dX13_isText_4 (fun r0 q0 => c_Md_is l w _ _ _ _ q0) (fun r1001 er1001 nr1001 => ?_)
    refine j_ifne C (tgt := 72) dX13_isText_7 (by decide) (fun q1002 => ?_) (fun q1002 => ?_)
    · refine j_jn (P := fun (j1005 : Int32 → hp_M → Option (Int32 × hp_M)) => ∀ (u1006 : Int32) (h1007 : hp_M), J p l e ({ frames := 136, cells := 0, slots := 0, locals := 2856 }) s m args below meth c Q w 2 0 0 62 [(0, .ref a0)] [.int u1006] h1007 (j1005 u1006 h1007) out) ?_ (fun j1005 hj1005 => ?_)
      · intro u1006 h1007
        refine j_istore_n C [(1, _), (0, _)] dX13_isText_62 (i := 1) rfl (by decide) rfl ?_
        refine j_iload_n C dX13_isText_63 (i := 1) rfl rfl ?_
        refine j_ifne C (tgt := 69) dX13_isText_64 (by decide) (fun q1008 => ?_) (fun q1008 => ?_)
        · refine j_iconst C (v := 0) dX13_isText_67 (by decide) ?_
          exact e_iretM C hQ hr rfl hlk dX13_isText_68 (Nat.le_of_ble_eq_true rfl) (Nat.le_of_ble_eq_true rfl)
        · refine j_goto C (tgt := 0) dX13_isText_69 (by decide) ?_
          exact j_sub [1] rfl (ih _)
      · refine j_aload_n C dX13_isText_10 (i := 0) rfl rfl ?_
        refine j_iconst C (v := 0) dX13_isText_11 (by decide) ?_
        refine j_callVi C (As := [.int _]) (rest := []) k_X13_116 ⟨Nat.le_of_ble_eq_true rfl, Nat.le_of_ble_eq_true rfl⟩ rfl (Nat.le_of_ble_eq_true rfl) ⟨Nat.le_of_ble_eq_true rfl, Nat.le_of_ble_eq_true rfl⟩ rfl dX13_isText_12 (fun r0 q0 => c_Md_is l w _ _ _ _ q0) (fun r1009 er1009 nr1009 => ?_)
        refine j_ifeq C (tgt := 25) dX13_isText_15 (by decide) (fun q1010 => ?_) (fun q1010 => ?_)
        · refine j_aload_n C dX13_isText_25 (i := 0) rfl rfl ?_
          refine j_bipush C (v := 6) dX13_isText_26 (by decide) ?_
          refine j_callVi C (As := [.int _]) (rest := []) k_X13_116 ⟨Nat.le_of_ble_eq_true rfl, Nat.le_of_ble_eq_true rfl⟩ rfl (Nat.le_of_ble_eq_true rfl) ⟨Nat.le_of_ble_eq_true rfl, Nat.le_of_ble_eq_true rfl⟩ rfl dX13_isText_28 (fun r0 q0 => c_Md_is l w _ _ _ _ q0) (fun r1011 er1011 nr1011 => ?_)
          refine j_ifeq C (tgt := 41) dX13_isText_31 (by decide) (fun q1012 => ?_) (fun q1012 => ?_)
          · refine j_jn (P := fun (j1020 : hp_M → Option (Int32 × hp_M)) => ∀ (h1021 : hp_M), J p l e ({ frames := 136, cells := 0, slots := 0, locals := 2856 }) s m args below meth c Q w 2 0 0 61 [(0, .ref a0)] [] h1021 (j1020 h1021) out) ?_ (fun j1020 hj1020 => ?_)
            · intro h1021
              refine j_iconst C (v := 0) dX13_isText_61 (by decide) ?_
              exact hj1005 _ _
            · refine j_aload_n C dX13_isText_41 (i := 0) rfl rfl ?_
              refine j_bipush C (v := 7) dX13_isText_42 (by decide) ?_
              refine j_callVi C (As := [.int _]) (rest := []) k_X13_116 ⟨Nat.le_of_ble_eq_true rfl, Nat.le_of_ble_eq_true rfl⟩ rfl (Nat.le_of_ble_eq_true rfl) ⟨Nat.le_of_ble_eq_true rfl, Nat.le_of_ble_eq_true rfl⟩ rfl dX13_isText_44 (fun r0 q0 => c_Md_is l w _ _ _ _ q0) (fun r1022 er1022 nr1022 => ?_)
              refine j_ifeq C (tgt := 61) dX13_isText_47 (by decide) (fun q1023 => ?_) (fun q1023 => ?_)
              · exact hj1020 _
              · refine j_aload_n C dX13_isText_50 (i := 0) rfl rfl ?_
                refine j_callVim C (As := []) (rest := []) k_X13_144 ⟨Nat.le_of_ble_eq_true rfl, Nat.le_of_ble_eq_true rfl⟩ rfl (Nat.le_of_ble_eq_true rfl) ⟨Nat.le_of_ble_eq_true rfl, Nat.le_of_ble_eq_true rfl⟩ rfl dX13_isText_51 (fun r0 q0 => c_Md_isRule l w fl _ _ _ q0) (fun r1024 er1024 nr1024 => ?_)
                refine j_ifeq C (tgt := 61) dX13_isText_54 (by decide) (fun q1025 => ?_) (fun q1025 => ?_)
                · exact hj1020 _
                · refine j_iconst C (v := 1) dX13_isText_57 (by decide) ?_
                  refine j_goto C (tgt := 62) dX13_isText_58 (by decide) ?_
                  exact hj1005 _ _
          · refine j_aload_n C dX13_isText_34 (i := 0) rfl rfl ?_
            refine j_callVim C (As := []) (rest := []) k_X13_141 ⟨Nat.le_of_ble_eq_true rfl, Nat.le_of_ble_eq_true rfl⟩ rfl (Nat.le_of_ble_eq_true rfl) ⟨Nat.le_of_ble_eq_true rfl, Nat.le_of_ble_eq_true rfl⟩ rfl dX13_isText_35 (fun r0 q0 => c_Md_isAlphabetLine l w _ _ _ q0) (fun r1026 er1026 nr1026 => ?_)
            refine j_goto C (tgt := 62) dX13_isText_38 (by decide) ?_
            exact hj1005 _ _
        · refine j_aload_n C dX13_isText_18 (i := 0) rfl rfl ?_
          refine j_callVim C (As := []) (rest := []) k_X13_137 ⟨Nat.le_of_ble_eq_true rfl, Nat.le_of_ble_eq_true rfl⟩ rfl (Nat.le_of_ble_eq_true rfl) ⟨Nat.le_of_ble_eq_true rfl, Nat.le_of_ble_eq_true rfl⟩ rfl dX13_isText_19 (fun r0 q0 => c_Md_isPlanetLine l w _ _ _ q0) (fun r1027 er1027 nr1027 => ?_)
          refine j_goto C (tgt := 62) dX13_isText_22 (by decide) ?_
          exact hj1005 _ _
    · refine j_iconst C (v := 1) dX13_isText_72 (by decide) ?_
      exact e_iretM C hQ hr rfl hlk dX13_isText_73 (Nat.le_of_ble_eq_true rfl) (Nat.le_of_ble_eq_true rfl)
set_option maxRecDepth 100000 in
set_option maxHeartbeats 4000000 in
theorem c_Md_isText (l : Launch) (w : hp_W) (fl : Nat) (a0 : Nat) (h : hp_M) (out : Int32 × hp_M) (hX : f_Md_isText fl a0 h = some out) : CT l w yX13_isText cX13_isText 2 (some .boolean) ({ frames := 136, cells := 0, slots := 0, locals := 2856 }) [.ref a0] h (some (.int out.1)) out.2 := by
  unfold f_Md_isText at hX
  refine ct_of (by decide +kernel) (Nat.le_of_ble_eq_true rfl) hX ?_
  intro p e s m args below meth c Q C hr hlk hnm hQ
  refine j_sub [0] rfl (b_Md_isText_0 fl  _ C hr hlk hnm hQ  _ _)
def f_Md_isSame_b19 (fl : Nat) (a0 : Nat) (x1 : Int32) (x2 : Int32) (h : hp_M) : Nat → Int32 → Option (Int32)
  | 0, _ => none
  | n + 1, x3 => (gR h a0 12 6).bind fun v1006 => (gaI h v1006 x1).bind fun v1007 => if v1007 ≤ x3 then (some 1) else ((gR h a0 12 1).bind fun v1009 => (gR h a0 12 5).bind fun v1010 => (gaI h v1010 x1).bind fun v1011 => (gaI h v1009 (v1011 + x3)).bind fun v1012 => (gR h a0 12 1).bind fun v1013 => (gR h a0 12 5).bind fun v1014 => (gaI h v1014 x2).bind fun v1015 => (gaI h v1013 (v1015 + x3)).bind fun v1016 => if v1012 = v1016 then (f_Md_isSame_b19 fl a0 x1 x2 h n (x3 + 1)) else (some 0))
def f_Md_isSame (fl : Nat) (a0 : Nat) (x1 : Int32) (x2 : Int32) (h : hp_M) : Option (Int32) := (gR h a0 12 6).bind fun v1 => (gaI h v1 x1).bind fun v2 => (gR h a0 12 6).bind fun v3 => (gaI h v3 x2).bind fun v4 => if v2 = v4 then (f_Md_isSame_b19 fl a0 x1 x2 h fl 0) else (some 0)
set_option maxRecDepth 100000 in
set_option maxHeartbeats 4000000 in
theorem b_Md_isSame_19 {p : Program} {l : Launch} {e : Env} {s : State} {m : MethodId} {args : Array Value} {below : List Frame} {meth : Method} {c : Code} {Q : State → Prop} {w : hp_W} {out : Int32} (fl : Nat)   (a0 : Nat) (x1 : Int32) (x2 : Int32) (h : hp_M) (C : Cx p m c cX13_isSame 4 s args RX13 w) (hr : meth.sig.returnType = some .boolean) (hlk : meth.locks = false) (hnm : meth.name = "isSame") (hQ : QM below w args s ({ frames := 0, cells := 0, slots := 0, locals := 0 }) (some .boolean) (some (.int out)) h = Q)  : ∀ (n : Nat) (x3 : Int32), J p l e ({ frames := 0, cells := 0, slots := 0, locals := 0 }) s m args below meth c Q w 4 0 0 19 [(0, .ref a0), (1, .int x1), (2, .int x2), (3, .int x3)] [] h (f_Md_isSame_b19 fl a0 x1 x2 h n x3) out := by
  intro n
  induction n with
  | zero => intro x3; exact j_none
  | succ n ih =>
    intro x3
    rw [f_Md_isSame_b19]
    refine j_iload_n C dX13_isSame_19 (i := 3) rfl rfl ?_
    refine j_aload_n C dX13_isSame_20 (i := 0) rfl rfl ?_
    refine j_getR C g_X13_23 dX13_isSame_21 (fun v1006 ev1006 => ?_)
    refine j_iload_n C dX13_isSame_24 (i := 1) rfl rfl ?_
    refine j_iaload C dX13_isSame_25 (fun v1007 ev1007 => ?_)
    refine j_icmpge C (tgt := 66) dX13_isSame_26 (by decide) (fun q1008 => ?_) (fun q1008 => ?_)
    · refine j_iconst C (v := 1) dX13_isSame_66 (by decide) ?_
      exact e_iretR C hQ hr rfl hlk dX13_isSame_67 (Nat.le_of_ble_eq_true rfl) (Nat.le_of_ble_eq_true rfl)
    · refine j_aload_n C dX13_isSame_29 (i := 0) rfl rfl ?_
      refine j_getR C g_X13_9 dX13_isSame_30 (fun v1009 ev1009 => ?_)
      refine j_aload_n C dX13_isSame_33 (i := 0) rfl rfl ?_
      refine j_getR C g_X13_20 dX13_isSame_34 (fun v1010 ev1010 => ?_)
      refine j_iload_n C dX13_isSame_37 (i := 1) rfl rfl ?_
      refine j_iaload C dX13_isSame_38 (fun v1011 ev1011 => ?_)
      refine j_iload_n C dX13_isSame_39 (i := 3) rfl rfl ?_
      refine j_iadd C dX13_isSame_40 ?_
      refine j_iaload C dX13_isSame_41 (fun v1012 ev1012 => ?_)
      refine j_aload_n C dX13_isSame_42 (i := 0) rfl rfl ?_
      refine j_getR C g_X13_9 dX13_isSame_43 (fun v1013 ev1013 => ?_)
      refine j_aload_n C dX13_isSame_46 (i := 0) rfl rfl ?_
      refine j_getR C g_X13_20 dX13_isSame_47 (fun v1014 ev1014 => ?_)
      refine j_iload_n C dX13_isSame_50 (i := 2) rfl rfl ?_
      refine j_iaload C dX13_isSame_51 (fun v1015 ev1015 => ?_)
      refine j_iload_n C dX13_isSame_52 (i := 3) rfl rfl ?_
      refine j_iadd C dX13_isSame_53 ?_
      refine j_iaload C dX13_isSame_54 (fun v1016 ev1016 => ?_)
      refine j_icmpeq C (tgt := 60) dX13_isSame_55 (by decide) (fun q1017 => ?_) (fun q1017 => ?_)
      · refine j_iinc C (v := x3 + 1) [(3, _), (0, _), (1, _), (2, _)] dX13_isSame_60 rfl rfl (by decide) rfl ?_
        refine j_goto C (tgt := 19) dX13_isSame_63 (by decide) ?_
        exact j_sub [1, 2, 3, 0] rfl (ih _)
      · refine j_iconst C (v := 0) dX13_isSame_58 (by decide) ?_
        exact e_iretR C hQ hr rfl hlk dX13_isSame_59 (Nat.le_of_ble_eq_true rfl) (Nat.le_of_ble_eq_true rfl)
set_option maxRecDepth 100000 in
set_option maxHeartbeats 4000000 in
theorem c_Md_isSame (l : Launch) (w : hp_W) (fl : Nat) (a0 : Nat) (x1 : Int32) (x2 : Int32) (h : hp_M) (out : Int32) (hX : f_Md_isSame fl a0 x1 x2 h = some out) : CT l w yX13_isSame cX13_isSame 4 (some .boolean) ({ frames := 0, cells := 0, slots := 0, locals := 0 }) [.ref a0, .int x1, .int x2] h (some (.int out)) h := by
  unfold f_Md_isSame at hX
  refine ct_of (by decide +kernel) (Nat.le_of_ble_eq_true rfl) hX ?_
  intro p e s m args below meth c Q C hr hlk hnm hQ
  refine j_aload_n C dX13_isSame_0 (i := 0) rfl rfl ?_
  refine j_getR C g_X13_23 dX13_isSame_1 (fun v1 ev1 => ?_)
  refine j_iload_n C dX13_isSame_4 (i := 1) rfl rfl ?_
  refine j_iaload C dX13_isSame_5 (fun v2 ev2 => ?_)
  refine j_aload_n C dX13_isSame_6 (i := 0) rfl rfl ?_
  refine j_getR C g_X13_23 dX13_isSame_7 (fun v3 ev3 => ?_)
  refine j_iload_n C dX13_isSame_10 (i := 2) rfl rfl ?_
  refine j_iaload C dX13_isSame_11 (fun v4 ev4 => ?_)
  refine j_icmpeq C (tgt := 17) dX13_isSame_12 (by decide) (fun q5 => ?_) (fun q5 => ?_)
  · refine j_iconst C (v := 0) dX13_isSame_17 (by decide) ?_
    refine j_istore_n C [(3, _), (0, _), (1, _), (2, _)] dX13_isSame_18 (i := 3) rfl (by decide) rfl ?_
    refine j_sub [1, 2, 3, 0] rfl (b_Md_isSame_19 fl  _ _ _ _ C hr hlk hnm hQ  _ _)
  · refine j_iconst C (v := 0) dX13_isSame_15 (by decide) ?_
    exact e_iretR C hQ hr rfl hlk dX13_isSame_16 (Nat.le_of_ble_eq_true rfl) (Nat.le_of_ble_eq_true rfl)
def f_Md_told_b5 (fl : Nat) (a0 : Nat) (x1 : Int32) (x2 : Int32) (h : hp_M) : Nat → Int32 → Int32 → Option (Int32)
  | 0, _, _ => none
  | n + 1, x3, x4 => if x1 ≤ x4 then (some (-1)) else (jn (fun (u1005 : Int32) => f_Md_told_b5 fl a0 x1 x2 h n u1005 (x4 + 1)) fun (j1004 : Int32 → Option (Int32)) => (gR h a0 12 7).bind fun v1006 => (gaI h v1006 x4).bind fun v1007 => if v1007 = x2 then ((onO h a0 12 (f_Md_isSame fl a0 x4 x1 h)).bind fun r1009 => if r1009 = 0 then (j1004 (x3 + 1)) else (some x3)) else (j1004 x3))
def f_Md_told (fl : Nat) (a0 : Nat) (x1 : Int32) (x2 : Int32) (h : hp_M) : Option (Int32) := f_Md_told_b5 fl a0 x1 x2 h fl 0 0
set_option maxRecDepth 100000 in
set_option maxHeartbeats 4000000 in
theorem b_Md_told_5 {p : Program} {l : Launch} {e : Env} {s : State} {m : MethodId} {args : Array Value} {below : List Frame} {meth : Method} {c : Code} {Q : State → Prop} {w : hp_W} {out : Int32} (fl : Nat)   (a0 : Nat) (x1 : Int32) (x2 : Int32) (h : hp_M) (C : Cx p m c cX13_told 5 s args RX13 w) (hr : meth.sig.returnType = some .int) (hlk : meth.locks = false) (hnm : meth.name = "told") (hQ : QM below w args s ({ frames := 1, cells := 0, slots := 0, locals := 23 }) (some .int) (some (.int out)) h = Q)  : ∀ (n : Nat) (x3 : Int32) (x4 : Int32), J p l e ({ frames := 1, cells := 0, slots := 0, locals := 23 }) s m args below meth c Q w 5 0 0 5 [(0, .ref a0), (1, .int x1), (2, .int x2), (3, .int x3), (4, .int x4)] [] h (f_Md_told_b5 fl a0 x1 x2 h n x3 x4) out := by
  intro n
  induction n with
  | zero => intro x3 x4; exact j_none
  | succ n ih =>
    intro x3 x4
    rw [f_Md_told_b5]
    refine j_iload C dX13_told_5 rfl ?_
    refine j_iload_n C dX13_told_7 (i := 1) rfl rfl ?_
    refine j_icmpge C (tgt := 46) dX13_told_8 (by decide) (fun q1001 => ?_) (fun q1001 => ?_)
    · refine j_iconst C (v := -1) dX13_told_46 (by decide) ?_
      exact e_iretR C hQ hr rfl hlk dX13_told_47 (Nat.le_of_ble_eq_true rfl) (Nat.le_of_ble_eq_true rfl)
    · refine j_jn (P := fun (j1004 : Int32 → Option (Int32)) => ∀ (u1005 : Int32), J p l e ({ frames := 1, cells := 0, slots := 0, locals := 23 }) s m args below meth c Q w 5 0 0 40 [(0, .ref a0), (1, .int x1), (2, .int x2), (3, .int u1005), (4, .int x4)] [] h (j1004 u1005) out) ?_ (fun j1004 hj1004 => ?_)
      · intro u1005
        refine j_iinc C (v := x4 + 1) [(4, _), (0, _), (1, _), (2, _), (3, _)] dX13_told_40 rfl rfl (by decide) rfl ?_
        refine j_goto C (tgt := 5) dX13_told_43 (by decide) ?_
        exact j_sub [1, 2, 3, 4, 0] rfl (ih _ _)
      · refine j_aload_n C dX13_told_11 (i := 0) rfl rfl ?_
        refine j_getR C g_X13_26 dX13_told_12 (fun v1006 ev1006 => ?_)
        refine j_iload C dX13_told_15 rfl ?_
        refine j_iaload C dX13_told_17 (fun v1007 ev1007 => ?_)
        refine j_iload_n C dX13_told_18 (i := 2) rfl rfl ?_
        refine j_icmpeq C (tgt := 25) dX13_told_19 (by decide) (fun q1008 => ?_) (fun q1008 => ?_)
        · refine j_aload_n C dX13_told_25 (i := 0) rfl rfl ?_
          refine j_iload C dX13_told_26 rfl ?_
          refine j_iload_n C dX13_told_28 (i := 1) rfl rfl ?_
          refine j_callVi C (As := [.int _, .int _]) (rest := []) k_X13_208 ⟨Nat.le_of_ble_eq_true rfl, Nat.le_of_ble_eq_true rfl⟩ rfl (Nat.le_of_ble_eq_true rfl) ⟨Nat.le_of_ble_eq_true rfl, Nat.le_of_ble_eq_true rfl⟩ rfl dX13_told_29 (fun r0 q0 => c_Md_isSame l w fl _ _ _ _ _ q0) (fun r1009 er1009 nr1009 => ?_)
          refine j_ifeq C (tgt := 37) dX13_told_32 (by decide) (fun q1010 => ?_) (fun q1010 => ?_)
          · refine j_iinc C (v := x3 + 1) [(3, _), (0, _), (1, _), (2, _), (4, _)] dX13_told_37 rfl rfl (by decide) rfl ?_
            exact j_sub [1, 2, 3, 0, 4] rfl (hj1004 _)
          · refine j_iload_n C dX13_told_35 (i := 3) rfl rfl ?_
            exact e_iretR C hQ hr rfl hlk dX13_told_36 (Nat.le_of_ble_eq_true rfl) (Nat.le_of_ble_eq_true rfl)
        · refine j_goto C (tgt := 40) dX13_told_22 (by decide) ?_
          exact hj1004 _
set_option maxRecDepth 100000 in
set_option maxHeartbeats 4000000 in
theorem c_Md_told (l : Launch) (w : hp_W) (fl : Nat) (a0 : Nat) (x1 : Int32) (x2 : Int32) (h : hp_M) (out : Int32) (hX : f_Md_told fl a0 x1 x2 h = some out) : CT l w yX13_told cX13_told 5 (some .int) ({ frames := 1, cells := 0, slots := 0, locals := 23 }) [.ref a0, .int x1, .int x2] h (some (.int out)) h := by
  unfold f_Md_told at hX
  refine ct_of (by decide +kernel) (Nat.le_of_ble_eq_true rfl) hX ?_
  intro p e s m args below meth c Q C hr hlk hnm hQ
  refine j_iconst C (v := 0) dX13_told_0 (by decide) ?_
  refine j_istore_n C [(3, _), (0, _), (1, _), (2, _)] dX13_told_1 (i := 3) rfl (by decide) rfl ?_
  refine j_iconst C (v := 0) dX13_told_2 (by decide) ?_
  refine j_istore C [(4, _), (3, _), (0, _), (1, _), (2, _)] dX13_told_3 (by decide) rfl ?_
  refine j_sub [2, 3, 4, 1, 0] rfl (b_Md_told_5 fl  _ _ _ _ C hr hlk hnm hQ  _ _ _)
def f_Md_areLetters_b30 (fl : Nat) (a0 : Nat) (x1 : Int32) (x3 : Int32) : Nat → Int32 → Int32 → hp_M → Option (Int32 × hp_M)
  | 0, _, _, _ => none
  | n + 1, x2, x4, h => (gR h a0 12 6).bind fun v1008 => (gaI h v1008 x1).bind fun v1009 => if v1009 ≤ x4 then (some (1, h)) else ((gR h a0 12 1).bind fun v1011 => (gR h a0 12 5).bind fun v1012 => (gaI h v1012 x1).bind fun v1013 => (gaI h v1011 (v1013 + x4)).bind fun v1014 => (f_Md_isLetter v1014 h).bind fun r1015 => if r1015 = 0 then (some (0, h)) else (if ((x2 >>> ((v1014 - 97) &&& 31)) &&& 1) = 1 then (some (0, h)) else ((gR h a0 12 12).bind fun v1018 => (gR h v1018 11 4).bind fun v1019 => (paI h v1019 ((12 * x3) + x4) v1014).bind fun h1020 => f_Md_areLetters_b30 fl a0 x1 x3 n (x2 ||| (1 <<< ((v1014 - 97) &&& 31))) (x4 + 1) h1020)))
def f_Md_areLetters (fl : Nat) (a0 : Nat) (x1 : Int32) (h : hp_M) : Option (Int32 × hp_M) := (gR h a0 12 12).bind fun v1 => (gI h v1 11 2).bind fun v2 => (gR h a0 12 12).bind fun v3 => (gR h v3 11 3).bind fun v4 => (gR h a0 12 6).bind fun v5 => (gaI h v5 x1).bind fun v6 => (paI h v4 (v2 - 1) v6).bind fun h7 => f_Md_areLetters_b30 fl a0 x1 (v2 - 1) fl 0 0 h7
set_option maxRecDepth 100000 in
set_option maxHeartbeats 4000000 in
theorem b_Md_areLetters_30 {p : Program} {l : Launch} {e : Env} {s : State} {m : MethodId} {args : Array Value} {below : List Frame} {meth : Method} {c : Code} {Q : State → Prop} {w : hp_W} {out : Int32 × hp_M} (fl : Nat)   (a0 : Nat) (x1 : Int32) (x3 : Int32) (C : Cx p m c cX13_areLetters 6 s args RX13 w) (hr : meth.sig.returnType = some .boolean) (hlk : meth.locks = false) (hnm : meth.name = "areLetters") (hQ : QM below w args s ({ frames := 1, cells := 0, slots := 0, locals := 20 }) (some .boolean) (some (.int out.1)) out.2 = Q)  : ∀ (n : Nat) (x2 : Int32) (x4 : Int32) (h : hp_M), J p l e ({ frames := 1, cells := 0, slots := 0, locals := 20 }) s m args below meth c Q w 6 0 0 30 [(0, .ref a0), (1, .int x1), (2, .int x2), (3, .int x3), (4, .int x4)] [] h (f_Md_areLetters_b30 fl a0 x1 x3 n x2 x4 h) out := by
  intro n
  induction n with
  | zero => intro x2 x4 h; exact j_none
  | succ n ih =>
    intro x2 x4 h
    rw [f_Md_areLetters_b30]
    refine j_iload C dX13_areLetters_30 rfl ?_
    refine j_aload_n C dX13_areLetters_32 (i := 0) rfl rfl ?_
    refine j_getR C g_X13_23 dX13_areLetters_33 (fun v1008 ev1008 => ?_)
    refine j_iload_n C dX13_areLetters_36 (i := 1) rfl rfl ?_
    refine j_iaload C dX13_areLetters_37 (fun v1009 ev1009 => ?_)
    refine j_icmpge C (tgt := 113) dX13_areLetters_38 (by decide) (fun q1010 => ?_) (fun q1010 => ?_)
    · refine j_iconst C (v := 1) dX13_areLetters_113 (by decide) ?_
      exact e_iretM C hQ hr rfl hlk dX13_areLetters_114 (Nat.le_of_ble_eq_true rfl) (Nat.le_of_ble_eq_true rfl)
    · refine j_aload_n C dX13_areLetters_41 (i := 0) rfl rfl ?_
      refine j_getR C g_X13_9 dX13_areLetters_42 (fun v1011 ev1011 => ?_)
      refine j_aload_n C dX13_areLetters_45 (i := 0) rfl rfl ?_
      refine j_getR C g_X13_20 dX13_areLetters_46 (fun v1012 ev1012 => ?_)
      refine j_iload_n C dX13_areLetters_49 (i := 1) rfl rfl ?_
      refine j_iaload C dX13_areLetters_50 (fun v1013 ev1013 => ?_)
      refine j_iload C dX13_areLetters_51 rfl ?_
      refine j_iadd C dX13_areLetters_53 ?_
      refine j_iaload C dX13_areLetters_54 (fun v1014 ev1014 => ?_)
      refine j_istore C [(5, _), (0, _), (1, _), (2, _), (3, _), (4, _)] dX13_areLetters_55 (by decide) rfl ?_
      refine j_iload C dX13_areLetters_57 rfl ?_
      refine j_callSi C (As := [.int _]) (rest := []) k_X13_86 ⟨Nat.le_of_ble_eq_true rfl, Nat.le_of_ble_eq_true rfl⟩ rfl (Nat.le_of_ble_eq_true rfl) ⟨Nat.le_of_ble_eq_true rfl, Nat.le_of_ble_eq_true rfl⟩ rfl dX13_areLetters_59 (fun r0 q0 => c_Md_isLetter l w _ _ _ q0) (fun r1015 er1015 nr1015 => ?_)
      refine j_ifeq C (tgt := 78) dX13_areLetters_62 (by decide) (fun q1016 => ?_) (fun q1016 => ?_)
      · refine j_iconst C (v := 0) dX13_areLetters_78 (by decide) ?_
        exact e_iretM C hQ hr rfl hlk dX13_areLetters_79 (Nat.le_of_ble_eq_true rfl) (Nat.le_of_ble_eq_true rfl)
      · refine j_iload_n C dX13_areLetters_65 (i := 2) rfl rfl ?_
        refine j_iload C dX13_areLetters_66 rfl ?_
        refine j_bipush C (v := 97) dX13_areLetters_68 (by decide) ?_
        refine j_isub C dX13_areLetters_70 ?_
        refine j_ishr C dX13_areLetters_71 ?_
        refine j_iconst C (v := 1) dX13_areLetters_72 (by decide) ?_
        refine j_iand C dX13_areLetters_73 ?_
        refine j_iconst C (v := 1) dX13_areLetters_74 (by decide) ?_
        refine j_icmpne C (tgt := 80) dX13_areLetters_75 (by decide) (fun q1017 => ?_) (fun q1017 => ?_)
        · refine j_iconst C (v := 0) dX13_areLetters_78 (by decide) ?_
          exact e_iretM C hQ hr rfl hlk dX13_areLetters_79 (Nat.le_of_ble_eq_true rfl) (Nat.le_of_ble_eq_true rfl)
        · refine j_iload_n C dX13_areLetters_80 (i := 2) rfl rfl ?_
          refine j_iconst C (v := 1) dX13_areLetters_81 (by decide) ?_
          refine j_iload C dX13_areLetters_82 rfl ?_
          refine j_bipush C (v := 97) dX13_areLetters_84 (by decide) ?_
          refine j_isub C dX13_areLetters_86 ?_
          refine j_ishl C dX13_areLetters_87 ?_
          refine j_ior C dX13_areLetters_88 ?_
          refine j_istore_n C [(2, _), (5, _), (0, _), (1, _), (3, _), (4, _)] dX13_areLetters_89 (i := 2) rfl (by decide) rfl ?_
          refine j_aload_n C dX13_areLetters_90 (i := 0) rfl rfl ?_
          refine j_getR C g_X13_39 dX13_areLetters_91 (fun v1018 ev1018 => ?_)
          refine j_getR C g_X13_222 dX13_areLetters_94 (fun v1019 ev1019 => ?_)
          refine j_bipush C (v := 12) dX13_areLetters_97 (by decide) ?_
          refine j_iload_n C dX13_areLetters_99 (i := 3) rfl rfl ?_
          refine j_imul C dX13_areLetters_100 ?_
          refine j_iload C dX13_areLetters_101 rfl ?_
          refine j_iadd C dX13_areLetters_103 ?_
          refine j_iload C dX13_areLetters_104 rfl ?_
          refine j_iastore C dX13_areLetters_106 (fun h1020 eh1020 => ?_)
          refine j_iinc C (v := x4 + 1) [(4, _), (2, _), (5, _), (0, _), (1, _), (3, _)] dX13_areLetters_107 rfl rfl (by decide) rfl ?_
          refine j_goto C (tgt := 30) dX13_areLetters_110 (by decide) ?_
          exact j_sub [3, 4, 1, 5, 0] rfl (ih _ _ _)
set_option maxRecDepth 100000 in
set_option maxHeartbeats 4000000 in
theorem c_Md_areLetters (l : Launch) (w : hp_W) (fl : Nat) (a0 : Nat) (x1 : Int32) (h : hp_M) (out : Int32 × hp_M) (hX : f_Md_areLetters fl a0 x1 h = some out) : CT l w yX13_areLetters cX13_areLetters 6 (some .boolean) ({ frames := 1, cells := 0, slots := 0, locals := 20 }) [.ref a0, .int x1] h (some (.int out.1)) out.2 := by
  unfold f_Md_areLetters at hX
  refine ct_of (by decide +kernel) (Nat.le_of_ble_eq_true rfl) hX ?_
  intro p e s m args below meth c Q C hr hlk hnm hQ
  refine j_iconst C (v := 0) dX13_areLetters_0 (by decide) ?_
  refine j_istore_n C [(2, _), (0, _), (1, _)] dX13_areLetters_1 (i := 2) rfl (by decide) rfl ?_
  refine j_aload_n C dX13_areLetters_2 (i := 0) rfl rfl ?_
  refine j_getR C g_X13_39 dX13_areLetters_3 (fun v1 ev1 => ?_)
  refine j_getI C g_X13_64 dX13_areLetters_6 (fun v2 ev2 => ?_)
  refine j_iconst C (v := 1) dX13_areLetters_9 (by decide) ?_
  refine j_isub C dX13_areLetters_10 ?_
  refine j_istore_n C [(3, _), (2, _), (0, _), (1, _)] dX13_areLetters_11 (i := 3) rfl (by decide) rfl ?_
  refine j_aload_n C dX13_areLetters_12 (i := 0) rfl rfl ?_
  refine j_getR C g_X13_39 dX13_areLetters_13 (fun v3 ev3 => ?_)
  refine j_getR C g_X13_219 dX13_areLetters_16 (fun v4 ev4 => ?_)
  refine j_iload_n C dX13_areLetters_19 (i := 3) rfl rfl ?_
  refine j_aload_n C dX13_areLetters_20 (i := 0) rfl rfl ?_
  refine j_getR C g_X13_23 dX13_areLetters_21 (fun v5 ev5 => ?_)
  refine j_iload_n C dX13_areLetters_24 (i := 1) rfl rfl ?_
  refine j_iaload C dX13_areLetters_25 (fun v6 ev6 => ?_)
  refine j_iastore C dX13_areLetters_26 (fun h7 eh7 => ?_)
  refine j_iconst C (v := 0) dX13_areLetters_27 (by decide) ?_
  refine j_istore C [(4, _), (3, _), (2, _), (0, _), (1, _)] dX13_areLetters_28 (by decide) rfl ?_
  refine j_sub [3, 4, 2, 1, 0] rfl (b_Md_areLetters_30 fl  _ _ _ C hr hlk hnm hQ  _ _ _ _)
def f_Md_errorOf (fl : Nat) (a0 : Nat) (x1 : Int32) (h : hp_M) : Option (Int32 × hp_M) := jn (fun (u7 : Nat) (u8 : Int32) (u9 : Int32) => jn ((gR h a0 12 8).bind fun v25 => (onO h a0 12 (f_Md_told fl a0 x1 1 h)).bind fun r26 => (paI h v25 x1 r26).bind fun h27 => (gR h27 a0 12 8).bind fun v28 => (gaI h27 v28 x1).bind fun v29 => if v29 = (-1) then (some (3, h27)) else (jn (some (0, h27)) fun (j37 : Option (Int32 × hp_M)) => (gR h27 a0 12 7).bind fun v38 => (gaI h27 v38 x1).bind fun v39 => if v39 = 5 then ((gR h27 a0 12 8).bind fun v41 => (gaI h27 v41 x1).bind fun v42 => (gR h27 a0 12 8).bind fun v43 => (gaI h27 v43 (x1 - 1)).bind fun v44 => if v42 = v44 then (some (6, h27)) else (j37)) else (j37))) fun (j24 : Option (Int32 × hp_M)) => (gR h a0 12 7).bind fun v46 => (gaI h v46 x1).bind fun v47 => if v47 = 1 then ((onO h a0 12 (f_Md_told fl a0 x1 1 h)).bind fun r49 => if r49 = (-1) then ((gI h u7 11 0).bind fun v51 => if v51 = 8 then (some (4, h)) else ((gR h u7 11 1).bind fun v53 => (gI h u7 11 0).bind fun v54 => (paI h v53 ((5 * v54) + 4) 1).bind fun h55 => (gI h55 u7 11 0).bind fun v56 => (pF h55 u7 11 0 (.int (v56 + 1))).bind fun h57 => some (0, h57))) else (some (2, h))) else if v47 = 2 then ((onO h a0 12 (f_Md_told fl a0 x1 2 h)).bind fun r59 => if r59 = (-1) then ((gI h u7 11 2).bind fun v61 => if v61 = 6 then (some (4, h)) else ((gI h u7 11 2).bind fun v63 => (pF h u7 11 2 (.int (v63 + 1))).bind fun h64 => some (0, h64))) else (some (2, h))) else if v47 = 3 then ((onO h a0 12 (f_Md_areLetters fl a0 x1 h)).bind fun r66 => if r66.1 = 0 then (some (7, r66.2)) else (some (0, r66.2))) else if v47 = 4 then (j24) else if v47 = 5 then (j24) else if v47 = 6 then ((gR h a0 12 8).bind fun v71 => (onO h a0 12 (f_Md_told fl a0 x1 2 h)).bind fun r72 => (paI h v71 x1 r72).bind fun h73 => (gR h73 a0 12 8).bind fun v74 => (gaI h73 v74 x1).bind fun v75 => if v75 = (-1) then (some (3, h73)) else (some (0, h73))) else if v47 = 7 then ((gR h a0 12 8).bind fun v78 => (gaI h v78 0).bind fun v79 => (paI h v78 0 (v79 + 1)).bind fun h80 => (gR h80 a0 12 8).bind fun v81 => (gaI h80 v81 0).bind fun v82 => if v82 ≤ 12 then (some (0, h80)) else (some (4, h80))) else if v47 = 8 then ((gR h u7 11 1).bind fun v85 => (paI h v85 u8 u9).bind fun h86 => (f_Md_isIn u9 1 20 h86).bind fun r87 => if r87 = 0 then (some (5, h86)) else (some (0, h86))) else if v47 = 9 then ((gR h u7 11 1).bind fun v90 => (paI h v90 (u8 + 1) u9).bind fun h91 => (f_Md_isIn u9 1 60 h91).bind fun r92 => if r92 = 0 then (some (5, h91)) else (some (0, h91))) else if v47 = 10 then ((gR h u7 11 1).bind fun v95 => (paI h v95 (u8 + 2) u9).bind fun h96 => (f_Md_isIn u9 0 359 h96).bind fun r97 => if r97 = 0 then (some (5, h96)) else (some (0, h96))) else if v47 = 11 then ((gR h u7 11 1).bind fun v100 => (paI h v100 (u8 + 3) u9).bind fun h101 => (f_Md_isIn u9 0 29 h101).bind fun r102 => if r102 = 0 then (some (5, h101)) else (some (0, h101))) else if v47 = 12 then (jn (fun (h111 : hp_M) => some (5, h111)) fun (j110 : hp_M → Option (Int32 × hp_M)) => (gR h u7 11 1).bind fun v112 => (paI h v112 (u8 + 4) u9).bind fun h113 => (f_Md_isIn u9 1 60 h113).bind fun r114 => if r114 = 0 then (j110 h113) else ((gR h113 u7 11 1).bind fun v116 => (gaI h113 v116 (u8 + 3)).bind fun v117 => if u9 ≤ v117 then (j110 h113) else (some (0, h113)))) else (some (0, h))) fun (j6 : Nat → Int32 → Int32 → Option (Int32 × hp_M)) => (gR h a0 12 12).bind fun v119 => (gI h v119 11 0).bind fun v120 => (gR h a0 12 4).bind fun v121 => (gaI h v121 x1).bind fun v122 => if v122 = 31 then ((onO h a0 12 (f_Md_numberAt fl a0 x1 h)).bind fun r124 => j6 v119 (5 * (v120 - 1)) r124) else (j6 v119 (5 * (v120 - 1)) 0)
set_option maxRecDepth 100000 in
set_option maxHeartbeats 4000000 in
theorem c_Md_errorOf (l : Launch) (w : hp_W) (fl : Nat) (a0 : Nat) (x1 : Int32) (h : hp_M) (out : Int32 × hp_M) (hX : f_Md_errorOf fl a0 x1 h = some out) : CT l w yX13_errorOf cX13_errorOf 5 (some .int) ({ frames := 2, cells := 0, slots := 0, locals := 47 }) [.ref a0, .int x1] h (some (.int out.1)) out.2 := by
  unfold f_Md_errorOf at hX
  refine ct_of (by decide +kernel) (Nat.le_of_ble_eq_true rfl) hX ?_
  intro p e s m args below meth c Q C hr hlk hnm hQ
  refine j_jn (P := fun (j6 : Nat → Int32 → Int32 → Option (Int32 × hp_M)) => ∀ (u7 : Nat) (u8 : Int32) (u9 : Int32), J p l e ({ frames := 2, cells := 0, slots := 0, locals := 47 }) s m args below meth c Q w 5 0 0 34 [(0, .ref a0), (1, .int x1), (2, .ref u7), (3, .int u8)] [.int u9] h (j6 u7 u8 u9) out) ?_ (fun j6 hj6 => ?_)
  · intro u7 u8 u9
    refine j_jn (P := fun j24 => J p l e ({ frames := 2, cells := 0, slots := 0, locals := 47 }) s m args below meth c Q w 5 0 0 203 [(0, .ref a0), (1, .int x1)] [] h (j24) out) ?_ (fun j24 hj24 => ?_)
    · refine j_aload_n C dX13_errorOf_203 (i := 0) rfl rfl ?_
      refine j_getR C g_X13_29 dX13_errorOf_204 (fun v25 ev25 => ?_)
      refine j_iload_n C dX13_errorOf_207 (i := 1) rfl rfl ?_
      refine j_aload_n C dX13_errorOf_208 (i := 0) rfl rfl ?_
      refine j_iload_n C dX13_errorOf_209 (i := 1) rfl rfl ?_
      refine j_iconst C (v := 1) dX13_errorOf_210 (by decide) ?_
      refine j_callVi C (As := [.int _, .int _]) (rest := [_, _]) k_X13_211 ⟨Nat.le_of_ble_eq_true rfl, Nat.le_of_ble_eq_true rfl⟩ rfl (Nat.le_of_ble_eq_true rfl) ⟨Nat.le_of_ble_eq_true rfl, Nat.le_of_ble_eq_true rfl⟩ rfl dX13_errorOf_211 (fun r0 q0 => c_Md_told l w fl _ _ _ _ _ q0) (fun r26 er26 nr26 => ?_)
      refine j_iastore C dX13_errorOf_214 (fun h27 eh27 => ?_)
      refine j_aload_n C dX13_errorOf_215 (i := 0) rfl rfl ?_
      refine j_getR C g_X13_29 dX13_errorOf_216 (fun v28 ev28 => ?_)
      refine j_iload_n C dX13_errorOf_219 (i := 1) rfl rfl ?_
      refine j_iaload C dX13_errorOf_220 (fun v29 ev29 => ?_)
      refine j_iconst C (v := -1) dX13_errorOf_221 (by decide) ?_
      refine j_icmpne C (tgt := 227) dX13_errorOf_222 (by decide) (fun q30 => ?_) (fun q30 => ?_)
      · refine j_iconst C (v := 3) dX13_errorOf_225 (by decide) ?_
        exact e_iretM C hQ hr rfl hlk dX13_errorOf_226 (Nat.le_of_ble_eq_true rfl) (Nat.le_of_ble_eq_true rfl)
      · refine j_jn (P := fun j37 => J p l e ({ frames := 2, cells := 0, slots := 0, locals := 47 }) s m args below meth c Q w 5 0 0 259 [] [] h27 (j37) out) ?_ (fun j37 hj37 => ?_)
        · refine j_iconst C (v := 0) dX13_errorOf_259 (by decide) ?_
          exact e_iretM C hQ hr rfl hlk dX13_errorOf_260 (Nat.le_of_ble_eq_true rfl) (Nat.le_of_ble_eq_true rfl)
        · refine j_aload_n C dX13_errorOf_227 (i := 0) rfl rfl ?_
          refine j_getR C g_X13_26 dX13_errorOf_228 (fun v38 ev38 => ?_)
          refine j_iload_n C dX13_errorOf_231 (i := 1) rfl rfl ?_
          refine j_iaload C dX13_errorOf_232 (fun v39 ev39 => ?_)
          refine j_iconst C (v := 5) dX13_errorOf_233 (by decide) ?_
          refine j_icmpne C (tgt := 259) dX13_errorOf_234 (by decide) (fun q40 => ?_) (fun q40 => ?_)
          · refine j_aload_n C dX13_errorOf_237 (i := 0) rfl rfl ?_
            refine j_getR C g_X13_29 dX13_errorOf_238 (fun v41 ev41 => ?_)
            refine j_iload_n C dX13_errorOf_241 (i := 1) rfl rfl ?_
            refine j_iaload C dX13_errorOf_242 (fun v42 ev42 => ?_)
            refine j_aload_n C dX13_errorOf_243 (i := 0) rfl rfl ?_
            refine j_getR C g_X13_29 dX13_errorOf_244 (fun v43 ev43 => ?_)
            refine j_iload_n C dX13_errorOf_247 (i := 1) rfl rfl ?_
            refine j_iconst C (v := 1) dX13_errorOf_248 (by decide) ?_
            refine j_isub C dX13_errorOf_249 ?_
            refine j_iaload C dX13_errorOf_250 (fun v44 ev44 => ?_)
            refine j_icmpne C (tgt := 259) dX13_errorOf_251 (by decide) (fun q45 => ?_) (fun q45 => ?_)
            · refine j_bipush C (v := 6) dX13_errorOf_254 (by decide) ?_
              refine j_goto C (tgt := 260) dX13_errorOf_256 (by decide) ?_
              exact e_iretM C hQ hr rfl hlk dX13_errorOf_260 (Nat.le_of_ble_eq_true rfl) (Nat.le_of_ble_eq_true rfl)
            · exact j_sub [] rfl (hj37)
          · exact j_sub [] rfl (hj37)
    · refine j_istore C [(4, _), (0, _), (1, _), (2, _), (3, _)] dX13_errorOf_34 (by decide) rfl ?_
      refine j_aload_n C dX13_errorOf_36 (i := 0) rfl rfl ?_
      refine j_getR C g_X13_26 dX13_errorOf_37 (fun v46 ev46 => ?_)
      refine j_iload_n C dX13_errorOf_40 (i := 1) rfl rfl ?_
      refine j_iaload C dX13_errorOf_41 (fun v47 ev47 => ?_)
      refine j_ite (fun q48 => ?_) (fun q48 => ?_)
      · refine j_tin C (tgt := 104) dX13_errorOf_42 (by rw [q48]; decide) (by rw [q48]; decide) (by rw [q48]; rfl) (by decide) ?_
        refine j_aload_n C dX13_errorOf_104 (i := 0) rfl rfl ?_
        refine j_iload_n C dX13_errorOf_105 (i := 1) rfl rfl ?_
        refine j_iconst C (v := 1) dX13_errorOf_106 (by decide) ?_
        refine j_callVi C (As := [.int _, .int _]) (rest := []) k_X13_211 ⟨Nat.le_of_ble_eq_true rfl, Nat.le_of_ble_eq_true rfl⟩ rfl (Nat.le_of_ble_eq_true rfl) ⟨Nat.le_of_ble_eq_true rfl, Nat.le_of_ble_eq_true rfl⟩ rfl dX13_errorOf_107 (fun r0 q0 => c_Md_told l w fl _ _ _ _ _ q0) (fun r49 er49 nr49 => ?_)
        refine j_iconst C (v := -1) dX13_errorOf_110 (by decide) ?_
        refine j_icmpeq C (tgt := 116) dX13_errorOf_111 (by decide) (fun q50 => ?_) (fun q50 => ?_)
        · refine j_aload_n C dX13_errorOf_116 (i := 2) rfl rfl ?_
          refine j_getI C g_X13_57 dX13_errorOf_117 (fun v51 ev51 => ?_)
          refine j_bipush C (v := 8) dX13_errorOf_120 (by decide) ?_
          refine j_icmpne C (tgt := 127) dX13_errorOf_122 (by decide) (fun q52 => ?_) (fun q52 => ?_)
          · refine j_iconst C (v := 4) dX13_errorOf_125 (by decide) ?_
            exact e_iretM C hQ hr rfl hlk dX13_errorOf_126 (Nat.le_of_ble_eq_true rfl) (Nat.le_of_ble_eq_true rfl)
          · refine j_aload_n C dX13_errorOf_127 (i := 2) rfl rfl ?_
            refine j_getR C g_X13_213 dX13_errorOf_128 (fun v53 ev53 => ?_)
            refine j_iconst C (v := 5) dX13_errorOf_131 (by decide) ?_
            refine j_aload_n C dX13_errorOf_132 (i := 2) rfl rfl ?_
            refine j_getI C g_X13_57 dX13_errorOf_133 (fun v54 ev54 => ?_)
            refine j_imul C dX13_errorOf_136 ?_
            refine j_iconst C (v := 4) dX13_errorOf_137 (by decide) ?_
            refine j_iadd C dX13_errorOf_138 ?_
            refine j_iconst C (v := 1) dX13_errorOf_139 (by decide) ?_
            refine j_iastore C dX13_errorOf_140 (fun h55 eh55 => ?_)
            refine j_aload_n C dX13_errorOf_141 (i := 2) rfl rfl ?_
            refine j_dup C dX13_errorOf_142 rfl ?_
            refine j_getI C g_X13_57 dX13_errorOf_143 (fun v56 ev56 => ?_)
            refine j_iconst C (v := 1) dX13_errorOf_146 (by decide) ?_
            refine j_iadd C dX13_errorOf_147 ?_
            refine j_putI C p_X13_57 (fun q => nomatch q) dX13_errorOf_148 (fun h57 eh57 => ?_)
            refine j_iconst C (v := 0) dX13_errorOf_151 (by decide) ?_
            exact e_iretM C hQ hr rfl hlk dX13_errorOf_152 (Nat.le_of_ble_eq_true rfl) (Nat.le_of_ble_eq_true rfl)
        · refine j_iconst C (v := 2) dX13_errorOf_114 (by decide) ?_
          exact e_iretM C hQ hr rfl hlk dX13_errorOf_115 (Nat.le_of_ble_eq_true rfl) (Nat.le_of_ble_eq_true rfl)
      refine j_ite (fun q58 => ?_) (fun q58 => ?_)
      · refine j_tin C (tgt := 153) dX13_errorOf_42 (by rw [q58]; decide) (by rw [q58]; decide) (by rw [q58]; rfl) (by decide) ?_
        refine j_aload_n C dX13_errorOf_153 (i := 0) rfl rfl ?_
        refine j_iload_n C dX13_errorOf_154 (i := 1) rfl rfl ?_
        refine j_iconst C (v := 2) dX13_errorOf_155 (by decide) ?_
        refine j_callVi C (As := [.int _, .int _]) (rest := []) k_X13_211 ⟨Nat.le_of_ble_eq_true rfl, Nat.le_of_ble_eq_true rfl⟩ rfl (Nat.le_of_ble_eq_true rfl) ⟨Nat.le_of_ble_eq_true rfl, Nat.le_of_ble_eq_true rfl⟩ rfl dX13_errorOf_156 (fun r0 q0 => c_Md_told l w fl _ _ _ _ _ q0) (fun r59 er59 nr59 => ?_)
        refine j_iconst C (v := -1) dX13_errorOf_159 (by decide) ?_
        refine j_icmpeq C (tgt := 165) dX13_errorOf_160 (by decide) (fun q60 => ?_) (fun q60 => ?_)
        · refine j_aload_n C dX13_errorOf_165 (i := 2) rfl rfl ?_
          refine j_getI C g_X13_64 dX13_errorOf_166 (fun v61 ev61 => ?_)
          refine j_bipush C (v := 6) dX13_errorOf_169 (by decide) ?_
          refine j_icmpne C (tgt := 176) dX13_errorOf_171 (by decide) (fun q62 => ?_) (fun q62 => ?_)
          · refine j_iconst C (v := 4) dX13_errorOf_174 (by decide) ?_
            exact e_iretM C hQ hr rfl hlk dX13_errorOf_175 (Nat.le_of_ble_eq_true rfl) (Nat.le_of_ble_eq_true rfl)
          · refine j_aload_n C dX13_errorOf_176 (i := 2) rfl rfl ?_
            refine j_dup C dX13_errorOf_177 rfl ?_
            refine j_getI C g_X13_64 dX13_errorOf_178 (fun v63 ev63 => ?_)
            refine j_iconst C (v := 1) dX13_errorOf_181 (by decide) ?_
            refine j_iadd C dX13_errorOf_182 ?_
            refine j_putI C p_X13_64 (fun q => nomatch q) dX13_errorOf_183 (fun h64 eh64 => ?_)
            refine j_iconst C (v := 0) dX13_errorOf_186 (by decide) ?_
            exact e_iretM C hQ hr rfl hlk dX13_errorOf_187 (Nat.le_of_ble_eq_true rfl) (Nat.le_of_ble_eq_true rfl)
        · refine j_iconst C (v := 2) dX13_errorOf_163 (by decide) ?_
          exact e_iretM C hQ hr rfl hlk dX13_errorOf_164 (Nat.le_of_ble_eq_true rfl) (Nat.le_of_ble_eq_true rfl)
      refine j_ite (fun q65 => ?_) (fun q65 => ?_)
      · refine j_tin C (tgt := 188) dX13_errorOf_42 (by rw [q65]; decide) (by rw [q65]; decide) (by rw [q65]; rfl) (by decide) ?_
        refine j_aload_n C dX13_errorOf_188 (i := 0) rfl rfl ?_
        refine j_iload_n C dX13_errorOf_189 (i := 1) rfl rfl ?_
        refine j_callVim C (As := [.int _]) (rest := []) k_X13_216 ⟨Nat.le_of_ble_eq_true rfl, Nat.le_of_ble_eq_true rfl⟩ rfl (Nat.le_of_ble_eq_true rfl) ⟨Nat.le_of_ble_eq_true rfl, Nat.le_of_ble_eq_true rfl⟩ rfl dX13_errorOf_190 (fun r0 q0 => c_Md_areLetters l w fl _ _ _ _ q0) (fun r66 er66 nr66 => ?_)
        refine j_ifeq C (tgt := 200) dX13_errorOf_193 (by decide) (fun q67 => ?_) (fun q67 => ?_)
        · refine j_bipush C (v := 7) dX13_errorOf_200 (by decide) ?_
          exact e_iretM C hQ hr rfl hlk dX13_errorOf_202 (Nat.le_of_ble_eq_true rfl) (Nat.le_of_ble_eq_true rfl)
        · refine j_iconst C (v := 0) dX13_errorOf_196 (by decide) ?_
          refine j_goto C (tgt := 202) dX13_errorOf_197 (by decide) ?_
          exact e_iretM C hQ hr rfl hlk dX13_errorOf_202 (Nat.le_of_ble_eq_true rfl) (Nat.le_of_ble_eq_true rfl)
      refine j_ite (fun q68 => ?_) (fun q68 => ?_)
      · refine j_tin C (tgt := 203) dX13_errorOf_42 (by rw [q68]; decide) (by rw [q68]; decide) (by rw [q68]; rfl) (by decide) ?_
        exact j_sub [1, 2] rfl (hj24)
      refine j_ite (fun q69 => ?_) (fun q69 => ?_)
      · refine j_tin C (tgt := 203) dX13_errorOf_42 (by rw [q69]; decide) (by rw [q69]; decide) (by rw [q69]; rfl) (by decide) ?_
        exact j_sub [1, 2] rfl (hj24)
      refine j_ite (fun q70 => ?_) (fun q70 => ?_)
      · refine j_tin C (tgt := 261) dX13_errorOf_42 (by rw [q70]; decide) (by rw [q70]; decide) (by rw [q70]; rfl) (by decide) ?_
        refine j_aload_n C dX13_errorOf_261 (i := 0) rfl rfl ?_
        refine j_getR C g_X13_29 dX13_errorOf_262 (fun v71 ev71 => ?_)
        refine j_iload_n C dX13_errorOf_265 (i := 1) rfl rfl ?_
        refine j_aload_n C dX13_errorOf_266 (i := 0) rfl rfl ?_
        refine j_iload_n C dX13_errorOf_267 (i := 1) rfl rfl ?_
        refine j_iconst C (v := 2) dX13_errorOf_268 (by decide) ?_
        refine j_callVi C (As := [.int _, .int _]) (rest := [_, _]) k_X13_211 ⟨Nat.le_of_ble_eq_true rfl, Nat.le_of_ble_eq_true rfl⟩ rfl (Nat.le_of_ble_eq_true rfl) ⟨Nat.le_of_ble_eq_true rfl, Nat.le_of_ble_eq_true rfl⟩ rfl dX13_errorOf_269 (fun r0 q0 => c_Md_told l w fl _ _ _ _ _ q0) (fun r72 er72 nr72 => ?_)
        refine j_iastore C dX13_errorOf_272 (fun h73 eh73 => ?_)
        refine j_aload_n C dX13_errorOf_273 (i := 0) rfl rfl ?_
        refine j_getR C g_X13_29 dX13_errorOf_274 (fun v74 ev74 => ?_)
        refine j_iload_n C dX13_errorOf_277 (i := 1) rfl rfl ?_
        refine j_iaload C dX13_errorOf_278 (fun v75 ev75 => ?_)
        refine j_iconst C (v := -1) dX13_errorOf_279 (by decide) ?_
        refine j_icmpne C (tgt := 287) dX13_errorOf_280 (by decide) (fun q76 => ?_) (fun q76 => ?_)
        · refine j_iconst C (v := 3) dX13_errorOf_283 (by decide) ?_
          refine j_goto C (tgt := 288) dX13_errorOf_284 (by decide) ?_
          exact e_iretM C hQ hr rfl hlk dX13_errorOf_288 (Nat.le_of_ble_eq_true rfl) (Nat.le_of_ble_eq_true rfl)
        · refine j_iconst C (v := 0) dX13_errorOf_287 (by decide) ?_
          exact e_iretM C hQ hr rfl hlk dX13_errorOf_288 (Nat.le_of_ble_eq_true rfl) (Nat.le_of_ble_eq_true rfl)
      refine j_ite (fun q77 => ?_) (fun q77 => ?_)
      · refine j_tin C (tgt := 289) dX13_errorOf_42 (by rw [q77]; decide) (by rw [q77]; decide) (by rw [q77]; rfl) (by decide) ?_
        refine j_aload_n C dX13_errorOf_289 (i := 0) rfl rfl ?_
        refine j_getR C g_X13_29 dX13_errorOf_290 (fun v78 ev78 => ?_)
        refine j_iconst C (v := 0) dX13_errorOf_293 (by decide) ?_
        refine j_dup2 C dX13_errorOf_294 rfl rfl ?_
        refine j_iaload C dX13_errorOf_295 (fun v79 ev79 => ?_)
        refine j_iconst C (v := 1) dX13_errorOf_296 (by decide) ?_
        refine j_iadd C dX13_errorOf_297 ?_
        refine j_iastore C dX13_errorOf_298 (fun h80 eh80 => ?_)
        refine j_aload_n C dX13_errorOf_299 (i := 0) rfl rfl ?_
        refine j_getR C g_X13_29 dX13_errorOf_300 (fun v81 ev81 => ?_)
        refine j_iconst C (v := 0) dX13_errorOf_303 (by decide) ?_
        refine j_iaload C dX13_errorOf_304 (fun v82 ev82 => ?_)
        refine j_bipush C (v := 12) dX13_errorOf_305 (by decide) ?_
        refine j_icmple C (tgt := 314) dX13_errorOf_307 (by decide) (fun q83 => ?_) (fun q83 => ?_)
        · refine j_iconst C (v := 0) dX13_errorOf_314 (by decide) ?_
          exact e_iretM C hQ hr rfl hlk dX13_errorOf_315 (Nat.le_of_ble_eq_true rfl) (Nat.le_of_ble_eq_true rfl)
        · refine j_iconst C (v := 4) dX13_errorOf_310 (by decide) ?_
          refine j_goto C (tgt := 315) dX13_errorOf_311 (by decide) ?_
          exact e_iretM C hQ hr rfl hlk dX13_errorOf_315 (Nat.le_of_ble_eq_true rfl) (Nat.le_of_ble_eq_true rfl)
      refine j_ite (fun q84 => ?_) (fun q84 => ?_)
      · refine j_tin C (tgt := 316) dX13_errorOf_42 (by rw [q84]; decide) (by rw [q84]; decide) (by rw [q84]; rfl) (by decide) ?_
        refine j_aload_n C dX13_errorOf_316 (i := 2) rfl rfl ?_
        refine j_getR C g_X13_213 dX13_errorOf_317 (fun v85 ev85 => ?_)
        refine j_iload_n C dX13_errorOf_320 (i := 3) rfl rfl ?_
        refine j_iload C dX13_errorOf_321 rfl ?_
        refine j_iastore C dX13_errorOf_323 (fun h86 eh86 => ?_)
        refine j_iload C dX13_errorOf_324 rfl ?_
        refine j_iconst C (v := 1) dX13_errorOf_326 (by decide) ?_
        refine j_bipush C (v := 20) dX13_errorOf_327 (by decide) ?_
        refine j_callSi C (As := [.int _, .int _, .int _]) (rest := []) k_X13_60 ⟨Nat.le_of_ble_eq_true rfl, Nat.le_of_ble_eq_true rfl⟩ rfl (Nat.le_of_ble_eq_true rfl) ⟨Nat.le_of_ble_eq_true rfl, Nat.le_of_ble_eq_true rfl⟩ rfl dX13_errorOf_329 (fun r0 q0 => c_Md_isIn l w _ _ _ _ _ q0) (fun r87 er87 nr87 => ?_)
        refine j_ifeq C (tgt := 339) dX13_errorOf_332 (by decide) (fun q88 => ?_) (fun q88 => ?_)
        · refine j_iconst C (v := 5) dX13_errorOf_339 (by decide) ?_
          exact e_iretM C hQ hr rfl hlk dX13_errorOf_340 (Nat.le_of_ble_eq_true rfl) (Nat.le_of_ble_eq_true rfl)
        · refine j_iconst C (v := 0) dX13_errorOf_335 (by decide) ?_
          refine j_goto C (tgt := 340) dX13_errorOf_336 (by decide) ?_
          exact e_iretM C hQ hr rfl hlk dX13_errorOf_340 (Nat.le_of_ble_eq_true rfl) (Nat.le_of_ble_eq_true rfl)
      refine j_ite (fun q89 => ?_) (fun q89 => ?_)
      · refine j_tin C (tgt := 341) dX13_errorOf_42 (by rw [q89]; decide) (by rw [q89]; decide) (by rw [q89]; rfl) (by decide) ?_
        refine j_aload_n C dX13_errorOf_341 (i := 2) rfl rfl ?_
        refine j_getR C g_X13_213 dX13_errorOf_342 (fun v90 ev90 => ?_)
        refine j_iload_n C dX13_errorOf_345 (i := 3) rfl rfl ?_
        refine j_iconst C (v := 1) dX13_errorOf_346 (by decide) ?_
        refine j_iadd C dX13_errorOf_347 ?_
        refine j_iload C dX13_errorOf_348 rfl ?_
        refine j_iastore C dX13_errorOf_350 (fun h91 eh91 => ?_)
        refine j_iload C dX13_errorOf_351 rfl ?_
        refine j_iconst C (v := 1) dX13_errorOf_353 (by decide) ?_
        refine j_bipush C (v := 60) dX13_errorOf_354 (by decide) ?_
        refine j_callSi C (As := [.int _, .int _, .int _]) (rest := []) k_X13_60 ⟨Nat.le_of_ble_eq_true rfl, Nat.le_of_ble_eq_true rfl⟩ rfl (Nat.le_of_ble_eq_true rfl) ⟨Nat.le_of_ble_eq_true rfl, Nat.le_of_ble_eq_true rfl⟩ rfl dX13_errorOf_356 (fun r0 q0 => c_Md_isIn l w _ _ _ _ _ q0) (fun r92 er92 nr92 => ?_)
        refine j_ifeq C (tgt := 366) dX13_errorOf_359 (by decide) (fun q93 => ?_) (fun q93 => ?_)
        · refine j_iconst C (v := 5) dX13_errorOf_366 (by decide) ?_
          exact e_iretM C hQ hr rfl hlk dX13_errorOf_367 (Nat.le_of_ble_eq_true rfl) (Nat.le_of_ble_eq_true rfl)
        · refine j_iconst C (v := 0) dX13_errorOf_362 (by decide) ?_
          refine j_goto C (tgt := 367) dX13_errorOf_363 (by decide) ?_
          exact e_iretM C hQ hr rfl hlk dX13_errorOf_367 (Nat.le_of_ble_eq_true rfl) (Nat.le_of_ble_eq_true rfl)
      refine j_ite (fun q94 => ?_) (fun q94 => ?_)
      · refine j_tin C (tgt := 368) dX13_errorOf_42 (by rw [q94]; decide) (by rw [q94]; decide) (by rw [q94]; rfl) (by decide) ?_
        refine j_aload_n C dX13_errorOf_368 (i := 2) rfl rfl ?_
        refine j_getR C g_X13_213 dX13_errorOf_369 (fun v95 ev95 => ?_)
        refine j_iload_n C dX13_errorOf_372 (i := 3) rfl rfl ?_
        refine j_iconst C (v := 2) dX13_errorOf_373 (by decide) ?_
        refine j_iadd C dX13_errorOf_374 ?_
        refine j_iload C dX13_errorOf_375 rfl ?_
        refine j_iastore C dX13_errorOf_377 (fun h96 eh96 => ?_)
        refine j_iload C dX13_errorOf_378 rfl ?_
        refine j_iconst C (v := 0) dX13_errorOf_380 (by decide) ?_
        refine j_sipush C (v := 359) dX13_errorOf_381 (by decide) ?_
        refine j_callSi C (As := [.int _, .int _, .int _]) (rest := []) k_X13_60 ⟨Nat.le_of_ble_eq_true rfl, Nat.le_of_ble_eq_true rfl⟩ rfl (Nat.le_of_ble_eq_true rfl) ⟨Nat.le_of_ble_eq_true rfl, Nat.le_of_ble_eq_true rfl⟩ rfl dX13_errorOf_384 (fun r0 q0 => c_Md_isIn l w _ _ _ _ _ q0) (fun r97 er97 nr97 => ?_)
        refine j_ifeq C (tgt := 394) dX13_errorOf_387 (by decide) (fun q98 => ?_) (fun q98 => ?_)
        · refine j_iconst C (v := 5) dX13_errorOf_394 (by decide) ?_
          exact e_iretM C hQ hr rfl hlk dX13_errorOf_395 (Nat.le_of_ble_eq_true rfl) (Nat.le_of_ble_eq_true rfl)
        · refine j_iconst C (v := 0) dX13_errorOf_390 (by decide) ?_
          refine j_goto C (tgt := 395) dX13_errorOf_391 (by decide) ?_
          exact e_iretM C hQ hr rfl hlk dX13_errorOf_395 (Nat.le_of_ble_eq_true rfl) (Nat.le_of_ble_eq_true rfl)
      refine j_ite (fun q99 => ?_) (fun q99 => ?_)
      · refine j_tin C (tgt := 396) dX13_errorOf_42 (by rw [q99]; decide) (by rw [q99]; decide) (by rw [q99]; rfl) (by decide) ?_
        refine j_aload_n C dX13_errorOf_396 (i := 2) rfl rfl ?_
        refine j_getR C g_X13_213 dX13_errorOf_397 (fun v100 ev100 => ?_)
        refine j_iload_n C dX13_errorOf_400 (i := 3) rfl rfl ?_
        refine j_iconst C (v := 3) dX13_errorOf_401 (by decide) ?_
        refine j_iadd C dX13_errorOf_402 ?_
        refine j_iload C dX13_errorOf_403 rfl ?_
        refine j_iastore C dX13_errorOf_405 (fun h101 eh101 => ?_)
        refine j_iload C dX13_errorOf_406 rfl ?_
        refine j_iconst C (v := 0) dX13_errorOf_408 (by decide) ?_
        refine j_bipush C (v := 29) dX13_errorOf_409 (by decide) ?_
        refine j_callSi C (As := [.int _, .int _, .int _]) (rest := []) k_X13_60 ⟨Nat.le_of_ble_eq_true rfl, Nat.le_of_ble_eq_true rfl⟩ rfl (Nat.le_of_ble_eq_true rfl) ⟨Nat.le_of_ble_eq_true rfl, Nat.le_of_ble_eq_true rfl⟩ rfl dX13_errorOf_411 (fun r0 q0 => c_Md_isIn l w _ _ _ _ _ q0) (fun r102 er102 nr102 => ?_)
        refine j_ifeq C (tgt := 421) dX13_errorOf_414 (by decide) (fun q103 => ?_) (fun q103 => ?_)
        · refine j_iconst C (v := 5) dX13_errorOf_421 (by decide) ?_
          exact e_iretM C hQ hr rfl hlk dX13_errorOf_422 (Nat.le_of_ble_eq_true rfl) (Nat.le_of_ble_eq_true rfl)
        · refine j_iconst C (v := 0) dX13_errorOf_417 (by decide) ?_
          refine j_goto C (tgt := 422) dX13_errorOf_418 (by decide) ?_
          exact e_iretM C hQ hr rfl hlk dX13_errorOf_422 (Nat.le_of_ble_eq_true rfl) (Nat.le_of_ble_eq_true rfl)
      refine j_ite (fun q104 => ?_) (fun q104 => ?_)
      · refine j_tin C (tgt := 423) dX13_errorOf_42 (by rw [q104]; decide) (by rw [q104]; decide) (by rw [q104]; rfl) (by decide) ?_
        refine j_jn (P := fun (j110 : hp_M → Option (Int32 × hp_M)) => ∀ (h111 : hp_M), J p l e ({ frames := 2, cells := 0, slots := 0, locals := 47 }) s m args below meth c Q w 5 0 0 461 [] [] h111 (j110 h111) out) ?_ (fun j110 hj110 => ?_)
        · intro h111
          refine j_iconst C (v := 5) dX13_errorOf_461 (by decide) ?_
          exact e_iretM C hQ hr rfl hlk dX13_errorOf_462 (Nat.le_of_ble_eq_true rfl) (Nat.le_of_ble_eq_true rfl)
        · refine j_aload_n C dX13_errorOf_423 (i := 2) rfl rfl ?_
          refine j_getR C g_X13_213 dX13_errorOf_424 (fun v112 ev112 => ?_)
          refine j_iload_n C dX13_errorOf_427 (i := 3) rfl rfl ?_
          refine j_iconst C (v := 4) dX13_errorOf_428 (by decide) ?_
          refine j_iadd C dX13_errorOf_429 ?_
          refine j_iload C dX13_errorOf_430 rfl ?_
          refine j_iastore C dX13_errorOf_432 (fun h113 eh113 => ?_)
          refine j_iload C dX13_errorOf_433 rfl ?_
          refine j_iconst C (v := 1) dX13_errorOf_435 (by decide) ?_
          refine j_bipush C (v := 60) dX13_errorOf_436 (by decide) ?_
          refine j_callSi C (As := [.int _, .int _, .int _]) (rest := []) k_X13_60 ⟨Nat.le_of_ble_eq_true rfl, Nat.le_of_ble_eq_true rfl⟩ rfl (Nat.le_of_ble_eq_true rfl) ⟨Nat.le_of_ble_eq_true rfl, Nat.le_of_ble_eq_true rfl⟩ rfl dX13_errorOf_438 (fun r0 q0 => c_Md_isIn l w _ _ _ _ _ q0) (fun r114 er114 nr114 => ?_)
          refine j_ifeq C (tgt := 461) dX13_errorOf_441 (by decide) (fun q115 => ?_) (fun q115 => ?_)
          · exact j_sub [] rfl (hj110 _)
          · refine j_iload C dX13_errorOf_444 rfl ?_
            refine j_aload_n C dX13_errorOf_446 (i := 2) rfl rfl ?_
            refine j_getR C g_X13_213 dX13_errorOf_447 (fun v116 ev116 => ?_)
            refine j_iload_n C dX13_errorOf_450 (i := 3) rfl rfl ?_
            refine j_iconst C (v := 3) dX13_errorOf_451 (by decide) ?_
            refine j_iadd C dX13_errorOf_452 ?_
            refine j_iaload C dX13_errorOf_453 (fun v117 ev117 => ?_)
            refine j_icmple C (tgt := 461) dX13_errorOf_454 (by decide) (fun q118 => ?_) (fun q118 => ?_)
            · exact j_sub [] rfl (hj110 _)
            · refine j_iconst C (v := 0) dX13_errorOf_457 (by decide) ?_
              refine j_goto C (tgt := 462) dX13_errorOf_458 (by decide) ?_
              exact e_iretM C hQ hr rfl hlk dX13_errorOf_462 (Nat.le_of_ble_eq_true rfl) (Nat.le_of_ble_eq_true rfl)
      refine j_tout C (tgt := 463) dX13_errorOf_42 (sw_out 12 (fun i hi => by rcases (show i = 0 ∨ i = 1 ∨ i = 2 ∨ i = 3 ∨ i = 4 ∨ i = 5 ∨ i = 6 ∨ i = 7 ∨ i = 8 ∨ i = 9 ∨ i = 10 ∨ i = 11 by omega) with rfl | rfl | rfl | rfl | rfl | rfl | rfl | rfl | rfl | rfl | rfl | rfl <;> first | exact q48 | exact q58 | exact q65 | exact q68 | exact q69 | exact q70 | exact q77 | exact q84 | exact q89 | exact q94 | exact q99 | exact q104) (by decide) (by decide) (by decide)) (by decide) ?_
      refine j_iconst C (v := 0) dX13_errorOf_463 (by decide) ?_
      exact e_iretM C hQ hr rfl hlk dX13_errorOf_464 (Nat.le_of_ble_eq_true rfl) (Nat.le_of_ble_eq_true rfl)
  · refine j_aload_n C dX13_errorOf_0 (i := 0) rfl rfl ?_
    refine j_getR C g_X13_39 dX13_errorOf_1 (fun v119 ev119 => ?_)
    refine j_astore_n C [(2, _), (0, _), (1, _)] dX13_errorOf_4 (i := 2) rfl (by decide) rfl ?_
    refine j_iconst C (v := 5) dX13_errorOf_5 (by decide) ?_
    refine j_aload_n C dX13_errorOf_6 (i := 2) rfl rfl ?_
    refine j_getI C g_X13_57 dX13_errorOf_7 (fun v120 ev120 => ?_)
    refine j_iconst C (v := 1) dX13_errorOf_10 (by decide) ?_
    refine j_isub C dX13_errorOf_11 ?_
    refine j_imul C dX13_errorOf_12 ?_
    refine j_istore_n C [(3, _), (2, _), (0, _), (1, _)] dX13_errorOf_13 (i := 3) rfl (by decide) rfl ?_
    refine j_aload_n C dX13_errorOf_14 (i := 0) rfl rfl ?_
    refine j_getR C g_X13_17 dX13_errorOf_15 (fun v121 ev121 => ?_)
    refine j_iload_n C dX13_errorOf_18 (i := 1) rfl rfl ?_
    refine j_iaload C dX13_errorOf_19 (fun v122 ev122 => ?_)
    refine j_bipush C (v := 31) dX13_errorOf_20 (by decide) ?_
    refine j_icmpne C (tgt := 33) dX13_errorOf_22 (by decide) (fun q123 => ?_) (fun q123 => ?_)
    · refine j_aload_n C dX13_errorOf_25 (i := 0) rfl rfl ?_
      refine j_iload_n C dX13_errorOf_26 (i := 1) rfl rfl ?_
      refine j_callVi C (As := [.int _]) (rest := []) k_X13_205 ⟨Nat.le_of_ble_eq_true rfl, Nat.le_of_ble_eq_true rfl⟩ rfl (Nat.le_of_ble_eq_true rfl) ⟨Nat.le_of_ble_eq_true rfl, Nat.le_of_ble_eq_true rfl⟩ rfl dX13_errorOf_27 (fun r0 q0 => c_Md_numberAt l w fl _ _ _ _ q0) (fun r124 er124 nr124 => ?_)
      refine j_goto C (tgt := 34) dX13_errorOf_30 (by decide) ?_
      exact j_sub [2, 3, 1, 0] rfl (hj6 _ _ _)
    · refine j_iconst C (v := 0) dX13_errorOf_33 (by decide) ?_
      exact j_sub [2, 3, 1, 0] rfl (hj6 _ _ _)
def f_Md_read_b64 (w : hp_W) (fl : Nat) (a0 : Nat) (x1 : Int32) (k116 : hp_M → Option (Int32 × hp_M)) (k88 : Int32 → hp_M → Option (Int32 × hp_M)) : Nat → hp_M → Option (Int32 × hp_M)
  | 0, _ => none
  | n + 1, h => (gI h a0 12 9).bind fun v1030 => if x1 ≤ v1030 then (k116 h) else ((gI h a0 12 9).bind fun v1032 => (onO h a0 12 (f_Md_errorOf fl a0 v1032 h)).bind fun r1033 => if r1033.1 = 0 then ((gI r1033.2 a0 12 9).bind fun v1035 => (pF r1033.2 a0 12 9 (.int (v1035 + 1))).bind fun h1036 => f_Md_read_b64 w fl a0 x1 k116 k88 n h1036) else (k88 r1033.1 r1033.2))
def f_Md_read_b118 (w : hp_W) (fl : Nat) (a0 : Nat) (k174 : hp_M → Option (Int32 × hp_M)) : Nat → Int32 → hp_M → Option (Int32 × hp_M)
  | 0, _, _ => none
  | n + 1, x2, h => (gR h a0 12 12).bind fun v1033 => (gI h v1033 11 12).bind fun v1034 => if v1034 ≤ x2 then (k174 h) else ((gR h a0 12 12).bind fun v1036 => (gR h v1036 11 9).bind fun v1037 => (gR h a0 12 12).bind fun v1038 => (gR h v1038 11 11).bind fun v1039 => (gaI h v1039 x2).bind fun v1040 => (gR h a0 12 8).bind fun v1041 => (gR h a0 12 12).bind fun v1042 => (gR h v1042 11 9).bind fun v1043 => (gR h a0 12 12).bind fun v1044 => (gR h v1044 11 11).bind fun v1045 => (gaI h v1045 x2).bind fun v1046 => (gaI h v1043 v1046).bind fun v1047 => (gaI h v1041 v1047).bind fun v1048 => (paI h v1037 v1040 v1048).bind fun h1049 => f_Md_read_b118 w fl a0 k174 n (x2 + 1) h1049)
def f_Md_read_b176 (w : hp_W) (fl : Nat) (a0 : Nat) : Nat → Int32 → hp_M → Option (Int32 × hp_M)
  | 0, _, _ => none
  | n + 1, x2, h => (gR h a0 12 12).bind fun v1018 => (gI h v1018 11 5).bind fun v1019 => if v1019 ≤ x2 then (some (0, h)) else ((gR h a0 12 12).bind fun v1021 => (gR h v1021 11 8).bind fun v1022 => (gR h a0 12 8).bind fun v1023 => (gR h a0 12 12).bind fun v1024 => (gR h v1024 11 8).bind fun v1025 => (gaI h v1025 x2).bind fun v1026 => (gaI h v1023 v1026).bind fun v1027 => (paI h v1022 x2 v1027).bind fun h1028 => f_Md_read_b176 w fl a0 n (x2 + 1) h1028)
def f_Md_read (w : hp_W) (fl : Nat) (a0 : Nat) (h : hp_M) : Option (Int32 × hp_M) := (f_To_init h.2 (hN h (oC 11 [.int 0, .null, .int 0, .null, .null, .int 0, .null, .null, .null, .null, .int 0, .null, .int 0]))).bind fun h1 => (pF h1 a0 12 12 (.ref h.2)).bind fun h2 => (onO h2 a0 12 (f_Md_cutIntoTokens w fl a0 h2)).bind fun h3 => (pF h3 a0 12 9 (.int 0)).bind fun h4 => (pF h4 a0 12 10 (.int 0)).bind fun h5 => (onO h5 a0 12 (f_Md_isText fl a0 h5)).bind fun r6 => if r6.1 = 0 then ((gR r6.2 a0 12 5).bind fun v8 => (gI r6.2 a0 12 9).bind fun v9 => (gaI r6.2 v8 v9).bind fun v10 => (pF r6.2 a0 12 3 (.int v10)).bind fun h11 => some (1, h11)) else ((gI r6.2 a0 12 9).bind fun v12 => (gR r6.2 a0 12 8).bind fun v13 => (paI r6.2 v13 0 0).bind fun h14 => (pF h14 a0 12 9 (.int 0)).bind fun h15 => f_Md_read_b64 w fl a0 v12 (fun (h16 : hp_M) => f_Md_read_b118 w fl a0 (fun (h17 : hp_M) => f_Md_read_b176 w fl a0 fl 0 h17) fl 0 h16) (fun (u18 : Int32) (h19 : hp_M) => (gR h19 a0 12 5).bind fun v20 => (gI h19 a0 12 9).bind fun v21 => (gaI h19 v20 v21).bind fun v22 => (pF h19 a0 12 3 (.int v22)).bind fun h23 => some (u18, h23)) fl h15)
set_option maxRecDepth 100000 in
set_option maxHeartbeats 4000000 in
theorem b_Md_read_64 {p : Program} {l : Launch} {e : Env} {s : State} {m : MethodId} {args : Array Value} {below : List Frame} {meth : Method} {c : Code} {Q : State → Prop} {w : hp_W} {out : Int32 × hp_M} (fl : Nat)   (a0 : Nat) (x1 : Int32) (k116 : hp_M → Option (Int32 × hp_M)) (k88 : Int32 → hp_M → Option (Int32 × hp_M)) (C : Cx p m c cX13_read 3 s args RX13 w) (hr : meth.sig.returnType = some .int) (hlk : meth.locks = false) (hnm : meth.name = "read") (hQ : QM below w args s ({ frames := 137, cells := 9, slots := 1770, locals := 2877 }) (some .int) (some (.int out.1)) out.2 = Q) (hk116 : ∀ (hz : hp_M), J p l e ({ frames := 137, cells := 9, slots := 1770, locals := 2877 }) s m args below meth c Q w 3 9 1770 116 [(0, .ref a0)] [] hz (k116 hz) out) (hk88 : ∀ (z2 : Int32) (hz : hp_M), J p l e ({ frames := 137, cells := 9, slots := 1770, locals := 2877 }) s m args below meth c Q w 3 9 1770 88 [(0, .ref a0), (2, .int z2)] [] hz (k88 z2 hz) out) : ∀ (n : Nat) (h : hp_M), J p l e ({ frames := 137, cells := 9, slots := 1770, locals := 2877 }) s m args below meth c Q w 3 9 1770 64 [(0, .ref a0), (1, .int x1)] [] h (f_Md_read_b64 w fl a0 x1 k116 k88 n h) out := by
  intro n
  induction n with
  | zero => intro h; exact j_none
  | succ n ih =>
    intro h
    rw [f_Md_read_b64]
    refine j_aload_n C dX13_read_64 (i := 0) rfl rfl ?_
    refine j_getI C g_X13_113 dX13_read_65 (fun v1030 ev1030 => ?_)
    refine j_iload_n C dX13_read_68 (i := 1) rfl rfl ?_
    refine j_icmpge C (tgt := 116) dX13_read_69 (by decide) (fun q1031 => ?_) (fun q1031 => ?_)
    · exact j_sub [0] rfl (hk116 _)
    · refine j_aload_n C dX13_read_72 (i := 0) rfl rfl ?_
      refine j_aload_n C dX13_read_73 (i := 0) rfl rfl ?_
      refine j_getI C g_X13_113 dX13_read_74 (fun v1032 ev1032 => ?_)
      refine j_callVim C (As := [.int _]) (rest := []) k_X13_231 ⟨Nat.le_of_ble_eq_true rfl, Nat.le_of_ble_eq_true rfl⟩ rfl (Nat.le_of_ble_eq_true rfl) ⟨Nat.le_of_ble_eq_true rfl, Nat.le_of_ble_eq_true rfl⟩ rfl dX13_read_77 (fun r0 q0 => c_Md_errorOf l w fl _ _ _ _ q0) (fun r1033 er1033 nr1033 => ?_)
      refine j_istore_n C [(2, _), (0, _), (1, _)] dX13_read_80 (i := 2) rfl (by decide) rfl ?_
      refine j_iload_n C dX13_read_81 (i := 2) rfl rfl ?_
      refine j_ifne C (tgt := 88) dX13_read_82 (by decide) (fun q1034 => ?_) (fun q1034 => ?_)
      · refine j_goto C (tgt := 103) dX13_read_85 (by decide) ?_
        refine j_aload_n C dX13_read_103 (i := 0) rfl rfl ?_
        refine j_dup C dX13_read_104 rfl ?_
        refine j_getI C g_X13_113 dX13_read_105 (fun v1035 ev1035 => ?_)
        refine j_iconst C (v := 1) dX13_read_108 (by decide) ?_
        refine j_iadd C dX13_read_109 ?_
        refine j_putI C p_X13_113 (fun q => nomatch q) dX13_read_110 (fun h1036 eh1036 => ?_)
        refine j_goto C (tgt := 64) dX13_read_113 (by decide) ?_
        exact j_sub [1, 2] rfl (ih _)
      · exact j_sub [1, 0] rfl (hk88 _ _)
set_option maxRecDepth 100000 in
set_option maxHeartbeats 4000000 in
theorem b_Md_read_118 {p : Program} {l : Launch} {e : Env} {s : State} {m : MethodId} {args : Array Value} {below : List Frame} {meth : Method} {c : Code} {Q : State → Prop} {w : hp_W} {out : Int32 × hp_M} (fl : Nat)   (a0 : Nat) (k174 : hp_M → Option (Int32 × hp_M)) (C : Cx p m c cX13_read 3 s args RX13 w) (hr : meth.sig.returnType = some .int) (hlk : meth.locks = false) (hnm : meth.name = "read") (hQ : QM below w args s ({ frames := 137, cells := 9, slots := 1770, locals := 2877 }) (some .int) (some (.int out.1)) out.2 = Q) (hk174 : ∀ (hz : hp_M), J p l e ({ frames := 137, cells := 9, slots := 1770, locals := 2877 }) s m args below meth c Q w 3 9 1770 174 [(0, .ref a0)] [] hz (k174 hz) out) : ∀ (n : Nat) (x2 : Int32) (h : hp_M), J p l e ({ frames := 137, cells := 9, slots := 1770, locals := 2877 }) s m args below meth c Q w 3 9 1770 118 [(0, .ref a0), (2, .int x2)] [] h (f_Md_read_b118 w fl a0 k174 n x2 h) out := by
  intro n
  induction n with
  | zero => intro x2 h; exact j_none
  | succ n ih =>
    intro x2 h
    rw [f_Md_read_b118]
    refine j_iload_n C dX13_read_118 (i := 2) rfl rfl ?_
    refine j_aload_n C dX13_read_119 (i := 0) rfl rfl ?_
    refine j_getR C g_X13_39 dX13_read_120 (fun v1033 ev1033 => ?_)
    refine j_getI C g_X13_130 dX13_read_123 (fun v1034 ev1034 => ?_)
    refine j_icmpge C (tgt := 174) dX13_read_126 (by decide) (fun q1035 => ?_) (fun q1035 => ?_)
    · exact j_sub [0] rfl (hk174 _)
    · refine j_aload_n C dX13_read_129 (i := 0) rfl rfl ?_
      refine j_getR C g_X13_39 dX13_read_130 (fun v1036 ev1036 => ?_)
      refine j_getR C g_X13_122 dX13_read_133 (fun v1037 ev1037 => ?_)
      refine j_aload_n C dX13_read_136 (i := 0) rfl rfl ?_
      refine j_getR C g_X13_39 dX13_read_137 (fun v1038 ev1038 => ?_)
      refine j_getR C g_X13_127 dX13_read_140 (fun v1039 ev1039 => ?_)
      refine j_iload_n C dX13_read_143 (i := 2) rfl rfl ?_
      refine j_iaload C dX13_read_144 (fun v1040 ev1040 => ?_)
      refine j_aload_n C dX13_read_145 (i := 0) rfl rfl ?_
      refine j_getR C g_X13_29 dX13_read_146 (fun v1041 ev1041 => ?_)
      refine j_aload_n C dX13_read_149 (i := 0) rfl rfl ?_
      refine j_getR C g_X13_39 dX13_read_150 (fun v1042 ev1042 => ?_)
      refine j_getR C g_X13_122 dX13_read_153 (fun v1043 ev1043 => ?_)
      refine j_aload_n C dX13_read_156 (i := 0) rfl rfl ?_
      refine j_getR C g_X13_39 dX13_read_157 (fun v1044 ev1044 => ?_)
      refine j_getR C g_X13_127 dX13_read_160 (fun v1045 ev1045 => ?_)
      refine j_iload_n C dX13_read_163 (i := 2) rfl rfl ?_
      refine j_iaload C dX13_read_164 (fun v1046 ev1046 => ?_)
      refine j_iaload C dX13_read_165 (fun v1047 ev1047 => ?_)
      refine j_iaload C dX13_read_166 (fun v1048 ev1048 => ?_)
      refine j_iastore C dX13_read_167 (fun h1049 eh1049 => ?_)
      refine j_iinc C (v := x2 + 1) [(2, _), (0, _)] dX13_read_168 rfl rfl (by decide) rfl ?_
      refine j_goto C (tgt := 118) dX13_read_171 (by decide) ?_
      exact j_sub [1, 0] rfl (ih _ _)
set_option maxRecDepth 100000 in
set_option maxHeartbeats 4000000 in
theorem b_Md_read_176 {p : Program} {l : Launch} {e : Env} {s : State} {m : MethodId} {args : Array Value} {below : List Frame} {meth : Method} {c : Code} {Q : State → Prop} {w : hp_W} {out : Int32 × hp_M} (fl : Nat)   (a0 : Nat) (C : Cx p m c cX13_read 3 s args RX13 w) (hr : meth.sig.returnType = some .int) (hlk : meth.locks = false) (hnm : meth.name = "read") (hQ : QM below w args s ({ frames := 137, cells := 9, slots := 1770, locals := 2877 }) (some .int) (some (.int out.1)) out.2 = Q)  : ∀ (n : Nat) (x2 : Int32) (h : hp_M), J p l e ({ frames := 137, cells := 9, slots := 1770, locals := 2877 }) s m args below meth c Q w 3 9 1770 176 [(0, .ref a0), (2, .int x2)] [] h (f_Md_read_b176 w fl a0 n x2 h) out := by
  intro n
  induction n with
  | zero => intro x2 h; exact j_none
  | succ n ih =>
    intro x2 h
    rw [f_Md_read_b176]
    refine j_iload_n C dX13_read_176 (i := 2) rfl rfl ?_
    refine j_aload_n C dX13_read_177 (i := 0) rfl rfl ?_
    refine j_getR C g_X13_39 dX13_read_178 (fun v1018 ev1018 => ?_)
    refine j_getI C g_X13_155 dX13_read_181 (fun v1019 ev1019 => ?_)
    refine j_icmpge C (tgt := 216) dX13_read_184 (by decide) (fun q1020 => ?_) (fun q1020 => ?_)
    · refine j_iconst C (v := 0) dX13_read_216 (by decide) ?_
      exact e_iretM C hQ hr rfl hlk dX13_read_217 (Nat.le_of_ble_eq_true rfl) (Nat.le_of_ble_eq_true rfl)
    · refine j_aload_n C dX13_read_187 (i := 0) rfl rfl ?_
      refine j_getR C g_X13_39 dX13_read_188 (fun v1021 ev1021 => ?_)
      refine j_getR C g_X13_170 dX13_read_191 (fun v1022 ev1022 => ?_)
      refine j_iload_n C dX13_read_194 (i := 2) rfl rfl ?_
      refine j_aload_n C dX13_read_195 (i := 0) rfl rfl ?_
      refine j_getR C g_X13_29 dX13_read_196 (fun v1023 ev1023 => ?_)
      refine j_aload_n C dX13_read_199 (i := 0) rfl rfl ?_
      refine j_getR C g_X13_39 dX13_read_200 (fun v1024 ev1024 => ?_)
      refine j_getR C g_X13_170 dX13_read_203 (fun v1025 ev1025 => ?_)
      refine j_iload_n C dX13_read_206 (i := 2) rfl rfl ?_
      refine j_iaload C dX13_read_207 (fun v1026 ev1026 => ?_)
      refine j_iaload C dX13_read_208 (fun v1027 ev1027 => ?_)
      refine j_iastore C dX13_read_209 (fun h1028 eh1028 => ?_)
      refine j_iinc C (v := x2 + 1) [(2, _), (0, _)] dX13_read_210 rfl rfl (by decide) rfl ?_
      refine j_goto C (tgt := 176) dX13_read_213 (by decide) ?_
      exact j_sub [1, 0] rfl (ih _ _)
set_option maxRecDepth 100000 in
set_option maxHeartbeats 4000000 in
theorem c_Md_read (l : Launch) (w : hp_W) (fl : Nat) (a0 : Nat) (h : hp_M) (out : Int32 × hp_M) (hX : f_Md_read w fl a0 h = some out) : CT l w yX13_read cX13_read 3 (some .int) ({ frames := 137, cells := 9, slots := 1770, locals := 2877 }) [.ref a0] h (some (.int out.1)) out.2 := by
  unfold f_Md_read at hX
  refine ct_of (by decide +kernel) (Nat.le_of_ble_eq_true rfl) hX ?_
  intro p e s m args below meth c Q C hr hlk hnm hQ
  refine j_aload_n C dX13_read_0 (i := 0) rfl rfl ?_
  refine j_new C n_X13_32 (Nat.le_of_ble_eq_true rfl) (Nat.le_of_ble_eq_true rfl) dX13_read_1 ?_
  refine j_dup C dX13_read_4 rfl ?_
  refine j_callIN C (As := []) (rest := [_, _]) k_X13_34 ⟨Nat.le_of_ble_eq_true rfl, Nat.le_of_ble_eq_true rfl⟩ rfl (Nat.le_of_ble_eq_true rfl) ⟨Nat.le_of_ble_eq_true rfl, Nat.le_of_ble_eq_true rfl⟩ rfl dX13_read_5 (fun r0 q0 => c_To_init l w _ _ _ q0) (fun h1 eh1 => ?_)
  refine j_putR C p_X13_39 (fun q => nomatch q) dX13_read_8 rfl rfl (fun h2 eh2 => ?_)
  refine j_aload_n C dX13_read_11 (i := 0) rfl rfl ?_
  refine j_callVv C (As := []) (rest := []) k_X13_225 ⟨Nat.le_of_ble_eq_true rfl, Nat.le_of_ble_eq_true rfl⟩ rfl (Nat.le_of_ble_eq_true rfl) ⟨Nat.le_of_ble_eq_true rfl, Nat.le_of_ble_eq_true rfl⟩ rfl dX13_read_12 (fun r0 q0 => c_Md_cutIntoTokens l w fl _ _ _ q0) (fun h3 eh3 _ => ?_)
  refine j_aload_n C dX13_read_15 (i := 0) rfl rfl ?_
  refine j_iconst C (v := 0) dX13_read_16 (by decide) ?_
  refine j_putI C p_X13_113 (fun q => nomatch q) dX13_read_17 (fun h4 eh4 => ?_)
  refine j_aload_n C dX13_read_20 (i := 0) rfl rfl ?_
  refine j_iconst C (v := 0) dX13_read_21 (by decide) ?_
  refine j_putI C p_X13_179 (fun q => nomatch q) dX13_read_22 (fun h5 eh5 => ?_)
  refine j_aload_n C dX13_read_25 (i := 0) rfl rfl ?_
  refine j_callVim C (As := []) (rest := []) k_X13_228 ⟨Nat.le_of_ble_eq_true rfl, Nat.le_of_ble_eq_true rfl⟩ rfl (Nat.le_of_ble_eq_true rfl) ⟨Nat.le_of_ble_eq_true rfl, Nat.le_of_ble_eq_true rfl⟩ rfl dX13_read_26 (fun r0 q0 => c_Md_isText l w fl _ _ _ q0) (fun r6 er6 nr6 => ?_)
  refine j_ifne C (tgt := 47) dX13_read_29 (by decide) (fun q7 => ?_) (fun q7 => ?_)
  · refine j_aload_n C dX13_read_32 (i := 0) rfl rfl ?_
    refine j_aload_n C dX13_read_33 (i := 0) rfl rfl ?_
    refine j_getR C g_X13_20 dX13_read_34 (fun v8 ev8 => ?_)
    refine j_aload_n C dX13_read_37 (i := 0) rfl rfl ?_
    refine j_getI C g_X13_113 dX13_read_38 (fun v9 ev9 => ?_)
    refine j_iaload C dX13_read_41 (fun v10 ev10 => ?_)
    refine j_putI C p_X13_13 (fun q => nomatch q) dX13_read_42 (fun h11 eh11 => ?_)
    refine j_iconst C (v := 1) dX13_read_45 (by decide) ?_
    exact e_iretM C hQ hr rfl hlk dX13_read_46 (Nat.le_of_ble_eq_true rfl) (Nat.le_of_ble_eq_true rfl)
  · refine j_aload_n C dX13_read_47 (i := 0) rfl rfl ?_
    refine j_getI C g_X13_113 dX13_read_48 (fun v12 ev12 => ?_)
    refine j_istore_n C [(1, _), (0, _)] dX13_read_51 (i := 1) rfl (by decide) rfl ?_
    refine j_aload_n C dX13_read_52 (i := 0) rfl rfl ?_
    refine j_getR C g_X13_29 dX13_read_53 (fun v13 ev13 => ?_)
    refine j_iconst C (v := 0) dX13_read_56 (by decide) ?_
    refine j_iconst C (v := 0) dX13_read_57 (by decide) ?_
    refine j_iastore C dX13_read_58 (fun h14 eh14 => ?_)
    refine j_aload_n C dX13_read_59 (i := 0) rfl rfl ?_
    refine j_iconst C (v := 0) dX13_read_60 (by decide) ?_
    refine j_putI C p_X13_113 (fun q => nomatch q) dX13_read_61 (fun h15 eh15 => ?_)
    refine j_sub [1, 0] rfl (b_Md_read_64 fl  _ _ _ _ C hr hlk hnm hQ (fun h16 => ?_) (fun u18 h19 => ?_) _ _)
    · refine j_iconst C (v := 0) dX13_read_116 (by decide) ?_
      refine j_istore_n C [(2, _), (0, _)] dX13_read_117 (i := 2) rfl (by decide) rfl ?_
      refine j_sub [1, 0] rfl (b_Md_read_118 fl  _ _ C hr hlk hnm hQ (fun h17 => ?_) _ _ _)
      refine j_iconst C (v := 0) dX13_read_174 (by decide) ?_
      refine j_istore_n C [(2, _), (0, _)] dX13_read_175 (i := 2) rfl (by decide) rfl ?_
      refine j_sub [1, 0] rfl (b_Md_read_176 fl  _ C hr hlk hnm hQ  _ _ _)
    · refine j_aload_n C dX13_read_88 (i := 0) rfl rfl ?_
      refine j_aload_n C dX13_read_89 (i := 0) rfl rfl ?_
      refine j_getR C g_X13_20 dX13_read_90 (fun v20 ev20 => ?_)
      refine j_aload_n C dX13_read_93 (i := 0) rfl rfl ?_
      refine j_getI C g_X13_113 dX13_read_94 (fun v21 ev21 => ?_)
      refine j_iaload C dX13_read_97 (fun v22 ev22 => ?_)
      refine j_putI C p_X13_13 (fun q => nomatch q) dX13_read_98 (fun h23 eh23 => ?_)
      refine j_iload_n C dX13_read_101 (i := 2) rfl rfl ?_
      exact e_iretM C hQ hr rfl hlk dX13_read_102 (Nat.le_of_ble_eq_true rfl) (Nat.le_of_ble_eq_true rfl)
def f_Md_trim (a0 : Nat) (x1 : Int32) (h : hp_M) : Option (Int32 × hp_M) := (pF h a0 12 0 (.int 0)).bind fun h1 => (gI h1 a0 12 2).bind fun v2 => (f_Md_isIn x1 0 v2 h1).bind fun r3 => if r3 = 0 then ((onO h1 a0 12 (f_Md_no a0 1 h1)).bind fun r5 => some (r5.1, r5.2)) else ((pF h1 a0 12 2 (.int x1)).bind fun h6 => some (x1, h6))
set_option maxRecDepth 100000 in
set_option maxHeartbeats 4000000 in
theorem c_Md_trim (l : Launch) (w : hp_W) (a0 : Nat) (x1 : Int32) (h : hp_M) (out : Int32 × hp_M) (hX : f_Md_trim a0 x1 h = some out) : CT l w yX13_trim cX13_trim 2 (some .int) ({ frames := 1, cells := 0, slots := 0, locals := 22 }) [.ref a0, .int x1] h (some (.int out.1)) out.2 := by
  unfold f_Md_trim at hX
  refine ct_of (by decide +kernel) (Nat.le_of_ble_eq_true rfl) hX ?_
  intro p e s m args below meth c Q C hr hlk hnm hQ
  refine j_aload_n C dX13_trim_0 (i := 0) rfl rfl ?_
  refine j_iconst C (v := 0) dX13_trim_1 (by decide) ?_
  refine j_putI C p_X13_54 (fun q => nomatch q) dX13_trim_2 (fun h1 eh1 => ?_)
  refine j_iload_n C dX13_trim_5 (i := 1) rfl rfl ?_
  refine j_iconst C (v := 0) dX13_trim_6 (by decide) ?_
  refine j_aload_n C dX13_trim_7 (i := 0) rfl rfl ?_
  refine j_getI C g_X13_79 dX13_trim_8 (fun v2 ev2 => ?_)
  refine j_callSi C (As := [.int _, .int _, .int _]) (rest := []) k_X13_60 ⟨Nat.le_of_ble_eq_true rfl, Nat.le_of_ble_eq_true rfl⟩ rfl (Nat.le_of_ble_eq_true rfl) ⟨Nat.le_of_ble_eq_true rfl, Nat.le_of_ble_eq_true rfl⟩ rfl dX13_trim_11 (fun r0 q0 => c_Md_isIn l w _ _ _ _ _ q0) (fun r3 er3 nr3 => ?_)
  refine j_ifne C (tgt := 23) dX13_trim_14 (by decide) (fun q4 => ?_) (fun q4 => ?_)
  · refine j_aload_n C dX13_trim_17 (i := 0) rfl rfl ?_
    refine j_iconst C (v := 1) dX13_trim_18 (by decide) ?_
    refine j_callVim C (As := [.int _]) (rest := []) k_X13_234 ⟨Nat.le_of_ble_eq_true rfl, Nat.le_of_ble_eq_true rfl⟩ rfl (Nat.le_of_ble_eq_true rfl) ⟨Nat.le_of_ble_eq_true rfl, Nat.le_of_ble_eq_true rfl⟩ rfl dX13_trim_19 (fun r0 q0 => c_Md_no l w _ _ _ _ q0) (fun r5 er5 nr5 => ?_)
    exact e_iretM C hQ hr rfl hlk dX13_trim_22 (Nat.le_of_ble_eq_true rfl) (Nat.le_of_ble_eq_true rfl)
  · refine j_aload_n C dX13_trim_23 (i := 0) rfl rfl ?_
    refine j_iload_n C dX13_trim_24 (i := 1) rfl rfl ?_
    refine j_putI C p_X13_79 (fun q => nomatch q) dX13_trim_25 (fun h6 eh6 => ?_)
    refine j_iload_n C dX13_trim_28 (i := 1) rfl rfl ?_
    exact e_iretM C hQ hr rfl hlk dX13_trim_29 (Nat.le_of_ble_eq_true rfl) (Nat.le_of_ble_eq_true rfl)
def f_Md_teach_b36 (w : hp_W) (fl : Nat) (a0 : Nat) (k84 : hp_M → Option (Int32 × hp_M)) : Nat → Int32 → hp_M → Option (Int32 × hp_M)
  | 0, _, _ => none
  | n + 1, x2, h => (gR h a0 12 11).bind fun v1018 => (gI h v1018 11 0).bind fun v1019 => if v1019 ≤ x2 then (k84 h) else ((gR h a0 12 13).bind fun v1021 => (gR h a0 12 11).bind fun v1022 => (gR h v1022 11 1).bind fun v1023 => (gaI h v1023 ((5 * x2) + 2)).bind fun v1024 => (onO h v1021 10 (f_St_set v1021 x2 v1024 h)).bind fun h1025 => (gR h1025 a0 12 13).bind fun v1026 => (gR h1025 v1026 10 3).bind fun v1027 => (paI h1025 v1027 x2 0).bind fun h1028 => f_Md_teach_b36 w fl a0 k84 n (x2 + 1) h1028)
def f_Md_teach_b86 (w : hp_W) (fl : Nat) (a0 : Nat) : Nat → Int32 → hp_M → Option (Int32 × hp_M)
  | 0, _, _ => none
  | n + 1, x2, h => if 12 ≤ x2 then (some (0, h)) else ((gR h a0 12 13).bind fun v1010 => (gR h v1010 10 4).bind fun v1011 => (paI h v1011 x2 0).bind fun h1012 => f_Md_teach_b86 w fl a0 n (x2 + 1) h1012)
def f_Md_teach (w : hp_W) (fl : Nat) (a0 : Nat) (h : hp_M) : Option (Int32 × hp_M) := (pF h a0 12 0 (.int 0)).bind fun h1 => (pF h1 a0 12 3 (.int (-1))).bind fun h2 => (onO h2 a0 12 (f_Md_read w fl a0 h2)).bind fun r3 => (pF r3.2 a0 12 2 (.int 0)).bind fun h4 => if r3.1 ≤ 0 then ((gR h4 a0 12 12).bind fun v6 => (pF h4 a0 12 11 (.ref v6)).bind fun h7 => f_Md_teach_b36 w fl a0 (fun (h8 : hp_M) => f_Md_teach_b86 w fl a0 fl 0 h8) fl 0 h7) else (some (r3.1, h4))
set_option maxRecDepth 100000 in
set_option maxHeartbeats 4000000 in
theorem b_Md_teach_36 {p : Program} {l : Launch} {e : Env} {s : State} {m : MethodId} {args : Array Value} {below : List Frame} {meth : Method} {c : Code} {Q : State → Prop} {w : hp_W} {out : Int32 × hp_M} (fl : Nat)   (a0 : Nat) (k84 : hp_M → Option (Int32 × hp_M)) (C : Cx p m c cX13_teach 3 s args RX13 w) (hr : meth.sig.returnType = some .int) (hlk : meth.locks = false) (hnm : meth.name = "teach") (hQ : QM below w args s ({ frames := 138, cells := 9, slots := 1770, locals := 2899 }) (some .int) (some (.int out.1)) out.2 = Q) (hk84 : ∀ (hz : hp_M), J p l e ({ frames := 138, cells := 9, slots := 1770, locals := 2899 }) s m args below meth c Q w 3 9 1770 84 [(0, .ref a0)] [] hz (k84 hz) out) : ∀ (n : Nat) (x2 : Int32) (h : hp_M), J p l e ({ frames := 138, cells := 9, slots := 1770, locals := 2899 }) s m args below meth c Q w 3 9 1770 36 [(0, .ref a0), (2, .int x2)] [] h (f_Md_teach_b36 w fl a0 k84 n x2 h) out := by
  intro n
  induction n with
  | zero => intro x2 h; exact j_none
  | succ n ih =>
    intro x2 h
    rw [f_Md_teach_b36]
    refine j_iload_n C dX13_teach_36 (i := 2) rfl rfl ?_
    refine j_aload_n C dX13_teach_37 (i := 0) rfl rfl ?_
    refine j_getR C g_X13_35 dX13_teach_38 (fun v1018 ev1018 => ?_)
    refine j_getI C g_X13_57 dX13_teach_41 (fun v1019 ev1019 => ?_)
    refine j_icmpge C (tgt := 84) dX13_teach_44 (by decide) (fun q1020 => ?_) (fun q1020 => ?_)
    · exact j_sub [0] rfl (hk84 _)
    · refine j_aload_n C dX13_teach_47 (i := 0) rfl rfl ?_
      refine j_getR C g_X13_47 dX13_teach_48 (fun v1021 ev1021 => ?_)
      refine j_iload_n C dX13_teach_51 (i := 2) rfl rfl ?_
      refine j_aload_n C dX13_teach_52 (i := 0) rfl rfl ?_
      refine j_getR C g_X13_35 dX13_teach_53 (fun v1022 ev1022 => ?_)
      refine j_getR C g_X13_213 dX13_teach_56 (fun v1023 ev1023 => ?_)
      refine j_iconst C (v := 5) dX13_teach_59 (by decide) ?_
      refine j_iload_n C dX13_teach_60 (i := 2) rfl rfl ?_
      refine j_imul C dX13_teach_61 ?_
      refine j_iconst C (v := 2) dX13_teach_62 (by decide) ?_
      refine j_iadd C dX13_teach_63 ?_
      refine j_iaload C dX13_teach_64 (fun v1024 ev1024 => ?_)
      refine j_callVv C (As := [.int _, .int _]) (rest := []) k_X13_240 ⟨Nat.le_of_ble_eq_true rfl, Nat.le_of_ble_eq_true rfl⟩ rfl (Nat.le_of_ble_eq_true rfl) ⟨Nat.le_of_ble_eq_true rfl, Nat.le_of_ble_eq_true rfl⟩ rfl dX13_teach_65 (fun r0 q0 => c_St_set l w _ _ _ _ _ q0) (fun h1025 eh1025 _ => ?_)
      refine j_aload_n C dX13_teach_68 (i := 0) rfl rfl ?_
      refine j_getR C g_X13_47 dX13_teach_69 (fun v1026 ev1026 => ?_)
      refine j_getR C g_X13_244 dX13_teach_72 (fun v1027 ev1027 => ?_)
      refine j_iload_n C dX13_teach_75 (i := 2) rfl rfl ?_
      refine j_iconst C (v := 0) dX13_teach_76 (by decide) ?_
      refine j_iastore C dX13_teach_77 (fun h1028 eh1028 => ?_)
      refine j_iinc C (v := x2 + 1) [(2, _), (0, _)] dX13_teach_78 rfl rfl (by decide) rfl ?_
      refine j_goto C (tgt := 36) dX13_teach_81 (by decide) ?_
      exact j_sub [1, 0] rfl (ih _ _)
set_option maxRecDepth 100000 in
set_option maxHeartbeats 4000000 in
theorem b_Md_teach_86 {p : Program} {l : Launch} {e : Env} {s : State} {m : MethodId} {args : Array Value} {below : List Frame} {meth : Method} {c : Code} {Q : State → Prop} {w : hp_W} {out : Int32 × hp_M} (fl : Nat)   (a0 : Nat) (C : Cx p m c cX13_teach 3 s args RX13 w) (hr : meth.sig.returnType = some .int) (hlk : meth.locks = false) (hnm : meth.name = "teach") (hQ : QM below w args s ({ frames := 138, cells := 9, slots := 1770, locals := 2899 }) (some .int) (some (.int out.1)) out.2 = Q)  : ∀ (n : Nat) (x2 : Int32) (h : hp_M), J p l e ({ frames := 138, cells := 9, slots := 1770, locals := 2899 }) s m args below meth c Q w 3 9 1770 86 [(0, .ref a0), (2, .int x2)] [] h (f_Md_teach_b86 w fl a0 n x2 h) out := by
  intro n
  induction n with
  | zero => intro x2 h; exact j_none
  | succ n ih =>
    intro x2 h
    rw [f_Md_teach_b86]
    refine j_iload_n C dX13_teach_86 (i := 2) rfl rfl ?_
    refine j_bipush C (v := 12) dX13_teach_87 (by decide) ?_
    refine j_icmpge C (tgt := 108) dX13_teach_89 (by decide) (fun q1009 => ?_) (fun q1009 => ?_)
    · refine j_iconst C (v := 0) dX13_teach_108 (by decide) ?_
      exact e_iretM C hQ hr rfl hlk dX13_teach_109 (Nat.le_of_ble_eq_true rfl) (Nat.le_of_ble_eq_true rfl)
    · refine j_aload_n C dX13_teach_92 (i := 0) rfl rfl ?_
      refine j_getR C g_X13_47 dX13_teach_93 (fun v1010 ev1010 => ?_)
      refine j_getR C g_X13_247 dX13_teach_96 (fun v1011 ev1011 => ?_)
      refine j_iload_n C dX13_teach_99 (i := 2) rfl rfl ?_
      refine j_iconst C (v := 0) dX13_teach_100 (by decide) ?_
      refine j_iastore C dX13_teach_101 (fun h1012 eh1012 => ?_)
      refine j_iinc C (v := x2 + 1) [(2, _), (0, _)] dX13_teach_102 rfl rfl (by decide) rfl ?_
      refine j_goto C (tgt := 86) dX13_teach_105 (by decide) ?_
      exact j_sub [1, 0] rfl (ih _ _)
set_option maxRecDepth 100000 in
set_option maxHeartbeats 4000000 in
theorem c_Md_teach (l : Launch) (w : hp_W) (fl : Nat) (a0 : Nat) (h : hp_M) (out : Int32 × hp_M) (hX : f_Md_teach w fl a0 h = some out) : CT l w yX13_teach cX13_teach 3 (some .int) ({ frames := 138, cells := 9, slots := 1770, locals := 2899 }) [.ref a0] h (some (.int out.1)) out.2 := by
  unfold f_Md_teach at hX
  refine ct_of (by decide +kernel) (Nat.le_of_ble_eq_true rfl) hX ?_
  intro p e s m args below meth c Q C hr hlk hnm hQ
  refine j_aload_n C dX13_teach_0 (i := 0) rfl rfl ?_
  refine j_iconst C (v := 0) dX13_teach_1 (by decide) ?_
  refine j_putI C p_X13_54 (fun q => nomatch q) dX13_teach_2 (fun h1 eh1 => ?_)
  refine j_aload_n C dX13_teach_5 (i := 0) rfl rfl ?_
  refine j_iconst C (v := -1) dX13_teach_6 (by decide) ?_
  refine j_putI C p_X13_13 (fun q => nomatch q) dX13_teach_7 (fun h2 eh2 => ?_)
  refine j_aload_n C dX13_teach_10 (i := 0) rfl rfl ?_
  refine j_callVim C (As := []) (rest := []) k_X13_237 ⟨Nat.le_of_ble_eq_true rfl, Nat.le_of_ble_eq_true rfl⟩ rfl (Nat.le_of_ble_eq_true rfl) ⟨Nat.le_of_ble_eq_true rfl, Nat.le_of_ble_eq_true rfl⟩ rfl dX13_teach_11 (fun r0 q0 => c_Md_read l w fl _ _ _ q0) (fun r3 er3 nr3 => ?_)
  refine j_istore_n C [(1, _), (0, _)] dX13_teach_14 (i := 1) rfl (by decide) rfl ?_
  refine j_aload_n C dX13_teach_15 (i := 0) rfl rfl ?_
  refine j_iconst C (v := 0) dX13_teach_16 (by decide) ?_
  refine j_putI C p_X13_79 (fun q => nomatch q) dX13_teach_17 (fun h4 eh4 => ?_)
  refine j_iload_n C dX13_teach_20 (i := 1) rfl rfl ?_
  refine j_ifle C (tgt := 26) dX13_teach_21 (by decide) (fun q5 => ?_) (fun q5 => ?_)
  · refine j_aload_n C dX13_teach_26 (i := 0) rfl rfl ?_
    refine j_aload_n C dX13_teach_27 (i := 0) rfl rfl ?_
    refine j_getR C g_X13_39 dX13_teach_28 (fun v6 ev6 => ?_)
    refine j_putR C p_X13_35 (fun q => nomatch q) dX13_teach_31 rfl rfl (fun h7 eh7 => ?_)
    refine j_iconst C (v := 0) dX13_teach_34 (by decide) ?_
    refine j_istore_n C [(2, _), (1, _), (0, _)] dX13_teach_35 (i := 2) rfl (by decide) rfl ?_
    refine j_sub [2, 0] rfl (b_Md_teach_36 fl  _ _ C hr hlk hnm hQ (fun h8 => ?_) _ _ _)
    refine j_iconst C (v := 0) dX13_teach_84 (by decide) ?_
    refine j_istore_n C [(2, _), (0, _)] dX13_teach_85 (i := 2) rfl (by decide) rfl ?_
    refine j_sub [1, 0] rfl (b_Md_teach_86 fl  _ C hr hlk hnm hQ  _ _ _)
  · refine j_iload_n C dX13_teach_24 (i := 1) rfl rfl ?_
    exact e_iretM C hQ hr rfl hlk dX13_teach_25 (Nat.le_of_ble_eq_true rfl) (Nat.le_of_ble_eq_true rfl)
def f_Md_count (fl : Nat) (a0 : Nat) (x1 : Int32) (h : hp_M) : Option (Int32 × hp_M) := (pF h a0 12 0 (.int 0)).bind fun h1 => (f_Md_isIn x1 0 7 h1).bind fun r2 => if r2 = 0 then ((onO h1 a0 12 (f_Md_no a0 1 h1)).bind fun r4 => some (r4.1, r4.2)) else ((onO h1 a0 12 (f_Md_counted fl a0 x1 h1)).bind fun r5 => some (r5.1, r5.2))
set_option maxRecDepth 100000 in
set_option maxHeartbeats 4000000 in
theorem c_Md_count (l : Launch) (w : hp_W) (fl : Nat) (a0 : Nat) (x1 : Int32) (h : hp_M) (out : Int32 × hp_M) (hX : f_Md_count fl a0 x1 h = some out) : CT l w yX13_count cX13_count 2 (some .int) ({ frames := 10, cells := 1, slots := 8, locals := 293 }) [.ref a0, .int x1] h (some (.int out.1)) out.2 := by
  unfold f_Md_count at hX
  refine ct_of (by decide +kernel) (Nat.le_of_ble_eq_true rfl) hX ?_
  intro p e s m args below meth c Q C hr hlk hnm hQ
  refine j_aload_n C dX13_count_0 (i := 0) rfl rfl ?_
  refine j_iconst C (v := 0) dX13_count_1 (by decide) ?_
  refine j_putI C p_X13_54 (fun q => nomatch q) dX13_count_2 (fun h1 eh1 => ?_)
  refine j_iload_n C dX13_count_5 (i := 1) rfl rfl ?_
  refine j_iconst C (v := 0) dX13_count_6 (by decide) ?_
  refine j_bipush C (v := 7) dX13_count_7 (by decide) ?_
  refine j_callSi C (As := [.int _, .int _, .int _]) (rest := []) k_X13_60 ⟨Nat.le_of_ble_eq_true rfl, Nat.le_of_ble_eq_true rfl⟩ rfl (Nat.le_of_ble_eq_true rfl) ⟨Nat.le_of_ble_eq_true rfl, Nat.le_of_ble_eq_true rfl⟩ rfl dX13_count_9 (fun r0 q0 => c_Md_isIn l w _ _ _ _ _ q0) (fun r2 er2 nr2 => ?_)
  refine j_ifeq C (tgt := 23) dX13_count_12 (by decide) (fun q3 => ?_) (fun q3 => ?_)
  · refine j_aload_n C dX13_count_23 (i := 0) rfl rfl ?_
    refine j_iconst C (v := 1) dX13_count_24 (by decide) ?_
    refine j_callVim C (As := [.int _]) (rest := []) k_X13_234 ⟨Nat.le_of_ble_eq_true rfl, Nat.le_of_ble_eq_true rfl⟩ rfl (Nat.le_of_ble_eq_true rfl) ⟨Nat.le_of_ble_eq_true rfl, Nat.le_of_ble_eq_true rfl⟩ rfl dX13_count_25 (fun r0 q0 => c_Md_no l w _ _ _ _ q0) (fun r4 er4 nr4 => ?_)
    exact e_iretM C hQ hr rfl hlk dX13_count_28 (Nat.le_of_ble_eq_true rfl) (Nat.le_of_ble_eq_true rfl)
  · refine j_aload_n C dX13_count_15 (i := 0) rfl rfl ?_
    refine j_iload_n C dX13_count_16 (i := 1) rfl rfl ?_
    refine j_callVim C (As := [.int _]) (rest := []) k_X13_262 ⟨Nat.le_of_ble_eq_true rfl, Nat.le_of_ble_eq_true rfl⟩ rfl (Nat.le_of_ble_eq_true rfl) ⟨Nat.le_of_ble_eq_true rfl, Nat.le_of_ble_eq_true rfl⟩ rfl dX13_count_17 (fun r0 q0 => c_Md_counted l w fl _ _ _ _ q0) (fun r5 er5 nr5 => ?_)
    refine j_goto C (tgt := 28) dX13_count_20 (by decide) ?_
    exact e_iretM C hQ hr rfl hlk dX13_count_28 (Nat.le_of_ble_eq_true rfl) (Nat.le_of_ble_eq_true rfl)
def f_Md_planet (a0 : Nat) (x1 : Int32) (x2 : Int32) (h : hp_M) : Option (Int32 × hp_M) := jn (fun (h6 : hp_M) => (onO h6 a0 12 (f_Md_no a0 1 h6)).bind fun r7 => some (r7.1, r7.2)) fun (j5 : hp_M → Option (Int32 × hp_M)) => (pF h a0 12 0 (.int 0)).bind fun h8 => (onO h8 a0 12 (f_Md_isPlanet a0 x1 h8)).bind fun r9 => if r9 = 0 then (j5 h8) else ((f_Md_isIn x2 0 6 h8).bind fun r11 => if r11 = 0 then (j5 h8) else ((onO h8 a0 12 (f_Md_planetTold a0 x1 x2 h8)).bind fun r13 => some (r13.1, r13.2)))
set_option maxRecDepth 100000 in
set_option maxHeartbeats 4000000 in
theorem c_Md_planet (l : Launch) (w : hp_W) (a0 : Nat) (x1 : Int32) (x2 : Int32) (h : hp_M) (out : Int32 × hp_M) (hX : f_Md_planet a0 x1 x2 h = some out) : CT l w yX13_planet cX13_planet 3 (some .int) ({ frames := 2, cells := 1, slots := 7, locals := 44 }) [.ref a0, .int x1, .int x2] h (some (.int out.1)) out.2 := by
  unfold f_Md_planet at hX
  refine ct_of (by decide +kernel) (Nat.le_of_ble_eq_true rfl) hX ?_
  intro p e s m args below meth c Q C hr hlk hnm hQ
  refine j_jn (P := fun (j5 : hp_M → Option (Int32 × hp_M)) => ∀ (h6 : hp_M), J p l e ({ frames := 2, cells := 1, slots := 7, locals := 44 }) s m args below meth c Q w 3 0 0 32 [(0, .ref a0)] [] h6 (j5 h6) out) ?_ (fun j5 hj5 => ?_)
  · intro h6
    refine j_aload_n C dX13_planet_32 (i := 0) rfl rfl ?_
    refine j_iconst C (v := 1) dX13_planet_33 (by decide) ?_
    refine j_callVim C (As := [.int _]) (rest := []) k_X13_234 ⟨Nat.le_of_ble_eq_true rfl, Nat.le_of_ble_eq_true rfl⟩ rfl (Nat.le_of_ble_eq_true rfl) ⟨Nat.le_of_ble_eq_true rfl, Nat.le_of_ble_eq_true rfl⟩ rfl dX13_planet_34 (fun r0 q0 => c_Md_no l w _ _ _ _ q0) (fun r7 er7 nr7 => ?_)
    exact e_iretM C hQ hr rfl hlk dX13_planet_37 (Nat.le_of_ble_eq_true rfl) (Nat.le_of_ble_eq_true rfl)
  · refine j_aload_n C dX13_planet_0 (i := 0) rfl rfl ?_
    refine j_iconst C (v := 0) dX13_planet_1 (by decide) ?_
    refine j_putI C p_X13_54 (fun q => nomatch q) dX13_planet_2 (fun h8 eh8 => ?_)
    refine j_aload_n C dX13_planet_5 (i := 0) rfl rfl ?_
    refine j_iload_n C dX13_planet_6 (i := 1) rfl rfl ?_
    refine j_callVi C (As := [.int _]) (rest := []) k_X13_268 ⟨Nat.le_of_ble_eq_true rfl, Nat.le_of_ble_eq_true rfl⟩ rfl (Nat.le_of_ble_eq_true rfl) ⟨Nat.le_of_ble_eq_true rfl, Nat.le_of_ble_eq_true rfl⟩ rfl dX13_planet_7 (fun r0 q0 => c_Md_isPlanet l w _ _ _ _ q0) (fun r9 er9 nr9 => ?_)
    refine j_ifeq C (tgt := 32) dX13_planet_10 (by decide) (fun q10 => ?_) (fun q10 => ?_)
    · exact j_sub [0] rfl (hj5 _)
    · refine j_iload_n C dX13_planet_13 (i := 2) rfl rfl ?_
      refine j_iconst C (v := 0) dX13_planet_14 (by decide) ?_
      refine j_bipush C (v := 6) dX13_planet_15 (by decide) ?_
      refine j_callSi C (As := [.int _, .int _, .int _]) (rest := []) k_X13_60 ⟨Nat.le_of_ble_eq_true rfl, Nat.le_of_ble_eq_true rfl⟩ rfl (Nat.le_of_ble_eq_true rfl) ⟨Nat.le_of_ble_eq_true rfl, Nat.le_of_ble_eq_true rfl⟩ rfl dX13_planet_17 (fun r0 q0 => c_Md_isIn l w _ _ _ _ _ q0) (fun r11 er11 nr11 => ?_)
      refine j_ifeq C (tgt := 32) dX13_planet_20 (by decide) (fun q12 => ?_) (fun q12 => ?_)
      · exact j_sub [0] rfl (hj5 _)
      · refine j_aload_n C dX13_planet_23 (i := 0) rfl rfl ?_
        refine j_iload_n C dX13_planet_24 (i := 1) rfl rfl ?_
        refine j_iload_n C dX13_planet_25 (i := 2) rfl rfl ?_
        refine j_callVim C (As := [.int _, .int _]) (rest := []) k_X13_271 ⟨Nat.le_of_ble_eq_true rfl, Nat.le_of_ble_eq_true rfl⟩ rfl (Nat.le_of_ble_eq_true rfl) ⟨Nat.le_of_ble_eq_true rfl, Nat.le_of_ble_eq_true rfl⟩ rfl dX13_planet_26 (fun r0 q0 => c_Md_planetTold l w _ _ _ _ _ q0) (fun r13 er13 nr13 => ?_)
        refine j_goto C (tgt := 37) dX13_planet_29 (by decide) ?_
        exact e_iretM C hQ hr rfl hlk dX13_planet_37 (Nat.le_of_ble_eq_true rfl) (Nat.le_of_ble_eq_true rfl)
def f_Md_set (a0 : Nat) (x1 : Int32) (x2 : Int32) (h : hp_M) : Option (Int32 × hp_M) := (pF h a0 12 0 (.int 0)).bind fun h1 => (onO h1 a0 12 (f_Md_isPlanet a0 x1 h1)).bind fun r2 => if r2 = 0 then ((onO h1 a0 12 (f_Md_no a0 1 h1)).bind fun r4 => some (r4.1, r4.2)) else ((f_Md_isIn x2 0 359 h1).bind fun r5 => if r5 = 0 then ((onO h1 a0 12 (f_Md_no a0 2 h1)).bind fun r7 => some (r7.1, r7.2)) else ((gR h1 a0 12 13).bind fun v8 => (gR h1 v8 10 1).bind fun v9 => (gaI h1 v9 x1).bind fun v10 => (gR h1 a0 12 13).bind fun v11 => (onO h1 v11 10 (f_St_set v11 x1 x2 h1)).bind fun h12 => some (v10, h12)))
set_option maxRecDepth 100000 in
set_option maxHeartbeats 4000000 in
theorem c_Md_set (l : Launch) (w : hp_W) (a0 : Nat) (x1 : Int32) (x2 : Int32) (h : hp_M) (out : Int32 × hp_M) (hX : f_Md_set a0 x1 x2 h = some out) : CT l w yX13_set cX13_set 4 (some .int) ({ frames := 2, cells := 0, slots := 0, locals := 43 }) [.ref a0, .int x1, .int x2] h (some (.int out.1)) out.2 := by
  unfold f_Md_set at hX
  refine ct_of (by decide +kernel) (Nat.le_of_ble_eq_true rfl) hX ?_
  intro p e s m args below meth c Q C hr hlk hnm hQ
  refine j_aload_n C dX13_set_0 (i := 0) rfl rfl ?_
  refine j_iconst C (v := 0) dX13_set_1 (by decide) ?_
  refine j_putI C p_X13_54 (fun q => nomatch q) dX13_set_2 (fun h1 eh1 => ?_)
  refine j_aload_n C dX13_set_5 (i := 0) rfl rfl ?_
  refine j_iload_n C dX13_set_6 (i := 1) rfl rfl ?_
  refine j_callVi C (As := [.int _]) (rest := []) k_X13_268 ⟨Nat.le_of_ble_eq_true rfl, Nat.le_of_ble_eq_true rfl⟩ rfl (Nat.le_of_ble_eq_true rfl) ⟨Nat.le_of_ble_eq_true rfl, Nat.le_of_ble_eq_true rfl⟩ rfl dX13_set_7 (fun r0 q0 => c_Md_isPlanet l w _ _ _ _ q0) (fun r2 er2 nr2 => ?_)
  refine j_ifne C (tgt := 19) dX13_set_10 (by decide) (fun q3 => ?_) (fun q3 => ?_)
  · refine j_aload_n C dX13_set_13 (i := 0) rfl rfl ?_
    refine j_iconst C (v := 1) dX13_set_14 (by decide) ?_
    refine j_callVim C (As := [.int _]) (rest := []) k_X13_234 ⟨Nat.le_of_ble_eq_true rfl, Nat.le_of_ble_eq_true rfl⟩ rfl (Nat.le_of_ble_eq_true rfl) ⟨Nat.le_of_ble_eq_true rfl, Nat.le_of_ble_eq_true rfl⟩ rfl dX13_set_15 (fun r0 q0 => c_Md_no l w _ _ _ _ q0) (fun r4 er4 nr4 => ?_)
    exact e_iretM C hQ hr rfl hlk dX13_set_18 (Nat.le_of_ble_eq_true rfl) (Nat.le_of_ble_eq_true rfl)
  · refine j_iload_n C dX13_set_19 (i := 2) rfl rfl ?_
    refine j_iconst C (v := 0) dX13_set_20 (by decide) ?_
    refine j_sipush C (v := 359) dX13_set_21 (by decide) ?_
    refine j_callSi C (As := [.int _, .int _, .int _]) (rest := []) k_X13_60 ⟨Nat.le_of_ble_eq_true rfl, Nat.le_of_ble_eq_true rfl⟩ rfl (Nat.le_of_ble_eq_true rfl) ⟨Nat.le_of_ble_eq_true rfl, Nat.le_of_ble_eq_true rfl⟩ rfl dX13_set_24 (fun r0 q0 => c_Md_isIn l w _ _ _ _ _ q0) (fun r5 er5 nr5 => ?_)
    refine j_ifne C (tgt := 36) dX13_set_27 (by decide) (fun q6 => ?_) (fun q6 => ?_)
    · refine j_aload_n C dX13_set_30 (i := 0) rfl rfl ?_
      refine j_iconst C (v := 2) dX13_set_31 (by decide) ?_
      refine j_callVim C (As := [.int _]) (rest := []) k_X13_234 ⟨Nat.le_of_ble_eq_true rfl, Nat.le_of_ble_eq_true rfl⟩ rfl (Nat.le_of_ble_eq_true rfl) ⟨Nat.le_of_ble_eq_true rfl, Nat.le_of_ble_eq_true rfl⟩ rfl dX13_set_32 (fun r0 q0 => c_Md_no l w _ _ _ _ q0) (fun r7 er7 nr7 => ?_)
      exact e_iretM C hQ hr rfl hlk dX13_set_35 (Nat.le_of_ble_eq_true rfl) (Nat.le_of_ble_eq_true rfl)
    · refine j_aload_n C dX13_set_36 (i := 0) rfl rfl ?_
      refine j_getR C g_X13_47 dX13_set_37 (fun v8 ev8 => ?_)
      refine j_getR C g_X13_265 dX13_set_40 (fun v9 ev9 => ?_)
      refine j_iload_n C dX13_set_43 (i := 1) rfl rfl ?_
      refine j_iaload C dX13_set_44 (fun v10 ev10 => ?_)
      refine j_istore_n C [(3, _), (0, _), (1, _), (2, _)] dX13_set_45 (i := 3) rfl (by decide) rfl ?_
      refine j_aload_n C dX13_set_46 (i := 0) rfl rfl ?_
      refine j_getR C g_X13_47 dX13_set_47 (fun v11 ev11 => ?_)
      refine j_iload_n C dX13_set_50 (i := 1) rfl rfl ?_
      refine j_iload_n C dX13_set_51 (i := 2) rfl rfl ?_
      refine j_callVv C (As := [.int _, .int _]) (rest := []) k_X13_240 ⟨Nat.le_of_ble_eq_true rfl, Nat.le_of_ble_eq_true rfl⟩ rfl (Nat.le_of_ble_eq_true rfl) ⟨Nat.le_of_ble_eq_true rfl, Nat.le_of_ble_eq_true rfl⟩ rfl dX13_set_52 (fun r0 q0 => c_St_set l w _ _ _ _ _ q0) (fun h12 eh12 _ => ?_)
      refine j_iload_n C dX13_set_55 (i := 3) rfl rfl ?_
      exact e_iretM C hQ hr rfl hlk dX13_set_56 (Nat.le_of_ble_eq_true rfl) (Nat.le_of_ble_eq_true rfl)
def f_Md_gap (a0 : Nat) (x1 : Int32) (x2 : Int32) (h : hp_M) : Option (Int32 × hp_M) := jn (fun (h12 : hp_M) => (onO h12 a0 12 (f_Md_no a0 1 h12)).bind fun r13 => some (r13.1, r13.2)) fun (j11 : hp_M → Option (Int32 × hp_M)) => (pF h a0 12 0 (.int 0)).bind fun h14 => (onO h14 a0 12 (f_Md_isPlanet a0 x1 h14)).bind fun r15 => if r15 = 0 then (j11 h14) else ((onO h14 a0 12 (f_Md_isPlanet a0 x2 h14)).bind fun r17 => if r17 = 0 then (j11 h14) else ((gR h14 a0 12 13).bind fun v19 => (gR h14 v19 10 1).bind fun v20 => (gaI h14 v20 x1).bind fun v21 => (gR h14 a0 12 13).bind fun v22 => (gR h14 v22 10 1).bind fun v23 => (gaI h14 v23 x2).bind fun v24 => (f_Md_gapOf v21 v24 h14).bind fun r25 => some (r25, h14)))
set_option maxRecDepth 100000 in
set_option maxHeartbeats 4000000 in
theorem c_Md_gap (l : Launch) (w : hp_W) (a0 : Nat) (x1 : Int32) (x2 : Int32) (h : hp_M) (out : Int32 × hp_M) (hX : f_Md_gap a0 x1 x2 h = some out) : CT l w yX13_gap cX13_gap 3 (some .int) ({ frames := 7, cells := 0, slots := 0, locals := 222 }) [.ref a0, .int x1, .int x2] h (some (.int out.1)) out.2 := by
  unfold f_Md_gap at hX
  refine ct_of (by decide +kernel) (Nat.le_of_ble_eq_true rfl) hX ?_
  intro p e s m args below meth c Q C hr hlk hnm hQ
  refine j_jn (P := fun (j11 : hp_M → Option (Int32 × hp_M)) => ∀ (h12 : hp_M), J p l e ({ frames := 7, cells := 0, slots := 0, locals := 222 }) s m args below meth c Q w 3 0 0 45 [(0, .ref a0)] [] h12 (j11 h12) out) ?_ (fun j11 hj11 => ?_)
  · intro h12
    refine j_aload_n C dX13_gap_45 (i := 0) rfl rfl ?_
    refine j_iconst C (v := 1) dX13_gap_46 (by decide) ?_
    refine j_callVim C (As := [.int _]) (rest := []) k_X13_234 ⟨Nat.le_of_ble_eq_true rfl, Nat.le_of_ble_eq_true rfl⟩ rfl (Nat.le_of_ble_eq_true rfl) ⟨Nat.le_of_ble_eq_true rfl, Nat.le_of_ble_eq_true rfl⟩ rfl dX13_gap_47 (fun r0 q0 => c_Md_no l w _ _ _ _ q0) (fun r13 er13 nr13 => ?_)
    exact e_iretM C hQ hr rfl hlk dX13_gap_50 (Nat.le_of_ble_eq_true rfl) (Nat.le_of_ble_eq_true rfl)
  · refine j_aload_n C dX13_gap_0 (i := 0) rfl rfl ?_
    refine j_iconst C (v := 0) dX13_gap_1 (by decide) ?_
    refine j_putI C p_X13_54 (fun q => nomatch q) dX13_gap_2 (fun h14 eh14 => ?_)
    refine j_aload_n C dX13_gap_5 (i := 0) rfl rfl ?_
    refine j_iload_n C dX13_gap_6 (i := 1) rfl rfl ?_
    refine j_callVi C (As := [.int _]) (rest := []) k_X13_268 ⟨Nat.le_of_ble_eq_true rfl, Nat.le_of_ble_eq_true rfl⟩ rfl (Nat.le_of_ble_eq_true rfl) ⟨Nat.le_of_ble_eq_true rfl, Nat.le_of_ble_eq_true rfl⟩ rfl dX13_gap_7 (fun r0 q0 => c_Md_isPlanet l w _ _ _ _ q0) (fun r15 er15 nr15 => ?_)
    refine j_ifeq C (tgt := 45) dX13_gap_10 (by decide) (fun q16 => ?_) (fun q16 => ?_)
    · exact j_sub [0] rfl (hj11 _)
    · refine j_aload_n C dX13_gap_13 (i := 0) rfl rfl ?_
      refine j_iload_n C dX13_gap_14 (i := 2) rfl rfl ?_
      refine j_callVi C (As := [.int _]) (rest := []) k_X13_268 ⟨Nat.le_of_ble_eq_true rfl, Nat.le_of_ble_eq_true rfl⟩ rfl (Nat.le_of_ble_eq_true rfl) ⟨Nat.le_of_ble_eq_true rfl, Nat.le_of_ble_eq_true rfl⟩ rfl dX13_gap_15 (fun r0 q0 => c_Md_isPlanet l w _ _ _ _ q0) (fun r17 er17 nr17 => ?_)
      refine j_ifeq C (tgt := 45) dX13_gap_18 (by decide) (fun q18 => ?_) (fun q18 => ?_)
      · exact j_sub [0] rfl (hj11 _)
      · refine j_aload_n C dX13_gap_21 (i := 0) rfl rfl ?_
        refine j_getR C g_X13_47 dX13_gap_22 (fun v19 ev19 => ?_)
        refine j_getR C g_X13_265 dX13_gap_25 (fun v20 ev20 => ?_)
        refine j_iload_n C dX13_gap_28 (i := 1) rfl rfl ?_
        refine j_iaload C dX13_gap_29 (fun v21 ev21 => ?_)
        refine j_aload_n C dX13_gap_30 (i := 0) rfl rfl ?_
        refine j_getR C g_X13_47 dX13_gap_31 (fun v22 ev22 => ?_)
        refine j_getR C g_X13_265 dX13_gap_34 (fun v23 ev23 => ?_)
        refine j_iload_n C dX13_gap_37 (i := 2) rfl rfl ?_
        refine j_iaload C dX13_gap_38 (fun v24 ev24 => ?_)
        refine j_callSi C (As := [.int _, .int _]) (rest := []) k_X13_274 ⟨Nat.le_of_ble_eq_true rfl, Nat.le_of_ble_eq_true rfl⟩ rfl (Nat.le_of_ble_eq_true rfl) ⟨Nat.le_of_ble_eq_true rfl, Nat.le_of_ble_eq_true rfl⟩ rfl dX13_gap_39 (fun r0 q0 => c_Md_gapOf l w _ _ _ _ q0) (fun r25 er25 nr25 => ?_)
        refine j_goto C (tgt := 50) dX13_gap_42 (by decide) ?_
        exact e_iretM C hQ hr rfl hlk dX13_gap_50 (Nat.le_of_ble_eq_true rfl) (Nat.le_of_ble_eq_true rfl)
def f_Md_meets (a0 : Nat) (x1 : Int32) (x2 : Int32) (x3 : Int32) (h : hp_M) : Option (Int32 × hp_M) := jn (fun (h7 : hp_M) => (onO h7 a0 12 (f_Md_no a0 1 h7)).bind fun r8 => if r8.1 = 0 then (some (0, r8.2)) else (some (1, r8.2))) fun (j6 : hp_M → Option (Int32 × hp_M)) => (pF h a0 12 0 (.int 0)).bind fun h10 => (onO h10 a0 12 (f_Md_isPlanet a0 x1 h10)).bind fun r11 => if r11 = 0 then (j6 h10) else ((onO h10 a0 12 (f_Md_isPlanet a0 x2 h10)).bind fun r13 => if r13 = 0 then (j6 h10) else (jn (fun (u17 : Int32) (u18 : Int32) (u19 : Int32) (u20 : Nat) => (onO h10 u20 10 (f_St_meets u20 u19 u18 u17 h10)).bind fun r21 => some (r21, h10)) fun (j16 : Int32 → Int32 → Int32 → Nat → Option (Int32 × hp_M)) => (gR h10 a0 12 13).bind fun v22 => if x3 = 0 then (j16 0 x2 x1 v22) else (j16 180 x2 x1 v22)))
set_option maxRecDepth 100000 in
set_option maxHeartbeats 4000000 in
theorem c_Md_meets (l : Launch) (w : hp_W) (a0 : Nat) (x1 : Int32) (x2 : Int32) (x3 : Int32) (h : hp_M) (out : Int32 × hp_M) (hX : f_Md_meets a0 x1 x2 x3 h = some out) : CT l w yX13_meets cX13_meets 4 (some .boolean) ({ frames := 8, cells := 0, slots := 0, locals := 247 }) [.ref a0, .int x1, .int x2, .int x3] h (some (.int out.1)) out.2 := by
  unfold f_Md_meets at hX
  refine ct_of (by decide +kernel) (Nat.le_of_ble_eq_true rfl) hX ?_
  intro p e s m args below meth c Q C hr hlk hnm hQ
  refine j_jn (P := fun (j6 : hp_M → Option (Int32 × hp_M)) => ∀ (h7 : hp_M), J p l e ({ frames := 8, cells := 0, slots := 0, locals := 247 }) s m args below meth c Q w 4 0 0 44 [(0, .ref a0)] [] h7 (j6 h7) out) ?_ (fun j6 hj6 => ?_)
  · intro h7
    refine j_aload_n C dX13_meets_44 (i := 0) rfl rfl ?_
    refine j_iconst C (v := 1) dX13_meets_45 (by decide) ?_
    refine j_callVim C (As := [.int _]) (rest := []) k_X13_234 ⟨Nat.le_of_ble_eq_true rfl, Nat.le_of_ble_eq_true rfl⟩ rfl (Nat.le_of_ble_eq_true rfl) ⟨Nat.le_of_ble_eq_true rfl, Nat.le_of_ble_eq_true rfl⟩ rfl dX13_meets_46 (fun r0 q0 => c_Md_no l w _ _ _ _ q0) (fun r8 er8 nr8 => ?_)
    refine j_ifeq C (tgt := 56) dX13_meets_49 (by decide) (fun q9 => ?_) (fun q9 => ?_)
    · refine j_iconst C (v := 0) dX13_meets_56 (by decide) ?_
      exact e_iretM C hQ hr rfl hlk dX13_meets_57 (Nat.le_of_ble_eq_true rfl) (Nat.le_of_ble_eq_true rfl)
    · refine j_iconst C (v := 1) dX13_meets_52 (by decide) ?_
      refine j_goto C (tgt := 57) dX13_meets_53 (by decide) ?_
      exact e_iretM C hQ hr rfl hlk dX13_meets_57 (Nat.le_of_ble_eq_true rfl) (Nat.le_of_ble_eq_true rfl)
  · refine j_aload_n C dX13_meets_0 (i := 0) rfl rfl ?_
    refine j_iconst C (v := 0) dX13_meets_1 (by decide) ?_
    refine j_putI C p_X13_54 (fun q => nomatch q) dX13_meets_2 (fun h10 eh10 => ?_)
    refine j_aload_n C dX13_meets_5 (i := 0) rfl rfl ?_
    refine j_iload_n C dX13_meets_6 (i := 1) rfl rfl ?_
    refine j_callVi C (As := [.int _]) (rest := []) k_X13_268 ⟨Nat.le_of_ble_eq_true rfl, Nat.le_of_ble_eq_true rfl⟩ rfl (Nat.le_of_ble_eq_true rfl) ⟨Nat.le_of_ble_eq_true rfl, Nat.le_of_ble_eq_true rfl⟩ rfl dX13_meets_7 (fun r0 q0 => c_Md_isPlanet l w _ _ _ _ q0) (fun r11 er11 nr11 => ?_)
    refine j_ifeq C (tgt := 44) dX13_meets_10 (by decide) (fun q12 => ?_) (fun q12 => ?_)
    · exact j_sub [0] rfl (hj6 _)
    · refine j_aload_n C dX13_meets_13 (i := 0) rfl rfl ?_
      refine j_iload_n C dX13_meets_14 (i := 2) rfl rfl ?_
      refine j_callVi C (As := [.int _]) (rest := []) k_X13_268 ⟨Nat.le_of_ble_eq_true rfl, Nat.le_of_ble_eq_true rfl⟩ rfl (Nat.le_of_ble_eq_true rfl) ⟨Nat.le_of_ble_eq_true rfl, Nat.le_of_ble_eq_true rfl⟩ rfl dX13_meets_15 (fun r0 q0 => c_Md_isPlanet l w _ _ _ _ q0) (fun r13 er13 nr13 => ?_)
      refine j_ifeq C (tgt := 44) dX13_meets_18 (by decide) (fun q14 => ?_) (fun q14 => ?_)
      · exact j_sub [0] rfl (hj6 _)
      · refine j_jn (P := fun (j16 : Int32 → Int32 → Int32 → Nat → Option (Int32 × hp_M)) => ∀ (u17 : Int32) (u18 : Int32) (u19 : Int32) (u20 : Nat), J p l e ({ frames := 8, cells := 0, slots := 0, locals := 247 }) s m args below meth c Q w 4 0 0 38 [] [.int u17, .int u18, .int u19, .ref u20] h10 (j16 u17 u18 u19 u20) out) ?_ (fun j16 hj16 => ?_)
        · intro u17 u18 u19 u20
          refine j_callVi C (As := [.int _, .int _, .int _]) (rest := []) k_X13_277 ⟨Nat.le_of_ble_eq_true rfl, Nat.le_of_ble_eq_true rfl⟩ rfl (Nat.le_of_ble_eq_true rfl) ⟨Nat.le_of_ble_eq_true rfl, Nat.le_of_ble_eq_true rfl⟩ rfl dX13_meets_38 (fun r0 q0 => c_St_meets l w _ _ _ _ _ _ q0) (fun r21 er21 nr21 => ?_)
          refine j_goto C (tgt := 57) dX13_meets_41 (by decide) ?_
          exact e_iretM C hQ hr (nr21 _ _ rfl rfl) hlk dX13_meets_57 (Nat.le_of_ble_eq_true rfl) (Nat.le_of_ble_eq_true rfl)
        · refine j_aload_n C dX13_meets_21 (i := 0) rfl rfl ?_
          refine j_getR C g_X13_47 dX13_meets_22 (fun v22 ev22 => ?_)
          refine j_iload_n C dX13_meets_25 (i := 1) rfl rfl ?_
          refine j_iload_n C dX13_meets_26 (i := 2) rfl rfl ?_
          refine j_iload_n C dX13_meets_27 (i := 3) rfl rfl ?_
          refine j_ifeq C (tgt := 37) dX13_meets_28 (by decide) (fun q23 => ?_) (fun q23 => ?_)
          · refine j_iconst C (v := 0) dX13_meets_37 (by decide) ?_
            exact j_sub [] rfl (hj16 _ _ _ _)
          · refine j_sipush C (v := 180) dX13_meets_31 (by decide) ?_
            refine j_goto C (tgt := 38) dX13_meets_34 (by decide) ?_
            exact j_sub [] rfl (hj16 _ _ _ _)
def f_Md_letter (a0 : Nat) (x1 : Int32) (x2 : Int32) (h : hp_M) : Option (Int32 × hp_M) := jn (fun (h11 : hp_M) => (onO h11 a0 12 (f_Md_no a0 1 h11)).bind fun r12 => some (r12.1, r12.2)) fun (j10 : hp_M → Option (Int32 × hp_M)) => (pF h a0 12 0 (.int 0)).bind fun h13 => (onO h13 a0 12 (f_Md_isAlphabet a0 x1 h13)).bind fun r14 => if r14 = 0 then (j10 h13) else ((gR h13 a0 12 11).bind fun v16 => (gR h13 v16 11 3).bind fun v17 => (gaI h13 v17 x1).bind fun v18 => (f_Md_isIn x2 0 (v18 - 1) h13).bind fun r19 => if r19 = 0 then (j10 h13) else ((gR h13 a0 12 11).bind fun v21 => (gR h13 v21 11 4).bind fun v22 => (gaI h13 v22 ((12 * x1) + x2)).bind fun v23 => some (v23, h13)))
set_option maxRecDepth 100000 in
set_option maxHeartbeats 4000000 in
theorem c_Md_letter (l : Launch) (w : hp_W) (a0 : Nat) (x1 : Int32) (x2 : Int32) (h : hp_M) (out : Int32 × hp_M) (hX : f_Md_letter a0 x1 x2 h = some out) : CT l w yX13_letter cX13_letter 3 (some .int) ({ frames := 2, cells := 0, slots := 0, locals := 43 }) [.ref a0, .int x1, .int x2] h (some (.int out.1)) out.2 := by
  unfold f_Md_letter at hX
  refine ct_of (by decide +kernel) (Nat.le_of_ble_eq_true rfl) hX ?_
  intro p e s m args below meth c Q C hr hlk hnm hQ
  refine j_jn (P := fun (j10 : hp_M → Option (Int32 × hp_M)) => ∀ (h11 : hp_M), J p l e ({ frames := 2, cells := 0, slots := 0, locals := 43 }) s m args below meth c Q w 3 0 0 49 [(0, .ref a0)] [] h11 (j10 h11) out) ?_ (fun j10 hj10 => ?_)
  · intro h11
    refine j_aload_n C dX13_letter_49 (i := 0) rfl rfl ?_
    refine j_iconst C (v := 1) dX13_letter_50 (by decide) ?_
    refine j_callVim C (As := [.int _]) (rest := []) k_X13_234 ⟨Nat.le_of_ble_eq_true rfl, Nat.le_of_ble_eq_true rfl⟩ rfl (Nat.le_of_ble_eq_true rfl) ⟨Nat.le_of_ble_eq_true rfl, Nat.le_of_ble_eq_true rfl⟩ rfl dX13_letter_51 (fun r0 q0 => c_Md_no l w _ _ _ _ q0) (fun r12 er12 nr12 => ?_)
    exact e_iretM C hQ hr rfl hlk dX13_letter_54 (Nat.le_of_ble_eq_true rfl) (Nat.le_of_ble_eq_true rfl)
  · refine j_aload_n C dX13_letter_0 (i := 0) rfl rfl ?_
    refine j_iconst C (v := 0) dX13_letter_1 (by decide) ?_
    refine j_putI C p_X13_54 (fun q => nomatch q) dX13_letter_2 (fun h13 eh13 => ?_)
    refine j_aload_n C dX13_letter_5 (i := 0) rfl rfl ?_
    refine j_iload_n C dX13_letter_6 (i := 1) rfl rfl ?_
    refine j_callVi C (As := [.int _]) (rest := []) k_X13_280 ⟨Nat.le_of_ble_eq_true rfl, Nat.le_of_ble_eq_true rfl⟩ rfl (Nat.le_of_ble_eq_true rfl) ⟨Nat.le_of_ble_eq_true rfl, Nat.le_of_ble_eq_true rfl⟩ rfl dX13_letter_7 (fun r0 q0 => c_Md_isAlphabet l w _ _ _ _ q0) (fun r14 er14 nr14 => ?_)
    refine j_ifeq C (tgt := 49) dX13_letter_10 (by decide) (fun q15 => ?_) (fun q15 => ?_)
    · exact j_sub [0] rfl (hj10 _)
    · refine j_iload_n C dX13_letter_13 (i := 2) rfl rfl ?_
      refine j_iconst C (v := 0) dX13_letter_14 (by decide) ?_
      refine j_aload_n C dX13_letter_15 (i := 0) rfl rfl ?_
      refine j_getR C g_X13_35 dX13_letter_16 (fun v16 ev16 => ?_)
      refine j_getR C g_X13_219 dX13_letter_19 (fun v17 ev17 => ?_)
      refine j_iload_n C dX13_letter_22 (i := 1) rfl rfl ?_
      refine j_iaload C dX13_letter_23 (fun v18 ev18 => ?_)
      refine j_iconst C (v := 1) dX13_letter_24 (by decide) ?_
      refine j_isub C dX13_letter_25 ?_
      refine j_callSi C (As := [.int _, .int _, .int _]) (rest := []) k_X13_60 ⟨Nat.le_of_ble_eq_true rfl, Nat.le_of_ble_eq_true rfl⟩ rfl (Nat.le_of_ble_eq_true rfl) ⟨Nat.le_of_ble_eq_true rfl, Nat.le_of_ble_eq_true rfl⟩ rfl dX13_letter_26 (fun r0 q0 => c_Md_isIn l w _ _ _ _ _ q0) (fun r19 er19 nr19 => ?_)
      refine j_ifeq C (tgt := 49) dX13_letter_29 (by decide) (fun q20 => ?_) (fun q20 => ?_)
      · exact j_sub [0] rfl (hj10 _)
      · refine j_aload_n C dX13_letter_32 (i := 0) rfl rfl ?_
        refine j_getR C g_X13_35 dX13_letter_33 (fun v21 ev21 => ?_)
        refine j_getR C g_X13_222 dX13_letter_36 (fun v22 ev22 => ?_)
        refine j_bipush C (v := 12) dX13_letter_39 (by decide) ?_
        refine j_iload_n C dX13_letter_41 (i := 1) rfl rfl ?_
        refine j_imul C dX13_letter_42 ?_
        refine j_iload_n C dX13_letter_43 (i := 2) rfl rfl ?_
        refine j_iadd C dX13_letter_44 ?_
        refine j_iaload C dX13_letter_45 (fun v23 ev23 => ?_)
        refine j_goto C (tgt := 54) dX13_letter_46 (by decide) ?_
        exact e_iretM C hQ hr rfl hlk dX13_letter_54 (Nat.le_of_ble_eq_true rfl) (Nat.le_of_ble_eq_true rfl)
def f_Md_wrote (a0 : Nat) (x1 : Int32) (h : hp_M) : Option (Int32 × hp_M) := (pF h a0 12 0 (.int 0)).bind fun h1 => (gR h1 a0 12 11).bind fun v2 => (gI h1 v2 11 5).bind fun v3 => (f_Md_isIn x1 0 (v3 - 1) h1).bind fun r4 => if r4 = 0 then ((onO h1 a0 12 (f_Md_no a0 1 h1)).bind fun r6 => some (r6.1, r6.2)) else ((gR h1 a0 12 13).bind fun v7 => (gR h1 v7 10 4).bind fun v8 => (gaI h1 v8 x1).bind fun v9 => some (v9, h1))
set_option maxRecDepth 100000 in
set_option maxHeartbeats 4000000 in
theorem c_Md_wrote (l : Launch) (w : hp_W) (a0 : Nat) (x1 : Int32) (h : hp_M) (out : Int32 × hp_M) (hX : f_Md_wrote a0 x1 h = some out) : CT l w yX13_wrote cX13_wrote 2 (some .int) ({ frames := 1, cells := 0, slots := 0, locals := 22 }) [.ref a0, .int x1] h (some (.int out.1)) out.2 := by
  unfold f_Md_wrote at hX
  refine ct_of (by decide +kernel) (Nat.le_of_ble_eq_true rfl) hX ?_
  intro p e s m args below meth c Q C hr hlk hnm hQ
  refine j_aload_n C dX13_wrote_0 (i := 0) rfl rfl ?_
  refine j_iconst C (v := 0) dX13_wrote_1 (by decide) ?_
  refine j_putI C p_X13_54 (fun q => nomatch q) dX13_wrote_2 (fun h1 eh1 => ?_)
  refine j_iload_n C dX13_wrote_5 (i := 1) rfl rfl ?_
  refine j_iconst C (v := 0) dX13_wrote_6 (by decide) ?_
  refine j_aload_n C dX13_wrote_7 (i := 0) rfl rfl ?_
  refine j_getR C g_X13_35 dX13_wrote_8 (fun v2 ev2 => ?_)
  refine j_getI C g_X13_155 dX13_wrote_11 (fun v3 ev3 => ?_)
  refine j_iconst C (v := 1) dX13_wrote_14 (by decide) ?_
  refine j_isub C dX13_wrote_15 ?_
  refine j_callSi C (As := [.int _, .int _, .int _]) (rest := []) k_X13_60 ⟨Nat.le_of_ble_eq_true rfl, Nat.le_of_ble_eq_true rfl⟩ rfl (Nat.le_of_ble_eq_true rfl) ⟨Nat.le_of_ble_eq_true rfl, Nat.le_of_ble_eq_true rfl⟩ rfl dX13_wrote_16 (fun r0 q0 => c_Md_isIn l w _ _ _ _ _ q0) (fun r4 er4 nr4 => ?_)
  refine j_ifeq C (tgt := 34) dX13_wrote_19 (by decide) (fun q5 => ?_) (fun q5 => ?_)
  · refine j_aload_n C dX13_wrote_34 (i := 0) rfl rfl ?_
    refine j_iconst C (v := 1) dX13_wrote_35 (by decide) ?_
    refine j_callVim C (As := [.int _]) (rest := []) k_X13_234 ⟨Nat.le_of_ble_eq_true rfl, Nat.le_of_ble_eq_true rfl⟩ rfl (Nat.le_of_ble_eq_true rfl) ⟨Nat.le_of_ble_eq_true rfl, Nat.le_of_ble_eq_true rfl⟩ rfl dX13_wrote_36 (fun r0 q0 => c_Md_no l w _ _ _ _ q0) (fun r6 er6 nr6 => ?_)
    exact e_iretM C hQ hr rfl hlk dX13_wrote_39 (Nat.le_of_ble_eq_true rfl) (Nat.le_of_ble_eq_true rfl)
  · refine j_aload_n C dX13_wrote_22 (i := 0) rfl rfl ?_
    refine j_getR C g_X13_47 dX13_wrote_23 (fun v7 ev7 => ?_)
    refine j_getR C g_X13_247 dX13_wrote_26 (fun v8 ev8 => ?_)
    refine j_iload_n C dX13_wrote_29 (i := 1) rfl rfl ?_
    refine j_iaload C dX13_wrote_30 (fun v9 ev9 => ?_)
    refine j_goto C (tgt := 39) dX13_wrote_31 (by decide) ?_
    exact e_iretM C hQ hr rfl hlk dX13_wrote_39 (Nat.le_of_ble_eq_true rfl) (Nat.le_of_ble_eq_true rfl)
def f_Md_pass_b26 (fl : Nat) (a0 : Nat) (x1 : Int32) : Nat → Int32 → Int32 → hp_M → Option (Int32 × hp_M)
  | 0, _, _, _ => none
  | n + 1, x2, x3, h => if x1 ≤ x3 then (some (x2, h)) else ((gR h a0 12 13).bind fun v1006 => (onO h v1006 10 (f_St_pass fl v1006 h)).bind fun r1007 => f_Md_pass_b26 fl a0 x1 n (x2 + r1007.1) (x3 + 1) r1007.2)
def f_Md_pass (fl : Nat) (a0 : Nat) (x1 : Int32) (h : hp_M) : Option (Int32 × hp_M) := (pF h a0 12 0 (.int 0)).bind fun h1 => (f_Md_isIn x1 1 300 h1).bind fun r2 => if r2 = 0 then ((onO h1 a0 12 (f_Md_no a0 1 h1)).bind fun r4 => some (r4.1, r4.2)) else (f_Md_pass_b26 fl a0 x1 fl 0 0 h1)
set_option maxRecDepth 100000 in
set_option maxHeartbeats 4000000 in
theorem b_Md_pass_26 {p : Program} {l : Launch} {e : Env} {s : State} {m : MethodId} {args : Array Value} {below : List Frame} {meth : Method} {c : Code} {Q : State → Prop} {w : hp_W} {out : Int32 × hp_M} (fl : Nat)   (a0 : Nat) (x1 : Int32) (C : Cx p m c cX13_pass 4 s args RX13 w) (hr : meth.sig.returnType = some .int) (hlk : meth.locks = false) (hnm : meth.name = "pass") (hQ : QM below w args s ({ frames := 11, cells := 0, slots := 0, locals := 320 }) (some .int) (some (.int out.1)) out.2 = Q)  : ∀ (n : Nat) (x2 : Int32) (x3 : Int32) (h : hp_M), J p l e ({ frames := 11, cells := 0, slots := 0, locals := 320 }) s m args below meth c Q w 4 0 0 26 [(0, .ref a0), (1, .int x1), (2, .int x2), (3, .int x3)] [] h (f_Md_pass_b26 fl a0 x1 n x2 x3 h) out := by
  intro n
  induction n with
  | zero => intro x2 x3 h; exact j_none
  | succ n ih =>
    intro x2 x3 h
    rw [f_Md_pass_b26]
    refine j_iload_n C dX13_pass_26 (i := 3) rfl rfl ?_
    refine j_iload_n C dX13_pass_27 (i := 1) rfl rfl ?_
    refine j_icmpge C (tgt := 47) dX13_pass_28 (by decide) (fun q1005 => ?_) (fun q1005 => ?_)
    · refine j_iload_n C dX13_pass_47 (i := 2) rfl rfl ?_
      exact e_iretM C hQ hr rfl hlk dX13_pass_48 (Nat.le_of_ble_eq_true rfl) (Nat.le_of_ble_eq_true rfl)
    · refine j_iload_n C dX13_pass_31 (i := 2) rfl rfl ?_
      refine j_aload_n C dX13_pass_32 (i := 0) rfl rfl ?_
      refine j_getR C g_X13_47 dX13_pass_33 (fun v1006 ev1006 => ?_)
      refine j_callVim C (As := []) (rest := [_]) k_X13_283 ⟨Nat.le_of_ble_eq_true rfl, Nat.le_of_ble_eq_true rfl⟩ rfl (Nat.le_of_ble_eq_true rfl) ⟨Nat.le_of_ble_eq_true rfl, Nat.le_of_ble_eq_true rfl⟩ rfl dX13_pass_36 (fun r0 q0 => c_St_pass l w fl _ _ _ q0) (fun r1007 er1007 nr1007 => ?_)
      refine j_iadd C dX13_pass_39 ?_
      refine j_istore_n C [(2, _), (0, _), (1, _), (3, _)] dX13_pass_40 (i := 2) rfl (by decide) rfl ?_
      refine j_iinc C (v := x3 + 1) [(3, _), (2, _), (0, _), (1, _)] dX13_pass_41 rfl rfl (by decide) rfl ?_
      refine j_goto C (tgt := 26) dX13_pass_44 (by decide) ?_
      exact j_sub [2, 3, 1, 0] rfl (ih _ _ _)
set_option maxRecDepth 100000 in
set_option maxHeartbeats 4000000 in
theorem c_Md_pass (l : Launch) (w : hp_W) (fl : Nat) (a0 : Nat) (x1 : Int32) (h : hp_M) (out : Int32 × hp_M) (hX : f_Md_pass fl a0 x1 h = some out) : CT l w yX13_pass cX13_pass 4 (some .int) ({ frames := 11, cells := 0, slots := 0, locals := 320 }) [.ref a0, .int x1] h (some (.int out.1)) out.2 := by
  unfold f_Md_pass at hX
  refine ct_of (by decide +kernel) (Nat.le_of_ble_eq_true rfl) hX ?_
  intro p e s m args below meth c Q C hr hlk hnm hQ
  refine j_aload_n C dX13_pass_0 (i := 0) rfl rfl ?_
  refine j_iconst C (v := 0) dX13_pass_1 (by decide) ?_
  refine j_putI C p_X13_54 (fun q => nomatch q) dX13_pass_2 (fun h1 eh1 => ?_)
  refine j_iload_n C dX13_pass_5 (i := 1) rfl rfl ?_
  refine j_iconst C (v := 1) dX13_pass_6 (by decide) ?_
  refine j_sipush C (v := 300) dX13_pass_7 (by decide) ?_
  refine j_callSi C (As := [.int _, .int _, .int _]) (rest := []) k_X13_60 ⟨Nat.le_of_ble_eq_true rfl, Nat.le_of_ble_eq_true rfl⟩ rfl (Nat.le_of_ble_eq_true rfl) ⟨Nat.le_of_ble_eq_true rfl, Nat.le_of_ble_eq_true rfl⟩ rfl dX13_pass_10 (fun r0 q0 => c_Md_isIn l w _ _ _ _ _ q0) (fun r2 er2 nr2 => ?_)
  refine j_ifne C (tgt := 22) dX13_pass_13 (by decide) (fun q3 => ?_) (fun q3 => ?_)
  · refine j_aload_n C dX13_pass_16 (i := 0) rfl rfl ?_
    refine j_iconst C (v := 1) dX13_pass_17 (by decide) ?_
    refine j_callVim C (As := [.int _]) (rest := []) k_X13_234 ⟨Nat.le_of_ble_eq_true rfl, Nat.le_of_ble_eq_true rfl⟩ rfl (Nat.le_of_ble_eq_true rfl) ⟨Nat.le_of_ble_eq_true rfl, Nat.le_of_ble_eq_true rfl⟩ rfl dX13_pass_18 (fun r0 q0 => c_Md_no l w _ _ _ _ q0) (fun r4 er4 nr4 => ?_)
    exact e_iretM C hQ hr rfl hlk dX13_pass_21 (Nat.le_of_ble_eq_true rfl) (Nat.le_of_ble_eq_true rfl)
  · refine j_iconst C (v := 0) dX13_pass_22 (by decide) ?_
    refine j_istore_n C [(2, _), (0, _), (1, _)] dX13_pass_23 (i := 2) rfl (by decide) rfl ?_
    refine j_iconst C (v := 0) dX13_pass_24 (by decide) ?_
    refine j_istore_n C [(3, _), (2, _), (0, _), (1, _)] dX13_pass_25 (i := 3) rfl (by decide) rfl ?_
    refine j_sub [2, 3, 1, 0] rfl (b_Md_pass_26 fl  _ _ C hr hlk hnm hQ  _ _ _ _)
def f_Md_byteAt (a0 : Nat) (x1 : Int32) (h : hp_M) : Option (Int32 × hp_M) := (pF h a0 12 0 (.int 0)).bind fun h1 => (gR h1 a0 12 13).bind fun v2 => (gI h1 v2 10 6).bind fun v3 => (f_Md_isIn x1 0 (v3 - 1) h1).bind fun r4 => if r4 = 0 then ((onO h1 a0 12 (f_Md_no a0 1 h1)).bind fun r6 => some (r6.1, r6.2)) else ((gR h1 a0 12 13).bind fun v7 => (gR h1 v7 10 5).bind fun v8 => (gaI h1 v8 x1).bind fun v9 => some (v9, h1))
set_option maxRecDepth 100000 in
set_option maxHeartbeats 4000000 in
theorem c_Md_byteAt (l : Launch) (w : hp_W) (a0 : Nat) (x1 : Int32) (h : hp_M) (out : Int32 × hp_M) (hX : f_Md_byteAt a0 x1 h = some out) : CT l w yX13_byteAt cX13_byteAt 2 (some .int) ({ frames := 1, cells := 0, slots := 0, locals := 22 }) [.ref a0, .int x1] h (some (.int out.1)) out.2 := by
  unfold f_Md_byteAt at hX
  refine ct_of (by decide +kernel) (Nat.le_of_ble_eq_true rfl) hX ?_
  intro p e s m args below meth c Q C hr hlk hnm hQ
  refine j_aload_n C dX13_byteAt_0 (i := 0) rfl rfl ?_
  refine j_iconst C (v := 0) dX13_byteAt_1 (by decide) ?_
  refine j_putI C p_X13_54 (fun q => nomatch q) dX13_byteAt_2 (fun h1 eh1 => ?_)
  refine j_iload_n C dX13_byteAt_5 (i := 1) rfl rfl ?_
  refine j_iconst C (v := 0) dX13_byteAt_6 (by decide) ?_
  refine j_aload_n C dX13_byteAt_7 (i := 0) rfl rfl ?_
  refine j_getR C g_X13_47 dX13_byteAt_8 (fun v2 ev2 => ?_)
  refine j_getI C g_X13_256 dX13_byteAt_11 (fun v3 ev3 => ?_)
  refine j_iconst C (v := 1) dX13_byteAt_14 (by decide) ?_
  refine j_isub C dX13_byteAt_15 ?_
  refine j_callSi C (As := [.int _, .int _, .int _]) (rest := []) k_X13_60 ⟨Nat.le_of_ble_eq_true rfl, Nat.le_of_ble_eq_true rfl⟩ rfl (Nat.le_of_ble_eq_true rfl) ⟨Nat.le_of_ble_eq_true rfl, Nat.le_of_ble_eq_true rfl⟩ rfl dX13_byteAt_16 (fun r0 q0 => c_Md_isIn l w _ _ _ _ _ q0) (fun r4 er4 nr4 => ?_)
  refine j_ifeq C (tgt := 34) dX13_byteAt_19 (by decide) (fun q5 => ?_) (fun q5 => ?_)
  · refine j_aload_n C dX13_byteAt_34 (i := 0) rfl rfl ?_
    refine j_iconst C (v := 1) dX13_byteAt_35 (by decide) ?_
    refine j_callVim C (As := [.int _]) (rest := []) k_X13_234 ⟨Nat.le_of_ble_eq_true rfl, Nat.le_of_ble_eq_true rfl⟩ rfl (Nat.le_of_ble_eq_true rfl) ⟨Nat.le_of_ble_eq_true rfl, Nat.le_of_ble_eq_true rfl⟩ rfl dX13_byteAt_36 (fun r0 q0 => c_Md_no l w _ _ _ _ q0) (fun r6 er6 nr6 => ?_)
    exact e_iretM C hQ hr rfl hlk dX13_byteAt_39 (Nat.le_of_ble_eq_true rfl) (Nat.le_of_ble_eq_true rfl)
  · refine j_aload_n C dX13_byteAt_22 (i := 0) rfl rfl ?_
    refine j_getR C g_X13_47 dX13_byteAt_23 (fun v7 ev7 => ?_)
    refine j_getR C g_X13_286 dX13_byteAt_26 (fun v8 ev8 => ?_)
    refine j_iload_n C dX13_byteAt_29 (i := 1) rfl rfl ?_
    refine j_iaload C dX13_byteAt_30 (fun v9 ev9 => ?_)
    refine j_goto C (tgt := 39) dX13_byteAt_31 (by decide) ?_
    exact e_iretM C hQ hr rfl hlk dX13_byteAt_39 (Nat.le_of_ble_eq_true rfl) (Nat.le_of_ble_eq_true rfl)
def f_Md_translate_b32 (fl : Nat) (a0 : Nat) (x1 : Int32) (x2 : Int32) : Nat → Int32 → Int32 → hp_M → Option (Int32 × hp_M)
  | 0, _, _, _ => none
  | n + 1, x3, x4, h => (gR h a0 12 13).bind fun v1012 => (gI h v1012 10 6).bind fun v1013 => if v1013 ≤ x4 then (some (x3, h)) else (jn (fun (u1023 : Int32) (h1024 : hp_M) => f_Md_translate_b32 fl a0 x1 x2 n u1023 (x4 + 1) h1024) fun (j1022 : Int32 → hp_M → Option (Int32 × hp_M)) => (gR h a0 12 13).bind fun v1025 => (gR h v1025 10 5).bind fun v1026 => (gaI h v1026 x4).bind fun v1027 => (onO h a0 12 (f_Md_numberOf fl a0 x1 v1027 h)).bind fun r1028 => if r1028 = (-1) then (j1022 x3 h) else ((gR h a0 12 11).bind fun v1030 => (gR h v1030 11 3).bind fun v1031 => (gaI h v1031 x2).bind fun v1032 => if r1028 < v1032 then (jn (fun (u1041 : Int32) (u1042 : Int32) (u1043 : Int32) => (gR h a0 12 13).bind fun v1044 => (gR h v1044 10 5).bind fun v1045 => (paI h v1045 x4 u1041).bind fun h1046 => j1022 (u1043 + u1042) h1046) fun (j1040 : Int32 → Int32 → Int32 → Option (Int32 × hp_M)) => (gR h a0 12 11).bind fun v1047 => (gR h v1047 11 4).bind fun v1048 => (gaI h v1048 ((12 * x2) + r1028)).bind fun v1049 => (gR h a0 12 13).bind fun v1050 => (gR h v1050 10 5).bind fun v1051 => (gaI h v1051 x4).bind fun v1052 => if v1049 = v1052 then (j1040 v1049 0 x3) else (j1040 v1049 1 x3)) else (j1022 x3 h)))
def f_Md_translate (fl : Nat) (a0 : Nat) (x1 : Int32) (x2 : Int32) (h : hp_M) : Option (Int32 × hp_M) := jn (fun (h5 : hp_M) => (onO h5 a0 12 (f_Md_no a0 1 h5)).bind fun r6 => some (r6.1, r6.2)) fun (j4 : hp_M → Option (Int32 × hp_M)) => (pF h a0 12 0 (.int 0)).bind fun h7 => (onO h7 a0 12 (f_Md_isAlphabet a0 x1 h7)).bind fun r8 => if r8 = 0 then (j4 h7) else ((onO h7 a0 12 (f_Md_isAlphabet a0 x2 h7)).bind fun r10 => if r10 = 0 then (j4 h7) else (f_Md_translate_b32 fl a0 x1 x2 fl 0 0 h7))
set_option maxRecDepth 100000 in
set_option maxHeartbeats 4000000 in
theorem b_Md_translate_32 {p : Program} {l : Launch} {e : Env} {s : State} {m : MethodId} {args : Array Value} {below : List Frame} {meth : Method} {c : Code} {Q : State → Prop} {w : hp_W} {out : Int32 × hp_M} (fl : Nat)   (a0 : Nat) (x1 : Int32) (x2 : Int32) (C : Cx p m c cX13_translate 7 s args RX13 w) (hr : meth.sig.returnType = some .int) (hlk : meth.locks = false) (hnm : meth.name = "translate") (hQ : QM below w args s ({ frames := 2, cells := 0, slots := 0, locals := 43 }) (some .int) (some (.int out.1)) out.2 = Q)  : ∀ (n : Nat) (x3 : Int32) (x4 : Int32) (h : hp_M), J p l e ({ frames := 2, cells := 0, slots := 0, locals := 43 }) s m args below meth c Q w 7 0 0 32 [(0, .ref a0), (1, .int x1), (2, .int x2), (3, .int x3), (4, .int x4)] [] h (f_Md_translate_b32 fl a0 x1 x2 n x3 x4 h) out := by
  intro n
  induction n with
  | zero => intro x3 x4 h; exact j_none
  | succ n ih =>
    intro x3 x4 h
    rw [f_Md_translate_b32]
    refine j_iload C dX13_translate_32 rfl ?_
    refine j_aload_n C dX13_translate_34 (i := 0) rfl rfl ?_
    refine j_getR C g_X13_47 dX13_translate_35 (fun v1012 ev1012 => ?_)
    refine j_getI C g_X13_256 dX13_translate_38 (fun v1013 ev1013 => ?_)
    refine j_icmpge C (tgt := 142) dX13_translate_41 (by decide) (fun q1014 => ?_) (fun q1014 => ?_)
    · refine j_iload_n C dX13_translate_142 (i := 3) rfl rfl ?_
      exact e_iretM C hQ hr rfl hlk dX13_translate_143 (Nat.le_of_ble_eq_true rfl) (Nat.le_of_ble_eq_true rfl)
    · refine j_jn (P := fun (j1022 : Int32 → hp_M → Option (Int32 × hp_M)) => ∀ (u1023 : Int32) (h1024 : hp_M), J p l e ({ frames := 2, cells := 0, slots := 0, locals := 43 }) s m args below meth c Q w 7 0 0 136 [(0, .ref a0), (1, .int x1), (2, .int x2), (3, .int u1023), (4, .int x4)] [] h1024 (j1022 u1023 h1024) out) ?_ (fun j1022 hj1022 => ?_)
      · intro u1023 h1024
        refine j_iinc C (v := x4 + 1) [(4, _), (0, _), (1, _), (2, _), (3, _)] dX13_translate_136 rfl rfl (by decide) rfl ?_
        refine j_goto C (tgt := 32) dX13_translate_139 (by decide) ?_
        exact j_sub [1, 2, 3, 4, 0] rfl (ih _ _ _)
      · refine j_aload_n C dX13_translate_44 (i := 0) rfl rfl ?_
        refine j_iload_n C dX13_translate_45 (i := 1) rfl rfl ?_
        refine j_aload_n C dX13_translate_46 (i := 0) rfl rfl ?_
        refine j_getR C g_X13_47 dX13_translate_47 (fun v1025 ev1025 => ?_)
        refine j_getR C g_X13_286 dX13_translate_50 (fun v1026 ev1026 => ?_)
        refine j_iload C dX13_translate_53 rfl ?_
        refine j_iaload C dX13_translate_55 (fun v1027 ev1027 => ?_)
        refine j_callVi C (As := [.int _, .int _]) (rest := []) k_X13_292 ⟨Nat.le_of_ble_eq_true rfl, Nat.le_of_ble_eq_true rfl⟩ rfl (Nat.le_of_ble_eq_true rfl) ⟨Nat.le_of_ble_eq_true rfl, Nat.le_of_ble_eq_true rfl⟩ rfl dX13_translate_56 (fun r0 q0 => c_Md_numberOf l w fl _ _ _ _ _ q0) (fun r1028 er1028 nr1028 => ?_)
        refine j_istore C [(5, _), (0, _), (1, _), (2, _), (3, _), (4, _)] dX13_translate_59 (by decide) rfl ?_
        refine j_iload C dX13_translate_61 rfl ?_
        refine j_iconst C (v := -1) dX13_translate_63 (by decide) ?_
        refine j_icmpeq C (tgt := 136) dX13_translate_64 (by decide) (fun q1029 => ?_) (fun q1029 => ?_)
        · exact j_sub [1, 2, 3, 4, 5] rfl (hj1022 _ _)
        · refine j_iload C dX13_translate_67 rfl ?_
          refine j_aload_n C dX13_translate_69 (i := 0) rfl rfl ?_
          refine j_getR C g_X13_35 dX13_translate_70 (fun v1030 ev1030 => ?_)
          refine j_getR C g_X13_219 dX13_translate_73 (fun v1031 ev1031 => ?_)
          refine j_iload_n C dX13_translate_76 (i := 2) rfl rfl ?_
          refine j_iaload C dX13_translate_77 (fun v1032 ev1032 => ?_)
          refine j_icmplt C (tgt := 84) dX13_translate_78 (by decide) (fun q1033 => ?_) (fun q1033 => ?_)
          · refine j_jn (P := fun (j1040 : Int32 → Int32 → Int32 → Option (Int32 × hp_M)) => ∀ (u1041 : Int32) (u1042 : Int32) (u1043 : Int32), J p l e ({ frames := 2, cells := 0, slots := 0, locals := 43 }) s m args below meth c Q w 7 0 0 122 [(0, .ref a0), (1, .int x1), (2, .int x2), (4, .int x4), (6, .int u1041)] [.int u1042, .int u1043] h (j1040 u1041 u1042 u1043) out) ?_ (fun j1040 hj1040 => ?_)
            · intro u1041 u1042 u1043
              refine j_iadd C dX13_translate_122 ?_
              refine j_istore_n C [(3, _), (0, _), (1, _), (2, _), (4, _), (6, _)] dX13_translate_123 (i := 3) rfl (by decide) rfl ?_
              refine j_aload_n C dX13_translate_124 (i := 0) rfl rfl ?_
              refine j_getR C g_X13_47 dX13_translate_125 (fun v1044 ev1044 => ?_)
              refine j_getR C g_X13_286 dX13_translate_128 (fun v1045 ev1045 => ?_)
              refine j_iload C dX13_translate_131 rfl ?_
              refine j_iload C dX13_translate_133 rfl ?_
              refine j_iastore C dX13_translate_135 (fun h1046 eh1046 => ?_)
              exact j_sub [1, 2, 3, 0, 4] rfl (hj1022 _ _)
            · refine j_aload_n C dX13_translate_84 (i := 0) rfl rfl ?_
              refine j_getR C g_X13_35 dX13_translate_85 (fun v1047 ev1047 => ?_)
              refine j_getR C g_X13_222 dX13_translate_88 (fun v1048 ev1048 => ?_)
              refine j_bipush C (v := 12) dX13_translate_91 (by decide) ?_
              refine j_iload_n C dX13_translate_93 (i := 2) rfl rfl ?_
              refine j_imul C dX13_translate_94 ?_
              refine j_iload C dX13_translate_95 rfl ?_
              refine j_iadd C dX13_translate_97 ?_
              refine j_iaload C dX13_translate_98 (fun v1049 ev1049 => ?_)
              refine j_istore C [(6, _), (5, _), (0, _), (1, _), (2, _), (3, _), (4, _)] dX13_translate_99 (by decide) rfl ?_
              refine j_iload_n C dX13_translate_101 (i := 3) rfl rfl ?_
              refine j_iload C dX13_translate_102 rfl ?_
              refine j_aload_n C dX13_translate_104 (i := 0) rfl rfl ?_
              refine j_getR C g_X13_47 dX13_translate_105 (fun v1050 ev1050 => ?_)
              refine j_getR C g_X13_286 dX13_translate_108 (fun v1051 ev1051 => ?_)
              refine j_iload C dX13_translate_111 rfl ?_
              refine j_iaload C dX13_translate_113 (fun v1052 ev1052 => ?_)
              refine j_icmpne C (tgt := 121) dX13_translate_114 (by decide) (fun q1053 => ?_) (fun q1053 => ?_)
              · refine j_iconst C (v := 0) dX13_translate_117 (by decide) ?_
                refine j_goto C (tgt := 122) dX13_translate_118 (by decide) ?_
                exact j_sub [2, 3, 4, 6, 0] rfl (hj1040 _ _ _)
              · refine j_iconst C (v := 1) dX13_translate_121 (by decide) ?_
                exact j_sub [2, 3, 4, 6, 0] rfl (hj1040 _ _ _)
          · refine j_goto C (tgt := 136) dX13_translate_81 (by decide) ?_
            exact j_sub [1, 2, 3, 4, 5] rfl (hj1022 _ _)
set_option maxRecDepth 100000 in
set_option maxHeartbeats 4000000 in
theorem c_Md_translate (l : Launch) (w : hp_W) (fl : Nat) (a0 : Nat) (x1 : Int32) (x2 : Int32) (h : hp_M) (out : Int32 × hp_M) (hX : f_Md_translate fl a0 x1 x2 h = some out) : CT l w yX13_translate cX13_translate 7 (some .int) ({ frames := 2, cells := 0, slots := 0, locals := 43 }) [.ref a0, .int x1, .int x2] h (some (.int out.1)) out.2 := by
  unfold f_Md_translate at hX
  refine ct_of (by decide +kernel) (Nat.le_of_ble_eq_true rfl) hX ?_
  intro p e s m args below meth c Q C hr hlk hnm hQ
  refine j_jn (P := fun (j4 : hp_M → Option (Int32 × hp_M)) => ∀ (h5 : hp_M), J p l e ({ frames := 2, cells := 0, slots := 0, locals := 43 }) s m args below meth c Q w 7 0 0 21 [(0, .ref a0)] [] h5 (j4 h5) out) ?_ (fun j4 hj4 => ?_)
  · intro h5
    refine j_aload_n C dX13_translate_21 (i := 0) rfl rfl ?_
    refine j_iconst C (v := 1) dX13_translate_22 (by decide) ?_
    refine j_callVim C (As := [.int _]) (rest := []) k_X13_234 ⟨Nat.le_of_ble_eq_true rfl, Nat.le_of_ble_eq_true rfl⟩ rfl (Nat.le_of_ble_eq_true rfl) ⟨Nat.le_of_ble_eq_true rfl, Nat.le_of_ble_eq_true rfl⟩ rfl dX13_translate_23 (fun r0 q0 => c_Md_no l w _ _ _ _ q0) (fun r6 er6 nr6 => ?_)
    exact e_iretM C hQ hr rfl hlk dX13_translate_26 (Nat.le_of_ble_eq_true rfl) (Nat.le_of_ble_eq_true rfl)
  · refine j_aload_n C dX13_translate_0 (i := 0) rfl rfl ?_
    refine j_iconst C (v := 0) dX13_translate_1 (by decide) ?_
    refine j_putI C p_X13_54 (fun q => nomatch q) dX13_translate_2 (fun h7 eh7 => ?_)
    refine j_aload_n C dX13_translate_5 (i := 0) rfl rfl ?_
    refine j_iload_n C dX13_translate_6 (i := 1) rfl rfl ?_
    refine j_callVi C (As := [.int _]) (rest := []) k_X13_280 ⟨Nat.le_of_ble_eq_true rfl, Nat.le_of_ble_eq_true rfl⟩ rfl (Nat.le_of_ble_eq_true rfl) ⟨Nat.le_of_ble_eq_true rfl, Nat.le_of_ble_eq_true rfl⟩ rfl dX13_translate_7 (fun r0 q0 => c_Md_isAlphabet l w _ _ _ _ q0) (fun r8 er8 nr8 => ?_)
    refine j_ifeq C (tgt := 21) dX13_translate_10 (by decide) (fun q9 => ?_) (fun q9 => ?_)
    · exact j_sub [0] rfl (hj4 _)
    · refine j_aload_n C dX13_translate_13 (i := 0) rfl rfl ?_
      refine j_iload_n C dX13_translate_14 (i := 2) rfl rfl ?_
      refine j_callVi C (As := [.int _]) (rest := []) k_X13_280 ⟨Nat.le_of_ble_eq_true rfl, Nat.le_of_ble_eq_true rfl⟩ rfl (Nat.le_of_ble_eq_true rfl) ⟨Nat.le_of_ble_eq_true rfl, Nat.le_of_ble_eq_true rfl⟩ rfl dX13_translate_15 (fun r0 q0 => c_Md_isAlphabet l w _ _ _ _ q0) (fun r10 er10 nr10 => ?_)
      refine j_ifne C (tgt := 27) dX13_translate_18 (by decide) (fun q11 => ?_) (fun q11 => ?_)
      · exact j_sub [0] rfl (hj4 _)
      · refine j_iconst C (v := 0) dX13_translate_27 (by decide) ?_
        refine j_istore_n C [(3, _), (0, _), (1, _), (2, _)] dX13_translate_28 (i := 3) rfl (by decide) rfl ?_
        refine j_iconst C (v := 0) dX13_translate_29 (by decide) ?_
        refine j_istore C [(4, _), (3, _), (0, _), (1, _), (2, _)] dX13_translate_30 (by decide) rfl ?_
        refine j_sub [2, 3, 4, 1, 0] rfl (b_Md_translate_32 fl  _ _ _ C hr hlk hnm hQ  _ _ _ _)
def f_Md_foresee_b53 (fl : Nat) (a0 : Nat) (x1 : Int32) (x2 : Int32) (k75 : Int32 → hp_M → Option (Int32 × hp_M)) : Nat → Int32 → Int32 → hp_M → Option (Int32 × hp_M)
  | 0, _, _, _ => none
  | n + 1, x3, x4, h => if x1 ≤ x4 then (k75 x3 h) else ((gR h a0 12 14).bind fun v1014 => (onO h v1014 10 (f_St_pass fl v1014 h)).bind fun r1015 => f_Md_foresee_b53 fl a0 x1 x2 k75 n (x3 + r1015.1) (x4 + 1) r1015.2)
def f_Md_foresee (fl : Nat) (a0 : Nat) (x1 : Int32) (x2 : Int32) (h : hp_M) : Option (Int32 × hp_M) := (pF h a0 12 0 (.int 0)).bind fun h1 => (f_Md_isIn x1 1 300 h1).bind fun r2 => if r2 = 0 then ((onO h1 a0 12 (f_Md_no a0 1 h1)).bind fun r4 => some (r4.1, r4.2)) else ((f_Md_isIn x2 0 2 h1).bind fun r5 => if r5 = 0 then ((onO h1 a0 12 (f_Md_no a0 2 h1)).bind fun r7 => some (r7.1, r7.2)) else ((gR h1 a0 12 14).bind fun v8 => (gR h1 a0 12 13).bind fun v9 => (onO h1 v8 10 (f_St_become v8 v9 h1)).bind fun h10 => f_Md_foresee_b53 fl a0 x1 x2 (fun (u11 : Int32) (h12 : hp_M) => if x2 = 0 then (some (u11, h12)) else (if x2 = 1 then ((gR h12 a0 12 14).bind fun v15 => (onO h12 v15 10 (f_St_pairs fl v15 h12)).bind fun r16 => some (r16, h12)) else ((gR h12 a0 12 14).bind fun v17 => (onO h12 v17 10 (f_St_laps fl v17 h12)).bind fun r18 => some (r18, h12)))) fl 0 0 h10))
set_option maxRecDepth 100000 in
set_option maxHeartbeats 4000000 in
theorem b_Md_foresee_53 {p : Program} {l : Launch} {e : Env} {s : State} {m : MethodId} {args : Array Value} {below : List Frame} {meth : Method} {c : Code} {Q : State → Prop} {w : hp_W} {out : Int32 × hp_M} (fl : Nat)   (a0 : Nat) (x1 : Int32) (x2 : Int32) (k75 : Int32 → hp_M → Option (Int32 × hp_M)) (C : Cx p m c cX13_foresee 5 s args RX13 w) (hr : meth.sig.returnType = some .int) (hlk : meth.locks = false) (hnm : meth.name = "foresee") (hQ : QM below w args s ({ frames := 11, cells := 0, slots := 0, locals := 320 }) (some .int) (some (.int out.1)) out.2 = Q) (hk75 : ∀ (z3 : Int32) (hz : hp_M), J p l e ({ frames := 11, cells := 0, slots := 0, locals := 320 }) s m args below meth c Q w 5 0 0 75 [(0, .ref a0), (2, .int x2), (3, .int z3)] [] hz (k75 z3 hz) out) : ∀ (n : Nat) (x3 : Int32) (x4 : Int32) (h : hp_M), J p l e ({ frames := 11, cells := 0, slots := 0, locals := 320 }) s m args below meth c Q w 5 0 0 53 [(0, .ref a0), (1, .int x1), (2, .int x2), (3, .int x3), (4, .int x4)] [] h (f_Md_foresee_b53 fl a0 x1 x2 k75 n x3 x4 h) out := by
  intro n
  induction n with
  | zero => intro x3 x4 h; exact j_none
  | succ n ih =>
    intro x3 x4 h
    rw [f_Md_foresee_b53]
    refine j_iload C dX13_foresee_53 rfl ?_
    refine j_iload_n C dX13_foresee_55 (i := 1) rfl rfl ?_
    refine j_icmpge C (tgt := 75) dX13_foresee_56 (by decide) (fun q1013 => ?_) (fun q1013 => ?_)
    · exact j_sub [0, 2, 3] rfl (hk75 _ _)
    · refine j_iload_n C dX13_foresee_59 (i := 3) rfl rfl ?_
      refine j_aload_n C dX13_foresee_60 (i := 0) rfl rfl ?_
      refine j_getR C g_X13_51 dX13_foresee_61 (fun v1014 ev1014 => ?_)
      refine j_callVim C (As := []) (rest := [_]) k_X13_283 ⟨Nat.le_of_ble_eq_true rfl, Nat.le_of_ble_eq_true rfl⟩ rfl (Nat.le_of_ble_eq_true rfl) ⟨Nat.le_of_ble_eq_true rfl, Nat.le_of_ble_eq_true rfl⟩ rfl dX13_foresee_64 (fun r0 q0 => c_St_pass l w fl _ _ _ q0) (fun r1015 er1015 nr1015 => ?_)
      refine j_iadd C dX13_foresee_67 ?_
      refine j_istore_n C [(3, _), (0, _), (1, _), (2, _), (4, _)] dX13_foresee_68 (i := 3) rfl (by decide) rfl ?_
      refine j_iinc C (v := x4 + 1) [(4, _), (3, _), (0, _), (1, _), (2, _)] dX13_foresee_69 rfl rfl (by decide) rfl ?_
      refine j_goto C (tgt := 53) dX13_foresee_72 (by decide) ?_
      exact j_sub [2, 3, 4, 1, 0] rfl (ih _ _ _)
set_option maxRecDepth 100000 in
set_option maxHeartbeats 4000000 in
theorem c_Md_foresee (l : Launch) (w : hp_W) (fl : Nat) (a0 : Nat) (x1 : Int32) (x2 : Int32) (h : hp_M) (out : Int32 × hp_M) (hX : f_Md_foresee fl a0 x1 x2 h = some out) : CT l w yX13_foresee cX13_foresee 5 (some .int) ({ frames := 11, cells := 0, slots := 0, locals := 320 }) [.ref a0, .int x1, .int x2] h (some (.int out.1)) out.2 := by
  unfold f_Md_foresee at hX
  refine ct_of (by decide +kernel) (Nat.le_of_ble_eq_true rfl) hX ?_
  intro p e s m args below meth c Q C hr hlk hnm hQ
  refine j_aload_n C dX13_foresee_0 (i := 0) rfl rfl ?_
  refine j_iconst C (v := 0) dX13_foresee_1 (by decide) ?_
  refine j_putI C p_X13_54 (fun q => nomatch q) dX13_foresee_2 (fun h1 eh1 => ?_)
  refine j_iload_n C dX13_foresee_5 (i := 1) rfl rfl ?_
  refine j_iconst C (v := 1) dX13_foresee_6 (by decide) ?_
  refine j_sipush C (v := 300) dX13_foresee_7 (by decide) ?_
  refine j_callSi C (As := [.int _, .int _, .int _]) (rest := []) k_X13_60 ⟨Nat.le_of_ble_eq_true rfl, Nat.le_of_ble_eq_true rfl⟩ rfl (Nat.le_of_ble_eq_true rfl) ⟨Nat.le_of_ble_eq_true rfl, Nat.le_of_ble_eq_true rfl⟩ rfl dX13_foresee_10 (fun r0 q0 => c_Md_isIn l w _ _ _ _ _ q0) (fun r2 er2 nr2 => ?_)
  refine j_ifne C (tgt := 22) dX13_foresee_13 (by decide) (fun q3 => ?_) (fun q3 => ?_)
  · refine j_aload_n C dX13_foresee_16 (i := 0) rfl rfl ?_
    refine j_iconst C (v := 1) dX13_foresee_17 (by decide) ?_
    refine j_callVim C (As := [.int _]) (rest := []) k_X13_234 ⟨Nat.le_of_ble_eq_true rfl, Nat.le_of_ble_eq_true rfl⟩ rfl (Nat.le_of_ble_eq_true rfl) ⟨Nat.le_of_ble_eq_true rfl, Nat.le_of_ble_eq_true rfl⟩ rfl dX13_foresee_18 (fun r0 q0 => c_Md_no l w _ _ _ _ q0) (fun r4 er4 nr4 => ?_)
    exact e_iretM C hQ hr rfl hlk dX13_foresee_21 (Nat.le_of_ble_eq_true rfl) (Nat.le_of_ble_eq_true rfl)
  · refine j_iload_n C dX13_foresee_22 (i := 2) rfl rfl ?_
    refine j_iconst C (v := 0) dX13_foresee_23 (by decide) ?_
    refine j_iconst C (v := 2) dX13_foresee_24 (by decide) ?_
    refine j_callSi C (As := [.int _, .int _, .int _]) (rest := []) k_X13_60 ⟨Nat.le_of_ble_eq_true rfl, Nat.le_of_ble_eq_true rfl⟩ rfl (Nat.le_of_ble_eq_true rfl) ⟨Nat.le_of_ble_eq_true rfl, Nat.le_of_ble_eq_true rfl⟩ rfl dX13_foresee_25 (fun r0 q0 => c_Md_isIn l w _ _ _ _ _ q0) (fun r5 er5 nr5 => ?_)
    refine j_ifne C (tgt := 37) dX13_foresee_28 (by decide) (fun q6 => ?_) (fun q6 => ?_)
    · refine j_aload_n C dX13_foresee_31 (i := 0) rfl rfl ?_
      refine j_iconst C (v := 2) dX13_foresee_32 (by decide) ?_
      refine j_callVim C (As := [.int _]) (rest := []) k_X13_234 ⟨Nat.le_of_ble_eq_true rfl, Nat.le_of_ble_eq_true rfl⟩ rfl (Nat.le_of_ble_eq_true rfl) ⟨Nat.le_of_ble_eq_true rfl, Nat.le_of_ble_eq_true rfl⟩ rfl dX13_foresee_33 (fun r0 q0 => c_Md_no l w _ _ _ _ q0) (fun r7 er7 nr7 => ?_)
      exact e_iretM C hQ hr rfl hlk dX13_foresee_36 (Nat.le_of_ble_eq_true rfl) (Nat.le_of_ble_eq_true rfl)
    · refine j_aload_n C dX13_foresee_37 (i := 0) rfl rfl ?_
      refine j_getR C g_X13_51 dX13_foresee_38 (fun v8 ev8 => ?_)
      refine j_aload_n C dX13_foresee_41 (i := 0) rfl rfl ?_
      refine j_getR C g_X13_47 dX13_foresee_42 (fun v9 ev9 => ?_)
      refine j_callVv C (As := [.ref _]) (rest := []) k_X13_295 ⟨Nat.le_of_ble_eq_true rfl, Nat.le_of_ble_eq_true rfl⟩ rfl (Nat.le_of_ble_eq_true rfl) ⟨Nat.le_of_ble_eq_true rfl, Nat.le_of_ble_eq_true rfl⟩ rfl dX13_foresee_45 (fun r0 q0 => c_St_become l w _ _ _ _ q0) (fun h10 eh10 _ => ?_)
      refine j_iconst C (v := 0) dX13_foresee_48 (by decide) ?_
      refine j_istore_n C [(3, _), (0, _), (1, _), (2, _)] dX13_foresee_49 (i := 3) rfl (by decide) rfl ?_
      refine j_iconst C (v := 0) dX13_foresee_50 (by decide) ?_
      refine j_istore C [(4, _), (3, _), (0, _), (1, _), (2, _)] dX13_foresee_51 (by decide) rfl ?_
      refine j_sub [2, 3, 4, 1, 0] rfl (b_Md_foresee_53 fl  _ _ _ _ C hr hlk hnm hQ (fun u11 h12 => ?_) _ _ _ _)
      refine j_iload_n C dX13_foresee_75 (i := 2) rfl rfl ?_
      refine j_ifne C (tgt := 83) dX13_foresee_76 (by decide) (fun q13 => ?_) (fun q13 => ?_)
      · refine j_iload_n C dX13_foresee_79 (i := 3) rfl rfl ?_
        refine j_goto C (tgt := 105) dX13_foresee_80 (by decide) ?_
        exact e_iretM C hQ hr rfl hlk dX13_foresee_105 (Nat.le_of_ble_eq_true rfl) (Nat.le_of_ble_eq_true rfl)
      · refine j_iload_n C dX13_foresee_83 (i := 2) rfl rfl ?_
        refine j_iconst C (v := 1) dX13_foresee_84 (by decide) ?_
        refine j_icmpne C (tgt := 98) dX13_foresee_85 (by decide) (fun q14 => ?_) (fun q14 => ?_)
        · refine j_aload_n C dX13_foresee_88 (i := 0) rfl rfl ?_
          refine j_getR C g_X13_51 dX13_foresee_89 (fun v15 ev15 => ?_)
          refine j_callVi C (As := []) (rest := []) k_X13_259 ⟨Nat.le_of_ble_eq_true rfl, Nat.le_of_ble_eq_true rfl⟩ rfl (Nat.le_of_ble_eq_true rfl) ⟨Nat.le_of_ble_eq_true rfl, Nat.le_of_ble_eq_true rfl⟩ rfl dX13_foresee_92 (fun r0 q0 => c_St_pairs l w fl _ _ _ q0) (fun r16 er16 nr16 => ?_)
          refine j_goto C (tgt := 105) dX13_foresee_95 (by decide) ?_
          exact e_iretM C hQ hr rfl hlk dX13_foresee_105 (Nat.le_of_ble_eq_true rfl) (Nat.le_of_ble_eq_true rfl)
        · refine j_aload_n C dX13_foresee_98 (i := 0) rfl rfl ?_
          refine j_getR C g_X13_51 dX13_foresee_99 (fun v17 ev17 => ?_)
          refine j_callVi C (As := []) (rest := []) k_X13_299 ⟨Nat.le_of_ble_eq_true rfl, Nat.le_of_ble_eq_true rfl⟩ rfl (Nat.le_of_ble_eq_true rfl) ⟨Nat.le_of_ble_eq_true rfl, Nat.le_of_ble_eq_true rfl⟩ rfl dX13_foresee_102 (fun r0 q0 => c_St_laps l w fl _ _ _ q0) (fun r18 er18 nr18 => ?_)
          exact e_iretM C hQ hr rfl hlk dX13_foresee_105 (Nat.le_of_ble_eq_true rfl) (Nat.le_of_ble_eq_true rfl)
def f_Md_next_b41 (fl : Nat) (a0 : Nat) (x1 : Int32) (x2 : Int32) (x3 : Int32) : Nat → Int32 → hp_M → Option (Int32 × hp_M)
  | 0, _, _ => none
  | n + 1, x4, h => if 1000 < x4 then (some ((-1), h)) else (jn (fun (u1020 : Int32) (u1021 : Int32) (u1022 : Int32) (u1023 : Nat) (h1024 : hp_M) => (onO h1024 u1023 10 (f_St_meets u1023 u1022 u1021 u1020 h1024)).bind fun r1025 => if r1025 = 0 then (f_Md_next_b41 fl a0 x1 x2 x3 n (x4 + 1) h1024) else (some (x4, h1024))) fun (j1019 : Int32 → Int32 → Int32 → Nat → hp_M → Option (Int32 × hp_M)) => (gR h a0 12 14).bind fun v1027 => (onO h v1027 10 (f_St_move fl v1027 h)).bind fun h1028 => (gR h1028 a0 12 14).bind fun v1029 => if x3 = 0 then (j1019 0 x2 x1 v1029 h1028) else (j1019 180 x2 x1 v1029 h1028))
def f_Md_next (fl : Nat) (a0 : Nat) (x1 : Int32) (x2 : Int32) (x3 : Int32) (h : hp_M) : Option (Int32 × hp_M) := jn (fun (h5 : hp_M) => (onO h5 a0 12 (f_Md_no a0 1 h5)).bind fun r6 => some (r6.1, r6.2)) fun (j4 : hp_M → Option (Int32 × hp_M)) => (pF h a0 12 0 (.int 0)).bind fun h7 => (onO h7 a0 12 (f_Md_isPlanet a0 x1 h7)).bind fun r8 => if r8 = 0 then (j4 h7) else ((onO h7 a0 12 (f_Md_isPlanet a0 x2 h7)).bind fun r10 => if r10 = 0 then (j4 h7) else ((gR h7 a0 12 14).bind fun v12 => (gR h7 a0 12 13).bind fun v13 => (onO h7 v12 10 (f_St_become v12 v13 h7)).bind fun h14 => f_Md_next_b41 fl a0 x1 x2 x3 fl 1 h14))
set_option maxRecDepth 100000 in
set_option maxHeartbeats 4000000 in
theorem b_Md_next_41 {p : Program} {l : Launch} {e : Env} {s : State} {m : MethodId} {args : Array Value} {below : List Frame} {meth : Method} {c : Code} {Q : State → Prop} {w : hp_W} {out : Int32 × hp_M} (fl : Nat)   (a0 : Nat) (x1 : Int32) (x2 : Int32) (x3 : Int32) (C : Cx p m c cX13_next 5 s args RX13 w) (hr : meth.sig.returnType = some .int) (hlk : meth.locks = false) (hnm : meth.name = "next") (hQ : QM below w args s ({ frames := 8, cells := 0, slots := 0, locals := 247 }) (some .int) (some (.int out.1)) out.2 = Q)  : ∀ (n : Nat) (x4 : Int32) (h : hp_M), J p l e ({ frames := 8, cells := 0, slots := 0, locals := 247 }) s m args below meth c Q w 5 0 0 41 [(0, .ref a0), (1, .int x1), (2, .int x2), (3, .int x3), (4, .int x4)] [] h (f_Md_next_b41 fl a0 x1 x2 x3 n x4 h) out := by
  intro n
  induction n with
  | zero => intro x4 h; exact j_none
  | succ n ih =>
    intro x4 h
    rw [f_Md_next_b41]
    refine j_iload C dX13_next_41 rfl ?_
    refine j_sipush C (v := 1000) dX13_next_43 (by decide) ?_
    refine j_icmpgt C (tgt := 88) dX13_next_46 (by decide) (fun q1015 => ?_) (fun q1015 => ?_)
    · refine j_iconst C (v := -1) dX13_next_88 (by decide) ?_
      exact e_iretM C hQ hr rfl hlk dX13_next_89 (Nat.le_of_ble_eq_true rfl) (Nat.le_of_ble_eq_true rfl)
    · refine j_jn (P := fun (j1019 : Int32 → Int32 → Int32 → Nat → hp_M → Option (Int32 × hp_M)) => ∀ (u1020 : Int32) (u1021 : Int32) (u1022 : Int32) (u1023 : Nat) (h1024 : hp_M), J p l e ({ frames := 8, cells := 0, slots := 0, locals := 247 }) s m args below meth c Q w 5 0 0 73 [(0, .ref a0), (1, .int x1), (2, .int x2), (3, .int x3), (4, .int x4)] [.int u1020, .int u1021, .int u1022, .ref u1023] h1024 (j1019 u1020 u1021 u1022 u1023 h1024) out) ?_ (fun j1019 hj1019 => ?_)
      · intro u1020 u1021 u1022 u1023 h1024
        refine j_callVi C (As := [.int _, .int _, .int _]) (rest := []) k_X13_277 ⟨Nat.le_of_ble_eq_true rfl, Nat.le_of_ble_eq_true rfl⟩ rfl (Nat.le_of_ble_eq_true rfl) ⟨Nat.le_of_ble_eq_true rfl, Nat.le_of_ble_eq_true rfl⟩ rfl dX13_next_73 (fun r0 q0 => c_St_meets l w _ _ _ _ _ _ q0) (fun r1025 er1025 nr1025 => ?_)
        refine j_ifeq C (tgt := 82) dX13_next_76 (by decide) (fun q1026 => ?_) (fun q1026 => ?_)
        · refine j_iinc C (v := x4 + 1) [(4, _), (0, _), (1, _), (2, _), (3, _)] dX13_next_82 rfl rfl (by decide) rfl ?_
          refine j_goto C (tgt := 41) dX13_next_85 (by decide) ?_
          exact j_sub [1, 2, 3, 4, 0] rfl (ih _ _)
        · refine j_iload C dX13_next_79 rfl ?_
          exact e_iretM C hQ hr rfl hlk dX13_next_81 (Nat.le_of_ble_eq_true rfl) (Nat.le_of_ble_eq_true rfl)
      · refine j_aload_n C dX13_next_49 (i := 0) rfl rfl ?_
        refine j_getR C g_X13_51 dX13_next_50 (fun v1027 ev1027 => ?_)
        refine j_callVv C (As := []) (rest := []) k_X13_302 ⟨Nat.le_of_ble_eq_true rfl, Nat.le_of_ble_eq_true rfl⟩ rfl (Nat.le_of_ble_eq_true rfl) ⟨Nat.le_of_ble_eq_true rfl, Nat.le_of_ble_eq_true rfl⟩ rfl dX13_next_53 (fun r0 q0 => c_St_move l w fl _ _ _ q0) (fun h1028 eh1028 _ => ?_)
        refine j_aload_n C dX13_next_56 (i := 0) rfl rfl ?_
        refine j_getR C g_X13_51 dX13_next_57 (fun v1029 ev1029 => ?_)
        refine j_iload_n C dX13_next_60 (i := 1) rfl rfl ?_
        refine j_iload_n C dX13_next_61 (i := 2) rfl rfl ?_
        refine j_iload_n C dX13_next_62 (i := 3) rfl rfl ?_
        refine j_ifeq C (tgt := 72) dX13_next_63 (by decide) (fun q1030 => ?_) (fun q1030 => ?_)
        · refine j_iconst C (v := 0) dX13_next_72 (by decide) ?_
          exact hj1019 _ _ _ _ _
        · refine j_sipush C (v := 180) dX13_next_66 (by decide) ?_
          refine j_goto C (tgt := 73) dX13_next_69 (by decide) ?_
          exact hj1019 _ _ _ _ _
set_option maxRecDepth 100000 in
set_option maxHeartbeats 4000000 in
theorem c_Md_next (l : Launch) (w : hp_W) (fl : Nat) (a0 : Nat) (x1 : Int32) (x2 : Int32) (x3 : Int32) (h : hp_M) (out : Int32 × hp_M) (hX : f_Md_next fl a0 x1 x2 x3 h = some out) : CT l w yX13_next cX13_next 5 (some .int) ({ frames := 8, cells := 0, slots := 0, locals := 247 }) [.ref a0, .int x1, .int x2, .int x3] h (some (.int out.1)) out.2 := by
  unfold f_Md_next at hX
  refine ct_of (by decide +kernel) (Nat.le_of_ble_eq_true rfl) hX ?_
  intro p e s m args below meth c Q C hr hlk hnm hQ
  refine j_jn (P := fun (j4 : hp_M → Option (Int32 × hp_M)) => ∀ (h5 : hp_M), J p l e ({ frames := 8, cells := 0, slots := 0, locals := 247 }) s m args below meth c Q w 5 0 0 21 [(0, .ref a0)] [] h5 (j4 h5) out) ?_ (fun j4 hj4 => ?_)
  · intro h5
    refine j_aload_n C dX13_next_21 (i := 0) rfl rfl ?_
    refine j_iconst C (v := 1) dX13_next_22 (by decide) ?_
    refine j_callVim C (As := [.int _]) (rest := []) k_X13_234 ⟨Nat.le_of_ble_eq_true rfl, Nat.le_of_ble_eq_true rfl⟩ rfl (Nat.le_of_ble_eq_true rfl) ⟨Nat.le_of_ble_eq_true rfl, Nat.le_of_ble_eq_true rfl⟩ rfl dX13_next_23 (fun r0 q0 => c_Md_no l w _ _ _ _ q0) (fun r6 er6 nr6 => ?_)
    exact e_iretM C hQ hr rfl hlk dX13_next_26 (Nat.le_of_ble_eq_true rfl) (Nat.le_of_ble_eq_true rfl)
  · refine j_aload_n C dX13_next_0 (i := 0) rfl rfl ?_
    refine j_iconst C (v := 0) dX13_next_1 (by decide) ?_
    refine j_putI C p_X13_54 (fun q => nomatch q) dX13_next_2 (fun h7 eh7 => ?_)
    refine j_aload_n C dX13_next_5 (i := 0) rfl rfl ?_
    refine j_iload_n C dX13_next_6 (i := 1) rfl rfl ?_
    refine j_callVi C (As := [.int _]) (rest := []) k_X13_268 ⟨Nat.le_of_ble_eq_true rfl, Nat.le_of_ble_eq_true rfl⟩ rfl (Nat.le_of_ble_eq_true rfl) ⟨Nat.le_of_ble_eq_true rfl, Nat.le_of_ble_eq_true rfl⟩ rfl dX13_next_7 (fun r0 q0 => c_Md_isPlanet l w _ _ _ _ q0) (fun r8 er8 nr8 => ?_)
    refine j_ifeq C (tgt := 21) dX13_next_10 (by decide) (fun q9 => ?_) (fun q9 => ?_)
    · exact j_sub [0] rfl (hj4 _)
    · refine j_aload_n C dX13_next_13 (i := 0) rfl rfl ?_
      refine j_iload_n C dX13_next_14 (i := 2) rfl rfl ?_
      refine j_callVi C (As := [.int _]) (rest := []) k_X13_268 ⟨Nat.le_of_ble_eq_true rfl, Nat.le_of_ble_eq_true rfl⟩ rfl (Nat.le_of_ble_eq_true rfl) ⟨Nat.le_of_ble_eq_true rfl, Nat.le_of_ble_eq_true rfl⟩ rfl dX13_next_15 (fun r0 q0 => c_Md_isPlanet l w _ _ _ _ q0) (fun r10 er10 nr10 => ?_)
      refine j_ifne C (tgt := 27) dX13_next_18 (by decide) (fun q11 => ?_) (fun q11 => ?_)
      · exact j_sub [0] rfl (hj4 _)
      · refine j_aload_n C dX13_next_27 (i := 0) rfl rfl ?_
        refine j_getR C g_X13_51 dX13_next_28 (fun v12 ev12 => ?_)
        refine j_aload_n C dX13_next_31 (i := 0) rfl rfl ?_
        refine j_getR C g_X13_47 dX13_next_32 (fun v13 ev13 => ?_)
        refine j_callVv C (As := [.ref _]) (rest := []) k_X13_295 ⟨Nat.le_of_ble_eq_true rfl, Nat.le_of_ble_eq_true rfl⟩ rfl (Nat.le_of_ble_eq_true rfl) ⟨Nat.le_of_ble_eq_true rfl, Nat.le_of_ble_eq_true rfl⟩ rfl dX13_next_35 (fun r0 q0 => c_St_become l w _ _ _ _ q0) (fun h14 eh14 _ => ?_)
        refine j_iconst C (v := 1) dX13_next_38 (by decide) ?_
        refine j_istore C [(4, _), (0, _), (1, _), (2, _), (3, _)] dX13_next_39 (by decide) rfl ?_
        refine j_sub [1, 2, 3, 4, 0] rfl (b_Md_next_41 fl  _ _ _ _ C hr hlk hnm hQ  _ _ _)
def f_Md_spells_b29 (fl : Nat) (a0 : Nat) : Nat → Int32 → Int32 → hp_M → Option (Int32 × hp_M)
  | 0, _, _, _ => none
  | n + 1, x1, x2, h => if 400 < x2 then (some ((-1), h)) else ((gR h a0 12 14).bind fun v1008 => (onO h v1008 10 (f_St_find fl v1008 x1 h)).bind fun r1009 => if r1009 = (-1) then ((gR h a0 12 14).bind fun v1011 => (gI h v1011 10 6).bind fun v1012 => (gI h a0 12 2).bind fun v1013 => (gR h a0 12 14).bind fun v1014 => (onO h v1014 10 (f_St_pass fl v1014 h)).bind fun r1015 => f_Md_spells_b29 fl a0 n (imax 0 ((v1012 - v1013) + 1)) (x2 + 1) r1015.2) else (some (x2, h)))
def f_Md_spells (fl : Nat) (a0 : Nat) (h : hp_M) : Option (Int32 × hp_M) := (pF h a0 12 0 (.int 0)).bind fun h1 => (gI h1 a0 12 2).bind fun v2 => if v2 = 0 then (some ((-1), h1)) else ((gR h1 a0 12 14).bind fun v4 => (gR h1 a0 12 13).bind fun v5 => (onO h1 v4 10 (f_St_become v4 v5 h1)).bind fun h6 => f_Md_spells_b29 fl a0 fl 0 0 h6)
set_option maxRecDepth 100000 in
set_option maxHeartbeats 4000000 in
theorem b_Md_spells_29 {p : Program} {l : Launch} {e : Env} {s : State} {m : MethodId} {args : Array Value} {below : List Frame} {meth : Method} {c : Code} {Q : State → Prop} {w : hp_W} {out : Int32 × hp_M} (fl : Nat)   (a0 : Nat) (C : Cx p m c cX13_spells 3 s args RX13 w) (hr : meth.sig.returnType = some .int) (hlk : meth.locks = false) (hnm : meth.name = "spells") (hQ : QM below w args s ({ frames := 11, cells := 0, slots := 0, locals := 320 }) (some .int) (some (.int out.1)) out.2 = Q)  : ∀ (n : Nat) (x1 : Int32) (x2 : Int32) (h : hp_M), J p l e ({ frames := 11, cells := 0, slots := 0, locals := 320 }) s m args below meth c Q w 3 0 0 29 [(0, .ref a0), (1, .int x1), (2, .int x2)] [] h (f_Md_spells_b29 fl a0 n x1 x2 h) out := by
  intro n
  induction n with
  | zero => intro x1 x2 h; exact j_none
  | succ n ih =>
    intro x1 x2 h
    rw [f_Md_spells_b29]
    refine j_iload_n C dX13_spells_29 (i := 2) rfl rfl ?_
    refine j_sipush C (v := 400) dX13_spells_30 (by decide) ?_
    refine j_icmpgt C (tgt := 83) dX13_spells_33 (by decide) (fun q1007 => ?_) (fun q1007 => ?_)
    · refine j_iconst C (v := -1) dX13_spells_83 (by decide) ?_
      exact e_iretM C hQ hr rfl hlk dX13_spells_84 (Nat.le_of_ble_eq_true rfl) (Nat.le_of_ble_eq_true rfl)
    · refine j_aload_n C dX13_spells_36 (i := 0) rfl rfl ?_
      refine j_getR C g_X13_51 dX13_spells_37 (fun v1008 ev1008 => ?_)
      refine j_iload_n C dX13_spells_40 (i := 1) rfl rfl ?_
      refine j_callVi C (As := [.int _]) (rest := []) k_X13_289 ⟨Nat.le_of_ble_eq_true rfl, Nat.le_of_ble_eq_true rfl⟩ rfl (Nat.le_of_ble_eq_true rfl) ⟨Nat.le_of_ble_eq_true rfl, Nat.le_of_ble_eq_true rfl⟩ rfl dX13_spells_41 (fun r0 q0 => c_St_find l w fl _ _ _ _ q0) (fun r1009 er1009 nr1009 => ?_)
      refine j_iconst C (v := -1) dX13_spells_44 (by decide) ?_
      refine j_icmpeq C (tgt := 50) dX13_spells_45 (by decide) (fun q1010 => ?_) (fun q1010 => ?_)
      · refine j_iconst C (v := 0) dX13_spells_50 (by decide) ?_
        refine j_aload_n C dX13_spells_51 (i := 0) rfl rfl ?_
        refine j_getR C g_X13_51 dX13_spells_52 (fun v1011 ev1011 => ?_)
        refine j_getI C g_X13_256 dX13_spells_55 (fun v1012 ev1012 => ?_)
        refine j_aload_n C dX13_spells_58 (i := 0) rfl rfl ?_
        refine j_getI C g_X13_79 dX13_spells_59 (fun v1013 ev1013 => ?_)
        refine j_isub C dX13_spells_62 ?_
        refine j_iconst C (v := 1) dX13_spells_63 (by decide) ?_
        refine j_iadd C dX13_spells_64 ?_
        refine j_mmax C ⟨k_X13_76, Nat.le_of_ble_eq_true rfl, Nat.le_of_ble_eq_true rfl⟩ (Nat.le_of_ble_eq_true rfl) (Nat.le_of_ble_eq_true rfl) dX13_spells_65 ?_
        refine j_istore_n C [(1, _), (0, _), (2, _)] dX13_spells_68 (i := 1) rfl (by decide) rfl ?_
        refine j_aload_n C dX13_spells_69 (i := 0) rfl rfl ?_
        refine j_getR C g_X13_51 dX13_spells_70 (fun v1014 ev1014 => ?_)
        refine j_callVim C (As := []) (rest := []) k_X13_283 ⟨Nat.le_of_ble_eq_true rfl, Nat.le_of_ble_eq_true rfl⟩ rfl (Nat.le_of_ble_eq_true rfl) ⟨Nat.le_of_ble_eq_true rfl, Nat.le_of_ble_eq_true rfl⟩ rfl dX13_spells_73 (fun r0 q0 => c_St_pass l w fl _ _ _ q0) (fun r1015 er1015 nr1015 => ?_)
        refine j_pop C dX13_spells_76 rfl ?_
        refine j_iinc C (v := x2 + 1) [(2, _), (1, _), (0, _)] dX13_spells_77 rfl rfl (by decide) rfl ?_
        refine j_goto C (tgt := 29) dX13_spells_80 (by decide) ?_
        exact j_sub [2, 1, 0] rfl (ih _ _ _)
      · refine j_iload_n C dX13_spells_48 (i := 2) rfl rfl ?_
        exact e_iretM C hQ hr rfl hlk dX13_spells_49 (Nat.le_of_ble_eq_true rfl) (Nat.le_of_ble_eq_true rfl)
set_option maxRecDepth 100000 in
set_option maxHeartbeats 4000000 in
theorem c_Md_spells (l : Launch) (w : hp_W) (fl : Nat) (a0 : Nat) (h : hp_M) (out : Int32 × hp_M) (hX : f_Md_spells fl a0 h = some out) : CT l w yX13_spells cX13_spells 3 (some .int) ({ frames := 11, cells := 0, slots := 0, locals := 320 }) [.ref a0] h (some (.int out.1)) out.2 := by
  unfold f_Md_spells at hX
  refine ct_of (by decide +kernel) (Nat.le_of_ble_eq_true rfl) hX ?_
  intro p e s m args below meth c Q C hr hlk hnm hQ
  refine j_aload_n C dX13_spells_0 (i := 0) rfl rfl ?_
  refine j_iconst C (v := 0) dX13_spells_1 (by decide) ?_
  refine j_putI C p_X13_54 (fun q => nomatch q) dX13_spells_2 (fun h1 eh1 => ?_)
  refine j_aload_n C dX13_spells_5 (i := 0) rfl rfl ?_
  refine j_getI C g_X13_79 dX13_spells_6 (fun v2 ev2 => ?_)
  refine j_ifne C (tgt := 14) dX13_spells_9 (by decide) (fun q3 => ?_) (fun q3 => ?_)
  · refine j_iconst C (v := -1) dX13_spells_12 (by decide) ?_
    exact e_iretM C hQ hr rfl hlk dX13_spells_13 (Nat.le_of_ble_eq_true rfl) (Nat.le_of_ble_eq_true rfl)
  · refine j_aload_n C dX13_spells_14 (i := 0) rfl rfl ?_
    refine j_getR C g_X13_51 dX13_spells_15 (fun v4 ev4 => ?_)
    refine j_aload_n C dX13_spells_18 (i := 0) rfl rfl ?_
    refine j_getR C g_X13_47 dX13_spells_19 (fun v5 ev5 => ?_)
    refine j_callVv C (As := [.ref _]) (rest := []) k_X13_295 ⟨Nat.le_of_ble_eq_true rfl, Nat.le_of_ble_eq_true rfl⟩ rfl (Nat.le_of_ble_eq_true rfl) ⟨Nat.le_of_ble_eq_true rfl, Nat.le_of_ble_eq_true rfl⟩ rfl dX13_spells_22 (fun r0 q0 => c_St_become l w _ _ _ _ q0) (fun h6 eh6 _ => ?_)
    refine j_iconst C (v := 0) dX13_spells_25 (by decide) ?_
    refine j_istore_n C [(1, _), (0, _)] dX13_spells_26 (i := 1) rfl (by decide) rfl ?_
    refine j_iconst C (v := 0) dX13_spells_27 (by decide) ?_
    refine j_istore_n C [(2, _), (1, _), (0, _)] dX13_spells_28 (i := 2) rfl (by decide) rfl ?_
    refine j_sub [2, 1, 0] rfl (b_Md_spells_29 fl  _ C hr hlk hnm hQ  _ _ _ _)
def f_Md_again_b62 (fl : Nat) (a0 : Nat) (x1 : Int32) (x2 : Int32) (h : hp_M) (k111 : Int32 → Option (Int32 × hp_M)) : Nat → Int32 → Int32 → Option (Int32 × hp_M)
  | 0, _, _ => none
  | n + 1, x3, x4 => (gR h a0 12 11).bind fun v2022 => (gI h v2022 11 0).bind fun v2023 => if v2023 ≤ x4 then (k111 x3) else (jn (fun (u2032 : Int32) (u2033 : Int32) => f_Md_again_b62 fl a0 x1 x2 h k111 n (u2033 &&& u2032) (x4 + 1)) fun (j2031 : Int32 → Int32 → Option (Int32 × hp_M)) => (gR h a0 12 14).bind fun v2034 => (gR h v2034 10 1).bind fun v2035 => (gaI h v2035 x4).bind fun v2036 => (gR h a0 12 13).bind fun v2037 => (gR h v2037 10 1).bind fun v2038 => (gaI h v2038 x4).bind fun v2039 => if v2036 = v2039 then (j2031 1 x3) else (j2031 0 x3))
def f_Md_again_b35 (fl : Nat) (a0 : Nat) (x1 : Int32) : Nat → Int32 → hp_M → Option (Int32 × hp_M)
  | 0, _, _ => none
  | n + 1, x2, h => if x1 < x2 then (some ((-1), h)) else ((gR h a0 12 11).bind fun v1009 => (gI h v1009 11 0).bind fun v1010 => if v1010 ≤ 0 then (some ((-1), h)) else ((gR h a0 12 14).bind fun v1012 => (onO h v1012 10 (f_St_move fl v1012 h)).bind fun h1013 => f_Md_again_b62 fl a0 x1 x2 h1013 (fun (u1014 : Int32) => if u1014 = 0 then (f_Md_again_b35 fl a0 x1 n (x2 + 1) h1013) else (some (x2, h1013))) fl 1 0))
def f_Md_again (fl : Nat) (a0 : Nat) (x1 : Int32) (h : hp_M) : Option (Int32 × hp_M) := (pF h a0 12 0 (.int 0)).bind fun h1 => (f_Md_isIn x1 1 2000 h1).bind fun r2 => if r2 = 0 then ((onO h1 a0 12 (f_Md_no a0 1 h1)).bind fun r4 => some (r4.1, r4.2)) else ((gR h1 a0 12 14).bind fun v5 => (gR h1 a0 12 13).bind fun v6 => (onO h1 v5 10 (f_St_become v5 v6 h1)).bind fun h7 => f_Md_again_b35 fl a0 x1 fl 1 h7)
set_option maxRecDepth 100000 in
set_option maxHeartbeats 4000000 in
theorem b_Md_again_62 {p : Program} {l : Launch} {e : Env} {s : State} {m : MethodId} {args : Array Value} {below : List Frame} {meth : Method} {c : Code} {Q : State → Prop} {w : hp_W} {out : Int32 × hp_M} (fl : Nat)   (a0 : Nat) (x1 : Int32) (x2 : Int32) (h : hp_M) (k111 : Int32 → Option (Int32 × hp_M)) (C : Cx p m c cX13_again 5 s args RX13 w) (hr : meth.sig.returnType = some .int) (hlk : meth.locks = false) (hnm : meth.name = "again") (hQ : QM below w args s ({ frames := 8, cells := 0, slots := 0, locals := 243 }) (some .int) (some (.int out.1)) out.2 = Q) (hk111 : ∀ (z3 : Int32), J p l e ({ frames := 8, cells := 0, slots := 0, locals := 243 }) s m args below meth c Q w 5 0 0 111 [(0, .ref a0), (1, .int x1), (2, .int x2), (3, .int z3)] [] h (k111 z3) out) : ∀ (n : Nat) (x3 : Int32) (x4 : Int32), J p l e ({ frames := 8, cells := 0, slots := 0, locals := 243 }) s m args below meth c Q w 5 0 0 62 [(0, .ref a0), (1, .int x1), (2, .int x2), (3, .int x3), (4, .int x4)] [] h (f_Md_again_b62 fl a0 x1 x2 h k111 n x3 x4) out := by
  intro n
  induction n with
  | zero => intro x3 x4; exact j_none
  | succ n ih =>
    intro x3 x4
    rw [f_Md_again_b62]
    refine j_iload C dX13_again_62 rfl ?_
    refine j_aload_n C dX13_again_64 (i := 0) rfl rfl ?_
    refine j_getR C g_X13_35 dX13_again_65 (fun v2022 ev2022 => ?_)
    refine j_getI C g_X13_57 dX13_again_68 (fun v2023 ev2023 => ?_)
    refine j_icmpge C (tgt := 111) dX13_again_71 (by decide) (fun q2024 => ?_) (fun q2024 => ?_)
    · exact j_sub [0, 1, 2, 3] rfl (hk111 _)
    · refine j_jn (P := fun (j2031 : Int32 → Int32 → Option (Int32 × hp_M)) => ∀ (u2032 : Int32) (u2033 : Int32), J p l e ({ frames := 8, cells := 0, slots := 0, locals := 243 }) s m args below meth c Q w 5 0 0 103 [(0, .ref a0), (1, .int x1), (2, .int x2), (4, .int x4)] [.int u2032, .int u2033] h (j2031 u2032 u2033) out) ?_ (fun j2031 hj2031 => ?_)
      · intro u2032 u2033
        refine j_iand C dX13_again_103 ?_
        refine j_istore_n C [(3, _), (0, _), (1, _), (2, _), (4, _)] dX13_again_104 (i := 3) rfl (by decide) rfl ?_
        refine j_iinc C (v := x4 + 1) [(4, _), (3, _), (0, _), (1, _), (2, _)] dX13_again_105 rfl rfl (by decide) rfl ?_
        refine j_goto C (tgt := 62) dX13_again_108 (by decide) ?_
        exact j_sub [2, 3, 4, 1, 0] rfl (ih _ _)
      · refine j_iload_n C dX13_again_74 (i := 3) rfl rfl ?_
        refine j_aload_n C dX13_again_75 (i := 0) rfl rfl ?_
        refine j_getR C g_X13_51 dX13_again_76 (fun v2034 ev2034 => ?_)
        refine j_getR C g_X13_265 dX13_again_79 (fun v2035 ev2035 => ?_)
        refine j_iload C dX13_again_82 rfl ?_
        refine j_iaload C dX13_again_84 (fun v2036 ev2036 => ?_)
        refine j_aload_n C dX13_again_85 (i := 0) rfl rfl ?_
        refine j_getR C g_X13_47 dX13_again_86 (fun v2037 ev2037 => ?_)
        refine j_getR C g_X13_265 dX13_again_89 (fun v2038 ev2038 => ?_)
        refine j_iload C dX13_again_92 rfl ?_
        refine j_iaload C dX13_again_94 (fun v2039 ev2039 => ?_)
        refine j_icmpne C (tgt := 102) dX13_again_95 (by decide) (fun q2040 => ?_) (fun q2040 => ?_)
        · refine j_iconst C (v := 1) dX13_again_98 (by decide) ?_
          refine j_goto C (tgt := 103) dX13_again_99 (by decide) ?_
          exact j_sub [0, 1, 2, 4] rfl (hj2031 _ _)
        · refine j_iconst C (v := 0) dX13_again_102 (by decide) ?_
          exact j_sub [0, 1, 2, 4] rfl (hj2031 _ _)
set_option maxRecDepth 100000 in
set_option maxHeartbeats 4000000 in
theorem b_Md_again_35 {p : Program} {l : Launch} {e : Env} {s : State} {m : MethodId} {args : Array Value} {below : List Frame} {meth : Method} {c : Code} {Q : State → Prop} {w : hp_W} {out : Int32 × hp_M} (fl : Nat)   (a0 : Nat) (x1 : Int32) (C : Cx p m c cX13_again 5 s args RX13 w) (hr : meth.sig.returnType = some .int) (hlk : meth.locks = false) (hnm : meth.name = "again") (hQ : QM below w args s ({ frames := 8, cells := 0, slots := 0, locals := 243 }) (some .int) (some (.int out.1)) out.2 = Q)  : ∀ (n : Nat) (x2 : Int32) (h : hp_M), J p l e ({ frames := 8, cells := 0, slots := 0, locals := 243 }) s m args below meth c Q w 5 0 0 35 [(0, .ref a0), (1, .int x1), (2, .int x2)] [] h (f_Md_again_b35 fl a0 x1 n x2 h) out := by
  intro n
  induction n with
  | zero => intro x2 h; exact j_none
  | succ n ih =>
    intro x2 h
    rw [f_Md_again_b35]
    refine j_iload_n C dX13_again_35 (i := 2) rfl rfl ?_
    refine j_iload_n C dX13_again_36 (i := 1) rfl rfl ?_
    refine j_icmpgt C (tgt := 123) dX13_again_37 (by decide) (fun q1008 => ?_) (fun q1008 => ?_)
    · refine j_iconst C (v := -1) dX13_again_123 (by decide) ?_
      exact e_iretM C hQ hr rfl hlk dX13_again_124 (Nat.le_of_ble_eq_true rfl) (Nat.le_of_ble_eq_true rfl)
    · refine j_aload_n C dX13_again_40 (i := 0) rfl rfl ?_
      refine j_getR C g_X13_35 dX13_again_41 (fun v1009 ev1009 => ?_)
      refine j_getI C g_X13_57 dX13_again_44 (fun v1010 ev1010 => ?_)
      refine j_ifle C (tgt := 123) dX13_again_47 (by decide) (fun q1011 => ?_) (fun q1011 => ?_)
      · refine j_iconst C (v := -1) dX13_again_123 (by decide) ?_
        exact e_iretM C hQ hr rfl hlk dX13_again_124 (Nat.le_of_ble_eq_true rfl) (Nat.le_of_ble_eq_true rfl)
      · refine j_aload_n C dX13_again_50 (i := 0) rfl rfl ?_
        refine j_getR C g_X13_51 dX13_again_51 (fun v1012 ev1012 => ?_)
        refine j_callVv C (As := []) (rest := []) k_X13_302 ⟨Nat.le_of_ble_eq_true rfl, Nat.le_of_ble_eq_true rfl⟩ rfl (Nat.le_of_ble_eq_true rfl) ⟨Nat.le_of_ble_eq_true rfl, Nat.le_of_ble_eq_true rfl⟩ rfl dX13_again_54 (fun r0 q0 => c_St_move l w fl _ _ _ q0) (fun h1013 eh1013 _ => ?_)
        refine j_iconst C (v := 1) dX13_again_57 (by decide) ?_
        refine j_istore_n C [(3, _), (0, _), (1, _), (2, _)] dX13_again_58 (i := 3) rfl (by decide) rfl ?_
        refine j_iconst C (v := 0) dX13_again_59 (by decide) ?_
        refine j_istore C [(4, _), (3, _), (0, _), (1, _), (2, _)] dX13_again_60 (by decide) rfl ?_
        refine j_sub [2, 3, 4, 1, 0] rfl (b_Md_again_62 fl  _ _ _ _ _ C hr hlk hnm hQ (fun u1014 => ?_) _ _ _)
        refine j_iload_n C dX13_again_111 (i := 3) rfl rfl ?_
        refine j_ifeq C (tgt := 117) dX13_again_112 (by decide) (fun q1015 => ?_) (fun q1015 => ?_)
        · refine j_iinc C (v := x2 + 1) [(2, _), (0, _), (1, _), (3, _)] dX13_again_117 rfl rfl (by decide) rfl ?_
          refine j_goto C (tgt := 35) dX13_again_120 (by decide) ?_
          exact j_sub [1, 2, 0] rfl (ih _ _)
        · refine j_iload_n C dX13_again_115 (i := 2) rfl rfl ?_
          exact e_iretM C hQ hr rfl hlk dX13_again_116 (Nat.le_of_ble_eq_true rfl) (Nat.le_of_ble_eq_true rfl)
set_option maxRecDepth 100000 in
set_option maxHeartbeats 4000000 in
theorem c_Md_again (l : Launch) (w : hp_W) (fl : Nat) (a0 : Nat) (x1 : Int32) (h : hp_M) (out : Int32 × hp_M) (hX : f_Md_again fl a0 x1 h = some out) : CT l w yX13_again cX13_again 5 (some .int) ({ frames := 8, cells := 0, slots := 0, locals := 243 }) [.ref a0, .int x1] h (some (.int out.1)) out.2 := by
  unfold f_Md_again at hX
  refine ct_of (by decide +kernel) (Nat.le_of_ble_eq_true rfl) hX ?_
  intro p e s m args below meth c Q C hr hlk hnm hQ
  refine j_aload_n C dX13_again_0 (i := 0) rfl rfl ?_
  refine j_iconst C (v := 0) dX13_again_1 (by decide) ?_
  refine j_putI C p_X13_54 (fun q => nomatch q) dX13_again_2 (fun h1 eh1 => ?_)
  refine j_iload_n C dX13_again_5 (i := 1) rfl rfl ?_
  refine j_iconst C (v := 1) dX13_again_6 (by decide) ?_
  refine j_sipush C (v := 2000) dX13_again_7 (by decide) ?_
  refine j_callSi C (As := [.int _, .int _, .int _]) (rest := []) k_X13_60 ⟨Nat.le_of_ble_eq_true rfl, Nat.le_of_ble_eq_true rfl⟩ rfl (Nat.le_of_ble_eq_true rfl) ⟨Nat.le_of_ble_eq_true rfl, Nat.le_of_ble_eq_true rfl⟩ rfl dX13_again_10 (fun r0 q0 => c_Md_isIn l w _ _ _ _ _ q0) (fun r2 er2 nr2 => ?_)
  refine j_ifne C (tgt := 22) dX13_again_13 (by decide) (fun q3 => ?_) (fun q3 => ?_)
  · refine j_aload_n C dX13_again_16 (i := 0) rfl rfl ?_
    refine j_iconst C (v := 1) dX13_again_17 (by decide) ?_
    refine j_callVim C (As := [.int _]) (rest := []) k_X13_234 ⟨Nat.le_of_ble_eq_true rfl, Nat.le_of_ble_eq_true rfl⟩ rfl (Nat.le_of_ble_eq_true rfl) ⟨Nat.le_of_ble_eq_true rfl, Nat.le_of_ble_eq_true rfl⟩ rfl dX13_again_18 (fun r0 q0 => c_Md_no l w _ _ _ _ q0) (fun r4 er4 nr4 => ?_)
    exact e_iretM C hQ hr rfl hlk dX13_again_21 (Nat.le_of_ble_eq_true rfl) (Nat.le_of_ble_eq_true rfl)
  · refine j_aload_n C dX13_again_22 (i := 0) rfl rfl ?_
    refine j_getR C g_X13_51 dX13_again_23 (fun v5 ev5 => ?_)
    refine j_aload_n C dX13_again_26 (i := 0) rfl rfl ?_
    refine j_getR C g_X13_47 dX13_again_27 (fun v6 ev6 => ?_)
    refine j_callVv C (As := [.ref _]) (rest := []) k_X13_295 ⟨Nat.le_of_ble_eq_true rfl, Nat.le_of_ble_eq_true rfl⟩ rfl (Nat.le_of_ble_eq_true rfl) ⟨Nat.le_of_ble_eq_true rfl, Nat.le_of_ble_eq_true rfl⟩ rfl dX13_again_30 (fun r0 q0 => c_St_become l w _ _ _ _ q0) (fun h7 eh7 _ => ?_)
    refine j_iconst C (v := 1) dX13_again_33 (by decide) ?_
    refine j_istore_n C [(2, _), (0, _), (1, _)] dX13_again_34 (i := 2) rfl (by decide) rfl ?_
    refine j_sub [1, 2, 0] rfl (b_Md_again_35 fl  _ _ C hr hlk hnm hQ  _ _ _)
def f_Md_advise_b94 (fl : Nat) (a0 : Nat) (x1 : Int32) (x2 : Int32) (x3 : Int32) (x4 : Int32) (x5 : Int32) (k118 : Int32 → hp_M → Option (Int32 × hp_M)) : Nat → Int32 → Int32 → hp_M → Option (Int32 × hp_M)
  | 0, _, _, _ => none
  | n + 1, x6, x7, h => if x2 ≤ x7 then (k118 x6 h) else ((gR h a0 12 14).bind fun v2021 => (onO h v2021 10 (f_St_pass fl v2021 h)).bind fun r2022 => f_Md_advise_b94 fl a0 x1 x2 x3 x4 x5 k118 n (x6 + r2022.1) (x7 + 1) r2022.2)
def f_Md_advise_b43 (fl : Nat) (a0 : Nat) (x1 : Int32) (x2 : Int32) : Nat → Int32 → Int32 → Int32 → hp_M → Option (Int32 × hp_M)
  | 0, _, _, _, _ => none
  | n + 1, x3, x4, x5, h => if 36 ≤ x5 then (some (x3, h)) else ((gR h a0 12 14).bind fun v1009 => (gR h a0 12 13).bind fun v1010 => (onO h v1009 10 (f_St_become v1009 v1010 h)).bind fun h1011 => (gR h1011 a0 12 14).bind fun v1012 => (gR h1011 a0 12 13).bind fun v1013 => (gR h1011 v1013 10 1).bind fun v1014 => (gaI h1011 v1014 x1).bind fun v1015 => (remI (v1015 + (10 * x5)) 360).bind fun v1016 => (onO h1011 v1012 10 (f_St_set v1012 x1 v1016 h1011)).bind fun h1017 => f_Md_advise_b94 fl a0 x1 x2 x3 x4 x5 (fun (u1018 : Int32) (h1019 : hp_M) => jn (fun (u1021 : Int32) (u1022 : Int32) => f_Md_advise_b43 fl a0 x1 x2 n u1021 u1022 (x5 + 1) h1019) fun (j1020 : Int32 → Int32 → Option (Int32 × hp_M)) => if x4 < u1018 then (j1020 x5 u1018) else (j1020 x3 x4)) fl 0 0 h1017)
def f_Md_advise (fl : Nat) (a0 : Nat) (x1 : Int32) (x2 : Int32) (h : hp_M) : Option (Int32 × hp_M) := (pF h a0 12 0 (.int 0)).bind fun h1 => (onO h1 a0 12 (f_Md_isPlanet a0 x1 h1)).bind fun r2 => if r2 = 0 then ((onO h1 a0 12 (f_Md_no a0 1 h1)).bind fun r4 => some (r4.1, r4.2)) else ((f_Md_isIn x2 1 60 h1).bind fun r5 => if r5 = 0 then ((onO h1 a0 12 (f_Md_no a0 2 h1)).bind fun r7 => some (r7.1, r7.2)) else (f_Md_advise_b43 fl a0 x1 x2 fl 0 (-1) 0 h1))
set_option maxRecDepth 100000 in
set_option maxHeartbeats 4000000 in
theorem b_Md_advise_94 {p : Program} {l : Launch} {e : Env} {s : State} {m : MethodId} {args : Array Value} {below : List Frame} {meth : Method} {c : Code} {Q : State → Prop} {w : hp_W} {out : Int32 × hp_M} (fl : Nat)   (a0 : Nat) (x1 : Int32) (x2 : Int32) (x3 : Int32) (x4 : Int32) (x5 : Int32) (k118 : Int32 → hp_M → Option (Int32 × hp_M)) (C : Cx p m c cX13_advise 8 s args RX13 w) (hr : meth.sig.returnType = some .int) (hlk : meth.locks = false) (hnm : meth.name = "advise") (hQ : QM below w args s ({ frames := 11, cells := 0, slots := 0, locals := 320 }) (some .int) (some (.int out.1)) out.2 = Q) (hk118 : ∀ (z6 : Int32) (hz : hp_M), J p l e ({ frames := 11, cells := 0, slots := 0, locals := 320 }) s m args below meth c Q w 8 0 0 118 [(0, .ref a0), (1, .int x1), (2, .int x2), (3, .int x3), (4, .int x4), (5, .int x5), (6, .int z6)] [] hz (k118 z6 hz) out) : ∀ (n : Nat) (x6 : Int32) (x7 : Int32) (h : hp_M), J p l e ({ frames := 11, cells := 0, slots := 0, locals := 320 }) s m args below meth c Q w 8 0 0 94 [(0, .ref a0), (1, .int x1), (2, .int x2), (3, .int x3), (4, .int x4), (5, .int x5), (6, .int x6), (7, .int x7)] [] h (f_Md_advise_b94 fl a0 x1 x2 x3 x4 x5 k118 n x6 x7 h) out := by
  intro n
  induction n with
  | zero => intro x6 x7 h; exact j_none
  | succ n ih =>
    intro x6 x7 h
    rw [f_Md_advise_b94]
    refine j_iload C dX13_advise_94 rfl ?_
    refine j_iload_n C dX13_advise_96 (i := 2) rfl rfl ?_
    refine j_icmpge C (tgt := 118) dX13_advise_97 (by decide) (fun q2020 => ?_) (fun q2020 => ?_)
    · exact j_sub [0, 1, 2, 3, 4, 5, 6] rfl (hk118 _ _)
    · refine j_iload C dX13_advise_100 rfl ?_
      refine j_aload_n C dX13_advise_102 (i := 0) rfl rfl ?_
      refine j_getR C g_X13_51 dX13_advise_103 (fun v2021 ev2021 => ?_)
      refine j_callVim C (As := []) (rest := [_]) k_X13_283 ⟨Nat.le_of_ble_eq_true rfl, Nat.le_of_ble_eq_true rfl⟩ rfl (Nat.le_of_ble_eq_true rfl) ⟨Nat.le_of_ble_eq_true rfl, Nat.le_of_ble_eq_true rfl⟩ rfl dX13_advise_106 (fun r0 q0 => c_St_pass l w fl _ _ _ q0) (fun r2022 er2022 nr2022 => ?_)
      refine j_iadd C dX13_advise_109 ?_
      refine j_istore C [(6, _), (0, _), (1, _), (2, _), (3, _), (4, _), (5, _), (7, _)] dX13_advise_110 (by decide) rfl ?_
      refine j_iinc C (v := x7 + 1) [(7, _), (6, _), (0, _), (1, _), (2, _), (3, _), (4, _), (5, _)] dX13_advise_112 rfl rfl (by decide) rfl ?_
      refine j_goto C (tgt := 94) dX13_advise_115 (by decide) ?_
      exact j_sub [2, 3, 4, 5, 6, 7, 1, 0] rfl (ih _ _ _)
set_option maxRecDepth 100000 in
set_option maxHeartbeats 4000000 in
theorem b_Md_advise_43 {p : Program} {l : Launch} {e : Env} {s : State} {m : MethodId} {args : Array Value} {below : List Frame} {meth : Method} {c : Code} {Q : State → Prop} {w : hp_W} {out : Int32 × hp_M} (fl : Nat)   (a0 : Nat) (x1 : Int32) (x2 : Int32) (C : Cx p m c cX13_advise 8 s args RX13 w) (hr : meth.sig.returnType = some .int) (hlk : meth.locks = false) (hnm : meth.name = "advise") (hQ : QM below w args s ({ frames := 11, cells := 0, slots := 0, locals := 320 }) (some .int) (some (.int out.1)) out.2 = Q)  : ∀ (n : Nat) (x3 : Int32) (x4 : Int32) (x5 : Int32) (h : hp_M), J p l e ({ frames := 11, cells := 0, slots := 0, locals := 320 }) s m args below meth c Q w 8 0 0 43 [(0, .ref a0), (1, .int x1), (2, .int x2), (3, .int x3), (4, .int x4), (5, .int x5)] [] h (f_Md_advise_b43 fl a0 x1 x2 n x3 x4 x5 h) out := by
  intro n
  induction n with
  | zero => intro x3 x4 x5 h; exact j_none
  | succ n ih =>
    intro x3 x4 x5 h
    rw [f_Md_advise_b43]
    refine j_iload C dX13_advise_43 rfl ?_
    refine j_bipush C (v := 36) dX13_advise_45 (by decide) ?_
    refine j_icmpge C (tgt := 141) dX13_advise_47 (by decide) (fun q1008 => ?_) (fun q1008 => ?_)
    · refine j_iload_n C dX13_advise_141 (i := 3) rfl rfl ?_
      exact e_iretM C hQ hr rfl hlk dX13_advise_142 (Nat.le_of_ble_eq_true rfl) (Nat.le_of_ble_eq_true rfl)
    · refine j_aload_n C dX13_advise_50 (i := 0) rfl rfl ?_
      refine j_getR C g_X13_51 dX13_advise_51 (fun v1009 ev1009 => ?_)
      refine j_aload_n C dX13_advise_54 (i := 0) rfl rfl ?_
      refine j_getR C g_X13_47 dX13_advise_55 (fun v1010 ev1010 => ?_)
      refine j_callVv C (As := [.ref _]) (rest := []) k_X13_295 ⟨Nat.le_of_ble_eq_true rfl, Nat.le_of_ble_eq_true rfl⟩ rfl (Nat.le_of_ble_eq_true rfl) ⟨Nat.le_of_ble_eq_true rfl, Nat.le_of_ble_eq_true rfl⟩ rfl dX13_advise_58 (fun r0 q0 => c_St_become l w _ _ _ _ q0) (fun h1011 eh1011 _ => ?_)
      refine j_aload_n C dX13_advise_61 (i := 0) rfl rfl ?_
      refine j_getR C g_X13_51 dX13_advise_62 (fun v1012 ev1012 => ?_)
      refine j_iload_n C dX13_advise_65 (i := 1) rfl rfl ?_
      refine j_aload_n C dX13_advise_66 (i := 0) rfl rfl ?_
      refine j_getR C g_X13_47 dX13_advise_67 (fun v1013 ev1013 => ?_)
      refine j_getR C g_X13_265 dX13_advise_70 (fun v1014 ev1014 => ?_)
      refine j_iload_n C dX13_advise_73 (i := 1) rfl rfl ?_
      refine j_iaload C dX13_advise_74 (fun v1015 ev1015 => ?_)
      refine j_bipush C (v := 10) dX13_advise_75 (by decide) ?_
      refine j_iload C dX13_advise_77 rfl ?_
      refine j_imul C dX13_advise_79 ?_
      refine j_iadd C dX13_advise_80 ?_
      refine j_sipush C (v := 360) dX13_advise_81 (by decide) ?_
      refine j_irem C dX13_advise_84 (fun v1016 ev1016 => ?_)
      refine j_callVv C (As := [.int _, .int _]) (rest := []) k_X13_240 ⟨Nat.le_of_ble_eq_true rfl, Nat.le_of_ble_eq_true rfl⟩ rfl (Nat.le_of_ble_eq_true rfl) ⟨Nat.le_of_ble_eq_true rfl, Nat.le_of_ble_eq_true rfl⟩ rfl dX13_advise_85 (fun r0 q0 => c_St_set l w _ _ _ _ _ q0) (fun h1017 eh1017 _ => ?_)
      refine j_iconst C (v := 0) dX13_advise_88 (by decide) ?_
      refine j_istore C [(6, _), (0, _), (1, _), (2, _), (3, _), (4, _), (5, _)] dX13_advise_89 (by decide) rfl ?_
      refine j_iconst C (v := 0) dX13_advise_91 (by decide) ?_
      refine j_istore C [(7, _), (6, _), (0, _), (1, _), (2, _), (3, _), (4, _), (5, _)] dX13_advise_92 (by decide) rfl ?_
      refine j_sub [2, 3, 4, 5, 6, 7, 1, 0] rfl (b_Md_advise_94 fl  _ _ _ _ _ _ _ C hr hlk hnm hQ (fun u1018 h1019 => ?_) _ _ _ _)
      refine j_jn (P := fun (j1020 : Int32 → Int32 → Option (Int32 × hp_M)) => ∀ (u1021 : Int32) (u1022 : Int32), J p l e ({ frames := 11, cells := 0, slots := 0, locals := 320 }) s m args below meth c Q w 8 0 0 135 [(0, .ref a0), (1, .int x1), (2, .int x2), (3, .int u1021), (4, .int u1022), (5, .int x5)] [] h1019 (j1020 u1021 u1022) out) ?_ (fun j1020 hj1020 => ?_)
      · intro u1021 u1022
        refine j_iinc C (v := x5 + 1) [(5, _), (0, _), (1, _), (2, _), (3, _), (4, _)] dX13_advise_135 rfl rfl (by decide) rfl ?_
        refine j_goto C (tgt := 43) dX13_advise_138 (by decide) ?_
        exact j_sub [1, 2, 3, 4, 5, 0] rfl (ih _ _ _ _)
      · refine j_iload C dX13_advise_118 rfl ?_
        refine j_iload C dX13_advise_120 rfl ?_
        refine j_icmpgt C (tgt := 128) dX13_advise_122 (by decide) (fun q1023 => ?_) (fun q1023 => ?_)
        · refine j_iload C dX13_advise_128 rfl ?_
          refine j_istore C [(4, _), (0, _), (1, _), (2, _), (3, _), (5, _), (6, _)] dX13_advise_130 (by decide) rfl ?_
          refine j_iload C dX13_advise_132 rfl ?_
          refine j_istore_n C [(3, _), (4, _), (0, _), (1, _), (2, _), (5, _), (6, _)] dX13_advise_134 (i := 3) rfl (by decide) rfl ?_
          exact j_sub [2, 3, 4, 0, 1, 5] rfl (hj1020 _ _)
        · refine j_goto C (tgt := 135) dX13_advise_125 (by decide) ?_
          exact j_sub [0, 1, 2, 3, 4, 5] rfl (hj1020 _ _)
set_option maxRecDepth 100000 in
set_option maxHeartbeats 4000000 in
theorem c_Md_advise (l : Launch) (w : hp_W) (fl : Nat) (a0 : Nat) (x1 : Int32) (x2 : Int32) (h : hp_M) (out : Int32 × hp_M) (hX : f_Md_advise fl a0 x1 x2 h = some out) : CT l w yX13_advise cX13_advise 8 (some .int) ({ frames := 11, cells := 0, slots := 0, locals := 320 }) [.ref a0, .int x1, .int x2] h (some (.int out.1)) out.2 := by
  unfold f_Md_advise at hX
  refine ct_of (by decide +kernel) (Nat.le_of_ble_eq_true rfl) hX ?_
  intro p e s m args below meth c Q C hr hlk hnm hQ
  refine j_aload_n C dX13_advise_0 (i := 0) rfl rfl ?_
  refine j_iconst C (v := 0) dX13_advise_1 (by decide) ?_
  refine j_putI C p_X13_54 (fun q => nomatch q) dX13_advise_2 (fun h1 eh1 => ?_)
  refine j_aload_n C dX13_advise_5 (i := 0) rfl rfl ?_
  refine j_iload_n C dX13_advise_6 (i := 1) rfl rfl ?_
  refine j_callVi C (As := [.int _]) (rest := []) k_X13_268 ⟨Nat.le_of_ble_eq_true rfl, Nat.le_of_ble_eq_true rfl⟩ rfl (Nat.le_of_ble_eq_true rfl) ⟨Nat.le_of_ble_eq_true rfl, Nat.le_of_ble_eq_true rfl⟩ rfl dX13_advise_7 (fun r0 q0 => c_Md_isPlanet l w _ _ _ _ q0) (fun r2 er2 nr2 => ?_)
  refine j_ifne C (tgt := 19) dX13_advise_10 (by decide) (fun q3 => ?_) (fun q3 => ?_)
  · refine j_aload_n C dX13_advise_13 (i := 0) rfl rfl ?_
    refine j_iconst C (v := 1) dX13_advise_14 (by decide) ?_
    refine j_callVim C (As := [.int _]) (rest := []) k_X13_234 ⟨Nat.le_of_ble_eq_true rfl, Nat.le_of_ble_eq_true rfl⟩ rfl (Nat.le_of_ble_eq_true rfl) ⟨Nat.le_of_ble_eq_true rfl, Nat.le_of_ble_eq_true rfl⟩ rfl dX13_advise_15 (fun r0 q0 => c_Md_no l w _ _ _ _ q0) (fun r4 er4 nr4 => ?_)
    exact e_iretM C hQ hr rfl hlk dX13_advise_18 (Nat.le_of_ble_eq_true rfl) (Nat.le_of_ble_eq_true rfl)
  · refine j_iload_n C dX13_advise_19 (i := 2) rfl rfl ?_
    refine j_iconst C (v := 1) dX13_advise_20 (by decide) ?_
    refine j_bipush C (v := 60) dX13_advise_21 (by decide) ?_
    refine j_callSi C (As := [.int _, .int _, .int _]) (rest := []) k_X13_60 ⟨Nat.le_of_ble_eq_true rfl, Nat.le_of_ble_eq_true rfl⟩ rfl (Nat.le_of_ble_eq_true rfl) ⟨Nat.le_of_ble_eq_true rfl, Nat.le_of_ble_eq_true rfl⟩ rfl dX13_advise_23 (fun r0 q0 => c_Md_isIn l w _ _ _ _ _ q0) (fun r5 er5 nr5 => ?_)
    refine j_ifne C (tgt := 35) dX13_advise_26 (by decide) (fun q6 => ?_) (fun q6 => ?_)
    · refine j_aload_n C dX13_advise_29 (i := 0) rfl rfl ?_
      refine j_iconst C (v := 2) dX13_advise_30 (by decide) ?_
      refine j_callVim C (As := [.int _]) (rest := []) k_X13_234 ⟨Nat.le_of_ble_eq_true rfl, Nat.le_of_ble_eq_true rfl⟩ rfl (Nat.le_of_ble_eq_true rfl) ⟨Nat.le_of_ble_eq_true rfl, Nat.le_of_ble_eq_true rfl⟩ rfl dX13_advise_31 (fun r0 q0 => c_Md_no l w _ _ _ _ q0) (fun r7 er7 nr7 => ?_)
      exact e_iretM C hQ hr rfl hlk dX13_advise_34 (Nat.le_of_ble_eq_true rfl) (Nat.le_of_ble_eq_true rfl)
    · refine j_iconst C (v := 0) dX13_advise_35 (by decide) ?_
      refine j_istore_n C [(3, _), (0, _), (1, _), (2, _)] dX13_advise_36 (i := 3) rfl (by decide) rfl ?_
      refine j_iconst C (v := -1) dX13_advise_37 (by decide) ?_
      refine j_istore C [(4, _), (3, _), (0, _), (1, _), (2, _)] dX13_advise_38 (by decide) rfl ?_
      refine j_iconst C (v := 0) dX13_advise_40 (by decide) ?_
      refine j_istore C [(5, _), (4, _), (3, _), (0, _), (1, _), (2, _)] dX13_advise_41 (by decide) rfl ?_
      refine j_sub [3, 4, 5, 2, 1, 0] rfl (b_Md_advise_43 fl  _ _ _ C hr hlk hnm hQ  _ _ _ _ _)
