def f_Lw_law_b23 (w : hp_W) (fl : Nat) (xs : Nat → Int32) (Ls : Nat) (a0 : Nat) (a1 : Nat) (a2 : Nat) (a3 : Nat) : Nat → Int32 → hp_M → Option (Int32 × hp_M)
  | 0, _, _ => none
  | n + 1, x4, h => if ((Int32.ofNat Ls) - 6) < x4 then (some (1, h)) else (jn (fun (h1020 : hp_M) => f_Lw_law_b23 w fl xs Ls a0 a1 a2 a3 n (x4 + 6) h1020) fun (j1019 : hp_M → Option (Int32 × hp_M)) => (scrI xs Ls x4).bind fun v1021 => if (v1021 &&& 31) = 0 then ((scrI xs Ls (x4 + 1)).bind fun v1023 => (scrI xs Ls (x4 + 2)).bind fun v1024 => (scrI xs Ls (x4 + 3)).bind fun v1025 => (scrI xs Ls (x4 + 4)).bind fun v1026 => (scrI xs Ls (x4 + 5)).bind fun v1027 => (f_Lw_feed a1 v1023 v1024 v1025 v1026 v1027 a3 h).bind fun r1028 => (scrI xs Ls (x4 + 1)).bind fun v1029 => (scrI xs Ls (x4 + 2)).bind fun v1030 => (scrI xs Ls (x4 + 3)).bind fun v1031 => (scrI xs Ls (x4 + 4)).bind fun v1032 => (scrI xs Ls (x4 + 5)).bind fun v1033 => (onO r1028.2 a2 12 (f_Md_feed fl a2 v1029 v1030 v1031 v1032 v1033 r1028.2)).bind fun r1034 => (onO r1034.2 a2 12 (f_Md_thrown a2 r1034.2)).bind fun r1035 => if r1035 = r1028.1 then (if r1028.1 = 0 then ((gaL r1034.2 a3 0).bind fun v1038 => if (lg_cmp v1038 (Int32.toInt64 r1034.1)) = 0 then (j1019 r1034.2) else (some (0, r1034.2))) else (j1019 r1034.2)) else (some (0, r1034.2))) else if (v1021 &&& 31) = 1 then ((scrI xs Ls (x4 + 1)).bind fun v1041 => (f_Lw_trim a1 v1041 a3 h).bind fun r1042 => (scrI xs Ls (x4 + 1)).bind fun v1043 => (onO r1042.2 a2 12 (f_Md_trim a2 v1043 r1042.2)).bind fun r1044 => (onO r1044.2 a2 12 (f_Md_thrown a2 r1044.2)).bind fun r1045 => if r1045 = r1042.1 then (if r1042.1 = 0 then ((gaL r1044.2 a3 0).bind fun v1048 => if (lg_cmp v1048 (Int32.toInt64 r1044.1)) = 0 then (j1019 r1044.2) else (some (0, r1044.2))) else (j1019 r1044.2)) else (some (0, r1044.2))) else if (v1021 &&& 31) = 2 then ((onO h a1 9 (f_SS_teach w fl a1 h)).bind fun r1051 => (onO r1051.2 a2 12 (f_Md_teach w fl a2 r1051.2)).bind fun r1052 => if r1051.1 = r1052.1 then (j1019 r1052.2) else (some (0, r1052.2))) else if (v1021 &&& 31) = 3 then ((onO h a1 9 (f_SS_errorAt a1 h)).bind fun r1055 => (onO h a2 12 (f_Md_errorAt a2 h)).bind fun r1056 => if r1055 = r1056.1 then (j1019 r1056.2) else (some (0, r1056.2))) else if (v1021 &&& 31) = 4 then ((scrI xs Ls (x4 + 1)).bind fun v1059 => (f_Lw_count fl a1 v1059 a3 h).bind fun r1060 => (scrI xs Ls (x4 + 1)).bind fun v1061 => (onO r1060.2 a2 12 (f_Md_count fl a2 v1061 r1060.2)).bind fun r1062 => (onO r1062.2 a2 12 (f_Md_thrown a2 r1062.2)).bind fun r1063 => if r1063 = r1060.1 then (if r1060.1 = 0 then ((gaL r1062.2 a3 0).bind fun v1066 => if (lg_cmp v1066 (Int32.toInt64 r1062.1)) = 0 then (j1019 r1062.2) else (some (0, r1062.2))) else (j1019 r1062.2)) else (some (0, r1062.2))) else if (v1021 &&& 31) = 5 then ((scrI xs Ls (x4 + 1)).bind fun v1069 => (scrI xs Ls (x4 + 2)).bind fun v1070 => (f_Lw_planet a1 v1069 v1070 a3 h).bind fun r1071 => (scrI xs Ls (x4 + 1)).bind fun v1072 => (scrI xs Ls (x4 + 2)).bind fun v1073 => (onO r1071.2 a2 12 (f_Md_planet a2 v1072 v1073 r1071.2)).bind fun r1074 => (onO r1074.2 a2 12 (f_Md_thrown a2 r1074.2)).bind fun r1075 => if r1075 = r1071.1 then (if r1071.1 = 0 then ((gaL r1074.2 a3 0).bind fun v1078 => if (lg_cmp v1078 (Int32.toInt64 r1074.1)) = 0 then (j1019 r1074.2) else (some (0, r1074.2))) else (j1019 r1074.2)) else (some (0, r1074.2))) else if (v1021 &&& 31) = 6 then ((scrI xs Ls (x4 + 1)).bind fun v1081 => (scrI xs Ls (x4 + 2)).bind fun v1082 => (f_Lw_set a1 v1081 v1082 a3 h).bind fun r1083 => (scrI xs Ls (x4 + 1)).bind fun v1084 => (scrI xs Ls (x4 + 2)).bind fun v1085 => (onO r1083.2 a2 12 (f_Md_set a2 v1084 v1085 r1083.2)).bind fun r1086 => (onO r1086.2 a2 12 (f_Md_thrown a2 r1086.2)).bind fun r1087 => if r1087 = r1083.1 then (if r1083.1 = 0 then ((gaL r1086.2 a3 0).bind fun v1090 => if (lg_cmp v1090 (Int32.toInt64 r1086.1)) = 0 then (j1019 r1086.2) else (some (0, r1086.2))) else (j1019 r1086.2)) else (some (0, r1086.2))) else if (v1021 &&& 31) = 7 then ((scrI xs Ls (x4 + 1)).bind fun v1093 => (scrI xs Ls (x4 + 2)).bind fun v1094 => (f_Lw_gap a1 v1093 v1094 a3 h).bind fun r1095 => (scrI xs Ls (x4 + 1)).bind fun v1096 => (scrI xs Ls (x4 + 2)).bind fun v1097 => (onO r1095.2 a2 12 (f_Md_gap a2 v1096 v1097 r1095.2)).bind fun r1098 => (onO r1098.2 a2 12 (f_Md_thrown a2 r1098.2)).bind fun r1099 => if r1099 = r1095.1 then (if r1095.1 = 0 then ((gaL r1098.2 a3 0).bind fun v1102 => if (lg_cmp v1102 (Int32.toInt64 r1098.1)) = 0 then (j1019 r1098.2) else (some (0, r1098.2))) else (j1019 r1098.2)) else (some (0, r1098.2))) else if (v1021 &&& 31) = 8 then (jn (fun (u1109 : Int32) (u1110 : Int32) (u1111 : Int32) (u1112 : Nat) => jn (fun (u1118 : Int32) (u1119 : Int32) (u1120 : Int32) (u1121 : Int32) (u1122 : Nat) (h1123 : hp_M) => (onO h1123 u1122 12 (f_Md_meets u1122 u1121 u1120 u1119 h1123)).bind fun r1124 => (onO r1124.2 a2 12 (f_Md_thrown a2 r1124.2)).bind fun r1125 => if r1125 = u1118 then (if u1118 = 0 then (jn (fun (u1130 : Int64) (u1131 : Int64) => if (lg_cmp u1131 u1130) = 0 then (j1019 r1124.2) else (some (0, r1124.2))) fun (j1129 : Int64 → Int64 → Option (Int32 × hp_M)) => (gaL r1124.2 a3 0).bind fun v1133 => if r1124.1 = 0 then (j1129 0 v1133) else (j1129 1 v1133)) else (j1019 r1124.2)) else (some (0, r1124.2))) fun (j1117 : Int32 → Int32 → Int32 → Int32 → Nat → hp_M → Option (Int32 × hp_M)) => (f_Lw_meets u1112 u1111 u1110 u1109 a3 h).bind fun r1135 => (scrI xs Ls (x4 + 1)).bind fun v1136 => (scrI xs Ls (x4 + 2)).bind fun v1137 => (scrI xs Ls (x4 + 3)).bind fun v1138 => if v1138 = 0 then (j1117 r1135.1 0 v1137 v1136 a2 r1135.2) else (j1117 r1135.1 1 v1137 v1136 a2 r1135.2)) fun (j1108 : Int32 → Int32 → Int32 → Nat → Option (Int32 × hp_M)) => (scrI xs Ls (x4 + 1)).bind fun v1140 => (scrI xs Ls (x4 + 2)).bind fun v1141 => (scrI xs Ls (x4 + 3)).bind fun v1142 => if v1142 = 0 then (j1108 0 v1141 v1140 a1) else (j1108 1 v1141 v1140 a1)) else if (v1021 &&& 31) = 9 then ((scrI xs Ls (x4 + 1)).bind fun v1145 => (scrI xs Ls (x4 + 2)).bind fun v1146 => (f_Lw_letter a1 v1145 v1146 a3 h).bind fun r1147 => (scrI xs Ls (x4 + 1)).bind fun v1148 => (scrI xs Ls (x4 + 2)).bind fun v1149 => (onO r1147.2 a2 12 (f_Md_letter a2 v1148 v1149 r1147.2)).bind fun r1150 => (onO r1150.2 a2 12 (f_Md_thrown a2 r1150.2)).bind fun r1151 => if r1151 = r1147.1 then (if r1147.1 = 0 then ((gaL r1150.2 a3 0).bind fun v1154 => if (lg_cmp v1154 (Int32.toInt64 r1150.1)) = 0 then (j1019 r1150.2) else (some (0, r1150.2))) else (j1019 r1150.2)) else (some (0, r1150.2))) else if (v1021 &&& 31) = 10 then ((scrI xs Ls (x4 + 1)).bind fun v1157 => (f_Lw_wrote a1 v1157 a3 h).bind fun r1158 => (scrI xs Ls (x4 + 1)).bind fun v1159 => (onO r1158.2 a2 12 (f_Md_wrote a2 v1159 r1158.2)).bind fun r1160 => (onO r1160.2 a2 12 (f_Md_thrown a2 r1160.2)).bind fun r1161 => if r1161 = r1158.1 then (if r1158.1 = 0 then ((gaL r1160.2 a3 0).bind fun v1164 => if (lg_cmp v1164 (Int32.toInt64 r1160.1)) = 0 then (j1019 r1160.2) else (some (0, r1160.2))) else (j1019 r1160.2)) else (some (0, r1160.2))) else if (v1021 &&& 31) = 11 then ((scrI xs Ls (x4 + 1)).bind fun v1167 => (f_Lw_pass fl a1 v1167 a3 h).bind fun r1168 => (scrI xs Ls (x4 + 1)).bind fun v1169 => (onO r1168.2 a2 12 (f_Md_pass fl a2 v1169 r1168.2)).bind fun r1170 => (onO r1170.2 a2 12 (f_Md_thrown a2 r1170.2)).bind fun r1171 => if r1171 = r1168.1 then (if r1168.1 = 0 then ((gaL r1170.2 a3 0).bind fun v1174 => if (lg_cmp v1174 (Int32.toInt64 r1170.1)) = 0 then (j1019 r1170.2) else (some (0, r1170.2))) else (j1019 r1170.2)) else (some (0, r1170.2))) else if (v1021 &&& 31) = 12 then ((scrI xs Ls (x4 + 1)).bind fun v1177 => (f_Lw_byteAt a1 v1177 a3 h).bind fun r1178 => (scrI xs Ls (x4 + 1)).bind fun v1179 => (onO r1178.2 a2 12 (f_Md_byteAt a2 v1179 r1178.2)).bind fun r1180 => (onO r1180.2 a2 12 (f_Md_thrown a2 r1180.2)).bind fun r1181 => if r1181 = r1178.1 then (if r1178.1 = 0 then ((gaL r1180.2 a3 0).bind fun v1184 => if (lg_cmp v1184 (Int32.toInt64 r1180.1)) = 0 then (j1019 r1180.2) else (some (0, r1180.2))) else (j1019 r1180.2)) else (some (0, r1180.2))) else if (v1021 &&& 31) = 13 then ((onO h a1 9 (f_SS_clear a1 h)).bind fun r1187 => (onO r1187.2 a2 12 (f_Md_clear a2 r1187.2)).bind fun r1188 => if r1187.1 = r1188.1 then (j1019 r1188.2) else (some (0, r1188.2))) else if (v1021 &&& 31) = 14 then ((onO h a1 9 (f_SS_find fl a1 h)).bind fun r1191 => (onO h a2 12 (f_Md_find fl a2 h)).bind fun r1192 => if r1191 = r1192.1 then (j1019 r1192.2) else (some (0, r1192.2))) else if (v1021 &&& 31) = 15 then ((scrI xs Ls (x4 + 1)).bind fun v1195 => (scrI xs Ls (x4 + 2)).bind fun v1196 => (f_Lw_translate fl a1 v1195 v1196 a3 h).bind fun r1197 => (scrI xs Ls (x4 + 1)).bind fun v1198 => (scrI xs Ls (x4 + 2)).bind fun v1199 => (onO r1197.2 a2 12 (f_Md_translate fl a2 v1198 v1199 r1197.2)).bind fun r1200 => (onO r1200.2 a2 12 (f_Md_thrown a2 r1200.2)).bind fun r1201 => if r1201 = r1197.1 then (if r1197.1 = 0 then ((gaL r1200.2 a3 0).bind fun v1204 => if (lg_cmp v1204 (Int32.toInt64 r1200.1)) = 0 then (j1019 r1200.2) else (some (0, r1200.2))) else (j1019 r1200.2)) else (some (0, r1200.2))) else if (v1021 &&& 31) = 16 then ((scrI xs Ls (x4 + 1)).bind fun v1207 => (scrI xs Ls (x4 + 2)).bind fun v1208 => (f_Lw_foresee fl a1 v1207 v1208 a3 h).bind fun r1209 => (scrI xs Ls (x4 + 1)).bind fun v1210 => (scrI xs Ls (x4 + 2)).bind fun v1211 => (onO r1209.2 a2 12 (f_Md_foresee fl a2 v1210 v1211 r1209.2)).bind fun r1212 => (onO r1212.2 a2 12 (f_Md_thrown a2 r1212.2)).bind fun r1213 => if r1213 = r1209.1 then (if r1209.1 = 0 then ((gaL r1212.2 a3 0).bind fun v1216 => if (lg_cmp v1216 (Int32.toInt64 r1212.1)) = 0 then (j1019 r1212.2) else (some (0, r1212.2))) else (j1019 r1212.2)) else (some (0, r1212.2))) else if (v1021 &&& 31) = 17 then (jn (fun (u1223 : Int32) (u1224 : Int32) (u1225 : Int32) (u1226 : Nat) => jn (fun (u1232 : Int32) (u1233 : Int32) (u1234 : Int32) (u1235 : Int32) (u1236 : Nat) (h1237 : hp_M) => (onO h1237 u1236 12 (f_Md_next fl u1236 u1235 u1234 u1233 h1237)).bind fun r1238 => (onO r1238.2 a2 12 (f_Md_thrown a2 r1238.2)).bind fun r1239 => if r1239 = u1232 then (if u1232 = 0 then ((gaL r1238.2 a3 0).bind fun v1242 => if (lg_cmp v1242 (Int32.toInt64 r1238.1)) = 0 then (j1019 r1238.2) else (some (0, r1238.2))) else (j1019 r1238.2)) else (some (0, r1238.2))) fun (j1231 : Int32 → Int32 → Int32 → Int32 → Nat → hp_M → Option (Int32 × hp_M)) => (f_Lw_next fl u1226 u1225 u1224 u1223 a3 h).bind fun r1244 => (scrI xs Ls (x4 + 1)).bind fun v1245 => (scrI xs Ls (x4 + 2)).bind fun v1246 => (scrI xs Ls (x4 + 3)).bind fun v1247 => if v1247 = 0 then (j1231 r1244.1 0 v1246 v1245 a2 r1244.2) else (j1231 r1244.1 1 v1246 v1245 a2 r1244.2)) fun (j1222 : Int32 → Int32 → Int32 → Nat → Option (Int32 × hp_M)) => (scrI xs Ls (x4 + 1)).bind fun v1249 => (scrI xs Ls (x4 + 2)).bind fun v1250 => (scrI xs Ls (x4 + 3)).bind fun v1251 => if v1251 = 0 then (j1222 0 v1250 v1249 a1) else (j1222 1 v1250 v1249 a1)) else if (v1021 &&& 31) = 18 then ((onO h a1 9 (f_SS_spells fl a1 h)).bind fun r1254 => (onO r1254.2 a2 12 (f_Md_spells fl a2 r1254.2)).bind fun r1255 => if r1254.1 = r1255.1 then (j1019 r1255.2) else (some (0, r1255.2))) else if (v1021 &&& 31) = 19 then ((scrI xs Ls (x4 + 1)).bind fun v1258 => (f_Lw_again fl a1 v1258 a3 h).bind fun r1259 => (scrI xs Ls (x4 + 1)).bind fun v1260 => (onO r1259.2 a2 12 (f_Md_again fl a2 v1260 r1259.2)).bind fun r1261 => (onO r1261.2 a2 12 (f_Md_thrown a2 r1261.2)).bind fun r1262 => if r1262 = r1259.1 then (if r1259.1 = 0 then ((gaL r1261.2 a3 0).bind fun v1265 => if (lg_cmp v1265 (Int32.toInt64 r1261.1)) = 0 then (j1019 r1261.2) else (some (0, r1261.2))) else (j1019 r1261.2)) else (some (0, r1261.2))) else if (v1021 &&& 31) = 20 then ((scrI xs Ls (x4 + 1)).bind fun v1268 => (scrI xs Ls (x4 + 2)).bind fun v1269 => (f_Lw_advise fl a1 v1268 v1269 a3 h).bind fun r1270 => (scrI xs Ls (x4 + 1)).bind fun v1271 => (scrI xs Ls (x4 + 2)).bind fun v1272 => (onO r1270.2 a2 12 (f_Md_advise fl a2 v1271 v1272 r1270.2)).bind fun r1273 => (onO r1273.2 a2 12 (f_Md_thrown a2 r1273.2)).bind fun r1274 => if r1274 = r1270.1 then (if r1270.1 = 0 then ((gaL r1273.2 a3 0).bind fun v1277 => if (lg_cmp v1277 (Int32.toInt64 r1273.1)) = 0 then (j1019 r1273.2) else (some (0, r1273.2))) else (j1019 r1273.2)) else (some (0, r1273.2))) else if (v1021 &&& 31) = 21 then ((onO h a1 9 (f_SS_mean fl a1 h)).bind fun r1280 => (onO h a2 12 (f_Md_mean fl a2 h)).bind fun r1281 => if (Op.cmpValue (FP.dcmp r1280 r1281.1) .l) = 0 then (j1019 r1281.2) else (if (Op.cmpValue (FP.dcmp r1280 r1280) .l) = 0 then (some (0, r1281.2)) else (if (Op.cmpValue (FP.dcmp r1281.1 r1281.1) .l) = 0 then (some (0, r1281.2)) else (j1019 r1281.2)))) else if (v1021 &&& 31) = 22 then ((onO h a1 9 (f_SS_digest fl a1 h)).bind fun r1286 => (onO h a2 12 (f_Md_digest fl a2 h)).bind fun r1287 => if (lg_cmp r1286 r1287.1) = 0 then (j1019 r1287.2) else (some (0, r1287.2))) else (j1019 h))
def f_Lw_law (w : hp_W) (fl : Nat) (xs : Nat → Int32) (Ls : Nat) (a0 : Nat) (h : hp_M) : Option (Int32 × hp_M) := (f_SS_init fl h.2 (hN h (oC 9 [.null, .null, .null, .null, .null, .null, .int 0]))).bind fun h1 => (f_Md_init h1.2 (hN h1 (oC 12 [.int 0, .null, .int 0, .int 0, .null, .null, .null, .null, .null, .int 0, .int 0, .null, .null, .null, .null]))).bind fun h2 => f_Lw_law_b23 w fl xs Ls a0 h.2 h1.2 h2.2 513 0 (hN h2 (aL 1 (fun _ => 0)))
set_option maxRecDepth 100000 in
set_option maxHeartbeats 4000000 in
theorem b_Lw_law_23 {p : Program} {l : Launch} {e : Env} {s : State} {m : MethodId} {args : Array Value} {below : List Frame} {meth : Method} {c : Code} {Q : State → Prop} {w : hp_W} {out : Int32 × hp_M} (fl : Nat)  (xs : Nat → Int32) (Ls : Nat)  (a0 : Nat) (a1 : Nat) (a2 : Nat) (a3 : Nat) (C : Cx p m c cL_law 9 s args RL w) (hst : l.stackTraces = false) (hr : meth.sig.returnType = ret) (hlk : meth.locks = false) (hXs : va_X a0 Ls xs s s.heap) (hbl : a0 < s.heap.size) (hbA : ¬ hp_A w a0) (hw : w.1 = s.heap.size) (ho : out.1 = 1) (hag : args = #[.ref a0]) (hQ : lw_Z below args s = Q)  : ∀ (n : Nat) (x4 : Int32) (h : hp_M) (cs ss : Nat), cs + 80 * n ≤ 601024 → ss + 2000 * n ≤ 7293034 → J p l e room_1 s m args below meth c Q w 9 cs ss 23 [(0, .ref a0), (1, .ref a1), (2, .ref a2), (3, .ref a3), (4, .int x4)] [] h (f_Lw_law_b23 w fl xs Ls a0 a1 a2 a3 n x4 h) out := by
  intro n
  induction n with
  | zero => intro x4 h cs ss hcs hss; exact j_none
  | succ n ih =>
    intro x4 h cs ss hcs hss
    rw [f_Lw_law_b23]
    refine j_iload C dL_law_23 rfl ?_
    refine j_aload_n C dL_law_25 (i := 0) rfl rfl ?_
    refine j_slen2 C hXs hbl hbA dL_law_26 ?_
    refine j_bipush C (v := 6) dL_law_27 (by decide) ?_
    refine j_isub C dL_law_29 ?_
    refine j_icmpgt C (tgt := 1389) dL_law_30 (by decide) (fun q1003 => ?_) (fun q1003 => ?_)
    · refine j_iconst C (v := 1) dL_law_1389 (by decide) ?_
      exact e_lawret C hag hQ hr hlk ho hw dL_law_1390 (by first | omega | (dsimp only; omega)) (by first | omega | (dsimp only; omega))
    · refine j_jn (P := fun (j1019 : hp_M → Option (Int32 × hp_M)) => ∀ (h1020 : hp_M), J p l e room_1 s m args below meth c Q w 9 (cs + 78) (ss + 1998) 1383 [(0, .ref a0), (1, .ref a1), (2, .ref a2), (3, .ref a3), (4, .int x4)] [] h1020 (j1019 h1020) out) ?_ (fun j1019 hj1019 => ?_)
      · intro h1020
        refine j_iinc C (v := x4 + 6) [(4, _), (0, _), (1, _), (2, _), (3, _)] dL_law_1383 rfl rfl (by decide) rfl ?_
        refine j_goto C (tgt := 23) dL_law_1386 (by decide) ?_
        exact j_sub [1, 2, 3, 4, 0] rfl (j_widen (c1 := cs + 80) (s1 := ss + 2000) (by first | omega | (dsimp only; omega)) (by first | omega | (dsimp only; omega)) (ih _ _ _ _ (by omega) (by omega)))
      · refine j_aload_n C dL_law_33 (i := 0) rfl rfl ?_
        refine j_iload C dL_law_34 rfl ?_
        refine j_sld C hXs hbl hbA dL_law_36 (fun v1021 ev1021 => ?_)
        refine j_bipush C (v := 31) dL_law_37 (by decide) ?_
        refine j_iand C dL_law_39 ?_
        refine j_ite (fun q1022 => ?_) (fun q1022 => ?_)
        · refine j_tin C (tgt := 148) dL_law_40 (by rw [q1022]; decide) (by rw [q1022]; decide) (by rw [q1022]; rfl) (by decide) ?_
          refine j_aload_n C dL_law_148 (i := 1) rfl rfl ?_
          refine j_aload_n C dL_law_149 (i := 0) rfl rfl ?_
          refine j_iload C dL_law_150 rfl ?_
          refine j_iconst C (v := 1) dL_law_152 (by decide) ?_
          refine j_iadd C dL_law_153 ?_
          refine j_sld C hXs hbl hbA dL_law_154 (fun v1023 ev1023 => ?_)
          refine j_aload_n C dL_law_155 (i := 0) rfl rfl ?_
          refine j_iload C dL_law_156 rfl ?_
          refine j_iconst C (v := 2) dL_law_158 (by decide) ?_
          refine j_iadd C dL_law_159 ?_
          refine j_sld C hXs hbl hbA dL_law_160 (fun v1024 ev1024 => ?_)
          refine j_aload_n C dL_law_161 (i := 0) rfl rfl ?_
          refine j_iload C dL_law_162 rfl ?_
          refine j_iconst C (v := 3) dL_law_164 (by decide) ?_
          refine j_iadd C dL_law_165 ?_
          refine j_sld C hXs hbl hbA dL_law_166 (fun v1025 ev1025 => ?_)
          refine j_aload_n C dL_law_167 (i := 0) rfl rfl ?_
          refine j_iload C dL_law_168 rfl ?_
          refine j_iconst C (v := 4) dL_law_170 (by decide) ?_
          refine j_iadd C dL_law_171 ?_
          refine j_sld C hXs hbl hbA dL_law_172 (fun v1026 ev1026 => ?_)
          refine j_aload_n C dL_law_173 (i := 0) rfl rfl ?_
          refine j_iload C dL_law_174 rfl ?_
          refine j_iconst C (v := 5) dL_law_176 (by decide) ?_
          refine j_iadd C dL_law_177 ?_
          refine j_sld C hXs hbl hbA dL_law_178 (fun v1027 ev1027 => ?_)
          refine j_aload_n C dL_law_179 (i := 3) rfl rfl ?_
          refine j_callSW C (As := [.ref _, .int _, .int _, .int _, .int _, .int _, .ref _]) (rest := []) k_L_72 ⟨Nat.le_of_ble_eq_true rfl, Nat.le_of_ble_eq_true rfl⟩ rfl (Nat.le_of_ble_eq_true rfl) ⟨by show _ ≤ 601024; first | omega | (dsimp only; omega), by show _ ≤ 7293034; first | omega | (dsimp only; omega)⟩ rfl dL_law_180 (fun r0 q0 => c_Lw_feed l w hst _ _ _ _ _ _ _ _ _ q0) (fun r1028 er1028 nr1028 => ?_)
          refine j_istore C [(5, _), (0, _), (1, _), (2, _), (3, _), (4, _)] dL_law_183 (by decide) rfl ?_
          refine j_aload_n C dL_law_185 (i := 2) rfl rfl ?_
          refine j_aload_n C dL_law_186 (i := 0) rfl rfl ?_
          refine j_iload C dL_law_187 rfl ?_
          refine j_iconst C (v := 1) dL_law_189 (by decide) ?_
          refine j_iadd C dL_law_190 ?_
          refine j_sld C hXs hbl hbA dL_law_191 (fun v1029 ev1029 => ?_)
          refine j_aload_n C dL_law_192 (i := 0) rfl rfl ?_
          refine j_iload C dL_law_193 rfl ?_
          refine j_iconst C (v := 2) dL_law_195 (by decide) ?_
          refine j_iadd C dL_law_196 ?_
          refine j_sld C hXs hbl hbA dL_law_197 (fun v1030 ev1030 => ?_)
          refine j_aload_n C dL_law_198 (i := 0) rfl rfl ?_
          refine j_iload C dL_law_199 rfl ?_
          refine j_iconst C (v := 3) dL_law_201 (by decide) ?_
          refine j_iadd C dL_law_202 ?_
          refine j_sld C hXs hbl hbA dL_law_203 (fun v1031 ev1031 => ?_)
          refine j_aload_n C dL_law_204 (i := 0) rfl rfl ?_
          refine j_iload C dL_law_205 rfl ?_
          refine j_iconst C (v := 4) dL_law_207 (by decide) ?_
          refine j_iadd C dL_law_208 ?_
          refine j_sld C hXs hbl hbA dL_law_209 (fun v1032 ev1032 => ?_)
          refine j_aload_n C dL_law_210 (i := 0) rfl rfl ?_
          refine j_iload C dL_law_211 rfl ?_
          refine j_iconst C (v := 5) dL_law_213 (by decide) ?_
          refine j_iadd C dL_law_214 ?_
          refine j_sld C hXs hbl hbA dL_law_215 (fun v1033 ev1033 => ?_)
          refine j_callVim C (As := [.int _, .int _, .int _, .int _, .int _]) (rest := []) k_L_77 ⟨Nat.le_of_ble_eq_true rfl, Nat.le_of_ble_eq_true rfl⟩ rfl (Nat.le_of_ble_eq_true rfl) ⟨by show _ ≤ 601024; first | omega | (dsimp only; omega), by show _ ≤ 7293034; first | omega | (dsimp only; omega)⟩ rfl dL_law_216 (fun r0 q0 => c_Md_feed l w fl _ _ _ _ _ _ _ _ q0) (fun r1034 er1034 nr1034 => ?_)
          refine j_istore C [(6, _), (5, _), (0, _), (1, _), (2, _), (3, _), (4, _)] dL_law_219 (by decide) rfl ?_
          refine j_aload_n C dL_law_221 (i := 2) rfl rfl ?_
          refine j_callVi C (As := []) (rest := []) k_L_78 ⟨Nat.le_of_ble_eq_true rfl, Nat.le_of_ble_eq_true rfl⟩ rfl (Nat.le_of_ble_eq_true rfl) ⟨by show _ ≤ 601024; first | omega | (dsimp only; omega), by show _ ≤ 7293034; first | omega | (dsimp only; omega)⟩ rfl dL_law_222 (fun r0 q0 => c_Md_thrown l w _ _ _ q0) (fun r1035 er1035 nr1035 => ?_)
          refine j_iload C dL_law_225 rfl ?_
          refine j_icmpeq C (tgt := 232) dL_law_227 (by decide) (fun q1036 => ?_) (fun q1036 => ?_)
          · refine j_iload C dL_law_232 rfl ?_
            refine j_ifne C (tgt := 249) dL_law_234 (by decide) (fun q1037 => ?_) (fun q1037 => ?_)
            · refine j_aload_n C dL_law_237 (i := 3) rfl rfl ?_
              refine j_iconst C (v := 0) dL_law_238 (by decide) ?_
              refine j_laload C dL_law_239 (fun v1038 ev1038 => ?_)
              refine j_iload C dL_law_240 rfl ?_
              refine j_i2l C dL_law_242 ?_
              refine j_lcmp C dL_law_243 ?_
              refine j_ifeq C (tgt := 249) dL_law_244 (by decide) (fun q1039 => ?_) (fun q1039 => ?_)
              · refine j_goto C (tgt := 1383) dL_law_249 (by decide) ?_
                refine j_widen (c1 := cs + 78) (s1 := ss + 1998) (by first | omega | (dsimp only; omega)) (by first | omega | (dsimp only; omega)) ?_
                exact j_sub [2, 3, 4, 5, 6] rfl (hj1019 _)
              · refine j_iconst C (v := 0) dL_law_247 (by decide) ?_
                exact e_lawret C hag hQ hr hlk ho hw dL_law_248 (by first | omega | (dsimp only; omega)) (by first | omega | (dsimp only; omega))
            · refine j_goto C (tgt := 1383) dL_law_249 (by decide) ?_
              refine j_widen (c1 := cs + 78) (s1 := ss + 1998) (by first | omega | (dsimp only; omega)) (by first | omega | (dsimp only; omega)) ?_
              exact j_sub [2, 3, 4, 5, 6] rfl (hj1019 _)
          · refine j_iconst C (v := 0) dL_law_230 (by decide) ?_
            exact e_lawret C hag hQ hr hlk ho hw dL_law_231 (by first | omega | (dsimp only; omega)) (by first | omega | (dsimp only; omega))
        refine j_ite (fun q1040 => ?_) (fun q1040 => ?_)
        · refine j_tin C (tgt := 252) dL_law_40 (by rw [q1040]; decide) (by rw [q1040]; decide) (by rw [q1040]; rfl) (by decide) ?_
          refine j_aload_n C dL_law_252 (i := 1) rfl rfl ?_
          refine j_aload_n C dL_law_253 (i := 0) rfl rfl ?_
          refine j_iload C dL_law_254 rfl ?_
          refine j_iconst C (v := 1) dL_law_256 (by decide) ?_
          refine j_iadd C dL_law_257 ?_
          refine j_sld C hXs hbl hbA dL_law_258 (fun v1041 ev1041 => ?_)
          refine j_aload_n C dL_law_259 (i := 3) rfl rfl ?_
          refine j_callSW C (As := [.ref _, .int _, .ref _]) (rest := []) k_L_82 ⟨Nat.le_of_ble_eq_true rfl, Nat.le_of_ble_eq_true rfl⟩ rfl (Nat.le_of_ble_eq_true rfl) ⟨by show _ ≤ 601024; first | omega | (dsimp only; omega), by show _ ≤ 7293034; first | omega | (dsimp only; omega)⟩ rfl dL_law_260 (fun r0 q0 => c_Lw_trim l w hst _ _ _ _ _ q0) (fun r1042 er1042 nr1042 => ?_)
          refine j_istore C [(5, _), (0, _), (1, _), (2, _), (3, _), (4, _)] dL_law_263 (by decide) rfl ?_
          refine j_aload_n C dL_law_265 (i := 2) rfl rfl ?_
          refine j_aload_n C dL_law_266 (i := 0) rfl rfl ?_
          refine j_iload C dL_law_267 rfl ?_
          refine j_iconst C (v := 1) dL_law_269 (by decide) ?_
          refine j_iadd C dL_law_270 ?_
          refine j_sld C hXs hbl hbA dL_law_271 (fun v1043 ev1043 => ?_)
          refine j_callVim C (As := [.int _]) (rest := []) k_L_85 ⟨Nat.le_of_ble_eq_true rfl, Nat.le_of_ble_eq_true rfl⟩ rfl (Nat.le_of_ble_eq_true rfl) ⟨by show _ ≤ 601024; first | omega | (dsimp only; omega), by show _ ≤ 7293034; first | omega | (dsimp only; omega)⟩ rfl dL_law_272 (fun r0 q0 => c_Md_trim l w _ _ _ _ q0) (fun r1044 er1044 nr1044 => ?_)
          refine j_istore C [(6, _), (5, _), (0, _), (1, _), (2, _), (3, _), (4, _)] dL_law_275 (by decide) rfl ?_
          refine j_aload_n C dL_law_277 (i := 2) rfl rfl ?_
          refine j_callVi C (As := []) (rest := []) k_L_78 ⟨Nat.le_of_ble_eq_true rfl, Nat.le_of_ble_eq_true rfl⟩ rfl (Nat.le_of_ble_eq_true rfl) ⟨by show _ ≤ 601024; first | omega | (dsimp only; omega), by show _ ≤ 7293034; first | omega | (dsimp only; omega)⟩ rfl dL_law_278 (fun r0 q0 => c_Md_thrown l w _ _ _ q0) (fun r1045 er1045 nr1045 => ?_)
          refine j_iload C dL_law_281 rfl ?_
          refine j_icmpeq C (tgt := 288) dL_law_283 (by decide) (fun q1046 => ?_) (fun q1046 => ?_)
          · refine j_iload C dL_law_288 rfl ?_
            refine j_ifne C (tgt := 305) dL_law_290 (by decide) (fun q1047 => ?_) (fun q1047 => ?_)
            · refine j_aload_n C dL_law_293 (i := 3) rfl rfl ?_
              refine j_iconst C (v := 0) dL_law_294 (by decide) ?_
              refine j_laload C dL_law_295 (fun v1048 ev1048 => ?_)
              refine j_iload C dL_law_296 rfl ?_
              refine j_i2l C dL_law_298 ?_
              refine j_lcmp C dL_law_299 ?_
              refine j_ifeq C (tgt := 305) dL_law_300 (by decide) (fun q1049 => ?_) (fun q1049 => ?_)
              · refine j_goto C (tgt := 1383) dL_law_305 (by decide) ?_
                refine j_widen (c1 := cs + 78) (s1 := ss + 1998) (by first | omega | (dsimp only; omega)) (by first | omega | (dsimp only; omega)) ?_
                exact j_sub [2, 3, 4, 5, 6] rfl (hj1019 _)
              · refine j_iconst C (v := 0) dL_law_303 (by decide) ?_
                exact e_lawret C hag hQ hr hlk ho hw dL_law_304 (by first | omega | (dsimp only; omega)) (by first | omega | (dsimp only; omega))
            · refine j_goto C (tgt := 1383) dL_law_305 (by decide) ?_
              refine j_widen (c1 := cs + 78) (s1 := ss + 1998) (by first | omega | (dsimp only; omega)) (by first | omega | (dsimp only; omega)) ?_
              exact j_sub [2, 3, 4, 5, 6] rfl (hj1019 _)
          · refine j_iconst C (v := 0) dL_law_286 (by decide) ?_
            exact e_lawret C hag hQ hr hlk ho hw dL_law_287 (by first | omega | (dsimp only; omega)) (by first | omega | (dsimp only; omega))
        refine j_ite (fun q1050 => ?_) (fun q1050 => ?_)
        · refine j_tin C (tgt := 308) dL_law_40 (by rw [q1050]; decide) (by rw [q1050]; decide) (by rw [q1050]; rfl) (by decide) ?_
          refine j_aload_n C dL_law_308 (i := 1) rfl rfl ?_
          refine j_callVim C (As := []) (rest := []) k_L_86 ⟨Nat.le_of_ble_eq_true rfl, Nat.le_of_ble_eq_true rfl⟩ rfl (Nat.le_of_ble_eq_true rfl) ⟨by show _ ≤ 601024; first | omega | (dsimp only; omega), by show _ ≤ 7293034; first | omega | (dsimp only; omega)⟩ rfl dL_law_309 (fun r0 q0 => c_SS_teach l w fl _ _ _ q0) (fun r1051 er1051 nr1051 => ?_)
          refine j_aload_n C dL_law_312 (i := 2) rfl rfl ?_
          refine j_callVim C (As := []) (rest := [_]) k_L_89 ⟨Nat.le_of_ble_eq_true rfl, Nat.le_of_ble_eq_true rfl⟩ rfl (Nat.le_of_ble_eq_true rfl) ⟨by show _ ≤ 601024; first | omega | (dsimp only; omega), by show _ ≤ 7293034; first | omega | (dsimp only; omega)⟩ rfl dL_law_313 (fun r0 q0 => c_Md_teach l w fl _ _ _ q0) (fun r1052 er1052 nr1052 => ?_)
          refine j_icmpeq C (tgt := 1383) dL_law_316 (by decide) (fun q1053 => ?_) (fun q1053 => ?_)
          · refine j_widen (c1 := cs + 78) (s1 := ss + 1998) (by first | omega | (dsimp only; omega)) (by first | omega | (dsimp only; omega)) ?_
            exact hj1019 _
          · refine j_iconst C (v := 0) dL_law_319 (by decide) ?_
            exact e_lawret C hag hQ hr hlk ho hw dL_law_320 (by first | omega | (dsimp only; omega)) (by first | omega | (dsimp only; omega))
        refine j_ite (fun q1054 => ?_) (fun q1054 => ?_)
        · refine j_tin C (tgt := 321) dL_law_40 (by rw [q1054]; decide) (by rw [q1054]; decide) (by rw [q1054]; rfl) (by decide) ?_
          refine j_aload_n C dL_law_321 (i := 1) rfl rfl ?_
          refine j_callVi C (As := []) (rest := []) k_L_90 ⟨Nat.le_of_ble_eq_true rfl, Nat.le_of_ble_eq_true rfl⟩ rfl (Nat.le_of_ble_eq_true rfl) ⟨by show _ ≤ 601024; first | omega | (dsimp only; omega), by show _ ≤ 7293034; first | omega | (dsimp only; omega)⟩ rfl dL_law_322 (fun r0 q0 => c_SS_errorAt l w _ _ _ q0) (fun r1055 er1055 nr1055 => ?_)
          refine j_aload_n C dL_law_325 (i := 2) rfl rfl ?_
          refine j_callVim C (As := []) (rest := [_]) k_L_93 ⟨Nat.le_of_ble_eq_true rfl, Nat.le_of_ble_eq_true rfl⟩ rfl (Nat.le_of_ble_eq_true rfl) ⟨by show _ ≤ 601024; first | omega | (dsimp only; omega), by show _ ≤ 7293034; first | omega | (dsimp only; omega)⟩ rfl dL_law_326 (fun r0 q0 => c_Md_errorAt l w _ _ _ q0) (fun r1056 er1056 nr1056 => ?_)
          refine j_icmpeq C (tgt := 1383) dL_law_329 (by decide) (fun q1057 => ?_) (fun q1057 => ?_)
          · refine j_widen (c1 := cs + 78) (s1 := ss + 1998) (by first | omega | (dsimp only; omega)) (by first | omega | (dsimp only; omega)) ?_
            exact hj1019 _
          · refine j_iconst C (v := 0) dL_law_332 (by decide) ?_
            exact e_lawret C hag hQ hr hlk ho hw dL_law_333 (by first | omega | (dsimp only; omega)) (by first | omega | (dsimp only; omega))
        refine j_ite (fun q1058 => ?_) (fun q1058 => ?_)
        · refine j_tin C (tgt := 334) dL_law_40 (by rw [q1058]; decide) (by rw [q1058]; decide) (by rw [q1058]; rfl) (by decide) ?_
          refine j_aload_n C dL_law_334 (i := 1) rfl rfl ?_
          refine j_aload_n C dL_law_335 (i := 0) rfl rfl ?_
          refine j_iload C dL_law_336 rfl ?_
          refine j_iconst C (v := 1) dL_law_338 (by decide) ?_
          refine j_iadd C dL_law_339 ?_
          refine j_sld C hXs hbl hbA dL_law_340 (fun v1059 ev1059 => ?_)
          refine j_aload_n C dL_law_341 (i := 3) rfl rfl ?_
          refine j_callSW C (As := [.ref _, .int _, .ref _]) (rest := []) k_L_94 ⟨Nat.le_of_ble_eq_true rfl, Nat.le_of_ble_eq_true rfl⟩ rfl (Nat.le_of_ble_eq_true rfl) ⟨by show _ ≤ 601024; first | omega | (dsimp only; omega), by show _ ≤ 7293034; first | omega | (dsimp only; omega)⟩ rfl dL_law_342 (fun r0 q0 => c_Lw_count l w hst fl _ _ _ _ _ q0) (fun r1060 er1060 nr1060 => ?_)
          refine j_istore C [(5, _), (0, _), (1, _), (2, _), (3, _), (4, _)] dL_law_345 (by decide) rfl ?_
          refine j_aload_n C dL_law_347 (i := 2) rfl rfl ?_
          refine j_aload_n C dL_law_348 (i := 0) rfl rfl ?_
          refine j_iload C dL_law_349 rfl ?_
          refine j_iconst C (v := 1) dL_law_351 (by decide) ?_
          refine j_iadd C dL_law_352 ?_
          refine j_sld C hXs hbl hbA dL_law_353 (fun v1061 ev1061 => ?_)
          refine j_callVim C (As := [.int _]) (rest := []) k_L_96 ⟨Nat.le_of_ble_eq_true rfl, Nat.le_of_ble_eq_true rfl⟩ rfl (Nat.le_of_ble_eq_true rfl) ⟨by show _ ≤ 601024; first | omega | (dsimp only; omega), by show _ ≤ 7293034; first | omega | (dsimp only; omega)⟩ rfl dL_law_354 (fun r0 q0 => c_Md_count l w fl _ _ _ _ q0) (fun r1062 er1062 nr1062 => ?_)
          refine j_istore C [(6, _), (5, _), (0, _), (1, _), (2, _), (3, _), (4, _)] dL_law_357 (by decide) rfl ?_
          refine j_aload_n C dL_law_359 (i := 2) rfl rfl ?_
          refine j_callVi C (As := []) (rest := []) k_L_78 ⟨Nat.le_of_ble_eq_true rfl, Nat.le_of_ble_eq_true rfl⟩ rfl (Nat.le_of_ble_eq_true rfl) ⟨by show _ ≤ 601024; first | omega | (dsimp only; omega), by show _ ≤ 7293034; first | omega | (dsimp only; omega)⟩ rfl dL_law_360 (fun r0 q0 => c_Md_thrown l w _ _ _ q0) (fun r1063 er1063 nr1063 => ?_)
          refine j_iload C dL_law_363 rfl ?_
          refine j_icmpeq C (tgt := 370) dL_law_365 (by decide) (fun q1064 => ?_) (fun q1064 => ?_)
          · refine j_iload C dL_law_370 rfl ?_
            refine j_ifne C (tgt := 387) dL_law_372 (by decide) (fun q1065 => ?_) (fun q1065 => ?_)
            · refine j_aload_n C dL_law_375 (i := 3) rfl rfl ?_
              refine j_iconst C (v := 0) dL_law_376 (by decide) ?_
              refine j_laload C dL_law_377 (fun v1066 ev1066 => ?_)
              refine j_iload C dL_law_378 rfl ?_
              refine j_i2l C dL_law_380 ?_
              refine j_lcmp C dL_law_381 ?_
              refine j_ifeq C (tgt := 387) dL_law_382 (by decide) (fun q1067 => ?_) (fun q1067 => ?_)
              · refine j_goto C (tgt := 1383) dL_law_387 (by decide) ?_
                refine j_widen (c1 := cs + 78) (s1 := ss + 1998) (by first | omega | (dsimp only; omega)) (by first | omega | (dsimp only; omega)) ?_
                exact j_sub [2, 3, 4, 5, 6] rfl (hj1019 _)
              · refine j_iconst C (v := 0) dL_law_385 (by decide) ?_
                exact e_lawret C hag hQ hr hlk ho hw dL_law_386 (by first | omega | (dsimp only; omega)) (by first | omega | (dsimp only; omega))
            · refine j_goto C (tgt := 1383) dL_law_387 (by decide) ?_
              refine j_widen (c1 := cs + 78) (s1 := ss + 1998) (by first | omega | (dsimp only; omega)) (by first | omega | (dsimp only; omega)) ?_
              exact j_sub [2, 3, 4, 5, 6] rfl (hj1019 _)
          · refine j_iconst C (v := 0) dL_law_368 (by decide) ?_
            exact e_lawret C hag hQ hr hlk ho hw dL_law_369 (by first | omega | (dsimp only; omega)) (by first | omega | (dsimp only; omega))
        refine j_ite (fun q1068 => ?_) (fun q1068 => ?_)
        · refine j_tin C (tgt := 390) dL_law_40 (by rw [q1068]; decide) (by rw [q1068]; decide) (by rw [q1068]; rfl) (by decide) ?_
          refine j_aload_n C dL_law_390 (i := 1) rfl rfl ?_
          refine j_aload_n C dL_law_391 (i := 0) rfl rfl ?_
          refine j_iload C dL_law_392 rfl ?_
          refine j_iconst C (v := 1) dL_law_394 (by decide) ?_
          refine j_iadd C dL_law_395 ?_
          refine j_sld C hXs hbl hbA dL_law_396 (fun v1069 ev1069 => ?_)
          refine j_aload_n C dL_law_397 (i := 0) rfl rfl ?_
          refine j_iload C dL_law_398 rfl ?_
          refine j_iconst C (v := 2) dL_law_400 (by decide) ?_
          refine j_iadd C dL_law_401 ?_
          refine j_sld C hXs hbl hbA dL_law_402 (fun v1070 ev1070 => ?_)
          refine j_aload_n C dL_law_403 (i := 3) rfl rfl ?_
          refine j_callSW C (As := [.ref _, .int _, .int _, .ref _]) (rest := []) k_L_97 ⟨Nat.le_of_ble_eq_true rfl, Nat.le_of_ble_eq_true rfl⟩ rfl (Nat.le_of_ble_eq_true rfl) ⟨by show _ ≤ 601024; first | omega | (dsimp only; omega), by show _ ≤ 7293034; first | omega | (dsimp only; omega)⟩ rfl dL_law_404 (fun r0 q0 => c_Lw_planet l w hst _ _ _ _ _ _ q0) (fun r1071 er1071 nr1071 => ?_)
          refine j_istore C [(5, _), (0, _), (1, _), (2, _), (3, _), (4, _)] dL_law_407 (by decide) rfl ?_
          refine j_aload_n C dL_law_409 (i := 2) rfl rfl ?_
          refine j_aload_n C dL_law_410 (i := 0) rfl rfl ?_
          refine j_iload C dL_law_411 rfl ?_
          refine j_iconst C (v := 1) dL_law_413 (by decide) ?_
          refine j_iadd C dL_law_414 ?_
          refine j_sld C hXs hbl hbA dL_law_415 (fun v1072 ev1072 => ?_)
          refine j_aload_n C dL_law_416 (i := 0) rfl rfl ?_
          refine j_iload C dL_law_417 rfl ?_
          refine j_iconst C (v := 2) dL_law_419 (by decide) ?_
          refine j_iadd C dL_law_420 ?_
          refine j_sld C hXs hbl hbA dL_law_421 (fun v1073 ev1073 => ?_)
          refine j_callVim C (As := [.int _, .int _]) (rest := []) k_L_100 ⟨Nat.le_of_ble_eq_true rfl, Nat.le_of_ble_eq_true rfl⟩ rfl (Nat.le_of_ble_eq_true rfl) ⟨by show _ ≤ 601024; first | omega | (dsimp only; omega), by show _ ≤ 7293034; first | omega | (dsimp only; omega)⟩ rfl dL_law_422 (fun r0 q0 => c_Md_planet l w _ _ _ _ _ q0) (fun r1074 er1074 nr1074 => ?_)
          refine j_istore C [(6, _), (5, _), (0, _), (1, _), (2, _), (3, _), (4, _)] dL_law_425 (by decide) rfl ?_
          refine j_aload_n C dL_law_427 (i := 2) rfl rfl ?_
          refine j_callVi C (As := []) (rest := []) k_L_78 ⟨Nat.le_of_ble_eq_true rfl, Nat.le_of_ble_eq_true rfl⟩ rfl (Nat.le_of_ble_eq_true rfl) ⟨by show _ ≤ 601024; first | omega | (dsimp only; omega), by show _ ≤ 7293034; first | omega | (dsimp only; omega)⟩ rfl dL_law_428 (fun r0 q0 => c_Md_thrown l w _ _ _ q0) (fun r1075 er1075 nr1075 => ?_)
          refine j_iload C dL_law_431 rfl ?_
          refine j_icmpeq C (tgt := 438) dL_law_433 (by decide) (fun q1076 => ?_) (fun q1076 => ?_)
          · refine j_iload C dL_law_438 rfl ?_
            refine j_ifne C (tgt := 455) dL_law_440 (by decide) (fun q1077 => ?_) (fun q1077 => ?_)
            · refine j_aload_n C dL_law_443 (i := 3) rfl rfl ?_
              refine j_iconst C (v := 0) dL_law_444 (by decide) ?_
              refine j_laload C dL_law_445 (fun v1078 ev1078 => ?_)
              refine j_iload C dL_law_446 rfl ?_
              refine j_i2l C dL_law_448 ?_
              refine j_lcmp C dL_law_449 ?_
              refine j_ifeq C (tgt := 455) dL_law_450 (by decide) (fun q1079 => ?_) (fun q1079 => ?_)
              · refine j_goto C (tgt := 1383) dL_law_455 (by decide) ?_
                refine j_widen (c1 := cs + 78) (s1 := ss + 1998) (by first | omega | (dsimp only; omega)) (by first | omega | (dsimp only; omega)) ?_
                exact j_sub [2, 3, 4, 5, 6] rfl (hj1019 _)
              · refine j_iconst C (v := 0) dL_law_453 (by decide) ?_
                exact e_lawret C hag hQ hr hlk ho hw dL_law_454 (by first | omega | (dsimp only; omega)) (by first | omega | (dsimp only; omega))
            · refine j_goto C (tgt := 1383) dL_law_455 (by decide) ?_
              refine j_widen (c1 := cs + 78) (s1 := ss + 1998) (by first | omega | (dsimp only; omega)) (by first | omega | (dsimp only; omega)) ?_
              exact j_sub [2, 3, 4, 5, 6] rfl (hj1019 _)
          · refine j_iconst C (v := 0) dL_law_436 (by decide) ?_
            exact e_lawret C hag hQ hr hlk ho hw dL_law_437 (by first | omega | (dsimp only; omega)) (by first | omega | (dsimp only; omega))
        refine j_ite (fun q1080 => ?_) (fun q1080 => ?_)
        · refine j_tin C (tgt := 458) dL_law_40 (by rw [q1080]; decide) (by rw [q1080]; decide) (by rw [q1080]; rfl) (by decide) ?_
          refine j_aload_n C dL_law_458 (i := 1) rfl rfl ?_
          refine j_aload_n C dL_law_459 (i := 0) rfl rfl ?_
          refine j_iload C dL_law_460 rfl ?_
          refine j_iconst C (v := 1) dL_law_462 (by decide) ?_
          refine j_iadd C dL_law_463 ?_
          refine j_sld C hXs hbl hbA dL_law_464 (fun v1081 ev1081 => ?_)
          refine j_aload_n C dL_law_465 (i := 0) rfl rfl ?_
          refine j_iload C dL_law_466 rfl ?_
          refine j_iconst C (v := 2) dL_law_468 (by decide) ?_
          refine j_iadd C dL_law_469 ?_
          refine j_sld C hXs hbl hbA dL_law_470 (fun v1082 ev1082 => ?_)
          refine j_aload_n C dL_law_471 (i := 3) rfl rfl ?_
          refine j_callSW C (As := [.ref _, .int _, .int _, .ref _]) (rest := []) k_L_101 ⟨Nat.le_of_ble_eq_true rfl, Nat.le_of_ble_eq_true rfl⟩ rfl (Nat.le_of_ble_eq_true rfl) ⟨by show _ ≤ 601024; first | omega | (dsimp only; omega), by show _ ≤ 7293034; first | omega | (dsimp only; omega)⟩ rfl dL_law_472 (fun r0 q0 => c_Lw_set l w hst _ _ _ _ _ _ q0) (fun r1083 er1083 nr1083 => ?_)
          refine j_istore C [(5, _), (0, _), (1, _), (2, _), (3, _), (4, _)] dL_law_475 (by decide) rfl ?_
          refine j_aload_n C dL_law_477 (i := 2) rfl rfl ?_
          refine j_aload_n C dL_law_478 (i := 0) rfl rfl ?_
          refine j_iload C dL_law_479 rfl ?_
          refine j_iconst C (v := 1) dL_law_481 (by decide) ?_
          refine j_iadd C dL_law_482 ?_
          refine j_sld C hXs hbl hbA dL_law_483 (fun v1084 ev1084 => ?_)
          refine j_aload_n C dL_law_484 (i := 0) rfl rfl ?_
          refine j_iload C dL_law_485 rfl ?_
          refine j_iconst C (v := 2) dL_law_487 (by decide) ?_
          refine j_iadd C dL_law_488 ?_
          refine j_sld C hXs hbl hbA dL_law_489 (fun v1085 ev1085 => ?_)
          refine j_callVim C (As := [.int _, .int _]) (rest := []) k_L_103 ⟨Nat.le_of_ble_eq_true rfl, Nat.le_of_ble_eq_true rfl⟩ rfl (Nat.le_of_ble_eq_true rfl) ⟨by show _ ≤ 601024; first | omega | (dsimp only; omega), by show _ ≤ 7293034; first | omega | (dsimp only; omega)⟩ rfl dL_law_490 (fun r0 q0 => c_Md_set l w _ _ _ _ _ q0) (fun r1086 er1086 nr1086 => ?_)
          refine j_istore C [(6, _), (5, _), (0, _), (1, _), (2, _), (3, _), (4, _)] dL_law_493 (by decide) rfl ?_
          refine j_aload_n C dL_law_495 (i := 2) rfl rfl ?_
          refine j_callVi C (As := []) (rest := []) k_L_78 ⟨Nat.le_of_ble_eq_true rfl, Nat.le_of_ble_eq_true rfl⟩ rfl (Nat.le_of_ble_eq_true rfl) ⟨by show _ ≤ 601024; first | omega | (dsimp only; omega), by show _ ≤ 7293034; first | omega | (dsimp only; omega)⟩ rfl dL_law_496 (fun r0 q0 => c_Md_thrown l w _ _ _ q0) (fun r1087 er1087 nr1087 => ?_)
          refine j_iload C dL_law_499 rfl ?_
          refine j_icmpeq C (tgt := 506) dL_law_501 (by decide) (fun q1088 => ?_) (fun q1088 => ?_)
          · refine j_iload C dL_law_506 rfl ?_
            refine j_ifne C (tgt := 523) dL_law_508 (by decide) (fun q1089 => ?_) (fun q1089 => ?_)
            · refine j_aload_n C dL_law_511 (i := 3) rfl rfl ?_
              refine j_iconst C (v := 0) dL_law_512 (by decide) ?_
              refine j_laload C dL_law_513 (fun v1090 ev1090 => ?_)
              refine j_iload C dL_law_514 rfl ?_
              refine j_i2l C dL_law_516 ?_
              refine j_lcmp C dL_law_517 ?_
              refine j_ifeq C (tgt := 523) dL_law_518 (by decide) (fun q1091 => ?_) (fun q1091 => ?_)
              · refine j_goto C (tgt := 1383) dL_law_523 (by decide) ?_
                refine j_widen (c1 := cs + 78) (s1 := ss + 1998) (by first | omega | (dsimp only; omega)) (by first | omega | (dsimp only; omega)) ?_
                exact j_sub [2, 3, 4, 5, 6] rfl (hj1019 _)
              · refine j_iconst C (v := 0) dL_law_521 (by decide) ?_
                exact e_lawret C hag hQ hr hlk ho hw dL_law_522 (by first | omega | (dsimp only; omega)) (by first | omega | (dsimp only; omega))
            · refine j_goto C (tgt := 1383) dL_law_523 (by decide) ?_
              refine j_widen (c1 := cs + 78) (s1 := ss + 1998) (by first | omega | (dsimp only; omega)) (by first | omega | (dsimp only; omega)) ?_
              exact j_sub [2, 3, 4, 5, 6] rfl (hj1019 _)
          · refine j_iconst C (v := 0) dL_law_504 (by decide) ?_
            exact e_lawret C hag hQ hr hlk ho hw dL_law_505 (by first | omega | (dsimp only; omega)) (by first | omega | (dsimp only; omega))
        refine j_ite (fun q1092 => ?_) (fun q1092 => ?_)
        · refine j_tin C (tgt := 526) dL_law_40 (by rw [q1092]; decide) (by rw [q1092]; decide) (by rw [q1092]; rfl) (by decide) ?_
          refine j_aload_n C dL_law_526 (i := 1) rfl rfl ?_
          refine j_aload_n C dL_law_527 (i := 0) rfl rfl ?_
          refine j_iload C dL_law_528 rfl ?_
          refine j_iconst C (v := 1) dL_law_530 (by decide) ?_
          refine j_iadd C dL_law_531 ?_
          refine j_sld C hXs hbl hbA dL_law_532 (fun v1093 ev1093 => ?_)
          refine j_aload_n C dL_law_533 (i := 0) rfl rfl ?_
          refine j_iload C dL_law_534 rfl ?_
          refine j_iconst C (v := 2) dL_law_536 (by decide) ?_
          refine j_iadd C dL_law_537 ?_
          refine j_sld C hXs hbl hbA dL_law_538 (fun v1094 ev1094 => ?_)
          refine j_aload_n C dL_law_539 (i := 3) rfl rfl ?_
          refine j_callSW C (As := [.ref _, .int _, .int _, .ref _]) (rest := []) k_L_104 ⟨Nat.le_of_ble_eq_true rfl, Nat.le_of_ble_eq_true rfl⟩ rfl (Nat.le_of_ble_eq_true rfl) ⟨by show _ ≤ 601024; first | omega | (dsimp only; omega), by show _ ≤ 7293034; first | omega | (dsimp only; omega)⟩ rfl dL_law_540 (fun r0 q0 => c_Lw_gap l w hst _ _ _ _ _ _ q0) (fun r1095 er1095 nr1095 => ?_)
          refine j_istore C [(5, _), (0, _), (1, _), (2, _), (3, _), (4, _)] dL_law_543 (by decide) rfl ?_
          refine j_aload_n C dL_law_545 (i := 2) rfl rfl ?_
          refine j_aload_n C dL_law_546 (i := 0) rfl rfl ?_
          refine j_iload C dL_law_547 rfl ?_
          refine j_iconst C (v := 1) dL_law_549 (by decide) ?_
          refine j_iadd C dL_law_550 ?_
          refine j_sld C hXs hbl hbA dL_law_551 (fun v1096 ev1096 => ?_)
          refine j_aload_n C dL_law_552 (i := 0) rfl rfl ?_
          refine j_iload C dL_law_553 rfl ?_
          refine j_iconst C (v := 2) dL_law_555 (by decide) ?_
          refine j_iadd C dL_law_556 ?_
          refine j_sld C hXs hbl hbA dL_law_557 (fun v1097 ev1097 => ?_)
          refine j_callVim C (As := [.int _, .int _]) (rest := []) k_L_106 ⟨Nat.le_of_ble_eq_true rfl, Nat.le_of_ble_eq_true rfl⟩ rfl (Nat.le_of_ble_eq_true rfl) ⟨by show _ ≤ 601024; first | omega | (dsimp only; omega), by show _ ≤ 7293034; first | omega | (dsimp only; omega)⟩ rfl dL_law_558 (fun r0 q0 => c_Md_gap l w _ _ _ _ _ q0) (fun r1098 er1098 nr1098 => ?_)
          refine j_istore C [(6, _), (5, _), (0, _), (1, _), (2, _), (3, _), (4, _)] dL_law_561 (by decide) rfl ?_
          refine j_aload_n C dL_law_563 (i := 2) rfl rfl ?_
          refine j_callVi C (As := []) (rest := []) k_L_78 ⟨Nat.le_of_ble_eq_true rfl, Nat.le_of_ble_eq_true rfl⟩ rfl (Nat.le_of_ble_eq_true rfl) ⟨by show _ ≤ 601024; first | omega | (dsimp only; omega), by show _ ≤ 7293034; first | omega | (dsimp only; omega)⟩ rfl dL_law_564 (fun r0 q0 => c_Md_thrown l w _ _ _ q0) (fun r1099 er1099 nr1099 => ?_)
          refine j_iload C dL_law_567 rfl ?_
          refine j_icmpeq C (tgt := 574) dL_law_569 (by decide) (fun q1100 => ?_) (fun q1100 => ?_)
          · refine j_iload C dL_law_574 rfl ?_
            refine j_ifne C (tgt := 591) dL_law_576 (by decide) (fun q1101 => ?_) (fun q1101 => ?_)
            · refine j_aload_n C dL_law_579 (i := 3) rfl rfl ?_
              refine j_iconst C (v := 0) dL_law_580 (by decide) ?_
              refine j_laload C dL_law_581 (fun v1102 ev1102 => ?_)
              refine j_iload C dL_law_582 rfl ?_
              refine j_i2l C dL_law_584 ?_
              refine j_lcmp C dL_law_585 ?_
              refine j_ifeq C (tgt := 591) dL_law_586 (by decide) (fun q1103 => ?_) (fun q1103 => ?_)
              · refine j_goto C (tgt := 1383) dL_law_591 (by decide) ?_
                refine j_widen (c1 := cs + 78) (s1 := ss + 1998) (by first | omega | (dsimp only; omega)) (by first | omega | (dsimp only; omega)) ?_
                exact j_sub [2, 3, 4, 5, 6] rfl (hj1019 _)
              · refine j_iconst C (v := 0) dL_law_589 (by decide) ?_
                exact e_lawret C hag hQ hr hlk ho hw dL_law_590 (by first | omega | (dsimp only; omega)) (by first | omega | (dsimp only; omega))
            · refine j_goto C (tgt := 1383) dL_law_591 (by decide) ?_
              refine j_widen (c1 := cs + 78) (s1 := ss + 1998) (by first | omega | (dsimp only; omega)) (by first | omega | (dsimp only; omega)) ?_
              exact j_sub [2, 3, 4, 5, 6] rfl (hj1019 _)
          · refine j_iconst C (v := 0) dL_law_572 (by decide) ?_
            exact e_lawret C hag hQ hr hlk ho hw dL_law_573 (by first | omega | (dsimp only; omega)) (by first | omega | (dsimp only; omega))
        refine j_ite (fun q1104 => ?_) (fun q1104 => ?_)
        · refine j_tin C (tgt := 594) dL_law_40 (by rw [q1104]; decide) (by rw [q1104]; decide) (by rw [q1104]; rfl) (by decide) ?_
          refine j_jn (P := fun (j1108 : Int32 → Int32 → Int32 → Nat → Option (Int32 × hp_M)) => ∀ (u1109 : Int32) (u1110 : Int32) (u1111 : Int32) (u1112 : Nat), J p l e room_1 s m args below meth c Q w 9 cs ss 621 [(0, .ref a0), (1, .ref a1), (2, .ref a2), (3, .ref a3), (4, .int x4)] [.int u1109, .int u1110, .int u1111, .ref u1112] h (j1108 u1109 u1110 u1111 u1112) out) ?_ (fun j1108 hj1108 => ?_)
          · intro u1109 u1110 u1111 u1112
            refine j_jn (P := fun (j1117 : Int32 → Int32 → Int32 → Int32 → Nat → hp_M → Option (Int32 × hp_M)) => ∀ (u1118 : Int32) (u1119 : Int32) (u1120 : Int32) (u1121 : Int32) (u1122 : Nat) (h1123 : hp_M), J p l e room_1 s m args below meth c Q w 9 (cs + 1) (ss + 6) 654 [(0, .ref a0), (1, .ref a1), (2, .ref a2), (3, .ref a3), (4, .int x4), (5, .int u1118)] [.int u1119, .int u1120, .int u1121, .ref u1122] h1123 (j1117 u1118 u1119 u1120 u1121 u1122 h1123) out) ?_ (fun j1117 hj1117 => ?_)
            · intro u1118 u1119 u1120 u1121 u1122 h1123
              refine j_callVim C (As := [.int _, .int _, .int _]) (rest := []) k_L_110 ⟨Nat.le_of_ble_eq_true rfl, Nat.le_of_ble_eq_true rfl⟩ rfl (Nat.le_of_ble_eq_true rfl) ⟨by show _ ≤ 601024; first | omega | (dsimp only; omega), by show _ ≤ 7293034; first | omega | (dsimp only; omega)⟩ rfl dL_law_654 (fun r0 q0 => c_Md_meets l w _ _ _ _ _ _ q0) (fun r1124 er1124 nr1124 => ?_)
              refine j_istore C [(6, _), (0, _), (1, _), (2, _), (3, _), (4, _), (5, _)] dL_law_657 (by decide) rfl ?_
              refine j_aload_n C dL_law_659 (i := 2) rfl rfl ?_
              refine j_callVi C (As := []) (rest := []) k_L_78 ⟨Nat.le_of_ble_eq_true rfl, Nat.le_of_ble_eq_true rfl⟩ rfl (Nat.le_of_ble_eq_true rfl) ⟨by show _ ≤ 601024; first | omega | (dsimp only; omega), by show _ ≤ 7293034; first | omega | (dsimp only; omega)⟩ rfl dL_law_660 (fun r0 q0 => c_Md_thrown l w _ _ _ q0) (fun r1125 er1125 nr1125 => ?_)
              refine j_iload C dL_law_663 rfl ?_
              refine j_icmpeq C (tgt := 670) dL_law_665 (by decide) (fun q1126 => ?_) (fun q1126 => ?_)
              · refine j_iload C dL_law_670 rfl ?_
                refine j_ifne C (tgt := 694) dL_law_672 (by decide) (fun q1127 => ?_) (fun q1127 => ?_)
                · refine j_jn (P := fun (j1129 : Int64 → Int64 → Option (Int32 × hp_M)) => ∀ (u1130 : Int64) (u1131 : Int64), J p l e room_1 s m args below meth c Q w 9 (cs + 1) (ss + 6) 688 [(0, .ref a0), (1, .ref a1), (2, .ref a2), (3, .ref a3), (4, .int x4)] [.long u1130, .long u1131] r1124.2 (j1129 u1130 u1131) out) ?_ (fun j1129 hj1129 => ?_)
                  · intro u1130 u1131
                    refine j_lcmp C dL_law_688 ?_
                    refine j_ifeq C (tgt := 694) dL_law_689 (by decide) (fun q1132 => ?_) (fun q1132 => ?_)
                    · refine j_goto C (tgt := 1383) dL_law_694 (by decide) ?_
                      refine j_widen (c1 := cs + 78) (s1 := ss + 1998) (by first | omega | (dsimp only; omega)) (by first | omega | (dsimp only; omega)) ?_
                      exact hj1019 _
                    · refine j_iconst C (v := 0) dL_law_692 (by decide) ?_
                      exact e_lawret C hag hQ hr hlk ho hw dL_law_693 (by first | omega | (dsimp only; omega)) (by first | omega | (dsimp only; omega))
                  · refine j_aload_n C dL_law_675 (i := 3) rfl rfl ?_
                    refine j_iconst C (v := 0) dL_law_676 (by decide) ?_
                    refine j_laload C dL_law_677 (fun v1133 ev1133 => ?_)
                    refine j_iload C dL_law_678 rfl ?_
                    refine j_ifeq C (tgt := 687) dL_law_680 (by decide) (fun q1134 => ?_) (fun q1134 => ?_)
                    · refine j_lconst C (v := 0) dL_law_687 rfl ?_
                      exact j_sub [1, 2, 3, 4, 5] rfl (hj1129 _ _)
                    · refine j_lconst C (v := 1) dL_law_683 rfl ?_
                      refine j_goto C (tgt := 688) dL_law_684 (by decide) ?_
                      exact j_sub [1, 2, 3, 4, 5] rfl (hj1129 _ _)
                · refine j_goto C (tgt := 1383) dL_law_694 (by decide) ?_
                  refine j_widen (c1 := cs + 78) (s1 := ss + 1998) (by first | omega | (dsimp only; omega)) (by first | omega | (dsimp only; omega)) ?_
                  exact j_sub [1, 2, 3, 4, 5] rfl (hj1019 _)
              · refine j_iconst C (v := 0) dL_law_668 (by decide) ?_
                exact e_lawret C hag hQ hr hlk ho hw dL_law_669 (by first | omega | (dsimp only; omega)) (by first | omega | (dsimp only; omega))
            · refine j_aload_n C dL_law_621 (i := 3) rfl rfl ?_
              refine j_callSW C (As := [.ref _, .int _, .int _, .int _, .ref _]) (rest := []) k_L_107 ⟨Nat.le_of_ble_eq_true rfl, Nat.le_of_ble_eq_true rfl⟩ rfl (Nat.le_of_ble_eq_true rfl) ⟨by show _ ≤ 601024; first | omega | (dsimp only; omega), by show _ ≤ 7293034; first | omega | (dsimp only; omega)⟩ rfl dL_law_622 (fun r0 q0 => c_Lw_meets l w hst _ _ _ _ _ _ _ q0) (fun r1135 er1135 nr1135 => ?_)
              refine j_istore C [(5, _), (0, _), (1, _), (2, _), (3, _), (4, _)] dL_law_625 (by decide) rfl ?_
              refine j_aload_n C dL_law_627 (i := 2) rfl rfl ?_
              refine j_aload_n C dL_law_628 (i := 0) rfl rfl ?_
              refine j_iload C dL_law_629 rfl ?_
              refine j_iconst C (v := 1) dL_law_631 (by decide) ?_
              refine j_iadd C dL_law_632 ?_
              refine j_sld C hXs hbl hbA dL_law_633 (fun v1136 ev1136 => ?_)
              refine j_aload_n C dL_law_634 (i := 0) rfl rfl ?_
              refine j_iload C dL_law_635 rfl ?_
              refine j_iconst C (v := 2) dL_law_637 (by decide) ?_
              refine j_iadd C dL_law_638 ?_
              refine j_sld C hXs hbl hbA dL_law_639 (fun v1137 ev1137 => ?_)
              refine j_aload_n C dL_law_640 (i := 0) rfl rfl ?_
              refine j_iload C dL_law_641 rfl ?_
              refine j_iconst C (v := 3) dL_law_643 (by decide) ?_
              refine j_iadd C dL_law_644 ?_
              refine j_sld C hXs hbl hbA dL_law_645 (fun v1138 ev1138 => ?_)
              refine j_ifeq C (tgt := 653) dL_law_646 (by decide) (fun q1139 => ?_) (fun q1139 => ?_)
              · refine j_iconst C (v := 0) dL_law_653 (by decide) ?_
                exact j_sub [1, 2, 3, 4, 5, 0] rfl (hj1117 _ _ _ _ _ _)
              · refine j_iconst C (v := 1) dL_law_649 (by decide) ?_
                refine j_goto C (tgt := 654) dL_law_650 (by decide) ?_
                exact j_sub [1, 2, 3, 4, 5, 0] rfl (hj1117 _ _ _ _ _ _)
          · refine j_aload_n C dL_law_594 (i := 1) rfl rfl ?_
            refine j_aload_n C dL_law_595 (i := 0) rfl rfl ?_
            refine j_iload C dL_law_596 rfl ?_
            refine j_iconst C (v := 1) dL_law_598 (by decide) ?_
            refine j_iadd C dL_law_599 ?_
            refine j_sld C hXs hbl hbA dL_law_600 (fun v1140 ev1140 => ?_)
            refine j_aload_n C dL_law_601 (i := 0) rfl rfl ?_
            refine j_iload C dL_law_602 rfl ?_
            refine j_iconst C (v := 2) dL_law_604 (by decide) ?_
            refine j_iadd C dL_law_605 ?_
            refine j_sld C hXs hbl hbA dL_law_606 (fun v1141 ev1141 => ?_)
            refine j_aload_n C dL_law_607 (i := 0) rfl rfl ?_
            refine j_iload C dL_law_608 rfl ?_
            refine j_iconst C (v := 3) dL_law_610 (by decide) ?_
            refine j_iadd C dL_law_611 ?_
            refine j_sld C hXs hbl hbA dL_law_612 (fun v1142 ev1142 => ?_)
            refine j_ifeq C (tgt := 620) dL_law_613 (by decide) (fun q1143 => ?_) (fun q1143 => ?_)
            · refine j_iconst C (v := 0) dL_law_620 (by decide) ?_
              exact hj1108 _ _ _ _
            · refine j_iconst C (v := 1) dL_law_616 (by decide) ?_
              refine j_goto C (tgt := 621) dL_law_617 (by decide) ?_
              exact hj1108 _ _ _ _
        refine j_ite (fun q1144 => ?_) (fun q1144 => ?_)
        · refine j_tin C (tgt := 697) dL_law_40 (by rw [q1144]; decide) (by rw [q1144]; decide) (by rw [q1144]; rfl) (by decide) ?_
          refine j_aload_n C dL_law_697 (i := 1) rfl rfl ?_
          refine j_aload_n C dL_law_698 (i := 0) rfl rfl ?_
          refine j_iload C dL_law_699 rfl ?_
          refine j_iconst C (v := 1) dL_law_701 (by decide) ?_
          refine j_iadd C dL_law_702 ?_
          refine j_sld C hXs hbl hbA dL_law_703 (fun v1145 ev1145 => ?_)
          refine j_aload_n C dL_law_704 (i := 0) rfl rfl ?_
          refine j_iload C dL_law_705 rfl ?_
          refine j_iconst C (v := 2) dL_law_707 (by decide) ?_
          refine j_iadd C dL_law_708 ?_
          refine j_sld C hXs hbl hbA dL_law_709 (fun v1146 ev1146 => ?_)
          refine j_aload_n C dL_law_710 (i := 3) rfl rfl ?_
          refine j_callSW C (As := [.ref _, .int _, .int _, .ref _]) (rest := []) k_L_111 ⟨Nat.le_of_ble_eq_true rfl, Nat.le_of_ble_eq_true rfl⟩ rfl (Nat.le_of_ble_eq_true rfl) ⟨by show _ ≤ 601024; first | omega | (dsimp only; omega), by show _ ≤ 7293034; first | omega | (dsimp only; omega)⟩ rfl dL_law_711 (fun r0 q0 => c_Lw_letter l w hst _ _ _ _ _ _ q0) (fun r1147 er1147 nr1147 => ?_)
          refine j_istore C [(5, _), (0, _), (1, _), (2, _), (3, _), (4, _)] dL_law_714 (by decide) rfl ?_
          refine j_aload_n C dL_law_716 (i := 2) rfl rfl ?_
          refine j_aload_n C dL_law_717 (i := 0) rfl rfl ?_
          refine j_iload C dL_law_718 rfl ?_
          refine j_iconst C (v := 1) dL_law_720 (by decide) ?_
          refine j_iadd C dL_law_721 ?_
          refine j_sld C hXs hbl hbA dL_law_722 (fun v1148 ev1148 => ?_)
          refine j_aload_n C dL_law_723 (i := 0) rfl rfl ?_
          refine j_iload C dL_law_724 rfl ?_
          refine j_iconst C (v := 2) dL_law_726 (by decide) ?_
          refine j_iadd C dL_law_727 ?_
          refine j_sld C hXs hbl hbA dL_law_728 (fun v1149 ev1149 => ?_)
          refine j_callVim C (As := [.int _, .int _]) (rest := []) k_L_113 ⟨Nat.le_of_ble_eq_true rfl, Nat.le_of_ble_eq_true rfl⟩ rfl (Nat.le_of_ble_eq_true rfl) ⟨by show _ ≤ 601024; first | omega | (dsimp only; omega), by show _ ≤ 7293034; first | omega | (dsimp only; omega)⟩ rfl dL_law_729 (fun r0 q0 => c_Md_letter l w _ _ _ _ _ q0) (fun r1150 er1150 nr1150 => ?_)
          refine j_istore C [(6, _), (5, _), (0, _), (1, _), (2, _), (3, _), (4, _)] dL_law_732 (by decide) rfl ?_
          refine j_aload_n C dL_law_734 (i := 2) rfl rfl ?_
          refine j_callVi C (As := []) (rest := []) k_L_78 ⟨Nat.le_of_ble_eq_true rfl, Nat.le_of_ble_eq_true rfl⟩ rfl (Nat.le_of_ble_eq_true rfl) ⟨by show _ ≤ 601024; first | omega | (dsimp only; omega), by show _ ≤ 7293034; first | omega | (dsimp only; omega)⟩ rfl dL_law_735 (fun r0 q0 => c_Md_thrown l w _ _ _ q0) (fun r1151 er1151 nr1151 => ?_)
          refine j_iload C dL_law_738 rfl ?_
          refine j_icmpeq C (tgt := 745) dL_law_740 (by decide) (fun q1152 => ?_) (fun q1152 => ?_)
          · refine j_iload C dL_law_745 rfl ?_
            refine j_ifne C (tgt := 762) dL_law_747 (by decide) (fun q1153 => ?_) (fun q1153 => ?_)
            · refine j_aload_n C dL_law_750 (i := 3) rfl rfl ?_
              refine j_iconst C (v := 0) dL_law_751 (by decide) ?_
              refine j_laload C dL_law_752 (fun v1154 ev1154 => ?_)
              refine j_iload C dL_law_753 rfl ?_
              refine j_i2l C dL_law_755 ?_
              refine j_lcmp C dL_law_756 ?_
              refine j_ifeq C (tgt := 762) dL_law_757 (by decide) (fun q1155 => ?_) (fun q1155 => ?_)
              · refine j_goto C (tgt := 1383) dL_law_762 (by decide) ?_
                refine j_widen (c1 := cs + 78) (s1 := ss + 1998) (by first | omega | (dsimp only; omega)) (by first | omega | (dsimp only; omega)) ?_
                exact j_sub [2, 3, 4, 5, 6] rfl (hj1019 _)
              · refine j_iconst C (v := 0) dL_law_760 (by decide) ?_
                exact e_lawret C hag hQ hr hlk ho hw dL_law_761 (by first | omega | (dsimp only; omega)) (by first | omega | (dsimp only; omega))
            · refine j_goto C (tgt := 1383) dL_law_762 (by decide) ?_
              refine j_widen (c1 := cs + 78) (s1 := ss + 1998) (by first | omega | (dsimp only; omega)) (by first | omega | (dsimp only; omega)) ?_
              exact j_sub [2, 3, 4, 5, 6] rfl (hj1019 _)
          · refine j_iconst C (v := 0) dL_law_743 (by decide) ?_
            exact e_lawret C hag hQ hr hlk ho hw dL_law_744 (by first | omega | (dsimp only; omega)) (by first | omega | (dsimp only; omega))
        refine j_ite (fun q1156 => ?_) (fun q1156 => ?_)
        · refine j_tin C (tgt := 765) dL_law_40 (by rw [q1156]; decide) (by rw [q1156]; decide) (by rw [q1156]; rfl) (by decide) ?_
          refine j_aload_n C dL_law_765 (i := 1) rfl rfl ?_
          refine j_aload_n C dL_law_766 (i := 0) rfl rfl ?_
          refine j_iload C dL_law_767 rfl ?_
          refine j_iconst C (v := 1) dL_law_769 (by decide) ?_
          refine j_iadd C dL_law_770 ?_
          refine j_sld C hXs hbl hbA dL_law_771 (fun v1157 ev1157 => ?_)
          refine j_aload_n C dL_law_772 (i := 3) rfl rfl ?_
          refine j_callSW C (As := [.ref _, .int _, .ref _]) (rest := []) k_L_114 ⟨Nat.le_of_ble_eq_true rfl, Nat.le_of_ble_eq_true rfl⟩ rfl (Nat.le_of_ble_eq_true rfl) ⟨by show _ ≤ 601024; first | omega | (dsimp only; omega), by show _ ≤ 7293034; first | omega | (dsimp only; omega)⟩ rfl dL_law_773 (fun r0 q0 => c_Lw_wrote l w hst _ _ _ _ _ q0) (fun r1158 er1158 nr1158 => ?_)
          refine j_istore C [(5, _), (0, _), (1, _), (2, _), (3, _), (4, _)] dL_law_776 (by decide) rfl ?_
          refine j_aload_n C dL_law_778 (i := 2) rfl rfl ?_
          refine j_aload_n C dL_law_779 (i := 0) rfl rfl ?_
          refine j_iload C dL_law_780 rfl ?_
          refine j_iconst C (v := 1) dL_law_782 (by decide) ?_
          refine j_iadd C dL_law_783 ?_
          refine j_sld C hXs hbl hbA dL_law_784 (fun v1159 ev1159 => ?_)
          refine j_callVim C (As := [.int _]) (rest := []) k_L_116 ⟨Nat.le_of_ble_eq_true rfl, Nat.le_of_ble_eq_true rfl⟩ rfl (Nat.le_of_ble_eq_true rfl) ⟨by show _ ≤ 601024; first | omega | (dsimp only; omega), by show _ ≤ 7293034; first | omega | (dsimp only; omega)⟩ rfl dL_law_785 (fun r0 q0 => c_Md_wrote l w _ _ _ _ q0) (fun r1160 er1160 nr1160 => ?_)
          refine j_istore C [(6, _), (5, _), (0, _), (1, _), (2, _), (3, _), (4, _)] dL_law_788 (by decide) rfl ?_
          refine j_aload_n C dL_law_790 (i := 2) rfl rfl ?_
          refine j_callVi C (As := []) (rest := []) k_L_78 ⟨Nat.le_of_ble_eq_true rfl, Nat.le_of_ble_eq_true rfl⟩ rfl (Nat.le_of_ble_eq_true rfl) ⟨by show _ ≤ 601024; first | omega | (dsimp only; omega), by show _ ≤ 7293034; first | omega | (dsimp only; omega)⟩ rfl dL_law_791 (fun r0 q0 => c_Md_thrown l w _ _ _ q0) (fun r1161 er1161 nr1161 => ?_)
          refine j_iload C dL_law_794 rfl ?_
          refine j_icmpeq C (tgt := 801) dL_law_796 (by decide) (fun q1162 => ?_) (fun q1162 => ?_)
          · refine j_iload C dL_law_801 rfl ?_
            refine j_ifne C (tgt := 818) dL_law_803 (by decide) (fun q1163 => ?_) (fun q1163 => ?_)
            · refine j_aload_n C dL_law_806 (i := 3) rfl rfl ?_
              refine j_iconst C (v := 0) dL_law_807 (by decide) ?_
              refine j_laload C dL_law_808 (fun v1164 ev1164 => ?_)
              refine j_iload C dL_law_809 rfl ?_
              refine j_i2l C dL_law_811 ?_
              refine j_lcmp C dL_law_812 ?_
              refine j_ifeq C (tgt := 818) dL_law_813 (by decide) (fun q1165 => ?_) (fun q1165 => ?_)
              · refine j_goto C (tgt := 1383) dL_law_818 (by decide) ?_
                refine j_widen (c1 := cs + 78) (s1 := ss + 1998) (by first | omega | (dsimp only; omega)) (by first | omega | (dsimp only; omega)) ?_
                exact j_sub [2, 3, 4, 5, 6] rfl (hj1019 _)
              · refine j_iconst C (v := 0) dL_law_816 (by decide) ?_
                exact e_lawret C hag hQ hr hlk ho hw dL_law_817 (by first | omega | (dsimp only; omega)) (by first | omega | (dsimp only; omega))
            · refine j_goto C (tgt := 1383) dL_law_818 (by decide) ?_
              refine j_widen (c1 := cs + 78) (s1 := ss + 1998) (by first | omega | (dsimp only; omega)) (by first | omega | (dsimp only; omega)) ?_
              exact j_sub [2, 3, 4, 5, 6] rfl (hj1019 _)
          · refine j_iconst C (v := 0) dL_law_799 (by decide) ?_
            exact e_lawret C hag hQ hr hlk ho hw dL_law_800 (by first | omega | (dsimp only; omega)) (by first | omega | (dsimp only; omega))
        refine j_ite (fun q1166 => ?_) (fun q1166 => ?_)
        · refine j_tin C (tgt := 821) dL_law_40 (by rw [q1166]; decide) (by rw [q1166]; decide) (by rw [q1166]; rfl) (by decide) ?_
          refine j_aload_n C dL_law_821 (i := 1) rfl rfl ?_
          refine j_aload_n C dL_law_822 (i := 0) rfl rfl ?_
          refine j_iload C dL_law_823 rfl ?_
          refine j_iconst C (v := 1) dL_law_825 (by decide) ?_
          refine j_iadd C dL_law_826 ?_
          refine j_sld C hXs hbl hbA dL_law_827 (fun v1167 ev1167 => ?_)
          refine j_aload_n C dL_law_828 (i := 3) rfl rfl ?_
          refine j_callSW C (As := [.ref _, .int _, .ref _]) (rest := []) k_L_117 ⟨Nat.le_of_ble_eq_true rfl, Nat.le_of_ble_eq_true rfl⟩ rfl (Nat.le_of_ble_eq_true rfl) ⟨by show _ ≤ 601024; first | omega | (dsimp only; omega), by show _ ≤ 7293034; first | omega | (dsimp only; omega)⟩ rfl dL_law_829 (fun r0 q0 => c_Lw_pass l w hst fl _ _ _ _ _ q0) (fun r1168 er1168 nr1168 => ?_)
          refine j_istore C [(5, _), (0, _), (1, _), (2, _), (3, _), (4, _)] dL_law_832 (by decide) rfl ?_
          refine j_aload_n C dL_law_834 (i := 2) rfl rfl ?_
          refine j_aload_n C dL_law_835 (i := 0) rfl rfl ?_
          refine j_iload C dL_law_836 rfl ?_
          refine j_iconst C (v := 1) dL_law_838 (by decide) ?_
          refine j_iadd C dL_law_839 ?_
          refine j_sld C hXs hbl hbA dL_law_840 (fun v1169 ev1169 => ?_)
          refine j_callVim C (As := [.int _]) (rest := []) k_L_119 ⟨Nat.le_of_ble_eq_true rfl, Nat.le_of_ble_eq_true rfl⟩ rfl (Nat.le_of_ble_eq_true rfl) ⟨by show _ ≤ 601024; first | omega | (dsimp only; omega), by show _ ≤ 7293034; first | omega | (dsimp only; omega)⟩ rfl dL_law_841 (fun r0 q0 => c_Md_pass l w fl _ _ _ _ q0) (fun r1170 er1170 nr1170 => ?_)
          refine j_istore C [(6, _), (5, _), (0, _), (1, _), (2, _), (3, _), (4, _)] dL_law_844 (by decide) rfl ?_
          refine j_aload_n C dL_law_846 (i := 2) rfl rfl ?_
          refine j_callVi C (As := []) (rest := []) k_L_78 ⟨Nat.le_of_ble_eq_true rfl, Nat.le_of_ble_eq_true rfl⟩ rfl (Nat.le_of_ble_eq_true rfl) ⟨by show _ ≤ 601024; first | omega | (dsimp only; omega), by show _ ≤ 7293034; first | omega | (dsimp only; omega)⟩ rfl dL_law_847 (fun r0 q0 => c_Md_thrown l w _ _ _ q0) (fun r1171 er1171 nr1171 => ?_)
          refine j_iload C dL_law_850 rfl ?_
          refine j_icmpeq C (tgt := 857) dL_law_852 (by decide) (fun q1172 => ?_) (fun q1172 => ?_)
          · refine j_iload C dL_law_857 rfl ?_
            refine j_ifne C (tgt := 874) dL_law_859 (by decide) (fun q1173 => ?_) (fun q1173 => ?_)
            · refine j_aload_n C dL_law_862 (i := 3) rfl rfl ?_
              refine j_iconst C (v := 0) dL_law_863 (by decide) ?_
              refine j_laload C dL_law_864 (fun v1174 ev1174 => ?_)
              refine j_iload C dL_law_865 rfl ?_
              refine j_i2l C dL_law_867 ?_
              refine j_lcmp C dL_law_868 ?_
              refine j_ifeq C (tgt := 874) dL_law_869 (by decide) (fun q1175 => ?_) (fun q1175 => ?_)
              · refine j_goto C (tgt := 1383) dL_law_874 (by decide) ?_
                refine j_widen (c1 := cs + 78) (s1 := ss + 1998) (by first | omega | (dsimp only; omega)) (by first | omega | (dsimp only; omega)) ?_
                exact j_sub [2, 3, 4, 5, 6] rfl (hj1019 _)
              · refine j_iconst C (v := 0) dL_law_872 (by decide) ?_
                exact e_lawret C hag hQ hr hlk ho hw dL_law_873 (by first | omega | (dsimp only; omega)) (by first | omega | (dsimp only; omega))
            · refine j_goto C (tgt := 1383) dL_law_874 (by decide) ?_
              refine j_widen (c1 := cs + 78) (s1 := ss + 1998) (by first | omega | (dsimp only; omega)) (by first | omega | (dsimp only; omega)) ?_
              exact j_sub [2, 3, 4, 5, 6] rfl (hj1019 _)
          · refine j_iconst C (v := 0) dL_law_855 (by decide) ?_
            exact e_lawret C hag hQ hr hlk ho hw dL_law_856 (by first | omega | (dsimp only; omega)) (by first | omega | (dsimp only; omega))
        refine j_ite (fun q1176 => ?_) (fun q1176 => ?_)
        · refine j_tin C (tgt := 877) dL_law_40 (by rw [q1176]; decide) (by rw [q1176]; decide) (by rw [q1176]; rfl) (by decide) ?_
          refine j_aload_n C dL_law_877 (i := 1) rfl rfl ?_
          refine j_aload_n C dL_law_878 (i := 0) rfl rfl ?_
          refine j_iload C dL_law_879 rfl ?_
          refine j_iconst C (v := 1) dL_law_881 (by decide) ?_
          refine j_iadd C dL_law_882 ?_
          refine j_sld C hXs hbl hbA dL_law_883 (fun v1177 ev1177 => ?_)
          refine j_aload_n C dL_law_884 (i := 3) rfl rfl ?_
          refine j_callSW C (As := [.ref _, .int _, .ref _]) (rest := []) k_L_120 ⟨Nat.le_of_ble_eq_true rfl, Nat.le_of_ble_eq_true rfl⟩ rfl (Nat.le_of_ble_eq_true rfl) ⟨by show _ ≤ 601024; first | omega | (dsimp only; omega), by show _ ≤ 7293034; first | omega | (dsimp only; omega)⟩ rfl dL_law_885 (fun r0 q0 => c_Lw_byteAt l w hst _ _ _ _ _ q0) (fun r1178 er1178 nr1178 => ?_)
          refine j_istore C [(5, _), (0, _), (1, _), (2, _), (3, _), (4, _)] dL_law_888 (by decide) rfl ?_
          refine j_aload_n C dL_law_890 (i := 2) rfl rfl ?_
          refine j_aload_n C dL_law_891 (i := 0) rfl rfl ?_
          refine j_iload C dL_law_892 rfl ?_
          refine j_iconst C (v := 1) dL_law_894 (by decide) ?_
          refine j_iadd C dL_law_895 ?_
          refine j_sld C hXs hbl hbA dL_law_896 (fun v1179 ev1179 => ?_)
          refine j_callVim C (As := [.int _]) (rest := []) k_L_122 ⟨Nat.le_of_ble_eq_true rfl, Nat.le_of_ble_eq_true rfl⟩ rfl (Nat.le_of_ble_eq_true rfl) ⟨by show _ ≤ 601024; first | omega | (dsimp only; omega), by show _ ≤ 7293034; first | omega | (dsimp only; omega)⟩ rfl dL_law_897 (fun r0 q0 => c_Md_byteAt l w _ _ _ _ q0) (fun r1180 er1180 nr1180 => ?_)
          refine j_istore C [(6, _), (5, _), (0, _), (1, _), (2, _), (3, _), (4, _)] dL_law_900 (by decide) rfl ?_
          refine j_aload_n C dL_law_902 (i := 2) rfl rfl ?_
          refine j_callVi C (As := []) (rest := []) k_L_78 ⟨Nat.le_of_ble_eq_true rfl, Nat.le_of_ble_eq_true rfl⟩ rfl (Nat.le_of_ble_eq_true rfl) ⟨by show _ ≤ 601024; first | omega | (dsimp only; omega), by show _ ≤ 7293034; first | omega | (dsimp only; omega)⟩ rfl dL_law_903 (fun r0 q0 => c_Md_thrown l w _ _ _ q0) (fun r1181 er1181 nr1181 => ?_)
          refine j_iload C dL_law_906 rfl ?_
          refine j_icmpeq C (tgt := 913) dL_law_908 (by decide) (fun q1182 => ?_) (fun q1182 => ?_)
          · refine j_iload C dL_law_913 rfl ?_
            refine j_ifne C (tgt := 930) dL_law_915 (by decide) (fun q1183 => ?_) (fun q1183 => ?_)
            · refine j_aload_n C dL_law_918 (i := 3) rfl rfl ?_
              refine j_iconst C (v := 0) dL_law_919 (by decide) ?_
              refine j_laload C dL_law_920 (fun v1184 ev1184 => ?_)
              refine j_iload C dL_law_921 rfl ?_
              refine j_i2l C dL_law_923 ?_
              refine j_lcmp C dL_law_924 ?_
              refine j_ifeq C (tgt := 930) dL_law_925 (by decide) (fun q1185 => ?_) (fun q1185 => ?_)
              · refine j_goto C (tgt := 1383) dL_law_930 (by decide) ?_
                refine j_widen (c1 := cs + 78) (s1 := ss + 1998) (by first | omega | (dsimp only; omega)) (by first | omega | (dsimp only; omega)) ?_
                exact j_sub [2, 3, 4, 5, 6] rfl (hj1019 _)
              · refine j_iconst C (v := 0) dL_law_928 (by decide) ?_
                exact e_lawret C hag hQ hr hlk ho hw dL_law_929 (by first | omega | (dsimp only; omega)) (by first | omega | (dsimp only; omega))
            · refine j_goto C (tgt := 1383) dL_law_930 (by decide) ?_
              refine j_widen (c1 := cs + 78) (s1 := ss + 1998) (by first | omega | (dsimp only; omega)) (by first | omega | (dsimp only; omega)) ?_
              exact j_sub [2, 3, 4, 5, 6] rfl (hj1019 _)
          · refine j_iconst C (v := 0) dL_law_911 (by decide) ?_
            exact e_lawret C hag hQ hr hlk ho hw dL_law_912 (by first | omega | (dsimp only; omega)) (by first | omega | (dsimp only; omega))
        refine j_ite (fun q1186 => ?_) (fun q1186 => ?_)
        · refine j_tin C (tgt := 933) dL_law_40 (by rw [q1186]; decide) (by rw [q1186]; decide) (by rw [q1186]; rfl) (by decide) ?_
          refine j_aload_n C dL_law_933 (i := 1) rfl rfl ?_
          refine j_callVim C (As := []) (rest := []) k_L_123 ⟨Nat.le_of_ble_eq_true rfl, Nat.le_of_ble_eq_true rfl⟩ rfl (Nat.le_of_ble_eq_true rfl) ⟨by show _ ≤ 601024; first | omega | (dsimp only; omega), by show _ ≤ 7293034; first | omega | (dsimp only; omega)⟩ rfl dL_law_934 (fun r0 q0 => c_SS_clear l w _ _ _ q0) (fun r1187 er1187 nr1187 => ?_)
          refine j_aload_n C dL_law_937 (i := 2) rfl rfl ?_
          refine j_callVim C (As := []) (rest := [_]) k_L_126 ⟨Nat.le_of_ble_eq_true rfl, Nat.le_of_ble_eq_true rfl⟩ rfl (Nat.le_of_ble_eq_true rfl) ⟨by show _ ≤ 601024; first | omega | (dsimp only; omega), by show _ ≤ 7293034; first | omega | (dsimp only; omega)⟩ rfl dL_law_938 (fun r0 q0 => c_Md_clear l w _ _ _ q0) (fun r1188 er1188 nr1188 => ?_)
          refine j_icmpeq C (tgt := 1383) dL_law_941 (by decide) (fun q1189 => ?_) (fun q1189 => ?_)
          · refine j_widen (c1 := cs + 78) (s1 := ss + 1998) (by first | omega | (dsimp only; omega)) (by first | omega | (dsimp only; omega)) ?_
            exact hj1019 _
          · refine j_iconst C (v := 0) dL_law_944 (by decide) ?_
            exact e_lawret C hag hQ hr hlk ho hw dL_law_945 (by first | omega | (dsimp only; omega)) (by first | omega | (dsimp only; omega))
        refine j_ite (fun q1190 => ?_) (fun q1190 => ?_)
        · refine j_tin C (tgt := 946) dL_law_40 (by rw [q1190]; decide) (by rw [q1190]; decide) (by rw [q1190]; rfl) (by decide) ?_
          refine j_aload_n C dL_law_946 (i := 1) rfl rfl ?_
          refine j_callVi C (As := []) (rest := []) k_L_127 ⟨Nat.le_of_ble_eq_true rfl, Nat.le_of_ble_eq_true rfl⟩ rfl (Nat.le_of_ble_eq_true rfl) ⟨by show _ ≤ 601024; first | omega | (dsimp only; omega), by show _ ≤ 7293034; first | omega | (dsimp only; omega)⟩ rfl dL_law_947 (fun r0 q0 => c_SS_find l w fl _ _ _ q0) (fun r1191 er1191 nr1191 => ?_)
          refine j_aload_n C dL_law_950 (i := 2) rfl rfl ?_
          refine j_callVim C (As := []) (rest := [_]) k_L_130 ⟨Nat.le_of_ble_eq_true rfl, Nat.le_of_ble_eq_true rfl⟩ rfl (Nat.le_of_ble_eq_true rfl) ⟨by show _ ≤ 601024; first | omega | (dsimp only; omega), by show _ ≤ 7293034; first | omega | (dsimp only; omega)⟩ rfl dL_law_951 (fun r0 q0 => c_Md_find l w fl _ _ _ q0) (fun r1192 er1192 nr1192 => ?_)
          refine j_icmpeq C (tgt := 1383) dL_law_954 (by decide) (fun q1193 => ?_) (fun q1193 => ?_)
          · refine j_widen (c1 := cs + 78) (s1 := ss + 1998) (by first | omega | (dsimp only; omega)) (by first | omega | (dsimp only; omega)) ?_
            exact hj1019 _
          · refine j_iconst C (v := 0) dL_law_957 (by decide) ?_
            exact e_lawret C hag hQ hr hlk ho hw dL_law_958 (by first | omega | (dsimp only; omega)) (by first | omega | (dsimp only; omega))
        refine j_ite (fun q1194 => ?_) (fun q1194 => ?_)
        · refine j_tin C (tgt := 959) dL_law_40 (by rw [q1194]; decide) (by rw [q1194]; decide) (by rw [q1194]; rfl) (by decide) ?_
          refine j_aload_n C dL_law_959 (i := 1) rfl rfl ?_
          refine j_aload_n C dL_law_960 (i := 0) rfl rfl ?_
          refine j_iload C dL_law_961 rfl ?_
          refine j_iconst C (v := 1) dL_law_963 (by decide) ?_
          refine j_iadd C dL_law_964 ?_
          refine j_sld C hXs hbl hbA dL_law_965 (fun v1195 ev1195 => ?_)
          refine j_aload_n C dL_law_966 (i := 0) rfl rfl ?_
          refine j_iload C dL_law_967 rfl ?_
          refine j_iconst C (v := 2) dL_law_969 (by decide) ?_
          refine j_iadd C dL_law_970 ?_
          refine j_sld C hXs hbl hbA dL_law_971 (fun v1196 ev1196 => ?_)
          refine j_aload_n C dL_law_972 (i := 3) rfl rfl ?_
          refine j_callSW C (As := [.ref _, .int _, .int _, .ref _]) (rest := []) k_L_131 ⟨Nat.le_of_ble_eq_true rfl, Nat.le_of_ble_eq_true rfl⟩ rfl (Nat.le_of_ble_eq_true rfl) ⟨by show _ ≤ 601024; first | omega | (dsimp only; omega), by show _ ≤ 7293034; first | omega | (dsimp only; omega)⟩ rfl dL_law_973 (fun r0 q0 => c_Lw_translate l w hst fl _ _ _ _ _ _ q0) (fun r1197 er1197 nr1197 => ?_)
          refine j_istore C [(5, _), (0, _), (1, _), (2, _), (3, _), (4, _)] dL_law_976 (by decide) rfl ?_
          refine j_aload_n C dL_law_978 (i := 2) rfl rfl ?_
          refine j_aload_n C dL_law_979 (i := 0) rfl rfl ?_
          refine j_iload C dL_law_980 rfl ?_
          refine j_iconst C (v := 1) dL_law_982 (by decide) ?_
          refine j_iadd C dL_law_983 ?_
          refine j_sld C hXs hbl hbA dL_law_984 (fun v1198 ev1198 => ?_)
          refine j_aload_n C dL_law_985 (i := 0) rfl rfl ?_
          refine j_iload C dL_law_986 rfl ?_
          refine j_iconst C (v := 2) dL_law_988 (by decide) ?_
          refine j_iadd C dL_law_989 ?_
          refine j_sld C hXs hbl hbA dL_law_990 (fun v1199 ev1199 => ?_)
          refine j_callVim C (As := [.int _, .int _]) (rest := []) k_L_133 ⟨Nat.le_of_ble_eq_true rfl, Nat.le_of_ble_eq_true rfl⟩ rfl (Nat.le_of_ble_eq_true rfl) ⟨by show _ ≤ 601024; first | omega | (dsimp only; omega), by show _ ≤ 7293034; first | omega | (dsimp only; omega)⟩ rfl dL_law_991 (fun r0 q0 => c_Md_translate l w fl _ _ _ _ _ q0) (fun r1200 er1200 nr1200 => ?_)
          refine j_istore C [(6, _), (5, _), (0, _), (1, _), (2, _), (3, _), (4, _)] dL_law_994 (by decide) rfl ?_
          refine j_aload_n C dL_law_996 (i := 2) rfl rfl ?_
          refine j_callVi C (As := []) (rest := []) k_L_78 ⟨Nat.le_of_ble_eq_true rfl, Nat.le_of_ble_eq_true rfl⟩ rfl (Nat.le_of_ble_eq_true rfl) ⟨by show _ ≤ 601024; first | omega | (dsimp only; omega), by show _ ≤ 7293034; first | omega | (dsimp only; omega)⟩ rfl dL_law_997 (fun r0 q0 => c_Md_thrown l w _ _ _ q0) (fun r1201 er1201 nr1201 => ?_)
          refine j_iload C dL_law_1000 rfl ?_
          refine j_icmpeq C (tgt := 1007) dL_law_1002 (by decide) (fun q1202 => ?_) (fun q1202 => ?_)
          · refine j_iload C dL_law_1007 rfl ?_
            refine j_ifne C (tgt := 1024) dL_law_1009 (by decide) (fun q1203 => ?_) (fun q1203 => ?_)
            · refine j_aload_n C dL_law_1012 (i := 3) rfl rfl ?_
              refine j_iconst C (v := 0) dL_law_1013 (by decide) ?_
              refine j_laload C dL_law_1014 (fun v1204 ev1204 => ?_)
              refine j_iload C dL_law_1015 rfl ?_
              refine j_i2l C dL_law_1017 ?_
              refine j_lcmp C dL_law_1018 ?_
              refine j_ifeq C (tgt := 1024) dL_law_1019 (by decide) (fun q1205 => ?_) (fun q1205 => ?_)
              · refine j_goto C (tgt := 1383) dL_law_1024 (by decide) ?_
                refine j_widen (c1 := cs + 78) (s1 := ss + 1998) (by first | omega | (dsimp only; omega)) (by first | omega | (dsimp only; omega)) ?_
                exact j_sub [2, 3, 4, 5, 6] rfl (hj1019 _)
              · refine j_iconst C (v := 0) dL_law_1022 (by decide) ?_
                exact e_lawret C hag hQ hr hlk ho hw dL_law_1023 (by first | omega | (dsimp only; omega)) (by first | omega | (dsimp only; omega))
            · refine j_goto C (tgt := 1383) dL_law_1024 (by decide) ?_
              refine j_widen (c1 := cs + 78) (s1 := ss + 1998) (by first | omega | (dsimp only; omega)) (by first | omega | (dsimp only; omega)) ?_
              exact j_sub [2, 3, 4, 5, 6] rfl (hj1019 _)
          · refine j_iconst C (v := 0) dL_law_1005 (by decide) ?_
            exact e_lawret C hag hQ hr hlk ho hw dL_law_1006 (by first | omega | (dsimp only; omega)) (by first | omega | (dsimp only; omega))
        refine j_ite (fun q1206 => ?_) (fun q1206 => ?_)
        · refine j_tin C (tgt := 1027) dL_law_40 (by rw [q1206]; decide) (by rw [q1206]; decide) (by rw [q1206]; rfl) (by decide) ?_
          refine j_aload_n C dL_law_1027 (i := 1) rfl rfl ?_
          refine j_aload_n C dL_law_1028 (i := 0) rfl rfl ?_
          refine j_iload C dL_law_1029 rfl ?_
          refine j_iconst C (v := 1) dL_law_1031 (by decide) ?_
          refine j_iadd C dL_law_1032 ?_
          refine j_sld C hXs hbl hbA dL_law_1033 (fun v1207 ev1207 => ?_)
          refine j_aload_n C dL_law_1034 (i := 0) rfl rfl ?_
          refine j_iload C dL_law_1035 rfl ?_
          refine j_iconst C (v := 2) dL_law_1037 (by decide) ?_
          refine j_iadd C dL_law_1038 ?_
          refine j_sld C hXs hbl hbA dL_law_1039 (fun v1208 ev1208 => ?_)
          refine j_aload_n C dL_law_1040 (i := 3) rfl rfl ?_
          refine j_callSW C (As := [.ref _, .int _, .int _, .ref _]) (rest := []) k_L_134 ⟨Nat.le_of_ble_eq_true rfl, Nat.le_of_ble_eq_true rfl⟩ rfl (Nat.le_of_ble_eq_true rfl) ⟨by show _ ≤ 601024; first | omega | (dsimp only; omega), by show _ ≤ 7293034; first | omega | (dsimp only; omega)⟩ rfl dL_law_1041 (fun r0 q0 => c_Lw_foresee l w hst fl _ _ _ _ _ _ q0) (fun r1209 er1209 nr1209 => ?_)
          refine j_istore C [(5, _), (0, _), (1, _), (2, _), (3, _), (4, _)] dL_law_1044 (by decide) rfl ?_
          refine j_aload_n C dL_law_1046 (i := 2) rfl rfl ?_
          refine j_aload_n C dL_law_1047 (i := 0) rfl rfl ?_
          refine j_iload C dL_law_1048 rfl ?_
          refine j_iconst C (v := 1) dL_law_1050 (by decide) ?_
          refine j_iadd C dL_law_1051 ?_
          refine j_sld C hXs hbl hbA dL_law_1052 (fun v1210 ev1210 => ?_)
          refine j_aload_n C dL_law_1053 (i := 0) rfl rfl ?_
          refine j_iload C dL_law_1054 rfl ?_
          refine j_iconst C (v := 2) dL_law_1056 (by decide) ?_
          refine j_iadd C dL_law_1057 ?_
          refine j_sld C hXs hbl hbA dL_law_1058 (fun v1211 ev1211 => ?_)
          refine j_callVim C (As := [.int _, .int _]) (rest := []) k_L_136 ⟨Nat.le_of_ble_eq_true rfl, Nat.le_of_ble_eq_true rfl⟩ rfl (Nat.le_of_ble_eq_true rfl) ⟨by show _ ≤ 601024; first | omega | (dsimp only; omega), by show _ ≤ 7293034; first | omega | (dsimp only; omega)⟩ rfl dL_law_1059 (fun r0 q0 => c_Md_foresee l w fl _ _ _ _ _ q0) (fun r1212 er1212 nr1212 => ?_)
          refine j_istore C [(6, _), (5, _), (0, _), (1, _), (2, _), (3, _), (4, _)] dL_law_1062 (by decide) rfl ?_
          refine j_aload_n C dL_law_1064 (i := 2) rfl rfl ?_
          refine j_callVi C (As := []) (rest := []) k_L_78 ⟨Nat.le_of_ble_eq_true rfl, Nat.le_of_ble_eq_true rfl⟩ rfl (Nat.le_of_ble_eq_true rfl) ⟨by show _ ≤ 601024; first | omega | (dsimp only; omega), by show _ ≤ 7293034; first | omega | (dsimp only; omega)⟩ rfl dL_law_1065 (fun r0 q0 => c_Md_thrown l w _ _ _ q0) (fun r1213 er1213 nr1213 => ?_)
          refine j_iload C dL_law_1068 rfl ?_
          refine j_icmpeq C (tgt := 1075) dL_law_1070 (by decide) (fun q1214 => ?_) (fun q1214 => ?_)
          · refine j_iload C dL_law_1075 rfl ?_
            refine j_ifne C (tgt := 1092) dL_law_1077 (by decide) (fun q1215 => ?_) (fun q1215 => ?_)
            · refine j_aload_n C dL_law_1080 (i := 3) rfl rfl ?_
              refine j_iconst C (v := 0) dL_law_1081 (by decide) ?_
              refine j_laload C dL_law_1082 (fun v1216 ev1216 => ?_)
              refine j_iload C dL_law_1083 rfl ?_
              refine j_i2l C dL_law_1085 ?_
              refine j_lcmp C dL_law_1086 ?_
              refine j_ifeq C (tgt := 1092) dL_law_1087 (by decide) (fun q1217 => ?_) (fun q1217 => ?_)
              · refine j_goto C (tgt := 1383) dL_law_1092 (by decide) ?_
                refine j_widen (c1 := cs + 78) (s1 := ss + 1998) (by first | omega | (dsimp only; omega)) (by first | omega | (dsimp only; omega)) ?_
                exact j_sub [2, 3, 4, 5, 6] rfl (hj1019 _)
              · refine j_iconst C (v := 0) dL_law_1090 (by decide) ?_
                exact e_lawret C hag hQ hr hlk ho hw dL_law_1091 (by first | omega | (dsimp only; omega)) (by first | omega | (dsimp only; omega))
            · refine j_goto C (tgt := 1383) dL_law_1092 (by decide) ?_
              refine j_widen (c1 := cs + 78) (s1 := ss + 1998) (by first | omega | (dsimp only; omega)) (by first | omega | (dsimp only; omega)) ?_
              exact j_sub [2, 3, 4, 5, 6] rfl (hj1019 _)
          · refine j_iconst C (v := 0) dL_law_1073 (by decide) ?_
            exact e_lawret C hag hQ hr hlk ho hw dL_law_1074 (by first | omega | (dsimp only; omega)) (by first | omega | (dsimp only; omega))
        refine j_ite (fun q1218 => ?_) (fun q1218 => ?_)
        · refine j_tin C (tgt := 1095) dL_law_40 (by rw [q1218]; decide) (by rw [q1218]; decide) (by rw [q1218]; rfl) (by decide) ?_
          refine j_jn (P := fun (j1222 : Int32 → Int32 → Int32 → Nat → Option (Int32 × hp_M)) => ∀ (u1223 : Int32) (u1224 : Int32) (u1225 : Int32) (u1226 : Nat), J p l e room_1 s m args below meth c Q w 9 cs ss 1122 [(0, .ref a0), (1, .ref a1), (2, .ref a2), (3, .ref a3), (4, .int x4)] [.int u1223, .int u1224, .int u1225, .ref u1226] h (j1222 u1223 u1224 u1225 u1226) out) ?_ (fun j1222 hj1222 => ?_)
          · intro u1223 u1224 u1225 u1226
            refine j_jn (P := fun (j1231 : Int32 → Int32 → Int32 → Int32 → Nat → hp_M → Option (Int32 × hp_M)) => ∀ (u1232 : Int32) (u1233 : Int32) (u1234 : Int32) (u1235 : Int32) (u1236 : Nat) (h1237 : hp_M), J p l e room_1 s m args below meth c Q w 9 (cs + 1) (ss + 6) 1155 [(0, .ref a0), (1, .ref a1), (2, .ref a2), (3, .ref a3), (4, .int x4), (5, .int u1232)] [.int u1233, .int u1234, .int u1235, .ref u1236] h1237 (j1231 u1232 u1233 u1234 u1235 u1236 h1237) out) ?_ (fun j1231 hj1231 => ?_)
            · intro u1232 u1233 u1234 u1235 u1236 h1237
              refine j_callVim C (As := [.int _, .int _, .int _]) (rest := []) k_L_139 ⟨Nat.le_of_ble_eq_true rfl, Nat.le_of_ble_eq_true rfl⟩ rfl (Nat.le_of_ble_eq_true rfl) ⟨by show _ ≤ 601024; first | omega | (dsimp only; omega), by show _ ≤ 7293034; first | omega | (dsimp only; omega)⟩ rfl dL_law_1155 (fun r0 q0 => c_Md_next l w fl _ _ _ _ _ _ q0) (fun r1238 er1238 nr1238 => ?_)
              refine j_istore C [(6, _), (0, _), (1, _), (2, _), (3, _), (4, _), (5, _)] dL_law_1158 (by decide) rfl ?_
              refine j_aload_n C dL_law_1160 (i := 2) rfl rfl ?_
              refine j_callVi C (As := []) (rest := []) k_L_78 ⟨Nat.le_of_ble_eq_true rfl, Nat.le_of_ble_eq_true rfl⟩ rfl (Nat.le_of_ble_eq_true rfl) ⟨by show _ ≤ 601024; first | omega | (dsimp only; omega), by show _ ≤ 7293034; first | omega | (dsimp only; omega)⟩ rfl dL_law_1161 (fun r0 q0 => c_Md_thrown l w _ _ _ q0) (fun r1239 er1239 nr1239 => ?_)
              refine j_iload C dL_law_1164 rfl ?_
              refine j_icmpeq C (tgt := 1171) dL_law_1166 (by decide) (fun q1240 => ?_) (fun q1240 => ?_)
              · refine j_iload C dL_law_1171 rfl ?_
                refine j_ifne C (tgt := 1188) dL_law_1173 (by decide) (fun q1241 => ?_) (fun q1241 => ?_)
                · refine j_aload_n C dL_law_1176 (i := 3) rfl rfl ?_
                  refine j_iconst C (v := 0) dL_law_1177 (by decide) ?_
                  refine j_laload C dL_law_1178 (fun v1242 ev1242 => ?_)
                  refine j_iload C dL_law_1179 rfl ?_
                  refine j_i2l C dL_law_1181 ?_
                  refine j_lcmp C dL_law_1182 ?_
                  refine j_ifeq C (tgt := 1188) dL_law_1183 (by decide) (fun q1243 => ?_) (fun q1243 => ?_)
                  · refine j_goto C (tgt := 1383) dL_law_1188 (by decide) ?_
                    refine j_widen (c1 := cs + 78) (s1 := ss + 1998) (by first | omega | (dsimp only; omega)) (by first | omega | (dsimp only; omega)) ?_
                    exact j_sub [1, 2, 3, 4, 5] rfl (hj1019 _)
                  · refine j_iconst C (v := 0) dL_law_1186 (by decide) ?_
                    exact e_lawret C hag hQ hr hlk ho hw dL_law_1187 (by first | omega | (dsimp only; omega)) (by first | omega | (dsimp only; omega))
                · refine j_goto C (tgt := 1383) dL_law_1188 (by decide) ?_
                  refine j_widen (c1 := cs + 78) (s1 := ss + 1998) (by first | omega | (dsimp only; omega)) (by first | omega | (dsimp only; omega)) ?_
                  exact j_sub [1, 2, 3, 4, 5] rfl (hj1019 _)
              · refine j_iconst C (v := 0) dL_law_1169 (by decide) ?_
                exact e_lawret C hag hQ hr hlk ho hw dL_law_1170 (by first | omega | (dsimp only; omega)) (by first | omega | (dsimp only; omega))
            · refine j_aload_n C dL_law_1122 (i := 3) rfl rfl ?_
              refine j_callSW C (As := [.ref _, .int _, .int _, .int _, .ref _]) (rest := []) k_L_137 ⟨Nat.le_of_ble_eq_true rfl, Nat.le_of_ble_eq_true rfl⟩ rfl (Nat.le_of_ble_eq_true rfl) ⟨by show _ ≤ 601024; first | omega | (dsimp only; omega), by show _ ≤ 7293034; first | omega | (dsimp only; omega)⟩ rfl dL_law_1123 (fun r0 q0 => c_Lw_next l w hst fl _ _ _ _ _ _ _ q0) (fun r1244 er1244 nr1244 => ?_)
              refine j_istore C [(5, _), (0, _), (1, _), (2, _), (3, _), (4, _)] dL_law_1126 (by decide) rfl ?_
              refine j_aload_n C dL_law_1128 (i := 2) rfl rfl ?_
              refine j_aload_n C dL_law_1129 (i := 0) rfl rfl ?_
              refine j_iload C dL_law_1130 rfl ?_
              refine j_iconst C (v := 1) dL_law_1132 (by decide) ?_
              refine j_iadd C dL_law_1133 ?_
              refine j_sld C hXs hbl hbA dL_law_1134 (fun v1245 ev1245 => ?_)
              refine j_aload_n C dL_law_1135 (i := 0) rfl rfl ?_
              refine j_iload C dL_law_1136 rfl ?_
              refine j_iconst C (v := 2) dL_law_1138 (by decide) ?_
              refine j_iadd C dL_law_1139 ?_
              refine j_sld C hXs hbl hbA dL_law_1140 (fun v1246 ev1246 => ?_)
              refine j_aload_n C dL_law_1141 (i := 0) rfl rfl ?_
              refine j_iload C dL_law_1142 rfl ?_
              refine j_iconst C (v := 3) dL_law_1144 (by decide) ?_
              refine j_iadd C dL_law_1145 ?_
              refine j_sld C hXs hbl hbA dL_law_1146 (fun v1247 ev1247 => ?_)
              refine j_ifeq C (tgt := 1154) dL_law_1147 (by decide) (fun q1248 => ?_) (fun q1248 => ?_)
              · refine j_iconst C (v := 0) dL_law_1154 (by decide) ?_
                exact j_sub [1, 2, 3, 4, 5, 0] rfl (hj1231 _ _ _ _ _ _)
              · refine j_iconst C (v := 1) dL_law_1150 (by decide) ?_
                refine j_goto C (tgt := 1155) dL_law_1151 (by decide) ?_
                exact j_sub [1, 2, 3, 4, 5, 0] rfl (hj1231 _ _ _ _ _ _)
          · refine j_aload_n C dL_law_1095 (i := 1) rfl rfl ?_
            refine j_aload_n C dL_law_1096 (i := 0) rfl rfl ?_
            refine j_iload C dL_law_1097 rfl ?_
            refine j_iconst C (v := 1) dL_law_1099 (by decide) ?_
            refine j_iadd C dL_law_1100 ?_
            refine j_sld C hXs hbl hbA dL_law_1101 (fun v1249 ev1249 => ?_)
            refine j_aload_n C dL_law_1102 (i := 0) rfl rfl ?_
            refine j_iload C dL_law_1103 rfl ?_
            refine j_iconst C (v := 2) dL_law_1105 (by decide) ?_
            refine j_iadd C dL_law_1106 ?_
            refine j_sld C hXs hbl hbA dL_law_1107 (fun v1250 ev1250 => ?_)
            refine j_aload_n C dL_law_1108 (i := 0) rfl rfl ?_
            refine j_iload C dL_law_1109 rfl ?_
            refine j_iconst C (v := 3) dL_law_1111 (by decide) ?_
            refine j_iadd C dL_law_1112 ?_
            refine j_sld C hXs hbl hbA dL_law_1113 (fun v1251 ev1251 => ?_)
            refine j_ifeq C (tgt := 1121) dL_law_1114 (by decide) (fun q1252 => ?_) (fun q1252 => ?_)
            · refine j_iconst C (v := 0) dL_law_1121 (by decide) ?_
              exact hj1222 _ _ _ _
            · refine j_iconst C (v := 1) dL_law_1117 (by decide) ?_
              refine j_goto C (tgt := 1122) dL_law_1118 (by decide) ?_
              exact hj1222 _ _ _ _
        refine j_ite (fun q1253 => ?_) (fun q1253 => ?_)
        · refine j_tin C (tgt := 1191) dL_law_40 (by rw [q1253]; decide) (by rw [q1253]; decide) (by rw [q1253]; rfl) (by decide) ?_
          refine j_aload_n C dL_law_1191 (i := 1) rfl rfl ?_
          refine j_callVim C (As := []) (rest := []) k_L_140 ⟨Nat.le_of_ble_eq_true rfl, Nat.le_of_ble_eq_true rfl⟩ rfl (Nat.le_of_ble_eq_true rfl) ⟨by show _ ≤ 601024; first | omega | (dsimp only; omega), by show _ ≤ 7293034; first | omega | (dsimp only; omega)⟩ rfl dL_law_1192 (fun r0 q0 => c_SS_spells l w fl _ _ _ q0) (fun r1254 er1254 nr1254 => ?_)
          refine j_aload_n C dL_law_1195 (i := 2) rfl rfl ?_
          refine j_callVim C (As := []) (rest := [_]) k_L_143 ⟨Nat.le_of_ble_eq_true rfl, Nat.le_of_ble_eq_true rfl⟩ rfl (Nat.le_of_ble_eq_true rfl) ⟨by show _ ≤ 601024; first | omega | (dsimp only; omega), by show _ ≤ 7293034; first | omega | (dsimp only; omega)⟩ rfl dL_law_1196 (fun r0 q0 => c_Md_spells l w fl _ _ _ q0) (fun r1255 er1255 nr1255 => ?_)
          refine j_icmpeq C (tgt := 1383) dL_law_1199 (by decide) (fun q1256 => ?_) (fun q1256 => ?_)
          · refine j_widen (c1 := cs + 78) (s1 := ss + 1998) (by first | omega | (dsimp only; omega)) (by first | omega | (dsimp only; omega)) ?_
            exact hj1019 _
          · refine j_iconst C (v := 0) dL_law_1202 (by decide) ?_
            exact e_lawret C hag hQ hr hlk ho hw dL_law_1203 (by first | omega | (dsimp only; omega)) (by first | omega | (dsimp only; omega))
        refine j_ite (fun q1257 => ?_) (fun q1257 => ?_)
        · refine j_tin C (tgt := 1204) dL_law_40 (by rw [q1257]; decide) (by rw [q1257]; decide) (by rw [q1257]; rfl) (by decide) ?_
          refine j_aload_n C dL_law_1204 (i := 1) rfl rfl ?_
          refine j_aload_n C dL_law_1205 (i := 0) rfl rfl ?_
          refine j_iload C dL_law_1206 rfl ?_
          refine j_iconst C (v := 1) dL_law_1208 (by decide) ?_
          refine j_iadd C dL_law_1209 ?_
          refine j_sld C hXs hbl hbA dL_law_1210 (fun v1258 ev1258 => ?_)
          refine j_aload_n C dL_law_1211 (i := 3) rfl rfl ?_
          refine j_callSW C (As := [.ref _, .int _, .ref _]) (rest := []) k_L_144 ⟨Nat.le_of_ble_eq_true rfl, Nat.le_of_ble_eq_true rfl⟩ rfl (Nat.le_of_ble_eq_true rfl) ⟨by show _ ≤ 601024; first | omega | (dsimp only; omega), by show _ ≤ 7293034; first | omega | (dsimp only; omega)⟩ rfl dL_law_1212 (fun r0 q0 => c_Lw_again l w hst fl _ _ _ _ _ q0) (fun r1259 er1259 nr1259 => ?_)
          refine j_istore C [(5, _), (0, _), (1, _), (2, _), (3, _), (4, _)] dL_law_1215 (by decide) rfl ?_
          refine j_aload_n C dL_law_1217 (i := 2) rfl rfl ?_
          refine j_aload_n C dL_law_1218 (i := 0) rfl rfl ?_
          refine j_iload C dL_law_1219 rfl ?_
          refine j_iconst C (v := 1) dL_law_1221 (by decide) ?_
          refine j_iadd C dL_law_1222 ?_
          refine j_sld C hXs hbl hbA dL_law_1223 (fun v1260 ev1260 => ?_)
          refine j_callVim C (As := [.int _]) (rest := []) k_L_146 ⟨Nat.le_of_ble_eq_true rfl, Nat.le_of_ble_eq_true rfl⟩ rfl (Nat.le_of_ble_eq_true rfl) ⟨by show _ ≤ 601024; first | omega | (dsimp only; omega), by show _ ≤ 7293034; first | omega | (dsimp only; omega)⟩ rfl dL_law_1224 (fun r0 q0 => c_Md_again l w fl _ _ _ _ q0) (fun r1261 er1261 nr1261 => ?_)
          refine j_istore C [(6, _), (5, _), (0, _), (1, _), (2, _), (3, _), (4, _)] dL_law_1227 (by decide) rfl ?_
          refine j_aload_n C dL_law_1229 (i := 2) rfl rfl ?_
          refine j_callVi C (As := []) (rest := []) k_L_78 ⟨Nat.le_of_ble_eq_true rfl, Nat.le_of_ble_eq_true rfl⟩ rfl (Nat.le_of_ble_eq_true rfl) ⟨by show _ ≤ 601024; first | omega | (dsimp only; omega), by show _ ≤ 7293034; first | omega | (dsimp only; omega)⟩ rfl dL_law_1230 (fun r0 q0 => c_Md_thrown l w _ _ _ q0) (fun r1262 er1262 nr1262 => ?_)
          refine j_iload C dL_law_1233 rfl ?_
          refine j_icmpeq C (tgt := 1240) dL_law_1235 (by decide) (fun q1263 => ?_) (fun q1263 => ?_)
          · refine j_iload C dL_law_1240 rfl ?_
            refine j_ifne C (tgt := 1257) dL_law_1242 (by decide) (fun q1264 => ?_) (fun q1264 => ?_)
            · refine j_aload_n C dL_law_1245 (i := 3) rfl rfl ?_
              refine j_iconst C (v := 0) dL_law_1246 (by decide) ?_
              refine j_laload C dL_law_1247 (fun v1265 ev1265 => ?_)
              refine j_iload C dL_law_1248 rfl ?_
              refine j_i2l C dL_law_1250 ?_
              refine j_lcmp C dL_law_1251 ?_
              refine j_ifeq C (tgt := 1257) dL_law_1252 (by decide) (fun q1266 => ?_) (fun q1266 => ?_)
              · refine j_goto C (tgt := 1383) dL_law_1257 (by decide) ?_
                refine j_widen (c1 := cs + 78) (s1 := ss + 1998) (by first | omega | (dsimp only; omega)) (by first | omega | (dsimp only; omega)) ?_
                exact j_sub [2, 3, 4, 5, 6] rfl (hj1019 _)
              · refine j_iconst C (v := 0) dL_law_1255 (by decide) ?_
                exact e_lawret C hag hQ hr hlk ho hw dL_law_1256 (by first | omega | (dsimp only; omega)) (by first | omega | (dsimp only; omega))
            · refine j_goto C (tgt := 1383) dL_law_1257 (by decide) ?_
              refine j_widen (c1 := cs + 78) (s1 := ss + 1998) (by first | omega | (dsimp only; omega)) (by first | omega | (dsimp only; omega)) ?_
              exact j_sub [2, 3, 4, 5, 6] rfl (hj1019 _)
          · refine j_iconst C (v := 0) dL_law_1238 (by decide) ?_
            exact e_lawret C hag hQ hr hlk ho hw dL_law_1239 (by first | omega | (dsimp only; omega)) (by first | omega | (dsimp only; omega))
        refine j_ite (fun q1267 => ?_) (fun q1267 => ?_)
        · refine j_tin C (tgt := 1260) dL_law_40 (by rw [q1267]; decide) (by rw [q1267]; decide) (by rw [q1267]; rfl) (by decide) ?_
          refine j_aload_n C dL_law_1260 (i := 1) rfl rfl ?_
          refine j_aload_n C dL_law_1261 (i := 0) rfl rfl ?_
          refine j_iload C dL_law_1262 rfl ?_
          refine j_iconst C (v := 1) dL_law_1264 (by decide) ?_
          refine j_iadd C dL_law_1265 ?_
          refine j_sld C hXs hbl hbA dL_law_1266 (fun v1268 ev1268 => ?_)
          refine j_aload_n C dL_law_1267 (i := 0) rfl rfl ?_
          refine j_iload C dL_law_1268 rfl ?_
          refine j_iconst C (v := 2) dL_law_1270 (by decide) ?_
          refine j_iadd C dL_law_1271 ?_
          refine j_sld C hXs hbl hbA dL_law_1272 (fun v1269 ev1269 => ?_)
          refine j_aload_n C dL_law_1273 (i := 3) rfl rfl ?_
          refine j_callSW C (As := [.ref _, .int _, .int _, .ref _]) (rest := []) k_L_147 ⟨Nat.le_of_ble_eq_true rfl, Nat.le_of_ble_eq_true rfl⟩ rfl (Nat.le_of_ble_eq_true rfl) ⟨by show _ ≤ 601024; first | omega | (dsimp only; omega), by show _ ≤ 7293034; first | omega | (dsimp only; omega)⟩ rfl dL_law_1274 (fun r0 q0 => c_Lw_advise l w hst fl _ _ _ _ _ _ q0) (fun r1270 er1270 nr1270 => ?_)
          refine j_istore C [(5, _), (0, _), (1, _), (2, _), (3, _), (4, _)] dL_law_1277 (by decide) rfl ?_
          refine j_aload_n C dL_law_1279 (i := 2) rfl rfl ?_
          refine j_aload_n C dL_law_1280 (i := 0) rfl rfl ?_
          refine j_iload C dL_law_1281 rfl ?_
          refine j_iconst C (v := 1) dL_law_1283 (by decide) ?_
          refine j_iadd C dL_law_1284 ?_
          refine j_sld C hXs hbl hbA dL_law_1285 (fun v1271 ev1271 => ?_)
          refine j_aload_n C dL_law_1286 (i := 0) rfl rfl ?_
          refine j_iload C dL_law_1287 rfl ?_
          refine j_iconst C (v := 2) dL_law_1289 (by decide) ?_
          refine j_iadd C dL_law_1290 ?_
          refine j_sld C hXs hbl hbA dL_law_1291 (fun v1272 ev1272 => ?_)
          refine j_callVim C (As := [.int _, .int _]) (rest := []) k_L_149 ⟨Nat.le_of_ble_eq_true rfl, Nat.le_of_ble_eq_true rfl⟩ rfl (Nat.le_of_ble_eq_true rfl) ⟨by show _ ≤ 601024; first | omega | (dsimp only; omega), by show _ ≤ 7293034; first | omega | (dsimp only; omega)⟩ rfl dL_law_1292 (fun r0 q0 => c_Md_advise l w fl _ _ _ _ _ q0) (fun r1273 er1273 nr1273 => ?_)
          refine j_istore C [(6, _), (5, _), (0, _), (1, _), (2, _), (3, _), (4, _)] dL_law_1295 (by decide) rfl ?_
          refine j_aload_n C dL_law_1297 (i := 2) rfl rfl ?_
          refine j_callVi C (As := []) (rest := []) k_L_78 ⟨Nat.le_of_ble_eq_true rfl, Nat.le_of_ble_eq_true rfl⟩ rfl (Nat.le_of_ble_eq_true rfl) ⟨by show _ ≤ 601024; first | omega | (dsimp only; omega), by show _ ≤ 7293034; first | omega | (dsimp only; omega)⟩ rfl dL_law_1298 (fun r0 q0 => c_Md_thrown l w _ _ _ q0) (fun r1274 er1274 nr1274 => ?_)
          refine j_iload C dL_law_1301 rfl ?_
          refine j_icmpeq C (tgt := 1308) dL_law_1303 (by decide) (fun q1275 => ?_) (fun q1275 => ?_)
          · refine j_iload C dL_law_1308 rfl ?_
            refine j_ifne C (tgt := 1325) dL_law_1310 (by decide) (fun q1276 => ?_) (fun q1276 => ?_)
            · refine j_aload_n C dL_law_1313 (i := 3) rfl rfl ?_
              refine j_iconst C (v := 0) dL_law_1314 (by decide) ?_
              refine j_laload C dL_law_1315 (fun v1277 ev1277 => ?_)
              refine j_iload C dL_law_1316 rfl ?_
              refine j_i2l C dL_law_1318 ?_
              refine j_lcmp C dL_law_1319 ?_
              refine j_ifeq C (tgt := 1325) dL_law_1320 (by decide) (fun q1278 => ?_) (fun q1278 => ?_)
              · refine j_goto C (tgt := 1383) dL_law_1325 (by decide) ?_
                refine j_widen (c1 := cs + 78) (s1 := ss + 1998) (by first | omega | (dsimp only; omega)) (by first | omega | (dsimp only; omega)) ?_
                exact j_sub [2, 3, 4, 5, 6] rfl (hj1019 _)
              · refine j_iconst C (v := 0) dL_law_1323 (by decide) ?_
                exact e_lawret C hag hQ hr hlk ho hw dL_law_1324 (by first | omega | (dsimp only; omega)) (by first | omega | (dsimp only; omega))
            · refine j_goto C (tgt := 1383) dL_law_1325 (by decide) ?_
              refine j_widen (c1 := cs + 78) (s1 := ss + 1998) (by first | omega | (dsimp only; omega)) (by first | omega | (dsimp only; omega)) ?_
              exact j_sub [2, 3, 4, 5, 6] rfl (hj1019 _)
          · refine j_iconst C (v := 0) dL_law_1306 (by decide) ?_
            exact e_lawret C hag hQ hr hlk ho hw dL_law_1307 (by first | omega | (dsimp only; omega)) (by first | omega | (dsimp only; omega))
        refine j_ite (fun q1279 => ?_) (fun q1279 => ?_)
        · refine j_tin C (tgt := 1328) dL_law_40 (by rw [q1279]; decide) (by rw [q1279]; decide) (by rw [q1279]; rfl) (by decide) ?_
          refine j_aload_n C dL_law_1328 (i := 1) rfl rfl ?_
          refine j_callVd C (As := []) (rest := []) k_L_150 ⟨Nat.le_of_ble_eq_true rfl, Nat.le_of_ble_eq_true rfl⟩ rfl (Nat.le_of_ble_eq_true rfl) ⟨by show _ ≤ 601024; first | omega | (dsimp only; omega), by show _ ≤ 7293034; first | omega | (dsimp only; omega)⟩ rfl dL_law_1329 (fun r0 q0 => c_SS_mean l w fl _ _ _ q0) (fun r1280 er1280 nr1280 => ?_)
          refine j_dstore C [(5, _), (0, _), (1, _), (2, _), (3, _), (4, _)] dL_law_1332 (by decide) rfl ?_
          refine j_aload_n C dL_law_1334 (i := 2) rfl rfl ?_
          refine j_callVdm C (As := []) (rest := []) k_L_154 ⟨Nat.le_of_ble_eq_true rfl, Nat.le_of_ble_eq_true rfl⟩ rfl (Nat.le_of_ble_eq_true rfl) ⟨by show _ ≤ 601024; first | omega | (dsimp only; omega), by show _ ≤ 7293034; first | omega | (dsimp only; omega)⟩ rfl dL_law_1335 (fun r0 q0 => c_Md_mean l w fl _ _ _ q0) (fun r1281 er1281 nr1281 => ?_)
          refine j_dstore C [(7, _), (5, _), (0, _), (1, _), (2, _), (3, _), (4, _)] dL_law_1338 (by decide) rfl ?_
          refine j_dload C dL_law_1340 rfl ?_
          refine j_dload C dL_law_1342 rfl ?_
          refine j_dcmp C dL_law_1344 ?_
          refine j_ifeq C (tgt := 1366) dL_law_1345 (by decide) (fun q1282 => ?_) (fun q1282 => ?_)
          · refine j_goto C (tgt := 1383) dL_law_1366 (by decide) ?_
            refine j_widen (c1 := cs + 78) (s1 := ss + 1998) (by first | omega | (dsimp only; omega)) (by first | omega | (dsimp only; omega)) ?_
            exact j_sub [2, 3, 4, 5, 6] rfl (hj1019 _)
          · refine j_dload C dL_law_1348 rfl ?_
            refine j_dload C dL_law_1350 rfl ?_
            refine j_dcmp C dL_law_1352 ?_
            refine j_ifeq C (tgt := 1364) dL_law_1353 (by decide) (fun q1283 => ?_) (fun q1283 => ?_)
            · refine j_iconst C (v := 0) dL_law_1364 (by decide) ?_
              exact e_lawret C hag hQ hr hlk ho hw dL_law_1365 (by first | omega | (dsimp only; omega)) (by first | omega | (dsimp only; omega))
            · refine j_dload C dL_law_1356 rfl ?_
              refine j_dload C dL_law_1358 rfl ?_
              refine j_dcmp C dL_law_1360 ?_
              refine j_ifne C (tgt := 1366) dL_law_1361 (by decide) (fun q1284 => ?_) (fun q1284 => ?_)
              · refine j_iconst C (v := 0) dL_law_1364 (by decide) ?_
                exact e_lawret C hag hQ hr hlk ho hw dL_law_1365 (by first | omega | (dsimp only; omega)) (by first | omega | (dsimp only; omega))
              · refine j_goto C (tgt := 1383) dL_law_1366 (by decide) ?_
                refine j_widen (c1 := cs + 78) (s1 := ss + 1998) (by first | omega | (dsimp only; omega)) (by first | omega | (dsimp only; omega)) ?_
                exact j_sub [2, 3, 4, 5, 6] rfl (hj1019 _)
        refine j_ite (fun q1285 => ?_) (fun q1285 => ?_)
        · refine j_tin C (tgt := 1369) dL_law_40 (by rw [q1285]; decide) (by rw [q1285]; decide) (by rw [q1285]; rfl) (by decide) ?_
          refine j_aload_n C dL_law_1369 (i := 1) rfl rfl ?_
          refine j_callVl C (As := []) (rest := []) k_L_155 ⟨Nat.le_of_ble_eq_true rfl, Nat.le_of_ble_eq_true rfl⟩ rfl (Nat.le_of_ble_eq_true rfl) ⟨by show _ ≤ 601024; first | omega | (dsimp only; omega), by show _ ≤ 7293034; first | omega | (dsimp only; omega)⟩ rfl dL_law_1370 (fun r0 q0 => c_SS_digest l w fl _ _ _ q0) (fun r1286 er1286 nr1286 => ?_)
          refine j_aload_n C dL_law_1373 (i := 2) rfl rfl ?_
          refine j_callVlm C (As := []) (rest := [_]) k_L_159 ⟨Nat.le_of_ble_eq_true rfl, Nat.le_of_ble_eq_true rfl⟩ rfl (Nat.le_of_ble_eq_true rfl) ⟨by show _ ≤ 601024; first | omega | (dsimp only; omega), by show _ ≤ 7293034; first | omega | (dsimp only; omega)⟩ rfl dL_law_1374 (fun r0 q0 => c_Md_digest l w fl _ _ _ q0) (fun r1287 er1287 nr1287 => ?_)
          refine j_lcmp C dL_law_1377 ?_
          refine j_ifeq C (tgt := 1383) dL_law_1378 (by decide) (fun q1288 => ?_) (fun q1288 => ?_)
          · refine j_widen (c1 := cs + 78) (s1 := ss + 1998) (by first | omega | (dsimp only; omega)) (by first | omega | (dsimp only; omega)) ?_
            exact hj1019 _
          · refine j_iconst C (v := 0) dL_law_1381 (by decide) ?_
            exact e_lawret C hag hQ hr hlk ho hw dL_law_1382 (by first | omega | (dsimp only; omega)) (by first | omega | (dsimp only; omega))
        refine j_tout C (tgt := 1383) dL_law_40 (sw_out 23 (fun i hi => by rcases (show i = 0 ∨ i = 1 ∨ i = 2 ∨ i = 3 ∨ i = 4 ∨ i = 5 ∨ i = 6 ∨ i = 7 ∨ i = 8 ∨ i = 9 ∨ i = 10 ∨ i = 11 ∨ i = 12 ∨ i = 13 ∨ i = 14 ∨ i = 15 ∨ i = 16 ∨ i = 17 ∨ i = 18 ∨ i = 19 ∨ i = 20 ∨ i = 21 ∨ i = 22 by omega) with rfl | rfl | rfl | rfl | rfl | rfl | rfl | rfl | rfl | rfl | rfl | rfl | rfl | rfl | rfl | rfl | rfl | rfl | rfl | rfl | rfl | rfl | rfl <;> first | exact q1022 | exact q1040 | exact q1050 | exact q1054 | exact q1058 | exact q1068 | exact q1080 | exact q1092 | exact q1104 | exact q1144 | exact q1156 | exact q1166 | exact q1176 | exact q1186 | exact q1190 | exact q1194 | exact q1206 | exact q1218 | exact q1253 | exact q1257 | exact q1267 | exact q1279 | exact q1285) (by decide) (by decide) (by decide)) (by decide) ?_
        refine j_widen (c1 := cs + 78) (s1 := ss + 1998) (by first | omega | (dsimp only; omega)) (by first | omega | (dsimp only; omega)) ?_
        exact hj1019 _
set_option maxRecDepth 100000 in
set_option maxHeartbeats 4000000 in
theorem c_law {p : Program} {l : Launch} {e : Env} {s : State} {m : MethodId} {args : Array Value} {below : List Frame} {meth : Method} {c : Code} {Q : State → Prop} {w : hp_W} {out : Int32 × hp_M} (fl : Nat) (xs : Nat → Int32) (Ls a0 : Nat) (h : hp_M) (C : Cx p m c cL_law 9 s args RL w) (hst : l.stackTraces = false) (hr : meth.sig.returnType = ret) (hlk : meth.locks = false) (hXs : va_X a0 Ls xs s s.heap) (hbl : a0 < s.heap.size) (hbA : ¬ hp_A w a0) (hw : w.1 = s.heap.size) (ho : out.1 = 1) (hag : args = #[.ref a0]) (hQ : lw_Z below args s = Q) (hX : f_Lw_law w fl xs Ls a0 h = some out) : ∀ (ls : Array Slot) (H : Heap) (locs : List Loc), lv_has ls 9 [(0, .ref a0)] → hp_R w h H → va_S (hp_A w) s.heap H locs → W p l e room_1 s m args below meth c H locs 0 0 Q (F0 m 0 ls []) := by
  unfold f_Lw_law at hX
  revert hX
  show J p l e room_1 s m args below meth c Q w 9 0 0 0 [(0, .ref a0)] [] h _ out
  refine j_new C n_L_8 (Nat.le_of_ble_eq_true rfl) (Nat.le_of_ble_eq_true rfl) dL_law_0 ?_
  refine j_dup C dL_law_3 rfl ?_
  refine j_callI C (As := []) (rest := [_]) k_L_68 ⟨Nat.le_of_ble_eq_true rfl, Nat.le_of_ble_eq_true rfl⟩ rfl (Nat.le_of_ble_eq_true rfl) ⟨Nat.le_of_ble_eq_true rfl, Nat.le_of_ble_eq_true rfl⟩ rfl dL_law_4 (fun r0 q0 => c_SS_init l w fl _ _ _ q0) (fun h1 eh1 => ?_)
  refine j_astore_n C [(1, _), (0, _)] dL_law_7 (i := 1) rfl (by decide) rfl ?_
  refine j_new C n_L_69 (Nat.le_of_ble_eq_true rfl) (Nat.le_of_ble_eq_true rfl) dL_law_8 ?_
  refine j_dup C dL_law_11 rfl ?_
  refine j_callI C (As := []) (rest := [_]) k_L_71 ⟨Nat.le_of_ble_eq_true rfl, Nat.le_of_ble_eq_true rfl⟩ rfl (Nat.le_of_ble_eq_true rfl) ⟨Nat.le_of_ble_eq_true rfl, Nat.le_of_ble_eq_true rfl⟩ rfl dL_law_12 (fun r0 q0 => c_Md_init l w _ _ _ q0) (fun h2 eh2 => ?_)
  refine j_astore_n C [(2, _), (1, _), (0, _)] dL_law_15 (i := 2) rfl (by decide) rfl ?_
  refine j_iconst C (v := 1) dL_law_16 (by decide) ?_
  refine j_newL C (N := 1) k_arr_long (by decide) (by decide) (Nat.le_of_ble_eq_true rfl) (Nat.le_of_ble_eq_true rfl) (Nat.le_of_ble_eq_true rfl) dL_law_17 ?_
  refine j_astore_n C [(3, _), (2, _), (1, _), (0, _)] dL_law_19 (i := 3) rfl (by decide) rfl ?_
  refine j_iconst C (v := 0) dL_law_20 (by decide) ?_
  refine j_istore C [(4, _), (3, _), (2, _), (1, _), (0, _)] dL_law_21 (by decide) rfl ?_
  refine j_sub [4, 3, 2, 1, 0] rfl (b_Lw_law_23 fl xs Ls  _ _ _ _ C hst hr hlk hXs hbl hbA hw ho hag hQ  _ _ _ _ _ (Nat.le_of_ble_eq_true rfl) (Nat.le_of_ble_eq_true rfl))
