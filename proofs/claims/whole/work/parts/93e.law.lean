/-! the law's cases -/
section LAWE
variable {L : Nat} {xs : Nat → Int32} {f : Hp} {q : Nat} {Q : Option Value → Hp → Prop}
set_option maxRecDepth 100000 in
theorem law_20 (i : Inv f) (hq : q + 6 ≤ L) (hL : L ≤ 3072) (kk : ∀ h, Inv h → Wp L xs xm_La_law 1403 [.ref 1000000, .ref 0, .ref 400, .int (iN q)] [] h Q) : Wp L xs xm_La_law 1096 [.ref 1000000, .ref 0, .ref 400, .int (iN q)] [] f Q := by
  refine w_aload_n (pc' := 1097) rfl rfl rfl ?_
  refine w_aload_n (pc' := 1098) rfl rfl rfl ?_
  refine w_iload_n (pc' := 1099) rfl rfl rfl ?_
  refine w_iconst (pc' := 1100) rfl rfl (v := 1) rfl ?_
  refine w_iadd (pc' := 1101) rfl rfl ?_
  refine w_iaload4 (pc' := 1102) (n := L) (i := q + 1) rfl rfl rfl (Nat.le_refl _) (iN_add q 1) (by omega) (by omega) ?_
  refine w_aload_n (pc' := 1103) rfl rfl rfl ?_
  refine w_iload_n (pc' := 1104) rfl rfl rfl ?_
  refine w_iconst (pc' := 1105) rfl rfl (v := 2) rfl ?_
  refine w_iadd (pc' := 1106) rfl rfl ?_
  refine w_iaload4 (pc' := 1107) (n := L) (i := q + 2) rfl rfl rfl (Nat.le_refl _) (iN_add q 2) (by omega) (by omega) ?_
  refine w_aload_n (pc' := 1108) rfl rfl rfl ?_
  refine w_iload_n (pc' := 1109) rfl rfl rfl ?_
  refine w_iconst (pc' := 1110) rfl rfl (v := 3) rfl ?_
  refine w_iadd (pc' := 1111) rfl rfl ?_
  refine w_iaload4 (pc' := 1112) (n := L) (i := q + 3) rfl rfl rfl (Nat.le_refl _) (iN_add q 3) (by omega) (by omega) ?_
  refine w_cv (pc' := 1115) (cm := xm_TP_after) (as := [.int (xoI xs 1000000 (q + 1)), .int (xoI xs 1000000 (q + 2)), .int (xoI xs 1000000 (q + 3))]) (a := 0) (rest := []) rfl rfl rfl (xa_TP_after (Nat.le_of_ble_eq_true rfl)) rfl rfl (CI.k (op_after i _ _ _) fun v g hg => ?_)
  show Wp L xs xm_La_law 1115 [.ref 1000000, .ref 0, .ref 400, .int (iN q)] [.int v] g Q
  refine w_aload_n (pc' := 1116) rfl rfl rfl ?_
  refine w_aload_n (pc' := 1117) rfl rfl rfl ?_
  refine w_iload_n (pc' := 1118) rfl rfl rfl ?_
  refine w_iconst (pc' := 1119) rfl rfl (v := 1) rfl ?_
  refine w_iadd (pc' := 1120) rfl rfl ?_
  refine w_iaload4 (pc' := 1121) (n := L) (i := q + 1) rfl rfl rfl (Nat.le_refl _) (iN_add q 1) (by omega) (by omega) ?_
  refine w_aload_n (pc' := 1122) rfl rfl rfl ?_
  refine w_iload_n (pc' := 1123) rfl rfl rfl ?_
  refine w_iconst (pc' := 1124) rfl rfl (v := 2) rfl ?_
  refine w_iadd (pc' := 1125) rfl rfl ?_
  refine w_iaload4 (pc' := 1126) (n := L) (i := q + 2) rfl rfl rfl (Nat.le_refl _) (iN_add q 2) (by omega) (by omega) ?_
  refine w_aload_n (pc' := 1127) rfl rfl rfl ?_
  refine w_iload_n (pc' := 1128) rfl rfl rfl ?_
  refine w_iconst (pc' := 1129) rfl rfl (v := 3) rfl ?_
  refine w_iadd (pc' := 1130) rfl rfl ?_
  refine w_iaload4 (pc' := 1131) (n := L) (i := q + 3) rfl rfl rfl (Nat.le_refl _) (iN_add q 3) (by omega) (by omega) ?_
  refine w_cv (pc' := 1134) (cm := xm_Mo_after) (as := [.int (xoI xs 1000000 (q + 1)), .int (xoI xs 1000000 (q + 2)), .int (xoI xs 1000000 (q + 3))]) (a := 400) (rest := [.int v]) rfl rfl rfl (xa_Mo_after (Nat.le_of_ble_eq_true rfl)) rfl rfl (CI.k hg fun w h hh => ?_)
  show Wp L xs xm_La_law 1134 [.ref 1000000, .ref 0, .ref 400, .int (iN q)] [.int w, .int v] h Q
  exact w_br2 (pc' := 1137) (t := 1403) rfl rfl rfl ic_eq (fun _ => kk h hh.2) (fun hc => absurd hh.1.symm hc)
set_option maxRecDepth 100000 in
theorem law_21 (i : Inv f) (hq : q + 6 ≤ L) (hL : L ≤ 3072) (kk : ∀ h, Inv h → Wp L xs xm_La_law 1403 [.ref 1000000, .ref 0, .ref 400, .int (iN q)] [] h Q) : Wp L xs xm_La_law 1139 [.ref 1000000, .ref 0, .ref 400, .int (iN q)] [] f Q := by
  refine w_aload_n (pc' := 1140) rfl rfl rfl ?_
  refine w_aload_n (pc' := 1141) rfl rfl rfl ?_
  refine w_iload_n (pc' := 1142) rfl rfl rfl ?_
  refine w_iconst (pc' := 1143) rfl rfl (v := 1) rfl ?_
  refine w_iadd (pc' := 1144) rfl rfl ?_
  refine w_iaload4 (pc' := 1145) (n := L) (i := q + 1) rfl rfl rfl (Nat.le_refl _) (iN_add q 1) (by omega) (by omega) ?_
  refine w_aload_n (pc' := 1146) rfl rfl rfl ?_
  refine w_iload_n (pc' := 1147) rfl rfl rfl ?_
  refine w_iconst (pc' := 1148) rfl rfl (v := 2) rfl ?_
  refine w_iadd (pc' := 1149) rfl rfl ?_
  refine w_iaload4 (pc' := 1150) (n := L) (i := q + 2) rfl rfl rfl (Nat.le_refl _) (iN_add q 2) (by omega) (by omega) ?_
  refine w_cv (pc' := 1153) (cm := xm_TP_pace) (as := [.int (xoI xs 1000000 (q + 1)), .int (xoI xs 1000000 (q + 2))]) (a := 0) (rest := []) rfl rfl rfl (xa_TP_pace (Nat.le_of_ble_eq_true rfl)) rfl rfl (CI.k (op_pace i _ _) fun v g hg => ?_)
  show Wp L xs xm_La_law 1153 [.ref 1000000, .ref 0, .ref 400, .int (iN q)] [.int v] g Q
  refine w_aload_n (pc' := 1154) rfl rfl rfl ?_
  refine w_aload_n (pc' := 1155) rfl rfl rfl ?_
  refine w_iload_n (pc' := 1156) rfl rfl rfl ?_
  refine w_iconst (pc' := 1157) rfl rfl (v := 1) rfl ?_
  refine w_iadd (pc' := 1158) rfl rfl ?_
  refine w_iaload4 (pc' := 1159) (n := L) (i := q + 1) rfl rfl rfl (Nat.le_refl _) (iN_add q 1) (by omega) (by omega) ?_
  refine w_aload_n (pc' := 1160) rfl rfl rfl ?_
  refine w_iload_n (pc' := 1161) rfl rfl rfl ?_
  refine w_iconst (pc' := 1162) rfl rfl (v := 2) rfl ?_
  refine w_iadd (pc' := 1163) rfl rfl ?_
  refine w_iaload4 (pc' := 1164) (n := L) (i := q + 2) rfl rfl rfl (Nat.le_refl _) (iN_add q 2) (by omega) (by omega) ?_
  refine w_cv (pc' := 1167) (cm := xm_Mo_pace) (as := [.int (xoI xs 1000000 (q + 1)), .int (xoI xs 1000000 (q + 2))]) (a := 400) (rest := [.int v]) rfl rfl rfl (xa_Mo_pace (Nat.le_of_ble_eq_true rfl)) rfl rfl (CI.k hg fun w h hh => ?_)
  show Wp L xs xm_La_law 1167 [.ref 1000000, .ref 0, .ref 400, .int (iN q)] [.int w, .int v] h Q
  exact w_br2 (pc' := 1170) (t := 1403) rfl rfl rfl ic_eq (fun _ => kk h hh.2) (fun hc => absurd hh.1.symm hc)
set_option maxRecDepth 100000 in
theorem law_22 (i : Inv f) (hq : q + 6 ≤ L) (hL : L ≤ 3072) (kk : ∀ h, Inv h → Wp L xs xm_La_law 1403 [.ref 1000000, .ref 0, .ref 400, .int (iN q)] [] h Q) : Wp L xs xm_La_law 1172 [.ref 1000000, .ref 0, .ref 400, .int (iN q)] [] f Q := by
  refine w_aload_n (pc' := 1173) rfl rfl rfl ?_
  refine w_aload_n (pc' := 1174) rfl rfl rfl ?_
  refine w_iload_n (pc' := 1175) rfl rfl rfl ?_
  refine w_iconst (pc' := 1176) rfl rfl (v := 1) rfl ?_
  refine w_iadd (pc' := 1177) rfl rfl ?_
  refine w_iaload4 (pc' := 1178) (n := L) (i := q + 1) rfl rfl rfl (Nat.le_refl _) (iN_add q 1) (by omega) (by omega) ?_
  refine w_aload_n (pc' := 1179) rfl rfl rfl ?_
  refine w_iload_n (pc' := 1180) rfl rfl rfl ?_
  refine w_iconst (pc' := 1181) rfl rfl (v := 2) rfl ?_
  refine w_iadd (pc' := 1182) rfl rfl ?_
  refine w_iaload4 (pc' := 1183) (n := L) (i := q + 2) rfl rfl rfl (Nat.le_refl _) (iN_add q 2) (by omega) (by omega) ?_
  refine w_aload_n (pc' := 1184) rfl rfl rfl ?_
  refine w_iload_n (pc' := 1185) rfl rfl rfl ?_
  refine w_iconst (pc' := 1186) rfl rfl (v := 3) rfl ?_
  refine w_iadd (pc' := 1187) rfl rfl ?_
  refine w_iaload4 (pc' := 1188) (n := L) (i := q + 3) rfl rfl rfl (Nat.le_refl _) (iN_add q 3) (by omega) (by omega) ?_
  refine w_cv (pc' := 1191) (cm := xm_TP_behind) (as := [.int (xoI xs 1000000 (q + 1)), .int (xoI xs 1000000 (q + 2)), .int (xoI xs 1000000 (q + 3))]) (a := 0) (rest := []) rfl rfl rfl (xa_TP_behind (Nat.le_of_ble_eq_true rfl)) rfl rfl (CI.k (op_behind i _ _ _) fun v g hg => ?_)
  show Wp L xs xm_La_law 1191 [.ref 1000000, .ref 0, .ref 400, .int (iN q)] [.int v] g Q
  refine w_aload_n (pc' := 1192) rfl rfl rfl ?_
  refine w_aload_n (pc' := 1193) rfl rfl rfl ?_
  refine w_iload_n (pc' := 1194) rfl rfl rfl ?_
  refine w_iconst (pc' := 1195) rfl rfl (v := 1) rfl ?_
  refine w_iadd (pc' := 1196) rfl rfl ?_
  refine w_iaload4 (pc' := 1197) (n := L) (i := q + 1) rfl rfl rfl (Nat.le_refl _) (iN_add q 1) (by omega) (by omega) ?_
  refine w_aload_n (pc' := 1198) rfl rfl rfl ?_
  refine w_iload_n (pc' := 1199) rfl rfl rfl ?_
  refine w_iconst (pc' := 1200) rfl rfl (v := 2) rfl ?_
  refine w_iadd (pc' := 1201) rfl rfl ?_
  refine w_iaload4 (pc' := 1202) (n := L) (i := q + 2) rfl rfl rfl (Nat.le_refl _) (iN_add q 2) (by omega) (by omega) ?_
  refine w_aload_n (pc' := 1203) rfl rfl rfl ?_
  refine w_iload_n (pc' := 1204) rfl rfl rfl ?_
  refine w_iconst (pc' := 1205) rfl rfl (v := 3) rfl ?_
  refine w_iadd (pc' := 1206) rfl rfl ?_
  refine w_iaload4 (pc' := 1207) (n := L) (i := q + 3) rfl rfl rfl (Nat.le_refl _) (iN_add q 3) (by omega) (by omega) ?_
  refine w_cv (pc' := 1210) (cm := xm_Mo_behind) (as := [.int (xoI xs 1000000 (q + 1)), .int (xoI xs 1000000 (q + 2)), .int (xoI xs 1000000 (q + 3))]) (a := 400) (rest := [.int v]) rfl rfl rfl (xa_Mo_behind (Nat.le_of_ble_eq_true rfl)) rfl rfl (CI.k hg fun w h hh => ?_)
  show Wp L xs xm_La_law 1210 [.ref 1000000, .ref 0, .ref 400, .int (iN q)] [.int w, .int v] h Q
  exact w_br2 (pc' := 1213) (t := 1403) rfl rfl rfl ic_eq (fun _ => kk h hh.2) (fun hc => absurd hh.1.symm hc)
set_option maxRecDepth 100000 in
theorem law_23 (i : Inv f) (hq : q + 6 ≤ L) (hL : L ≤ 3072) (kk : ∀ h, Inv h → Wp L xs xm_La_law 1403 [.ref 1000000, .ref 0, .ref 400, .int (iN q)] [] h Q) : Wp L xs xm_La_law 1215 [.ref 1000000, .ref 0, .ref 400, .int (iN q)] [] f Q := by
  refine w_aload_n (pc' := 1216) rfl rfl rfl ?_
  refine w_aload_n (pc' := 1217) rfl rfl rfl ?_
  refine w_iload_n (pc' := 1218) rfl rfl rfl ?_
  refine w_iconst (pc' := 1219) rfl rfl (v := 1) rfl ?_
  refine w_iadd (pc' := 1220) rfl rfl ?_
  refine w_iaload4 (pc' := 1221) (n := L) (i := q + 1) rfl rfl rfl (Nat.le_refl _) (iN_add q 1) (by omega) (by omega) ?_
  refine w_aload_n (pc' := 1222) rfl rfl rfl ?_
  refine w_iload_n (pc' := 1223) rfl rfl rfl ?_
  refine w_iconst (pc' := 1224) rfl rfl (v := 2) rfl ?_
  refine w_iadd (pc' := 1225) rfl rfl ?_
  refine w_iaload4 (pc' := 1226) (n := L) (i := q + 2) rfl rfl rfl (Nat.le_refl _) (iN_add q 2) (by omega) (by omega) ?_
  refine w_cv (pc' := 1229) (cm := xm_TP_blind) (as := [.int (xoI xs 1000000 (q + 1)), .int (xoI xs 1000000 (q + 2))]) (a := 0) (rest := []) rfl rfl rfl (xa_TP_blind (Nat.le_of_ble_eq_true rfl)) rfl rfl (CI.k (op_blind i _ _) fun v g hg => ?_)
  show Wp L xs xm_La_law 1229 [.ref 1000000, .ref 0, .ref 400, .int (iN q)] [.int v] g Q
  refine w_aload_n (pc' := 1230) rfl rfl rfl ?_
  refine w_aload_n (pc' := 1231) rfl rfl rfl ?_
  refine w_iload_n (pc' := 1232) rfl rfl rfl ?_
  refine w_iconst (pc' := 1233) rfl rfl (v := 1) rfl ?_
  refine w_iadd (pc' := 1234) rfl rfl ?_
  refine w_iaload4 (pc' := 1235) (n := L) (i := q + 1) rfl rfl rfl (Nat.le_refl _) (iN_add q 1) (by omega) (by omega) ?_
  refine w_aload_n (pc' := 1236) rfl rfl rfl ?_
  refine w_iload_n (pc' := 1237) rfl rfl rfl ?_
  refine w_iconst (pc' := 1238) rfl rfl (v := 2) rfl ?_
  refine w_iadd (pc' := 1239) rfl rfl ?_
  refine w_iaload4 (pc' := 1240) (n := L) (i := q + 2) rfl rfl rfl (Nat.le_refl _) (iN_add q 2) (by omega) (by omega) ?_
  refine w_cv (pc' := 1243) (cm := xm_Mo_blind) (as := [.int (xoI xs 1000000 (q + 1)), .int (xoI xs 1000000 (q + 2))]) (a := 400) (rest := [.int v]) rfl rfl rfl (xa_Mo_blind (Nat.le_of_ble_eq_true rfl)) rfl rfl (CI.k hg fun w h hh => ?_)
  show Wp L xs xm_La_law 1243 [.ref 1000000, .ref 0, .ref 400, .int (iN q)] [.int w, .int v] h Q
  exact w_br2 (pc' := 1246) (t := 1403) rfl rfl rfl ic_eq (fun _ => kk h hh.2) (fun hc => absurd hh.1.symm hc)
set_option maxRecDepth 100000 in
theorem law_24 (i : Inv f) (hq : q + 6 ≤ L) (hL : L ≤ 3072) (kk : ∀ h, Inv h → Wp L xs xm_La_law 1403 [.ref 1000000, .ref 0, .ref 400, .int (iN q)] [] h Q) : Wp L xs xm_La_law 1248 [.ref 1000000, .ref 0, .ref 400, .int (iN q)] [] f Q := by
  refine w_aload_n (pc' := 1249) rfl rfl rfl ?_
  refine w_aload_n (pc' := 1250) rfl rfl rfl ?_
  refine w_iload_n (pc' := 1251) rfl rfl rfl ?_
  refine w_iconst (pc' := 1252) rfl rfl (v := 1) rfl ?_
  refine w_iadd (pc' := 1253) rfl rfl ?_
  refine w_iaload4 (pc' := 1254) (n := L) (i := q + 1) rfl rfl rfl (Nat.le_refl _) (iN_add q 1) (by omega) (by omega) ?_
  refine w_aload_n (pc' := 1255) rfl rfl rfl ?_
  refine w_iload_n (pc' := 1256) rfl rfl rfl ?_
  refine w_iconst (pc' := 1257) rfl rfl (v := 2) rfl ?_
  refine w_iadd (pc' := 1258) rfl rfl ?_
  refine w_iaload4 (pc' := 1259) (n := L) (i := q + 2) rfl rfl rfl (Nat.le_refl _) (iN_add q 2) (by omega) (by omega) ?_
  refine w_aload_n (pc' := 1260) rfl rfl rfl ?_
  refine w_iload_n (pc' := 1261) rfl rfl rfl ?_
  refine w_iconst (pc' := 1262) rfl rfl (v := 3) rfl ?_
  refine w_iadd (pc' := 1263) rfl rfl ?_
  refine w_iaload4 (pc' := 1264) (n := L) (i := q + 3) rfl rfl rfl (Nat.le_refl _) (iN_add q 3) (by omega) (by omega) ?_
  refine w_cv (pc' := 1267) (cm := xm_TP_voices) (as := [.int (xoI xs 1000000 (q + 1)), .int (xoI xs 1000000 (q + 2)), .int (xoI xs 1000000 (q + 3))]) (a := 0) (rest := []) rfl rfl rfl (xa_TP_voices (Nat.le_of_ble_eq_true rfl)) rfl rfl (CI.k (op_voices i _ _ _) fun v g hg => ?_)
  show Wp L xs xm_La_law 1267 [.ref 1000000, .ref 0, .ref 400, .int (iN q)] [.int v] g Q
  refine w_aload_n (pc' := 1268) rfl rfl rfl ?_
  refine w_aload_n (pc' := 1269) rfl rfl rfl ?_
  refine w_iload_n (pc' := 1270) rfl rfl rfl ?_
  refine w_iconst (pc' := 1271) rfl rfl (v := 1) rfl ?_
  refine w_iadd (pc' := 1272) rfl rfl ?_
  refine w_iaload4 (pc' := 1273) (n := L) (i := q + 1) rfl rfl rfl (Nat.le_refl _) (iN_add q 1) (by omega) (by omega) ?_
  refine w_aload_n (pc' := 1274) rfl rfl rfl ?_
  refine w_iload_n (pc' := 1275) rfl rfl rfl ?_
  refine w_iconst (pc' := 1276) rfl rfl (v := 2) rfl ?_
  refine w_iadd (pc' := 1277) rfl rfl ?_
  refine w_iaload4 (pc' := 1278) (n := L) (i := q + 2) rfl rfl rfl (Nat.le_refl _) (iN_add q 2) (by omega) (by omega) ?_
  refine w_aload_n (pc' := 1279) rfl rfl rfl ?_
  refine w_iload_n (pc' := 1280) rfl rfl rfl ?_
  refine w_iconst (pc' := 1281) rfl rfl (v := 3) rfl ?_
  refine w_iadd (pc' := 1282) rfl rfl ?_
  refine w_iaload4 (pc' := 1283) (n := L) (i := q + 3) rfl rfl rfl (Nat.le_refl _) (iN_add q 3) (by omega) (by omega) ?_
  refine w_cv (pc' := 1286) (cm := xm_Mo_voices) (as := [.int (xoI xs 1000000 (q + 1)), .int (xoI xs 1000000 (q + 2)), .int (xoI xs 1000000 (q + 3))]) (a := 400) (rest := [.int v]) rfl rfl rfl (xa_Mo_voices (Nat.le_of_ble_eq_true rfl)) rfl rfl (CI.k hg fun w h hh => ?_)
  show Wp L xs xm_La_law 1286 [.ref 1000000, .ref 0, .ref 400, .int (iN q)] [.int w, .int v] h Q
  exact w_br2 (pc' := 1289) (t := 1403) rfl rfl rfl ic_eq (fun _ => kk h hh.2) (fun hc => absurd hh.1.symm hc)
end LAWE
