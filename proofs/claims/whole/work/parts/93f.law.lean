/-! the law's cases -/
section LAWF
variable {L : Nat} {xs : Nat → Int32} {f : Hp} {q : Nat} {Q : Option Value → Hp → Prop}
set_option maxRecDepth 100000 in
theorem law_25 (i : Inv f) (hq : q + 6 ≤ L) (hL : L ≤ 3072) (kk : ∀ h, Inv h → Wp L xs xm_La_law 1403 [.ref 1000000, .ref 0, .ref 400, .int (iN q)] [] h Q) : Wp L xs xm_La_law 1291 [.ref 1000000, .ref 0, .ref 400, .int (iN q)] [] f Q := by
  refine w_aload_n (pc' := 1292) rfl rfl rfl ?_
  refine w_aload_n (pc' := 1293) rfl rfl rfl ?_
  refine w_iload_n (pc' := 1294) rfl rfl rfl ?_
  refine w_iconst (pc' := 1295) rfl rfl (v := 1) rfl ?_
  refine w_iadd (pc' := 1296) rfl rfl ?_
  refine w_iaload4 (pc' := 1297) (n := L) (i := q + 1) rfl rfl rfl (Nat.le_refl _) (iN_add q 1) (by omega) (by omega) ?_
  refine w_aload_n (pc' := 1298) rfl rfl rfl ?_
  refine w_iload_n (pc' := 1299) rfl rfl rfl ?_
  refine w_iconst (pc' := 1300) rfl rfl (v := 2) rfl ?_
  refine w_iadd (pc' := 1301) rfl rfl ?_
  refine w_iaload4 (pc' := 1302) (n := L) (i := q + 2) rfl rfl rfl (Nat.le_refl _) (iN_add q 2) (by omega) (by omega) ?_
  refine w_aload_n (pc' := 1303) rfl rfl rfl ?_
  refine w_iload_n (pc' := 1304) rfl rfl rfl ?_
  refine w_iconst (pc' := 1305) rfl rfl (v := 3) rfl ?_
  refine w_iadd (pc' := 1306) rfl rfl ?_
  refine w_iaload4 (pc' := 1307) (n := L) (i := q + 3) rfl rfl rfl (Nat.le_refl _) (iN_add q 3) (by omega) (by omega) ?_
  refine w_cv (pc' := 1310) (cm := xm_TP_lack) (as := [.int (xoI xs 1000000 (q + 1)), .int (xoI xs 1000000 (q + 2)), .int (xoI xs 1000000 (q + 3))]) (a := 0) (rest := []) rfl rfl rfl (xa_TP_lack (Nat.le_of_ble_eq_true rfl)) rfl rfl (CI.k (op_lack i _ _ _) fun v g hg => ?_)
  show Wp L xs xm_La_law 1310 [.ref 1000000, .ref 0, .ref 400, .int (iN q)] [.int v] g Q
  refine w_aload_n (pc' := 1311) rfl rfl rfl ?_
  refine w_aload_n (pc' := 1312) rfl rfl rfl ?_
  refine w_iload_n (pc' := 1313) rfl rfl rfl ?_
  refine w_iconst (pc' := 1314) rfl rfl (v := 1) rfl ?_
  refine w_iadd (pc' := 1315) rfl rfl ?_
  refine w_iaload4 (pc' := 1316) (n := L) (i := q + 1) rfl rfl rfl (Nat.le_refl _) (iN_add q 1) (by omega) (by omega) ?_
  refine w_aload_n (pc' := 1317) rfl rfl rfl ?_
  refine w_iload_n (pc' := 1318) rfl rfl rfl ?_
  refine w_iconst (pc' := 1319) rfl rfl (v := 2) rfl ?_
  refine w_iadd (pc' := 1320) rfl rfl ?_
  refine w_iaload4 (pc' := 1321) (n := L) (i := q + 2) rfl rfl rfl (Nat.le_refl _) (iN_add q 2) (by omega) (by omega) ?_
  refine w_aload_n (pc' := 1322) rfl rfl rfl ?_
  refine w_iload_n (pc' := 1323) rfl rfl rfl ?_
  refine w_iconst (pc' := 1324) rfl rfl (v := 3) rfl ?_
  refine w_iadd (pc' := 1325) rfl rfl ?_
  refine w_iaload4 (pc' := 1326) (n := L) (i := q + 3) rfl rfl rfl (Nat.le_refl _) (iN_add q 3) (by omega) (by omega) ?_
  refine w_cv (pc' := 1329) (cm := xm_Mo_lack) (as := [.int (xoI xs 1000000 (q + 1)), .int (xoI xs 1000000 (q + 2)), .int (xoI xs 1000000 (q + 3))]) (a := 400) (rest := [.int v]) rfl rfl rfl (xa_Mo_lack (Nat.le_of_ble_eq_true rfl)) rfl rfl (CI.k hg fun w h hh => ?_)
  show Wp L xs xm_La_law 1329 [.ref 1000000, .ref 0, .ref 400, .int (iN q)] [.int w, .int v] h Q
  exact w_br2 (pc' := 1332) (t := 1403) rfl rfl rfl ic_eq (fun _ => kk h hh.2) (fun hc => absurd hh.1.symm hc)
set_option maxRecDepth 100000 in
theorem law_26 (i : Inv f) (hq : q + 6 ≤ L) (hL : L ≤ 3072) (kk : ∀ h, Inv h → Wp L xs xm_La_law 1403 [.ref 1000000, .ref 0, .ref 400, .int (iN q)] [] h Q) : Wp L xs xm_La_law 1334 [.ref 1000000, .ref 0, .ref 400, .int (iN q)] [] f Q := by
  refine w_aload_n (pc' := 1335) rfl rfl rfl ?_
  refine w_aload_n (pc' := 1336) rfl rfl rfl ?_
  refine w_iload_n (pc' := 1337) rfl rfl rfl ?_
  refine w_iconst (pc' := 1338) rfl rfl (v := 1) rfl ?_
  refine w_iadd (pc' := 1339) rfl rfl ?_
  refine w_iaload4 (pc' := 1340) (n := L) (i := q + 1) rfl rfl rfl (Nat.le_refl _) (iN_add q 1) (by omega) (by omega) ?_
  refine w_cv (pc' := 1343) (cm := xm_TP_count) (as := [.int (xoI xs 1000000 (q + 1))]) (a := 0) (rest := []) rfl rfl rfl (xa_TP_count (Nat.le_of_ble_eq_true rfl)) rfl rfl (CI.k (op_count i _) fun v g hg => ?_)
  show Wp L xs xm_La_law 1343 [.ref 1000000, .ref 0, .ref 400, .int (iN q)] [.int v] g Q
  refine w_aload_n (pc' := 1344) rfl rfl rfl ?_
  refine w_aload_n (pc' := 1345) rfl rfl rfl ?_
  refine w_iload_n (pc' := 1346) rfl rfl rfl ?_
  refine w_iconst (pc' := 1347) rfl rfl (v := 1) rfl ?_
  refine w_iadd (pc' := 1348) rfl rfl ?_
  refine w_iaload4 (pc' := 1349) (n := L) (i := q + 1) rfl rfl rfl (Nat.le_refl _) (iN_add q 1) (by omega) (by omega) ?_
  refine w_cv (pc' := 1352) (cm := xm_Mo_count) (as := [.int (xoI xs 1000000 (q + 1))]) (a := 400) (rest := [.int v]) rfl rfl rfl (xa_Mo_count (Nat.le_of_ble_eq_true rfl)) rfl rfl (CI.k hg fun w h hh => ?_)
  show Wp L xs xm_La_law 1352 [.ref 1000000, .ref 0, .ref 400, .int (iN q)] [.int w, .int v] h Q
  exact w_br2 (pc' := 1355) (t := 1403) rfl rfl rfl ic_eq (fun _ => kk h hh.2) (fun hc => absurd hh.1.symm hc)
set_option maxRecDepth 100000 in
theorem law_27 (i : Inv f) (hq : q + 6 ≤ L) (hL : L ≤ 3072) (kk : ∀ h, Inv h → Wp L xs xm_La_law 1403 [.ref 1000000, .ref 0, .ref 400, .int (iN q)] [] h Q) : Wp L xs xm_La_law 1357 [.ref 1000000, .ref 0, .ref 400, .int (iN q)] [] f Q := by
  refine w_aload_n (pc' := 1358) rfl rfl rfl ?_
  refine w_aload_n (pc' := 1359) rfl rfl rfl ?_
  refine w_iload_n (pc' := 1360) rfl rfl rfl ?_
  refine w_iconst (pc' := 1361) rfl rfl (v := 1) rfl ?_
  refine w_iadd (pc' := 1362) rfl rfl ?_
  refine w_iaload4 (pc' := 1363) (n := L) (i := q + 1) rfl rfl rfl (Nat.le_refl _) (iN_add q 1) (by omega) (by omega) ?_
  refine w_cv (pc' := 1366) (cm := xm_TP_image) (as := [.int (xoI xs 1000000 (q + 1))]) (a := 0) (rest := []) rfl rfl rfl (xa_TP_image (Nat.le_of_ble_eq_true rfl)) rfl rfl (CI.k (op_image i _) fun v g hg => ?_)
  show Wp L xs xm_La_law 1366 [.ref 1000000, .ref 0, .ref 400, .int (iN q)] [.int v] g Q
  refine w_aload_n (pc' := 1367) rfl rfl rfl ?_
  refine w_aload_n (pc' := 1368) rfl rfl rfl ?_
  refine w_iload_n (pc' := 1369) rfl rfl rfl ?_
  refine w_iconst (pc' := 1370) rfl rfl (v := 1) rfl ?_
  refine w_iadd (pc' := 1371) rfl rfl ?_
  refine w_iaload4 (pc' := 1372) (n := L) (i := q + 1) rfl rfl rfl (Nat.le_refl _) (iN_add q 1) (by omega) (by omega) ?_
  refine w_cv (pc' := 1375) (cm := xm_Mo_image) (as := [.int (xoI xs 1000000 (q + 1))]) (a := 400) (rest := [.int v]) rfl rfl rfl (xa_Mo_image (Nat.le_of_ble_eq_true rfl)) rfl rfl (CI.k hg fun w h hh => ?_)
  show Wp L xs xm_La_law 1375 [.ref 1000000, .ref 0, .ref 400, .int (iN q)] [.int w, .int v] h Q
  exact w_br2 (pc' := 1378) (t := 1403) rfl rfl rfl ic_eq (fun _ => kk h hh.2) (fun hc => absurd hh.1.symm hc)
set_option maxRecDepth 100000 in
theorem law_28 (i : Inv f) (hq : q + 6 ≤ L) (hL : L ≤ 3072) (kk : ∀ h, Inv h → Wp L xs xm_La_law 1403 [.ref 1000000, .ref 0, .ref 400, .int (iN q)] [] h Q) : Wp L xs xm_La_law 1380 [.ref 1000000, .ref 0, .ref 400, .int (iN q)] [] f Q := by
  refine w_aload_n (pc' := 1381) rfl rfl rfl ?_
  refine w_aload_n (pc' := 1382) rfl rfl rfl ?_
  refine w_iload_n (pc' := 1383) rfl rfl rfl ?_
  refine w_iconst (pc' := 1384) rfl rfl (v := 1) rfl ?_
  refine w_iadd (pc' := 1385) rfl rfl ?_
  refine w_iaload4 (pc' := 1386) (n := L) (i := q + 1) rfl rfl rfl (Nat.le_refl _) (iN_add q 1) (by omega) (by omega) ?_
  refine w_cv (pc' := 1389) (cm := xm_TP_again) (as := [.int (xoI xs 1000000 (q + 1))]) (a := 0) (rest := []) rfl rfl rfl (xa_TP_again (Nat.le_of_ble_eq_true rfl)) rfl rfl (CI.k (op_again i _) fun v g hg => ?_)
  show Wp L xs xm_La_law 1389 [.ref 1000000, .ref 0, .ref 400, .int (iN q)] [.int v] g Q
  refine w_aload_n (pc' := 1390) rfl rfl rfl ?_
  refine w_aload_n (pc' := 1391) rfl rfl rfl ?_
  refine w_iload_n (pc' := 1392) rfl rfl rfl ?_
  refine w_iconst (pc' := 1393) rfl rfl (v := 1) rfl ?_
  refine w_iadd (pc' := 1394) rfl rfl ?_
  refine w_iaload4 (pc' := 1395) (n := L) (i := q + 1) rfl rfl rfl (Nat.le_refl _) (iN_add q 1) (by omega) (by omega) ?_
  refine w_cv (pc' := 1398) (cm := xm_Mo_again) (as := [.int (xoI xs 1000000 (q + 1))]) (a := 400) (rest := [.int v]) rfl rfl rfl (xa_Mo_again (Nat.le_of_ble_eq_true rfl)) rfl rfl (CI.k hg fun w h hh => ?_)
  show Wp L xs xm_La_law 1398 [.ref 1000000, .ref 0, .ref 400, .int (iN q)] [.int w, .int v] h Q
  exact w_br2 (pc' := 1401) (t := 1403) rfl rfl rfl ic_eq (fun _ => kk h hh.2) (fun hc => absurd hh.1.symm hc)
end LAWF
