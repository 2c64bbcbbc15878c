/-! the law's cases -/
section LAWA
variable {L : Nat} {xs : Nat → Int32} {f : Hp} {q : Nat} {Q : Option Value → Hp → Prop}
theorem law_0 (i : Inv f) (hq : q + 6 ≤ L) (hL : L ≤ 3072) (kk : ∀ h, Inv h → Wp L xs xm_La_law 1403 [.ref 1000000, .ref 0, .ref 400, .int (iN q)] [] h Q) : Wp L xs xm_La_law 164 [.ref 1000000, .ref 0, .ref 400, .int (iN q)] [] f Q := by
  refine w_aload_n (pc' := 165) rfl rfl rfl ?_
  refine w_aload_n (pc' := 166) rfl rfl rfl ?_
  refine w_iload_n (pc' := 167) rfl rfl rfl ?_
  refine w_iconst (pc' := 168) rfl rfl (v := 1) rfl ?_
  refine w_iadd (pc' := 169) rfl rfl ?_
  refine w_iaload4 (pc' := 170) (n := L) (i := q + 1) rfl rfl rfl (Nat.le_refl _) (iN_add q 1) (by omega) (by omega) ?_
  refine w_aload_n (pc' := 171) rfl rfl rfl ?_
  refine w_iload_n (pc' := 172) rfl rfl rfl ?_
  refine w_iconst (pc' := 173) rfl rfl (v := 2) rfl ?_
  refine w_iadd (pc' := 174) rfl rfl ?_
  refine w_iaload4 (pc' := 175) (n := L) (i := q + 2) rfl rfl rfl (Nat.le_refl _) (iN_add q 2) (by omega) (by omega) ?_
  refine w_aload_n (pc' := 176) rfl rfl rfl ?_
  refine w_iload_n (pc' := 177) rfl rfl rfl ?_
  refine w_iconst (pc' := 178) rfl rfl (v := 3) rfl ?_
  refine w_iadd (pc' := 179) rfl rfl ?_
  refine w_iaload4 (pc' := 180) (n := L) (i := q + 3) rfl rfl rfl (Nat.le_refl _) (iN_add q 3) (by omega) (by omega) ?_
  refine w_aload_n (pc' := 181) rfl rfl rfl ?_
  refine w_iload_n (pc' := 182) rfl rfl rfl ?_
  refine w_iconst (pc' := 183) rfl rfl (v := 4) rfl ?_
  refine w_iadd (pc' := 184) rfl rfl ?_
  refine w_iaload4 (pc' := 185) (n := L) (i := q + 4) rfl rfl rfl (Nat.le_refl _) (iN_add q 4) (by omega) (by omega) ?_
  refine w_aload_n (pc' := 186) rfl rfl rfl ?_
  refine w_iload_n (pc' := 187) rfl rfl rfl ?_
  refine w_iconst (pc' := 188) rfl rfl (v := 5) rfl ?_
  refine w_iadd (pc' := 189) rfl rfl ?_
  refine w_iaload4 (pc' := 190) (n := L) (i := q + 5) rfl rfl rfl (Nat.le_refl _) (iN_add q 5) (by omega) (by omega) ?_
  refine w_cv (pc' := 193) (cm := xm_TP_feed) (as := [.int (xoI xs 1000000 (q + 1)), .int (xoI xs 1000000 (q + 2)), .int (xoI xs 1000000 (q + 3)), .int (xoI xs 1000000 (q + 4)), .int (xoI xs 1000000 (q + 5))]) (a := 0) (rest := []) rfl rfl rfl (xa_TP_feed (Nat.le_of_ble_eq_true rfl)) rfl rfl (CI.k (op_feed i _ _ _ _ _) fun v g hg => ?_)
  show Wp L xs xm_La_law 193 [.ref 1000000, .ref 0, .ref 400, .int (iN q)] [.int v] g Q
  refine w_aload_n (pc' := 194) rfl rfl rfl ?_
  refine w_aload_n (pc' := 195) rfl rfl rfl ?_
  refine w_iload_n (pc' := 196) rfl rfl rfl ?_
  refine w_iconst (pc' := 197) rfl rfl (v := 1) rfl ?_
  refine w_iadd (pc' := 198) rfl rfl ?_
  refine w_iaload4 (pc' := 199) (n := L) (i := q + 1) rfl rfl rfl (Nat.le_refl _) (iN_add q 1) (by omega) (by omega) ?_
  refine w_aload_n (pc' := 200) rfl rfl rfl ?_
  refine w_iload_n (pc' := 201) rfl rfl rfl ?_
  refine w_iconst (pc' := 202) rfl rfl (v := 2) rfl ?_
  refine w_iadd (pc' := 203) rfl rfl ?_
  refine w_iaload4 (pc' := 204) (n := L) (i := q + 2) rfl rfl rfl (Nat.le_refl _) (iN_add q 2) (by omega) (by omega) ?_
  refine w_aload_n (pc' := 205) rfl rfl rfl ?_
  refine w_iload_n (pc' := 206) rfl rfl rfl ?_
  refine w_iconst (pc' := 207) rfl rfl (v := 3) rfl ?_
  refine w_iadd (pc' := 208) rfl rfl ?_
  refine w_iaload4 (pc' := 209) (n := L) (i := q + 3) rfl rfl rfl (Nat.le_refl _) (iN_add q 3) (by omega) (by omega) ?_
  refine w_aload_n (pc' := 210) rfl rfl rfl ?_
  refine w_iload_n (pc' := 211) rfl rfl rfl ?_
  refine w_iconst (pc' := 212) rfl rfl (v := 4) rfl ?_
  refine w_iadd (pc' := 213) rfl rfl ?_
  refine w_iaload4 (pc' := 214) (n := L) (i := q + 4) rfl rfl rfl (Nat.le_refl _) (iN_add q 4) (by omega) (by omega) ?_
  refine w_aload_n (pc' := 215) rfl rfl rfl ?_
  refine w_iload_n (pc' := 216) rfl rfl rfl ?_
  refine w_iconst (pc' := 217) rfl rfl (v := 5) rfl ?_
  refine w_iadd (pc' := 218) rfl rfl ?_
  refine w_iaload4 (pc' := 219) (n := L) (i := q + 5) rfl rfl rfl (Nat.le_refl _) (iN_add q 5) (by omega) (by omega) ?_
  refine w_cv (pc' := 222) (cm := xm_Mo_feed) (as := [.int (xoI xs 1000000 (q + 1)), .int (xoI xs 1000000 (q + 2)), .int (xoI xs 1000000 (q + 3)), .int (xoI xs 1000000 (q + 4)), .int (xoI xs 1000000 (q + 5))]) (a := 400) (rest := [.int v]) rfl rfl rfl (xa_Mo_feed (Nat.le_of_ble_eq_true rfl)) rfl rfl (CI.k hg fun w h hh => ?_)
  show Wp L xs xm_La_law 222 [.ref 1000000, .ref 0, .ref 400, .int (iN q)] [.int w, .int v] h Q
  exact w_br2 (pc' := 225) (t := 1403) rfl rfl rfl ic_eq (fun _ => kk h hh.2) (fun hc => absurd hh.1.symm hc)
theorem law_1 (i : Inv f) (hq : q + 6 ≤ L) (hL : L ≤ 3072) (kk : ∀ h, Inv h → Wp L xs xm_La_law 1403 [.ref 1000000, .ref 0, .ref 400, .int (iN q)] [] h Q) : Wp L xs xm_La_law 227 [.ref 1000000, .ref 0, .ref 400, .int (iN q)] [] f Q := by
  refine w_aload_n (pc' := 228) rfl rfl rfl ?_
  refine w_aload_n (pc' := 229) rfl rfl rfl ?_
  refine w_iload_n (pc' := 230) rfl rfl rfl ?_
  refine w_iconst (pc' := 231) rfl rfl (v := 1) rfl ?_
  refine w_iadd (pc' := 232) rfl rfl ?_
  refine w_iaload4 (pc' := 233) (n := L) (i := q + 1) rfl rfl rfl (Nat.le_refl _) (iN_add q 1) (by omega) (by omega) ?_
  refine w_cv (pc' := 236) (cm := xm_TP_end) (as := [.int (xoI xs 1000000 (q + 1))]) (a := 0) (rest := []) rfl rfl rfl (xa_TP_end (Nat.le_of_ble_eq_true rfl)) rfl rfl (CI.k (op_end i _) fun v g hg => ?_)
  show Wp L xs xm_La_law 236 [.ref 1000000, .ref 0, .ref 400, .int (iN q)] [.int v] g Q
  refine w_aload_n (pc' := 237) rfl rfl rfl ?_
  refine w_aload_n (pc' := 238) rfl rfl rfl ?_
  refine w_iload_n (pc' := 239) rfl rfl rfl ?_
  refine w_iconst (pc' := 240) rfl rfl (v := 1) rfl ?_
  refine w_iadd (pc' := 241) rfl rfl ?_
  refine w_iaload4 (pc' := 242) (n := L) (i := q + 1) rfl rfl rfl (Nat.le_refl _) (iN_add q 1) (by omega) (by omega) ?_
  refine w_cv (pc' := 245) (cm := xm_Mo_end) (as := [.int (xoI xs 1000000 (q + 1))]) (a := 400) (rest := [.int v]) rfl rfl rfl (xa_Mo_end (Nat.le_of_ble_eq_true rfl)) rfl rfl (CI.k hg fun w h hh => ?_)
  show Wp L xs xm_La_law 245 [.ref 1000000, .ref 0, .ref 400, .int (iN q)] [.int w, .int v] h Q
  exact w_br2 (pc' := 248) (t := 1403) rfl rfl rfl ic_eq (fun _ => kk h hh.2) (fun hc => absurd hh.1.symm hc)
theorem law_2 (i : Inv f) (hq : q + 6 ≤ L) (hL : L ≤ 3072) (kk : ∀ h, Inv h → Wp L xs xm_La_law 1403 [.ref 1000000, .ref 0, .ref 400, .int (iN q)] [] h Q) : Wp L xs xm_La_law 250 [.ref 1000000, .ref 0, .ref 400, .int (iN q)] [] f Q := by
  refine w_aload_n (pc' := 251) rfl rfl rfl ?_
  refine w_aload_n (pc' := 252) rfl rfl rfl ?_
  refine w_iload_n (pc' := 253) rfl rfl rfl ?_
  refine w_iconst (pc' := 254) rfl rfl (v := 1) rfl ?_
  refine w_iadd (pc' := 255) rfl rfl ?_
  refine w_iaload4 (pc' := 256) (n := L) (i := q + 1) rfl rfl rfl (Nat.le_refl _) (iN_add q 1) (by omega) (by omega) ?_
  refine w_aload_n (pc' := 257) rfl rfl rfl ?_
  refine w_iload_n (pc' := 258) rfl rfl rfl ?_
  refine w_iconst (pc' := 259) rfl rfl (v := 2) rfl ?_
  refine w_iadd (pc' := 260) rfl rfl ?_
  refine w_iaload4 (pc' := 261) (n := L) (i := q + 2) rfl rfl rfl (Nat.le_refl _) (iN_add q 2) (by omega) (by omega) ?_
  refine w_cv (pc' := 264) (cm := xm_TP_text) (as := [.int (xoI xs 1000000 (q + 1)), .int (xoI xs 1000000 (q + 2))]) (a := 0) (rest := []) rfl rfl rfl (xa_TP_text (Nat.le_of_ble_eq_true rfl)) rfl rfl (CI.k (op_text i _ _) fun v g hg => ?_)
  show Wp L xs xm_La_law 264 [.ref 1000000, .ref 0, .ref 400, .int (iN q)] [.int v] g Q
  refine w_aload_n (pc' := 265) rfl rfl rfl ?_
  refine w_aload_n (pc' := 266) rfl rfl rfl ?_
  refine w_iload_n (pc' := 267) rfl rfl rfl ?_
  refine w_iconst (pc' := 268) rfl rfl (v := 1) rfl ?_
  refine w_iadd (pc' := 269) rfl rfl ?_
  refine w_iaload4 (pc' := 270) (n := L) (i := q + 1) rfl rfl rfl (Nat.le_refl _) (iN_add q 1) (by omega) (by omega) ?_
  refine w_aload_n (pc' := 271) rfl rfl rfl ?_
  refine w_iload_n (pc' := 272) rfl rfl rfl ?_
  refine w_iconst (pc' := 273) rfl rfl (v := 2) rfl ?_
  refine w_iadd (pc' := 274) rfl rfl ?_
  refine w_iaload4 (pc' := 275) (n := L) (i := q + 2) rfl rfl rfl (Nat.le_refl _) (iN_add q 2) (by omega) (by omega) ?_
  refine w_cv (pc' := 278) (cm := xm_Mo_text) (as := [.int (xoI xs 1000000 (q + 1)), .int (xoI xs 1000000 (q + 2))]) (a := 400) (rest := [.int v]) rfl rfl rfl (xa_Mo_text (Nat.le_of_ble_eq_true rfl)) rfl rfl (CI.k hg fun w h hh => ?_)
  show Wp L xs xm_La_law 278 [.ref 1000000, .ref 0, .ref 400, .int (iN q)] [.int w, .int v] h Q
  exact w_br2 (pc' := 281) (t := 1403) rfl rfl rfl ic_eq (fun _ => kk h hh.2) (fun hc => absurd hh.1.symm hc)
theorem law_3 (i : Inv f) (hq : q + 6 ≤ L) (hL : L ≤ 3072) (kk : ∀ h, Inv h → Wp L xs xm_La_law 1403 [.ref 1000000, .ref 0, .ref 400, .int (iN q)] [] h Q) : Wp L xs xm_La_law 283 [.ref 1000000, .ref 0, .ref 400, .int (iN q)] [] f Q := by
  refine w_aload_n (pc' := 284) rfl rfl rfl ?_
  refine w_aload_n (pc' := 285) rfl rfl rfl ?_
  refine w_iload_n (pc' := 286) rfl rfl rfl ?_
  refine w_iconst (pc' := 287) rfl rfl (v := 1) rfl ?_
  refine w_iadd (pc' := 288) rfl rfl ?_
  refine w_iaload4 (pc' := 289) (n := L) (i := q + 1) rfl rfl rfl (Nat.le_refl _) (iN_add q 1) (by omega) (by omega) ?_
  refine w_cv (pc' := 292) (cm := xm_TP_fault) (as := [.int (xoI xs 1000000 (q + 1))]) (a := 0) (rest := []) rfl rfl rfl (xa_TP_fault (Nat.le_of_ble_eq_true rfl)) rfl rfl (CI.k (op_fault i _) fun v g hg => ?_)
  show Wp L xs xm_La_law 292 [.ref 1000000, .ref 0, .ref 400, .int (iN q)] [.int v] g Q
  refine w_aload_n (pc' := 293) rfl rfl rfl ?_
  refine w_aload_n (pc' := 294) rfl rfl rfl ?_
  refine w_iload_n (pc' := 295) rfl rfl rfl ?_
  refine w_iconst (pc' := 296) rfl rfl (v := 1) rfl ?_
  refine w_iadd (pc' := 297) rfl rfl ?_
  refine w_iaload4 (pc' := 298) (n := L) (i := q + 1) rfl rfl rfl (Nat.le_refl _) (iN_add q 1) (by omega) (by omega) ?_
  refine w_cv (pc' := 301) (cm := xm_Mo_fault) (as := [.int (xoI xs 1000000 (q + 1))]) (a := 400) (rest := [.int v]) rfl rfl rfl (xa_Mo_fault (Nat.le_of_ble_eq_true rfl)) rfl rfl (CI.k hg fun w h hh => ?_)
  show Wp L xs xm_La_law 301 [.ref 1000000, .ref 0, .ref 400, .int (iN q)] [.int w, .int v] h Q
  exact w_br2 (pc' := 304) (t := 1403) rfl rfl rfl ic_eq (fun _ => kk h hh.2) (fun hc => absurd hh.1.symm hc)
theorem law_4 (i : Inv f) (hq : q + 6 ≤ L) (hL : L ≤ 3072) (kk : ∀ h, Inv h → Wp L xs xm_La_law 1403 [.ref 1000000, .ref 0, .ref 400, .int (iN q)] [] h Q) : Wp L xs xm_La_law 306 [.ref 1000000, .ref 0, .ref 400, .int (iN q)] [] f Q := by
  refine w_aload_n (pc' := 307) rfl rfl rfl ?_
  refine w_aload_n (pc' := 308) rfl rfl rfl ?_
  refine w_iload_n (pc' := 309) rfl rfl rfl ?_
  refine w_iconst (pc' := 310) rfl rfl (v := 1) rfl ?_
  refine w_iadd (pc' := 311) rfl rfl ?_
  refine w_iaload4 (pc' := 312) (n := L) (i := q + 1) rfl rfl rfl (Nat.le_refl _) (iN_add q 1) (by omega) (by omega) ?_
  refine w_aload_n (pc' := 313) rfl rfl rfl ?_
  refine w_iload_n (pc' := 314) rfl rfl rfl ?_
  refine w_iconst (pc' := 315) rfl rfl (v := 2) rfl ?_
  refine w_iadd (pc' := 316) rfl rfl ?_
  refine w_iaload4 (pc' := 317) (n := L) (i := q + 2) rfl rfl rfl (Nat.le_refl _) (iN_add q 2) (by omega) (by omega) ?_
  refine w_cv (pc' := 320) (cm := xm_TP_council) (as := [.int (xoI xs 1000000 (q + 1)), .int (xoI xs 1000000 (q + 2))]) (a := 0) (rest := []) rfl rfl rfl (xa_TP_council (Nat.le_of_ble_eq_true rfl)) rfl rfl (CI.k (op_council i _ _) fun v g hg => ?_)
  show Wp L xs xm_La_law 320 [.ref 1000000, .ref 0, .ref 400, .int (iN q)] [.int v] g Q
  refine w_aload_n (pc' := 321) rfl rfl rfl ?_
  refine w_aload_n (pc' := 322) rfl rfl rfl ?_
  refine w_iload_n (pc' := 323) rfl rfl rfl ?_
  refine w_iconst (pc' := 324) rfl rfl (v := 1) rfl ?_
  refine w_iadd (pc' := 325) rfl rfl ?_
  refine w_iaload4 (pc' := 326) (n := L) (i := q + 1) rfl rfl rfl (Nat.le_refl _) (iN_add q 1) (by omega) (by omega) ?_
  refine w_aload_n (pc' := 327) rfl rfl rfl ?_
  refine w_iload_n (pc' := 328) rfl rfl rfl ?_
  refine w_iconst (pc' := 329) rfl rfl (v := 2) rfl ?_
  refine w_iadd (pc' := 330) rfl rfl ?_
  refine w_iaload4 (pc' := 331) (n := L) (i := q + 2) rfl rfl rfl (Nat.le_refl _) (iN_add q 2) (by omega) (by omega) ?_
  refine w_cv (pc' := 334) (cm := xm_Mo_council) (as := [.int (xoI xs 1000000 (q + 1)), .int (xoI xs 1000000 (q + 2))]) (a := 400) (rest := [.int v]) rfl rfl rfl (xa_Mo_council (Nat.le_of_ble_eq_true rfl)) rfl rfl (CI.k hg fun w h hh => ?_)
  show Wp L xs xm_La_law 334 [.ref 1000000, .ref 0, .ref 400, .int (iN q)] [.int w, .int v] h Q
  exact w_br2 (pc' := 337) (t := 1403) rfl rfl rfl ic_eq (fun _ => kk h hh.2) (fun hc => absurd hh.1.symm hc)
end LAWA
