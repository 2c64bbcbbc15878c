/-! the law's cases -/
section LAWB
variable {L : Nat} {xs : Nat → Int32} {f : Hp} {q : Nat} {Q : Option Value → Hp → Prop}
set_option maxRecDepth 100000 in
theorem law_5 (i : Inv f) (hq : q + 6 ≤ L) (hL : L ≤ 3072) (kk : ∀ h, Inv h → Wp L xs xm_La_law 1403 [.ref 1000000, .ref 0, .ref 400, .int (iN q)] [] h Q) : Wp L xs xm_La_law 339 [.ref 1000000, .ref 0, .ref 400, .int (iN q)] [] f Q := by
  refine w_aload_n (pc' := 340) rfl rfl rfl ?_
  refine w_aload_n (pc' := 341) rfl rfl rfl ?_
  refine w_iload_n (pc' := 342) rfl rfl rfl ?_
  refine w_iconst (pc' := 343) rfl rfl (v := 1) rfl ?_
  refine w_iadd (pc' := 344) rfl rfl ?_
  refine w_iaload4 (pc' := 345) (n := L) (i := q + 1) rfl rfl rfl (Nat.le_refl _) (iN_add q 1) (by omega) (by omega) ?_
  refine w_aload_n (pc' := 346) rfl rfl rfl ?_
  refine w_iload_n (pc' := 347) rfl rfl rfl ?_
  refine w_iconst (pc' := 348) rfl rfl (v := 2) rfl ?_
  refine w_iadd (pc' := 349) rfl rfl ?_
  refine w_iaload4 (pc' := 350) (n := L) (i := q + 2) rfl rfl rfl (Nat.le_refl _) (iN_add q 2) (by omega) (by omega) ?_
  refine w_aload_n (pc' := 351) rfl rfl rfl ?_
  refine w_iload_n (pc' := 352) rfl rfl rfl ?_
  refine w_iconst (pc' := 353) rfl rfl (v := 3) rfl ?_
  refine w_iadd (pc' := 354) rfl rfl ?_
  refine w_iaload4 (pc' := 355) (n := L) (i := q + 3) rfl rfl rfl (Nat.le_refl _) (iN_add q 3) (by omega) (by omega) ?_
  refine w_cv (pc' := 358) (cm := xm_TP_deed) (as := [.int (xoI xs 1000000 (q + 1)), .int (xoI xs 1000000 (q + 2)), .int (xoI xs 1000000 (q + 3))]) (a := 0) (rest := []) rfl rfl rfl (xa_TP_deed (Nat.le_of_ble_eq_true rfl)) rfl rfl (CI.k (op_deed i _ _ _) fun v g hg => ?_)
  show Wp L xs xm_La_law 358 [.ref 1000000, .ref 0, .ref 400, .int (iN q)] [.int v] g Q
  refine w_aload_n (pc' := 359) rfl rfl rfl ?_
  refine w_aload_n (pc' := 360) rfl rfl rfl ?_
  refine w_iload_n (pc' := 361) rfl rfl rfl ?_
  refine w_iconst (pc' := 362) rfl rfl (v := 1) rfl ?_
  refine w_iadd (pc' := 363) rfl rfl ?_
  refine w_iaload4 (pc' := 364) (n := L) (i := q + 1) rfl rfl rfl (Nat.le_refl _) (iN_add q 1) (by omega) (by omega) ?_
  refine w_aload_n (pc' := 365) rfl rfl rfl ?_
  refine w_iload_n (pc' := 366) rfl rfl rfl ?_
  refine w_iconst (pc' := 367) rfl rfl (v := 2) rfl ?_
  refine w_iadd (pc' := 368) rfl rfl ?_
  refine w_iaload4 (pc' := 369) (n := L) (i := q + 2) rfl rfl rfl (Nat.le_refl _) (iN_add q 2) (by omega) (by omega) ?_
  refine w_aload_n (pc' := 370) rfl rfl rfl ?_
  refine w_iload_n (pc' := 371) rfl rfl rfl ?_
  refine w_iconst (pc' := 372) rfl rfl (v := 3) rfl ?_
  refine w_iadd (pc' := 373) rfl rfl ?_
  refine w_iaload4 (pc' := 374) (n := L) (i := q + 3) rfl rfl rfl (Nat.le_refl _) (iN_add q 3) (by omega) (by omega) ?_
  refine w_cv (pc' := 377) (cm := xm_Mo_deed) (as := [.int (xoI xs 1000000 (q + 1)), .int (xoI xs 1000000 (q + 2)), .int (xoI xs 1000000 (q + 3))]) (a := 400) (rest := [.int v]) rfl rfl rfl (xa_Mo_deed (Nat.le_of_ble_eq_true rfl)) rfl rfl (CI.k hg fun w h hh => ?_)
  show Wp L xs xm_La_law 377 [.ref 1000000, .ref 0, .ref 400, .int (iN q)] [.int w, .int v] h Q
  exact w_br2 (pc' := 380) (t := 1403) rfl rfl rfl ic_eq (fun _ => kk h hh.2) (fun hc => absurd hh.1.symm hc)
set_option maxRecDepth 100000 in
theorem law_6 (i : Inv f) (hq : q + 6 ≤ L) (hL : L ≤ 3072) (kk : ∀ h, Inv h → Wp L xs xm_La_law 1403 [.ref 1000000, .ref 0, .ref 400, .int (iN q)] [] h Q) : Wp L xs xm_La_law 382 [.ref 1000000, .ref 0, .ref 400, .int (iN q)] [] f Q := by
  refine w_aload_n (pc' := 383) rfl rfl rfl ?_
  refine w_aload_n (pc' := 384) rfl rfl rfl ?_
  refine w_iload_n (pc' := 385) rfl rfl rfl ?_
  refine w_iconst (pc' := 386) rfl rfl (v := 1) rfl ?_
  refine w_iadd (pc' := 387) rfl rfl ?_
  refine w_iaload4 (pc' := 388) (n := L) (i := q + 1) rfl rfl rfl (Nat.le_refl _) (iN_add q 1) (by omega) (by omega) ?_
  refine w_aload_n (pc' := 389) rfl rfl rfl ?_
  refine w_iload_n (pc' := 390) rfl rfl rfl ?_
  refine w_iconst (pc' := 391) rfl rfl (v := 2) rfl ?_
  refine w_iadd (pc' := 392) rfl rfl ?_
  refine w_iaload4 (pc' := 393) (n := L) (i := q + 2) rfl rfl rfl (Nat.le_refl _) (iN_add q 2) (by omega) (by omega) ?_
  refine w_cv (pc' := 396) (cm := xm_TP_stop) (as := [.int (xoI xs 1000000 (q + 1)), .int (xoI xs 1000000 (q + 2))]) (a := 0) (rest := []) rfl rfl rfl (xa_TP_stop (Nat.le_of_ble_eq_true rfl)) rfl rfl (CI.k (op_stop i _ _) fun v g hg => ?_)
  show Wp L xs xm_La_law 396 [.ref 1000000, .ref 0, .ref 400, .int (iN q)] [.int v] g Q
  refine w_aload_n (pc' := 397) rfl rfl rfl ?_
  refine w_aload_n (pc' := 398) rfl rfl rfl ?_
  refine w_iload_n (pc' := 399) rfl rfl rfl ?_
  refine w_iconst (pc' := 400) rfl rfl (v := 1) rfl ?_
  refine w_iadd (pc' := 401) rfl rfl ?_
  refine w_iaload4 (pc' := 402) (n := L) (i := q + 1) rfl rfl rfl (Nat.le_refl _) (iN_add q 1) (by omega) (by omega) ?_
  refine w_aload_n (pc' := 403) rfl rfl rfl ?_
  refine w_iload_n (pc' := 404) rfl rfl rfl ?_
  refine w_iconst (pc' := 405) rfl rfl (v := 2) rfl ?_
  refine w_iadd (pc' := 406) rfl rfl ?_
  refine w_iaload4 (pc' := 407) (n := L) (i := q + 2) rfl rfl rfl (Nat.le_refl _) (iN_add q 2) (by omega) (by omega) ?_
  refine w_cv (pc' := 410) (cm := xm_Mo_stop) (as := [.int (xoI xs 1000000 (q + 1)), .int (xoI xs 1000000 (q + 2))]) (a := 400) (rest := [.int v]) rfl rfl rfl (xa_Mo_stop (Nat.le_of_ble_eq_true rfl)) rfl rfl (CI.k hg fun w h hh => ?_)
  show Wp L xs xm_La_law 410 [.ref 1000000, .ref 0, .ref 400, .int (iN q)] [.int w, .int v] h Q
  exact w_br2 (pc' := 413) (t := 1403) rfl rfl rfl ic_eq (fun _ => kk h hh.2) (fun hc => absurd hh.1.symm hc)
set_option maxRecDepth 100000 in
theorem law_7 (i : Inv f) (hq : q + 6 ≤ L) (hL : L ≤ 3072) (kk : ∀ h, Inv h → Wp L xs xm_La_law 1403 [.ref 1000000, .ref 0, .ref 400, .int (iN q)] [] h Q) : Wp L xs xm_La_law 415 [.ref 1000000, .ref 0, .ref 400, .int (iN q)] [] f Q := by
  refine w_aload_n (pc' := 416) rfl rfl rfl ?_
  refine w_aload_n (pc' := 417) rfl rfl rfl ?_
  refine w_iload_n (pc' := 418) rfl rfl rfl ?_
  refine w_iconst (pc' := 419) rfl rfl (v := 1) rfl ?_
  refine w_iadd (pc' := 420) rfl rfl ?_
  refine w_iaload4 (pc' := 421) (n := L) (i := q + 1) rfl rfl rfl (Nat.le_refl _) (iN_add q 1) (by omega) (by omega) ?_
  refine w_aload_n (pc' := 422) rfl rfl rfl ?_
  refine w_iload_n (pc' := 423) rfl rfl rfl ?_
  refine w_iconst (pc' := 424) rfl rfl (v := 2) rfl ?_
  refine w_iadd (pc' := 425) rfl rfl ?_
  refine w_iaload4 (pc' := 426) (n := L) (i := q + 2) rfl rfl rfl (Nat.le_refl _) (iN_add q 2) (by omega) (by omega) ?_
  refine w_aload_n (pc' := 427) rfl rfl rfl ?_
  refine w_iload_n (pc' := 428) rfl rfl rfl ?_
  refine w_iconst (pc' := 429) rfl rfl (v := 3) rfl ?_
  refine w_iadd (pc' := 430) rfl rfl ?_
  refine w_iaload4 (pc' := 431) (n := L) (i := q + 3) rfl rfl rfl (Nat.le_refl _) (iN_add q 3) (by omega) (by omega) ?_
  refine w_aload_n (pc' := 432) rfl rfl rfl ?_
  refine w_iload_n (pc' := 433) rfl rfl rfl ?_
  refine w_iconst (pc' := 434) rfl rfl (v := 4) rfl ?_
  refine w_iadd (pc' := 435) rfl rfl ?_
  refine w_iaload4 (pc' := 436) (n := L) (i := q + 4) rfl rfl rfl (Nat.le_refl _) (iN_add q 4) (by omega) (by omega) ?_
  refine w_aload_n (pc' := 437) rfl rfl rfl ?_
  refine w_iload_n (pc' := 438) rfl rfl rfl ?_
  refine w_iconst (pc' := 439) rfl rfl (v := 5) rfl ?_
  refine w_iadd (pc' := 440) rfl rfl ?_
  refine w_iaload4 (pc' := 441) (n := L) (i := q + 5) rfl rfl rfl (Nat.le_refl _) (iN_add q 5) (by omega) (by omega) ?_
  refine w_cv (pc' := 444) (cm := xm_TP_state) (as := [.int (xoI xs 1000000 (q + 1)), .int (xoI xs 1000000 (q + 2)), .int (xoI xs 1000000 (q + 3)), .int (xoI xs 1000000 (q + 4)), .int (xoI xs 1000000 (q + 5))]) (a := 0) (rest := []) rfl rfl rfl (xa_TP_state (Nat.le_of_ble_eq_true rfl)) rfl rfl (CI.k (op_state i _ _ _ _ _) fun v g hg => ?_)
  show Wp L xs xm_La_law 444 [.ref 1000000, .ref 0, .ref 400, .int (iN q)] [.int v] g Q
  refine w_aload_n (pc' := 445) rfl rfl rfl ?_
  refine w_aload_n (pc' := 446) rfl rfl rfl ?_
  refine w_iload_n (pc' := 447) rfl rfl rfl ?_
  refine w_iconst (pc' := 448) rfl rfl (v := 1) rfl ?_
  refine w_iadd (pc' := 449) rfl rfl ?_
  refine w_iaload4 (pc' := 450) (n := L) (i := q + 1) rfl rfl rfl (Nat.le_refl _) (iN_add q 1) (by omega) (by omega) ?_
  refine w_aload_n (pc' := 451) rfl rfl rfl ?_
  refine w_iload_n (pc' := 452) rfl rfl rfl ?_
  refine w_iconst (pc' := 453) rfl rfl (v := 2) rfl ?_
  refine w_iadd (pc' := 454) rfl rfl ?_
  refine w_iaload4 (pc' := 455) (n := L) (i := q + 2) rfl rfl rfl (Nat.le_refl _) (iN_add q 2) (by omega) (by omega) ?_
  refine w_aload_n (pc' := 456) rfl rfl rfl ?_
  refine w_iload_n (pc' := 457) rfl rfl rfl ?_
  refine w_iconst (pc' := 458) rfl rfl (v := 3) rfl ?_
  refine w_iadd (pc' := 459) rfl rfl ?_
  refine w_iaload4 (pc' := 460) (n := L) (i := q + 3) rfl rfl rfl (Nat.le_refl _) (iN_add q 3) (by omega) (by omega) ?_
  refine w_aload_n (pc' := 461) rfl rfl rfl ?_
  refine w_iload_n (pc' := 462) rfl rfl rfl ?_
  refine w_iconst (pc' := 463) rfl rfl (v := 4) rfl ?_
  refine w_iadd (pc' := 464) rfl rfl ?_
  refine w_iaload4 (pc' := 465) (n := L) (i := q + 4) rfl rfl rfl (Nat.le_refl _) (iN_add q 4) (by omega) (by omega) ?_
  refine w_aload_n (pc' := 466) rfl rfl rfl ?_
  refine w_iload_n (pc' := 467) rfl rfl rfl ?_
  refine w_iconst (pc' := 468) rfl rfl (v := 5) rfl ?_
  refine w_iadd (pc' := 469) rfl rfl ?_
  refine w_iaload4 (pc' := 470) (n := L) (i := q + 5) rfl rfl rfl (Nat.le_refl _) (iN_add q 5) (by omega) (by omega) ?_
  refine w_cv (pc' := 473) (cm := xm_Mo_state) (as := [.int (xoI xs 1000000 (q + 1)), .int (xoI xs 1000000 (q + 2)), .int (xoI xs 1000000 (q + 3)), .int (xoI xs 1000000 (q + 4)), .int (xoI xs 1000000 (q + 5))]) (a := 400) (rest := [.int v]) rfl rfl rfl (xa_Mo_state (Nat.le_of_ble_eq_true rfl)) rfl rfl (CI.k hg fun w h hh => ?_)
  show Wp L xs xm_La_law 473 [.ref 1000000, .ref 0, .ref 400, .int (iN q)] [.int w, .int v] h Q
  exact w_br2 (pc' := 476) (t := 1403) rfl rfl rfl ic_eq (fun _ => kk h hh.2) (fun hc => absurd hh.1.symm hc)
set_option maxRecDepth 100000 in
theorem law_8 (i : Inv f) (hq : q + 6 ≤ L) (hL : L ≤ 3072) (kk : ∀ h, Inv h → Wp L xs xm_La_law 1403 [.ref 1000000, .ref 0, .ref 400, .int (iN q)] [] h Q) : Wp L xs xm_La_law 478 [.ref 1000000, .ref 0, .ref 400, .int (iN q)] [] f Q := by
  refine w_aload_n (pc' := 479) rfl rfl rfl ?_
  refine w_aload_n (pc' := 480) rfl rfl rfl ?_
  refine w_iload_n (pc' := 481) rfl rfl rfl ?_
  refine w_iconst (pc' := 482) rfl rfl (v := 1) rfl ?_
  refine w_iadd (pc' := 483) rfl rfl ?_
  refine w_iaload4 (pc' := 484) (n := L) (i := q + 1) rfl rfl rfl (Nat.le_refl _) (iN_add q 1) (by omega) (by omega) ?_
  refine w_aload_n (pc' := 485) rfl rfl rfl ?_
  refine w_iload_n (pc' := 486) rfl rfl rfl ?_
  refine w_iconst (pc' := 487) rfl rfl (v := 2) rfl ?_
  refine w_iadd (pc' := 488) rfl rfl ?_
  refine w_iaload4 (pc' := 489) (n := L) (i := q + 2) rfl rfl rfl (Nat.le_refl _) (iN_add q 2) (by omega) (by omega) ?_
  refine w_aload_n (pc' := 490) rfl rfl rfl ?_
  refine w_iload_n (pc' := 491) rfl rfl rfl ?_
  refine w_iconst (pc' := 492) rfl rfl (v := 3) rfl ?_
  refine w_iadd (pc' := 493) rfl rfl ?_
  refine w_iaload4 (pc' := 494) (n := L) (i := q + 3) rfl rfl rfl (Nat.le_refl _) (iN_add q 3) (by omega) (by omega) ?_
  refine w_aload_n (pc' := 495) rfl rfl rfl ?_
  refine w_iload_n (pc' := 496) rfl rfl rfl ?_
  refine w_iconst (pc' := 497) rfl rfl (v := 4) rfl ?_
  refine w_iadd (pc' := 498) rfl rfl ?_
  refine w_iaload4 (pc' := 499) (n := L) (i := q + 4) rfl rfl rfl (Nat.le_refl _) (iN_add q 4) (by omega) (by omega) ?_
  refine w_aload_n (pc' := 500) rfl rfl rfl ?_
  refine w_iload_n (pc' := 501) rfl rfl rfl ?_
  refine w_iconst (pc' := 502) rfl rfl (v := 5) rfl ?_
  refine w_iadd (pc' := 503) rfl rfl ?_
  refine w_iaload4 (pc' := 504) (n := L) (i := q + 5) rfl rfl rfl (Nat.le_refl _) (iN_add q 5) (by omega) (by omega) ?_
  refine w_cv (pc' := 507) (cm := xm_TP_made) (as := [.int (xoI xs 1000000 (q + 1)), .int (xoI xs 1000000 (q + 2)), .int (xoI xs 1000000 (q + 3)), .int (xoI xs 1000000 (q + 4)), .int (xoI xs 1000000 (q + 5))]) (a := 0) (rest := []) rfl rfl rfl (xa_TP_made (Nat.le_of_ble_eq_true rfl)) rfl rfl (CI.k (op_made i _ _ _ _ _) fun v g hg => ?_)
  show Wp L xs xm_La_law 507 [.ref 1000000, .ref 0, .ref 400, .int (iN q)] [.int v] g Q
  refine w_aload_n (pc' := 508) rfl rfl rfl ?_
  refine w_aload_n (pc' := 509) rfl rfl rfl ?_
  refine w_iload_n (pc' := 510) rfl rfl rfl ?_
  refine w_iconst (pc' := 511) rfl rfl (v := 1) rfl ?_
  refine w_iadd (pc' := 512) rfl rfl ?_
  refine w_iaload4 (pc' := 513) (n := L) (i := q + 1) rfl rfl rfl (Nat.le_refl _) (iN_add q 1) (by omega) (by omega) ?_
  refine w_aload_n (pc' := 514) rfl rfl rfl ?_
  refine w_iload_n (pc' := 515) rfl rfl rfl ?_
  refine w_iconst (pc' := 516) rfl rfl (v := 2) rfl ?_
  refine w_iadd (pc' := 517) rfl rfl ?_
  refine w_iaload4 (pc' := 518) (n := L) (i := q + 2) rfl rfl rfl (Nat.le_refl _) (iN_add q 2) (by omega) (by omega) ?_
  refine w_aload_n (pc' := 519) rfl rfl rfl ?_
  refine w_iload_n (pc' := 520) rfl rfl rfl ?_
  refine w_iconst (pc' := 521) rfl rfl (v := 3) rfl ?_
  refine w_iadd (pc' := 522) rfl rfl ?_
  refine w_iaload4 (pc' := 523) (n := L) (i := q + 3) rfl rfl rfl (Nat.le_refl _) (iN_add q 3) (by omega) (by omega) ?_
  refine w_aload_n (pc' := 524) rfl rfl rfl ?_
  refine w_iload_n (pc' := 525) rfl rfl rfl ?_
  refine w_iconst (pc' := 526) rfl rfl (v := 4) rfl ?_
  refine w_iadd (pc' := 527) rfl rfl ?_
  refine w_iaload4 (pc' := 528) (n := L) (i := q + 4) rfl rfl rfl (Nat.le_refl _) (iN_add q 4) (by omega) (by omega) ?_
  refine w_aload_n (pc' := 529) rfl rfl rfl ?_
  refine w_iload_n (pc' := 530) rfl rfl rfl ?_
  refine w_iconst (pc' := 531) rfl rfl (v := 5) rfl ?_
  refine w_iadd (pc' := 532) rfl rfl ?_
  refine w_iaload4 (pc' := 533) (n := L) (i := q + 5) rfl rfl rfl (Nat.le_refl _) (iN_add q 5) (by omega) (by omega) ?_
  refine w_cv (pc' := 536) (cm := xm_Mo_made) (as := [.int (xoI xs 1000000 (q + 1)), .int (xoI xs 1000000 (q + 2)), .int (xoI xs 1000000 (q + 3)), .int (xoI xs 1000000 (q + 4)), .int (xoI xs 1000000 (q + 5))]) (a := 400) (rest := [.int v]) rfl rfl rfl (xa_Mo_made (Nat.le_of_ble_eq_true rfl)) rfl rfl (CI.k hg fun w h hh => ?_)
  show Wp L xs xm_La_law 536 [.ref 1000000, .ref 0, .ref 400, .int (iN q)] [.int w, .int v] h Q
  exact w_br2 (pc' := 539) (t := 1403) rfl rfl rfl ic_eq (fun _ => kk h hh.2) (fun hc => absurd hh.1.symm hc)
set_option maxRecDepth 100000 in
theorem law_9 (i : Inv f) (hq : q + 6 ≤ L) (hL : L ≤ 3072) (kk : ∀ h, Inv h → Wp L xs xm_La_law 1403 [.ref 1000000, .ref 0, .ref 400, .int (iN q)] [] h Q) : Wp L xs xm_La_law 541 [.ref 1000000, .ref 0, .ref 400, .int (iN q)] [] f Q := by
  refine w_aload_n (pc' := 542) rfl rfl rfl ?_
  refine w_aload_n (pc' := 543) rfl rfl rfl ?_
  refine w_iload_n (pc' := 544) rfl rfl rfl ?_
  refine w_iconst (pc' := 545) rfl rfl (v := 1) rfl ?_
  refine w_iadd (pc' := 546) rfl rfl ?_
  refine w_iaload4 (pc' := 547) (n := L) (i := q + 1) rfl rfl rfl (Nat.le_refl _) (iN_add q 1) (by omega) (by omega) ?_
  refine w_aload_n (pc' := 548) rfl rfl rfl ?_
  refine w_iload_n (pc' := 549) rfl rfl rfl ?_
  refine w_iconst (pc' := 550) rfl rfl (v := 2) rfl ?_
  refine w_iadd (pc' := 551) rfl rfl ?_
  refine w_iaload4 (pc' := 552) (n := L) (i := q + 2) rfl rfl rfl (Nat.le_refl _) (iN_add q 2) (by omega) (by omega) ?_
  refine w_aload_n (pc' := 553) rfl rfl rfl ?_
  refine w_iload_n (pc' := 554) rfl rfl rfl ?_
  refine w_iconst (pc' := 555) rfl rfl (v := 3) rfl ?_
  refine w_iadd (pc' := 556) rfl rfl ?_
  refine w_iaload4 (pc' := 557) (n := L) (i := q + 3) rfl rfl rfl (Nat.le_refl _) (iN_add q 3) (by omega) (by omega) ?_
  refine w_cv (pc' := 560) (cm := xm_TP_unlike) (as := [.int (xoI xs 1000000 (q + 1)), .int (xoI xs 1000000 (q + 2)), .int (xoI xs 1000000 (q + 3))]) (a := 0) (rest := []) rfl rfl rfl (xa_TP_unlike (Nat.le_of_ble_eq_true rfl)) rfl rfl (CI.k (op_unlike i _ _ _) fun v g hg => ?_)
  show Wp L xs xm_La_law 560 [.ref 1000000, .ref 0, .ref 400, .int (iN q)] [.int v] g Q
  refine w_aload_n (pc' := 561) rfl rfl rfl ?_
  refine w_aload_n (pc' := 562) rfl rfl rfl ?_
  refine w_iload_n (pc' := 563) rfl rfl rfl ?_
  refine w_iconst (pc' := 564) rfl rfl (v := 1) rfl ?_
  refine w_iadd (pc' := 565) rfl rfl ?_
  refine w_iaload4 (pc' := 566) (n := L) (i := q + 1) rfl rfl rfl (Nat.le_refl _) (iN_add q 1) (by omega) (by omega) ?_
  refine w_aload_n (pc' := 567) rfl rfl rfl ?_
  refine w_iload_n (pc' := 568) rfl rfl rfl ?_
  refine w_iconst (pc' := 569) rfl rfl (v := 2) rfl ?_
  refine w_iadd (pc' := 570) rfl rfl ?_
  refine w_iaload4 (pc' := 571) (n := L) (i := q + 2) rfl rfl rfl (Nat.le_refl _) (iN_add q 2) (by omega) (by omega) ?_
  refine w_aload_n (pc' := 572) rfl rfl rfl ?_
  refine w_iload_n (pc' := 573) rfl rfl rfl ?_
  refine w_iconst (pc' := 574) rfl rfl (v := 3) rfl ?_
  refine w_iadd (pc' := 575) rfl rfl ?_
  refine w_iaload4 (pc' := 576) (n := L) (i := q + 3) rfl rfl rfl (Nat.le_refl _) (iN_add q 3) (by omega) (by omega) ?_
  refine w_cv (pc' := 579) (cm := xm_Mo_unlike) (as := [.int (xoI xs 1000000 (q + 1)), .int (xoI xs 1000000 (q + 2)), .int (xoI xs 1000000 (q + 3))]) (a := 400) (rest := [.int v]) rfl rfl rfl (xa_Mo_unlike (Nat.le_of_ble_eq_true rfl)) rfl rfl (CI.k hg fun w h hh => ?_)
  show Wp L xs xm_La_law 579 [.ref 1000000, .ref 0, .ref 400, .int (iN q)] [.int w, .int v] h Q
  exact w_br2 (pc' := 582) (t := 1403) rfl rfl rfl ic_eq (fun _ => kk h hh.2) (fun hc => absurd hh.1.symm hc)
end LAWB
