/-! the law's cases -/
section LAWC
variable {L : Nat} {xs : Nat → Int32} {f : Hp} {q : Nat} {Q : Option Value → Hp → Prop}
set_option maxRecDepth 100000 in
theorem law_10 (i : Inv f) (hq : q + 6 ≤ L) (hL : L ≤ 3072) (kk : ∀ h, Inv h → Wp L xs xm_La_law 1403 [.ref 1000000, .ref 0, .ref 400, .int (iN q)] [] h Q) : Wp L xs xm_La_law 584 [.ref 1000000, .ref 0, .ref 400, .int (iN q)] [] f Q := by
  refine w_aload_n (pc' := 585) rfl rfl rfl ?_
  refine w_aload_n (pc' := 586) rfl rfl rfl ?_
  refine w_iload_n (pc' := 587) rfl rfl rfl ?_
  refine w_iconst (pc' := 588) rfl rfl (v := 1) rfl ?_
  refine w_iadd (pc' := 589) rfl rfl ?_
  refine w_iaload4 (pc' := 590) (n := L) (i := q + 1) rfl rfl rfl (Nat.le_refl _) (iN_add q 1) (by omega) (by omega) ?_
  refine w_aload_n (pc' := 591) rfl rfl rfl ?_
  refine w_iload_n (pc' := 592) rfl rfl rfl ?_
  refine w_iconst (pc' := 593) rfl rfl (v := 2) rfl ?_
  refine w_iadd (pc' := 594) rfl rfl ?_
  refine w_iaload4 (pc' := 595) (n := L) (i := q + 2) rfl rfl rfl (Nat.le_refl _) (iN_add q 2) (by omega) (by omega) ?_
  refine w_cv (pc' := 598) (cm := xm_TP_quorum) (as := [.int (xoI xs 1000000 (q + 1)), .int (xoI xs 1000000 (q + 2))]) (a := 0) (rest := []) rfl rfl rfl (xa_TP_quorum (Nat.le_of_ble_eq_true rfl)) rfl rfl (CI.k (op_quorum i _ _) fun v g hg => ?_)
  show Wp L xs xm_La_law 598 [.ref 1000000, .ref 0, .ref 400, .int (iN q)] [.int v] g Q
  refine w_aload_n (pc' := 599) rfl rfl rfl ?_
  refine w_aload_n (pc' := 600) rfl rfl rfl ?_
  refine w_iload_n (pc' := 601) rfl rfl rfl ?_
  refine w_iconst (pc' := 602) rfl rfl (v := 1) rfl ?_
  refine w_iadd (pc' := 603) rfl rfl ?_
  refine w_iaload4 (pc' := 604) (n := L) (i := q + 1) rfl rfl rfl (Nat.le_refl _) (iN_add q 1) (by omega) (by omega) ?_
  refine w_aload_n (pc' := 605) rfl rfl rfl ?_
  refine w_iload_n (pc' := 606) rfl rfl rfl ?_
  refine w_iconst (pc' := 607) rfl rfl (v := 2) rfl ?_
  refine w_iadd (pc' := 608) rfl rfl ?_
  refine w_iaload4 (pc' := 609) (n := L) (i := q + 2) rfl rfl rfl (Nat.le_refl _) (iN_add q 2) (by omega) (by omega) ?_
  refine w_cv (pc' := 612) (cm := xm_Mo_quorum) (as := [.int (xoI xs 1000000 (q + 1)), .int (xoI xs 1000000 (q + 2))]) (a := 400) (rest := [.int v]) rfl rfl rfl (xa_Mo_quorum (Nat.le_of_ble_eq_true rfl)) rfl rfl (CI.k hg fun w h hh => ?_)
  show Wp L xs xm_La_law 612 [.ref 1000000, .ref 0, .ref 400, .int (iN q)] [.int w, .int v] h Q
  exact w_br2 (pc' := 615) (t := 1403) rfl rfl rfl ic_eq (fun _ => kk h hh.2) (fun hc => absurd hh.1.symm hc)
set_option maxRecDepth 100000 in
theorem law_11 (i : Inv f) (hq : q + 6 ≤ L) (hL : L ≤ 3072) (kk : ∀ h, Inv h → Wp L xs xm_La_law 1403 [.ref 1000000, .ref 0, .ref 400, .int (iN q)] [] h Q) : Wp L xs xm_La_law 617 [.ref 1000000, .ref 0, .ref 400, .int (iN q)] [] f Q := by
  refine w_aload_n (pc' := 618) rfl rfl rfl ?_
  refine w_aload_n (pc' := 619) rfl rfl rfl ?_
  refine w_iload_n (pc' := 620) rfl rfl rfl ?_
  refine w_iconst (pc' := 621) rfl rfl (v := 1) rfl ?_
  refine w_iadd (pc' := 622) rfl rfl ?_
  refine w_iaload4 (pc' := 623) (n := L) (i := q + 1) rfl rfl rfl (Nat.le_refl _) (iN_add q 1) (by omega) (by omega) ?_
  refine w_aload_n (pc' := 624) rfl rfl rfl ?_
  refine w_iload_n (pc' := 625) rfl rfl rfl ?_
  refine w_iconst (pc' := 626) rfl rfl (v := 2) rfl ?_
  refine w_iadd (pc' := 627) rfl rfl ?_
  refine w_iaload4 (pc' := 628) (n := L) (i := q + 2) rfl rfl rfl (Nat.le_refl _) (iN_add q 2) (by omega) (by omega) ?_
  refine w_cv (pc' := 631) (cm := xm_TP_tree) (as := [.int (xoI xs 1000000 (q + 1)), .int (xoI xs 1000000 (q + 2))]) (a := 0) (rest := []) rfl rfl rfl (xa_TP_tree (Nat.le_of_ble_eq_true rfl)) rfl rfl (CI.k (op_tree i _ _) fun v g hg => ?_)
  show Wp L xs xm_La_law 631 [.ref 1000000, .ref 0, .ref 400, .int (iN q)] [.int v] g Q
  refine w_aload_n (pc' := 632) rfl rfl rfl ?_
  refine w_aload_n (pc' := 633) rfl rfl rfl ?_
  refine w_iload_n (pc' := 634) rfl rfl rfl ?_
  refine w_iconst (pc' := 635) rfl rfl (v := 1) rfl ?_
  refine w_iadd (pc' := 636) rfl rfl ?_
  refine w_iaload4 (pc' := 637) (n := L) (i := q + 1) rfl rfl rfl (Nat.le_refl _) (iN_add q 1) (by omega) (by omega) ?_
  refine w_aload_n (pc' := 638) rfl rfl rfl ?_
  refine w_iload_n (pc' := 639) rfl rfl rfl ?_
  refine w_iconst (pc' := 640) rfl rfl (v := 2) rfl ?_
  refine w_iadd (pc' := 641) rfl rfl ?_
  refine w_iaload4 (pc' := 642) (n := L) (i := q + 2) rfl rfl rfl (Nat.le_refl _) (iN_add q 2) (by omega) (by omega) ?_
  refine w_cv (pc' := 645) (cm := xm_Mo_tree) (as := [.int (xoI xs 1000000 (q + 1)), .int (xoI xs 1000000 (q + 2))]) (a := 400) (rest := [.int v]) rfl rfl rfl (xa_Mo_tree (Nat.le_of_ble_eq_true rfl)) rfl rfl (CI.k hg fun w h hh => ?_)
  show Wp L xs xm_La_law 645 [.ref 1000000, .ref 0, .ref 400, .int (iN q)] [.int w, .int v] h Q
  exact w_br2 (pc' := 648) (t := 1403) rfl rfl rfl ic_eq (fun _ => kk h hh.2) (fun hc => absurd hh.1.symm hc)
set_option maxRecDepth 100000 in
theorem law_12 (i : Inv f) (hq : q + 6 ≤ L) (hL : L ≤ 3072) (kk : ∀ h, Inv h → Wp L xs xm_La_law 1403 [.ref 1000000, .ref 0, .ref 400, .int (iN q)] [] h Q) : Wp L xs xm_La_law 650 [.ref 1000000, .ref 0, .ref 400, .int (iN q)] [] f Q := by
  refine w_aload_n (pc' := 651) rfl rfl rfl ?_
  refine w_aload_n (pc' := 652) rfl rfl rfl ?_
  refine w_iload_n (pc' := 653) rfl rfl rfl ?_
  refine w_iconst (pc' := 654) rfl rfl (v := 1) rfl ?_
  refine w_iadd (pc' := 655) rfl rfl ?_
  refine w_iaload4 (pc' := 656) (n := L) (i := q + 1) rfl rfl rfl (Nat.le_refl _) (iN_add q 1) (by omega) (by omega) ?_
  refine w_aload_n (pc' := 657) rfl rfl rfl ?_
  refine w_iload_n (pc' := 658) rfl rfl rfl ?_
  refine w_iconst (pc' := 659) rfl rfl (v := 2) rfl ?_
  refine w_iadd (pc' := 660) rfl rfl ?_
  refine w_iaload4 (pc' := 661) (n := L) (i := q + 2) rfl rfl rfl (Nat.le_refl _) (iN_add q 2) (by omega) (by omega) ?_
  refine w_aload_n (pc' := 662) rfl rfl rfl ?_
  refine w_iload_n (pc' := 663) rfl rfl rfl ?_
  refine w_iconst (pc' := 664) rfl rfl (v := 3) rfl ?_
  refine w_iadd (pc' := 665) rfl rfl ?_
  refine w_iaload4 (pc' := 666) (n := L) (i := q + 3) rfl rfl rfl (Nat.le_refl _) (iN_add q 3) (by omega) (by omega) ?_
  refine w_cv (pc' := 669) (cm := xm_TP_differ) (as := [.int (xoI xs 1000000 (q + 1)), .int (xoI xs 1000000 (q + 2)), .int (xoI xs 1000000 (q + 3))]) (a := 0) (rest := []) rfl rfl rfl (xa_TP_differ (Nat.le_of_ble_eq_true rfl)) rfl rfl (CI.k (op_differ i _ _ _) fun v g hg => ?_)
  show Wp L xs xm_La_law 669 [.ref 1000000, .ref 0, .ref 400, .int (iN q)] [.int v] g Q
  refine w_aload_n (pc' := 670) rfl rfl rfl ?_
  refine w_aload_n (pc' := 671) rfl rfl rfl ?_
  refine w_iload_n (pc' := 672) rfl rfl rfl ?_
  refine w_iconst (pc' := 673) rfl rfl (v := 1) rfl ?_
  refine w_iadd (pc' := 674) rfl rfl ?_
  refine w_iaload4 (pc' := 675) (n := L) (i := q + 1) rfl rfl rfl (Nat.le_refl _) (iN_add q 1) (by omega) (by omega) ?_
  refine w_aload_n (pc' := 676) rfl rfl rfl ?_
  refine w_iload_n (pc' := 677) rfl rfl rfl ?_
  refine w_iconst (pc' := 678) rfl rfl (v := 2) rfl ?_
  refine w_iadd (pc' := 679) rfl rfl ?_
  refine w_iaload4 (pc' := 680) (n := L) (i := q + 2) rfl rfl rfl (Nat.le_refl _) (iN_add q 2) (by omega) (by omega) ?_
  refine w_aload_n (pc' := 681) rfl rfl rfl ?_
  refine w_iload_n (pc' := 682) rfl rfl rfl ?_
  refine w_iconst (pc' := 683) rfl rfl (v := 3) rfl ?_
  refine w_iadd (pc' := 684) rfl rfl ?_
  refine w_iaload4 (pc' := 685) (n := L) (i := q + 3) rfl rfl rfl (Nat.le_refl _) (iN_add q 3) (by omega) (by omega) ?_
  refine w_cv (pc' := 688) (cm := xm_Mo_differ) (as := [.int (xoI xs 1000000 (q + 1)), .int (xoI xs 1000000 (q + 2)), .int (xoI xs 1000000 (q + 3))]) (a := 400) (rest := [.int v]) rfl rfl rfl (xa_Mo_differ (Nat.le_of_ble_eq_true rfl)) rfl rfl (CI.k hg fun w h hh => ?_)
  show Wp L xs xm_La_law 688 [.ref 1000000, .ref 0, .ref 400, .int (iN q)] [.int w, .int v] h Q
  exact w_br2 (pc' := 691) (t := 1403) rfl rfl rfl ic_eq (fun _ => kk h hh.2) (fun hc => absurd hh.1.symm hc)
set_option maxRecDepth 100000 in
theorem law_13 (i : Inv f) (hq : q + 6 ≤ L) (hL : L ≤ 3072) (kk : ∀ h, Inv h → Wp L xs xm_La_law 1403 [.ref 1000000, .ref 0, .ref 400, .int (iN q)] [] h Q) : Wp L xs xm_La_law 693 [.ref 1000000, .ref 0, .ref 400, .int (iN q)] [] f Q := by
  by_cases hz : xoI xs 1000000 (q + 4) = 0
  · refine w_aload_n (pc' := 694) rfl rfl rfl ?_
    refine w_aload_n (pc' := 695) rfl rfl rfl ?_
    refine w_iload_n (pc' := 696) rfl rfl rfl ?_
    refine w_iconst (pc' := 697) rfl rfl (v := 1) rfl ?_
    refine w_iadd (pc' := 698) rfl rfl ?_
    refine w_iaload4 (pc' := 699) (n := L) (i := q + 1) rfl rfl rfl (Nat.le_refl _) (iN_add q 1) (by omega) (by omega) ?_
    refine w_aload_n (pc' := 700) rfl rfl rfl ?_
    refine w_iload_n (pc' := 701) rfl rfl rfl ?_
    refine w_iconst (pc' := 702) rfl rfl (v := 2) rfl ?_
    refine w_iadd (pc' := 703) rfl rfl ?_
    refine w_iaload4 (pc' := 704) (n := L) (i := q + 2) rfl rfl rfl (Nat.le_refl _) (iN_add q 2) (by omega) (by omega) ?_
    refine w_aload_n (pc' := 705) rfl rfl rfl ?_
    refine w_iload_n (pc' := 706) rfl rfl rfl ?_
    refine w_iconst (pc' := 707) rfl rfl (v := 3) rfl ?_
    refine w_iadd (pc' := 708) rfl rfl ?_
    refine w_iaload4 (pc' := 709) (n := L) (i := q + 3) rfl rfl rfl (Nat.le_refl _) (iN_add q 3) (by omega) (by omega) ?_
    refine w_aload_n (pc' := 710) rfl rfl rfl ?_
    refine w_iload_n (pc' := 711) rfl rfl rfl ?_
    refine w_iconst (pc' := 712) rfl rfl (v := 4) rfl ?_
    refine w_iadd (pc' := 713) rfl rfl ?_
    refine w_iaload4 (pc' := 714) (n := L) (i := q + 4) rfl rfl rfl (Nat.le_refl _) (iN_add q 4) (by omega) (by omega) ?_
    refine w_br (pc' := 717) (t := 721) rfl rfl rfl ic_eq (fun _ => ?_) (fun hc => absurd hz hc)
    refine w_iconst (pc' := 722) rfl rfl (v := 0) rfl ?_
    refine w_cv (pc' := 725) (cm := xm_TP_play) (as := [.int (xoI xs 1000000 (q + 1)), .int (xoI xs 1000000 (q + 2)), .int (xoI xs 1000000 (q + 3)), .int 0]) (a := 0) (rest := []) rfl rfl rfl (xa_TP_play (Nat.le_of_ble_eq_true rfl)) rfl rfl (CI.k (op_play i _ _ _ _) fun v g hg => ?_)
    show Wp L xs xm_La_law 725 [.ref 1000000, .ref 0, .ref 400, .int (iN q)] [.int v] g Q
    refine w_aload_n (pc' := 726) rfl rfl rfl ?_
    refine w_aload_n (pc' := 727) rfl rfl rfl ?_
    refine w_iload_n (pc' := 728) rfl rfl rfl ?_
    refine w_iconst (pc' := 729) rfl rfl (v := 1) rfl ?_
    refine w_iadd (pc' := 730) rfl rfl ?_
    refine w_iaload4 (pc' := 731) (n := L) (i := q + 1) rfl rfl rfl (Nat.le_refl _) (iN_add q 1) (by omega) (by omega) ?_
    refine w_aload_n (pc' := 732) rfl rfl rfl ?_
    refine w_iload_n (pc' := 733) rfl rfl rfl ?_
    refine w_iconst (pc' := 734) rfl rfl (v := 2) rfl ?_
    refine w_iadd (pc' := 735) rfl rfl ?_
    refine w_iaload4 (pc' := 736) (n := L) (i := q + 2) rfl rfl rfl (Nat.le_refl _) (iN_add q 2) (by omega) (by omega) ?_
    refine w_aload_n (pc' := 737) rfl rfl rfl ?_
    refine w_iload_n (pc' := 738) rfl rfl rfl ?_
    refine w_iconst (pc' := 739) rfl rfl (v := 3) rfl ?_
    refine w_iadd (pc' := 740) rfl rfl ?_
    refine w_iaload4 (pc' := 741) (n := L) (i := q + 3) rfl rfl rfl (Nat.le_refl _) (iN_add q 3) (by omega) (by omega) ?_
    refine w_aload_n (pc' := 742) rfl rfl rfl ?_
    refine w_iload_n (pc' := 743) rfl rfl rfl ?_
    refine w_iconst (pc' := 744) rfl rfl (v := 4) rfl ?_
    refine w_iadd (pc' := 745) rfl rfl ?_
    refine w_iaload4 (pc' := 746) (n := L) (i := q + 4) rfl rfl rfl (Nat.le_refl _) (iN_add q 4) (by omega) (by omega) ?_
    refine w_br (pc' := 749) (t := 753) rfl rfl rfl ic_eq (fun _ => ?_) (fun hc => absurd hz hc)
    refine w_iconst (pc' := 754) rfl rfl (v := 0) rfl ?_
    refine w_cv (pc' := 757) (cm := xm_Mo_play) (as := [.int (xoI xs 1000000 (q + 1)), .int (xoI xs 1000000 (q + 2)), .int (xoI xs 1000000 (q + 3)), .int 0]) (a := 400) (rest := [.int v]) rfl rfl rfl (xa_Mo_play (Nat.le_of_ble_eq_true rfl)) rfl rfl (CI.k hg fun w h hh => ?_)
    show Wp L xs xm_La_law 757 [.ref 1000000, .ref 0, .ref 400, .int (iN q)] [.int w, .int v] h Q
    exact w_br2 (pc' := 760) (t := 1403) rfl rfl rfl ic_eq (fun _ => kk h hh.2) (fun hc => absurd hh.1.symm hc)
  · refine w_aload_n (pc' := 694) rfl rfl rfl ?_
    refine w_aload_n (pc' := 695) rfl rfl rfl ?_
    refine w_iload_n (pc' := 696) rfl rfl rfl ?_
    refine w_iconst (pc' := 697) rfl rfl (v := 1) rfl ?_
    refine w_iadd (pc' := 698) rfl rfl ?_
    refine w_iaload4 (pc' := 699) (n := L) (i := q + 1) rfl rfl rfl (Nat.le_refl _) (iN_add q 1) (by omega) (by omega) ?_
    refine w_aload_n (pc' := 700) rfl rfl rfl ?_
    refine w_iload_n (pc' := 701) rfl rfl rfl ?_
    refine w_iconst (pc' := 702) rfl rfl (v := 2) rfl ?_
    refine w_iadd (pc' := 703) rfl rfl ?_
    refine w_iaload4 (pc' := 704) (n := L) (i := q + 2) rfl rfl rfl (Nat.le_refl _) (iN_add q 2) (by omega) (by omega) ?_
    refine w_aload_n (pc' := 705) rfl rfl rfl ?_
    refine w_iload_n (pc' := 706) rfl rfl rfl ?_
    refine w_iconst (pc' := 707) rfl rfl (v := 3) rfl ?_
    refine w_iadd (pc' := 708) rfl rfl ?_
    refine w_iaload4 (pc' := 709) (n := L) (i := q + 3) rfl rfl rfl (Nat.le_refl _) (iN_add q 3) (by omega) (by omega) ?_
    refine w_aload_n (pc' := 710) rfl rfl rfl ?_
    refine w_iload_n (pc' := 711) rfl rfl rfl ?_
    refine w_iconst (pc' := 712) rfl rfl (v := 4) rfl ?_
    refine w_iadd (pc' := 713) rfl rfl ?_
    refine w_iaload4 (pc' := 714) (n := L) (i := q + 4) rfl rfl rfl (Nat.le_refl _) (iN_add q 4) (by omega) (by omega) ?_
    refine w_br (pc' := 717) (t := 721) rfl rfl rfl ic_eq (fun hc => absurd hc hz) (fun _ => ?_)
    refine w_iconst (pc' := 718) rfl rfl (v := 1) rfl ?_
    refine w_goto (pc' := 722) rfl rfl ?_
    refine w_cv (pc' := 725) (cm := xm_TP_play) (as := [.int (xoI xs 1000000 (q + 1)), .int (xoI xs 1000000 (q + 2)), .int (xoI xs 1000000 (q + 3)), .int 1]) (a := 0) (rest := []) rfl rfl rfl (xa_TP_play (Nat.le_of_ble_eq_true rfl)) rfl rfl (CI.k (op_play i _ _ _ _) fun v g hg => ?_)
    show Wp L xs xm_La_law 725 [.ref 1000000, .ref 0, .ref 400, .int (iN q)] [.int v] g Q
    refine w_aload_n (pc' := 726) rfl rfl rfl ?_
    refine w_aload_n (pc' := 727) rfl rfl rfl ?_
    refine w_iload_n (pc' := 728) rfl rfl rfl ?_
    refine w_iconst (pc' := 729) rfl rfl (v := 1) rfl ?_
    refine w_iadd (pc' := 730) rfl rfl ?_
    refine w_iaload4 (pc' := 731) (n := L) (i := q + 1) rfl rfl rfl (Nat.le_refl _) (iN_add q 1) (by omega) (by omega) ?_
    refine w_aload_n (pc' := 732) rfl rfl rfl ?_
    refine w_iload_n (pc' := 733) rfl rfl rfl ?_
    refine w_iconst (pc' := 734) rfl rfl (v := 2) rfl ?_
    refine w_iadd (pc' := 735) rfl rfl ?_
    refine w_iaload4 (pc' := 736) (n := L) (i := q + 2) rfl rfl rfl (Nat.le_refl _) (iN_add q 2) (by omega) (by omega) ?_
    refine w_aload_n (pc' := 737) rfl rfl rfl ?_
    refine w_iload_n (pc' := 738) rfl rfl rfl ?_
    refine w_iconst (pc' := 739) rfl rfl (v := 3) rfl ?_
    refine w_iadd (pc' := 740) rfl rfl ?_
    refine w_iaload4 (pc' := 741) (n := L) (i := q + 3) rfl rfl rfl (Nat.le_refl _) (iN_add q 3) (by omega) (by omega) ?_
    refine w_aload_n (pc' := 742) rfl rfl rfl ?_
    refine w_iload_n (pc' := 743) rfl rfl rfl ?_
    refine w_iconst (pc' := 744) rfl rfl (v := 4) rfl ?_
    refine w_iadd (pc' := 745) rfl rfl ?_
    refine w_iaload4 (pc' := 746) (n := L) (i := q + 4) rfl rfl rfl (Nat.le_refl _) (iN_add q 4) (by omega) (by omega) ?_
    refine w_br (pc' := 749) (t := 753) rfl rfl rfl ic_eq (fun hc => absurd hc hz) (fun _ => ?_)
    refine w_iconst (pc' := 750) rfl rfl (v := 1) rfl ?_
    refine w_goto (pc' := 754) rfl rfl ?_
    refine w_cv (pc' := 757) (cm := xm_Mo_play) (as := [.int (xoI xs 1000000 (q + 1)), .int (xoI xs 1000000 (q + 2)), .int (xoI xs 1000000 (q + 3)), .int 1]) (a := 400) (rest := [.int v]) rfl rfl rfl (xa_Mo_play (Nat.le_of_ble_eq_true rfl)) rfl rfl (CI.k hg fun w h hh => ?_)
    show Wp L xs xm_La_law 757 [.ref 1000000, .ref 0, .ref 400, .int (iN q)] [.int w, .int v] h Q
    exact w_br2 (pc' := 760) (t := 1403) rfl rfl rfl ic_eq (fun _ => kk h hh.2) (fun hc => absurd hh.1.symm hc)
set_option maxRecDepth 100000 in
theorem law_14 (i : Inv f) (hq : q + 6 ≤ L) (hL : L ≤ 3072) (kk : ∀ h, Inv h → Wp L xs xm_La_law 1403 [.ref 1000000, .ref 0, .ref 400, .int (iN q)] [] h Q) : Wp L xs xm_La_law 762 [.ref 1000000, .ref 0, .ref 400, .int (iN q)] [] f Q := by
  refine w_aload_n (pc' := 763) rfl rfl rfl ?_
  refine w_aload_n (pc' := 764) rfl rfl rfl ?_
  refine w_iload_n (pc' := 765) rfl rfl rfl ?_
  refine w_iconst (pc' := 766) rfl rfl (v := 1) rfl ?_
  refine w_iadd (pc' := 767) rfl rfl ?_
  refine w_iaload4 (pc' := 768) (n := L) (i := q + 1) rfl rfl rfl (Nat.le_refl _) (iN_add q 1) (by omega) (by omega) ?_
  refine w_aload_n (pc' := 769) rfl rfl rfl ?_
  refine w_iload_n (pc' := 770) rfl rfl rfl ?_
  refine w_iconst (pc' := 771) rfl rfl (v := 2) rfl ?_
  refine w_iadd (pc' := 772) rfl rfl ?_
  refine w_iaload4 (pc' := 773) (n := L) (i := q + 2) rfl rfl rfl (Nat.le_refl _) (iN_add q 2) (by omega) (by omega) ?_
  refine w_aload_n (pc' := 774) rfl rfl rfl ?_
  refine w_iload_n (pc' := 775) rfl rfl rfl ?_
  refine w_iconst (pc' := 776) rfl rfl (v := 3) rfl ?_
  refine w_iadd (pc' := 777) rfl rfl ?_
  refine w_iaload4 (pc' := 778) (n := L) (i := q + 3) rfl rfl rfl (Nat.le_refl _) (iN_add q 3) (by omega) (by omega) ?_
  refine w_cv (pc' := 781) (cm := xm_TP_reply) (as := [.int (xoI xs 1000000 (q + 1)), .int (xoI xs 1000000 (q + 2)), .int (xoI xs 1000000 (q + 3))]) (a := 0) (rest := []) rfl rfl rfl (xa_TP_reply (Nat.le_of_ble_eq_true rfl)) rfl rfl (CI.k (op_reply i _ _ _) fun v g hg => ?_)
  show Wp L xs xm_La_law 781 [.ref 1000000, .ref 0, .ref 400, .int (iN q)] [.int v] g Q
  refine w_aload_n (pc' := 782) rfl rfl rfl ?_
  refine w_aload_n (pc' := 783) rfl rfl rfl ?_
  refine w_iload_n (pc' := 784) rfl rfl rfl ?_
  refine w_iconst (pc' := 785) rfl rfl (v := 1) rfl ?_
  refine w_iadd (pc' := 786) rfl rfl ?_
  refine w_iaload4 (pc' := 787) (n := L) (i := q + 1) rfl rfl rfl (Nat.le_refl _) (iN_add q 1) (by omega) (by omega) ?_
  refine w_aload_n (pc' := 788) rfl rfl rfl ?_
  refine w_iload_n (pc' := 789) rfl rfl rfl ?_
  refine w_iconst (pc' := 790) rfl rfl (v := 2) rfl ?_
  refine w_iadd (pc' := 791) rfl rfl ?_
  refine w_iaload4 (pc' := 792) (n := L) (i := q + 2) rfl rfl rfl (Nat.le_refl _) (iN_add q 2) (by omega) (by omega) ?_
  refine w_aload_n (pc' := 793) rfl rfl rfl ?_
  refine w_iload_n (pc' := 794) rfl rfl rfl ?_
  refine w_iconst (pc' := 795) rfl rfl (v := 3) rfl ?_
  refine w_iadd (pc' := 796) rfl rfl ?_
  refine w_iaload4 (pc' := 797) (n := L) (i := q + 3) rfl rfl rfl (Nat.le_refl _) (iN_add q 3) (by omega) (by omega) ?_
  refine w_cv (pc' := 800) (cm := xm_Mo_reply) (as := [.int (xoI xs 1000000 (q + 1)), .int (xoI xs 1000000 (q + 2)), .int (xoI xs 1000000 (q + 3))]) (a := 400) (rest := [.int v]) rfl rfl rfl (xa_Mo_reply (Nat.le_of_ble_eq_true rfl)) rfl rfl (CI.k hg fun w h hh => ?_)
  show Wp L xs xm_La_law 800 [.ref 1000000, .ref 0, .ref 400, .int (iN q)] [.int w, .int v] h Q
  exact w_br2 (pc' := 803) (t := 1403) rfl rfl rfl ic_eq (fun _ => kk h hh.2) (fun hc => absurd hh.1.symm hc)
end LAWC
