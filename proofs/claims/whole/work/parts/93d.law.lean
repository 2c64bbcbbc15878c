/-! the law's cases -/
section LAWD
variable {L : Nat} {xs : Nat → Int32} {f : Hp} {q : Nat} {Q : Option Value → Hp → Prop}
set_option maxRecDepth 100000 in
theorem law_15 (i : Inv f) (hq : q + 6 ≤ L) (hL : L ≤ 3072) (kk : ∀ h, Inv h → Wp L xs xm_La_law 1403 [.ref 1000000, .ref 0, .ref 400, .int (iN q)] [] h Q) : Wp L xs xm_La_law 805 [.ref 1000000, .ref 0, .ref 400, .int (iN q)] [] f Q := by
  refine w_aload_n (pc' := 806) rfl rfl rfl ?_
  refine w_aload_n (pc' := 807) rfl rfl rfl ?_
  refine w_iload_n (pc' := 808) rfl rfl rfl ?_
  refine w_iconst (pc' := 809) rfl rfl (v := 1) rfl ?_
  refine w_iadd (pc' := 810) rfl rfl ?_
  refine w_iaload4 (pc' := 811) (n := L) (i := q + 1) rfl rfl rfl (Nat.le_refl _) (iN_add q 1) (by omega) (by omega) ?_
  refine w_aload_n (pc' := 812) rfl rfl rfl ?_
  refine w_iload_n (pc' := 813) rfl rfl rfl ?_
  refine w_iconst (pc' := 814) rfl rfl (v := 2) rfl ?_
  refine w_iadd (pc' := 815) rfl rfl ?_
  refine w_iaload4 (pc' := 816) (n := L) (i := q + 2) rfl rfl rfl (Nat.le_refl _) (iN_add q 2) (by omega) (by omega) ?_
  refine w_aload_n (pc' := 817) rfl rfl rfl ?_
  refine w_iload_n (pc' := 818) rfl rfl rfl ?_
  refine w_iconst (pc' := 819) rfl rfl (v := 3) rfl ?_
  refine w_iadd (pc' := 820) rfl rfl ?_
  refine w_iaload4 (pc' := 821) (n := L) (i := q + 3) rfl rfl rfl (Nat.le_refl _) (iN_add q 3) (by omega) (by omega) ?_
  refine w_cv (pc' := 824) (cm := xm_TP_match) (as := [.int (xoI xs 1000000 (q + 1)), .int (xoI xs 1000000 (q + 2)), .int (xoI xs 1000000 (q + 3))]) (a := 0) (rest := []) rfl rfl rfl (xa_TP_match (Nat.le_of_ble_eq_true rfl)) rfl rfl (CI.k (op_match i _ _ _) fun v g hg => ?_)
  show Wp L xs xm_La_law 824 [.ref 1000000, .ref 0, .ref 400, .int (iN q)] [.int v] g Q
  refine w_aload_n (pc' := 825) rfl rfl rfl ?_
  refine w_aload_n (pc' := 826) rfl rfl rfl ?_
  refine w_iload_n (pc' := 827) rfl rfl rfl ?_
  refine w_iconst (pc' := 828) rfl rfl (v := 1) rfl ?_
  refine w_iadd (pc' := 829) rfl rfl ?_
  refine w_iaload4 (pc' := 830) (n := L) (i := q + 1) rfl rfl rfl (Nat.le_refl _) (iN_add q 1) (by omega) (by omega) ?_
  refine w_aload_n (pc' := 831) rfl rfl rfl ?_
  refine w_iload_n (pc' := 832) rfl rfl rfl ?_
  refine w_iconst (pc' := 833) rfl rfl (v := 2) rfl ?_
  refine w_iadd (pc' := 834) rfl rfl ?_
  refine w_iaload4 (pc' := 835) (n := L) (i := q + 2) rfl rfl rfl (Nat.le_refl _) (iN_add q 2) (by omega) (by omega) ?_
  refine w_aload_n (pc' := 836) rfl rfl rfl ?_
  refine w_iload_n (pc' := 837) rfl rfl rfl ?_
  refine w_iconst (pc' := 838) rfl rfl (v := 3) rfl ?_
  refine w_iadd (pc' := 839) rfl rfl ?_
  refine w_iaload4 (pc' := 840) (n := L) (i := q + 3) rfl rfl rfl (Nat.le_refl _) (iN_add q 3) (by omega) (by omega) ?_
  refine w_cv (pc' := 843) (cm := xm_Mo_match) (as := [.int (xoI xs 1000000 (q + 1)), .int (xoI xs 1000000 (q + 2)), .int (xoI xs 1000000 (q + 3))]) (a := 400) (rest := [.int v]) rfl rfl rfl (xa_Mo_match (Nat.le_of_ble_eq_true rfl)) rfl rfl (CI.k hg fun w h hh => ?_)
  show Wp L xs xm_La_law 843 [.ref 1000000, .ref 0, .ref 400, .int (iN q)] [.int w, .int v] h Q
  exact w_br2 (pc' := 846) (t := 1403) rfl rfl rfl ic_eq (fun _ => kk h hh.2) (fun hc => absurd hh.1.symm hc)
set_option maxRecDepth 100000 in
theorem law_16 (i : Inv f) (hq : q + 6 ≤ L) (hL : L ≤ 3072) (kk : ∀ h, Inv h → Wp L xs xm_La_law 1403 [.ref 1000000, .ref 0, .ref 400, .int (iN q)] [] h Q) : Wp L xs xm_La_law 848 [.ref 1000000, .ref 0, .ref 400, .int (iN q)] [] f Q := by
  refine w_aload_n (pc' := 849) rfl rfl rfl ?_
  refine w_aload_n (pc' := 850) rfl rfl rfl ?_
  refine w_iload_n (pc' := 851) rfl rfl rfl ?_
  refine w_iconst (pc' := 852) rfl rfl (v := 1) rfl ?_
  refine w_iadd (pc' := 853) rfl rfl ?_
  refine w_iaload4 (pc' := 854) (n := L) (i := q + 1) rfl rfl rfl (Nat.le_refl _) (iN_add q 1) (by omega) (by omega) ?_
  refine w_aload_n (pc' := 855) rfl rfl rfl ?_
  refine w_iload_n (pc' := 856) rfl rfl rfl ?_
  refine w_iconst (pc' := 857) rfl rfl (v := 2) rfl ?_
  refine w_iadd (pc' := 858) rfl rfl ?_
  refine w_iaload4 (pc' := 859) (n := L) (i := q + 2) rfl rfl rfl (Nat.le_refl _) (iN_add q 2) (by omega) (by omega) ?_
  refine w_aload_n (pc' := 860) rfl rfl rfl ?_
  refine w_iload_n (pc' := 861) rfl rfl rfl ?_
  refine w_iconst (pc' := 862) rfl rfl (v := 3) rfl ?_
  refine w_iadd (pc' := 863) rfl rfl ?_
  refine w_iaload4 (pc' := 864) (n := L) (i := q + 3) rfl rfl rfl (Nat.le_refl _) (iN_add q 3) (by omega) (by omega) ?_
  refine w_cv (pc' := 867) (cm := xm_TP_suspects) (as := [.int (xoI xs 1000000 (q + 1)), .int (xoI xs 1000000 (q + 2)), .int (xoI xs 1000000 (q + 3))]) (a := 0) (rest := []) rfl rfl rfl (xa_TP_suspects (Nat.le_of_ble_eq_true rfl)) rfl rfl (CI.k (op_suspects i _ _ _) fun v g hg => ?_)
  show Wp L xs xm_La_law 867 [.ref 1000000, .ref 0, .ref 400, .int (iN q)] [.int v] g Q
  refine w_aload_n (pc' := 868) rfl rfl rfl ?_
  refine w_aload_n (pc' := 869) rfl rfl rfl ?_
  refine w_iload_n (pc' := 870) rfl rfl rfl ?_
  refine w_iconst (pc' := 871) rfl rfl (v := 1) rfl ?_
  refine w_iadd (pc' := 872) rfl rfl ?_
  refine w_iaload4 (pc' := 873) (n := L) (i := q + 1) rfl rfl rfl (Nat.le_refl _) (iN_add q 1) (by omega) (by omega) ?_
  refine w_aload_n (pc' := 874) rfl rfl rfl ?_
  refine w_iload_n (pc' := 875) rfl rfl rfl ?_
  refine w_iconst (pc' := 876) rfl rfl (v := 2) rfl ?_
  refine w_iadd (pc' := 877) rfl rfl ?_
  refine w_iaload4 (pc' := 878) (n := L) (i := q + 2) rfl rfl rfl (Nat.le_refl _) (iN_add q 2) (by omega) (by omega) ?_
  refine w_aload_n (pc' := 879) rfl rfl rfl ?_
  refine w_iload_n (pc' := 880) rfl rfl rfl ?_
  refine w_iconst (pc' := 881) rfl rfl (v := 3) rfl ?_
  refine w_iadd (pc' := 882) rfl rfl ?_
  refine w_iaload4 (pc' := 883) (n := L) (i := q + 3) rfl rfl rfl (Nat.le_refl _) (iN_add q 3) (by omega) (by omega) ?_
  refine w_cv (pc' := 886) (cm := xm_Mo_suspects) (as := [.int (xoI xs 1000000 (q + 1)), .int (xoI xs 1000000 (q + 2)), .int (xoI xs 1000000 (q + 3))]) (a := 400) (rest := [.int v]) rfl rfl rfl (xa_Mo_suspects (Nat.le_of_ble_eq_true rfl)) rfl rfl (CI.k hg fun w h hh => ?_)
  show Wp L xs xm_La_law 886 [.ref 1000000, .ref 0, .ref 400, .int (iN q)] [.int w, .int v] h Q
  exact w_br2 (pc' := 889) (t := 1403) rfl rfl rfl ic_eq (fun _ => kk h hh.2) (fun hc => absurd hh.1.symm hc)
set_option maxRecDepth 100000 in
theorem law_17 (i : Inv f) (hq : q + 6 ≤ L) (hL : L ≤ 3072) (kk : ∀ h, Inv h → Wp L xs xm_La_law 1403 [.ref 1000000, .ref 0, .ref 400, .int (iN q)] [] h Q) : Wp L xs xm_La_law 891 [.ref 1000000, .ref 0, .ref 400, .int (iN q)] [] f Q := by
  refine w_aload_n (pc' := 892) rfl rfl rfl ?_
  refine w_aload_n (pc' := 893) rfl rfl rfl ?_
  refine w_iload_n (pc' := 894) rfl rfl rfl ?_
  refine w_iconst (pc' := 895) rfl rfl (v := 1) rfl ?_
  refine w_iadd (pc' := 896) rfl rfl ?_
  refine w_iaload4 (pc' := 897) (n := L) (i := q + 1) rfl rfl rfl (Nat.le_refl _) (iN_add q 1) (by omega) (by omega) ?_
  refine w_aload_n (pc' := 898) rfl rfl rfl ?_
  refine w_iload_n (pc' := 899) rfl rfl rfl ?_
  refine w_iconst (pc' := 900) rfl rfl (v := 2) rfl ?_
  refine w_iadd (pc' := 901) rfl rfl ?_
  refine w_iaload4 (pc' := 902) (n := L) (i := q + 2) rfl rfl rfl (Nat.le_refl _) (iN_add q 2) (by omega) (by omega) ?_
  refine w_aload_n (pc' := 903) rfl rfl rfl ?_
  refine w_iload_n (pc' := 904) rfl rfl rfl ?_
  refine w_iconst (pc' := 905) rfl rfl (v := 3) rfl ?_
  refine w_iadd (pc' := 906) rfl rfl ?_
  refine w_iaload4 (pc' := 907) (n := L) (i := q + 3) rfl rfl rfl (Nat.le_refl _) (iN_add q 3) (by omega) (by omega) ?_
  refine w_aload_n (pc' := 908) rfl rfl rfl ?_
  refine w_iload_n (pc' := 909) rfl rfl rfl ?_
  refine w_iconst (pc' := 910) rfl rfl (v := 4) rfl ?_
  refine w_iadd (pc' := 911) rfl rfl ?_
  refine w_iaload4 (pc' := 912) (n := L) (i := q + 4) rfl rfl rfl (Nat.le_refl _) (iN_add q 4) (by omega) (by omega) ?_
  refine w_aload_n (pc' := 913) rfl rfl rfl ?_
  refine w_iload_n (pc' := 914) rfl rfl rfl ?_
  refine w_iconst (pc' := 915) rfl rfl (v := 5) rfl ?_
  refine w_iadd (pc' := 916) rfl rfl ?_
  refine w_iaload4 (pc' := 917) (n := L) (i := q + 5) rfl rfl rfl (Nat.le_refl _) (iN_add q 5) (by omega) (by omega) ?_
  refine w_cv (pc' := 920) (cm := xm_TP_drawn) (as := [.int (xoI xs 1000000 (q + 1)), .int (xoI xs 1000000 (q + 2)), .int (xoI xs 1000000 (q + 3)), .int (xoI xs 1000000 (q + 4)), .int (xoI xs 1000000 (q + 5))]) (a := 0) (rest := []) rfl rfl rfl (xa_TP_drawn (Nat.le_of_ble_eq_true rfl)) rfl rfl (CI.k (op_drawn i _ _ _ _ _) fun v g hg => ?_)
  show Wp L xs xm_La_law 920 [.ref 1000000, .ref 0, .ref 400, .int (iN q)] [.int v] g Q
  refine w_aload_n (pc' := 921) rfl rfl rfl ?_
  refine w_aload_n (pc' := 922) rfl rfl rfl ?_
  refine w_iload_n (pc' := 923) rfl rfl rfl ?_
  refine w_iconst (pc' := 924) rfl rfl (v := 1) rfl ?_
  refine w_iadd (pc' := 925) rfl rfl ?_
  refine w_iaload4 (pc' := 926) (n := L) (i := q + 1) rfl rfl rfl (Nat.le_refl _) (iN_add q 1) (by omega) (by omega) ?_
  refine w_aload_n (pc' := 927) rfl rfl rfl ?_
  refine w_iload_n (pc' := 928) rfl rfl rfl ?_
  refine w_iconst (pc' := 929) rfl rfl (v := 2) rfl ?_
  refine w_iadd (pc' := 930) rfl rfl ?_
  refine w_iaload4 (pc' := 931) (n := L) (i := q + 2) rfl rfl rfl (Nat.le_refl _) (iN_add q 2) (by omega) (by omega) ?_
  refine w_aload_n (pc' := 932) rfl rfl rfl ?_
  refine w_iload_n (pc' := 933) rfl rfl rfl ?_
  refine w_iconst (pc' := 934) rfl rfl (v := 3) rfl ?_
  refine w_iadd (pc' := 935) rfl rfl ?_
  refine w_iaload4 (pc' := 936) (n := L) (i := q + 3) rfl rfl rfl (Nat.le_refl _) (iN_add q 3) (by omega) (by omega) ?_
  refine w_aload_n (pc' := 937) rfl rfl rfl ?_
  refine w_iload_n (pc' := 938) rfl rfl rfl ?_
  refine w_iconst (pc' := 939) rfl rfl (v := 4) rfl ?_
  refine w_iadd (pc' := 940) rfl rfl ?_
  refine w_iaload4 (pc' := 941) (n := L) (i := q + 4) rfl rfl rfl (Nat.le_refl _) (iN_add q 4) (by omega) (by omega) ?_
  refine w_aload_n (pc' := 942) rfl rfl rfl ?_
  refine w_iload_n (pc' := 943) rfl rfl rfl ?_
  refine w_iconst (pc' := 944) rfl rfl (v := 5) rfl ?_
  refine w_iadd (pc' := 945) rfl rfl ?_
  refine w_iaload4 (pc' := 946) (n := L) (i := q + 5) rfl rfl rfl (Nat.le_refl _) (iN_add q 5) (by omega) (by omega) ?_
  refine w_cv (pc' := 949) (cm := xm_Mo_drawn) (as := [.int (xoI xs 1000000 (q + 1)), .int (xoI xs 1000000 (q + 2)), .int (xoI xs 1000000 (q + 3)), .int (xoI xs 1000000 (q + 4)), .int (xoI xs 1000000 (q + 5))]) (a := 400) (rest := [.int v]) rfl rfl rfl (xa_Mo_drawn (Nat.le_of_ble_eq_true rfl)) rfl rfl (CI.k hg fun w h hh => ?_)
  show Wp L xs xm_La_law 949 [.ref 1000000, .ref 0, .ref 400, .int (iN q)] [.int w, .int v] h Q
  exact w_br2 (pc' := 952) (t := 1403) rfl rfl rfl ic_eq (fun _ => kk h hh.2) (fun hc => absurd hh.1.symm hc)
set_option maxRecDepth 100000 in
theorem law_18 (i : Inv f) (hq : q + 6 ≤ L) (hL : L ≤ 3072) (kk : ∀ h, Inv h → Wp L xs xm_La_law 1403 [.ref 1000000, .ref 0, .ref 400, .int (iN q)] [] h Q) : Wp L xs xm_La_law 954 [.ref 1000000, .ref 0, .ref 400, .int (iN q)] [] f Q := by
  refine w_aload_n (pc' := 955) rfl rfl rfl ?_
  refine w_aload_n (pc' := 956) rfl rfl rfl ?_
  refine w_iload_n (pc' := 957) rfl rfl rfl ?_
  refine w_iconst (pc' := 958) rfl rfl (v := 1) rfl ?_
  refine w_iadd (pc' := 959) rfl rfl ?_
  refine w_iaload4 (pc' := 960) (n := L) (i := q + 1) rfl rfl rfl (Nat.le_refl _) (iN_add q 1) (by omega) (by omega) ?_
  refine w_aload_n (pc' := 961) rfl rfl rfl ?_
  refine w_iload_n (pc' := 962) rfl rfl rfl ?_
  refine w_iconst (pc' := 963) rfl rfl (v := 2) rfl ?_
  refine w_iadd (pc' := 964) rfl rfl ?_
  refine w_iaload4 (pc' := 965) (n := L) (i := q + 2) rfl rfl rfl (Nat.le_refl _) (iN_add q 2) (by omega) (by omega) ?_
  refine w_aload_n (pc' := 966) rfl rfl rfl ?_
  refine w_iload_n (pc' := 967) rfl rfl rfl ?_
  refine w_iconst (pc' := 968) rfl rfl (v := 3) rfl ?_
  refine w_iadd (pc' := 969) rfl rfl ?_
  refine w_iaload4 (pc' := 970) (n := L) (i := q + 3) rfl rfl rfl (Nat.le_refl _) (iN_add q 3) (by omega) (by omega) ?_
  refine w_aload_n (pc' := 971) rfl rfl rfl ?_
  refine w_iload_n (pc' := 972) rfl rfl rfl ?_
  refine w_iconst (pc' := 973) rfl rfl (v := 4) rfl ?_
  refine w_iadd (pc' := 974) rfl rfl ?_
  refine w_iaload4 (pc' := 975) (n := L) (i := q + 4) rfl rfl rfl (Nat.le_refl _) (iN_add q 4) (by omega) (by omega) ?_
  refine w_aload_n (pc' := 976) rfl rfl rfl ?_
  refine w_iload_n (pc' := 977) rfl rfl rfl ?_
  refine w_iconst (pc' := 978) rfl rfl (v := 5) rfl ?_
  refine w_iadd (pc' := 979) rfl rfl ?_
  refine w_iaload4 (pc' := 980) (n := L) (i := q + 5) rfl rfl rfl (Nat.le_refl _) (iN_add q 5) (by omega) (by omega) ?_
  refine w_cv (pc' := 983) (cm := xm_TP_merged) (as := [.int (xoI xs 1000000 (q + 1)), .int (xoI xs 1000000 (q + 2)), .int (xoI xs 1000000 (q + 3)), .int (xoI xs 1000000 (q + 4)), .int (xoI xs 1000000 (q + 5))]) (a := 0) (rest := []) rfl rfl rfl (xa_TP_merged (Nat.le_of_ble_eq_true rfl)) rfl rfl (CI.k (op_merged i _ _ _ _ _) fun v g hg => ?_)
  show Wp L xs xm_La_law 983 [.ref 1000000, .ref 0, .ref 400, .int (iN q)] [.int v] g Q
  refine w_aload_n (pc' := 984) rfl rfl rfl ?_
  refine w_aload_n (pc' := 985) rfl rfl rfl ?_
  refine w_iload_n (pc' := 986) rfl rfl rfl ?_
  refine w_iconst (pc' := 987) rfl rfl (v := 1) rfl ?_
  refine w_iadd (pc' := 988) rfl rfl ?_
  refine w_iaload4 (pc' := 989) (n := L) (i := q + 1) rfl rfl rfl (Nat.le_refl _) (iN_add q 1) (by omega) (by omega) ?_
  refine w_aload_n (pc' := 990) rfl rfl rfl ?_
  refine w_iload_n (pc' := 991) rfl rfl rfl ?_
  refine w_iconst (pc' := 992) rfl rfl (v := 2) rfl ?_
  refine w_iadd (pc' := 993) rfl rfl ?_
  refine w_iaload4 (pc' := 994) (n := L) (i := q + 2) rfl rfl rfl (Nat.le_refl _) (iN_add q 2) (by omega) (by omega) ?_
  refine w_aload_n (pc' := 995) rfl rfl rfl ?_
  refine w_iload_n (pc' := 996) rfl rfl rfl ?_
  refine w_iconst (pc' := 997) rfl rfl (v := 3) rfl ?_
  refine w_iadd (pc' := 998) rfl rfl ?_
  refine w_iaload4 (pc' := 999) (n := L) (i := q + 3) rfl rfl rfl (Nat.le_refl _) (iN_add q 3) (by omega) (by omega) ?_
  refine w_aload_n (pc' := 1000) rfl rfl rfl ?_
  refine w_iload_n (pc' := 1001) rfl rfl rfl ?_
  refine w_iconst (pc' := 1002) rfl rfl (v := 4) rfl ?_
  refine w_iadd (pc' := 1003) rfl rfl ?_
  refine w_iaload4 (pc' := 1004) (n := L) (i := q + 4) rfl rfl rfl (Nat.le_refl _) (iN_add q 4) (by omega) (by omega) ?_
  refine w_aload_n (pc' := 1005) rfl rfl rfl ?_
  refine w_iload_n (pc' := 1006) rfl rfl rfl ?_
  refine w_iconst (pc' := 1007) rfl rfl (v := 5) rfl ?_
  refine w_iadd (pc' := 1008) rfl rfl ?_
  refine w_iaload4 (pc' := 1009) (n := L) (i := q + 5) rfl rfl rfl (Nat.le_refl _) (iN_add q 5) (by omega) (by omega) ?_
  refine w_cv (pc' := 1012) (cm := xm_Mo_merged) (as := [.int (xoI xs 1000000 (q + 1)), .int (xoI xs 1000000 (q + 2)), .int (xoI xs 1000000 (q + 3)), .int (xoI xs 1000000 (q + 4)), .int (xoI xs 1000000 (q + 5))]) (a := 400) (rest := [.int v]) rfl rfl rfl (xa_Mo_merged (Nat.le_of_ble_eq_true rfl)) rfl rfl (CI.k hg fun w h hh => ?_)
  show Wp L xs xm_La_law 1012 [.ref 1000000, .ref 0, .ref 400, .int (iN q)] [.int w, .int v] h Q
  exact w_br2 (pc' := 1015) (t := 1403) rfl rfl rfl ic_eq (fun _ => kk h hh.2) (fun hc => absurd hh.1.symm hc)
set_option maxRecDepth 100000 in
theorem law_19 (i : Inv f) (hq : q + 6 ≤ L) (hL : L ≤ 3072) (kk : ∀ h, Inv h → Wp L xs xm_La_law 1403 [.ref 1000000, .ref 0, .ref 400, .int (iN q)] [] h Q) : Wp L xs xm_La_law 1017 [.ref 1000000, .ref 0, .ref 400, .int (iN q)] [] f Q := by
  by_cases hz : xoI xs 1000000 (q + 5) = 0
  · refine w_aload_n (pc' := 1018) rfl rfl rfl ?_
    refine w_aload_n (pc' := 1019) rfl rfl rfl ?_
    refine w_iload_n (pc' := 1020) rfl rfl rfl ?_
    refine w_iconst (pc' := 1021) rfl rfl (v := 1) rfl ?_
    refine w_iadd (pc' := 1022) rfl rfl ?_
    refine w_iaload4 (pc' := 1023) (n := L) (i := q + 1) rfl rfl rfl (Nat.le_refl _) (iN_add q 1) (by omega) (by omega) ?_
    refine w_aload_n (pc' := 1024) rfl rfl rfl ?_
    refine w_iload_n (pc' := 1025) rfl rfl rfl ?_
    refine w_iconst (pc' := 1026) rfl rfl (v := 2) rfl ?_
    refine w_iadd (pc' := 1027) rfl rfl ?_
    refine w_iaload4 (pc' := 1028) (n := L) (i := q + 2) rfl rfl rfl (Nat.le_refl _) (iN_add q 2) (by omega) (by omega) ?_
    refine w_aload_n (pc' := 1029) rfl rfl rfl ?_
    refine w_iload_n (pc' := 1030) rfl rfl rfl ?_
    refine w_iconst (pc' := 1031) rfl rfl (v := 3) rfl ?_
    refine w_iadd (pc' := 1032) rfl rfl ?_
    refine w_iaload4 (pc' := 1033) (n := L) (i := q + 3) rfl rfl rfl (Nat.le_refl _) (iN_add q 3) (by omega) (by omega) ?_
    refine w_aload_n (pc' := 1034) rfl rfl rfl ?_
    refine w_iload_n (pc' := 1035) rfl rfl rfl ?_
    refine w_iconst (pc' := 1036) rfl rfl (v := 4) rfl ?_
    refine w_iadd (pc' := 1037) rfl rfl ?_
    refine w_iaload4 (pc' := 1038) (n := L) (i := q + 4) rfl rfl rfl (Nat.le_refl _) (iN_add q 4) (by omega) (by omega) ?_
    refine w_aload_n (pc' := 1039) rfl rfl rfl ?_
    refine w_iload_n (pc' := 1040) rfl rfl rfl ?_
    refine w_iconst (pc' := 1041) rfl rfl (v := 5) rfl ?_
    refine w_iadd (pc' := 1042) rfl rfl ?_
    refine w_iaload4 (pc' := 1043) (n := L) (i := q + 5) rfl rfl rfl (Nat.le_refl _) (iN_add q 5) (by omega) (by omega) ?_
    refine w_br (pc' := 1046) (t := 1050) rfl rfl rfl ic_eq (fun _ => ?_) (fun hc => absurd hz hc)
    refine w_iconst (pc' := 1051) rfl rfl (v := 0) rfl ?_
    refine w_cv (pc' := 1054) (cm := xm_TP_sure) (as := [.int (xoI xs 1000000 (q + 1)), .int (xoI xs 1000000 (q + 2)), .int (xoI xs 1000000 (q + 3)), .int (xoI xs 1000000 (q + 4)), .int 0]) (a := 0) (rest := []) rfl rfl rfl (xa_TP_sure (Nat.le_of_ble_eq_true rfl)) rfl rfl (CI.k (op_sure i _ _ _ _ _) fun v g hg => ?_)
    show Wp L xs xm_La_law 1054 [.ref 1000000, .ref 0, .ref 400, .int (iN q)] [.int v] g Q
    refine w_aload_n (pc' := 1055) rfl rfl rfl ?_
    refine w_aload_n (pc' := 1056) rfl rfl rfl ?_
    refine w_iload_n (pc' := 1057) rfl rfl rfl ?_
    refine w_iconst (pc' := 1058) rfl rfl (v := 1) rfl ?_
    refine w_iadd (pc' := 1059) rfl rfl ?_
    refine w_iaload4 (pc' := 1060) (n := L) (i := q + 1) rfl rfl rfl (Nat.le_refl _) (iN_add q 1) (by omega) (by omega) ?_
    refine w_aload_n (pc' := 1061) rfl rfl rfl ?_
    refine w_iload_n (pc' := 1062) rfl rfl rfl ?_
    refine w_iconst (pc' := 1063) rfl rfl (v := 2) rfl ?_
    refine w_iadd (pc' := 1064) rfl rfl ?_
    refine w_iaload4 (pc' := 1065) (n := L) (i := q + 2) rfl rfl rfl (Nat.le_refl _) (iN_add q 2) (by omega) (by omega) ?_
    refine w_aload_n (pc' := 1066) rfl rfl rfl ?_
    refine w_iload_n (pc' := 1067) rfl rfl rfl ?_
    refine w_iconst (pc' := 1068) rfl rfl (v := 3) rfl ?_
    refine w_iadd (pc' := 1069) rfl rfl ?_
    refine w_iaload4 (pc' := 1070) (n := L) (i := q + 3) rfl rfl rfl (Nat.le_refl _) (iN_add q 3) (by omega) (by omega) ?_
    refine w_aload_n (pc' := 1071) rfl rfl rfl ?_
    refine w_iload_n (pc' := 1072) rfl rfl rfl ?_
    refine w_iconst (pc' := 1073) rfl rfl (v := 4) rfl ?_
    refine w_iadd (pc' := 1074) rfl rfl ?_
    refine w_iaload4 (pc' := 1075) (n := L) (i := q + 4) rfl rfl rfl (Nat.le_refl _) (iN_add q 4) (by omega) (by omega) ?_
    refine w_aload_n (pc' := 1076) rfl rfl rfl ?_
    refine w_iload_n (pc' := 1077) rfl rfl rfl ?_
    refine w_iconst (pc' := 1078) rfl rfl (v := 5) rfl ?_
    refine w_iadd (pc' := 1079) rfl rfl ?_
    refine w_iaload4 (pc' := 1080) (n := L) (i := q + 5) rfl rfl rfl (Nat.le_refl _) (iN_add q 5) (by omega) (by omega) ?_
    refine w_br (pc' := 1083) (t := 1087) rfl rfl rfl ic_eq (fun _ => ?_) (fun hc => absurd hz hc)
    refine w_iconst (pc' := 1088) rfl rfl (v := 0) rfl ?_
    refine w_cv (pc' := 1091) (cm := xm_Mo_sure) (as := [.int (xoI xs 1000000 (q + 1)), .int (xoI xs 1000000 (q + 2)), .int (xoI xs 1000000 (q + 3)), .int (xoI xs 1000000 (q + 4)), .int 0]) (a := 400) (rest := [.int v]) rfl rfl rfl (xa_Mo_sure (Nat.le_of_ble_eq_true rfl)) rfl rfl (CI.k hg fun w h hh => ?_)
    show Wp L xs xm_La_law 1091 [.ref 1000000, .ref 0, .ref 400, .int (iN q)] [.int w, .int v] h Q
    exact w_br2 (pc' := 1094) (t := 1403) rfl rfl rfl ic_eq (fun _ => kk h hh.2) (fun hc => absurd hh.1.symm hc)
  · refine w_aload_n (pc' := 1018) rfl rfl rfl ?_
    refine w_aload_n (pc' := 1019) rfl rfl rfl ?_
    refine w_iload_n (pc' := 1020) rfl rfl rfl ?_
    refine w_iconst (pc' := 1021) rfl rfl (v := 1) rfl ?_
    refine w_iadd (pc' := 1022) rfl rfl ?_
    refine w_iaload4 (pc' := 1023) (n := L) (i := q + 1) rfl rfl rfl (Nat.le_refl _) (iN_add q 1) (by omega) (by omega) ?_
    refine w_aload_n (pc' := 1024) rfl rfl rfl ?_
    refine w_iload_n (pc' := 1025) rfl rfl rfl ?_
    refine w_iconst (pc' := 1026) rfl rfl (v := 2) rfl ?_
    refine w_iadd (pc' := 1027) rfl rfl ?_
    refine w_iaload4 (pc' := 1028) (n := L) (i := q + 2) rfl rfl rfl (Nat.le_refl _) (iN_add q 2) (by omega) (by omega) ?_
    refine w_aload_n (pc' := 1029) rfl rfl rfl ?_
    refine w_iload_n (pc' := 1030) rfl rfl rfl ?_
    refine w_iconst (pc' := 1031) rfl rfl (v := 3) rfl ?_
    refine w_iadd (pc' := 1032) rfl rfl ?_
    refine w_iaload4 (pc' := 1033) (n := L) (i := q + 3) rfl rfl rfl (Nat.le_refl _) (iN_add q 3) (by omega) (by omega) ?_
    refine w_aload_n (pc' := 1034) rfl rfl rfl ?_
    refine w_iload_n (pc' := 1035) rfl rfl rfl ?_
    refine w_iconst (pc' := 1036) rfl rfl (v := 4) rfl ?_
    refine w_iadd (pc' := 1037) rfl rfl ?_
    refine w_iaload4 (pc' := 1038) (n := L) (i := q + 4) rfl rfl rfl (Nat.le_refl _) (iN_add q 4) (by omega) (by omega) ?_
    refine w_aload_n (pc' := 1039) rfl rfl rfl ?_
    refine w_iload_n (pc' := 1040) rfl rfl rfl ?_
    refine w_iconst (pc' := 1041) rfl rfl (v := 5) rfl ?_
    refine w_iadd (pc' := 1042) rfl rfl ?_
    refine w_iaload4 (pc' := 1043) (n := L) (i := q + 5) rfl rfl rfl (Nat.le_refl _) (iN_add q 5) (by omega) (by omega) ?_
    refine w_br (pc' := 1046) (t := 1050) rfl rfl rfl ic_eq (fun hc => absurd hc hz) (fun _ => ?_)
    refine w_iconst (pc' := 1047) rfl rfl (v := 1) rfl ?_
    refine w_goto (pc' := 1051) rfl rfl ?_
    refine w_cv (pc' := 1054) (cm := xm_TP_sure) (as := [.int (xoI xs 1000000 (q + 1)), .int (xoI xs 1000000 (q + 2)), .int (xoI xs 1000000 (q + 3)), .int (xoI xs 1000000 (q + 4)), .int 1]) (a := 0) (rest := []) rfl rfl rfl (xa_TP_sure (Nat.le_of_ble_eq_true rfl)) rfl rfl (CI.k (op_sure i _ _ _ _ _) fun v g hg => ?_)
    show Wp L xs xm_La_law 1054 [.ref 1000000, .ref 0, .ref 400, .int (iN q)] [.int v] g Q
    refine w_aload_n (pc' := 1055) rfl rfl rfl ?_
    refine w_aload_n (pc' := 1056) rfl rfl rfl ?_
    refine w_iload_n (pc' := 1057) rfl rfl rfl ?_
    refine w_iconst (pc' := 1058) rfl rfl (v := 1) rfl ?_
    refine w_iadd (pc' := 1059) rfl rfl ?_
    refine w_iaload4 (pc' := 1060) (n := L) (i := q + 1) rfl rfl rfl (Nat.le_refl _) (iN_add q 1) (by omega) (by omega) ?_
    refine w_aload_n (pc' := 1061) rfl rfl rfl ?_
    refine w_iload_n (pc' := 1062) rfl rfl rfl ?_
    refine w_iconst (pc' := 1063) rfl rfl (v := 2) rfl ?_
    refine w_iadd (pc' := 1064) rfl rfl ?_
    refine w_iaload4 (pc' := 1065) (n := L) (i := q + 2) rfl rfl rfl (Nat.le_refl _) (iN_add q 2) (by omega) (by omega) ?_
    refine w_aload_n (pc' := 1066) rfl rfl rfl ?_
    refine w_iload_n (pc' := 1067) rfl rfl rfl ?_
    refine w_iconst (pc' := 1068) rfl rfl (v := 3) rfl ?_
    refine w_iadd (pc' := 1069) rfl rfl ?_
    refine w_iaload4 (pc' := 1070) (n := L) (i := q + 3) rfl rfl rfl (Nat.le_refl _) (iN_add q 3) (by omega) (by omega) ?_
    refine w_aload_n (pc' := 1071) rfl rfl rfl ?_
    refine w_iload_n (pc' := 1072) rfl rfl rfl ?_
    refine w_iconst (pc' := 1073) rfl rfl (v := 4) rfl ?_
    refine w_iadd (pc' := 1074) rfl rfl ?_
    refine w_iaload4 (pc' := 1075) (n := L) (i := q + 4) rfl rfl rfl (Nat.le_refl _) (iN_add q 4) (by omega) (by omega) ?_
    refine w_aload_n (pc' := 1076) rfl rfl rfl ?_
    refine w_iload_n (pc' := 1077) rfl rfl rfl ?_
    refine w_iconst (pc' := 1078) rfl rfl (v := 5) rfl ?_
    refine w_iadd (pc' := 1079) rfl rfl ?_
    refine w_iaload4 (pc' := 1080) (n := L) (i := q + 5) rfl rfl rfl (Nat.le_refl _) (iN_add q 5) (by omega) (by omega) ?_
    refine w_br (pc' := 1083) (t := 1087) rfl rfl rfl ic_eq (fun hc => absurd hc hz) (fun _ => ?_)
    refine w_iconst (pc' := 1084) rfl rfl (v := 1) rfl ?_
    refine w_goto (pc' := 1088) rfl rfl ?_
    refine w_cv (pc' := 1091) (cm := xm_Mo_sure) (as := [.int (xoI xs 1000000 (q + 1)), .int (xoI xs 1000000 (q + 2)), .int (xoI xs 1000000 (q + 3)), .int (xoI xs 1000000 (q + 4)), .int 1]) (a := 400) (rest := [.int v]) rfl rfl rfl (xa_Mo_sure (Nat.le_of_ble_eq_true rfl)) rfl rfl (CI.k hg fun w h hh => ?_)
    show Wp L xs xm_La_law 1091 [.ref 1000000, .ref 0, .ref 400, .int (iN q)] [.int w, .int v] h Q
    exact w_br2 (pc' := 1094) (t := 1403) rfl rfl rfl ic_eq (fun _ => kk h hh.2) (fun hc => absurd hh.1.symm hc)
end LAWD
