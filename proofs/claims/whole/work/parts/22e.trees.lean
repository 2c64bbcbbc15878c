/-! TREES (printed by wip/whole/gen7.py): what must hold at a label of a method -/
theorem t_As_follow_0 {L : Nat} {xs : Nat → Int32} {x1 : Nat} {x2 : Nat} {x3 : Int32} {f : Hp} {Q : Int32 → Hp → Prop} (qx1 : xS0 L x1 = (1, 0)) (qx2 : xS0 L x2 = (6, 0)) (h : CV L xs xm_As_begin [.ref 75, .ref x1] f (fun g1 => Wp L xs xm_As_follow 8 [.ref 75, .ref x1, .ref x2, .int x3, .int 0] [] g1 (QI Q))) : CI L xs xm_As_follow [.ref 75, .ref x1, .ref x2, .int x3] f Q := by
  show Wp L xs xm_As_follow 0 [.ref 75, .ref x1, .ref x2, .int x3, .retAddr 0] [] f (QI Q)
  refine w_aload_n (pc' := 1) rfl rfl rfl ?_
  refine w_aload_n (pc' := 2) rfl rfl rfl ?_
  refine w_cv (pc' := 5) (cm := xm_As_begin) (as := [.ref x1]) (a := 75) (rest := []) rfl rfl rfl  (xa_As_begin (Nat.le_of_ble_eq_true rfl)) (show xS0 L 75 = (0, 0) from rfl) rfl (CV.k h fun g1 h => ?_)
  show Wp L xs xm_As_follow 5 [.ref 75, .ref x1, .ref x2, .int x3, .retAddr 0] [] g1 _
  refine w_iconst (pc' := 6) rfl rfl (v := 0) rfl ?_
  refine w_istore (pc' := 8) rfl rfl (xl' := [.ref 75, .ref x1, .ref x2, .int x3, .int 0]) rfl ?_
  exact h
theorem t_As_follow_8 {L : Nat} {xs : Nat → Int32} {x1 : Nat} {x2 : Nat} {x3 : Int32} {x4 : Int32} {f : Hp} {Q : Int32 → Hp → Prop} (qx1 : xS0 L x1 = (1, 0)) (qx2 : xS0 L x2 = (6, 0)) (h : ((x4 < x3 → ((x4 < (f x2 0) → ∃ k1 : Nat, x4 = iN k1 ∧ k1 < 40 ∧ CI L xs xm_As_act [.ref 75, .int (f (x2 + 1) k1), .int (f (x2 + 2) k1), .int (f (x2 + 3) k1), .int (f (x2 + 4) k1)] f (fun v1 g1 => ((v1 = 0 → Q x4 g1) ∧ (¬ v1 = 0 → Wp L xs xm_As_follow 8 [.ref 75, .ref x1, .ref x2, .int x3, .int (x4 + 1)] [] g1 (QI Q))))) ∧ (¬ x4 < (f x2 0) → Q (imin x3 (f x2 0)) f))) ∧ (¬ x4 < x3 → Q (imin x3 (f x2 0)) f))) : Wp L xs xm_As_follow 8 [.ref 75, .ref x1, .ref x2, .int x3, .int x4] [] f (QI Q) := by
  refine w_iload (pc' := 10) rfl rfl rfl ?_
  refine w_iload_n (pc' := 11) rfl rfl rfl ?_
  refine w_br2 (pc' := 14) (t := 67) rfl rfl rfl ic_ge (fun hc => ?_) (fun hc => ?_)
  · replace h := h.2 hc
    refine w_iload_n (pc' := 68) rfl rfl rfl ?_
    refine w_aload_n (pc' := 69) rfl rfl rfl ?_
    refine w_getI (pc' := 72) rfl rfl rfl rfl rfl qx2 ?_
    refine w_min (pc' := 75) rfl rfl rfl (Nat.le_of_ble_eq_true rfl) ?_
    exact w_ireturn rfl rfl h
  · replace h := h.1 (Classical.not_not.mp hc)
    refine w_iload (pc' := 16) rfl rfl rfl ?_
    refine w_aload_n (pc' := 17) rfl rfl rfl ?_
    refine w_getI (pc' := 20) rfl rfl rfl rfl rfl qx2 ?_
    refine w_br2 (pc' := 23) (t := 67) rfl rfl rfl ic_ge (fun hc => ?_) (fun hc => ?_)
    · replace h := h.2 hc
      refine w_iload_n (pc' := 68) rfl rfl rfl ?_
      refine w_aload_n (pc' := 69) rfl rfl rfl ?_
      refine w_getI (pc' := 72) rfl rfl rfl rfl rfl qx2 ?_
      refine w_min (pc' := 75) rfl rfl rfl (Nat.le_of_ble_eq_true rfl) ?_
      exact w_ireturn rfl rfl h
    · replace h := h.1 (Classical.not_not.mp hc)
      refine w_aload_n (pc' := 24) rfl rfl rfl ?_
      refine w_aload_n (pc' := 25) rfl rfl rfl ?_
      have q1 : xR0 x2 1 = some (x2 + 1) ∧ xS0 L (x2 + 1) = (20, 40) := (kf_6_1 qx2)
      refine w_getR (pc' := 28) rfl rfl rfl rfl qx2 q1.1 ?_
      refine w_iload (pc' := 30) rfl rfl rfl ?_
      obtain ⟨k1, ek1, bk1, h⟩ := h
      refine w_iaload (pc' := 31) (i := k1) rfl rfl q1.2 ek1 bk1 (by omega) ?_
      refine w_aload_n (pc' := 32) rfl rfl rfl ?_
      have q2 : xR0 x2 2 = some (x2 + 2) ∧ xS0 L (x2 + 2) = (20, 40) := (kf_6_2 qx2)
      refine w_getR (pc' := 35) rfl rfl rfl rfl qx2 q2.1 ?_
      refine w_iload (pc' := 37) rfl rfl rfl ?_
      refine w_iaload (pc' := 38) (i := k1) rfl rfl q2.2 ek1 bk1 (by omega) ?_
      refine w_aload_n (pc' := 39) rfl rfl rfl ?_
      have q3 : xR0 x2 3 = some (x2 + 3) ∧ xS0 L (x2 + 3) = (20, 40) := (kf_6_3 qx2)
      refine w_getR (pc' := 42) rfl rfl rfl rfl qx2 q3.1 ?_
      refine w_iload (pc' := 44) rfl rfl rfl ?_
      refine w_iaload (pc' := 45) (i := k1) rfl rfl q3.2 ek1 bk1 (by omega) ?_
      refine w_aload_n (pc' := 46) rfl rfl rfl ?_
      have q4 : xR0 x2 4 = some (x2 + 4) ∧ xS0 L (x2 + 4) = (20, 40) := (kf_6_4 qx2)
      refine w_getR (pc' := 49) rfl rfl rfl rfl qx2 q4.1 ?_
      refine w_iload (pc' := 51) rfl rfl rfl ?_
      refine w_iaload (pc' := 52) (i := k1) rfl rfl q4.2 ek1 bk1 (by omega) ?_
      refine w_cv (pc' := 55) (cm := xm_As_act) (as := [.int (f (x2 + 1) k1), .int (f (x2 + 2) k1), .int (f (x2 + 3) k1), .int (f (x2 + 4) k1)]) (a := 75) (rest := []) rfl rfl rfl  (xa_As_act (Nat.le_of_ble_eq_true rfl)) (show xS0 L 75 = (0, 0) from rfl) rfl (CI.k h fun v1 g1 h => ?_)
      show Wp L xs xm_As_follow 55 [.ref 75, .ref x1, .ref x2, .int x3, .int x4] [.int v1] g1 _
      refine w_br (pc' := 58) (t := 61) rfl rfl rfl ic_ne (fun hc => ?_) (fun hc => ?_)
      · replace h := h.2 hc
        refine w_iinc (pc' := 64) rfl rfl rfl (v := (x4 + 1)) rfl (xl' := [.ref 75, .ref x1, .ref x2, .int x3, .int (x4 + 1)]) rfl ?_
        refine w_goto (pc' := 8) rfl rfl ?_
        exact h
      · replace h := h.1 (Classical.not_not.mp hc)
        refine w_iload (pc' := 60) rfl rfl rfl ?_
        exact w_ireturn rfl rfl h
theorem t_As_begin_0 {L : Nat} {xs : Nat → Int32} {x1 : Nat} {f : Hp} {Q : Hp → Prop} (qx1 : xS0 L x1 = (1, 0)) (h : CV L xs xm_Co_take [.ref 77, .ref x1] f (fun g1 => CI L xs xm_Co_members [.ref 77] g1 (fun v1 g2 => ∀ g3, g3 = xu g2 75 4 v1 → CI L xs xm_Co_quorumSize [.ref 77] g3 (fun v2 g4 => ∀ g5, g5 = xu g4 75 5 v2 → Wp L xs xm_As_begin 32 [.ref 75, .ref x1, .int 0] [] g5 (QV Q))))) : CV L xs xm_As_begin [.ref 75, .ref x1] f Q := by
  show Wp L xs xm_As_begin 0 [.ref 75, .ref x1, .retAddr 0] [] f (QV Q)
  refine w_aload_n (pc' := 1) rfl rfl rfl ?_
  have q1 : xR0 75 1 = some 77 ∧ xS0 L 77 = (1, 0) := (kf_0_1 (show xS0 L 75 = (0, 0) from rfl))
  refine w_getR (pc' := 4) rfl rfl rfl rfl (show xS0 L 75 = (0, 0) from rfl) q1.1 ?_
  refine w_aload_n (pc' := 5) rfl rfl rfl ?_
  refine w_cv (pc' := 8) (cm := xm_Co_take) (as := [.ref x1]) (a := 77) (rest := []) rfl rfl rfl  (xa_Co_take (Nat.le_of_ble_eq_true rfl)) q1.2 rfl (CV.k h fun g1 h => ?_)
  show Wp L xs xm_As_begin 8 [.ref 75, .ref x1, .retAddr 0] [] g1 _
  refine w_aload_n (pc' := 9) rfl rfl rfl ?_
  refine w_aload_n (pc' := 10) rfl rfl rfl ?_
  have q2 : xR0 75 1 = some 77 ∧ xS0 L 77 = (1, 0) := (kf_0_1 (show xS0 L 75 = (0, 0) from rfl))
  refine w_getR (pc' := 13) rfl rfl rfl rfl (show xS0 L 75 = (0, 0) from rfl) q2.1 ?_
  refine w_cv (pc' := 16) (cm := xm_Co_members) (as := []) (a := 77) (rest := [.ref 75]) rfl rfl rfl  (xa_Co_members (Nat.le_of_ble_eq_true rfl)) q2.2 rfl (CI.k h fun v1 g2 h => ?_)
  show Wp L xs xm_As_begin 16 [.ref 75, .ref x1, .retAddr 0] [.int v1, .ref 75] g2 _
  refine w_putI (pc' := 19) rfl rfl rfl rfl (show xS0 L 75 = (0, 0) from rfl) ?_
  replace h := h _ rfl
  generalize xu g2 75 4 v1 = g3 at h ⊢
  refine w_aload_n (pc' := 20) rfl rfl rfl ?_
  refine w_aload_n (pc' := 21) rfl rfl rfl ?_
  have q3 : xR0 75 1 = some 77 ∧ xS0 L 77 = (1, 0) := (kf_0_1 (show xS0 L 75 = (0, 0) from rfl))
  refine w_getR (pc' := 24) rfl rfl rfl rfl (show xS0 L 75 = (0, 0) from rfl) q3.1 ?_
  refine w_cv (pc' := 27) (cm := xm_Co_quorumSize) (as := []) (a := 77) (rest := [.ref 75]) rfl rfl rfl  (xa_Co_quorumSize (Nat.le_of_ble_eq_true rfl)) q3.2 rfl (CI.k h fun v2 g4 h => ?_)
  show Wp L xs xm_As_begin 27 [.ref 75, .ref x1, .retAddr 0] [.int v2, .ref 75] g4 _
  refine w_putI (pc' := 30) rfl rfl rfl rfl (show xS0 L 75 = (0, 0) from rfl) ?_
  replace h := h _ rfl
  generalize xu g4 75 5 v2 = g5 at h ⊢
  refine w_iconst (pc' := 31) rfl rfl (v := 0) rfl ?_
  refine w_istore_n (pc' := 32) rfl rfl (xl' := [.ref 75, .ref x1, .int 0]) rfl ?_
  exact h
theorem t_As_begin_32 {L : Nat} {xs : Nat → Int32} {x1 : Nat} {x2 : Int32} {f : Hp} {Q : Hp → Prop} (qx1 : xS0 L x1 = (1, 0)) (h : ((x2 < 7 → ∃ k1 : Nat, x2 = iN k1 ∧ k1 < 7 ∧ CV L xs xm_Me_begin [.ref (93 + 11 * k1), .ref 77] f (fun g1 => Wp L xs xm_As_begin 32 [.ref 75, .ref x1, .int (x2 + 1)] [] g1 (QV Q))) ∧ (¬ x2 < 7 → Wp L xs xm_As_begin 59 [.ref 75, .ref x1, .int 0] [] f (QV Q)))) : Wp L xs xm_As_begin 32 [.ref 75, .ref x1, .int x2] [] f (QV Q) := by
  refine w_iload_n (pc' := 33) rfl rfl rfl ?_
  refine w_bipush (pc' := 35) rfl rfl (v := 7) rfl ?_
  refine w_br2 (pc' := 38) (t := 57) rfl rfl rfl ic_ge (fun hc => ?_) (fun hc => ?_)
  · replace h := h.2 hc
    refine w_iconst (pc' := 58) rfl rfl (v := 0) rfl ?_
    refine w_istore_n (pc' := 59) rfl rfl (xl' := [.ref 75, .ref x1, .int 0]) rfl ?_
    exact h
  · replace h := h.1 (Classical.not_not.mp hc)
    refine w_aload_n (pc' := 39) rfl rfl rfl ?_
    have q1 : xR0 75 2 = some 89 ∧ xS0 L 89 = (24, 7) := (kf_0_2 (show xS0 L 75 = (0, 0) from rfl))
    refine w_getR (pc' := 42) rfl rfl rfl rfl (show xS0 L 75 = (0, 0) from rfl) q1.1 ?_
    refine w_iload_n (pc' := 43) rfl rfl rfl ?_
    obtain ⟨k1, ek1, bk1, h⟩ := h
    have q2 : xR0 89 k1 = some (93 + 11 * k1) ∧ xS0 L (93 + 11 * k1) = (2, 0) := ke_24 q1.2 bk1
    refine w_aaload (pc' := 44) (i := k1) rfl rfl q1.2 (by omega) ek1 bk1 (by omega) q2.1 ?_
    refine w_aload_n (pc' := 45) rfl rfl rfl ?_
    have q3 : xR0 75 1 = some 77 ∧ xS0 L 77 = (1, 0) := (kf_0_1 (show xS0 L 75 = (0, 0) from rfl))
    refine w_getR (pc' := 48) rfl rfl rfl rfl (show xS0 L 75 = (0, 0) from rfl) q3.1 ?_
    refine w_cv (pc' := 51) (cm := xm_Me_begin) (as := [.ref 77]) (a := (93 + 11 * k1)) (rest := []) rfl rfl rfl  (xa_Me_begin (Nat.le_of_ble_eq_true rfl)) q2.2 rfl (CV.k h fun g1 h => ?_)
    show Wp L xs xm_As_begin 51 [.ref 75, .ref x1, .int x2] [] g1 _
    refine w_iinc (pc' := 54) rfl rfl rfl (v := (x2 + 1)) rfl (xl' := [.ref 75, .ref x1, .int (x2 + 1)]) rfl ?_
    refine w_goto (pc' := 32) rfl rfl ?_
    exact h
theorem t_As_begin_59 {L : Nat} {xs : Nat → Int32} {x1 : Nat} {x2 : Int32} {f : Hp} {Q : Hp → Prop} (qx1 : xS0 L x1 = (1, 0)) (h : ((9 < x2 → Q f) ∧ (¬ 9 < x2 → ∃ k1 : Nat, x2 = iN k1 ∧ k1 < 10 ∧ CV L xs xm_Mg_clear [.ref (170 + 3 * k1)] f (fun g1 => Wp L xs xm_As_begin 59 [.ref 75, .ref x1, .int (x2 + 1)] [] g1 (QV Q))))) : Wp L xs xm_As_begin 59 [.ref 75, .ref x1, .int x2] [] f (QV Q) := by
  refine w_iload_n (pc' := 60) rfl rfl rfl ?_
  refine w_bipush (pc' := 62) rfl rfl (v := 9) rfl ?_
  refine w_br2 (pc' := 65) (t := 80) rfl rfl rfl ic_gt (fun hc => ?_) (fun hc => ?_)
  · replace h := h.1 hc
    exact w_return rfl rfl h
  · replace h := h.2 hc
    refine w_aload_n (pc' := 66) rfl rfl rfl ?_
    have q1 : xR0 75 0 = some 76 ∧ xS0 L 76 = (23, 10) := (kf_0_0 (show xS0 L 75 = (0, 0) from rfl))
    refine w_getR (pc' := 69) rfl rfl rfl rfl (show xS0 L 75 = (0, 0) from rfl) q1.1 ?_
    refine w_iload_n (pc' := 70) rfl rfl rfl ?_
    obtain ⟨k1, ek1, bk1, h⟩ := h
    have q2 : xR0 76 k1 = some (170 + 3 * k1) ∧ xS0 L (170 + 3 * k1) = (3, 0) := ke_23 q1.2 bk1
    refine w_aaload (pc' := 71) (i := k1) rfl rfl q1.2 (by omega) ek1 bk1 (by omega) q2.1 ?_
    refine w_cv (pc' := 74) (cm := xm_Mg_clear) (as := []) (a := (170 + 3 * k1)) (rest := []) rfl rfl rfl  (xa_Mg_clear (Nat.le_of_ble_eq_true rfl)) q2.2 rfl (CV.k h fun g1 h => ?_)
    show Wp L xs xm_As_begin 74 [.ref 75, .ref x1, .int x2] [] g1 _
    refine w_iinc (pc' := 77) rfl rfl rfl (v := (x2 + 1)) rfl (xl' := [.ref 75, .ref x1, .int (x2 + 1)]) rfl ?_
    refine w_goto (pc' := 59) rfl rfl ?_
    exact h
theorem t_As_act_0 {L : Nat} {xs : Nat → Int32} {x1 : Int32} {x2 : Int32} {x3 : Int32} {x4 : Int32} {f : Hp} {Q : Int32 → Hp → Prop}  (h : CI L xs xm_As_isSeat [.ref 75, .int x2] f (fun v1 g1 => ((v1 = 0 → Q 0 g1) ∧ (¬ v1 = 0 → ((x1 = 0 → CI L xs xm_As_propose [.ref 75, .int x2, .int x3, .int x4] g1 (fun v2 g2 => (v2 = 0 ∨ v2 = 1) ∧ Q v2 g2)) ∧ (¬ x1 = 0 → ((x1 = 1 → ((x2 = x3 → Q 0 g1) ∧ (¬ x2 = x3 → CI L xs xm_As_isHonest [.ref 75, .int x3] g1 (fun v3 g3 => ((v3 = 0 → Q 0 g3) ∧ (¬ v3 = 0 → ((x1 = 1 → CI L xs xm_As_prepare [.ref 75, .int x2, .int x3, .int x4] g3 (fun v4 g4 => (v4 = 0 ∨ v4 = 1) ∧ Q v4 g4)) ∧ (¬ x1 = 1 → ((x1 = 2 → CI L xs xm_As_commit [.ref 75, .int x2, .int x3, .int x4] g3 (fun v5 g5 => (v5 = 0 ∨ v5 = 1) ∧ Q v5 g5)) ∧ (¬ x1 = 2 → ((x1 = 3 → Q 0 g3) ∧ (¬ x1 = 3 → ((x1 = 4 → CI L xs xm_As_mark [.ref 75, .int x2, .int x3] g3 (fun v6 g6 => (v6 = 0 ∨ v6 = 1) ∧ Q v6 g6)) ∧ (¬ x1 = 4 → ((x1 = 5 → CI L xs xm_As_fetch [.ref 75, .int x2, .int x3] g3 (fun v7 g7 => (v7 = 0 ∨ v7 = 1) ∧ Q v7 g7)) ∧ (¬ x1 = 5 → Q 0 g3)))))))))))))))) ∧ (¬ x1 = 1 → ((x1 = 2 → ((x2 = x3 → Q 0 g1) ∧ (¬ x2 = x3 → CI L xs xm_As_isHonest [.ref 75, .int x3] g1 (fun v8 g8 => ((v8 = 0 → Q 0 g8) ∧ (¬ v8 = 0 → ((x1 = 1 → CI L xs xm_As_prepare [.ref 75, .int x2, .int x3, .int x4] g8 (fun v9 g9 => (v9 = 0 ∨ v9 = 1) ∧ Q v9 g9)) ∧ (¬ x1 = 1 → ((x1 = 2 → CI L xs xm_As_commit [.ref 75, .int x2, .int x3, .int x4] g8 (fun v10 g10 => (v10 = 0 ∨ v10 = 1) ∧ Q v10 g10)) ∧ (¬ x1 = 2 → ((x1 = 3 → Q 0 g8) ∧ (¬ x1 = 3 → ((x1 = 4 → CI L xs xm_As_mark [.ref 75, .int x2, .int x3] g8 (fun v11 g11 => (v11 = 0 ∨ v11 = 1) ∧ Q v11 g11)) ∧ (¬ x1 = 4 → ((x1 = 5 → CI L xs xm_As_fetch [.ref 75, .int x2, .int x3] g8 (fun v12 g12 => (v12 = 0 ∨ v12 = 1) ∧ Q v12 g12)) ∧ (¬ x1 = 5 → Q 0 g8)))))))))))))))) ∧ (¬ x1 = 2 → ((x1 = 3 → CI L xs xm_As_runOn [.ref 75, .int x2] g1 (fun v13 g13 => (v13 = 0 ∨ v13 = 1) ∧ Q v13 g13)) ∧ (¬ x1 = 3 → ((x1 = 4 → ((x2 = x3 → Q 0 g1) ∧ (¬ x2 = x3 → CI L xs xm_As_isHonest [.ref 75, .int x3] g1 (fun v14 g14 => ((v14 = 0 → Q 0 g14) ∧ (¬ v14 = 0 → ((x1 = 1 → CI L xs xm_As_prepare [.ref 75, .int x2, .int x3, .int x4] g14 (fun v15 g15 => (v15 = 0 ∨ v15 = 1) ∧ Q v15 g15)) ∧ (¬ x1 = 1 → ((x1 = 2 → CI L xs xm_As_commit [.ref 75, .int x2, .int x3, .int x4] g14 (fun v16 g16 => (v16 = 0 ∨ v16 = 1) ∧ Q v16 g16)) ∧ (¬ x1 = 2 → ((x1 = 3 → Q 0 g14) ∧ (¬ x1 = 3 → ((x1 = 4 → CI L xs xm_As_mark [.ref 75, .int x2, .int x3] g14 (fun v17 g17 => (v17 = 0 ∨ v17 = 1) ∧ Q v17 g17)) ∧ (¬ x1 = 4 → ((x1 = 5 → CI L xs xm_As_fetch [.ref 75, .int x2, .int x3] g14 (fun v18 g18 => (v18 = 0 ∨ v18 = 1) ∧ Q v18 g18)) ∧ (¬ x1 = 5 → Q 0 g14)))))))))))))))) ∧ (¬ x1 = 4 → ((x1 = 5 → ((x2 = x3 → Q 0 g1) ∧ (¬ x2 = x3 → CI L xs xm_As_isHonest [.ref 75, .int x3] g1 (fun v19 g19 => ((v19 = 0 → Q 0 g19) ∧ (¬ v19 = 0 → ((x1 = 1 → CI L xs xm_As_prepare [.ref 75, .int x2, .int x3, .int x4] g19 (fun v20 g20 => (v20 = 0 ∨ v20 = 1) ∧ Q v20 g20)) ∧ (¬ x1 = 1 → ((x1 = 2 → CI L xs xm_As_commit [.ref 75, .int x2, .int x3, .int x4] g19 (fun v21 g21 => (v21 = 0 ∨ v21 = 1) ∧ Q v21 g21)) ∧ (¬ x1 = 2 → ((x1 = 3 → Q 0 g19) ∧ (¬ x1 = 3 → ((x1 = 4 → CI L xs xm_As_mark [.ref 75, .int x2, .int x3] g19 (fun v22 g22 => (v22 = 0 ∨ v22 = 1) ∧ Q v22 g22)) ∧ (¬ x1 = 4 → ((x1 = 5 → CI L xs xm_As_fetch [.ref 75, .int x2, .int x3] g19 (fun v23 g23 => (v23 = 0 ∨ v23 = 1) ∧ Q v23 g23)) ∧ (¬ x1 = 5 → Q 0 g19)))))))))))))))) ∧ (¬ x1 = 5 → ((x1 = 6 → ∃ k1 : Nat, x2 = iN k1 ∧ k1 < 7 ∧ CI L xs xm_As_doubt [.ref 75, .ref (93 + 11 * k1)] g1 (fun v24 g24 => (v24 = 0 ∨ v24 = 1) ∧ Q v24 g24)) ∧ (¬ x1 = 6 → ((x1 = 7 → CI L xs xm_As_makeView [.ref 75, .int x2] g1 (fun v25 g25 => (v25 = 0 ∨ v25 = 1) ∧ Q v25 g25)) ∧ (¬ x1 = 7 → ((x1 = 8 → CI L xs xm_As_enterMade [.ref 75, .int x2] g1 (fun v26 g26 => (v26 = 0 ∨ v26 = 1) ∧ Q v26 g26)) ∧ (¬ x1 = 8 → ((x2 = x3 → Q 0 g1) ∧ (¬ x2 = x3 → CI L xs xm_As_isHonest [.ref 75, .int x3] g1 (fun v27 g27 => ((v27 = 0 → Q 0 g27) ∧ (¬ v27 = 0 → ((x1 = 1 → CI L xs xm_As_prepare [.ref 75, .int x2, .int x3, .int x4] g27 (fun v28 g28 => (v28 = 0 ∨ v28 = 1) ∧ Q v28 g28)) ∧ (¬ x1 = 1 → ((x1 = 2 → CI L xs xm_As_commit [.ref 75, .int x2, .int x3, .int x4] g27 (fun v29 g29 => (v29 = 0 ∨ v29 = 1) ∧ Q v29 g29)) ∧ (¬ x1 = 2 → ((x1 = 3 → Q 0 g27) ∧ (¬ x1 = 3 → ((x1 = 4 → CI L xs xm_As_mark [.ref 75, .int x2, .int x3] g27 (fun v30 g30 => (v30 = 0 ∨ v30 = 1) ∧ Q v30 g30)) ∧ (¬ x1 = 4 → ((x1 = 5 → CI L xs xm_As_fetch [.ref 75, .int x2, .int x3] g27 (fun v31 g31 => (v31 = 0 ∨ v31 = 1) ∧ Q v31 g31)) ∧ (¬ x1 = 5 → Q 0 g27))))))))))))))))))))))))))))))))))))) : CI L xs xm_As_act [.ref 75, .int x1, .int x2, .int x3, .int x4] f Q := by
  show Wp L xs xm_As_act 0 [.ref 75, .int x1, .int x2, .int x3, .int x4] [] f (QI Q)
  refine w_aload_n (pc' := 1) rfl rfl rfl ?_
  refine w_iload_n (pc' := 2) rfl rfl rfl ?_
  refine w_cv (pc' := 5) (cm := xm_As_isSeat) (as := [.int x2]) (a := 75) (rest := []) rfl rfl rfl  (xa_As_isSeat (Nat.le_of_ble_eq_true rfl)) (show xS0 L 75 = (0, 0) from rfl) rfl (CI.k h fun v1 g1 h => ?_)
  show Wp L xs xm_As_act 5 [.ref 75, .int x1, .int x2, .int x3, .int x4] [.int v1] g1 _
  refine w_br (pc' := 8) (t := 10) rfl rfl rfl ic_ne (fun hc => ?_) (fun hc => ?_)
  · replace h := h.2 hc
    refine w_iload_n (pc' := 11) rfl rfl rfl ?_
    by_cases hs0 : x1 = 0
    · replace h := h.1 hs0
      refine w_ts (o := 49) (t := 60) rfl (by rw [hs0]; decide) (by rw [hs0]; rfl) rfl ?_
      refine w_aload_n (pc' := 61) rfl rfl rfl ?_
      refine w_iload_n (pc' := 62) rfl rfl rfl ?_
      refine w_iload_n (pc' := 63) rfl rfl rfl ?_
      refine w_iload (pc' := 65) rfl rfl rfl ?_
      refine w_cv (pc' := 68) (cm := xm_As_propose) (as := [.int x2, .int x3, .int x4]) (a := 75) (rest := []) rfl rfl rfl  (xa_As_propose (Nat.le_of_ble_eq_true rfl)) (show xS0 L 75 = (0, 0) from rfl) rfl (CI.k h fun v2 g2 h => ?_)
      show Wp L xs xm_As_act 68 [.ref 75, .int x1, .int x2, .int x3, .int x4] [.int v2] g2 _
      obtain ⟨q1, h⟩ := h
      exact w_ireturn rfl (xr_bool rfl q1) h
    replace h := h.2 hs0
    by_cases hs1 : x1 = 1
    · replace h := h.1 hs1
      refine w_ts (o := 87) (t := 98) rfl (by rw [hs1]; decide) (by rw [hs1]; rfl) rfl ?_
      refine w_iload_n (pc' := 99) rfl rfl rfl ?_
      refine w_iload_n (pc' := 100) rfl rfl rfl ?_
      refine w_br2 (pc' := 103) (t := 111) rfl rfl rfl ic_eq (fun hc => ?_) (fun hc => ?_)
      · replace h := h.1 hc
        refine w_iconst (pc' := 112) rfl rfl (v := 0) rfl ?_
        exact w_ireturn rfl rfl h
      · replace h := h.2 hc
        refine w_aload_n (pc' := 104) rfl rfl rfl ?_
        refine w_iload_n (pc' := 105) rfl rfl rfl ?_
        refine w_cv (pc' := 108) (cm := xm_As_isHonest) (as := [.int x3]) (a := 75) (rest := []) rfl rfl rfl  (xa_As_isHonest (Nat.le_of_ble_eq_true rfl)) (show xS0 L 75 = (0, 0) from rfl) rfl (CI.k h fun v3 g3 h => ?_)
        show Wp L xs xm_As_act 108 [.ref 75, .int x1, .int x2, .int x3, .int x4] [.int v3] g3 _
        refine w_br (pc' := 111) (t := 113) rfl rfl rfl ic_ne (fun hc => ?_) (fun hc => ?_)
        · replace h := h.2 hc
          refine w_iload_n (pc' := 114) rfl rfl rfl ?_
          by_cases hs1 : x1 = 1
          · replace h := h.1 hs1
            refine w_ts (o := 34) (t := 148) rfl (by rw [hs1]; decide) (by rw [hs1]; rfl) rfl ?_
            refine w_aload_n (pc' := 149) rfl rfl rfl ?_
            refine w_iload_n (pc' := 150) rfl rfl rfl ?_
            refine w_iload_n (pc' := 151) rfl rfl rfl ?_
            refine w_iload (pc' := 153) rfl rfl rfl ?_
            refine w_cv (pc' := 156) (cm := xm_As_prepare) (as := [.int x2, .int x3, .int x4]) (a := 75) (rest := []) rfl rfl rfl  (xa_As_prepare (Nat.le_of_ble_eq_true rfl)) (show xS0 L 75 = (0, 0) from rfl) rfl (CI.k h fun v4 g4 h => ?_)
            show Wp L xs xm_As_act 156 [.ref 75, .int x1, .int x2, .int x3, .int x4] [.int v4] g4 _
            obtain ⟨q2, h⟩ := h
            exact w_ireturn rfl (xr_bool rfl q2) h
          replace h := h.2 hs1
          by_cases hs2 : x1 = 2
          · replace h := h.1 hs2
            refine w_ts (o := 43) (t := 157) rfl (by rw [hs2]; decide) (by rw [hs2]; rfl) rfl ?_
            refine w_aload_n (pc' := 158) rfl rfl rfl ?_
            refine w_iload_n (pc' := 159) rfl rfl rfl ?_
            refine w_iload_n (pc' := 160) rfl rfl rfl ?_
            refine w_iload (pc' := 162) rfl rfl rfl ?_
            refine w_cv (pc' := 165) (cm := xm_As_commit) (as := [.int x2, .int x3, .int x4]) (a := 75) (rest := []) rfl rfl rfl  (xa_As_commit (Nat.le_of_ble_eq_true rfl)) (show xS0 L 75 = (0, 0) from rfl) rfl (CI.k h fun v5 g5 h => ?_)
            show Wp L xs xm_As_act 165 [.ref 75, .int x1, .int x2, .int x3, .int x4] [.int v5] g5 _
            obtain ⟨q3, h⟩ := h
            exact w_ireturn rfl (xr_bool rfl q3) h
          replace h := h.2 hs2
          by_cases hs3 : x1 = 3
          · replace h := h.1 hs3
            refine w_ts (o := 66) (t := 180) rfl (by rw [hs3]; decide) (by rw [hs3]; rfl) rfl ?_
            refine w_iconst (pc' := 181) rfl rfl (v := 0) rfl ?_
            exact w_ireturn rfl rfl h
          replace h := h.2 hs3
          by_cases hs4 : x1 = 4
          · replace h := h.1 hs4
            refine w_ts (o := 52) (t := 166) rfl (by rw [hs4]; decide) (by rw [hs4]; rfl) rfl ?_
            refine w_aload_n (pc' := 167) rfl rfl rfl ?_
            refine w_iload_n (pc' := 168) rfl rfl rfl ?_
            refine w_iload_n (pc' := 169) rfl rfl rfl ?_
            refine w_cv (pc' := 172) (cm := xm_As_mark) (as := [.int x2, .int x3]) (a := 75) (rest := []) rfl rfl rfl  (xa_As_mark (Nat.le_of_ble_eq_true rfl)) (show xS0 L 75 = (0, 0) from rfl) rfl (CI.k h fun v6 g6 h => ?_)
            show Wp L xs xm_As_act 172 [.ref 75, .int x1, .int x2, .int x3, .int x4] [.int v6] g6 _
            obtain ⟨q4, h⟩ := h
            exact w_ireturn rfl (xr_bool rfl q4) h
          replace h := h.2 hs4
          by_cases hs5 : x1 = 5
          · replace h := h.1 hs5
            refine w_ts (o := 59) (t := 173) rfl (by rw [hs5]; decide) (by rw [hs5]; rfl) rfl ?_
            refine w_aload_n (pc' := 174) rfl rfl rfl ?_
            refine w_iload_n (pc' := 175) rfl rfl rfl ?_
            refine w_iload_n (pc' := 176) rfl rfl rfl ?_
            refine w_cv (pc' := 179) (cm := xm_As_fetch) (as := [.int x2, .int x3]) (a := 75) (rest := []) rfl rfl rfl  (xa_As_fetch (Nat.le_of_ble_eq_true rfl)) (show xS0 L 75 = (0, 0) from rfl) rfl (CI.k h fun v7 g7 h => ?_)
            show Wp L xs xm_As_act 179 [.ref 75, .int x1, .int x2, .int x3, .int x4] [.int v7] g7 _
            obtain ⟨q5, h⟩ := h
            exact w_ireturn rfl (xr_bool rfl q5) h
          replace h := h.2 hs5
          refine w_tsd (t := 180) rfl ?_ rfl ?_
          · have z1 : (x1).toInt ≠ 1 := fun e => hs1 (Int32.toInt_inj.mp e); have z2 : (x1).toInt ≠ 2 := fun e => hs2 (Int32.toInt_inj.mp e); have z3 : (x1).toInt ≠ 3 := fun e => hs3 (Int32.toInt_inj.mp e); have z4 : (x1).toInt ≠ 4 := fun e => hs4 (Int32.toInt_inj.mp e); have z5 : (x1).toInt ≠ 5 := fun e => hs5 (Int32.toInt_inj.mp e); omega
          refine w_iconst (pc' := 181) rfl rfl (v := 0) rfl ?_
          exact w_ireturn rfl rfl h
        · replace h := h.1 (Classical.not_not.mp hc)
          refine w_iconst (pc' := 112) rfl rfl (v := 0) rfl ?_
          exact w_ireturn rfl rfl h
    replace h := h.2 hs1
    by_cases hs2 : x1 = 2
    · replace h := h.1 hs2
      refine w_ts (o := 87) (t := 98) rfl (by rw [hs2]; decide) (by rw [hs2]; rfl) rfl ?_
      refine w_iload_n (pc' := 99) rfl rfl rfl ?_
      refine w_iload_n (pc' := 100) rfl rfl rfl ?_
      refine w_br2 (pc' := 103) (t := 111) rfl rfl rfl ic_eq (fun hc => ?_) (fun hc => ?_)
      · replace h := h.1 hc
        refine w_iconst (pc' := 112) rfl rfl (v := 0) rfl ?_
        exact w_ireturn rfl rfl h
      · replace h := h.2 hc
        refine w_aload_n (pc' := 104) rfl rfl rfl ?_
        refine w_iload_n (pc' := 105) rfl rfl rfl ?_
        refine w_cv (pc' := 108) (cm := xm_As_isHonest) (as := [.int x3]) (a := 75) (rest := []) rfl rfl rfl  (xa_As_isHonest (Nat.le_of_ble_eq_true rfl)) (show xS0 L 75 = (0, 0) from rfl) rfl (CI.k h fun v8 g8 h => ?_)
        show Wp L xs xm_As_act 108 [.ref 75, .int x1, .int x2, .int x3, .int x4] [.int v8] g8 _
        refine w_br (pc' := 111) (t := 113) rfl rfl rfl ic_ne (fun hc => ?_) (fun hc => ?_)
        · replace h := h.2 hc
          refine w_iload_n (pc' := 114) rfl rfl rfl ?_
          by_cases hs1 : x1 = 1
          · replace h := h.1 hs1
            refine w_ts (o := 34) (t := 148) rfl (by rw [hs1]; decide) (by rw [hs1]; rfl) rfl ?_
            refine w_aload_n (pc' := 149) rfl rfl rfl ?_
            refine w_iload_n (pc' := 150) rfl rfl rfl ?_
            refine w_iload_n (pc' := 151) rfl rfl rfl ?_
            refine w_iload (pc' := 153) rfl rfl rfl ?_
            refine w_cv (pc' := 156) (cm := xm_As_prepare) (as := [.int x2, .int x3, .int x4]) (a := 75) (rest := []) rfl rfl rfl  (xa_As_prepare (Nat.le_of_ble_eq_true rfl)) (show xS0 L 75 = (0, 0) from rfl) rfl (CI.k h fun v9 g9 h => ?_)
            show Wp L xs xm_As_act 156 [.ref 75, .int x1, .int x2, .int x3, .int x4] [.int v9] g9 _
            obtain ⟨q6, h⟩ := h
            exact w_ireturn rfl (xr_bool rfl q6) h
          replace h := h.2 hs1
          by_cases hs2 : x1 = 2
          · replace h := h.1 hs2
            refine w_ts (o := 43) (t := 157) rfl (by rw [hs2]; decide) (by rw [hs2]; rfl) rfl ?_
            refine w_aload_n (pc' := 158) rfl rfl rfl ?_
            refine w_iload_n (pc' := 159) rfl rfl rfl ?_
            refine w_iload_n (pc' := 160) rfl rfl rfl ?_
            refine w_iload (pc' := 162) rfl rfl rfl ?_
            refine w_cv (pc' := 165) (cm := xm_As_commit) (as := [.int x2, .int x3, .int x4]) (a := 75) (rest := []) rfl rfl rfl  (xa_As_commit (Nat.le_of_ble_eq_true rfl)) (show xS0 L 75 = (0, 0) from rfl) rfl (CI.k h fun v10 g10 h => ?_)
            show Wp L xs xm_As_act 165 [.ref 75, .int x1, .int x2, .int x3, .int x4] [.int v10] g10 _
            obtain ⟨q7, h⟩ := h
            exact w_ireturn rfl (xr_bool rfl q7) h
          replace h := h.2 hs2
          by_cases hs3 : x1 = 3
          · replace h := h.1 hs3
            refine w_ts (o := 66) (t := 180) rfl (by rw [hs3]; decide) (by rw [hs3]; rfl) rfl ?_
            refine w_iconst (pc' := 181) rfl rfl (v := 0) rfl ?_
            exact w_ireturn rfl rfl h
          replace h := h.2 hs3
          by_cases hs4 : x1 = 4
          · replace h := h.1 hs4
            refine w_ts (o := 52) (t := 166) rfl (by rw [hs4]; decide) (by rw [hs4]; rfl) rfl ?_
            refine w_aload_n (pc' := 167) rfl rfl rfl ?_
            refine w_iload_n (pc' := 168) rfl rfl rfl ?_
            refine w_iload_n (pc' := 169) rfl rfl rfl ?_
            refine w_cv (pc' := 172) (cm := xm_As_mark) (as := [.int x2, .int x3]) (a := 75) (rest := []) rfl rfl rfl  (xa_As_mark (Nat.le_of_ble_eq_true rfl)) (show xS0 L 75 = (0, 0) from rfl) rfl (CI.k h fun v11 g11 h => ?_)
            show Wp L xs xm_As_act 172 [.ref 75, .int x1, .int x2, .int x3, .int x4] [.int v11] g11 _
            obtain ⟨q8, h⟩ := h
            exact w_ireturn rfl (xr_bool rfl q8) h
          replace h := h.2 hs4
          by_cases hs5 : x1 = 5
          · replace h := h.1 hs5
            refine w_ts (o := 59) (t := 173) rfl (by rw [hs5]; decide) (by rw [hs5]; rfl) rfl ?_
            refine w_aload_n (pc' := 174) rfl rfl rfl ?_
            refine w_iload_n (pc' := 175) rfl rfl rfl ?_
            refine w_iload_n (pc' := 176) rfl rfl rfl ?_
            refine w_cv (pc' := 179) (cm := xm_As_fetch) (as := [.int x2, .int x3]) (a := 75) (rest := []) rfl rfl rfl  (xa_As_fetch (Nat.le_of_ble_eq_true rfl)) (show xS0 L 75 = (0, 0) from rfl) rfl (CI.k h fun v12 g12 h => ?_)
            show Wp L xs xm_As_act 179 [.ref 75, .int x1, .int x2, .int x3, .int x4] [.int v12] g12 _
            obtain ⟨q9, h⟩ := h
            exact w_ireturn rfl (xr_bool rfl q9) h
          replace h := h.2 hs5
          refine w_tsd (t := 180) rfl ?_ rfl ?_
          · have z1 : (x1).toInt ≠ 1 := fun e => hs1 (Int32.toInt_inj.mp e); have z2 : (x1).toInt ≠ 2 := fun e => hs2 (Int32.toInt_inj.mp e); have z3 : (x1).toInt ≠ 3 := fun e => hs3 (Int32.toInt_inj.mp e); have z4 : (x1).toInt ≠ 4 := fun e => hs4 (Int32.toInt_inj.mp e); have z5 : (x1).toInt ≠ 5 := fun e => hs5 (Int32.toInt_inj.mp e); omega
          refine w_iconst (pc' := 181) rfl rfl (v := 0) rfl ?_
          exact w_ireturn rfl rfl h
        · replace h := h.1 (Classical.not_not.mp hc)
          refine w_iconst (pc' := 112) rfl rfl (v := 0) rfl ?_
          exact w_ireturn rfl rfl h
    replace h := h.2 hs2
    by_cases hs3 : x1 = 3
    · replace h := h.1 hs3
      refine w_ts (o := 58) (t := 69) rfl (by rw [hs3]; decide) (by rw [hs3]; rfl) rfl ?_
      refine w_aload_n (pc' := 70) rfl rfl rfl ?_
      refine w_iload_n (pc' := 71) rfl rfl rfl ?_
      refine w_cv (pc' := 74) (cm := xm_As_runOn) (as := [.int x2]) (a := 75) (rest := []) rfl rfl rfl  (xa_As_runOn (Nat.le_of_ble_eq_true rfl)) (show xS0 L 75 = (0, 0) from rfl) rfl (CI.k h fun v13 g13 h => ?_)
      show Wp L xs xm_As_act 74 [.ref 75, .int x1, .int x2, .int x3, .int x4] [.int v13] g13 _
      obtain ⟨q10, h⟩ := h
      exact w_ireturn rfl (xr_bool rfl q10) h
    replace h := h.2 hs3
    by_cases hs4 : x1 = 4
    · replace h := h.1 hs4
      refine w_ts (o := 87) (t := 98) rfl (by rw [hs4]; decide) (by rw [hs4]; rfl) rfl ?_
      refine w_iload_n (pc' := 99) rfl rfl rfl ?_
      refine w_iload_n (pc' := 100) rfl rfl rfl ?_
      refine w_br2 (pc' := 103) (t := 111) rfl rfl rfl ic_eq (fun hc => ?_) (fun hc => ?_)
      · replace h := h.1 hc
        refine w_iconst (pc' := 112) rfl rfl (v := 0) rfl ?_
        exact w_ireturn rfl rfl h
      · replace h := h.2 hc
        refine w_aload_n (pc' := 104) rfl rfl rfl ?_
        refine w_iload_n (pc' := 105) rfl rfl rfl ?_
        refine w_cv (pc' := 108) (cm := xm_As_isHonest) (as := [.int x3]) (a := 75) (rest := []) rfl rfl rfl  (xa_As_isHonest (Nat.le_of_ble_eq_true rfl)) (show xS0 L 75 = (0, 0) from rfl) rfl (CI.k h fun v14 g14 h => ?_)
        show Wp L xs xm_As_act 108 [.ref 75, .int x1, .int x2, .int x3, .int x4] [.int v14] g14 _
        refine w_br (pc' := 111) (t := 113) rfl rfl rfl ic_ne (fun hc => ?_) (fun hc => ?_)
        · replace h := h.2 hc
          refine w_iload_n (pc' := 114) rfl rfl rfl ?_
          by_cases hs1 : x1 = 1
          · replace h := h.1 hs1
            refine w_ts (o := 34) (t := 148) rfl (by rw [hs1]; decide) (by rw [hs1]; rfl) rfl ?_
            refine w_aload_n (pc' := 149) rfl rfl rfl ?_
            refine w_iload_n (pc' := 150) rfl rfl rfl ?_
            refine w_iload_n (pc' := 151) rfl rfl rfl ?_
            refine w_iload (pc' := 153) rfl rfl rfl ?_
            refine w_cv (pc' := 156) (cm := xm_As_prepare) (as := [.int x2, .int x3, .int x4]) (a := 75) (rest := []) rfl rfl rfl  (xa_As_prepare (Nat.le_of_ble_eq_true rfl)) (show xS0 L 75 = (0, 0) from rfl) rfl (CI.k h fun v15 g15 h => ?_)
            show Wp L xs xm_As_act 156 [.ref 75, .int x1, .int x2, .int x3, .int x4] [.int v15] g15 _
            obtain ⟨q11, h⟩ := h
            exact w_ireturn rfl (xr_bool rfl q11) h
          replace h := h.2 hs1
          by_cases hs2 : x1 = 2
          · replace h := h.1 hs2
            refine w_ts (o := 43) (t := 157) rfl (by rw [hs2]; decide) (by rw [hs2]; rfl) rfl ?_
            refine w_aload_n (pc' := 158) rfl rfl rfl ?_
            refine w_iload_n (pc' := 159) rfl rfl rfl ?_
            refine w_iload_n (pc' := 160) rfl rfl rfl ?_
            refine w_iload (pc' := 162) rfl rfl rfl ?_
            refine w_cv (pc' := 165) (cm := xm_As_commit) (as := [.int x2, .int x3, .int x4]) (a := 75) (rest := []) rfl rfl rfl  (xa_As_commit (Nat.le_of_ble_eq_true rfl)) (show xS0 L 75 = (0, 0) from rfl) rfl (CI.k h fun v16 g16 h => ?_)
            show Wp L xs xm_As_act 165 [.ref 75, .int x1, .int x2, .int x3, .int x4] [.int v16] g16 _
            obtain ⟨q12, h⟩ := h
            exact w_ireturn rfl (xr_bool rfl q12) h
          replace h := h.2 hs2
          by_cases hs3 : x1 = 3
          · replace h := h.1 hs3
            refine w_ts (o := 66) (t := 180) rfl (by rw [hs3]; decide) (by rw [hs3]; rfl) rfl ?_
            refine w_iconst (pc' := 181) rfl rfl (v := 0) rfl ?_
            exact w_ireturn rfl rfl h
          replace h := h.2 hs3
          by_cases hs4 : x1 = 4
          · replace h := h.1 hs4
            refine w_ts (o := 52) (t := 166) rfl (by rw [hs4]; decide) (by rw [hs4]; rfl) rfl ?_
            refine w_aload_n (pc' := 167) rfl rfl rfl ?_
            refine w_iload_n (pc' := 168) rfl rfl rfl ?_
            refine w_iload_n (pc' := 169) rfl rfl rfl ?_
            refine w_cv (pc' := 172) (cm := xm_As_mark) (as := [.int x2, .int x3]) (a := 75) (rest := []) rfl rfl rfl  (xa_As_mark (Nat.le_of_ble_eq_true rfl)) (show xS0 L 75 = (0, 0) from rfl) rfl (CI.k h fun v17 g17 h => ?_)
            show Wp L xs xm_As_act 172 [.ref 75, .int x1, .int x2, .int x3, .int x4] [.int v17] g17 _
            obtain ⟨q13, h⟩ := h
            exact w_ireturn rfl (xr_bool rfl q13) h
          replace h := h.2 hs4
          by_cases hs5 : x1 = 5
          · replace h := h.1 hs5
            refine w_ts (o := 59) (t := 173) rfl (by rw [hs5]; decide) (by rw [hs5]; rfl) rfl ?_
            refine w_aload_n (pc' := 174) rfl rfl rfl ?_
            refine w_iload_n (pc' := 175) rfl rfl rfl ?_
            refine w_iload_n (pc' := 176) rfl rfl rfl ?_
            refine w_cv (pc' := 179) (cm := xm_As_fetch) (as := [.int x2, .int x3]) (a := 75) (rest := []) rfl rfl rfl  (xa_As_fetch (Nat.le_of_ble_eq_true rfl)) (show xS0 L 75 = (0, 0) from rfl) rfl (CI.k h fun v18 g18 h => ?_)
            show Wp L xs xm_As_act 179 [.ref 75, .int x1, .int x2, .int x3, .int x4] [.int v18] g18 _
            obtain ⟨q14, h⟩ := h
            exact w_ireturn rfl (xr_bool rfl q14) h
          replace h := h.2 hs5
          refine w_tsd (t := 180) rfl ?_ rfl ?_
          · have z1 : (x1).toInt ≠ 1 := fun e => hs1 (Int32.toInt_inj.mp e); have z2 : (x1).toInt ≠ 2 := fun e => hs2 (Int32.toInt_inj.mp e); have z3 : (x1).toInt ≠ 3 := fun e => hs3 (Int32.toInt_inj.mp e); have z4 : (x1).toInt ≠ 4 := fun e => hs4 (Int32.toInt_inj.mp e); have z5 : (x1).toInt ≠ 5 := fun e => hs5 (Int32.toInt_inj.mp e); omega
          refine w_iconst (pc' := 181) rfl rfl (v := 0) rfl ?_
          exact w_ireturn rfl rfl h
        · replace h := h.1 (Classical.not_not.mp hc)
          refine w_iconst (pc' := 112) rfl rfl (v := 0) rfl ?_
          exact w_ireturn rfl rfl h
    replace h := h.2 hs4
    by_cases hs5 : x1 = 5
    · replace h := h.1 hs5
      refine w_ts (o := 87) (t := 98) rfl (by rw [hs5]; decide) (by rw [hs5]; rfl) rfl ?_
      refine w_iload_n (pc' := 99) rfl rfl rfl ?_
      refine w_iload_n (pc' := 100) rfl rfl rfl ?_
      refine w_br2 (pc' := 103) (t := 111) rfl rfl rfl ic_eq (fun hc => ?_) (fun hc => ?_)
      · replace h := h.1 hc
        refine w_iconst (pc' := 112) rfl rfl (v := 0) rfl ?_
        exact w_ireturn rfl rfl h
      · replace h := h.2 hc
        refine w_aload_n (pc' := 104) rfl rfl rfl ?_
        refine w_iload_n (pc' := 105) rfl rfl rfl ?_
        refine w_cv (pc' := 108) (cm := xm_As_isHonest) (as := [.int x3]) (a := 75) (rest := []) rfl rfl rfl  (xa_As_isHonest (Nat.le_of_ble_eq_true rfl)) (show xS0 L 75 = (0, 0) from rfl) rfl (CI.k h fun v19 g19 h => ?_)
        show Wp L xs xm_As_act 108 [.ref 75, .int x1, .int x2, .int x3, .int x4] [.int v19] g19 _
        refine w_br (pc' := 111) (t := 113) rfl rfl rfl ic_ne (fun hc => ?_) (fun hc => ?_)
        · replace h := h.2 hc
          refine w_iload_n (pc' := 114) rfl rfl rfl ?_
          by_cases hs1 : x1 = 1
          · replace h := h.1 hs1
            refine w_ts (o := 34) (t := 148) rfl (by rw [hs1]; decide) (by rw [hs1]; rfl) rfl ?_
            refine w_aload_n (pc' := 149) rfl rfl rfl ?_
            refine w_iload_n (pc' := 150) rfl rfl rfl ?_
            refine w_iload_n (pc' := 151) rfl rfl rfl ?_
            refine w_iload (pc' := 153) rfl rfl rfl ?_
            refine w_cv (pc' := 156) (cm := xm_As_prepare) (as := [.int x2, .int x3, .int x4]) (a := 75) (rest := []) rfl rfl rfl  (xa_As_prepare (Nat.le_of_ble_eq_true rfl)) (show xS0 L 75 = (0, 0) from rfl) rfl (CI.k h fun v20 g20 h => ?_)
            show Wp L xs xm_As_act 156 [.ref 75, .int x1, .int x2, .int x3, .int x4] [.int v20] g20 _
            obtain ⟨q15, h⟩ := h
            exact w_ireturn rfl (xr_bool rfl q15) h
          replace h := h.2 hs1
          by_cases hs2 : x1 = 2
          · replace h := h.1 hs2
            refine w_ts (o := 43) (t := 157) rfl (by rw [hs2]; decide) (by rw [hs2]; rfl) rfl ?_
            refine w_aload_n (pc' := 158) rfl rfl rfl ?_
            refine w_iload_n (pc' := 159) rfl rfl rfl ?_
            refine w_iload_n (pc' := 160) rfl rfl rfl ?_
            refine w_iload (pc' := 162) rfl rfl rfl ?_
            refine w_cv (pc' := 165) (cm := xm_As_commit) (as := [.int x2, .int x3, .int x4]) (a := 75) (rest := []) rfl rfl rfl  (xa_As_commit (Nat.le_of_ble_eq_true rfl)) (show xS0 L 75 = (0, 0) from rfl) rfl (CI.k h fun v21 g21 h => ?_)
            show Wp L xs xm_As_act 165 [.ref 75, .int x1, .int x2, .int x3, .int x4] [.int v21] g21 _
            obtain ⟨q16, h⟩ := h
            exact w_ireturn rfl (xr_bool rfl q16) h
          replace h := h.2 hs2
          by_cases hs3 : x1 = 3
          · replace h := h.1 hs3
            refine w_ts (o := 66) (t := 180) rfl (by rw [hs3]; decide) (by rw [hs3]; rfl) rfl ?_
            refine w_iconst (pc' := 181) rfl rfl (v := 0) rfl ?_
            exact w_ireturn rfl rfl h
          replace h := h.2 hs3
          by_cases hs4 : x1 = 4
          · replace h := h.1 hs4
            refine w_ts (o := 52) (t := 166) rfl (by rw [hs4]; decide) (by rw [hs4]; rfl) rfl ?_
            refine w_aload_n (pc' := 167) rfl rfl rfl ?_
            refine w_iload_n (pc' := 168) rfl rfl rfl ?_
            refine w_iload_n (pc' := 169) rfl rfl rfl ?_
            refine w_cv (pc' := 172) (cm := xm_As_mark) (as := [.int x2, .int x3]) (a := 75) (rest := []) rfl rfl rfl  (xa_As_mark (Nat.le_of_ble_eq_true rfl)) (show xS0 L 75 = (0, 0) from rfl) rfl (CI.k h fun v22 g22 h => ?_)
            show Wp L xs xm_As_act 172 [.ref 75, .int x1, .int x2, .int x3, .int x4] [.int v22] g22 _
            obtain ⟨q17, h⟩ := h
            exact w_ireturn rfl (xr_bool rfl q17) h
          replace h := h.2 hs4
          by_cases hs5 : x1 = 5
          · replace h := h.1 hs5
            refine w_ts (o := 59) (t := 173) rfl (by rw [hs5]; decide) (by rw [hs5]; rfl) rfl ?_
            refine w_aload_n (pc' := 174) rfl rfl rfl ?_
            refine w_iload_n (pc' := 175) rfl rfl rfl ?_
            refine w_iload_n (pc' := 176) rfl rfl rfl ?_
            refine w_cv (pc' := 179) (cm := xm_As_fetch) (as := [.int x2, .int x3]) (a := 75) (rest := []) rfl rfl rfl  (xa_As_fetch (Nat.le_of_ble_eq_true rfl)) (show xS0 L 75 = (0, 0) from rfl) rfl (CI.k h fun v23 g23 h => ?_)
            show Wp L xs xm_As_act 179 [.ref 75, .int x1, .int x2, .int x3, .int x4] [.int v23] g23 _
            obtain ⟨q18, h⟩ := h
            exact w_ireturn rfl (xr_bool rfl q18) h
          replace h := h.2 hs5
          refine w_tsd (t := 180) rfl ?_ rfl ?_
          · have z1 : (x1).toInt ≠ 1 := fun e => hs1 (Int32.toInt_inj.mp e); have z2 : (x1).toInt ≠ 2 := fun e => hs2 (Int32.toInt_inj.mp e); have z3 : (x1).toInt ≠ 3 := fun e => hs3 (Int32.toInt_inj.mp e); have z4 : (x1).toInt ≠ 4 := fun e => hs4 (Int32.toInt_inj.mp e); have z5 : (x1).toInt ≠ 5 := fun e => hs5 (Int32.toInt_inj.mp e); omega
          refine w_iconst (pc' := 181) rfl rfl (v := 0) rfl ?_
          exact w_ireturn rfl rfl h
        · replace h := h.1 (Classical.not_not.mp hc)
          refine w_iconst (pc' := 112) rfl rfl (v := 0) rfl ?_
          exact w_ireturn rfl rfl h
    replace h := h.2 hs5
    by_cases hs6 : x1 = 6
    · replace h := h.1 hs6
      refine w_ts (o := 64) (t := 75) rfl (by rw [hs6]; decide) (by rw [hs6]; rfl) rfl ?_
      refine w_aload_n (pc' := 76) rfl rfl rfl ?_
      refine w_aload_n (pc' := 77) rfl rfl rfl ?_
      have q19 : xR0 75 2 = some 89 ∧ xS0 L 89 = (24, 7) := (kf_0_2 (show xS0 L 75 = (0, 0) from rfl))
      refine w_getR (pc' := 80) rfl rfl rfl rfl (show xS0 L 75 = (0, 0) from rfl) q19.1 ?_
      refine w_iload_n (pc' := 81) rfl rfl rfl ?_
      obtain ⟨k1, ek1, bk1, h⟩ := h
      have q20 : xR0 89 k1 = some (93 + 11 * k1) ∧ xS0 L (93 + 11 * k1) = (2, 0) := ke_24 q19.2 bk1
      refine w_aaload (pc' := 82) (i := k1) rfl rfl q19.2 (by omega) ek1 bk1 (by omega) q20.1 ?_
      refine w_cv (pc' := 85) (cm := xm_As_doubt) (as := [.ref (93 + 11 * k1)]) (a := 75) (rest := []) rfl rfl rfl  (xa_As_doubt (Nat.le_of_ble_eq_true rfl)) (show xS0 L 75 = (0, 0) from rfl) rfl (CI.k h fun v24 g24 h => ?_)
      show Wp L xs xm_As_act 85 [.ref 75, .int x1, .int x2, .int x3, .int x4] [.int v24] g24 _
      obtain ⟨q21, h⟩ := h
      exact w_ireturn rfl (xr_bool rfl q21) h
    replace h := h.2 hs6
    by_cases hs7 : x1 = 7
    · replace h := h.1 hs7
      refine w_ts (o := 75) (t := 86) rfl (by rw [hs7]; decide) (by rw [hs7]; rfl) rfl ?_
      refine w_aload_n (pc' := 87) rfl rfl rfl ?_
      refine w_iload_n (pc' := 88) rfl rfl rfl ?_
      refine w_cv (pc' := 91) (cm := xm_As_makeView) (as := [.int x2]) (a := 75) (rest := []) rfl rfl rfl  (xa_As_makeView (Nat.le_of_ble_eq_true rfl)) (show xS0 L 75 = (0, 0) from rfl) rfl (CI.k h fun v25 g25 h => ?_)
      show Wp L xs xm_As_act 91 [.ref 75, .int x1, .int x2, .int x3, .int x4] [.int v25] g25 _
      obtain ⟨q22, h⟩ := h
      exact w_ireturn rfl (xr_bool rfl q22) h
    replace h := h.2 hs7
    by_cases hs8 : x1 = 8
    · replace h := h.1 hs8
      refine w_ts (o := 81) (t := 92) rfl (by rw [hs8]; decide) (by rw [hs8]; rfl) rfl ?_
      refine w_aload_n (pc' := 93) rfl rfl rfl ?_
      refine w_iload_n (pc' := 94) rfl rfl rfl ?_
      refine w_cv (pc' := 97) (cm := xm_As_enterMade) (as := [.int x2]) (a := 75) (rest := []) rfl rfl rfl  (xa_As_enterMade (Nat.le_of_ble_eq_true rfl)) (show xS0 L 75 = (0, 0) from rfl) rfl (CI.k h fun v26 g26 h => ?_)
      show Wp L xs xm_As_act 97 [.ref 75, .int x1, .int x2, .int x3, .int x4] [.int v26] g26 _
      obtain ⟨q23, h⟩ := h
      exact w_ireturn rfl (xr_bool rfl q23) h
    replace h := h.2 hs8
    refine w_tsd (t := 98) rfl ?_ rfl ?_
    · have z0 : (x1).toInt ≠ 0 := fun e => hs0 (Int32.toInt_inj.mp e); have z1 : (x1).toInt ≠ 1 := fun e => hs1 (Int32.toInt_inj.mp e); have z2 : (x1).toInt ≠ 2 := fun e => hs2 (Int32.toInt_inj.mp e); have z3 : (x1).toInt ≠ 3 := fun e => hs3 (Int32.toInt_inj.mp e); have z4 : (x1).toInt ≠ 4 := fun e => hs4 (Int32.toInt_inj.mp e); have z5 : (x1).toInt ≠ 5 := fun e => hs5 (Int32.toInt_inj.mp e); have z6 : (x1).toInt ≠ 6 := fun e => hs6 (Int32.toInt_inj.mp e); have z7 : (x1).toInt ≠ 7 := fun e => hs7 (Int32.toInt_inj.mp e); have z8 : (x1).toInt ≠ 8 := fun e => hs8 (Int32.toInt_inj.mp e); omega
    refine w_iload_n (pc' := 99) rfl rfl rfl ?_
    refine w_iload_n (pc' := 100) rfl rfl rfl ?_
    refine w_br2 (pc' := 103) (t := 111) rfl rfl rfl ic_eq (fun hc => ?_) (fun hc => ?_)
    · replace h := h.1 hc
      refine w_iconst (pc' := 112) rfl rfl (v := 0) rfl ?_
      exact w_ireturn rfl rfl h
    · replace h := h.2 hc
      refine w_aload_n (pc' := 104) rfl rfl rfl ?_
      refine w_iload_n (pc' := 105) rfl rfl rfl ?_
      refine w_cv (pc' := 108) (cm := xm_As_isHonest) (as := [.int x3]) (a := 75) (rest := []) rfl rfl rfl  (xa_As_isHonest (Nat.le_of_ble_eq_true rfl)) (show xS0 L 75 = (0, 0) from rfl) rfl (CI.k h fun v27 g27 h => ?_)
      show Wp L xs xm_As_act 108 [.ref 75, .int x1, .int x2, .int x3, .int x4] [.int v27] g27 _
      refine w_br (pc' := 111) (t := 113) rfl rfl rfl ic_ne (fun hc => ?_) (fun hc => ?_)
      · replace h := h.2 hc
        refine w_iload_n (pc' := 114) rfl rfl rfl ?_
        by_cases hs1 : x1 = 1
        · replace h := h.1 hs1
          refine w_ts (o := 34) (t := 148) rfl (by rw [hs1]; decide) (by rw [hs1]; rfl) rfl ?_
          refine w_aload_n (pc' := 149) rfl rfl rfl ?_
          refine w_iload_n (pc' := 150) rfl rfl rfl ?_
          refine w_iload_n (pc' := 151) rfl rfl rfl ?_
          refine w_iload (pc' := 153) rfl rfl rfl ?_
          refine w_cv (pc' := 156) (cm := xm_As_prepare) (as := [.int x2, .int x3, .int x4]) (a := 75) (rest := []) rfl rfl rfl  (xa_As_prepare (Nat.le_of_ble_eq_true rfl)) (show xS0 L 75 = (0, 0) from rfl) rfl (CI.k h fun v28 g28 h => ?_)
          show Wp L xs xm_As_act 156 [.ref 75, .int x1, .int x2, .int x3, .int x4] [.int v28] g28 _
          obtain ⟨q24, h⟩ := h
          exact w_ireturn rfl (xr_bool rfl q24) h
        replace h := h.2 hs1
        by_cases hs2 : x1 = 2
        · replace h := h.1 hs2
          refine w_ts (o := 43) (t := 157) rfl (by rw [hs2]; decide) (by rw [hs2]; rfl) rfl ?_
          refine w_aload_n (pc' := 158) rfl rfl rfl ?_
          refine w_iload_n (pc' := 159) rfl rfl rfl ?_
          refine w_iload_n (pc' := 160) rfl rfl rfl ?_
          refine w_iload (pc' := 162) rfl rfl rfl ?_
          refine w_cv (pc' := 165) (cm := xm_As_commit) (as := [.int x2, .int x3, .int x4]) (a := 75) (rest := []) rfl rfl rfl  (xa_As_commit (Nat.le_of_ble_eq_true rfl)) (show xS0 L 75 = (0, 0) from rfl) rfl (CI.k h fun v29 g29 h => ?_)
          show Wp L xs xm_As_act 165 [.ref 75, .int x1, .int x2, .int x3, .int x4] [.int v29] g29 _
          obtain ⟨q25, h⟩ := h
          exact w_ireturn rfl (xr_bool rfl q25) h
        replace h := h.2 hs2
        by_cases hs3 : x1 = 3
        · replace h := h.1 hs3
          refine w_ts (o := 66) (t := 180) rfl (by rw [hs3]; decide) (by rw [hs3]; rfl) rfl ?_
          refine w_iconst (pc' := 181) rfl rfl (v := 0) rfl ?_
          exact w_ireturn rfl rfl h
        replace h := h.2 hs3
        by_cases hs4 : x1 = 4
        · replace h := h.1 hs4
          refine w_ts (o := 52) (t := 166) rfl (by rw [hs4]; decide) (by rw [hs4]; rfl) rfl ?_
          refine w_aload_n (pc' := 167) rfl rfl rfl ?_
          refine w_iload_n (pc' := 168) rfl rfl rfl ?_
          refine w_iload_n (pc' := 169) rfl rfl rfl ?_
          refine w_cv (pc' := 172) (cm := xm_As_mark) (as := [.int x2, .int x3]) (a := 75) (rest := []) rfl rfl rfl  (xa_As_mark (Nat.le_of_ble_eq_true rfl)) (show xS0 L 75 = (0, 0) from rfl) rfl (CI.k h fun v30 g30 h => ?_)
          show Wp L xs xm_As_act 172 [.ref 75, .int x1, .int x2, .int x3, .int x4] [.int v30] g30 _
          obtain ⟨q26, h⟩ := h
          exact w_ireturn rfl (xr_bool rfl q26) h
        replace h := h.2 hs4
        by_cases hs5 : x1 = 5
        · replace h := h.1 hs5
          refine w_ts (o := 59) (t := 173) rfl (by rw [hs5]; decide) (by rw [hs5]; rfl) rfl ?_
          refine w_aload_n (pc' := 174) rfl rfl rfl ?_
          refine w_iload_n (pc' := 175) rfl rfl rfl ?_
          refine w_iload_n (pc' := 176) rfl rfl rfl ?_
          refine w_cv (pc' := 179) (cm := xm_As_fetch) (as := [.int x2, .int x3]) (a := 75) (rest := []) rfl rfl rfl  (xa_As_fetch (Nat.le_of_ble_eq_true rfl)) (show xS0 L 75 = (0, 0) from rfl) rfl (CI.k h fun v31 g31 h => ?_)
          show Wp L xs xm_As_act 179 [.ref 75, .int x1, .int x2, .int x3, .int x4] [.int v31] g31 _
          obtain ⟨q27, h⟩ := h
          exact w_ireturn rfl (xr_bool rfl q27) h
        replace h := h.2 hs5
        refine w_tsd (t := 180) rfl ?_ rfl ?_
        · have z1 : (x1).toInt ≠ 1 := fun e => hs1 (Int32.toInt_inj.mp e); have z2 : (x1).toInt ≠ 2 := fun e => hs2 (Int32.toInt_inj.mp e); have z3 : (x1).toInt ≠ 3 := fun e => hs3 (Int32.toInt_inj.mp e); have z4 : (x1).toInt ≠ 4 := fun e => hs4 (Int32.toInt_inj.mp e); have z5 : (x1).toInt ≠ 5 := fun e => hs5 (Int32.toInt_inj.mp e); omega
        refine w_iconst (pc' := 181) rfl rfl (v := 0) rfl ?_
        exact w_ireturn rfl rfl h
      · replace h := h.1 (Classical.not_not.mp hc)
        refine w_iconst (pc' := 112) rfl rfl (v := 0) rfl ?_
        exact w_ireturn rfl rfl h
  · replace h := h.1 (Classical.not_not.mp hc)
    refine w_iconst (pc' := 9) rfl rfl (v := 0) rfl ?_
    exact w_ireturn rfl rfl h
theorem t_As_isSeat_0 {L : Nat} {xs : Nat → Int32} {x1 : Int32} {f : Hp} {Q : Int32 → Hp → Prop}  (h : ((x1 < 0 → Q 0 f) ∧ (¬ x1 < 0 → ((x1 < (f 75 4) → Q 1 f) ∧ (¬ x1 < (f 75 4) → Q 0 f))))) : CI L xs xm_As_isSeat [.ref 75, .int x1] f Q := by
  show Wp L xs xm_As_isSeat 0 [.ref 75, .int x1] [] f (QI Q)
  refine w_iload_n (pc' := 1) rfl rfl rfl ?_
  refine w_br (pc' := 4) (t := 16) rfl rfl rfl ic_lt (fun hc => ?_) (fun hc => ?_)
  · replace h := h.1 hc
    refine w_iconst (pc' := 17) rfl rfl (v := 0) rfl ?_
    exact w_ireturn rfl rfl h
  · replace h := h.2 hc
    refine w_iload_n (pc' := 5) rfl rfl rfl ?_
    refine w_aload_n (pc' := 6) rfl rfl rfl ?_
    refine w_getI (pc' := 9) rfl rfl rfl rfl rfl (show xS0 L 75 = (0, 0) from rfl) ?_
    refine w_br2 (pc' := 12) (t := 16) rfl rfl rfl ic_ge (fun hc => ?_) (fun hc => ?_)
    · replace h := h.2 hc
      refine w_iconst (pc' := 17) rfl rfl (v := 0) rfl ?_
      exact w_ireturn rfl rfl h
    · replace h := h.1 (Classical.not_not.mp hc)
      refine w_iconst (pc' := 13) rfl rfl (v := 1) rfl ?_
      refine w_goto (pc' := 17) rfl rfl ?_
      exact w_ireturn rfl rfl h
theorem t_As_propose_0 {L : Nat} {xs : Nat → Int32} {x1 : Int32} {x2 : Int32} {x3 : Int32} {f : Hp} {Q : Int32 → Hp → Prop}  (h : ∃ k1 : Nat, x1 = iN k1 ∧ k1 < 7 ∧ CI L xs xm_As_isHonest [.ref 75, .int x1] f (fun v1 g1 => ((v1 = 0 → Q 0 g1) ∧ (¬ v1 = 0 → (((g1 (93 + 11 * k1) 1) = 0 → Q 0 g1) ∧ (¬ (g1 (93 + 11 * k1) 1) = 0 → ((x3 < 0 → Q 0 g1) ∧ (¬ x3 < 0 → ((x3 < (g1 77 4) → CI L xs xm_Me_isWithin [.ref (93 + 11 * k1), .int x2] g1 (fun v2 g2 => ((v2 = 0 → Q 0 g2) ∧ (¬ v2 = 0 → CI L xs xm_Me_hasAccepted [.ref (93 + 11 * k1), .int x2] g2 (fun v3 g3 => ((v3 = 0 → CI L xs xm_As_primaryOf [.ref 75, .int (g3 (93 + 11 * k1) 0)] g3 (fun v4 g4 => ∃ k2 : Nat, v4 = iN k2 ∧ k2 < 7 ∧ ((v4 = x1 → Wp L xs xm_As_propose 130 [.ref 75, .int x1, .int x2, .int x3, .ref (93 + 11 * k1), .int v4, .ref (93 + 11 * k2)] [] g4 (QI Q)) ∧ (¬ v4 = x1 → CI L xs xm_As_isHonest [.ref 75, .int v4] g4 (fun v5 g5 => ((v5 = 0 → Wp L xs xm_As_propose 130 [.ref 75, .int x1, .int x2, .int x3, .ref (93 + 11 * k1), .int v4, .ref (93 + 11 * k2)] [] g5 (QI Q)) ∧ (¬ v5 = 0 → (((g5 (93 + 11 * k2) 1) = 0 → Q 0 g5) ∧ (¬ (g5 (93 + 11 * k2) 1) = 0 → (((g5 (93 + 11 * k2) 0) = (g5 (93 + 11 * k1) 0) → ∃ k3 : Nat, x2 = iN k3 ∧ k3 < 13 ∧ (((g5 (93 + 11 * k2 + 3) k3) = x3 → Wp L xs xm_As_propose 130 [.ref 75, .int x1, .int x2, .int x3, .ref (93 + 11 * k1), .int v4, .ref (93 + 11 * k2)] [] g5 (QI Q)) ∧ (¬ (g5 (93 + 11 * k2 + 3) k3) = x3 → Q 0 g5))) ∧ (¬ (g5 (93 + 11 * k2) 0) = (g5 (93 + 11 * k1) 0) → Q 0 g5))))))))))) ∧ (¬ v3 = 0 → Q 0 g3))))))) ∧ (¬ x3 < (g1 77 4) → Q 0 g1)))))))))) : CI L xs xm_As_propose [.ref 75, .int x1, .int x2, .int x3] f Q := by
  show Wp L xs xm_As_propose 0 [.ref 75, .int x1, .int x2, .int x3, .retAddr 0, .retAddr 0, .retAddr 0] [] f (QI Q)
  refine w_aload_n (pc' := 1) rfl rfl rfl ?_
  have q1 : xR0 75 2 = some 89 ∧ xS0 L 89 = (24, 7) := (kf_0_2 (show xS0 L 75 = (0, 0) from rfl))
  refine w_getR (pc' := 4) rfl rfl rfl rfl (show xS0 L 75 = (0, 0) from rfl) q1.1 ?_
  refine w_iload_n (pc' := 5) rfl rfl rfl ?_
  obtain ⟨k1, ek1, bk1, h⟩ := h
  have q2 : xR0 89 k1 = some (93 + 11 * k1) ∧ xS0 L (93 + 11 * k1) = (2, 0) := ke_24 q1.2 bk1
  refine w_aaload (pc' := 6) (i := k1) rfl rfl q1.2 (by omega) ek1 bk1 (by omega) q2.1 ?_
  refine w_astore (pc' := 8) rfl rfl (xl' := [.ref 75, .int x1, .int x2, .int x3, .ref (93 + 11 * k1), .retAddr 0, .retAddr 0]) rfl ?_
  refine w_aload_n (pc' := 9) rfl rfl rfl ?_
  refine w_iload_n (pc' := 10) rfl rfl rfl ?_
  refine w_cv (pc' := 13) (cm := xm_As_isHonest) (as := [.int x1]) (a := 75) (rest := []) rfl rfl rfl  (xa_As_isHonest (Nat.le_of_ble_eq_true rfl)) (show xS0 L 75 = (0, 0) from rfl) rfl (CI.k h fun v1 g1 h => ?_)
  show Wp L xs xm_As_propose 13 [.ref 75, .int x1, .int x2, .int x3, .ref (93 + 11 * k1), .retAddr 0, .retAddr 0] [.int v1] g1 _
  refine w_br (pc' := 16) (t := 39) rfl rfl rfl ic_eq (fun hc => ?_) (fun hc => ?_)
  · replace h := h.1 hc
    refine w_iconst (pc' := 40) rfl rfl (v := 0) rfl ?_
    exact w_ireturn rfl rfl h
  · replace h := h.2 hc
    refine w_aload (pc' := 18) rfl rfl rfl ?_
    refine w_getI (pc' := 21) rfl rfl rfl rfl rfl q2.2 ?_
    refine w_br (pc' := 24) (t := 39) rfl rfl rfl ic_eq (fun hc => ?_) (fun hc => ?_)
    · replace h := h.1 hc
      refine w_iconst (pc' := 40) rfl rfl (v := 0) rfl ?_
      exact w_ireturn rfl rfl h
    · replace h := h.2 hc
      refine w_iload_n (pc' := 25) rfl rfl rfl ?_
      refine w_br (pc' := 28) (t := 39) rfl rfl rfl ic_lt (fun hc => ?_) (fun hc => ?_)
      · replace h := h.1 hc
        refine w_iconst (pc' := 40) rfl rfl (v := 0) rfl ?_
        exact w_ireturn rfl rfl h
      · replace h := h.2 hc
        refine w_iload_n (pc' := 29) rfl rfl rfl ?_
        refine w_aload_n (pc' := 30) rfl rfl rfl ?_
        have q3 : xR0 75 1 = some 77 ∧ xS0 L 77 = (1, 0) := (kf_0_1 (show xS0 L 75 = (0, 0) from rfl))
        refine w_getR (pc' := 33) rfl rfl rfl rfl (show xS0 L 75 = (0, 0) from rfl) q3.1 ?_
        refine w_getI (pc' := 36) rfl rfl rfl rfl rfl q3.2 ?_
        refine w_br2 (pc' := 39) (t := 41) rfl rfl rfl ic_lt (fun hc => ?_) (fun hc => ?_)
        · replace h := h.1 hc
          refine w_aload (pc' := 43) rfl rfl rfl ?_
          refine w_iload_n (pc' := 44) rfl rfl rfl ?_
          refine w_cv (pc' := 47) (cm := xm_Me_isWithin) (as := [.int x2]) (a := (93 + 11 * k1)) (rest := []) rfl rfl rfl  (xa_Me_isWithin (Nat.le_of_ble_eq_true rfl)) q2.2 rfl (CI.k h fun v2 g2 h => ?_)
          show Wp L xs xm_As_propose 47 [.ref 75, .int x1, .int x2, .int x3, .ref (93 + 11 * k1), .retAddr 0, .retAddr 0] [.int v2] g2 _
          refine w_br (pc' := 50) (t := 59) rfl rfl rfl ic_eq (fun hc => ?_) (fun hc => ?_)
          · replace h := h.1 hc
            refine w_iconst (pc' := 60) rfl rfl (v := 0) rfl ?_
            exact w_ireturn rfl rfl h
          · replace h := h.2 hc
            refine w_aload (pc' := 52) rfl rfl rfl ?_
            refine w_iload_n (pc' := 53) rfl rfl rfl ?_
            refine w_cv (pc' := 56) (cm := xm_Me_hasAccepted) (as := [.int x2]) (a := (93 + 11 * k1)) (rest := []) rfl rfl rfl  (xa_Me_hasAccepted (Nat.le_of_ble_eq_true rfl)) q2.2 rfl (CI.k h fun v3 g3 h => ?_)
            show Wp L xs xm_As_propose 56 [.ref 75, .int x1, .int x2, .int x3, .ref (93 + 11 * k1), .retAddr 0, .retAddr 0] [.int v3] g3 _
            refine w_br (pc' := 59) (t := 61) rfl rfl rfl ic_eq (fun hc => ?_) (fun hc => ?_)
            · replace h := h.1 hc
              refine w_aload_n (pc' := 62) rfl rfl rfl ?_
              refine w_aload (pc' := 64) rfl rfl rfl ?_
              refine w_getI (pc' := 67) rfl rfl rfl rfl rfl q2.2 ?_
              refine w_cv (pc' := 70) (cm := xm_As_primaryOf) (as := [.int (g3 (93 + 11 * k1) 0)]) (a := 75) (rest := []) rfl rfl rfl  (xa_As_primaryOf (Nat.le_of_ble_eq_true rfl)) (show xS0 L 75 = (0, 0) from rfl) rfl (CI.k h fun v4 g4 h => ?_)
              show Wp L xs xm_As_propose 70 [.ref 75, .int x1, .int x2, .int x3, .ref (93 + 11 * k1), .retAddr 0, .retAddr 0] [.int v4] g4 _
              refine w_istore (pc' := 72) rfl rfl (xl' := [.ref 75, .int x1, .int x2, .int x3, .ref (93 + 11 * k1), .int v4, .retAddr 0]) rfl ?_
              refine w_aload_n (pc' := 73) rfl rfl rfl ?_
              have q4 : xR0 75 2 = some 89 ∧ xS0 L 89 = (24, 7) := (kf_0_2 (show xS0 L 75 = (0, 0) from rfl))
              refine w_getR (pc' := 76) rfl rfl rfl rfl (show xS0 L 75 = (0, 0) from rfl) q4.1 ?_
              refine w_iload (pc' := 78) rfl rfl rfl ?_
              obtain ⟨k2, ek2, bk2, h⟩ := h
              have q5 : xR0 89 k2 = some (93 + 11 * k2) ∧ xS0 L (93 + 11 * k2) = (2, 0) := ke_24 q4.2 bk2
              refine w_aaload (pc' := 79) (i := k2) rfl rfl q4.2 (by omega) ek2 bk2 (by omega) q5.1 ?_
              refine w_astore (pc' := 81) rfl rfl (xl' := [.ref 75, .int x1, .int x2, .int x3, .ref (93 + 11 * k1), .int v4, .ref (93 + 11 * k2)]) rfl ?_
              refine w_iload (pc' := 83) rfl rfl rfl ?_
              refine w_iload_n (pc' := 84) rfl rfl rfl ?_
              refine w_br2 (pc' := 87) (t := 130) rfl rfl rfl ic_eq (fun hc => ?_) (fun hc => ?_)
              · replace h := h.1 hc
                exact h
              · replace h := h.2 hc
                refine w_aload_n (pc' := 88) rfl rfl rfl ?_
                refine w_iload (pc' := 90) rfl rfl rfl ?_
                refine w_cv (pc' := 93) (cm := xm_As_isHonest) (as := [.int v4]) (a := 75) (rest := []) rfl rfl rfl  (xa_As_isHonest (Nat.le_of_ble_eq_true rfl)) (show xS0 L 75 = (0, 0) from rfl) rfl (CI.k h fun v5 g5 h => ?_)
                show Wp L xs xm_As_propose 93 [.ref 75, .int x1, .int x2, .int x3, .ref (93 + 11 * k1), .int v4, .ref (93 + 11 * k2)] [.int v5] g5 _
                refine w_br (pc' := 96) (t := 130) rfl rfl rfl ic_eq (fun hc => ?_) (fun hc => ?_)
                · replace h := h.1 hc
                  exact h
                · replace h := h.2 hc
                  refine w_aload (pc' := 98) rfl rfl rfl ?_
                  refine w_getI (pc' := 101) rfl rfl rfl rfl rfl q5.2 ?_
                  refine w_br (pc' := 104) (t := 128) rfl rfl rfl ic_eq (fun hc => ?_) (fun hc => ?_)
                  · replace h := h.1 hc
                    refine w_iconst (pc' := 129) rfl rfl (v := 0) rfl ?_
                    exact w_ireturn rfl rfl h
                  · replace h := h.2 hc
                    refine w_aload (pc' := 106) rfl rfl rfl ?_
                    refine w_getI (pc' := 109) rfl rfl rfl rfl rfl q5.2 ?_
                    refine w_aload (pc' := 111) rfl rfl rfl ?_
                    refine w_getI (pc' := 114) rfl rfl rfl rfl rfl q2.2 ?_
                    refine w_br2 (pc' := 117) (t := 128) rfl rfl rfl ic_ne (fun hc => ?_) (fun hc => ?_)
                    · replace h := h.2 hc
                      refine w_iconst (pc' := 129) rfl rfl (v := 0) rfl ?_
                      exact w_ireturn rfl rfl h
                    · replace h := h.1 (Classical.not_not.mp hc)
                      refine w_aload (pc' := 119) rfl rfl rfl ?_
                      have q6 : xR0 (93 + 11 * k2) 10 = some (93 + 11 * k2 + 3) ∧ xS0 L (93 + 11 * k2 + 3) = (20, 13) := (kf_2_10 q5.2)
                      refine w_getR (pc' := 122) rfl rfl rfl rfl q5.2 q6.1 ?_
                      refine w_iload_n (pc' := 123) rfl rfl rfl ?_
                      obtain ⟨k3, ek3, bk3, h⟩ := h
                      refine w_iaload (pc' := 124) (i := k3) rfl rfl q6.2 ek3 bk3 (by omega) ?_
                      refine w_iload_n (pc' := 125) rfl rfl rfl ?_
                      refine w_br2 (pc' := 128) (t := 130) rfl rfl rfl ic_eq (fun hc => ?_) (fun hc => ?_)
                      · replace h := h.1 hc
                        exact h
                      · replace h := h.2 hc
                        refine w_iconst (pc' := 129) rfl rfl (v := 0) rfl ?_
                        exact w_ireturn rfl rfl h
            · replace h := h.2 hc
              refine w_iconst (pc' := 60) rfl rfl (v := 0) rfl ?_
              exact w_ireturn rfl rfl h
        · replace h := h.2 hc
          refine w_iconst (pc' := 40) rfl rfl (v := 0) rfl ?_
          exact w_ireturn rfl rfl h
theorem t_As_propose_130 {L : Nat} {xs : Nat → Int32} {x1 : Int32} {x2 : Int32} {x3 : Int32} {x4 : Nat} {x5 : Int32} {x6 : Nat} {f : Hp} {Q : Int32 → Hp → Prop} (qx4 : xS0 L x4 = (2, 0)) (qx6 : xS0 L x6 = (2, 0)) (h : CV L xs xm_Me_accept [.ref x4, .int x2, .int x3] f (fun g1 => CV L xs xm_Me_addPrepares [.ref x4, .int x2, .int ((1 <<< (x1 &&& 31)) ||| (1 <<< (x5 &&& 31))), .int x1] g1 (fun g2 => Q 1 g2))) : Wp L xs xm_As_propose 130 [.ref 75, .int x1, .int x2, .int x3, .ref x4, .int x5, .ref x6] [] f (QI Q) := by
  refine w_aload (pc' := 132) rfl rfl rfl ?_
  refine w_iload_n (pc' := 133) rfl rfl rfl ?_
  refine w_iload_n (pc' := 134) rfl rfl rfl ?_
  refine w_cv (pc' := 137) (cm := xm_Me_accept) (as := [.int x2, .int x3]) (a := x4) (rest := []) rfl rfl rfl  (xa_Me_accept (Nat.le_of_ble_eq_true rfl)) qx4 rfl (CV.k h fun g1 h => ?_)
  show Wp L xs xm_As_propose 137 [.ref 75, .int x1, .int x2, .int x3, .ref x4, .int x5, .ref x6] [] g1 _
  refine w_aload (pc' := 139) rfl rfl rfl ?_
  refine w_iload_n (pc' := 140) rfl rfl rfl ?_
  refine w_iconst (pc' := 141) rfl rfl (v := 1) rfl ?_
  refine w_iload_n (pc' := 142) rfl rfl rfl ?_
  refine w_ishl (pc' := 143) rfl rfl ?_
  refine w_iconst (pc' := 144) rfl rfl (v := 1) rfl ?_
  refine w_iload (pc' := 146) rfl rfl rfl ?_
  refine w_ishl (pc' := 147) rfl rfl ?_
  refine w_ior (pc' := 148) rfl rfl ?_
  refine w_iload_n (pc' := 149) rfl rfl rfl ?_
  refine w_cv (pc' := 152) (cm := xm_Me_addPrepares) (as := [.int x2, .int ((1 <<< (x1 &&& 31)) ||| (1 <<< (x5 &&& 31))), .int x1]) (a := x4) (rest := []) rfl rfl rfl  (xa_Me_addPrepares (Nat.le_of_ble_eq_true rfl)) qx4 rfl (CV.k h fun g2 h => ?_)
  show Wp L xs xm_As_propose 152 [.ref 75, .int x1, .int x2, .int x3, .ref x4, .int x5, .ref x6] [] g2 _
  refine w_iconst (pc' := 153) rfl rfl (v := 1) rfl ?_
  exact w_ireturn rfl rfl h
theorem t_As_isHonest_0 {L : Nat} {xs : Nat → Int32} {x1 : Int32} {f : Hp} {Q : Int32 → Hp → Prop}  (h : ((x1 < 0 → Q 0 f) ∧ (¬ x1 < 0 → ((x1 < (f 75 4) → (((((f 77 3) >>> (x1 &&& 31)) &&& 1) = 0 → Q 1 f) ∧ (¬ (((f 77 3) >>> (x1 &&& 31)) &&& 1) = 0 → Q 0 f))) ∧ (¬ x1 < (f 75 4) → Q 0 f))))) : CI L xs xm_As_isHonest [.ref 75, .int x1] f Q := by
  show Wp L xs xm_As_isHonest 0 [.ref 75, .int x1] [] f (QI Q)
  refine w_iload_n (pc' := 1) rfl rfl rfl ?_
  refine w_br (pc' := 4) (t := 30) rfl rfl rfl ic_lt (fun hc => ?_) (fun hc => ?_)
  · replace h := h.1 hc
    refine w_iconst (pc' := 31) rfl rfl (v := 0) rfl ?_
    exact w_ireturn rfl rfl h
  · replace h := h.2 hc
    refine w_iload_n (pc' := 5) rfl rfl rfl ?_
    refine w_aload_n (pc' := 6) rfl rfl rfl ?_
    refine w_getI (pc' := 9) rfl rfl rfl rfl rfl (show xS0 L 75 = (0, 0) from rfl) ?_
    refine w_br2 (pc' := 12) (t := 30) rfl rfl rfl ic_ge (fun hc => ?_) (fun hc => ?_)
    · replace h := h.2 hc
      refine w_iconst (pc' := 31) rfl rfl (v := 0) rfl ?_
      exact w_ireturn rfl rfl h
    · replace h := h.1 (Classical.not_not.mp hc)
      refine w_aload_n (pc' := 13) rfl rfl rfl ?_
      have q1 : xR0 75 1 = some 77 ∧ xS0 L 77 = (1, 0) := (kf_0_1 (show xS0 L 75 = (0, 0) from rfl))
      refine w_getR (pc' := 16) rfl rfl rfl rfl (show xS0 L 75 = (0, 0) from rfl) q1.1 ?_
      refine w_getI (pc' := 19) rfl rfl rfl rfl rfl q1.2 ?_
      refine w_iload_n (pc' := 20) rfl rfl rfl ?_
      refine w_ishr (pc' := 21) rfl rfl ?_
      refine w_iconst (pc' := 22) rfl rfl (v := 1) rfl ?_
      refine w_iand (pc' := 23) rfl rfl ?_
      refine w_br (pc' := 26) (t := 30) rfl rfl rfl ic_ne (fun hc => ?_) (fun hc => ?_)
      · replace h := h.2 hc
        refine w_iconst (pc' := 31) rfl rfl (v := 0) rfl ?_
        exact w_ireturn rfl rfl h
      · replace h := h.1 (Classical.not_not.mp hc)
        refine w_iconst (pc' := 27) rfl rfl (v := 1) rfl ?_
        refine w_goto (pc' := 31) rfl rfl ?_
        exact w_ireturn rfl rfl h
theorem t_As_primaryOf_0 {L : Nat} {xs : Nat → Int32} {x1 : Int32} {f : Hp} {Q : Int32 → Hp → Prop}  (h : ((0 < (f 75 4) → (f 75 4) ≠ 0 ∧ Q (jrem x1 (f 75 4)) f) ∧ (¬ 0 < (f 75 4) → Q 0 f))) : CI L xs xm_As_primaryOf [.ref 75, .int x1] f Q := by
  show Wp L xs xm_As_primaryOf 0 [.ref 75, .int x1] [] f (QI Q)
  refine w_aload_n (pc' := 1) rfl rfl rfl ?_
  refine w_getI (pc' := 4) rfl rfl rfl rfl rfl (show xS0 L 75 = (0, 0) from rfl) ?_
  refine w_br (pc' := 7) (t := 16) rfl rfl rfl ic_le (fun hc => ?_) (fun hc => ?_)
  · replace h := h.2 hc
    refine w_iconst (pc' := 17) rfl rfl (v := 0) rfl ?_
    exact w_ireturn rfl rfl h
  · replace h := h.1 (Classical.not_not.mp hc)
    refine w_iload_n (pc' := 8) rfl rfl rfl ?_
    refine w_aload_n (pc' := 9) rfl rfl rfl ?_
    refine w_getI (pc' := 12) rfl rfl rfl rfl rfl (show xS0 L 75 = (0, 0) from rfl) ?_
    obtain ⟨q1, h⟩ := h
    refine w_irem (pc' := 13) rfl rfl q1 ?_
    refine w_goto (pc' := 17) rfl rfl ?_
    exact w_ireturn rfl rfl h
theorem t_As_runOn_0 {L : Nat} {xs : Nat → Int32} {x1 : Int32} {f : Hp} {Q : Int32 → Hp → Prop}  (h : ∃ k1 : Nat, x1 = iN k1 ∧ k1 < 7 ∧ CI L xs xm_As_isHonest [.ref 75, .int x1] f (fun v1 g1 => ((v1 = 0 → Q 0 g1) ∧ (¬ v1 = 0 → CI L xs xm_Me_isCommitted [.ref (93 + 11 * k1), .int ((g1 (93 + 11 * k1) 3) + 1)] g1 (fun v2 g2 => ((v2 = 0 → Q 0 g2) ∧ (¬ v2 = 0 → Wp L xs xm_As_runOn 37 [.ref 75, .int x1, .ref (93 + 11 * k1), .int ((g2 (93 + 11 * k1) 3) + 1), .retAddr 0] [] g2 (QI Q)))))))) : CI L xs xm_As_runOn [.ref 75, .int x1] f Q := by
  show Wp L xs xm_As_runOn 0 [.ref 75, .int x1, .retAddr 0, .retAddr 0, .retAddr 0] [] f (QI Q)
  refine w_aload_n (pc' := 1) rfl rfl rfl ?_
  have q1 : xR0 75 2 = some 89 ∧ xS0 L 89 = (24, 7) := (kf_0_2 (show xS0 L 75 = (0, 0) from rfl))
  refine w_getR (pc' := 4) rfl rfl rfl rfl (show xS0 L 75 = (0, 0) from rfl) q1.1 ?_
  refine w_iload_n (pc' := 5) rfl rfl rfl ?_
  obtain ⟨k1, ek1, bk1, h⟩ := h
  have q2 : xR0 89 k1 = some (93 + 11 * k1) ∧ xS0 L (93 + 11 * k1) = (2, 0) := ke_24 q1.2 bk1
  refine w_aaload (pc' := 6) (i := k1) rfl rfl q1.2 (by omega) ek1 bk1 (by omega) q2.1 ?_
  refine w_astore_n (pc' := 7) rfl rfl (xl' := [.ref 75, .int x1, .ref (93 + 11 * k1), .retAddr 0, .retAddr 0]) rfl ?_
  refine w_aload_n (pc' := 8) rfl rfl rfl ?_
  refine w_iload_n (pc' := 9) rfl rfl rfl ?_
  refine w_cv (pc' := 12) (cm := xm_As_isHonest) (as := [.int x1]) (a := 75) (rest := []) rfl rfl rfl  (xa_As_isHonest (Nat.le_of_ble_eq_true rfl)) (show xS0 L 75 = (0, 0) from rfl) rfl (CI.k h fun v1 g1 h => ?_)
  show Wp L xs xm_As_runOn 12 [.ref 75, .int x1, .ref (93 + 11 * k1), .retAddr 0, .retAddr 0] [.int v1] g1 _
  refine w_br (pc' := 15) (t := 28) rfl rfl rfl ic_eq (fun hc => ?_) (fun hc => ?_)
  · replace h := h.1 hc
    refine w_iconst (pc' := 29) rfl rfl (v := 0) rfl ?_
    exact w_ireturn rfl rfl h
  · replace h := h.2 hc
    refine w_aload_n (pc' := 16) rfl rfl rfl ?_
    refine w_aload_n (pc' := 17) rfl rfl rfl ?_
    refine w_getI (pc' := 20) rfl rfl rfl rfl rfl q2.2 ?_
    refine w_iconst (pc' := 21) rfl rfl (v := 1) rfl ?_
    refine w_iadd (pc' := 22) rfl rfl ?_
    refine w_cv (pc' := 25) (cm := xm_Me_isCommitted) (as := [.int ((g1 (93 + 11 * k1) 3) + 1)]) (a := (93 + 11 * k1)) (rest := []) rfl rfl rfl  (xa_Me_isCommitted (Nat.le_of_ble_eq_true rfl)) q2.2 rfl (CI.k h fun v2 g2 h => ?_)
    show Wp L xs xm_As_runOn 25 [.ref 75, .int x1, .ref (93 + 11 * k1), .retAddr 0, .retAddr 0] [.int v2] g2 _
    refine w_br (pc' := 28) (t := 30) rfl rfl rfl ic_ne (fun hc => ?_) (fun hc => ?_)
    · replace h := h.2 hc
      refine w_aload_n (pc' := 31) rfl rfl rfl ?_
      refine w_getI (pc' := 34) rfl rfl rfl rfl rfl q2.2 ?_
      refine w_iconst (pc' := 35) rfl rfl (v := 1) rfl ?_
      refine w_iadd (pc' := 36) rfl rfl ?_
      refine w_istore_n (pc' := 37) rfl rfl (xl' := [.ref 75, .int x1, .ref (93 + 11 * k1), .int ((g2 (93 + 11 * k1) 3) + 1), .retAddr 0]) rfl ?_
      exact h
    · replace h := h.1 (Classical.not_not.mp hc)
      refine w_iconst (pc' := 29) rfl rfl (v := 0) rfl ?_
      exact w_ireturn rfl rfl h
theorem t_As_runOn_37 {L : Nat} {xs : Nat → Int32} {x1 : Int32} {x2 : Nat} {x3 : Int32} {x4 : Value} {f : Hp} {Q : Int32 → Hp → Prop} (qx2 : xS0 L x2 = (2, 0)) (cx4 : (x4.category != 2) = true) (h : ((12 < x3 → Q 1 f) ∧ (¬ 12 < x3 → CI L xs xm_Me_isCommitted [.ref x2, .int x3] f (fun v1 g1 => ((v1 = 0 → Q 1 g1) ∧ (¬ v1 = 0 → ∃ k1 : Nat, x3 = iN k1 ∧ k1 < 13 ∧ CV L xs xm_Co_runOrder [.ref 77, .int (g1 (x2 + 3) k1), .ref (x2 + 1)] g1 (fun g2 => ∀ g3, g3 = xu g2 (x2 + 8) k1 (g1 (x2 + 3) k1) → ∀ g4, g4 = xu g3 x2 3 x3 → ((0 < (g4 77 2) → (g4 77 2) ≠ 0 ∧ (((jrem x3 (g4 77 2)) = 0 → CV L xs xm_As_checkpoint [.ref 75, .int x1] g4 (fun g5 => CV L xs xm_Me_countVotes [.ref x2] g5 (fun g6 => Wp L xs xm_As_runOn 37 [.ref 75, .int x1, .ref x2, .int (x3 + 1), .int (g1 (x2 + 3) k1)] [] g6 (QI Q)))) ∧ (¬ (jrem x3 (g4 77 2)) = 0 → Wp L xs xm_As_runOn 37 [.ref 75, .int x1, .ref x2, .int (x3 + 1), .int (g1 (x2 + 3) k1)] [] g4 (QI Q)))) ∧ (¬ 0 < (g4 77 2) → Wp L xs xm_As_runOn 37 [.ref 75, .int x1, .ref x2, .int (x3 + 1), .int (g1 (x2 + 3) k1)] [] g4 (QI Q)))))))))) : Wp L xs xm_As_runOn 37 [.ref 75, .int x1, .ref x2, .int x3, x4] [] f (QI Q) := by
  refine w_iload_n (pc' := 38) rfl rfl rfl ?_
  refine w_bipush (pc' := 40) rfl rfl (v := 12) rfl ?_
  refine w_br2 (pc' := 43) (t := 122) rfl rfl rfl ic_gt (fun hc => ?_) (fun hc => ?_)
  · replace h := h.1 hc
    refine w_iconst (pc' := 123) rfl rfl (v := 1) rfl ?_
    exact w_ireturn rfl rfl h
  · replace h := h.2 hc
    refine w_aload_n (pc' := 44) rfl rfl rfl ?_
    refine w_iload_n (pc' := 45) rfl rfl rfl ?_
    refine w_cv (pc' := 48) (cm := xm_Me_isCommitted) (as := [.int x3]) (a := x2) (rest := []) rfl rfl rfl  (xa_Me_isCommitted (Nat.le_of_ble_eq_true rfl)) qx2 rfl (CI.k h fun v1 g1 h => ?_)
    show Wp L xs xm_As_runOn 48 [.ref 75, .int x1, .ref x2, .int x3, x4] [.int v1] g1 _
    refine w_br (pc' := 51) (t := 122) rfl rfl rfl ic_eq (fun hc => ?_) (fun hc => ?_)
    · replace h := h.1 hc
      refine w_iconst (pc' := 123) rfl rfl (v := 1) rfl ?_
      exact w_ireturn rfl rfl h
    · replace h := h.2 hc
      refine w_aload_n (pc' := 52) rfl rfl rfl ?_
      have q1 : xR0 x2 10 = some (x2 + 3) ∧ xS0 L (x2 + 3) = (20, 13) := (kf_2_10 qx2)
      refine w_getR (pc' := 55) rfl rfl rfl rfl qx2 q1.1 ?_
      refine w_iload_n (pc' := 56) rfl rfl rfl ?_
      obtain ⟨k1, ek1, bk1, h⟩ := h
      refine w_iaload (pc' := 57) (i := k1) rfl rfl q1.2 ek1 bk1 (by omega) ?_
      refine w_istore (pc' := 59) rfl rfl (xl' := [.ref 75, .int x1, .ref x2, .int x3, .int (g1 (x2 + 3) k1)]) rfl ?_
      refine w_aload_n (pc' := 60) rfl rfl rfl ?_
      have q2 : xR0 75 1 = some 77 ∧ xS0 L 77 = (1, 0) := (kf_0_1 (show xS0 L 75 = (0, 0) from rfl))
      refine w_getR (pc' := 63) rfl rfl rfl rfl (show xS0 L 75 = (0, 0) from rfl) q2.1 ?_
      refine w_iload (pc' := 65) rfl rfl rfl ?_
      refine w_aload_n (pc' := 66) rfl rfl rfl ?_
      have q3 : xR0 x2 8 = some (x2 + 1) ∧ xS0 L (x2 + 1) = (20, 8) := (kf_2_8 qx2)
      refine w_getR (pc' := 69) rfl rfl rfl rfl qx2 q3.1 ?_
      refine w_cv (pc' := 72) (cm := xm_Co_runOrder) (as := [.int (g1 (x2 + 3) k1), .ref (x2 + 1)]) (a := 77) (rest := []) rfl rfl rfl  (xa_Co_runOrder (Nat.le_of_ble_eq_true rfl)) q2.2 rfl (CV.k h fun g2 h => ?_)
      show Wp L xs xm_As_runOn 72 [.ref 75, .int x1, .ref x2, .int x3, .int (g1 (x2 + 3) k1)] [] g2 _
      refine w_aload_n (pc' := 73) rfl rfl rfl ?_
      have q4 : xR0 x2 15 = some (x2 + 8) ∧ xS0 L (x2 + 8) = (20, 13) := (kf_2_15 qx2)
      refine w_getR (pc' := 76) rfl rfl rfl rfl qx2 q4.1 ?_
      refine w_iload_n (pc' := 77) rfl rfl rfl ?_
      refine w_iload (pc' := 79) rfl rfl rfl ?_
      refine w_iastore (pc' := 80) (i := k1) rfl rfl q4.2 ek1 bk1 (by omega) ?_
      replace h := h _ rfl
      generalize xu g2 (x2 + 8) k1 (g1 (x2 + 3) k1) = g3 at h ⊢
      refine w_aload_n (pc' := 81) rfl rfl rfl ?_
      refine w_iload_n (pc' := 82) rfl rfl rfl ?_
      refine w_putI (pc' := 85) rfl rfl rfl rfl qx2 ?_
      replace h := h _ rfl
      generalize xu g3 x2 3 x3 = g4 at h ⊢
      refine w_aload_n (pc' := 86) rfl rfl rfl ?_
      have q5 : xR0 75 1 = some 77 ∧ xS0 L 77 = (1, 0) := (kf_0_1 (show xS0 L 75 = (0, 0) from rfl))
      refine w_getR (pc' := 89) rfl rfl rfl rfl (show xS0 L 75 = (0, 0) from rfl) q5.1 ?_
      refine w_getI (pc' := 92) rfl rfl rfl rfl rfl q5.2 ?_
      refine w_br (pc' := 95) (t := 116) rfl rfl rfl ic_le (fun hc => ?_) (fun hc => ?_)
      · replace h := h.2 hc
        refine w_iinc (pc' := 119) rfl rfl rfl (v := (x3 + 1)) rfl (xl' := [.ref 75, .int x1, .ref x2, .int (x3 + 1), .int (g1 (x2 + 3) k1)]) rfl ?_
        refine w_goto (pc' := 37) rfl rfl ?_
        exact h
      · replace h := h.1 (Classical.not_not.mp hc)
        refine w_iload_n (pc' := 96) rfl rfl rfl ?_
        refine w_aload_n (pc' := 97) rfl rfl rfl ?_
        have q6 : xR0 75 1 = some 77 ∧ xS0 L 77 = (1, 0) := (kf_0_1 (show xS0 L 75 = (0, 0) from rfl))
        refine w_getR (pc' := 100) rfl rfl rfl rfl (show xS0 L 75 = (0, 0) from rfl) q6.1 ?_
        refine w_getI (pc' := 103) rfl rfl rfl rfl rfl q6.2 ?_
        obtain ⟨q7, h⟩ := h
        refine w_irem (pc' := 104) rfl rfl q7 ?_
        refine w_br (pc' := 107) (t := 116) rfl rfl rfl ic_ne (fun hc => ?_) (fun hc => ?_)
        · replace h := h.2 hc
          refine w_iinc (pc' := 119) rfl rfl rfl (v := (x3 + 1)) rfl (xl' := [.ref 75, .int x1, .ref x2, .int (x3 + 1), .int (g1 (x2 + 3) k1)]) rfl ?_
          refine w_goto (pc' := 37) rfl rfl ?_
          exact h
        · replace h := h.1 (Classical.not_not.mp hc)
          refine w_aload_n (pc' := 108) rfl rfl rfl ?_
          refine w_iload_n (pc' := 109) rfl rfl rfl ?_
          refine w_cv (pc' := 112) (cm := xm_As_checkpoint) (as := [.int x1]) (a := 75) (rest := []) rfl rfl rfl  (xa_As_checkpoint (Nat.le_of_ble_eq_true rfl)) (show xS0 L 75 = (0, 0) from rfl) rfl (CV.k h fun g5 h => ?_)
          show Wp L xs xm_As_runOn 112 [.ref 75, .int x1, .ref x2, .int x3, .int (g1 (x2 + 3) k1)] [] g5 _
          refine w_aload_n (pc' := 113) rfl rfl rfl ?_
          refine w_cv (pc' := 116) (cm := xm_Me_countVotes) (as := []) (a := x2) (rest := []) rfl rfl rfl  (xa_Me_countVotes (Nat.le_of_ble_eq_true rfl)) qx2 rfl (CV.k h fun g6 h => ?_)
          show Wp L xs xm_As_runOn 116 [.ref 75, .int x1, .ref x2, .int x3, .int (g1 (x2 + 3) k1)] [] g6 _
          refine w_iinc (pc' := 119) rfl rfl rfl (v := (x3 + 1)) rfl (xl' := [.ref 75, .int x1, .ref x2, .int (x3 + 1), .int (g1 (x2 + 3) k1)]) rfl ?_
          refine w_goto (pc' := 37) rfl rfl ?_
          exact h
theorem t_As_checkpoint_0 {L : Nat} {xs : Nat → Int32} {x1 : Int32} {f : Hp} {Q : Hp → Prop}  (h : ∃ k1 : Nat, x1 = iN k1 ∧ k1 < 7 ∧ ∀ g1, g1 = xu f (93 + 11 * k1) 5 (f (93 + 11 * k1) 3) → CV L xs xm_TP_copyAccounts [.ref (93 + 11 * k1 + 1), .ref (93 + 11 * k1 + 2)] g1 (fun g2 => ∀ g3, g3 = xu g2 (93 + 11 * k1 + 9) k1 (g2 (93 + 11 * k1) 5) → CI L xs xm_Su_rootOf [.ref 90, .ref (93 + 11 * k1 + 2)] g3 (fun v1 g4 => ∀ g5, g5 = xu g4 (93 + 11 * k1 + 10) k1 v1 → Q g5))) : CV L xs xm_As_checkpoint [.ref 75, .int x1] f Q := by
  show Wp L xs xm_As_checkpoint 0 [.ref 75, .int x1, .retAddr 0] [] f (QV Q)
  refine w_aload_n (pc' := 1) rfl rfl rfl ?_
  have q1 : xR0 75 2 = some 89 ∧ xS0 L 89 = (24, 7) := (kf_0_2 (show xS0 L 75 = (0, 0) from rfl))
  refine w_getR (pc' := 4) rfl rfl rfl rfl (show xS0 L 75 = (0, 0) from rfl) q1.1 ?_
  refine w_iload_n (pc' := 5) rfl rfl rfl ?_
  obtain ⟨k1, ek1, bk1, h⟩ := h
  have q2 : xR0 89 k1 = some (93 + 11 * k1) ∧ xS0 L (93 + 11 * k1) = (2, 0) := ke_24 q1.2 bk1
  refine w_aaload (pc' := 6) (i := k1) rfl rfl q1.2 (by omega) ek1 bk1 (by omega) q2.1 ?_
  refine w_astore_n (pc' := 7) rfl rfl (xl' := [.ref 75, .int x1, .ref (93 + 11 * k1)]) rfl ?_
  refine w_aload_n (pc' := 8) rfl rfl rfl ?_
  refine w_aload_n (pc' := 9) rfl rfl rfl ?_
  refine w_getI (pc' := 12) rfl rfl rfl rfl rfl q2.2 ?_
  refine w_putI (pc' := 15) rfl rfl rfl rfl q2.2 ?_
  replace h := h _ rfl
  generalize xu f (93 + 11 * k1) 5 (f (93 + 11 * k1) 3) = g1 at h ⊢
  refine w_aload_n (pc' := 16) rfl rfl rfl ?_
  have q3 : xR0 (93 + 11 * k1) 8 = some (93 + 11 * k1 + 1) ∧ xS0 L (93 + 11 * k1 + 1) = (20, 8) := (kf_2_8 q2.2)
  refine w_getR (pc' := 19) rfl rfl rfl rfl q2.2 q3.1 ?_
  refine w_aload_n (pc' := 20) rfl rfl rfl ?_
  have q4 : xR0 (93 + 11 * k1) 9 = some (93 + 11 * k1 + 2) ∧ xS0 L (93 + 11 * k1 + 2) = (20, 8) := (kf_2_9 q2.2)
  refine w_getR (pc' := 23) rfl rfl rfl rfl q2.2 q4.1 ?_
  refine w_cs (pc' := 26) (cm := xm_TP_copyAccounts) (as := [.ref (93 + 11 * k1 + 1), .ref (93 + 11 * k1 + 2)]) (rest := []) rfl rfl rfl (Or.inr rfl) (xa_TP_copyAccounts (Nat.le_of_ble_eq_true rfl)) (CV.k h fun g2 h => ?_)
  show Wp L xs xm_As_checkpoint 26 [.ref 75, .int x1, .ref (93 + 11 * k1)] [] g2 _
  refine w_aload_n (pc' := 27) rfl rfl rfl ?_
  have q5 : xR0 (93 + 11 * k1) 16 = some (93 + 11 * k1 + 9) ∧ xS0 L (93 + 11 * k1 + 9) = (20, 7) := (kf_2_16 q2.2)
  refine w_getR (pc' := 30) rfl rfl rfl rfl q2.2 q5.1 ?_
  refine w_iload_n (pc' := 31) rfl rfl rfl ?_
  refine w_aload_n (pc' := 32) rfl rfl rfl ?_
  refine w_getI (pc' := 35) rfl rfl rfl rfl rfl q2.2 ?_
  refine w_iastore (pc' := 36) (i := k1) rfl rfl q5.2 ek1 bk1 (by omega) ?_
  replace h := h _ rfl
  generalize xu g2 (93 + 11 * k1 + 9) k1 (g2 (93 + 11 * k1) 5) = g3 at h ⊢
  refine w_aload_n (pc' := 37) rfl rfl rfl ?_
  have q6 : xR0 (93 + 11 * k1) 17 = some (93 + 11 * k1 + 10) ∧ xS0 L (93 + 11 * k1 + 10) = (20, 7) := (kf_2_17 q2.2)
  refine w_getR (pc' := 40) rfl rfl rfl rfl q2.2 q6.1 ?_
  refine w_iload_n (pc' := 41) rfl rfl rfl ?_
  refine w_aload_n (pc' := 42) rfl rfl rfl ?_
  have q7 : xR0 75 3 = some 90 ∧ xS0 L 90 = (7, 0) := (kf_0_3 (show xS0 L 75 = (0, 0) from rfl))
  refine w_getR (pc' := 45) rfl rfl rfl rfl (show xS0 L 75 = (0, 0) from rfl) q7.1 ?_
  refine w_aload_n (pc' := 46) rfl rfl rfl ?_
  have q8 : xR0 (93 + 11 * k1) 9 = some (93 + 11 * k1 + 2) ∧ xS0 L (93 + 11 * k1 + 2) = (20, 8) := (kf_2_9 q2.2)
  refine w_getR (pc' := 49) rfl rfl rfl rfl q2.2 q8.1 ?_
  refine w_cv (pc' := 52) (cm := xm_Su_rootOf) (as := [.ref (93 + 11 * k1 + 2)]) (a := 90) (rest := [.int x1, .ref (93 + 11 * k1 + 10)]) rfl rfl rfl  (xa_Su_rootOf (Nat.le_of_ble_eq_true rfl)) q7.2 rfl (CI.k h fun v1 g4 h => ?_)
  show Wp L xs xm_As_checkpoint 52 [.ref 75, .int x1, .ref (93 + 11 * k1)] [.int v1, .int x1, .ref (93 + 11 * k1 + 10)] g4 _
  refine w_iastore (pc' := 53) (i := k1) rfl rfl q6.2 ek1 bk1 (by omega) ?_
  replace h := h _ rfl
  generalize xu g4 (93 + 11 * k1 + 10) k1 v1 = g5 at h ⊢
  exact w_return rfl rfl h
theorem t_As_doubt_0 {L : Nat} {xs : Nat → Int32} {x1 : Nat} {f : Hp} {Q : Int32 → Hp → Prop} (qx1 : xS0 L x1 = (2, 0)) (h : (((f x1 0) < 9 → ∀ g1, g1 = xu f x1 0 ((f x1 0) + 1) → ∀ g2, g2 = xu g1 x1 1 0 → CV L xs xm_Me_forgetAccepted [.ref x1, .int 12] g2 (fun g3 => Q 1 g3)) ∧ (¬ (f x1 0) < 9 → Q 0 f))) : CI L xs xm_As_doubt [.ref 75, .ref x1] f Q := by
  show Wp L xs xm_As_doubt 0 [.ref 75, .ref x1] [] f (QI Q)
  refine w_aload_n (pc' := 1) rfl rfl rfl ?_
  refine w_getI (pc' := 4) rfl rfl rfl rfl rfl qx1 ?_
  refine w_bipush (pc' := 6) rfl rfl (v := 9) rfl ?_
  refine w_br2 (pc' := 9) (t := 11) rfl rfl rfl ic_lt (fun hc => ?_) (fun hc => ?_)
  · replace h := h.1 hc
    refine w_aload_n (pc' := 12) rfl rfl rfl ?_
    refine w_dupA (pc' := 13) rfl rfl ?_
    refine w_getI (pc' := 16) rfl rfl rfl rfl rfl qx1 ?_
    refine w_iconst (pc' := 17) rfl rfl (v := 1) rfl ?_
    refine w_iadd (pc' := 18) rfl rfl ?_
    refine w_putI (pc' := 21) rfl rfl rfl rfl qx1 ?_
    replace h := h _ rfl
    generalize xu f x1 0 ((f x1 0) + 1) = g1 at h ⊢
    refine w_aload_n (pc' := 22) rfl rfl rfl ?_
    refine w_iconst (pc' := 23) rfl rfl (v := 0) rfl ?_
    refine w_putB (pc' := 26) rfl rfl rfl rfl qx1 (by decide) ?_
    replace h := h _ rfl
    generalize xu g1 x1 1 0 = g2 at h ⊢
    refine w_aload_n (pc' := 27) rfl rfl rfl ?_
    refine w_bipush (pc' := 29) rfl rfl (v := 12) rfl ?_
    refine w_cv (pc' := 32) (cm := xm_Me_forgetAccepted) (as := [.int 12]) (a := x1) (rest := []) rfl rfl rfl  (xa_Me_forgetAccepted (Nat.le_of_ble_eq_true rfl)) qx1 rfl (CV.k h fun g3 h => ?_)
    show Wp L xs xm_As_doubt 32 [.ref 75, .ref x1] [] g3 _
    refine w_iconst (pc' := 33) rfl rfl (v := 1) rfl ?_
    exact w_ireturn rfl rfl h
  · replace h := h.2 hc
    refine w_iconst (pc' := 10) rfl rfl (v := 0) rfl ?_
    exact w_ireturn rfl rfl h
theorem t_As_makeView_0 {L : Nat} {xs : Nat → Int32} {x1 : Int32} {f : Hp} {Q : Int32 → Hp → Prop}  (h : ∃ k1 : Nat, x1 = iN k1 ∧ k1 < 7 ∧ (((f (93 + 11 * k1) 1) = 0 → CI L xs xm_As_primaryOf [.ref 75, .int (f (93 + 11 * k1) 0)] f (fun v1 g1 => ((v1 = x1 → ∃ k2 : Nat, (f (93 + 11 * k1) 0) = iN k2 ∧ k2 < 10 ∧ (((g1 (170 + 3 * k2) 0) = 0 → Wp L xs xm_As_makeView 50 [.ref 75, .int x1, .int (f (93 + 11 * k1) 0), .int 0, .int 0] [] g1 (QI Q)) ∧ (¬ (g1 (170 + 3 * k2) 0) = 0 → Q 0 g1))) ∧ (¬ v1 = x1 → Q 0 g1)))) ∧ (¬ (f (93 + 11 * k1) 1) = 0 → Q 0 f))) : CI L xs xm_As_makeView [.ref 75, .int x1] f Q := by
  show Wp L xs xm_As_makeView 0 [.ref 75, .int x1, .retAddr 0, .retAddr 0, .retAddr 0] [] f (QI Q)
  refine w_aload_n (pc' := 1) rfl rfl rfl ?_
  have q1 : xR0 75 2 = some 89 ∧ xS0 L 89 = (24, 7) := (kf_0_2 (show xS0 L 75 = (0, 0) from rfl))
  refine w_getR (pc' := 4) rfl rfl rfl rfl (show xS0 L 75 = (0, 0) from rfl) q1.1 ?_
  refine w_iload_n (pc' := 5) rfl rfl rfl ?_
  obtain ⟨k1, ek1, bk1, h⟩ := h
  have q2 : xR0 89 k1 = some (93 + 11 * k1) ∧ xS0 L (93 + 11 * k1) = (2, 0) := ke_24 q1.2 bk1
  refine w_aaload (pc' := 6) (i := k1) rfl rfl q1.2 (by omega) ek1 bk1 (by omega) q2.1 ?_
  refine w_getI (pc' := 9) rfl rfl rfl rfl rfl q2.2 ?_
  refine w_istore_n (pc' := 10) rfl rfl (xl' := [.ref 75, .int x1, .int (f (93 + 11 * k1) 0), .retAddr 0, .retAddr 0]) rfl ?_
  refine w_aload_n (pc' := 11) rfl rfl rfl ?_
  have q3 : xR0 75 2 = some 89 ∧ xS0 L 89 = (24, 7) := (kf_0_2 (show xS0 L 75 = (0, 0) from rfl))
  refine w_getR (pc' := 14) rfl rfl rfl rfl (show xS0 L 75 = (0, 0) from rfl) q3.1 ?_
  refine w_iload_n (pc' := 15) rfl rfl rfl ?_
  have q4 : xR0 89 k1 = some (93 + 11 * k1) ∧ xS0 L (93 + 11 * k1) = (2, 0) := ke_24 q3.2 bk1
  refine w_aaload (pc' := 16) (i := k1) rfl rfl q3.2 (by omega) ek1 bk1 (by omega) q4.1 ?_
  refine w_getI (pc' := 19) rfl rfl rfl rfl rfl q4.2 ?_
  refine w_br (pc' := 22) (t := 43) rfl rfl rfl ic_ne (fun hc => ?_) (fun hc => ?_)
  · replace h := h.2 hc
    refine w_iconst (pc' := 44) rfl rfl (v := 0) rfl ?_
    exact w_ireturn rfl rfl h
  · replace h := h.1 (Classical.not_not.mp hc)
    refine w_aload_n (pc' := 23) rfl rfl rfl ?_
    refine w_iload_n (pc' := 24) rfl rfl rfl ?_
    refine w_cv (pc' := 27) (cm := xm_As_primaryOf) (as := [.int (f (93 + 11 * k1) 0)]) (a := 75) (rest := []) rfl rfl rfl  (xa_As_primaryOf (Nat.le_of_ble_eq_true rfl)) (show xS0 L 75 = (0, 0) from rfl) rfl (CI.k h fun v1 g1 h => ?_)
    show Wp L xs xm_As_makeView 27 [.ref 75, .int x1, .int (f (93 + 11 * k1) 0), .retAddr 0, .retAddr 0] [.int v1] g1 _
    refine w_iload_n (pc' := 28) rfl rfl rfl ?_
    refine w_br2 (pc' := 31) (t := 43) rfl rfl rfl ic_ne (fun hc => ?_) (fun hc => ?_)
    · replace h := h.2 hc
      refine w_iconst (pc' := 44) rfl rfl (v := 0) rfl ?_
      exact w_ireturn rfl rfl h
    · replace h := h.1 (Classical.not_not.mp hc)
      refine w_aload_n (pc' := 32) rfl rfl rfl ?_
      have q5 : xR0 75 0 = some 76 ∧ xS0 L 76 = (23, 10) := (kf_0_0 (show xS0 L 75 = (0, 0) from rfl))
      refine w_getR (pc' := 35) rfl rfl rfl rfl (show xS0 L 75 = (0, 0) from rfl) q5.1 ?_
      refine w_iload_n (pc' := 36) rfl rfl rfl ?_
      obtain ⟨k2, ek2, bk2, h⟩ := h
      have q6 : xR0 76 k2 = some (170 + 3 * k2) ∧ xS0 L (170 + 3 * k2) = (3, 0) := ke_23 q5.2 bk2
      refine w_aaload (pc' := 37) (i := k2) rfl rfl q5.2 (by omega) ek2 bk2 (by omega) q6.1 ?_
      refine w_getI (pc' := 40) rfl rfl rfl rfl rfl q6.2 ?_
      refine w_br (pc' := 43) (t := 45) rfl rfl rfl ic_eq (fun hc => ?_) (fun hc => ?_)
      · replace h := h.1 hc
        refine w_iconst (pc' := 46) rfl rfl (v := 0) rfl ?_
        refine w_istore_n (pc' := 47) rfl rfl (xl' := [.ref 75, .int x1, .int (f (93 + 11 * k1) 0), .int 0, .retAddr 0]) rfl ?_
        refine w_iconst (pc' := 48) rfl rfl (v := 0) rfl ?_
        refine w_istore (pc' := 50) rfl rfl (xl' := [.ref 75, .int x1, .int (f (93 + 11 * k1) 0), .int 0, .int 0]) rfl ?_
        exact h
      · replace h := h.2 hc
        refine w_iconst (pc' := 44) rfl rfl (v := 0) rfl ?_
        exact w_ireturn rfl rfl h
theorem t_As_makeView_50 {L : Nat} {xs : Nat → Int32} {x1 : Int32} {x2 : Int32} {x3 : Int32} {x4 : Int32} {f : Hp} {Q : Int32 → Hp → Prop}  (h : ((x4 < (f 75 4) → ∃ k2 : Nat, x4 = iN k2 ∧ k2 < 7 ∧ (((f (93 + 11 * k2) 1) = 0 → (((f (93 + 11 * k2) 0) = x2 → Wp L xs xm_As_makeView 50 [.ref 75, .int x1, .int x2, .int (x3 ||| (1 <<< (x4 &&& 31))), .int (x4 + 1)] [] f (QI Q)) ∧ (¬ (f (93 + 11 * k2) 0) = x2 → Wp L xs xm_As_makeView 50 [.ref 75, .int x1, .int x2, .int x3, .int (x4 + 1)] [] f (QI Q)))) ∧ (¬ (f (93 + 11 * k2) 1) = 0 → Wp L xs xm_As_makeView 50 [.ref 75, .int x1, .int x2, .int x3, .int (x4 + 1)] [] f (QI Q)))) ∧ (¬ x4 < (f 75 4) → CI L xs xm_ji_bitCount [.int x3] f (fun v1 g1 => ((v1 < (g1 75 5) → Q 0 g1) ∧ (¬ v1 < (g1 75 5) → ∃ k1 : Nat, x2 = iN k1 ∧ k1 < 10 ∧ CV L xs xm_As_merge [.ref 75, .int x3, .ref (170 + 3 * k1)] g1 (fun g2 => ∀ g3, g3 = xu g2 (170 + 3 * k1) 0 1 → Wp L xs xm_As_makeView 136 [.ref 75, .int x1, .int x2, .int x3, .int 0] [] g3 (QI Q)))))))) : Wp L xs xm_As_makeView 50 [.ref 75, .int x1, .int x2, .int x3, .int x4] [] f (QI Q) := by
  refine w_iload (pc' := 52) rfl rfl rfl ?_
  refine w_aload_n (pc' := 53) rfl rfl rfl ?_
  refine w_getI (pc' := 56) rfl rfl rfl rfl rfl (show xS0 L 75 = (0, 0) from rfl) ?_
  refine w_br2 (pc' := 59) (t := 99) rfl rfl rfl ic_ge (fun hc => ?_) (fun hc => ?_)
  · replace h := h.2 hc
    refine w_iload_n (pc' := 100) rfl rfl rfl ?_
    refine w_cs (pc' := 103) (cm := xm_ji_bitCount) (as := [.int x3]) (rest := []) rfl rfl rfl (Or.inl rfl) (xa_ji_bitCount (Nat.le_of_ble_eq_true rfl)) (CI.k h fun v1 g1 h => ?_)
    show Wp L xs xm_As_makeView 103 [.ref 75, .int x1, .int x2, .int x3, .int x4] [.int v1] g1 _
    refine w_aload_n (pc' := 104) rfl rfl rfl ?_
    refine w_getI (pc' := 107) rfl rfl rfl rfl rfl (show xS0 L 75 = (0, 0) from rfl) ?_
    refine w_br2 (pc' := 110) (t := 112) rfl rfl rfl ic_ge (fun hc => ?_) (fun hc => ?_)
    · replace h := h.2 hc
      refine w_aload_n (pc' := 113) rfl rfl rfl ?_
      refine w_iload_n (pc' := 114) rfl rfl rfl ?_
      refine w_aload_n (pc' := 115) rfl rfl rfl ?_
      have q1 : xR0 75 0 = some 76 ∧ xS0 L 76 = (23, 10) := (kf_0_0 (show xS0 L 75 = (0, 0) from rfl))
      refine w_getR (pc' := 118) rfl rfl rfl rfl (show xS0 L 75 = (0, 0) from rfl) q1.1 ?_
      refine w_iload_n (pc' := 119) rfl rfl rfl ?_
      obtain ⟨k1, ek1, bk1, h⟩ := h
      have q2 : xR0 76 k1 = some (170 + 3 * k1) ∧ xS0 L (170 + 3 * k1) = (3, 0) := ke_23 q1.2 bk1
      refine w_aaload (pc' := 120) (i := k1) rfl rfl q1.2 (by omega) ek1 bk1 (by omega) q2.1 ?_
      refine w_cv (pc' := 123) (cm := xm_As_merge) (as := [.int x3, .ref (170 + 3 * k1)]) (a := 75) (rest := []) rfl rfl rfl  (xa_As_merge (Nat.le_of_ble_eq_true rfl)) (show xS0 L 75 = (0, 0) from rfl) rfl (CV.k h fun g2 h => ?_)
      show Wp L xs xm_As_makeView 123 [.ref 75, .int x1, .int x2, .int x3, .int x4] [] g2 _
      refine w_aload_n (pc' := 124) rfl rfl rfl ?_
      have q3 : xR0 75 0 = some 76 ∧ xS0 L 76 = (23, 10) := (kf_0_0 (show xS0 L 75 = (0, 0) from rfl))
      refine w_getR (pc' := 127) rfl rfl rfl rfl (show xS0 L 75 = (0, 0) from rfl) q3.1 ?_
      refine w_iload_n (pc' := 128) rfl rfl rfl ?_
      have q4 : xR0 76 k1 = some (170 + 3 * k1) ∧ xS0 L (170 + 3 * k1) = (3, 0) := ke_23 q3.2 bk1
      refine w_aaload (pc' := 129) (i := k1) rfl rfl q3.2 (by omega) ek1 bk1 (by omega) q4.1 ?_
      refine w_iconst (pc' := 130) rfl rfl (v := 1) rfl ?_
      refine w_putB (pc' := 133) rfl rfl rfl rfl q4.2 (by decide) ?_
      replace h := h _ rfl
      generalize xu g2 (170 + 3 * k1) 0 1 = g3 at h ⊢
      refine w_iconst (pc' := 134) rfl rfl (v := 0) rfl ?_
      refine w_istore (pc' := 136) rfl rfl (xl' := [.ref 75, .int x1, .int x2, .int x3, .int 0]) rfl ?_
      exact h
    · replace h := h.1 (Classical.not_not.mp hc)
      refine w_iconst (pc' := 111) rfl rfl (v := 0) rfl ?_
      exact w_ireturn rfl rfl h
  · replace h := h.1 (Classical.not_not.mp hc)
    refine w_aload_n (pc' := 60) rfl rfl rfl ?_
    have q5 : xR0 75 2 = some 89 ∧ xS0 L 89 = (24, 7) := (kf_0_2 (show xS0 L 75 = (0, 0) from rfl))
    refine w_getR (pc' := 63) rfl rfl rfl rfl (show xS0 L 75 = (0, 0) from rfl) q5.1 ?_
    refine w_iload (pc' := 65) rfl rfl rfl ?_
    obtain ⟨k2, ek2, bk2, h⟩ := h
    have q6 : xR0 89 k2 = some (93 + 11 * k2) ∧ xS0 L (93 + 11 * k2) = (2, 0) := ke_24 q5.2 bk2
    refine w_aaload (pc' := 66) (i := k2) rfl rfl q5.2 (by omega) ek2 bk2 (by omega) q6.1 ?_
    refine w_getI (pc' := 69) rfl rfl rfl rfl rfl q6.2 ?_
    refine w_br (pc' := 72) (t := 93) rfl rfl rfl ic_ne (fun hc => ?_) (fun hc => ?_)
    · replace h := h.2 hc
      refine w_iinc (pc' := 96) rfl rfl rfl (v := (x4 + 1)) rfl (xl' := [.ref 75, .int x1, .int x2, .int x3, .int (x4 + 1)]) rfl ?_
      refine w_goto (pc' := 50) rfl rfl ?_
      exact h
    · replace h := h.1 (Classical.not_not.mp hc)
      refine w_aload_n (pc' := 73) rfl rfl rfl ?_
      have q7 : xR0 75 2 = some 89 ∧ xS0 L 89 = (24, 7) := (kf_0_2 (show xS0 L 75 = (0, 0) from rfl))
      refine w_getR (pc' := 76) rfl rfl rfl rfl (show xS0 L 75 = (0, 0) from rfl) q7.1 ?_
      refine w_iload (pc' := 78) rfl rfl rfl ?_
      have q8 : xR0 89 k2 = some (93 + 11 * k2) ∧ xS0 L (93 + 11 * k2) = (2, 0) := ke_24 q7.2 bk2
      refine w_aaload (pc' := 79) (i := k2) rfl rfl q7.2 (by omega) ek2 bk2 (by omega) q8.1 ?_
      refine w_getI (pc' := 82) rfl rfl rfl rfl rfl q8.2 ?_
      refine w_iload_n (pc' := 83) rfl rfl rfl ?_
      refine w_br2 (pc' := 86) (t := 93) rfl rfl rfl ic_ne (fun hc => ?_) (fun hc => ?_)
      · replace h := h.2 hc
        refine w_iinc (pc' := 96) rfl rfl rfl (v := (x4 + 1)) rfl (xl' := [.ref 75, .int x1, .int x2, .int x3, .int (x4 + 1)]) rfl ?_
        refine w_goto (pc' := 50) rfl rfl ?_
        exact h
      · replace h := h.1 (Classical.not_not.mp hc)
        refine w_iload_n (pc' := 87) rfl rfl rfl ?_
        refine w_iconst (pc' := 88) rfl rfl (v := 1) rfl ?_
        refine w_iload (pc' := 90) rfl rfl rfl ?_
        refine w_ishl (pc' := 91) rfl rfl ?_
        refine w_ior (pc' := 92) rfl rfl ?_
        refine w_istore_n (pc' := 93) rfl rfl (xl' := [.ref 75, .int x1, .int x2, .int (x3 ||| (1 <<< (x4 &&& 31))), .int x4]) rfl ?_
        refine w_iinc (pc' := 96) rfl rfl rfl (v := (x4 + 1)) rfl (xl' := [.ref 75, .int x1, .int x2, .int (x3 ||| (1 <<< (x4 &&& 31))), .int (x4 + 1)]) rfl ?_
        refine w_goto (pc' := 50) rfl rfl ?_
        exact h
theorem t_As_makeView_136 {L : Nat} {xs : Nat → Int32} {x1 : Int32} {x2 : Int32} {x3 : Int32} {x4 : Int32} {f : Hp} {Q : Int32 → Hp → Prop}  (h : ((x4 < (f 75 4) → CI L xs xm_TP_hasBit [.int x3, .int x4] f (fun v1 g1 => ((v1 = 0 → Wp L xs xm_As_makeView 136 [.ref 75, .int x1, .int x2, .int x3, .int (x4 + 1)] [] g1 (QI Q)) ∧ (¬ v1 = 0 → CV L xs xm_As_enter [.ref 75, .int x4] g1 (fun g2 => Wp L xs xm_As_makeView 136 [.ref 75, .int x1, .int x2, .int x3, .int (x4 + 1)] [] g2 (QI Q)))))) ∧ (¬ x4 < (f 75 4) → Q 1 f))) : Wp L xs xm_As_makeView 136 [.ref 75, .int x1, .int x2, .int x3, .int x4] [] f (QI Q) := by
  refine w_iload (pc' := 138) rfl rfl rfl ?_
  refine w_aload_n (pc' := 139) rfl rfl rfl ?_
  refine w_getI (pc' := 142) rfl rfl rfl rfl rfl (show xS0 L 75 = (0, 0) from rfl) ?_
  refine w_br2 (pc' := 145) (t := 166) rfl rfl rfl ic_ge (fun hc => ?_) (fun hc => ?_)
  · replace h := h.2 hc
    refine w_iconst (pc' := 167) rfl rfl (v := 1) rfl ?_
    exact w_ireturn rfl rfl h
  · replace h := h.1 (Classical.not_not.mp hc)
    refine w_iload_n (pc' := 146) rfl rfl rfl ?_
    refine w_iload (pc' := 148) rfl rfl rfl ?_
    refine w_cs (pc' := 151) (cm := xm_TP_hasBit) (as := [.int x3, .int x4]) (rest := []) rfl rfl rfl (Or.inr rfl) (xa_TP_hasBit (Nat.le_of_ble_eq_true rfl)) (CI.k h fun v1 g1 h => ?_)
    show Wp L xs xm_As_makeView 151 [.ref 75, .int x1, .int x2, .int x3, .int x4] [.int v1] g1 _
    refine w_br (pc' := 154) (t := 160) rfl rfl rfl ic_eq (fun hc => ?_) (fun hc => ?_)
    · replace h := h.1 hc
      refine w_iinc (pc' := 163) rfl rfl rfl (v := (x4 + 1)) rfl (xl' := [.ref 75, .int x1, .int x2, .int x3, .int (x4 + 1)]) rfl ?_
      refine w_goto (pc' := 136) rfl rfl ?_
      exact h
    · replace h := h.2 hc
      refine w_aload_n (pc' := 155) rfl rfl rfl ?_
      refine w_iload (pc' := 157) rfl rfl rfl ?_
      refine w_cv (pc' := 160) (cm := xm_As_enter) (as := [.int x4]) (a := 75) (rest := []) rfl rfl rfl  (xa_As_enter (Nat.le_of_ble_eq_true rfl)) (show xS0 L 75 = (0, 0) from rfl) rfl (CV.k h fun g2 h => ?_)
      show Wp L xs xm_As_makeView 160 [.ref 75, .int x1, .int x2, .int x3, .int x4] [] g2 _
      refine w_iinc (pc' := 163) rfl rfl rfl (v := (x4 + 1)) rfl (xl' := [.ref 75, .int x1, .int x2, .int x3, .int (x4 + 1)]) rfl ?_
      refine w_goto (pc' := 136) rfl rfl ?_
      exact h
theorem t_As_merge_0 {L : Nat} {xs : Nat → Int32} {x1 : Int32} {x2 : Nat} {f : Hp} {Q : Hp → Prop} (qx2 : xS0 L x2 = (3, 0)) (h : CV L xs xm_Mg_clear [.ref x2] f (fun g1 => Wp L xs xm_As_merge 6 [.ref 75, .int x1, .ref x2, .int 0] [] g1 (QV Q))) : CV L xs xm_As_merge [.ref 75, .int x1, .ref x2] f Q := by
  show Wp L xs xm_As_merge 0 [.ref 75, .int x1, .ref x2, .retAddr 0] [] f (QV Q)
  refine w_aload_n (pc' := 1) rfl rfl rfl ?_
  refine w_cv (pc' := 4) (cm := xm_Mg_clear) (as := []) (a := x2) (rest := []) rfl rfl rfl  (xa_Mg_clear (Nat.le_of_ble_eq_true rfl)) qx2 rfl (CV.k h fun g1 h => ?_)
  show Wp L xs xm_As_merge 4 [.ref 75, .int x1, .ref x2, .retAddr 0] [] g1 _
  refine w_iconst (pc' := 5) rfl rfl (v := 0) rfl ?_
  refine w_istore_n (pc' := 6) rfl rfl (xl' := [.ref 75, .int x1, .ref x2, .int 0]) rfl ?_
  exact h
theorem t_As_merge_6 {L : Nat} {xs : Nat → Int32} {x1 : Int32} {x2 : Nat} {x3 : Int32} {f : Hp} {Q : Hp → Prop} (qx2 : xS0 L x2 = (3, 0)) (h : ((x3 < (f 75 4) → CI L xs xm_TP_hasBit [.int x1, .int x3] f (fun v1 g1 => ((v1 = 0 → Wp L xs xm_As_merge 6 [.ref 75, .int x1, .ref x2, .int (x3 + 1)] [] g1 (QV Q)) ∧ (¬ v1 = 0 → CI L xs xm_As_isHonest [.ref 75, .int x3] g1 (fun v2 g2 => ((v2 = 0 → Wp L xs xm_As_merge 6 [.ref 75, .int x1, .ref x2, .int (x3 + 1)] [] g2 (QV Q)) ∧ (¬ v2 = 0 → ∃ k1 : Nat, x3 = iN k1 ∧ k1 < 7 ∧ CV L xs xm_Mg_add [.ref x2, .ref (93 + 11 * k1)] g2 (fun g3 => Wp L xs xm_As_merge 6 [.ref 75, .int x1, .ref x2, .int (x3 + 1)] [] g3 (QV Q))))))))) ∧ (¬ x3 < (f 75 4) → Q f))) : Wp L xs xm_As_merge 6 [.ref 75, .int x1, .ref x2, .int x3] [] f (QV Q) := by
  refine w_iload_n (pc' := 7) rfl rfl rfl ?_
  refine w_aload_n (pc' := 8) rfl rfl rfl ?_
  refine w_getI (pc' := 11) rfl rfl rfl rfl rfl (show xS0 L 75 = (0, 0) from rfl) ?_
  refine w_br2 (pc' := 14) (t := 46) rfl rfl rfl ic_ge (fun hc => ?_) (fun hc => ?_)
  · replace h := h.2 hc
    exact w_return rfl rfl h
  · replace h := h.1 (Classical.not_not.mp hc)
    refine w_iload_n (pc' := 15) rfl rfl rfl ?_
    refine w_iload_n (pc' := 16) rfl rfl rfl ?_
    refine w_cs (pc' := 19) (cm := xm_TP_hasBit) (as := [.int x1, .int x3]) (rest := []) rfl rfl rfl (Or.inr rfl) (xa_TP_hasBit (Nat.le_of_ble_eq_true rfl)) (CI.k h fun v1 g1 h => ?_)
    show Wp L xs xm_As_merge 19 [.ref 75, .int x1, .ref x2, .int x3] [.int v1] g1 _
    refine w_br (pc' := 22) (t := 40) rfl rfl rfl ic_eq (fun hc => ?_) (fun hc => ?_)
    · replace h := h.1 hc
      refine w_iinc (pc' := 43) rfl rfl rfl (v := (x3 + 1)) rfl (xl' := [.ref 75, .int x1, .ref x2, .int (x3 + 1)]) rfl ?_
      refine w_goto (pc' := 6) rfl rfl ?_
      exact h
    · replace h := h.2 hc
      refine w_aload_n (pc' := 23) rfl rfl rfl ?_
      refine w_iload_n (pc' := 24) rfl rfl rfl ?_
      refine w_cv (pc' := 27) (cm := xm_As_isHonest) (as := [.int x3]) (a := 75) (rest := []) rfl rfl rfl  (xa_As_isHonest (Nat.le_of_ble_eq_true rfl)) (show xS0 L 75 = (0, 0) from rfl) rfl (CI.k h fun v2 g2 h => ?_)
      show Wp L xs xm_As_merge 27 [.ref 75, .int x1, .ref x2, .int x3] [.int v2] g2 _
      refine w_br (pc' := 30) (t := 40) rfl rfl rfl ic_eq (fun hc => ?_) (fun hc => ?_)
      · replace h := h.1 hc
        refine w_iinc (pc' := 43) rfl rfl rfl (v := (x3 + 1)) rfl (xl' := [.ref 75, .int x1, .ref x2, .int (x3 + 1)]) rfl ?_
        refine w_goto (pc' := 6) rfl rfl ?_
        exact h
      · replace h := h.2 hc
        refine w_aload_n (pc' := 31) rfl rfl rfl ?_
        refine w_aload_n (pc' := 32) rfl rfl rfl ?_
        have q1 : xR0 75 2 = some 89 ∧ xS0 L 89 = (24, 7) := (kf_0_2 (show xS0 L 75 = (0, 0) from rfl))
        refine w_getR (pc' := 35) rfl rfl rfl rfl (show xS0 L 75 = (0, 0) from rfl) q1.1 ?_
        refine w_iload_n (pc' := 36) rfl rfl rfl ?_
        obtain ⟨k1, ek1, bk1, h⟩ := h
        have q2 : xR0 89 k1 = some (93 + 11 * k1) ∧ xS0 L (93 + 11 * k1) = (2, 0) := ke_24 q1.2 bk1
        refine w_aaload (pc' := 37) (i := k1) rfl rfl q1.2 (by omega) ek1 bk1 (by omega) q2.1 ?_
        refine w_cv (pc' := 40) (cm := xm_Mg_add) (as := [.ref (93 + 11 * k1)]) (a := x2) (rest := []) rfl rfl rfl  (xa_Mg_add (Nat.le_of_ble_eq_true rfl)) qx2 rfl (CV.k h fun g3 h => ?_)
        show Wp L xs xm_As_merge 40 [.ref 75, .int x1, .ref x2, .int x3] [] g3 _
        refine w_iinc (pc' := 43) rfl rfl rfl (v := (x3 + 1)) rfl (xl' := [.ref 75, .int x1, .ref x2, .int (x3 + 1)]) rfl ?_
        refine w_goto (pc' := 6) rfl rfl ?_
        exact h
theorem t_As_enter_0 {L : Nat} {xs : Nat → Int32} {x1 : Int32} {f : Hp} {Q : Hp → Prop}  (h : ∃ k1 : Nat, x1 = iN k1 ∧ k1 < 7 ∧ ∃ k2 : Nat, (f (93 + 11 * k1) 0) = iN k2 ∧ k2 < 10 ∧ ∀ g1, g1 = xu f (93 + 11 * k1) 1 1 → (((g1 (93 + 11 * k1) 2) < (g1 (170 + 3 * k2) 1) → ∀ g2, g2 = xu g1 (93 + 11 * k1) 2 (g1 (170 + 3 * k2) 1) → CV L xs xm_Me_forgetProofs [.ref (93 + 11 * k1), .int (g2 (93 + 11 * k1) 2)] g2 (fun g3 => Wp L xs xm_As_enter 49 [.ref 75, .int x1, .ref (93 + 11 * k1), .ref (170 + 3 * k2), .retAddr 0, .retAddr 0] [] g3 (QV Q))) ∧ (¬ (g1 (93 + 11 * k1) 2) < (g1 (170 + 3 * k2) 1) → Wp L xs xm_As_enter 49 [.ref 75, .int x1, .ref (93 + 11 * k1), .ref (170 + 3 * k2), .retAddr 0, .retAddr 0] [] g1 (QV Q)))) : CV L xs xm_As_enter [.ref 75, .int x1] f Q := by
  show Wp L xs xm_As_enter 0 [.ref 75, .int x1, .retAddr 0, .retAddr 0, .retAddr 0, .retAddr 0] [] f (QV Q)
  refine w_aload_n (pc' := 1) rfl rfl rfl ?_
  have q1 : xR0 75 2 = some 89 ∧ xS0 L 89 = (24, 7) := (kf_0_2 (show xS0 L 75 = (0, 0) from rfl))
  refine w_getR (pc' := 4) rfl rfl rfl rfl (show xS0 L 75 = (0, 0) from rfl) q1.1 ?_
  refine w_iload_n (pc' := 5) rfl rfl rfl ?_
  obtain ⟨k1, ek1, bk1, h⟩ := h
  have q2 : xR0 89 k1 = some (93 + 11 * k1) ∧ xS0 L (93 + 11 * k1) = (2, 0) := ke_24 q1.2 bk1
  refine w_aaload (pc' := 6) (i := k1) rfl rfl q1.2 (by omega) ek1 bk1 (by omega) q2.1 ?_
  refine w_astore_n (pc' := 7) rfl rfl (xl' := [.ref 75, .int x1, .ref (93 + 11 * k1), .retAddr 0, .retAddr 0, .retAddr 0]) rfl ?_
  refine w_aload_n (pc' := 8) rfl rfl rfl ?_
  have q3 : xR0 75 0 = some 76 ∧ xS0 L 76 = (23, 10) := (kf_0_0 (show xS0 L 75 = (0, 0) from rfl))
  refine w_getR (pc' := 11) rfl rfl rfl rfl (show xS0 L 75 = (0, 0) from rfl) q3.1 ?_
  refine w_aload_n (pc' := 12) rfl rfl rfl ?_
  refine w_getI (pc' := 15) rfl rfl rfl rfl rfl q2.2 ?_
  obtain ⟨k2, ek2, bk2, h⟩ := h
  have q4 : xR0 76 k2 = some (170 + 3 * k2) ∧ xS0 L (170 + 3 * k2) = (3, 0) := ke_23 q3.2 bk2
  refine w_aaload (pc' := 16) (i := k2) rfl rfl q3.2 (by omega) ek2 bk2 (by omega) q4.1 ?_
  refine w_astore_n (pc' := 17) rfl rfl (xl' := [.ref 75, .int x1, .ref (93 + 11 * k1), .ref (170 + 3 * k2), .retAddr 0, .retAddr 0]) rfl ?_
  refine w_aload_n (pc' := 18) rfl rfl rfl ?_
  refine w_iconst (pc' := 19) rfl rfl (v := 1) rfl ?_
  refine w_putB (pc' := 22) rfl rfl rfl rfl q2.2 (by decide) ?_
  replace h := h _ rfl
  generalize xu f (93 + 11 * k1) 1 1 = g1 at h ⊢
  refine w_aload_n (pc' := 23) rfl rfl rfl ?_
  refine w_getI (pc' := 26) rfl rfl rfl rfl rfl q2.2 ?_
  refine w_aload_n (pc' := 27) rfl rfl rfl ?_
  refine w_getI (pc' := 30) rfl rfl rfl rfl rfl q4.2 ?_
  refine w_br2 (pc' := 33) (t := 49) rfl rfl rfl ic_ge (fun hc => ?_) (fun hc => ?_)
  · replace h := h.2 hc
    exact h
  · replace h := h.1 (Classical.not_not.mp hc)
    refine w_aload_n (pc' := 34) rfl rfl rfl ?_
    refine w_aload_n (pc' := 35) rfl rfl rfl ?_
    refine w_getI (pc' := 38) rfl rfl rfl rfl rfl q4.2 ?_
    refine w_putI (pc' := 41) rfl rfl rfl rfl q2.2 ?_
    replace h := h _ rfl
    generalize xu g1 (93 + 11 * k1) 2 (g1 (170 + 3 * k2) 1) = g2 at h ⊢
    refine w_aload_n (pc' := 42) rfl rfl rfl ?_
    refine w_aload_n (pc' := 43) rfl rfl rfl ?_
    refine w_getI (pc' := 46) rfl rfl rfl rfl rfl q2.2 ?_
    refine w_cv (pc' := 49) (cm := xm_Me_forgetProofs) (as := [.int (g2 (93 + 11 * k1) 2)]) (a := (93 + 11 * k1)) (rest := []) rfl rfl rfl  (xa_Me_forgetProofs (Nat.le_of_ble_eq_true rfl)) q2.2 rfl (CV.k h fun g3 h => ?_)
    show Wp L xs xm_As_enter 49 [.ref 75, .int x1, .ref (93 + 11 * k1), .ref (170 + 3 * k2), .retAddr 0, .retAddr 0] [] g3 _
    exact h
theorem t_As_enter_49 {L : Nat} {xs : Nat → Int32} {x1 : Int32} {x2 : Nat} {x3 : Nat} {f : Hp} {Q : Hp → Prop} (qx2 : xS0 L x2 = (2, 0)) (qx3 : xS0 L x3 = (3, 0)) (h : CI L xs xm_As_isHonest [.ref 75, .int x1] f (fun v1 g1 => ((v1 = 0 → Q g1) ∧ (¬ v1 = 0 → CI L xs xm_As_primaryOf [.ref 75, .int (g1 x2 0)] g1 (fun v2 g2 => Wp L xs xm_As_enter 82 [.ref 75, .int x1, .ref x2, .ref x3, .int ((1 <<< (x1 &&& 31)) ||| (1 <<< (v2 &&& 31))), .int ((g2 x3 1) + 1)] [] g2 (QV Q)))))) : Wp L xs xm_As_enter 49 [.ref 75, .int x1, .ref x2, .ref x3, .retAddr 0, .retAddr 0] [] f (QV Q) := by
  refine w_aload_n (pc' := 50) rfl rfl rfl ?_
  refine w_iload_n (pc' := 51) rfl rfl rfl ?_
  refine w_cv (pc' := 54) (cm := xm_As_isHonest) (as := [.int x1]) (a := 75) (rest := []) rfl rfl rfl  (xa_As_isHonest (Nat.le_of_ble_eq_true rfl)) (show xS0 L 75 = (0, 0) from rfl) rfl (CI.k h fun v1 g1 h => ?_)
  show Wp L xs xm_As_enter 54 [.ref 75, .int x1, .ref x2, .ref x3, .retAddr 0, .retAddr 0] [.int v1] g1 _
  refine w_br (pc' := 57) (t := 58) rfl rfl rfl ic_ne (fun hc => ?_) (fun hc => ?_)
  · replace h := h.2 hc
    refine w_iconst (pc' := 59) rfl rfl (v := 1) rfl ?_
    refine w_iload_n (pc' := 60) rfl rfl rfl ?_
    refine w_ishl (pc' := 61) rfl rfl ?_
    refine w_iconst (pc' := 62) rfl rfl (v := 1) rfl ?_
    refine w_aload_n (pc' := 63) rfl rfl rfl ?_
    refine w_aload_n (pc' := 64) rfl rfl rfl ?_
    refine w_getI (pc' := 67) rfl rfl rfl rfl rfl qx2 ?_
    refine w_cv (pc' := 70) (cm := xm_As_primaryOf) (as := [.int (g1 x2 0)]) (a := 75) (rest := [.int 1, .int (1 <<< (x1 &&& 31))]) rfl rfl rfl  (xa_As_primaryOf (Nat.le_of_ble_eq_true rfl)) (show xS0 L 75 = (0, 0) from rfl) rfl (CI.k h fun v2 g2 h => ?_)
    show Wp L xs xm_As_enter 70 [.ref 75, .int x1, .ref x2, .ref x3, .retAddr 0, .retAddr 0] [.int v2, .int 1, .int (1 <<< (x1 &&& 31))] g2 _
    refine w_ishl (pc' := 71) rfl rfl ?_
    refine w_ior (pc' := 72) rfl rfl ?_
    refine w_istore (pc' := 74) rfl rfl (xl' := [.ref 75, .int x1, .ref x2, .ref x3, .int ((1 <<< (x1 &&& 31)) ||| (1 <<< (v2 &&& 31))), .retAddr 0]) rfl ?_
    refine w_aload_n (pc' := 75) rfl rfl rfl ?_
    refine w_getI (pc' := 78) rfl rfl rfl rfl rfl qx3 ?_
    refine w_iconst (pc' := 79) rfl rfl (v := 1) rfl ?_
    refine w_iadd (pc' := 80) rfl rfl ?_
    refine w_istore (pc' := 82) rfl rfl (xl' := [.ref 75, .int x1, .ref x2, .ref x3, .int ((1 <<< (x1 &&& 31)) ||| (1 <<< (v2 &&& 31))), .int ((g2 x3 1) + 1)]) rfl ?_
    exact h
  · replace h := h.1 (Classical.not_not.mp hc)
    exact w_return rfl rfl h
theorem t_As_enter_82 {L : Nat} {xs : Nat → Int32} {x1 : Int32} {x2 : Nat} {x3 : Nat} {x4 : Int32} {x5 : Int32} {f : Hp} {Q : Hp → Prop} (qx2 : xS0 L x2 = (2, 0)) (qx3 : xS0 L x3 = (3, 0)) (h : (((f x3 2) < x5 → Q f) ∧ (¬ (f x3 2) < x5 → ((12 < x5 → Q f) ∧ (¬ 12 < x5 → CI L xs xm_Me_isWithin [.ref x2, .int x5] f (fun v1 g1 => ((v1 = 0 → Wp L xs xm_As_enter 82 [.ref 75, .int x1, .ref x2, .ref x3, .int x4, .int (x5 + 1)] [] g1 (QV Q)) ∧ (¬ v1 = 0 → ∃ k1 : Nat, x5 = iN k1 ∧ k1 < 13 ∧ CV L xs xm_Me_accept [.ref x2, .int x5, .int (g1 (x3 + 1) k1)] g1 (fun g2 => CV L xs xm_Me_addPrepares [.ref x2, .int x5, .int x4, .int x1] g2 (fun g3 => Wp L xs xm_As_enter 82 [.ref 75, .int x1, .ref x2, .ref x3, .int x4, .int (x5 + 1)] [] g3 (QV Q))))))))))) : Wp L xs xm_As_enter 82 [.ref 75, .int x1, .ref x2, .ref x3, .int x4, .int x5] [] f (QV Q) := by
  refine w_iload (pc' := 84) rfl rfl rfl ?_
  refine w_aload_n (pc' := 85) rfl rfl rfl ?_
  refine w_getI (pc' := 88) rfl rfl rfl rfl rfl qx3 ?_
  refine w_br2 (pc' := 91) (t := 135) rfl rfl rfl ic_gt (fun hc => ?_) (fun hc => ?_)
  · replace h := h.1 hc
    exact w_return rfl rfl h
  · replace h := h.2 hc
    refine w_iload (pc' := 93) rfl rfl rfl ?_
    refine w_bipush (pc' := 95) rfl rfl (v := 12) rfl ?_
    refine w_br2 (pc' := 98) (t := 135) rfl rfl rfl ic_gt (fun hc => ?_) (fun hc => ?_)
    · replace h := h.1 hc
      exact w_return rfl rfl h
    · replace h := h.2 hc
      refine w_aload_n (pc' := 99) rfl rfl rfl ?_
      refine w_iload (pc' := 101) rfl rfl rfl ?_
      refine w_cv (pc' := 104) (cm := xm_Me_isWithin) (as := [.int x5]) (a := x2) (rest := []) rfl rfl rfl  (xa_Me_isWithin (Nat.le_of_ble_eq_true rfl)) qx2 rfl (CI.k h fun v1 g1 h => ?_)
      show Wp L xs xm_As_enter 104 [.ref 75, .int x1, .ref x2, .ref x3, .int x4, .int x5] [.int v1] g1 _
      refine w_br (pc' := 107) (t := 129) rfl rfl rfl ic_eq (fun hc => ?_) (fun hc => ?_)
      · replace h := h.1 hc
        refine w_iinc (pc' := 132) rfl rfl rfl (v := (x5 + 1)) rfl (xl' := [.ref 75, .int x1, .ref x2, .ref x3, .int x4, .int (x5 + 1)]) rfl ?_
        refine w_goto (pc' := 82) rfl rfl ?_
        exact h
      · replace h := h.2 hc
        refine w_aload_n (pc' := 108) rfl rfl rfl ?_
        refine w_iload (pc' := 110) rfl rfl rfl ?_
        refine w_aload_n (pc' := 111) rfl rfl rfl ?_
        have q1 : xR0 x3 3 = some (x3 + 1) ∧ xS0 L (x3 + 1) = (20, 13) := (kf_3_3 qx3)
        refine w_getR (pc' := 114) rfl rfl rfl rfl qx3 q1.1 ?_
        refine w_iload (pc' := 116) rfl rfl rfl ?_
        obtain ⟨k1, ek1, bk1, h⟩ := h
        refine w_iaload (pc' := 117) (i := k1) rfl rfl q1.2 ek1 bk1 (by omega) ?_
        refine w_cv (pc' := 120) (cm := xm_Me_accept) (as := [.int x5, .int (g1 (x3 + 1) k1)]) (a := x2) (rest := []) rfl rfl rfl  (xa_Me_accept (Nat.le_of_ble_eq_true rfl)) qx2 rfl (CV.k h fun g2 h => ?_)
        show Wp L xs xm_As_enter 120 [.ref 75, .int x1, .ref x2, .ref x3, .int x4, .int x5] [] g2 _
        refine w_aload_n (pc' := 121) rfl rfl rfl ?_
        refine w_iload (pc' := 123) rfl rfl rfl ?_
        refine w_iload (pc' := 125) rfl rfl rfl ?_
        refine w_iload_n (pc' := 126) rfl rfl rfl ?_
        refine w_cv (pc' := 129) (cm := xm_Me_addPrepares) (as := [.int x5, .int x4, .int x1]) (a := x2) (rest := []) rfl rfl rfl  (xa_Me_addPrepares (Nat.le_of_ble_eq_true rfl)) qx2 rfl (CV.k h fun g3 h => ?_)
        show Wp L xs xm_As_enter 129 [.ref 75, .int x1, .ref x2, .ref x3, .int x4, .int x5] [] g3 _
        refine w_iinc (pc' := 132) rfl rfl rfl (v := (x5 + 1)) rfl (xl' := [.ref 75, .int x1, .ref x2, .ref x3, .int x4, .int (x5 + 1)]) rfl ?_
        refine w_goto (pc' := 82) rfl rfl ?_
        exact h
theorem t_As_enterMade_0 {L : Nat} {xs : Nat → Int32} {x1 : Int32} {f : Hp} {Q : Int32 → Hp → Prop}  (h : ∃ k1 : Nat, x1 = iN k1 ∧ k1 < 7 ∧ (((f (93 + 11 * k1) 1) = 0 → ∃ k2 : Nat, (f (93 + 11 * k1) 0) = iN k2 ∧ k2 < 10 ∧ (((f (170 + 3 * k2) 0) = 0 → Q 0 f) ∧ (¬ (f (170 + 3 * k2) 0) = 0 → CV L xs xm_As_enter [.ref 75, .int x1] f (fun g1 => Q 1 g1)))) ∧ (¬ (f (93 + 11 * k1) 1) = 0 → Q 0 f))) : CI L xs xm_As_enterMade [.ref 75, .int x1] f Q := by
  show Wp L xs xm_As_enterMade 0 [.ref 75, .int x1] [] f (QI Q)
  refine w_aload_n (pc' := 1) rfl rfl rfl ?_
  have q1 : xR0 75 2 = some 89 ∧ xS0 L 89 = (24, 7) := (kf_0_2 (show xS0 L 75 = (0, 0) from rfl))
  refine w_getR (pc' := 4) rfl rfl rfl rfl (show xS0 L 75 = (0, 0) from rfl) q1.1 ?_
  refine w_iload_n (pc' := 5) rfl rfl rfl ?_
  obtain ⟨k1, ek1, bk1, h⟩ := h
  have q2 : xR0 89 k1 = some (93 + 11 * k1) ∧ xS0 L (93 + 11 * k1) = (2, 0) := ke_24 q1.2 bk1
  refine w_aaload (pc' := 6) (i := k1) rfl rfl q1.2 (by omega) ek1 bk1 (by omega) q2.1 ?_
  refine w_getI (pc' := 9) rfl rfl rfl rfl rfl q2.2 ?_
  refine w_br (pc' := 12) (t := 32) rfl rfl rfl ic_ne (fun hc => ?_) (fun hc => ?_)
  · replace h := h.2 hc
    refine w_iconst (pc' := 33) rfl rfl (v := 0) rfl ?_
    exact w_ireturn rfl rfl h
  · replace h := h.1 (Classical.not_not.mp hc)
    refine w_aload_n (pc' := 13) rfl rfl rfl ?_
    have q3 : xR0 75 0 = some 76 ∧ xS0 L 76 = (23, 10) := (kf_0_0 (show xS0 L 75 = (0, 0) from rfl))
    refine w_getR (pc' := 16) rfl rfl rfl rfl (show xS0 L 75 = (0, 0) from rfl) q3.1 ?_
    refine w_aload_n (pc' := 17) rfl rfl rfl ?_
    have q4 : xR0 75 2 = some 89 ∧ xS0 L 89 = (24, 7) := (kf_0_2 (show xS0 L 75 = (0, 0) from rfl))
    refine w_getR (pc' := 20) rfl rfl rfl rfl (show xS0 L 75 = (0, 0) from rfl) q4.1 ?_
    refine w_iload_n (pc' := 21) rfl rfl rfl ?_
    have q5 : xR0 89 k1 = some (93 + 11 * k1) ∧ xS0 L (93 + 11 * k1) = (2, 0) := ke_24 q4.2 bk1
    refine w_aaload (pc' := 22) (i := k1) rfl rfl q4.2 (by omega) ek1 bk1 (by omega) q5.1 ?_
    refine w_getI (pc' := 25) rfl rfl rfl rfl rfl q5.2 ?_
    obtain ⟨k2, ek2, bk2, h⟩ := h
    have q6 : xR0 76 k2 = some (170 + 3 * k2) ∧ xS0 L (170 + 3 * k2) = (3, 0) := ke_23 q3.2 bk2
    refine w_aaload (pc' := 26) (i := k2) rfl rfl q3.2 (by omega) ek2 bk2 (by omega) q6.1 ?_
    refine w_getI (pc' := 29) rfl rfl rfl rfl rfl q6.2 ?_
    refine w_br (pc' := 32) (t := 34) rfl rfl rfl ic_ne (fun hc => ?_) (fun hc => ?_)
    · replace h := h.2 hc
      refine w_aload_n (pc' := 35) rfl rfl rfl ?_
      refine w_iload_n (pc' := 36) rfl rfl rfl ?_
      refine w_cv (pc' := 39) (cm := xm_As_enter) (as := [.int x1]) (a := 75) (rest := []) rfl rfl rfl  (xa_As_enter (Nat.le_of_ble_eq_true rfl)) (show xS0 L 75 = (0, 0) from rfl) rfl (CV.k h fun g1 h => ?_)
      show Wp L xs xm_As_enterMade 39 [.ref 75, .int x1] [] g1 _
      refine w_iconst (pc' := 40) rfl rfl (v := 1) rfl ?_
      exact w_ireturn rfl rfl h
    · replace h := h.1 (Classical.not_not.mp hc)
      refine w_iconst (pc' := 33) rfl rfl (v := 0) rfl ?_
      exact w_ireturn rfl rfl h
theorem t_As_prepare_0 {L : Nat} {xs : Nat → Int32} {x1 : Int32} {x2 : Int32} {x3 : Int32} {f : Hp} {Q : Int32 → Hp → Prop}  (h : ∃ k1 : Nat, x2 = iN k1 ∧ k1 < 7 ∧ (((f (93 + 11 * k1) 1) = 0 → Q 0 f) ∧ (¬ (f (93 + 11 * k1) 1) = 0 → CI L xs xm_Me_hasAccepted [.ref (93 + 11 * k1), .int x3] f (fun v1 g1 => ((v1 = 0 → Q 0 g1) ∧ (¬ v1 = 0 → ∃ k2 : Nat, x3 = iN k2 ∧ k2 < 13 ∧ CI L xs xm_TP_hasBit [.int (g1 (93 + 11 * k1 + 4) k2), .int x1] g1 (fun v2 g2 => ((v2 = 0 → CI L xs xm_As_isHonest [.ref 75, .int x1] g2 (fun v3 g3 => ((v3 = 0 → CV L xs xm_Me_addPrepares [.ref (93 + 11 * k1), .int x3, .int (1 <<< (x1 &&& 31)), .int x2] g3 (fun g4 => Q 1 g4)) ∧ (¬ v3 = 0 → ∃ k3 : Nat, x1 = iN k3 ∧ k3 < 7 ∧ CI L xs xm_Me_sharesAt [.ref (93 + 11 * k3), .ref (93 + 11 * k1), .int x3] g3 (fun v4 g5 => ((v4 = 0 → Q 0 g5) ∧ (¬ v4 = 0 → CV L xs xm_Me_addPrepares [.ref (93 + 11 * k1), .int x3, .int (1 <<< (x1 &&& 31)), .int x2] g5 (fun g6 => Q 1 g6)))))))) ∧ (¬ v2 = 0 → Q 0 g2))))))))) : CI L xs xm_As_prepare [.ref 75, .int x1, .int x2, .int x3] f Q := by
  show Wp L xs xm_As_prepare 0 [.ref 75, .int x1, .int x2, .int x3, .retAddr 0] [] f (QI Q)
  refine w_aload_n (pc' := 1) rfl rfl rfl ?_
  have q1 : xR0 75 2 = some 89 ∧ xS0 L 89 = (24, 7) := (kf_0_2 (show xS0 L 75 = (0, 0) from rfl))
  refine w_getR (pc' := 4) rfl rfl rfl rfl (show xS0 L 75 = (0, 0) from rfl) q1.1 ?_
  refine w_iload_n (pc' := 5) rfl rfl rfl ?_
  obtain ⟨k1, ek1, bk1, h⟩ := h
  have q2 : xR0 89 k1 = some (93 + 11 * k1) ∧ xS0 L (93 + 11 * k1) = (2, 0) := ke_24 q1.2 bk1
  refine w_aaload (pc' := 6) (i := k1) rfl rfl q1.2 (by omega) ek1 bk1 (by omega) q2.1 ?_
  refine w_astore (pc' := 8) rfl rfl (xl' := [.ref 75, .int x1, .int x2, .int x3, .ref (93 + 11 * k1)]) rfl ?_
  refine w_aload (pc' := 10) rfl rfl rfl ?_
  refine w_getI (pc' := 13) rfl rfl rfl rfl rfl q2.2 ?_
  refine w_br (pc' := 16) (t := 39) rfl rfl rfl ic_eq (fun hc => ?_) (fun hc => ?_)
  · replace h := h.1 hc
    refine w_iconst (pc' := 40) rfl rfl (v := 0) rfl ?_
    exact w_ireturn rfl rfl h
  · replace h := h.2 hc
    refine w_aload (pc' := 18) rfl rfl rfl ?_
    refine w_iload_n (pc' := 19) rfl rfl rfl ?_
    refine w_cv (pc' := 22) (cm := xm_Me_hasAccepted) (as := [.int x3]) (a := (93 + 11 * k1)) (rest := []) rfl rfl rfl  (xa_Me_hasAccepted (Nat.le_of_ble_eq_true rfl)) q2.2 rfl (CI.k h fun v1 g1 h => ?_)
    show Wp L xs xm_As_prepare 22 [.ref 75, .int x1, .int x2, .int x3, .ref (93 + 11 * k1)] [.int v1] g1 _
    refine w_br (pc' := 25) (t := 39) rfl rfl rfl ic_eq (fun hc => ?_) (fun hc => ?_)
    · replace h := h.1 hc
      refine w_iconst (pc' := 40) rfl rfl (v := 0) rfl ?_
      exact w_ireturn rfl rfl h
    · replace h := h.2 hc
      refine w_aload (pc' := 27) rfl rfl rfl ?_
      have q3 : xR0 (93 + 11 * k1) 11 = some (93 + 11 * k1 + 4) ∧ xS0 L (93 + 11 * k1 + 4) = (20, 13) := (kf_2_11 q2.2)
      refine w_getR (pc' := 30) rfl rfl rfl rfl q2.2 q3.1 ?_
      refine w_iload_n (pc' := 31) rfl rfl rfl ?_
      obtain ⟨k2, ek2, bk2, h⟩ := h
      refine w_iaload (pc' := 32) (i := k2) rfl rfl q3.2 ek2 bk2 (by omega) ?_
      refine w_iload_n (pc' := 33) rfl rfl rfl ?_
      refine w_cs (pc' := 36) (cm := xm_TP_hasBit) (as := [.int (g1 (93 + 11 * k1 + 4) k2), .int x1]) (rest := []) rfl rfl rfl (Or.inr rfl) (xa_TP_hasBit (Nat.le_of_ble_eq_true rfl)) (CI.k h fun v2 g2 h => ?_)
      show Wp L xs xm_As_prepare 36 [.ref 75, .int x1, .int x2, .int x3, .ref (93 + 11 * k1)] [.int v2] g2 _
      refine w_br (pc' := 39) (t := 41) rfl rfl rfl ic_eq (fun hc => ?_) (fun hc => ?_)
      · replace h := h.1 hc
        refine w_aload_n (pc' := 42) rfl rfl rfl ?_
        refine w_iload_n (pc' := 43) rfl rfl rfl ?_
        refine w_cv (pc' := 46) (cm := xm_As_isHonest) (as := [.int x1]) (a := 75) (rest := []) rfl rfl rfl  (xa_As_isHonest (Nat.le_of_ble_eq_true rfl)) (show xS0 L 75 = (0, 0) from rfl) rfl (CI.k h fun v3 g3 h => ?_)
        show Wp L xs xm_As_prepare 46 [.ref 75, .int x1, .int x2, .int x3, .ref (93 + 11 * k1)] [.int v3] g3 _
        refine w_br (pc' := 49) (t := 66) rfl rfl rfl ic_eq (fun hc => ?_) (fun hc => ?_)
        · replace h := h.1 hc
          refine w_aload (pc' := 68) rfl rfl rfl ?_
          refine w_iload_n (pc' := 69) rfl rfl rfl ?_
          refine w_iconst (pc' := 70) rfl rfl (v := 1) rfl ?_
          refine w_iload_n (pc' := 71) rfl rfl rfl ?_
          refine w_ishl (pc' := 72) rfl rfl ?_
          refine w_iload_n (pc' := 73) rfl rfl rfl ?_
          refine w_cv (pc' := 76) (cm := xm_Me_addPrepares) (as := [.int x3, .int (1 <<< (x1 &&& 31)), .int x2]) (a := (93 + 11 * k1)) (rest := []) rfl rfl rfl  (xa_Me_addPrepares (Nat.le_of_ble_eq_true rfl)) q2.2 rfl (CV.k h fun g4 h => ?_)
          show Wp L xs xm_As_prepare 76 [.ref 75, .int x1, .int x2, .int x3, .ref (93 + 11 * k1)] [] g4 _
          refine w_iconst (pc' := 77) rfl rfl (v := 1) rfl ?_
          exact w_ireturn rfl rfl h
        · replace h := h.2 hc
          refine w_aload_n (pc' := 50) rfl rfl rfl ?_
          have q4 : xR0 75 2 = some 89 ∧ xS0 L 89 = (24, 7) := (kf_0_2 (show xS0 L 75 = (0, 0) from rfl))
          refine w_getR (pc' := 53) rfl rfl rfl rfl (show xS0 L 75 = (0, 0) from rfl) q4.1 ?_
          refine w_iload_n (pc' := 54) rfl rfl rfl ?_
          obtain ⟨k3, ek3, bk3, h⟩ := h
          have q5 : xR0 89 k3 = some (93 + 11 * k3) ∧ xS0 L (93 + 11 * k3) = (2, 0) := ke_24 q4.2 bk3
          refine w_aaload (pc' := 55) (i := k3) rfl rfl q4.2 (by omega) ek3 bk3 (by omega) q5.1 ?_
          refine w_aload (pc' := 57) rfl rfl rfl ?_
          refine w_iload_n (pc' := 58) rfl rfl rfl ?_
          refine w_cv (pc' := 61) (cm := xm_Me_sharesAt) (as := [.ref (93 + 11 * k1), .int x3]) (a := (93 + 11 * k3)) (rest := []) rfl rfl rfl  (xa_Me_sharesAt (Nat.le_of_ble_eq_true rfl)) q5.2 rfl (CI.k h fun v4 g5 h => ?_)
          show Wp L xs xm_As_prepare 61 [.ref 75, .int x1, .int x2, .int x3, .ref (93 + 11 * k1)] [.int v4] g5 _
          refine w_br (pc' := 64) (t := 66) rfl rfl rfl ic_ne (fun hc => ?_) (fun hc => ?_)
          · replace h := h.2 hc
            refine w_aload (pc' := 68) rfl rfl rfl ?_
            refine w_iload_n (pc' := 69) rfl rfl rfl ?_
            refine w_iconst (pc' := 70) rfl rfl (v := 1) rfl ?_
            refine w_iload_n (pc' := 71) rfl rfl rfl ?_
            refine w_ishl (pc' := 72) rfl rfl ?_
            refine w_iload_n (pc' := 73) rfl rfl rfl ?_
            refine w_cv (pc' := 76) (cm := xm_Me_addPrepares) (as := [.int x3, .int (1 <<< (x1 &&& 31)), .int x2]) (a := (93 + 11 * k1)) (rest := []) rfl rfl rfl  (xa_Me_addPrepares (Nat.le_of_ble_eq_true rfl)) q2.2 rfl (CV.k h fun g6 h => ?_)
            show Wp L xs xm_As_prepare 76 [.ref 75, .int x1, .int x2, .int x3, .ref (93 + 11 * k1)] [] g6 _
            refine w_iconst (pc' := 77) rfl rfl (v := 1) rfl ?_
            exact w_ireturn rfl rfl h
          · replace h := h.1 (Classical.not_not.mp hc)
            refine w_iconst (pc' := 65) rfl rfl (v := 0) rfl ?_
            exact w_ireturn rfl rfl h
      · replace h := h.2 hc
        refine w_iconst (pc' := 40) rfl rfl (v := 0) rfl ?_
        exact w_ireturn rfl rfl h
theorem t_As_commit_0 {L : Nat} {xs : Nat → Int32} {x1 : Int32} {x2 : Int32} {x3 : Int32} {f : Hp} {Q : Int32 → Hp → Prop}  (h : ∃ k1 : Nat, x2 = iN k1 ∧ k1 < 7 ∧ (((f (93 + 11 * k1) 1) = 0 → Q 0 f) ∧ (¬ (f (93 + 11 * k1) 1) = 0 → CI L xs xm_Me_hasAccepted [.ref (93 + 11 * k1), .int x3] f (fun v1 g1 => ((v1 = 0 → Q 0 g1) ∧ (¬ v1 = 0 → ∃ k2 : Nat, x3 = iN k2 ∧ k2 < 13 ∧ CI L xs xm_TP_hasBit [.int (g1 (93 + 11 * k1 + 5) k2), .int x1] g1 (fun v2 g2 => ((v2 = 0 → ∃ k3 : Nat, x1 = iN k3 ∧ k3 < 7 ∧ CI L xs xm_As_isHonest [.ref 75, .int x1] g2 (fun v3 g3 => ((v3 = 0 → Wp L xs xm_As_commit 79 [.ref 75, .int x1, .int x2, .int x3, .ref (93 + 11 * k1), .ref (93 + 11 * k3)] [] g3 (QI Q)) ∧ (¬ v3 = 0 → CI L xs xm_Me_sharesAt [.ref (93 + 11 * k3), .ref (93 + 11 * k1), .int x3] g3 (fun v4 g4 => ((v4 = 0 → Q 0 g4) ∧ (¬ v4 = 0 → CI L xs xm_Me_isPrepared [.ref (93 + 11 * k3), .int x3] g4 (fun v5 g5 => ((v5 = 0 → Q 0 g5) ∧ (¬ v5 = 0 → Wp L xs xm_As_commit 79 [.ref 75, .int x1, .int x2, .int x3, .ref (93 + 11 * k1), .ref (93 + 11 * k3)] [] g5 (QI Q))))))))))) ∧ (¬ v2 = 0 → Q 0 g2))))))))) : CI L xs xm_As_commit [.ref 75, .int x1, .int x2, .int x3] f Q := by
  show Wp L xs xm_As_commit 0 [.ref 75, .int x1, .int x2, .int x3, .retAddr 0, .retAddr 0] [] f (QI Q)
  refine w_aload_n (pc' := 1) rfl rfl rfl ?_
  have q1 : xR0 75 2 = some 89 ∧ xS0 L 89 = (24, 7) := (kf_0_2 (show xS0 L 75 = (0, 0) from rfl))
  refine w_getR (pc' := 4) rfl rfl rfl rfl (show xS0 L 75 = (0, 0) from rfl) q1.1 ?_
  refine w_iload_n (pc' := 5) rfl rfl rfl ?_
  obtain ⟨k1, ek1, bk1, h⟩ := h
  have q2 : xR0 89 k1 = some (93 + 11 * k1) ∧ xS0 L (93 + 11 * k1) = (2, 0) := ke_24 q1.2 bk1
  refine w_aaload (pc' := 6) (i := k1) rfl rfl q1.2 (by omega) ek1 bk1 (by omega) q2.1 ?_
  refine w_astore (pc' := 8) rfl rfl (xl' := [.ref 75, .int x1, .int x2, .int x3, .ref (93 + 11 * k1), .retAddr 0]) rfl ?_
  refine w_aload (pc' := 10) rfl rfl rfl ?_
  refine w_getI (pc' := 13) rfl rfl rfl rfl rfl q2.2 ?_
  refine w_br (pc' := 16) (t := 39) rfl rfl rfl ic_eq (fun hc => ?_) (fun hc => ?_)
  · replace h := h.1 hc
    refine w_iconst (pc' := 40) rfl rfl (v := 0) rfl ?_
    exact w_ireturn rfl rfl h
  · replace h := h.2 hc
    refine w_aload (pc' := 18) rfl rfl rfl ?_
    refine w_iload_n (pc' := 19) rfl rfl rfl ?_
    refine w_cv (pc' := 22) (cm := xm_Me_hasAccepted) (as := [.int x3]) (a := (93 + 11 * k1)) (rest := []) rfl rfl rfl  (xa_Me_hasAccepted (Nat.le_of_ble_eq_true rfl)) q2.2 rfl (CI.k h fun v1 g1 h => ?_)
    show Wp L xs xm_As_commit 22 [.ref 75, .int x1, .int x2, .int x3, .ref (93 + 11 * k1), .retAddr 0] [.int v1] g1 _
    refine w_br (pc' := 25) (t := 39) rfl rfl rfl ic_eq (fun hc => ?_) (fun hc => ?_)
    · replace h := h.1 hc
      refine w_iconst (pc' := 40) rfl rfl (v := 0) rfl ?_
      exact w_ireturn rfl rfl h
    · replace h := h.2 hc
      refine w_aload (pc' := 27) rfl rfl rfl ?_
      have q3 : xR0 (93 + 11 * k1) 12 = some (93 + 11 * k1 + 5) ∧ xS0 L (93 + 11 * k1 + 5) = (20, 13) := (kf_2_12 q2.2)
      refine w_getR (pc' := 30) rfl rfl rfl rfl q2.2 q3.1 ?_
      refine w_iload_n (pc' := 31) rfl rfl rfl ?_
      obtain ⟨k2, ek2, bk2, h⟩ := h
      refine w_iaload (pc' := 32) (i := k2) rfl rfl q3.2 ek2 bk2 (by omega) ?_
      refine w_iload_n (pc' := 33) rfl rfl rfl ?_
      refine w_cs (pc' := 36) (cm := xm_TP_hasBit) (as := [.int (g1 (93 + 11 * k1 + 5) k2), .int x1]) (rest := []) rfl rfl rfl (Or.inr rfl) (xa_TP_hasBit (Nat.le_of_ble_eq_true rfl)) (CI.k h fun v2 g2 h => ?_)
      show Wp L xs xm_As_commit 36 [.ref 75, .int x1, .int x2, .int x3, .ref (93 + 11 * k1), .retAddr 0] [.int v2] g2 _
      refine w_br (pc' := 39) (t := 41) rfl rfl rfl ic_eq (fun hc => ?_) (fun hc => ?_)
      · replace h := h.1 hc
        refine w_aload_n (pc' := 42) rfl rfl rfl ?_
        have q4 : xR0 75 2 = some 89 ∧ xS0 L 89 = (24, 7) := (kf_0_2 (show xS0 L 75 = (0, 0) from rfl))
        refine w_getR (pc' := 45) rfl rfl rfl rfl (show xS0 L 75 = (0, 0) from rfl) q4.1 ?_
        refine w_iload_n (pc' := 46) rfl rfl rfl ?_
        obtain ⟨k3, ek3, bk3, h⟩ := h
        have q5 : xR0 89 k3 = some (93 + 11 * k3) ∧ xS0 L (93 + 11 * k3) = (2, 0) := ke_24 q4.2 bk3
        refine w_aaload (pc' := 47) (i := k3) rfl rfl q4.2 (by omega) ek3 bk3 (by omega) q5.1 ?_
        refine w_astore (pc' := 49) rfl rfl (xl' := [.ref 75, .int x1, .int x2, .int x3, .ref (93 + 11 * k1), .ref (93 + 11 * k3)]) rfl ?_
        refine w_aload_n (pc' := 50) rfl rfl rfl ?_
        refine w_iload_n (pc' := 51) rfl rfl rfl ?_
        refine w_cv (pc' := 54) (cm := xm_As_isHonest) (as := [.int x1]) (a := 75) (rest := []) rfl rfl rfl  (xa_As_isHonest (Nat.le_of_ble_eq_true rfl)) (show xS0 L 75 = (0, 0) from rfl) rfl (CI.k h fun v3 g3 h => ?_)
        show Wp L xs xm_As_commit 54 [.ref 75, .int x1, .int x2, .int x3, .ref (93 + 11 * k1), .ref (93 + 11 * k3)] [.int v3] g3 _
        refine w_br (pc' := 57) (t := 79) rfl rfl rfl ic_eq (fun hc => ?_) (fun hc => ?_)
        · replace h := h.1 hc
          exact h
        · replace h := h.2 hc
          refine w_aload (pc' := 59) rfl rfl rfl ?_
          refine w_aload (pc' := 61) rfl rfl rfl ?_
          refine w_iload_n (pc' := 62) rfl rfl rfl ?_
          refine w_cv (pc' := 65) (cm := xm_Me_sharesAt) (as := [.ref (93 + 11 * k1), .int x3]) (a := (93 + 11 * k3)) (rest := []) rfl rfl rfl  (xa_Me_sharesAt (Nat.le_of_ble_eq_true rfl)) q5.2 rfl (CI.k h fun v4 g4 h => ?_)
          show Wp L xs xm_As_commit 65 [.ref 75, .int x1, .int x2, .int x3, .ref (93 + 11 * k1), .ref (93 + 11 * k3)] [.int v4] g4 _
          refine w_br (pc' := 68) (t := 77) rfl rfl rfl ic_eq (fun hc => ?_) (fun hc => ?_)
          · replace h := h.1 hc
            refine w_iconst (pc' := 78) rfl rfl (v := 0) rfl ?_
            exact w_ireturn rfl rfl h
          · replace h := h.2 hc
            refine w_aload (pc' := 70) rfl rfl rfl ?_
            refine w_iload_n (pc' := 71) rfl rfl rfl ?_
            refine w_cv (pc' := 74) (cm := xm_Me_isPrepared) (as := [.int x3]) (a := (93 + 11 * k3)) (rest := []) rfl rfl rfl  (xa_Me_isPrepared (Nat.le_of_ble_eq_true rfl)) q5.2 rfl (CI.k h fun v5 g5 h => ?_)
            show Wp L xs xm_As_commit 74 [.ref 75, .int x1, .int x2, .int x3, .ref (93 + 11 * k1), .ref (93 + 11 * k3)] [.int v5] g5 _
            refine w_br (pc' := 77) (t := 79) rfl rfl rfl ic_ne (fun hc => ?_) (fun hc => ?_)
            · replace h := h.2 hc
              exact h
            · replace h := h.1 (Classical.not_not.mp hc)
              refine w_iconst (pc' := 78) rfl rfl (v := 0) rfl ?_
              exact w_ireturn rfl rfl h
      · replace h := h.2 hc
        refine w_iconst (pc' := 40) rfl rfl (v := 0) rfl ?_
        exact w_ireturn rfl rfl h
theorem t_As_commit_79 {L : Nat} {xs : Nat → Int32} {x1 : Int32} {x2 : Int32} {x3 : Int32} {x4 : Nat} {x5 : Nat} {f : Hp} {Q : Int32 → Hp → Prop} (qx4 : xS0 L x4 = (2, 0)) (qx5 : xS0 L x5 = (2, 0)) (h : ∃ k1 : Nat, x3 = iN k1 ∧ k1 < 13 ∧ ∀ g1, g1 = xu f (x4 + 5) k1 ((f (x4 + 5) k1) ||| (1 <<< (x1 &&& 31))) → Q 1 g1) : Wp L xs xm_As_commit 79 [.ref 75, .int x1, .int x2, .int x3, .ref x4, .ref x5] [] f (QI Q) := by
  refine w_aload (pc' := 81) rfl rfl rfl ?_
  have q1 : xR0 x4 12 = some (x4 + 5) ∧ xS0 L (x4 + 5) = (20, 13) := (kf_2_12 qx4)
  refine w_getR (pc' := 84) rfl rfl rfl rfl qx4 q1.1 ?_
  refine w_iload_n (pc' := 85) rfl rfl rfl ?_
  refine w_dup2 (pc' := 86) rfl rfl ?_
  obtain ⟨k1, ek1, bk1, h⟩ := h
  refine w_iaload (pc' := 87) (i := k1) rfl rfl q1.2 ek1 bk1 (by omega) ?_
  refine w_iconst (pc' := 88) rfl rfl (v := 1) rfl ?_
  refine w_iload_n (pc' := 89) rfl rfl rfl ?_
  refine w_ishl (pc' := 90) rfl rfl ?_
  refine w_ior (pc' := 91) rfl rfl ?_
  refine w_iastore (pc' := 92) (i := k1) rfl rfl q1.2 ek1 bk1 (by omega) ?_
  replace h := h _ rfl
  generalize xu f (x4 + 5) k1 ((f (x4 + 5) k1) ||| (1 <<< (x1 &&& 31))) = g1 at h ⊢
  refine w_iconst (pc' := 93) rfl rfl (v := 1) rfl ?_
  exact w_ireturn rfl rfl h
theorem t_As_mark_0 {L : Nat} {xs : Nat → Int32} {x1 : Int32} {x2 : Int32} {f : Hp} {Q : Int32 → Hp → Prop}  (h : ∃ k1 : Nat, x2 = iN k1 ∧ k1 < 7 ∧ CI L xs xm_As_isHonest [.ref 75, .int x1] f (fun v1 g1 => ((v1 = 0 → Wp L xs xm_As_mark 25 [.ref 75, .int x1, .int x2, .ref (93 + 11 * k1), .retAddr 0, .retAddr 0] [.ref (93 + 11 * k1)] g1 (QI Q)) ∧ (¬ v1 = 0 → ∃ k2 : Nat, x1 = iN k2 ∧ k2 < 7 ∧ Wp L xs xm_As_mark 25 [.ref 75, .int x1, .int x2, .ref (93 + 11 * k1), .retAddr 0, .retAddr 0] [.ref (93 + 11 * k2)] g1 (QI Q))))) : CI L xs xm_As_mark [.ref 75, .int x1, .int x2] f Q := by
  show Wp L xs xm_As_mark 0 [.ref 75, .int x1, .int x2, .retAddr 0, .retAddr 0, .retAddr 0] [] f (QI Q)
  refine w_aload_n (pc' := 1) rfl rfl rfl ?_
  have q1 : xR0 75 2 = some 89 ∧ xS0 L 89 = (24, 7) := (kf_0_2 (show xS0 L 75 = (0, 0) from rfl))
  refine w_getR (pc' := 4) rfl rfl rfl rfl (show xS0 L 75 = (0, 0) from rfl) q1.1 ?_
  refine w_iload_n (pc' := 5) rfl rfl rfl ?_
  obtain ⟨k1, ek1, bk1, h⟩ := h
  have q2 : xR0 89 k1 = some (93 + 11 * k1) ∧ xS0 L (93 + 11 * k1) = (2, 0) := ke_24 q1.2 bk1
  refine w_aaload (pc' := 6) (i := k1) rfl rfl q1.2 (by omega) ek1 bk1 (by omega) q2.1 ?_
  refine w_astore_n (pc' := 7) rfl rfl (xl' := [.ref 75, .int x1, .int x2, .ref (93 + 11 * k1), .retAddr 0, .retAddr 0]) rfl ?_
  refine w_aload_n (pc' := 8) rfl rfl rfl ?_
  refine w_iload_n (pc' := 9) rfl rfl rfl ?_
  refine w_cv (pc' := 12) (cm := xm_As_isHonest) (as := [.int x1]) (a := 75) (rest := []) rfl rfl rfl  (xa_As_isHonest (Nat.le_of_ble_eq_true rfl)) (show xS0 L 75 = (0, 0) from rfl) rfl (CI.k h fun v1 g1 h => ?_)
  show Wp L xs xm_As_mark 12 [.ref 75, .int x1, .int x2, .ref (93 + 11 * k1), .retAddr 0, .retAddr 0] [.int v1] g1 _
  refine w_br (pc' := 15) (t := 24) rfl rfl rfl ic_eq (fun hc => ?_) (fun hc => ?_)
  · replace h := h.1 hc
    refine w_aload_n (pc' := 25) rfl rfl rfl ?_
    exact h
  · replace h := h.2 hc
    refine w_aload_n (pc' := 16) rfl rfl rfl ?_
    have q3 : xR0 75 2 = some 89 ∧ xS0 L 89 = (24, 7) := (kf_0_2 (show xS0 L 75 = (0, 0) from rfl))
    refine w_getR (pc' := 19) rfl rfl rfl rfl (show xS0 L 75 = (0, 0) from rfl) q3.1 ?_
    refine w_iload_n (pc' := 20) rfl rfl rfl ?_
    obtain ⟨k2, ek2, bk2, h⟩ := h
    have q4 : xR0 89 k2 = some (93 + 11 * k2) ∧ xS0 L (93 + 11 * k2) = (2, 0) := ke_24 q3.2 bk2
    refine w_aaload (pc' := 21) (i := k2) rfl rfl q3.2 (by omega) ek2 bk2 (by omega) q4.1 ?_
    refine w_goto (pc' := 25) rfl rfl ?_
    exact h
theorem t_As_mark_25 {L : Nat} {xs : Nat → Int32} {x1 : Int32} {x2 : Int32} {x3 : Nat} {s0 : Nat} {f : Hp} {Q : Int32 → Hp → Prop} (qx3 : xS0 L x3 = (2, 0)) (qs0 : xS0 L s0 = (2, 0)) (h : (((f x3 2) < (f s0 5) → CI L xs xm_Su_rootOf [.ref 90, .ref (s0 + 2)] f (fun v1 g1 => ∃ k1 : Nat, x1 = iN k1 ∧ k1 < 7 ∧ (((g1 (x3 + 9) k1) = (g1 s0 5) → (((g1 (x3 + 10) k1) = v1 → Q 0 g1) ∧ (¬ (g1 (x3 + 10) k1) = v1 → Wp L xs xm_As_mark 82 [.ref 75, .int x1, .int x2, .ref x3, .ref s0, .int v1] [] g1 (QI Q)))) ∧ (¬ (g1 (x3 + 9) k1) = (g1 s0 5) → Wp L xs xm_As_mark 82 [.ref 75, .int x1, .int x2, .ref x3, .ref s0, .int v1] [] g1 (QI Q))))) ∧ (¬ (f x3 2) < (f s0 5) → Q 0 f))) : Wp L xs xm_As_mark 25 [.ref 75, .int x1, .int x2, .ref x3, .retAddr 0, .retAddr 0] [.ref s0] f (QI Q) := by
  refine w_astore (pc' := 27) rfl rfl (xl' := [.ref 75, .int x1, .int x2, .ref x3, .ref s0, .retAddr 0]) rfl ?_
  refine w_aload (pc' := 29) rfl rfl rfl ?_
  refine w_getI (pc' := 32) rfl rfl rfl rfl rfl qs0 ?_
  refine w_aload_n (pc' := 33) rfl rfl rfl ?_
  refine w_getI (pc' := 36) rfl rfl rfl rfl rfl qx3 ?_
  refine w_br2 (pc' := 39) (t := 41) rfl rfl rfl ic_gt (fun hc => ?_) (fun hc => ?_)
  · replace h := h.1 hc
    refine w_aload_n (pc' := 42) rfl rfl rfl ?_
    have q1 : xR0 75 3 = some 90 ∧ xS0 L 90 = (7, 0) := (kf_0_3 (show xS0 L 75 = (0, 0) from rfl))
    refine w_getR (pc' := 45) rfl rfl rfl rfl (show xS0 L 75 = (0, 0) from rfl) q1.1 ?_
    refine w_aload (pc' := 47) rfl rfl rfl ?_
    have q2 : xR0 s0 9 = some (s0 + 2) ∧ xS0 L (s0 + 2) = (20, 8) := (kf_2_9 qs0)
    refine w_getR (pc' := 50) rfl rfl rfl rfl qs0 q2.1 ?_
    refine w_cv (pc' := 53) (cm := xm_Su_rootOf) (as := [.ref (s0 + 2)]) (a := 90) (rest := []) rfl rfl rfl  (xa_Su_rootOf (Nat.le_of_ble_eq_true rfl)) q1.2 rfl (CI.k h fun v1 g1 h => ?_)
    show Wp L xs xm_As_mark 53 [.ref 75, .int x1, .int x2, .ref x3, .ref s0, .retAddr 0] [.int v1] g1 _
    refine w_istore (pc' := 55) rfl rfl (xl' := [.ref 75, .int x1, .int x2, .ref x3, .ref s0, .int v1]) rfl ?_
    refine w_aload_n (pc' := 56) rfl rfl rfl ?_
    have q3 : xR0 x3 16 = some (x3 + 9) ∧ xS0 L (x3 + 9) = (20, 7) := (kf_2_16 qx3)
    refine w_getR (pc' := 59) rfl rfl rfl rfl qx3 q3.1 ?_
    refine w_iload_n (pc' := 60) rfl rfl rfl ?_
    obtain ⟨k1, ek1, bk1, h⟩ := h
    refine w_iaload (pc' := 61) (i := k1) rfl rfl q3.2 ek1 bk1 (by omega) ?_
    refine w_aload (pc' := 63) rfl rfl rfl ?_
    refine w_getI (pc' := 66) rfl rfl rfl rfl rfl qs0 ?_
    refine w_br2 (pc' := 69) (t := 82) rfl rfl rfl ic_ne (fun hc => ?_) (fun hc => ?_)
    · replace h := h.2 hc
      exact h
    · replace h := h.1 (Classical.not_not.mp hc)
      refine w_aload_n (pc' := 70) rfl rfl rfl ?_
      have q4 : xR0 x3 17 = some (x3 + 10) ∧ xS0 L (x3 + 10) = (20, 7) := (kf_2_17 qx3)
      refine w_getR (pc' := 73) rfl rfl rfl rfl qx3 q4.1 ?_
      refine w_iload_n (pc' := 74) rfl rfl rfl ?_
      refine w_iaload (pc' := 75) (i := k1) rfl rfl q4.2 ek1 bk1 (by omega) ?_
      refine w_iload (pc' := 77) rfl rfl rfl ?_
      refine w_br2 (pc' := 80) (t := 82) rfl rfl rfl ic_ne (fun hc => ?_) (fun hc => ?_)
      · replace h := h.2 hc
        exact h
      · replace h := h.1 (Classical.not_not.mp hc)
        refine w_iconst (pc' := 81) rfl rfl (v := 0) rfl ?_
        exact w_ireturn rfl rfl h
  · replace h := h.2 hc
    refine w_iconst (pc' := 40) rfl rfl (v := 0) rfl ?_
    exact w_ireturn rfl rfl h
theorem t_As_mark_82 {L : Nat} {xs : Nat → Int32} {x1 : Int32} {x2 : Int32} {x3 : Nat} {x4 : Nat} {x5 : Int32} {f : Hp} {Q : Int32 → Hp → Prop} (qx3 : xS0 L x3 = (2, 0)) (qx4 : xS0 L x4 = (2, 0)) (h : ∃ k1 : Nat, x1 = iN k1 ∧ k1 < 7 ∧ ∀ g1, g1 = xu f (x3 + 9) k1 (f x4 5) → ∀ g2, g2 = xu g1 (x3 + 10) k1 x5 → CV L xs xm_Me_countVotes [.ref x3] g2 (fun g3 => Q 1 g3)) : Wp L xs xm_As_mark 82 [.ref 75, .int x1, .int x2, .ref x3, .ref x4, .int x5] [] f (QI Q) := by
  refine w_aload_n (pc' := 83) rfl rfl rfl ?_
  have q1 : xR0 x3 16 = some (x3 + 9) ∧ xS0 L (x3 + 9) = (20, 7) := (kf_2_16 qx3)
  refine w_getR (pc' := 86) rfl rfl rfl rfl qx3 q1.1 ?_
  refine w_iload_n (pc' := 87) rfl rfl rfl ?_
  refine w_aload (pc' := 89) rfl rfl rfl ?_
  refine w_getI (pc' := 92) rfl rfl rfl rfl rfl qx4 ?_
  obtain ⟨k1, ek1, bk1, h⟩ := h
  refine w_iastore (pc' := 93) (i := k1) rfl rfl q1.2 ek1 bk1 (by omega) ?_
  replace h := h _ rfl
  generalize xu f (x3 + 9) k1 (f x4 5) = g1 at h ⊢
  refine w_aload_n (pc' := 94) rfl rfl rfl ?_
  have q2 : xR0 x3 17 = some (x3 + 10) ∧ xS0 L (x3 + 10) = (20, 7) := (kf_2_17 qx3)
  refine w_getR (pc' := 97) rfl rfl rfl rfl qx3 q2.1 ?_
  refine w_iload_n (pc' := 98) rfl rfl rfl ?_
  refine w_iload (pc' := 100) rfl rfl rfl ?_
  refine w_iastore (pc' := 101) (i := k1) rfl rfl q2.2 ek1 bk1 (by omega) ?_
  replace h := h _ rfl
  generalize xu g1 (x3 + 10) k1 x5 = g2 at h ⊢
  refine w_aload_n (pc' := 102) rfl rfl rfl ?_
  refine w_cv (pc' := 105) (cm := xm_Me_countVotes) (as := []) (a := x3) (rest := []) rfl rfl rfl  (xa_Me_countVotes (Nat.le_of_ble_eq_true rfl)) qx3 rfl (CV.k h fun g3 h => ?_)
  show Wp L xs xm_As_mark 105 [.ref 75, .int x1, .int x2, .ref x3, .ref x4, .int x5] [] g3 _
  refine w_iconst (pc' := 106) rfl rfl (v := 1) rfl ?_
  exact w_ireturn rfl rfl h
theorem t_As_fetch_0 {L : Nat} {xs : Nat → Int32} {x1 : Int32} {x2 : Int32} {f : Hp} {Q : Int32 → Hp → Prop}  (h : ∃ k1 : Nat, x1 = iN k1 ∧ k1 < 7 ∧ ∃ k2 : Nat, x2 = iN k2 ∧ k2 < 7 ∧ CI L xs xm_As_isHonest [.ref 75, .int x1] f (fun v1 g1 => ((v1 = 0 → Q 0 g1) ∧ (¬ v1 = 0 → (((g1 (93 + 11 * k1) 3) < (g1 (93 + 11 * k1) 2) → (((g1 (93 + 11 * k2) 5) = (g1 (93 + 11 * k1) 2) → CV L xs xm_Su_fetch [.ref 90, .ref (93 + 11 * k1 + 1), .ref (93 + 11 * k2 + 2)] g1 (fun g2 => ∀ g3, g3 = xu g2 (93 + 11 * k1) 4 ((g2 (93 + 11 * k1) 4) + (g2 90 2)) → ∀ g4, g4 = xu g3 (93 + 11 * k1) 3 (g3 (93 + 11 * k1) 2) → CV L xs xm_As_checkpoint [.ref 75, .int x1] g4 (fun g5 => Q 1 g5))) ∧ (¬ (g1 (93 + 11 * k2) 5) = (g1 (93 + 11 * k1) 2) → Q 0 g1))) ∧ (¬ (g1 (93 + 11 * k1) 3) < (g1 (93 + 11 * k1) 2) → Q 0 g1)))))) : CI L xs xm_As_fetch [.ref 75, .int x1, .int x2] f Q := by
  show Wp L xs xm_As_fetch 0 [.ref 75, .int x1, .int x2, .retAddr 0, .retAddr 0] [] f (QI Q)
  refine w_aload_n (pc' := 1) rfl rfl rfl ?_
  have q1 : xR0 75 2 = some 89 ∧ xS0 L 89 = (24, 7) := (kf_0_2 (show xS0 L 75 = (0, 0) from rfl))
  refine w_getR (pc' := 4) rfl rfl rfl rfl (show xS0 L 75 = (0, 0) from rfl) q1.1 ?_
  refine w_iload_n (pc' := 5) rfl rfl rfl ?_
  obtain ⟨k1, ek1, bk1, h⟩ := h
  have q2 : xR0 89 k1 = some (93 + 11 * k1) ∧ xS0 L (93 + 11 * k1) = (2, 0) := ke_24 q1.2 bk1
  refine w_aaload (pc' := 6) (i := k1) rfl rfl q1.2 (by omega) ek1 bk1 (by omega) q2.1 ?_
  refine w_astore_n (pc' := 7) rfl rfl (xl' := [.ref 75, .int x1, .int x2, .ref (93 + 11 * k1), .retAddr 0]) rfl ?_
  refine w_aload_n (pc' := 8) rfl rfl rfl ?_
  have q3 : xR0 75 2 = some 89 ∧ xS0 L 89 = (24, 7) := (kf_0_2 (show xS0 L 75 = (0, 0) from rfl))
  refine w_getR (pc' := 11) rfl rfl rfl rfl (show xS0 L 75 = (0, 0) from rfl) q3.1 ?_
  refine w_iload_n (pc' := 12) rfl rfl rfl ?_
  obtain ⟨k2, ek2, bk2, h⟩ := h
  have q4 : xR0 89 k2 = some (93 + 11 * k2) ∧ xS0 L (93 + 11 * k2) = (2, 0) := ke_24 q3.2 bk2
  refine w_aaload (pc' := 13) (i := k2) rfl rfl q3.2 (by omega) ek2 bk2 (by omega) q4.1 ?_
  refine w_astore (pc' := 15) rfl rfl (xl' := [.ref 75, .int x1, .int x2, .ref (93 + 11 * k1), .ref (93 + 11 * k2)]) rfl ?_
  refine w_aload_n (pc' := 16) rfl rfl rfl ?_
  refine w_iload_n (pc' := 17) rfl rfl rfl ?_
  refine w_cv (pc' := 20) (cm := xm_As_isHonest) (as := [.int x1]) (a := 75) (rest := []) rfl rfl rfl  (xa_As_isHonest (Nat.le_of_ble_eq_true rfl)) (show xS0 L 75 = (0, 0) from rfl) rfl (CI.k h fun v1 g1 h => ?_)
  show Wp L xs xm_As_fetch 20 [.ref 75, .int x1, .int x2, .ref (93 + 11 * k1), .ref (93 + 11 * k2)] [.int v1] g1 _
  refine w_br (pc' := 23) (t := 46) rfl rfl rfl ic_eq (fun hc => ?_) (fun hc => ?_)
  · replace h := h.1 hc
    refine w_iconst (pc' := 47) rfl rfl (v := 0) rfl ?_
    exact w_ireturn rfl rfl h
  · replace h := h.2 hc
    refine w_aload_n (pc' := 24) rfl rfl rfl ?_
    refine w_getI (pc' := 27) rfl rfl rfl rfl rfl q2.2 ?_
    refine w_aload_n (pc' := 28) rfl rfl rfl ?_
    refine w_getI (pc' := 31) rfl rfl rfl rfl rfl q2.2 ?_
    refine w_br2 (pc' := 34) (t := 46) rfl rfl rfl ic_ge (fun hc => ?_) (fun hc => ?_)
    · replace h := h.2 hc
      refine w_iconst (pc' := 47) rfl rfl (v := 0) rfl ?_
      exact w_ireturn rfl rfl h
    · replace h := h.1 (Classical.not_not.mp hc)
      refine w_aload (pc' := 36) rfl rfl rfl ?_
      refine w_getI (pc' := 39) rfl rfl rfl rfl rfl q4.2 ?_
      refine w_aload_n (pc' := 40) rfl rfl rfl ?_
      refine w_getI (pc' := 43) rfl rfl rfl rfl rfl q2.2 ?_
      refine w_br2 (pc' := 46) (t := 48) rfl rfl rfl ic_eq (fun hc => ?_) (fun hc => ?_)
      · replace h := h.1 hc
        refine w_aload_n (pc' := 49) rfl rfl rfl ?_
        have q5 : xR0 75 3 = some 90 ∧ xS0 L 90 = (7, 0) := (kf_0_3 (show xS0 L 75 = (0, 0) from rfl))
        refine w_getR (pc' := 52) rfl rfl rfl rfl (show xS0 L 75 = (0, 0) from rfl) q5.1 ?_
        refine w_aload_n (pc' := 53) rfl rfl rfl ?_
        have q6 : xR0 (93 + 11 * k1) 8 = some (93 + 11 * k1 + 1) ∧ xS0 L (93 + 11 * k1 + 1) = (20, 8) := (kf_2_8 q2.2)
        refine w_getR (pc' := 56) rfl rfl rfl rfl q2.2 q6.1 ?_
        refine w_aload (pc' := 58) rfl rfl rfl ?_
        have q7 : xR0 (93 + 11 * k2) 9 = some (93 + 11 * k2 + 2) ∧ xS0 L (93 + 11 * k2 + 2) = (20, 8) := (kf_2_9 q4.2)
        refine w_getR (pc' := 61) rfl rfl rfl rfl q4.2 q7.1 ?_
        refine w_cv (pc' := 64) (cm := xm_Su_fetch) (as := [.ref (93 + 11 * k1 + 1), .ref (93 + 11 * k2 + 2)]) (a := 90) (rest := []) rfl rfl rfl  (xa_Su_fetch (Nat.le_of_ble_eq_true rfl)) q5.2 rfl (CV.k h fun g2 h => ?_)
        show Wp L xs xm_As_fetch 64 [.ref 75, .int x1, .int x2, .ref (93 + 11 * k1), .ref (93 + 11 * k2)] [] g2 _
        refine w_aload_n (pc' := 65) rfl rfl rfl ?_
        refine w_dupA (pc' := 66) rfl rfl ?_
        refine w_getI (pc' := 69) rfl rfl rfl rfl rfl q2.2 ?_
        refine w_aload_n (pc' := 70) rfl rfl rfl ?_
        have q8 : xR0 75 3 = some 90 ∧ xS0 L 90 = (7, 0) := (kf_0_3 (show xS0 L 75 = (0, 0) from rfl))
        refine w_getR (pc' := 73) rfl rfl rfl rfl (show xS0 L 75 = (0, 0) from rfl) q8.1 ?_
        refine w_getI (pc' := 76) rfl rfl rfl rfl rfl q8.2 ?_
        refine w_iadd (pc' := 77) rfl rfl ?_
        refine w_putI (pc' := 80) rfl rfl rfl rfl q2.2 ?_
        replace h := h _ rfl
        generalize xu g2 (93 + 11 * k1) 4 ((g2 (93 + 11 * k1) 4) + (g2 90 2)) = g3 at h ⊢
        refine w_aload_n (pc' := 81) rfl rfl rfl ?_
        refine w_aload_n (pc' := 82) rfl rfl rfl ?_
        refine w_getI (pc' := 85) rfl rfl rfl rfl rfl q2.2 ?_
        refine w_putI (pc' := 88) rfl rfl rfl rfl q2.2 ?_
        replace h := h _ rfl
        generalize xu g3 (93 + 11 * k1) 3 (g3 (93 + 11 * k1) 2) = g4 at h ⊢
        refine w_aload_n (pc' := 89) rfl rfl rfl ?_
        refine w_iload_n (pc' := 90) rfl rfl rfl ?_
        refine w_cv (pc' := 93) (cm := xm_As_checkpoint) (as := [.int x1]) (a := 75) (rest := []) rfl rfl rfl  (xa_As_checkpoint (Nat.le_of_ble_eq_true rfl)) (show xS0 L 75 = (0, 0) from rfl) rfl (CV.k h fun g5 h => ?_)
        show Wp L xs xm_As_fetch 93 [.ref 75, .int x1, .int x2, .ref (93 + 11 * k1), .ref (93 + 11 * k2)] [] g5 _
        refine w_iconst (pc' := 94) rfl rfl (v := 1) rfl ?_
        exact w_ireturn rfl rfl h
      · replace h := h.2 hc
        refine w_iconst (pc' := 47) rfl rfl (v := 0) rfl ?_
        exact w_ireturn rfl rfl h
theorem t_As_tell_0 {L : Nat} {xs : Nat → Int32} {x1 : Int32} {x2 : Int32} {f : Hp} {Q : Int32 → Hp → Prop}  (h : CI L xs xm_As_isSeat [.ref 75, .int x1] f (fun v1 g1 => ((v1 = 0 → Q (-2) g1) ∧ (¬ v1 = 0 → ((x2 = 4 → ∃ k2 : Nat, x1 = iN k2 ∧ k2 < 7 ∧ CI L xs xm_Su_rootOf [.ref 90, .ref (93 + 11 * k2 + 1)] g1 (fun v3 g3 => Q v3 g3)) ∧ (¬ x2 = 4 → ∃ k1 : Nat, x1 = iN k1 ∧ k1 < 7 ∧ CI L xs xm_Me_tell [.ref (93 + 11 * k1), .int x2] g1 (fun v2 g2 => Q v2 g2))))))) : CI L xs xm_As_tell [.ref 75, .int x1, .int x2] f Q := by
  show Wp L xs xm_As_tell 0 [.ref 75, .int x1, .int x2] [] f (QI Q)
  refine w_aload_n (pc' := 1) rfl rfl rfl ?_
  refine w_iload_n (pc' := 2) rfl rfl rfl ?_
  refine w_cv (pc' := 5) (cm := xm_As_isSeat) (as := [.int x1]) (a := 75) (rest := []) rfl rfl rfl  (xa_As_isSeat (Nat.le_of_ble_eq_true rfl)) (show xS0 L 75 = (0, 0) from rfl) rfl (CI.k h fun v1 g1 h => ?_)
  show Wp L xs xm_As_tell 5 [.ref 75, .int x1, .int x2] [.int v1] g1 _
  refine w_br (pc' := 8) (t := 11) rfl rfl rfl ic_ne (fun hc => ?_) (fun hc => ?_)
  · replace h := h.2 hc
    refine w_iload_n (pc' := 12) rfl rfl rfl ?_
    refine w_iconst (pc' := 13) rfl rfl (v := 4) rfl ?_
    refine w_br2 (pc' := 16) (t := 35) rfl rfl rfl ic_ne (fun hc => ?_) (fun hc => ?_)
    · replace h := h.2 hc
      refine w_aload_n (pc' := 36) rfl rfl rfl ?_
      have q1 : xR0 75 2 = some 89 ∧ xS0 L 89 = (24, 7) := (kf_0_2 (show xS0 L 75 = (0, 0) from rfl))
      refine w_getR (pc' := 39) rfl rfl rfl rfl (show xS0 L 75 = (0, 0) from rfl) q1.1 ?_
      refine w_iload_n (pc' := 40) rfl rfl rfl ?_
      obtain ⟨k1, ek1, bk1, h⟩ := h
      have q2 : xR0 89 k1 = some (93 + 11 * k1) ∧ xS0 L (93 + 11 * k1) = (2, 0) := ke_24 q1.2 bk1
      refine w_aaload (pc' := 41) (i := k1) rfl rfl q1.2 (by omega) ek1 bk1 (by omega) q2.1 ?_
      refine w_iload_n (pc' := 42) rfl rfl rfl ?_
      refine w_cv (pc' := 45) (cm := xm_Me_tell) (as := [.int x2]) (a := (93 + 11 * k1)) (rest := []) rfl rfl rfl  (xa_Me_tell (Nat.le_of_ble_eq_true rfl)) q2.2 rfl (CI.k h fun v2 g2 h => ?_)
      show Wp L xs xm_As_tell 45 [.ref 75, .int x1, .int x2] [.int v2] g2 _
      exact w_ireturn rfl rfl h
    · replace h := h.1 (Classical.not_not.mp hc)
      refine w_aload_n (pc' := 17) rfl rfl rfl ?_
      have q3 : xR0 75 3 = some 90 ∧ xS0 L 90 = (7, 0) := (kf_0_3 (show xS0 L 75 = (0, 0) from rfl))
      refine w_getR (pc' := 20) rfl rfl rfl rfl (show xS0 L 75 = (0, 0) from rfl) q3.1 ?_
      refine w_aload_n (pc' := 21) rfl rfl rfl ?_
      have q4 : xR0 75 2 = some 89 ∧ xS0 L 89 = (24, 7) := (kf_0_2 (show xS0 L 75 = (0, 0) from rfl))
      refine w_getR (pc' := 24) rfl rfl rfl rfl (show xS0 L 75 = (0, 0) from rfl) q4.1 ?_
      refine w_iload_n (pc' := 25) rfl rfl rfl ?_
      obtain ⟨k2, ek2, bk2, h⟩ := h
      have q5 : xR0 89 k2 = some (93 + 11 * k2) ∧ xS0 L (93 + 11 * k2) = (2, 0) := ke_24 q4.2 bk2
      refine w_aaload (pc' := 26) (i := k2) rfl rfl q4.2 (by omega) ek2 bk2 (by omega) q5.1 ?_
      have q6 : xR0 (93 + 11 * k2) 8 = some (93 + 11 * k2 + 1) ∧ xS0 L (93 + 11 * k2 + 1) = (20, 8) := (kf_2_8 q5.2)
      refine w_getR (pc' := 29) rfl rfl rfl rfl q5.2 q6.1 ?_
      refine w_cv (pc' := 32) (cm := xm_Su_rootOf) (as := [.ref (93 + 11 * k2 + 1)]) (a := 90) (rest := []) rfl rfl rfl  (xa_Su_rootOf (Nat.le_of_ble_eq_true rfl)) q3.2 rfl (CI.k h fun v3 g3 h => ?_)
      show Wp L xs xm_As_tell 32 [.ref 75, .int x1, .int x2] [.int v3] g3 _
      refine w_goto (pc' := 45) rfl rfl ?_
      exact w_ireturn rfl rfl h
  · replace h := h.1 (Classical.not_not.mp hc)
    refine w_bipush (pc' := 10) rfl rfl (v := (-2)) rfl ?_
    exact w_ireturn rfl rfl h
theorem t_As_unlikePlaces_0 {L : Nat} {xs : Nat → Int32}  {f : Hp} {Q : Int32 → Hp → Prop}  (h : Wp L xs xm_As_unlikePlaces 4 [.ref 75, .int 0, .int 1, .retAddr 0, .retAddr 0] [] f (QI Q)) : CI L xs xm_As_unlikePlaces [.ref 75] f Q := by
  show Wp L xs xm_As_unlikePlaces 0 [.ref 75, .retAddr 0, .retAddr 0, .retAddr 0, .retAddr 0] [] f (QI Q)
  refine w_iconst (pc' := 1) rfl rfl (v := 0) rfl ?_
  refine w_istore_n (pc' := 2) rfl rfl (xl' := [.ref 75, .int 0, .retAddr 0, .retAddr 0, .retAddr 0]) rfl ?_
  refine w_iconst (pc' := 3) rfl rfl (v := 1) rfl ?_
  refine w_istore_n (pc' := 4) rfl rfl (xl' := [.ref 75, .int 0, .int 1, .retAddr 0, .retAddr 0]) rfl ?_
  exact h
theorem t_As_unlikePlaces_4 {L : Nat} {xs : Nat → Int32} {x1 : Int32} {x2 : Int32} {x3 : Value} {x4 : Value} {f : Hp} {Q : Int32 → Hp → Prop} (cx3 : (x3.category != 2) = true) (cx4 : (x4.category != 2) = true) (h : ((12 < x2 → Q x1 f) ∧ (¬ 12 < x2 → Wp L xs xm_As_unlikePlaces 15 [.ref 75, .int x1, .int x2, .int 0, .int 0] [] f (QI Q)))) : Wp L xs xm_As_unlikePlaces 4 [.ref 75, .int x1, .int x2, x3, x4] [] f (QI Q) := by
  refine w_iload_n (pc' := 5) rfl rfl rfl ?_
  refine w_bipush (pc' := 7) rfl rfl (v := 12) rfl ?_
  refine w_br2 (pc' := 10) (t := 58) rfl rfl rfl ic_gt (fun hc => ?_) (fun hc => ?_)
  · replace h := h.1 hc
    refine w_iload_n (pc' := 59) rfl rfl rfl ?_
    exact w_ireturn rfl rfl h
  · replace h := h.2 hc
    refine w_iconst (pc' := 11) rfl rfl (v := 0) rfl ?_
    refine w_istore_n (pc' := 12) rfl rfl (xl' := [.ref 75, .int x1, .int x2, .int 0, x4]) rfl ?_
    refine w_iconst (pc' := 13) rfl rfl (v := 0) rfl ?_
    refine w_istore (pc' := 15) rfl rfl (xl' := [.ref 75, .int x1, .int x2, .int 0, .int 0]) rfl ?_
    exact h
theorem t_As_unlikePlaces_15 {L : Nat} {xs : Nat → Int32} {x1 : Int32} {x2 : Int32} {x3 : Int32} {x4 : Int32} {f : Hp} {Q : Int32 → Hp → Prop}  (h : ((10 < x4 → ((1 < x3 → Wp L xs xm_As_unlikePlaces 4 [.ref 75, .int (x1 ||| (1 <<< (x2 &&& 31))), .int (x2 + 1), .int x3, .int x4] [] f (QI Q)) ∧ (¬ 1 < x3 → Wp L xs xm_As_unlikePlaces 4 [.ref 75, .int x1, .int (x2 + 1), .int x3, .int x4] [] f (QI Q)))) ∧ (¬ 10 < x4 → CI L xs xm_As_runners [.ref 75, .int x2, .int x4] f (fun v1 g1 => ((0 < v1 → Wp L xs xm_As_unlikePlaces 15 [.ref 75, .int x1, .int x2, .int (x3 + 1), .int (x4 + 1)] [] g1 (QI Q)) ∧ (¬ 0 < v1 → Wp L xs xm_As_unlikePlaces 15 [.ref 75, .int x1, .int x2, .int x3, .int (x4 + 1)] [] g1 (QI Q))))))) : Wp L xs xm_As_unlikePlaces 15 [.ref 75, .int x1, .int x2, .int x3, .int x4] [] f (QI Q) := by
  refine w_iload (pc' := 17) rfl rfl rfl ?_
  refine w_bipush (pc' := 19) rfl rfl (v := 10) rfl ?_
  refine w_br2 (pc' := 22) (t := 41) rfl rfl rfl ic_gt (fun hc => ?_) (fun hc => ?_)
  · replace h := h.1 hc
    refine w_iload_n (pc' := 42) rfl rfl rfl ?_
    refine w_iconst (pc' := 43) rfl rfl (v := 1) rfl ?_
    refine w_br2 (pc' := 46) (t := 52) rfl rfl rfl ic_le (fun hc => ?_) (fun hc => ?_)
    · replace h := h.2 hc
      refine w_iinc (pc' := 55) rfl rfl rfl (v := (x2 + 1)) rfl (xl' := [.ref 75, .int x1, .int (x2 + 1), .int x3, .int x4]) rfl ?_
      refine w_goto (pc' := 4) rfl rfl ?_
      exact h
    · replace h := h.1 (Classical.not_not.mp hc)
      refine w_iload_n (pc' := 47) rfl rfl rfl ?_
      refine w_iconst (pc' := 48) rfl rfl (v := 1) rfl ?_
      refine w_iload_n (pc' := 49) rfl rfl rfl ?_
      refine w_ishl (pc' := 50) rfl rfl ?_
      refine w_ior (pc' := 51) rfl rfl ?_
      refine w_istore_n (pc' := 52) rfl rfl (xl' := [.ref 75, .int (x1 ||| (1 <<< (x2 &&& 31))), .int x2, .int x3, .int x4]) rfl ?_
      refine w_iinc (pc' := 55) rfl rfl rfl (v := (x2 + 1)) rfl (xl' := [.ref 75, .int (x1 ||| (1 <<< (x2 &&& 31))), .int (x2 + 1), .int x3, .int x4]) rfl ?_
      refine w_goto (pc' := 4) rfl rfl ?_
      exact h
  · replace h := h.2 hc
    refine w_aload_n (pc' := 23) rfl rfl rfl ?_
    refine w_iload_n (pc' := 24) rfl rfl rfl ?_
    refine w_iload (pc' := 26) rfl rfl rfl ?_
    refine w_cv (pc' := 29) (cm := xm_As_runners) (as := [.int x2, .int x4]) (a := 75) (rest := []) rfl rfl rfl  (xa_As_runners (Nat.le_of_ble_eq_true rfl)) (show xS0 L 75 = (0, 0) from rfl) rfl (CI.k h fun v1 g1 h => ?_)
    show Wp L xs xm_As_unlikePlaces 29 [.ref 75, .int x1, .int x2, .int x3, .int x4] [.int v1] g1 _
    refine w_br (pc' := 32) (t := 35) rfl rfl rfl ic_le (fun hc => ?_) (fun hc => ?_)
    · replace h := h.2 hc
      refine w_iinc (pc' := 38) rfl rfl rfl (v := (x4 + 1)) rfl (xl' := [.ref 75, .int x1, .int x2, .int x3, .int (x4 + 1)]) rfl ?_
      refine w_goto (pc' := 15) rfl rfl ?_
      exact h
    · replace h := h.1 (Classical.not_not.mp hc)
      refine w_iinc (pc' := 35) rfl rfl rfl (v := (x3 + 1)) rfl (xl' := [.ref 75, .int x1, .int x2, .int (x3 + 1), .int x4]) rfl ?_
      refine w_iinc (pc' := 38) rfl rfl rfl (v := (x4 + 1)) rfl (xl' := [.ref 75, .int x1, .int x2, .int (x3 + 1), .int (x4 + 1)]) rfl ?_
      refine w_goto (pc' := 15) rfl rfl ?_
      exact h
theorem t_As_runners_0 {L : Nat} {xs : Nat → Int32} {x1 : Int32} {x2 : Int32} {f : Hp} {Q : Int32 → Hp → Prop}  (h : Wp L xs xm_As_runners 5 [.ref 75, .int x1, .int x2, .int 0, .int 0] [] f (QI Q)) : CI L xs xm_As_runners [.ref 75, .int x1, .int x2] f Q := by
  show Wp L xs xm_As_runners 0 [.ref 75, .int x1, .int x2, .retAddr 0, .retAddr 0] [] f (QI Q)
  refine w_iconst (pc' := 1) rfl rfl (v := 0) rfl ?_
  refine w_istore_n (pc' := 2) rfl rfl (xl' := [.ref 75, .int x1, .int x2, .int 0, .retAddr 0]) rfl ?_
  refine w_iconst (pc' := 3) rfl rfl (v := 0) rfl ?_
  refine w_istore (pc' := 5) rfl rfl (xl' := [.ref 75, .int x1, .int x2, .int 0, .int 0]) rfl ?_
  exact h
theorem t_As_runners_5 {L : Nat} {xs : Nat → Int32} {x1 : Int32} {x2 : Int32} {x3 : Int32} {x4 : Int32} {f : Hp} {Q : Int32 → Hp → Prop}  (h : ((x4 < (f 75 4) → CI L xs xm_As_isHonest [.ref 75, .int x4] f (fun v1 g1 => ((v1 = 0 → Wp L xs xm_As_runners 5 [.ref 75, .int x1, .int x2, .int x3, .int (x4 + 1)] [] g1 (QI Q)) ∧ (¬ v1 = 0 → ∃ k1 : Nat, x4 = iN k1 ∧ k1 < 7 ∧ ∃ k2 : Nat, x1 = iN k2 ∧ k2 < 13 ∧ (((g1 (93 + 11 * k1 + 8) k2) = x2 → Wp L xs xm_As_runners 5 [.ref 75, .int x1, .int x2, .int (x3 + 1), .int (x4 + 1)] [] g1 (QI Q)) ∧ (¬ (g1 (93 + 11 * k1 + 8) k2) = x2 → Wp L xs xm_As_runners 5 [.ref 75, .int x1, .int x2, .int x3, .int (x4 + 1)] [] g1 (QI Q))))))) ∧ (¬ x4 < (f 75 4) → Q x3 f))) : Wp L xs xm_As_runners 5 [.ref 75, .int x1, .int x2, .int x3, .int x4] [] f (QI Q) := by
  refine w_iload (pc' := 7) rfl rfl rfl ?_
  refine w_aload_n (pc' := 8) rfl rfl rfl ?_
  refine w_getI (pc' := 11) rfl rfl rfl rfl rfl (show xS0 L 75 = (0, 0) from rfl) ?_
  refine w_br2 (pc' := 14) (t := 48) rfl rfl rfl ic_ge (fun hc => ?_) (fun hc => ?_)
  · replace h := h.2 hc
    refine w_iload_n (pc' := 49) rfl rfl rfl ?_
    exact w_ireturn rfl rfl h
  · replace h := h.1 (Classical.not_not.mp hc)
    refine w_aload_n (pc' := 15) rfl rfl rfl ?_
    refine w_iload (pc' := 17) rfl rfl rfl ?_
    refine w_cv (pc' := 20) (cm := xm_As_isHonest) (as := [.int x4]) (a := 75) (rest := []) rfl rfl rfl  (xa_As_isHonest (Nat.le_of_ble_eq_true rfl)) (show xS0 L 75 = (0, 0) from rfl) rfl (CI.k h fun v1 g1 h => ?_)
    show Wp L xs xm_As_runners 20 [.ref 75, .int x1, .int x2, .int x3, .int x4] [.int v1] g1 _
    refine w_br (pc' := 23) (t := 42) rfl rfl rfl ic_eq (fun hc => ?_) (fun hc => ?_)
    · replace h := h.1 hc
      refine w_iinc (pc' := 45) rfl rfl rfl (v := (x4 + 1)) rfl (xl' := [.ref 75, .int x1, .int x2, .int x3, .int (x4 + 1)]) rfl ?_
      refine w_goto (pc' := 5) rfl rfl ?_
      exact h
    · replace h := h.2 hc
      refine w_aload_n (pc' := 24) rfl rfl rfl ?_
      have q1 : xR0 75 2 = some 89 ∧ xS0 L 89 = (24, 7) := (kf_0_2 (show xS0 L 75 = (0, 0) from rfl))
      refine w_getR (pc' := 27) rfl rfl rfl rfl (show xS0 L 75 = (0, 0) from rfl) q1.1 ?_
      refine w_iload (pc' := 29) rfl rfl rfl ?_
      obtain ⟨k1, ek1, bk1, h⟩ := h
      have q2 : xR0 89 k1 = some (93 + 11 * k1) ∧ xS0 L (93 + 11 * k1) = (2, 0) := ke_24 q1.2 bk1
      refine w_aaload (pc' := 30) (i := k1) rfl rfl q1.2 (by omega) ek1 bk1 (by omega) q2.1 ?_
      have q3 : xR0 (93 + 11 * k1) 15 = some (93 + 11 * k1 + 8) ∧ xS0 L (93 + 11 * k1 + 8) = (20, 13) := (kf_2_15 q2.2)
      refine w_getR (pc' := 33) rfl rfl rfl rfl q2.2 q3.1 ?_
      refine w_iload_n (pc' := 34) rfl rfl rfl ?_
      obtain ⟨k2, ek2, bk2, h⟩ := h
      refine w_iaload (pc' := 35) (i := k2) rfl rfl q3.2 ek2 bk2 (by omega) ?_
      refine w_iload_n (pc' := 36) rfl rfl rfl ?_
      refine w_br2 (pc' := 39) (t := 42) rfl rfl rfl ic_ne (fun hc => ?_) (fun hc => ?_)
      · replace h := h.2 hc
        refine w_iinc (pc' := 45) rfl rfl rfl (v := (x4 + 1)) rfl (xl' := [.ref 75, .int x1, .int x2, .int x3, .int (x4 + 1)]) rfl ?_
        refine w_goto (pc' := 5) rfl rfl ?_
        exact h
      · replace h := h.1 (Classical.not_not.mp hc)
        refine w_iinc (pc' := 42) rfl rfl rfl (v := (x3 + 1)) rfl (xl' := [.ref 75, .int x1, .int x2, .int (x3 + 1), .int x4]) rfl ?_
        refine w_iinc (pc' := 45) rfl rfl rfl (v := (x4 + 1)) rfl (xl' := [.ref 75, .int x1, .int x2, .int (x3 + 1), .int (x4 + 1)]) rfl ?_
        refine w_goto (pc' := 5) rfl rfl ?_
        exact h
theorem t_As_alikePlaces_0 {L : Nat} {xs : Nat → Int32}  {f : Hp} {Q : Int32 → Hp → Prop}  (h : Wp L xs xm_As_alikePlaces 4 [.ref 75, .int 0, .int 1, .retAddr 0] [] f (QI Q)) : CI L xs xm_As_alikePlaces [.ref 75] f Q := by
  show Wp L xs xm_As_alikePlaces 0 [.ref 75, .retAddr 0, .retAddr 0, .retAddr 0] [] f (QI Q)
  refine w_iconst (pc' := 1) rfl rfl (v := 0) rfl ?_
  refine w_istore_n (pc' := 2) rfl rfl (xl' := [.ref 75, .int 0, .retAddr 0, .retAddr 0]) rfl ?_
  refine w_iconst (pc' := 3) rfl rfl (v := 1) rfl ?_
  refine w_istore_n (pc' := 4) rfl rfl (xl' := [.ref 75, .int 0, .int 1, .retAddr 0]) rfl ?_
  exact h
theorem t_As_alikePlaces_4 {L : Nat} {xs : Nat → Int32} {x1 : Int32} {x2 : Int32} {x3 : Value} {f : Hp} {Q : Int32 → Hp → Prop} (cx3 : (x3.category != 2) = true) (h : ((12 < x2 → Q x1 f) ∧ (¬ 12 < x2 → Wp L xs xm_As_alikePlaces 12 [.ref 75, .int x1, .int x2, .int 0] [] f (QI Q)))) : Wp L xs xm_As_alikePlaces 4 [.ref 75, .int x1, .int x2, x3] [] f (QI Q) := by
  refine w_iload_n (pc' := 5) rfl rfl rfl ?_
  refine w_bipush (pc' := 7) rfl rfl (v := 12) rfl ?_
  refine w_br2 (pc' := 10) (t := 52) rfl rfl rfl ic_gt (fun hc => ?_) (fun hc => ?_)
  · replace h := h.1 hc
    refine w_iload_n (pc' := 53) rfl rfl rfl ?_
    exact w_ireturn rfl rfl h
  · replace h := h.2 hc
    refine w_iconst (pc' := 11) rfl rfl (v := 0) rfl ?_
    refine w_istore_n (pc' := 12) rfl rfl (xl' := [.ref 75, .int x1, .int x2, .int 0]) rfl ?_
    exact h
theorem t_As_alikePlaces_12 {L : Nat} {xs : Nat → Int32} {x1 : Int32} {x2 : Int32} {x3 : Int32} {f : Hp} {Q : Int32 → Hp → Prop}  (h : ((10 < x3 → Wp L xs xm_As_alikePlaces 4 [.ref 75, .int x1, .int (x2 + 1), .int x3] [] f (QI Q)) ∧ (¬ 10 < x3 → CI L xs xm_As_runners [.ref 75, .int x2, .int x3] f (fun v1 g1 => (((g1 77 0) < v1 → Wp L xs xm_As_alikePlaces 12 [.ref 75, .int (x1 ||| (1 <<< (x2 &&& 31))), .int x2, .int (x3 + 1)] [] g1 (QI Q)) ∧ (¬ (g1 77 0) < v1 → Wp L xs xm_As_alikePlaces 12 [.ref 75, .int x1, .int x2, .int (x3 + 1)] [] g1 (QI Q))))))) : Wp L xs xm_As_alikePlaces 12 [.ref 75, .int x1, .int x2, .int x3] [] f (QI Q) := by
  refine w_iload_n (pc' := 13) rfl rfl rfl ?_
  refine w_bipush (pc' := 15) rfl rfl (v := 10) rfl ?_
  refine w_br2 (pc' := 18) (t := 46) rfl rfl rfl ic_gt (fun hc => ?_) (fun hc => ?_)
  · replace h := h.1 hc
    refine w_iinc (pc' := 49) rfl rfl rfl (v := (x2 + 1)) rfl (xl' := [.ref 75, .int x1, .int (x2 + 1), .int x3]) rfl ?_
    refine w_goto (pc' := 4) rfl rfl ?_
    exact h
  · replace h := h.2 hc
    refine w_aload_n (pc' := 19) rfl rfl rfl ?_
    refine w_iload_n (pc' := 20) rfl rfl rfl ?_
    refine w_iload_n (pc' := 21) rfl rfl rfl ?_
    refine w_cv (pc' := 24) (cm := xm_As_runners) (as := [.int x2, .int x3]) (a := 75) (rest := []) rfl rfl rfl  (xa_As_runners (Nat.le_of_ble_eq_true rfl)) (show xS0 L 75 = (0, 0) from rfl) rfl (CI.k h fun v1 g1 h => ?_)
    show Wp L xs xm_As_alikePlaces 24 [.ref 75, .int x1, .int x2, .int x3] [.int v1] g1 _
    refine w_aload_n (pc' := 25) rfl rfl rfl ?_
    have q1 : xR0 75 1 = some 77 ∧ xS0 L 77 = (1, 0) := (kf_0_1 (show xS0 L 75 = (0, 0) from rfl))
    refine w_getR (pc' := 28) rfl rfl rfl rfl (show xS0 L 75 = (0, 0) from rfl) q1.1 ?_
    refine w_getI (pc' := 31) rfl rfl rfl rfl rfl q1.2 ?_
    refine w_br2 (pc' := 34) (t := 40) rfl rfl rfl ic_le (fun hc => ?_) (fun hc => ?_)
    · replace h := h.2 hc
      refine w_iinc (pc' := 43) rfl rfl rfl (v := (x3 + 1)) rfl (xl' := [.ref 75, .int x1, .int x2, .int (x3 + 1)]) rfl ?_
      refine w_goto (pc' := 12) rfl rfl ?_
      exact h
    · replace h := h.1 (Classical.not_not.mp hc)
      refine w_iload_n (pc' := 35) rfl rfl rfl ?_
      refine w_iconst (pc' := 36) rfl rfl (v := 1) rfl ?_
      refine w_iload_n (pc' := 37) rfl rfl rfl ?_
      refine w_ishl (pc' := 38) rfl rfl ?_
      refine w_ior (pc' := 39) rfl rfl ?_
      refine w_istore_n (pc' := 40) rfl rfl (xl' := [.ref 75, .int (x1 ||| (1 <<< (x2 &&& 31))), .int x2, .int x3]) rfl ?_
      refine w_iinc (pc' := 43) rfl rfl rfl (v := (x3 + 1)) rfl (xl' := [.ref 75, .int (x1 ||| (1 <<< (x2 &&& 31))), .int x2, .int (x3 + 1)]) rfl ?_
      refine w_goto (pc' := 12) rfl rfl ?_
      exact h
theorem t_As_greatestRan_0 {L : Nat} {xs : Nat → Int32}  {f : Hp} {Q : Int32 → Hp → Prop}  (h : Wp L xs xm_As_greatestRan 4 [.ref 75, .int 0, .int 0] [] f (QI Q)) : CI L xs xm_As_greatestRan [.ref 75] f Q := by
  show Wp L xs xm_As_greatestRan 0 [.ref 75, .retAddr 0, .retAddr 0] [] f (QI Q)
  refine w_iconst (pc' := 1) rfl rfl (v := 0) rfl ?_
  refine w_istore_n (pc' := 2) rfl rfl (xl' := [.ref 75, .int 0, .retAddr 0]) rfl ?_
  refine w_iconst (pc' := 3) rfl rfl (v := 0) rfl ?_
  refine w_istore_n (pc' := 4) rfl rfl (xl' := [.ref 75, .int 0, .int 0]) rfl ?_
  exact h
theorem t_As_greatestRan_4 {L : Nat} {xs : Nat → Int32} {x1 : Int32} {x2 : Int32} {f : Hp} {Q : Int32 → Hp → Prop}  (h : ((x2 < (f 75 4) → CI L xs xm_As_isHonest [.ref 75, .int x2] f (fun v1 g1 => ((v1 = 0 → Wp L xs xm_As_greatestRan 4 [.ref 75, .int x1, .int (x2 + 1)] [] g1 (QI Q)) ∧ (¬ v1 = 0 → ∃ k1 : Nat, x2 = iN k1 ∧ k1 < 7 ∧ Wp L xs xm_As_greatestRan 4 [.ref 75, .int (imax x1 (g1 (93 + 11 * k1) 3)), .int (x2 + 1)] [] g1 (QI Q))))) ∧ (¬ x2 < (f 75 4) → Q x1 f))) : Wp L xs xm_As_greatestRan 4 [.ref 75, .int x1, .int x2] [] f (QI Q) := by
  refine w_iload_n (pc' := 5) rfl rfl rfl ?_
  refine w_aload_n (pc' := 6) rfl rfl rfl ?_
  refine w_getI (pc' := 9) rfl rfl rfl rfl rfl (show xS0 L 75 = (0, 0) from rfl) ?_
  refine w_br2 (pc' := 12) (t := 40) rfl rfl rfl ic_ge (fun hc => ?_) (fun hc => ?_)
  · replace h := h.2 hc
    refine w_iload_n (pc' := 41) rfl rfl rfl ?_
    exact w_ireturn rfl rfl h
  · replace h := h.1 (Classical.not_not.mp hc)
    refine w_aload_n (pc' := 13) rfl rfl rfl ?_
    refine w_iload_n (pc' := 14) rfl rfl rfl ?_
    refine w_cv (pc' := 17) (cm := xm_As_isHonest) (as := [.int x2]) (a := 75) (rest := []) rfl rfl rfl  (xa_As_isHonest (Nat.le_of_ble_eq_true rfl)) (show xS0 L 75 = (0, 0) from rfl) rfl (CI.k h fun v1 g1 h => ?_)
    show Wp L xs xm_As_greatestRan 17 [.ref 75, .int x1, .int x2] [.int v1] g1 _
    refine w_br (pc' := 20) (t := 34) rfl rfl rfl ic_eq (fun hc => ?_) (fun hc => ?_)
    · replace h := h.1 hc
      refine w_iinc (pc' := 37) rfl rfl rfl (v := (x2 + 1)) rfl (xl' := [.ref 75, .int x1, .int (x2 + 1)]) rfl ?_
      refine w_goto (pc' := 4) rfl rfl ?_
      exact h
    · replace h := h.2 hc
      refine w_iload_n (pc' := 21) rfl rfl rfl ?_
      refine w_aload_n (pc' := 22) rfl rfl rfl ?_
      have q1 : xR0 75 2 = some 89 ∧ xS0 L 89 = (24, 7) := (kf_0_2 (show xS0 L 75 = (0, 0) from rfl))
      refine w_getR (pc' := 25) rfl rfl rfl rfl (show xS0 L 75 = (0, 0) from rfl) q1.1 ?_
      refine w_iload_n (pc' := 26) rfl rfl rfl ?_
      obtain ⟨k1, ek1, bk1, h⟩ := h
      have q2 : xR0 89 k1 = some (93 + 11 * k1) ∧ xS0 L (93 + 11 * k1) = (2, 0) := ke_24 q1.2 bk1
      refine w_aaload (pc' := 27) (i := k1) rfl rfl q1.2 (by omega) ek1 bk1 (by omega) q2.1 ?_
      refine w_getI (pc' := 30) rfl rfl rfl rfl rfl q2.2 ?_
      refine w_max (pc' := 33) rfl rfl rfl (Nat.le_of_ble_eq_true rfl) ?_
      refine w_istore_n (pc' := 34) rfl rfl (xl' := [.ref 75, .int (imax x1 (g1 (93 + 11 * k1) 3)), .int x2]) rfl ?_
      refine w_iinc (pc' := 37) rfl rfl rfl (v := (x2 + 1)) rfl (xl' := [.ref 75, .int (imax x1 (g1 (93 + 11 * k1) 3)), .int (x2 + 1)]) rfl ?_
      refine w_goto (pc' := 4) rfl rfl ?_
      exact h
theorem t_As_leastRan_0 {L : Nat} {xs : Nat → Int32}  {f : Hp} {Q : Int32 → Hp → Prop}  (h : Wp L xs xm_As_leastRan 5 [.ref 75, .int 13, .int 0] [] f (QI Q)) : CI L xs xm_As_leastRan [.ref 75] f Q := by
  show Wp L xs xm_As_leastRan 0 [.ref 75, .retAddr 0, .retAddr 0] [] f (QI Q)
  refine w_bipush (pc' := 2) rfl rfl (v := 13) rfl ?_
  refine w_istore_n (pc' := 3) rfl rfl (xl' := [.ref 75, .int 13, .retAddr 0]) rfl ?_
  refine w_iconst (pc' := 4) rfl rfl (v := 0) rfl ?_
  refine w_istore_n (pc' := 5) rfl rfl (xl' := [.ref 75, .int 13, .int 0]) rfl ?_
  exact h
theorem t_As_leastRan_5 {L : Nat} {xs : Nat → Int32} {x1 : Int32} {x2 : Int32} {f : Hp} {Q : Int32 → Hp → Prop}  (h : ((x2 < (f 75 4) → CI L xs xm_As_isHonest [.ref 75, .int x2] f (fun v1 g1 => ((v1 = 0 → Wp L xs xm_As_leastRan 5 [.ref 75, .int x1, .int (x2 + 1)] [] g1 (QI Q)) ∧ (¬ v1 = 0 → ∃ k1 : Nat, x2 = iN k1 ∧ k1 < 7 ∧ Wp L xs xm_As_leastRan 5 [.ref 75, .int (imin x1 (g1 (93 + 11 * k1) 3)), .int (x2 + 1)] [] g1 (QI Q))))) ∧ (¬ x2 < (f 75 4) → ((12 < x1 → Q 0 f) ∧ (¬ 12 < x1 → Q x1 f))))) : Wp L xs xm_As_leastRan 5 [.ref 75, .int x1, .int x2] [] f (QI Q) := by
  refine w_iload_n (pc' := 6) rfl rfl rfl ?_
  refine w_aload_n (pc' := 7) rfl rfl rfl ?_
  refine w_getI (pc' := 10) rfl rfl rfl rfl rfl (show xS0 L 75 = (0, 0) from rfl) ?_
  refine w_br2 (pc' := 13) (t := 41) rfl rfl rfl ic_ge (fun hc => ?_) (fun hc => ?_)
  · replace h := h.2 hc
    refine w_iload_n (pc' := 42) rfl rfl rfl ?_
    refine w_bipush (pc' := 44) rfl rfl (v := 12) rfl ?_
    refine w_br2 (pc' := 47) (t := 51) rfl rfl rfl ic_le (fun hc => ?_) (fun hc => ?_)
    · replace h := h.2 hc
      refine w_iload_n (pc' := 52) rfl rfl rfl ?_
      exact w_ireturn rfl rfl h
    · replace h := h.1 (Classical.not_not.mp hc)
      refine w_iconst (pc' := 48) rfl rfl (v := 0) rfl ?_
      refine w_goto (pc' := 52) rfl rfl ?_
      exact w_ireturn rfl rfl h
  · replace h := h.1 (Classical.not_not.mp hc)
    refine w_aload_n (pc' := 14) rfl rfl rfl ?_
    refine w_iload_n (pc' := 15) rfl rfl rfl ?_
    refine w_cv (pc' := 18) (cm := xm_As_isHonest) (as := [.int x2]) (a := 75) (rest := []) rfl rfl rfl  (xa_As_isHonest (Nat.le_of_ble_eq_true rfl)) (show xS0 L 75 = (0, 0) from rfl) rfl (CI.k h fun v1 g1 h => ?_)
    show Wp L xs xm_As_leastRan 18 [.ref 75, .int x1, .int x2] [.int v1] g1 _
    refine w_br (pc' := 21) (t := 35) rfl rfl rfl ic_eq (fun hc => ?_) (fun hc => ?_)
    · replace h := h.1 hc
      refine w_iinc (pc' := 38) rfl rfl rfl (v := (x2 + 1)) rfl (xl' := [.ref 75, .int x1, .int (x2 + 1)]) rfl ?_
      refine w_goto (pc' := 5) rfl rfl ?_
      exact h
    · replace h := h.2 hc
      refine w_iload_n (pc' := 22) rfl rfl rfl ?_
      refine w_aload_n (pc' := 23) rfl rfl rfl ?_
      have q1 : xR0 75 2 = some 89 ∧ xS0 L 89 = (24, 7) := (kf_0_2 (show xS0 L 75 = (0, 0) from rfl))
      refine w_getR (pc' := 26) rfl rfl rfl rfl (show xS0 L 75 = (0, 0) from rfl) q1.1 ?_
      refine w_iload_n (pc' := 27) rfl rfl rfl ?_
      obtain ⟨k1, ek1, bk1, h⟩ := h
      have q2 : xR0 89 k1 = some (93 + 11 * k1) ∧ xS0 L (93 + 11 * k1) = (2, 0) := ke_24 q1.2 bk1
      refine w_aaload (pc' := 28) (i := k1) rfl rfl q1.2 (by omega) ek1 bk1 (by omega) q2.1 ?_
      refine w_getI (pc' := 31) rfl rfl rfl rfl rfl q2.2 ?_
      refine w_min (pc' := 34) rfl rfl rfl (Nat.le_of_ble_eq_true rfl) ?_
      refine w_istore_n (pc' := 35) rfl rfl (xl' := [.ref 75, .int (imin x1 (g1 (93 + 11 * k1) 3)), .int x2]) rfl ?_
      refine w_iinc (pc' := 38) rfl rfl rfl (v := (x2 + 1)) rfl (xl' := [.ref 75, .int (imin x1 (g1 (93 + 11 * k1) 3)), .int (x2 + 1)]) rfl ?_
      refine w_goto (pc' := 5) rfl rfl ?_
      exact h
theorem t_As_draw_0 {L : Nat} {xs : Nat → Int32} {x1 : Nat} {x2 : Int32} {x3 : Int32} {f : Hp} {Q : Hp → Prop} (qx1 : xS0 L x1 = (1, 0)) (h : CV L xs xm_As_begin [.ref 75, .ref x1] f (fun g1 => ∀ g2, g2 = xu g1 75 6 x2 → Wp L xs xm_As_draw 13 [.ref 75, .ref x1, .int x2, .int x3, .int 0, .retAddr 0, .retAddr 0, .retAddr 0, .retAddr 0] [] g2 (QV Q))) : CV L xs xm_As_draw [.ref 75, .ref x1, .int x2, .int x3] f Q := by
  show Wp L xs xm_As_draw 0 [.ref 75, .ref x1, .int x2, .int x3, .retAddr 0, .retAddr 0, .retAddr 0, .retAddr 0, .retAddr 0] [] f (QV Q)
  refine w_aload_n (pc' := 1) rfl rfl rfl ?_
  refine w_aload_n (pc' := 2) rfl rfl rfl ?_
  refine w_cv (pc' := 5) (cm := xm_As_begin) (as := [.ref x1]) (a := 75) (rest := []) rfl rfl rfl  (xa_As_begin (Nat.le_of_ble_eq_true rfl)) (show xS0 L 75 = (0, 0) from rfl) rfl (CV.k h fun g1 h => ?_)
  show Wp L xs xm_As_draw 5 [.ref 75, .ref x1, .int x2, .int x3, .retAddr 0, .retAddr 0, .retAddr 0, .retAddr 0, .retAddr 0] [] g1 _
  refine w_aload_n (pc' := 6) rfl rfl rfl ?_
  refine w_iload_n (pc' := 7) rfl rfl rfl ?_
  refine w_putI (pc' := 10) rfl rfl rfl rfl (show xS0 L 75 = (0, 0) from rfl) ?_
  replace h := h _ rfl
  generalize xu g1 75 6 x2 = g2 at h ⊢
  refine w_iconst (pc' := 11) rfl rfl (v := 0) rfl ?_
  refine w_istore (pc' := 13) rfl rfl (xl' := [.ref 75, .ref x1, .int x2, .int x3, .int 0, .retAddr 0, .retAddr 0, .retAddr 0, .retAddr 0]) rfl ?_
  exact h
theorem t_As_draw_13 {L : Nat} {xs : Nat → Int32} {x1 : Nat} {x2 : Int32} {x3 : Int32} {x4 : Int32} {x5 : Value} {x6 : Value} {x7 : Value} {x8 : Value} {f : Hp} {Q : Hp → Prop} (qx1 : xS0 L x1 = (1, 0)) (cx5 : (x5.category != 2) = true) (cx6 : (x6.category != 2) = true) (cx7 : (x7.category != 2) = true) (cx8 : (x8.category != 2) = true) (h : ((x4 < x3 → ((x4 < 200 → CI L xs xm_As_below [.ref 75, .int 10] f (fun v1 g1 => CI L xs xm_As_below [.ref 75, .int (g1 75 4)] g1 (fun v2 g2 => ((1 < (g2 75 4) → CI L xs xm_As_below [.ref 75, .int ((g2 75 4) - 1)] g2 (fun v3 g3 => (g3 75 4) ≠ 0 ∧ Wp L xs xm_As_draw 77 [.ref 75, .ref x1, .int x2, .int x3, .int x4, .int v1, .int v2, x7, x8] [.int (jrem ((v2 + 1) + v3) (g3 75 4))] g3 (QV Q))) ∧ (¬ 1 < (g2 75 4) → Wp L xs xm_As_draw 77 [.ref 75, .ref x1, .int x2, .int x3, .int x4, .int v1, .int v2, x7, x8] [.int 0] g2 (QV Q)))))) ∧ (¬ x4 < 200 → Q f))) ∧ (¬ x4 < x3 → Q f))) : Wp L xs xm_As_draw 13 [.ref 75, .ref x1, .int x2, .int x3, .int x4, x5, x6, x7, x8] [] f (QV Q) := by
  refine w_iload (pc' := 15) rfl rfl rfl ?_
  refine w_iload_n (pc' := 16) rfl rfl rfl ?_
  refine w_br2 (pc' := 19) (t := 152) rfl rfl rfl ic_ge (fun hc => ?_) (fun hc => ?_)
  · replace h := h.2 hc
    exact w_return rfl rfl h
  · replace h := h.1 (Classical.not_not.mp hc)
    refine w_iload (pc' := 21) rfl rfl rfl ?_
    refine w_sipush (pc' := 24) rfl rfl (v := 200) rfl ?_
    refine w_br2 (pc' := 27) (t := 152) rfl rfl rfl ic_ge (fun hc => ?_) (fun hc => ?_)
    · replace h := h.2 hc
      exact w_return rfl rfl h
    · replace h := h.1 (Classical.not_not.mp hc)
      refine w_aload_n (pc' := 28) rfl rfl rfl ?_
      refine w_bipush (pc' := 30) rfl rfl (v := 10) rfl ?_
      refine w_cv (pc' := 33) (cm := xm_As_below) (as := [.int 10]) (a := 75) (rest := []) rfl rfl rfl  (xa_As_below (Nat.le_of_ble_eq_true rfl)) (show xS0 L 75 = (0, 0) from rfl) rfl (CI.k h fun v1 g1 h => ?_)
      show Wp L xs xm_As_draw 33 [.ref 75, .ref x1, .int x2, .int x3, .int x4, x5, x6, x7, x8] [.int v1] g1 _
      refine w_istore (pc' := 35) rfl rfl (xl' := [.ref 75, .ref x1, .int x2, .int x3, .int x4, .int v1, x6, x7, x8]) rfl ?_
      refine w_aload_n (pc' := 36) rfl rfl rfl ?_
      refine w_aload_n (pc' := 37) rfl rfl rfl ?_
      refine w_getI (pc' := 40) rfl rfl rfl rfl rfl (show xS0 L 75 = (0, 0) from rfl) ?_
      refine w_cv (pc' := 43) (cm := xm_As_below) (as := [.int (g1 75 4)]) (a := 75) (rest := []) rfl rfl rfl  (xa_As_below (Nat.le_of_ble_eq_true rfl)) (show xS0 L 75 = (0, 0) from rfl) rfl (CI.k h fun v2 g2 h => ?_)
      show Wp L xs xm_As_draw 43 [.ref 75, .ref x1, .int x2, .int x3, .int x4, .int v1, x6, x7, x8] [.int v2] g2 _
      refine w_istore (pc' := 45) rfl rfl (xl' := [.ref 75, .ref x1, .int x2, .int x3, .int x4, .int v1, .int v2, x7, x8]) rfl ?_
      refine w_aload_n (pc' := 46) rfl rfl rfl ?_
      refine w_getI (pc' := 49) rfl rfl rfl rfl rfl (show xS0 L 75 = (0, 0) from rfl) ?_
      refine w_iconst (pc' := 50) rfl rfl (v := 1) rfl ?_
      refine w_br2 (pc' := 53) (t := 76) rfl rfl rfl ic_le (fun hc => ?_) (fun hc => ?_)
      · replace h := h.2 hc
        refine w_iconst (pc' := 77) rfl rfl (v := 0) rfl ?_
        exact h
      · replace h := h.1 (Classical.not_not.mp hc)
        refine w_iload (pc' := 55) rfl rfl rfl ?_
        refine w_iconst (pc' := 56) rfl rfl (v := 1) rfl ?_
        refine w_iadd (pc' := 57) rfl rfl ?_
        refine w_aload_n (pc' := 58) rfl rfl rfl ?_
        refine w_aload_n (pc' := 59) rfl rfl rfl ?_
        refine w_getI (pc' := 62) rfl rfl rfl rfl rfl (show xS0 L 75 = (0, 0) from rfl) ?_
        refine w_iconst (pc' := 63) rfl rfl (v := 1) rfl ?_
        refine w_isub (pc' := 64) rfl rfl ?_
        refine w_cv (pc' := 67) (cm := xm_As_below) (as := [.int ((g2 75 4) - 1)]) (a := 75) (rest := [.int (v2 + 1)]) rfl rfl rfl  (xa_As_below (Nat.le_of_ble_eq_true rfl)) (show xS0 L 75 = (0, 0) from rfl) rfl (CI.k h fun v3 g3 h => ?_)
        show Wp L xs xm_As_draw 67 [.ref 75, .ref x1, .int x2, .int x3, .int x4, .int v1, .int v2, x7, x8] [.int v3, .int (v2 + 1)] g3 _
        refine w_iadd (pc' := 68) rfl rfl ?_
        refine w_aload_n (pc' := 69) rfl rfl rfl ?_
        refine w_getI (pc' := 72) rfl rfl rfl rfl rfl (show xS0 L 75 = (0, 0) from rfl) ?_
        obtain ⟨q1, h⟩ := h
        refine w_irem (pc' := 73) rfl rfl q1 ?_
        refine w_goto (pc' := 77) rfl rfl ?_
        exact h
theorem t_As_draw_77 {L : Nat} {xs : Nat → Int32} {x1 : Nat} {x2 : Int32} {x3 : Int32} {x4 : Int32} {x5 : Int32} {x6 : Int32} {x7 : Value} {x8 : Value} {s0 : Int32} {f : Hp} {Q : Hp → Prop} (qx1 : xS0 L x1 = (1, 0)) (cx7 : (x7.category != 2) = true) (cx8 : (x8.category != 2) = true) (h : CI L xs xm_As_below [.ref 75, .int 12] f (fun v1 g1 => ((x5 < 2 → CI L xs xm_As_below [.ref 75, .int 10] g1 (fun v7 g7 => CI L xs xm_As_act [.ref 75, .int 0, .int x6, .int (1 + v1), .int v7] g7 (fun v8 g8 => Wp L xs xm_As_draw 13 [.ref 75, .ref x1, .int x2, .int x3, .int (x4 + 1), .int x5, .int x6, .int s0, .int (1 + v1)] [] g8 (QV Q)))) ∧ (¬ x5 < 2 → ((x5 = 8 → CI L xs xm_As_below [.ref 75, .int 4] g1 (fun v4 g4 => CI L xs xm_As_drawnKind [.int x5, .int v4] g4 (fun v5 g5 => CI L xs xm_As_act [.ref 75, .int v5, .int x6, .int s0, .int (1 + v1)] g5 (fun v6 g6 => Wp L xs xm_As_draw 13 [.ref 75, .ref x1, .int x2, .int x3, .int (x4 + 1), .int x5, .int x6, .int s0, .int (1 + v1)] [] g6 (QV Q))))) ∧ (¬ x5 = 8 → CI L xs xm_As_drawnKind [.int x5, .int 0] g1 (fun v2 g2 => CI L xs xm_As_act [.ref 75, .int v2, .int x6, .int s0, .int (1 + v1)] g2 (fun v3 g3 => Wp L xs xm_As_draw 13 [.ref 75, .ref x1, .int x2, .int x3, .int (x4 + 1), .int x5, .int x6, .int s0, .int (1 + v1)] [] g3 (QV Q))))))))) : Wp L xs xm_As_draw 77 [.ref 75, .ref x1, .int x2, .int x3, .int x4, .int x5, .int x6, x7, x8] [.int s0] f (QV Q) := by
  refine w_istore (pc' := 79) rfl rfl (xl' := [.ref 75, .ref x1, .int x2, .int x3, .int x4, .int x5, .int x6, .int s0, x8]) rfl ?_
  refine w_iconst (pc' := 80) rfl rfl (v := 1) rfl ?_
  refine w_aload_n (pc' := 81) rfl rfl rfl ?_
  refine w_bipush (pc' := 83) rfl rfl (v := 12) rfl ?_
  refine w_cv (pc' := 86) (cm := xm_As_below) (as := [.int 12]) (a := 75) (rest := [.int 1]) rfl rfl rfl  (xa_As_below (Nat.le_of_ble_eq_true rfl)) (show xS0 L 75 = (0, 0) from rfl) rfl (CI.k h fun v1 g1 h => ?_)
  show Wp L xs xm_As_draw 86 [.ref 75, .ref x1, .int x2, .int x3, .int x4, .int x5, .int x6, .int s0, x8] [.int v1, .int 1] g1 _
  refine w_iadd (pc' := 87) rfl rfl ?_
  refine w_istore (pc' := 89) rfl rfl (xl' := [.ref 75, .ref x1, .int x2, .int x3, .int x4, .int x5, .int x6, .int s0, .int (1 + v1)]) rfl ?_
  refine w_iload (pc' := 91) rfl rfl rfl ?_
  refine w_iconst (pc' := 92) rfl rfl (v := 2) rfl ?_
  refine w_br2 (pc' := 95) (t := 114) rfl rfl rfl ic_ge (fun hc => ?_) (fun hc => ?_)
  · replace h := h.2 hc
    refine w_aload_n (pc' := 115) rfl rfl rfl ?_
    refine w_iload (pc' := 117) rfl rfl rfl ?_
    refine w_iload (pc' := 119) rfl rfl rfl ?_
    refine w_bipush (pc' := 121) rfl rfl (v := 8) rfl ?_
    refine w_br2 (pc' := 124) (t := 132) rfl rfl rfl ic_ne (fun hc => ?_) (fun hc => ?_)
    · replace h := h.2 hc
      refine w_iconst (pc' := 133) rfl rfl (v := 0) rfl ?_
      refine w_cs (pc' := 136) (cm := xm_As_drawnKind) (as := [.int x5, .int 0]) (rest := [.ref 75]) rfl rfl rfl (Or.inl rfl) (xa_As_drawnKind (Nat.le_of_ble_eq_true rfl)) (CI.k h fun v2 g2 h => ?_)
      show Wp L xs xm_As_draw 136 [.ref 75, .ref x1, .int x2, .int x3, .int x4, .int x5, .int x6, .int s0, .int (1 + v1)] [.int v2, .ref 75] g2 _
      refine w_iload (pc' := 138) rfl rfl rfl ?_
      refine w_iload (pc' := 140) rfl rfl rfl ?_
      refine w_iload (pc' := 142) rfl rfl rfl ?_
      refine w_cv (pc' := 145) (cm := xm_As_act) (as := [.int v2, .int x6, .int s0, .int (1 + v1)]) (a := 75) (rest := []) rfl rfl rfl  (xa_As_act (Nat.le_of_ble_eq_true rfl)) (show xS0 L 75 = (0, 0) from rfl) rfl (CI.k h fun v3 g3 h => ?_)
      show Wp L xs xm_As_draw 145 [.ref 75, .ref x1, .int x2, .int x3, .int x4, .int x5, .int x6, .int s0, .int (1 + v1)] [.int v3] g3 _
      refine w_popI (pc' := 146) rfl rfl ?_
      refine w_iinc (pc' := 149) rfl rfl rfl (v := (x4 + 1)) rfl (xl' := [.ref 75, .ref x1, .int x2, .int x3, .int (x4 + 1), .int x5, .int x6, .int s0, .int (1 + v1)]) rfl ?_
      refine w_goto (pc' := 13) rfl rfl ?_
      exact h
    · replace h := h.1 (Classical.not_not.mp hc)
      refine w_aload_n (pc' := 125) rfl rfl rfl ?_
      refine w_iconst (pc' := 126) rfl rfl (v := 4) rfl ?_
      refine w_cv (pc' := 129) (cm := xm_As_below) (as := [.int 4]) (a := 75) (rest := [.int x5, .ref 75]) rfl rfl rfl  (xa_As_below (Nat.le_of_ble_eq_true rfl)) (show xS0 L 75 = (0, 0) from rfl) rfl (CI.k h fun v4 g4 h => ?_)
      show Wp L xs xm_As_draw 129 [.ref 75, .ref x1, .int x2, .int x3, .int x4, .int x5, .int x6, .int s0, .int (1 + v1)] [.int v4, .int x5, .ref 75] g4 _
      refine w_goto (pc' := 133) rfl rfl ?_
      refine w_cs (pc' := 136) (cm := xm_As_drawnKind) (as := [.int x5, .int v4]) (rest := [.ref 75]) rfl rfl rfl (Or.inl rfl) (xa_As_drawnKind (Nat.le_of_ble_eq_true rfl)) (CI.k h fun v5 g5 h => ?_)
      show Wp L xs xm_As_draw 136 [.ref 75, .ref x1, .int x2, .int x3, .int x4, .int x5, .int x6, .int s0, .int (1 + v1)] [.int v5, .ref 75] g5 _
      refine w_iload (pc' := 138) rfl rfl rfl ?_
      refine w_iload (pc' := 140) rfl rfl rfl ?_
      refine w_iload (pc' := 142) rfl rfl rfl ?_
      refine w_cv (pc' := 145) (cm := xm_As_act) (as := [.int v5, .int x6, .int s0, .int (1 + v1)]) (a := 75) (rest := []) rfl rfl rfl  (xa_As_act (Nat.le_of_ble_eq_true rfl)) (show xS0 L 75 = (0, 0) from rfl) rfl (CI.k h fun v6 g6 h => ?_)
      show Wp L xs xm_As_draw 145 [.ref 75, .ref x1, .int x2, .int x3, .int x4, .int x5, .int x6, .int s0, .int (1 + v1)] [.int v6] g6 _
      refine w_popI (pc' := 146) rfl rfl ?_
      refine w_iinc (pc' := 149) rfl rfl rfl (v := (x4 + 1)) rfl (xl' := [.ref 75, .ref x1, .int x2, .int x3, .int (x4 + 1), .int x5, .int x6, .int s0, .int (1 + v1)]) rfl ?_
      refine w_goto (pc' := 13) rfl rfl ?_
      exact h
  · replace h := h.1 (Classical.not_not.mp hc)
    refine w_aload_n (pc' := 96) rfl rfl rfl ?_
    refine w_iconst (pc' := 97) rfl rfl (v := 0) rfl ?_
    refine w_iload (pc' := 99) rfl rfl rfl ?_
    refine w_iload (pc' := 101) rfl rfl rfl ?_
    refine w_aload_n (pc' := 102) rfl rfl rfl ?_
    refine w_bipush (pc' := 104) rfl rfl (v := 10) rfl ?_
    refine w_cv (pc' := 107) (cm := xm_As_below) (as := [.int 10]) (a := 75) (rest := [.int (1 + v1), .int x6, .int 0, .ref 75]) rfl rfl rfl  (xa_As_below (Nat.le_of_ble_eq_true rfl)) (show xS0 L 75 = (0, 0) from rfl) rfl (CI.k h fun v7 g7 h => ?_)
    show Wp L xs xm_As_draw 107 [.ref 75, .ref x1, .int x2, .int x3, .int x4, .int x5, .int x6, .int s0, .int (1 + v1)] [.int v7, .int (1 + v1), .int x6, .int 0, .ref 75] g7 _
    refine w_cv (pc' := 110) (cm := xm_As_act) (as := [.int 0, .int x6, .int (1 + v1), .int v7]) (a := 75) (rest := []) rfl rfl rfl  (xa_As_act (Nat.le_of_ble_eq_true rfl)) (show xS0 L 75 = (0, 0) from rfl) rfl (CI.k h fun v8 g8 h => ?_)
    show Wp L xs xm_As_draw 110 [.ref 75, .ref x1, .int x2, .int x3, .int x4, .int x5, .int x6, .int s0, .int (1 + v1)] [.int v8] g8 _
    refine w_popI (pc' := 111) rfl rfl ?_
    refine w_goto (pc' := 146) rfl rfl ?_
    refine w_iinc (pc' := 149) rfl rfl rfl (v := (x4 + 1)) rfl (xl' := [.ref 75, .ref x1, .int x2, .int x3, .int (x4 + 1), .int x5, .int x6, .int s0, .int (1 + v1)]) rfl ?_
    refine w_goto (pc' := 13) rfl rfl ?_
    exact h
theorem t_As_below_0 {L : Nat} {xs : Nat → Int32} {x1 : Int32} {f : Hp} {Q : Int32 → Hp → Prop}  (h : ∀ g1, g1 = xu f 75 6 (((f 75 6) * 1103515245) + 12345) → ((0 < x1 → x1 ≠ 0 ∧ Q (jrem (jushr (g1 75 6) 16) x1) g1) ∧ (¬ 0 < x1 → Q 0 g1))) : CI L xs xm_As_below [.ref 75, .int x1] f Q := by
  show Wp L xs xm_As_below 0 [.ref 75, .int x1] [] f (QI Q)
  refine w_aload_n (pc' := 1) rfl rfl rfl ?_
  refine w_aload_n (pc' := 2) rfl rfl rfl ?_
  refine w_getI (pc' := 5) rfl rfl rfl rfl rfl (show xS0 L 75 = (0, 0) from rfl) ?_
  refine w_ldc (pc' := 7) rfl rfl (v := 1103515245) rfl ?_
  refine w_imul (pc' := 8) rfl rfl ?_
  refine w_sipush (pc' := 11) rfl rfl (v := 12345) rfl ?_
  refine w_iadd (pc' := 12) rfl rfl ?_
  refine w_putI (pc' := 15) rfl rfl rfl rfl (show xS0 L 75 = (0, 0) from rfl) ?_
  replace h := h _ rfl
  generalize xu f 75 6 (((f 75 6) * 1103515245) + 12345) = g1 at h ⊢
  refine w_iload_n (pc' := 16) rfl rfl rfl ?_
  refine w_br (pc' := 19) (t := 31) rfl rfl rfl ic_le (fun hc => ?_) (fun hc => ?_)
  · replace h := h.2 hc
    refine w_iconst (pc' := 32) rfl rfl (v := 0) rfl ?_
    exact w_ireturn rfl rfl h
  · replace h := h.1 (Classical.not_not.mp hc)
    refine w_aload_n (pc' := 20) rfl rfl rfl ?_
    refine w_getI (pc' := 23) rfl rfl rfl rfl rfl (show xS0 L 75 = (0, 0) from rfl) ?_
    refine w_bipush (pc' := 25) rfl rfl (v := 16) rfl ?_
    refine w_iushr (pc' := 26) rfl rfl ?_
    refine w_iload_n (pc' := 27) rfl rfl rfl ?_
    obtain ⟨q1, h⟩ := h
    refine w_irem (pc' := 28) rfl rfl q1 ?_
    refine w_goto (pc' := 32) rfl rfl ?_
    exact w_ireturn rfl rfl h
theorem t_As_drawnKind_0 {L : Nat} {xs : Nat → Int32} {x0 : Int32} {x1 : Int32} {f : Hp} {Q : Int32 → Hp → Prop}  (h : ((x0 = 2 → Q 1 f) ∧ (¬ x0 = 2 → ((x0 = 3 → Q 1 f) ∧ (¬ x0 = 3 → ((x0 = 4 → Q 2 f) ∧ (¬ x0 = 4 → ((x0 = 5 → Q 2 f) ∧ (¬ x0 = 5 → ((x0 = 6 → Q 3 f) ∧ (¬ x0 = 6 → ((x0 = 7 → Q 4 f) ∧ (¬ x0 = 7 → ((x0 = 8 → ((x1 = 0 → Q 5 f) ∧ (¬ x1 = 0 → ((x1 = 1 → Q 6 f) ∧ (¬ x1 = 1 → Q 7 f))))) ∧ (¬ x0 = 8 → ((x0 = 9 → Q 8 f) ∧ (¬ x0 = 9 → ((x1 = 0 → Q 5 f) ∧ (¬ x1 = 0 → ((x1 = 1 → Q 6 f) ∧ (¬ x1 = 1 → Q 7 f))))))))))))))))))))) : CI L xs xm_As_drawnKind [.int x0, .int x1] f Q := by
  show Wp L xs xm_As_drawnKind 0 [.int x0, .int x1] [] f (QI Q)
  refine w_iload_n (pc' := 1) rfl rfl rfl ?_
  by_cases hs2 : x0 = 2
  · replace h := h.1 hs2
    refine w_ts (o := 47) (t := 48) rfl (by rw [hs2]; decide) (by rw [hs2]; rfl) rfl ?_
    refine w_iconst (pc' := 49) rfl rfl (v := 1) rfl ?_
    exact w_ireturn rfl rfl h
  replace h := h.2 hs2
  by_cases hs3 : x0 = 3
  · replace h := h.1 hs3
    refine w_ts (o := 47) (t := 48) rfl (by rw [hs3]; decide) (by rw [hs3]; rfl) rfl ?_
    refine w_iconst (pc' := 49) rfl rfl (v := 1) rfl ?_
    exact w_ireturn rfl rfl h
  replace h := h.2 hs3
  by_cases hs4 : x0 = 4
  · replace h := h.1 hs4
    refine w_ts (o := 49) (t := 50) rfl (by rw [hs4]; decide) (by rw [hs4]; rfl) rfl ?_
    refine w_iconst (pc' := 51) rfl rfl (v := 2) rfl ?_
    exact w_ireturn rfl rfl h
  replace h := h.2 hs4
  by_cases hs5 : x0 = 5
  · replace h := h.1 hs5
    refine w_ts (o := 49) (t := 50) rfl (by rw [hs5]; decide) (by rw [hs5]; rfl) rfl ?_
    refine w_iconst (pc' := 51) rfl rfl (v := 2) rfl ?_
    exact w_ireturn rfl rfl h
  replace h := h.2 hs5
  by_cases hs6 : x0 = 6
  · replace h := h.1 hs6
    refine w_ts (o := 51) (t := 52) rfl (by rw [hs6]; decide) (by rw [hs6]; rfl) rfl ?_
    refine w_iconst (pc' := 53) rfl rfl (v := 3) rfl ?_
    exact w_ireturn rfl rfl h
  replace h := h.2 hs6
  by_cases hs7 : x0 = 7
  · replace h := h.1 hs7
    refine w_ts (o := 53) (t := 54) rfl (by rw [hs7]; decide) (by rw [hs7]; rfl) rfl ?_
    refine w_iconst (pc' := 55) rfl rfl (v := 4) rfl ?_
    exact w_ireturn rfl rfl h
  replace h := h.2 hs7
  by_cases hs8 : x0 = 8
  · replace h := h.1 hs8
    refine w_ts (o := 58) (t := 59) rfl (by rw [hs8]; decide) (by rw [hs8]; rfl) rfl ?_
    refine w_iload_n (pc' := 60) rfl rfl rfl ?_
    refine w_br (pc' := 63) (t := 65) rfl rfl rfl ic_ne (fun hc => ?_) (fun hc => ?_)
    · replace h := h.2 hc
      refine w_iload_n (pc' := 66) rfl rfl rfl ?_
      refine w_iconst (pc' := 67) rfl rfl (v := 1) rfl ?_
      refine w_br2 (pc' := 70) (t := 75) rfl rfl rfl ic_ne (fun hc => ?_) (fun hc => ?_)
      · replace h := h.2 hc
        refine w_bipush (pc' := 77) rfl rfl (v := 7) rfl ?_
        exact w_ireturn rfl rfl h
      · replace h := h.1 (Classical.not_not.mp hc)
        refine w_bipush (pc' := 72) rfl rfl (v := 6) rfl ?_
        refine w_goto (pc' := 77) rfl rfl ?_
        exact w_ireturn rfl rfl h
    · replace h := h.1 (Classical.not_not.mp hc)
      refine w_iconst (pc' := 64) rfl rfl (v := 5) rfl ?_
      exact w_ireturn rfl rfl h
  replace h := h.2 hs8
  by_cases hs9 : x0 = 9
  · replace h := h.1 hs9
    refine w_ts (o := 55) (t := 56) rfl (by rw [hs9]; decide) (by rw [hs9]; rfl) rfl ?_
    refine w_bipush (pc' := 58) rfl rfl (v := 8) rfl ?_
    exact w_ireturn rfl rfl h
  replace h := h.2 hs9
  refine w_tsd (t := 59) rfl ?_ rfl ?_
  · have z2 : (x0).toInt ≠ 2 := fun e => hs2 (Int32.toInt_inj.mp e); have z3 : (x0).toInt ≠ 3 := fun e => hs3 (Int32.toInt_inj.mp e); have z4 : (x0).toInt ≠ 4 := fun e => hs4 (Int32.toInt_inj.mp e); have z5 : (x0).toInt ≠ 5 := fun e => hs5 (Int32.toInt_inj.mp e); have z6 : (x0).toInt ≠ 6 := fun e => hs6 (Int32.toInt_inj.mp e); have z7 : (x0).toInt ≠ 7 := fun e => hs7 (Int32.toInt_inj.mp e); have z8 : (x0).toInt ≠ 8 := fun e => hs8 (Int32.toInt_inj.mp e); have z9 : (x0).toInt ≠ 9 := fun e => hs9 (Int32.toInt_inj.mp e); omega
  refine w_iload_n (pc' := 60) rfl rfl rfl ?_
  refine w_br (pc' := 63) (t := 65) rfl rfl rfl ic_ne (fun hc => ?_) (fun hc => ?_)
  · replace h := h.2 hc
    refine w_iload_n (pc' := 66) rfl rfl rfl ?_
    refine w_iconst (pc' := 67) rfl rfl (v := 1) rfl ?_
    refine w_br2 (pc' := 70) (t := 75) rfl rfl rfl ic_ne (fun hc => ?_) (fun hc => ?_)
    · replace h := h.2 hc
      refine w_bipush (pc' := 77) rfl rfl (v := 7) rfl ?_
      exact w_ireturn rfl rfl h
    · replace h := h.1 (Classical.not_not.mp hc)
      refine w_bipush (pc' := 72) rfl rfl (v := 6) rfl ?_
      refine w_goto (pc' := 77) rfl rfl ?_
      exact w_ireturn rfl rfl h
  · replace h := h.1 (Classical.not_not.mp hc)
    refine w_iconst (pc' := 64) rfl rfl (v := 5) rfl ?_
    exact w_ireturn rfl rfl h
theorem t_As_lostAt_0 {L : Nat} {xs : Nat → Int32} {x1 : Int32} {x2 : Nat} {f : Hp} {Q : Int32 → Hp → Prop} (qx2 : xS0 L x2 = (3, 0)) (h : Wp L xs xm_As_lostAt 5 [.ref 75, .int x1, .ref x2, .int 0, .int 0, .retAddr 0] [] f (QI Q)) : CI L xs xm_As_lostAt [.ref 75, .int x1, .ref x2] f Q := by
  show Wp L xs xm_As_lostAt 0 [.ref 75, .int x1, .ref x2, .retAddr 0, .retAddr 0, .retAddr 0] [] f (QI Q)
  refine w_iconst (pc' := 1) rfl rfl (v := 0) rfl ?_
  refine w_istore_n (pc' := 2) rfl rfl (xl' := [.ref 75, .int x1, .ref x2, .int 0, .retAddr 0, .retAddr 0]) rfl ?_
  refine w_iconst (pc' := 3) rfl rfl (v := 0) rfl ?_
  refine w_istore (pc' := 5) rfl rfl (xl' := [.ref 75, .int x1, .ref x2, .int 0, .int 0, .retAddr 0]) rfl ?_
  exact h
theorem t_As_lostAt_5 {L : Nat} {xs : Nat → Int32} {x1 : Int32} {x2 : Nat} {x3 : Int32} {x4 : Int32} {x5 : Value} {f : Hp} {Q : Int32 → Hp → Prop} (qx2 : xS0 L x2 = (3, 0)) (cx5 : (x5.category != 2) = true) (h : ((x4 < (1 <<< ((f 75 4) &&& 31)) → CI L xs xm_As_counts [.ref 75, .int x4, .int x1, .ref x2] f (fun v1 g1 => ((v1 = 0 → Wp L xs xm_As_lostAt 5 [.ref 75, .int x1, .ref x2, .int x3, .int (x4 + 1), x5] [] g1 (QI Q)) ∧ (¬ v1 = 0 → CI L xs xm_Mg_orderAt [.ref x2, .int x1] g1 (fun v2 g2 => ((v2 = (-1) → Wp L xs xm_As_lostAt 5 [.ref 75, .int x1, .ref x2, .int (x3 + 1), .int (x4 + 1), .int v2] [] g2 (QI Q)) ∧ (¬ v2 = (-1) → ((v2 = 10 → Wp L xs xm_As_lostAt 5 [.ref 75, .int x1, .ref x2, .int (x3 + 1), .int (x4 + 1), .int v2] [] g2 (QI Q)) ∧ (¬ v2 = 10 → Wp L xs xm_As_lostAt 5 [.ref 75, .int x1, .ref x2, .int (x3 + 0), .int (x4 + 1), .int v2] [] g2 (QI Q)))))))))) ∧ (¬ x4 < (1 <<< ((f 75 4) &&& 31)) → Q x3 f))) : Wp L xs xm_As_lostAt 5 [.ref 75, .int x1, .ref x2, .int x3, .int x4, x5] [] f (QI Q) := by
  refine w_iload (pc' := 7) rfl rfl rfl ?_
  refine w_iconst (pc' := 8) rfl rfl (v := 1) rfl ?_
  refine w_aload_n (pc' := 9) rfl rfl rfl ?_
  refine w_getI (pc' := 12) rfl rfl rfl rfl rfl (show xS0 L 75 = (0, 0) from rfl) ?_
  refine w_ishl (pc' := 13) rfl rfl ?_
  refine w_br2 (pc' := 16) (t := 61) rfl rfl rfl ic_ge (fun hc => ?_) (fun hc => ?_)
  · replace h := h.2 hc
    refine w_iload_n (pc' := 62) rfl rfl rfl ?_
    exact w_ireturn rfl rfl h
  · replace h := h.1 (Classical.not_not.mp hc)
    refine w_aload_n (pc' := 17) rfl rfl rfl ?_
    refine w_iload (pc' := 19) rfl rfl rfl ?_
    refine w_iload_n (pc' := 20) rfl rfl rfl ?_
    refine w_aload_n (pc' := 21) rfl rfl rfl ?_
    refine w_cv (pc' := 24) (cm := xm_As_counts) (as := [.int x4, .int x1, .ref x2]) (a := 75) (rest := []) rfl rfl rfl  (xa_As_counts (Nat.le_of_ble_eq_true rfl)) (show xS0 L 75 = (0, 0) from rfl) rfl (CI.k h fun v1 g1 h => ?_)
    show Wp L xs xm_As_lostAt 24 [.ref 75, .int x1, .ref x2, .int x3, .int x4, x5] [.int v1] g1 _
    refine w_br (pc' := 27) (t := 55) rfl rfl rfl ic_eq (fun hc => ?_) (fun hc => ?_)
    · replace h := h.1 hc
      refine w_iinc (pc' := 58) rfl rfl rfl (v := (x4 + 1)) rfl (xl' := [.ref 75, .int x1, .ref x2, .int x3, .int (x4 + 1), x5]) rfl ?_
      refine w_goto (pc' := 5) rfl rfl ?_
      exact h
    · replace h := h.2 hc
      refine w_aload_n (pc' := 28) rfl rfl rfl ?_
      refine w_iload_n (pc' := 29) rfl rfl rfl ?_
      refine w_cv (pc' := 32) (cm := xm_Mg_orderAt) (as := [.int x1]) (a := x2) (rest := []) rfl rfl rfl  (xa_Mg_orderAt (Nat.le_of_ble_eq_true rfl)) qx2 rfl (CI.k h fun v2 g2 h => ?_)
      show Wp L xs xm_As_lostAt 32 [.ref 75, .int x1, .ref x2, .int x3, .int x4, x5] [.int v2] g2 _
      refine w_istore (pc' := 34) rfl rfl (xl' := [.ref 75, .int x1, .ref x2, .int x3, .int x4, .int v2]) rfl ?_
      refine w_iload_n (pc' := 35) rfl rfl rfl ?_
      refine w_iload (pc' := 37) rfl rfl rfl ?_
      refine w_iconst (pc' := 38) rfl rfl (v := (-1)) rfl ?_
      refine w_br2 (pc' := 41) (t := 48) rfl rfl rfl ic_eq (fun hc => ?_) (fun hc => ?_)
      · replace h := h.1 hc
        refine w_iconst (pc' := 49) rfl rfl (v := 1) rfl ?_
        refine w_goto (pc' := 53) rfl rfl ?_
        refine w_iadd (pc' := 54) rfl rfl ?_
        refine w_istore_n (pc' := 55) rfl rfl (xl' := [.ref 75, .int x1, .ref x2, .int (x3 + 1), .int x4, .int v2]) rfl ?_
        refine w_iinc (pc' := 58) rfl rfl rfl (v := (x4 + 1)) rfl (xl' := [.ref 75, .int x1, .ref x2, .int (x3 + 1), .int (x4 + 1), .int v2]) rfl ?_
        refine w_goto (pc' := 5) rfl rfl ?_
        exact h
      · replace h := h.2 hc
        refine w_iload (pc' := 43) rfl rfl rfl ?_
        refine w_bipush (pc' := 45) rfl rfl (v := 10) rfl ?_
        refine w_br2 (pc' := 48) (t := 52) rfl rfl rfl ic_ne (fun hc => ?_) (fun hc => ?_)
        · replace h := h.2 hc
          refine w_iconst (pc' := 53) rfl rfl (v := 0) rfl ?_
          refine w_iadd (pc' := 54) rfl rfl ?_
          refine w_istore_n (pc' := 55) rfl rfl (xl' := [.ref 75, .int x1, .ref x2, .int (x3 + 0), .int x4, .int v2]) rfl ?_
          refine w_iinc (pc' := 58) rfl rfl rfl (v := (x4 + 1)) rfl (xl' := [.ref 75, .int x1, .ref x2, .int (x3 + 0), .int (x4 + 1), .int v2]) rfl ?_
          refine w_goto (pc' := 5) rfl rfl ?_
          exact h
        · replace h := h.1 (Classical.not_not.mp hc)
          refine w_iconst (pc' := 49) rfl rfl (v := 1) rfl ?_
          refine w_goto (pc' := 53) rfl rfl ?_
          refine w_iadd (pc' := 54) rfl rfl ?_
          refine w_istore_n (pc' := 55) rfl rfl (xl' := [.ref 75, .int x1, .ref x2, .int (x3 + 1), .int x4, .int v2]) rfl ?_
          refine w_iinc (pc' := 58) rfl rfl rfl (v := (x4 + 1)) rfl (xl' := [.ref 75, .int x1, .ref x2, .int (x3 + 1), .int (x4 + 1), .int v2]) rfl ?_
          refine w_goto (pc' := 5) rfl rfl ?_
          exact h
theorem t_As_counts_0 {L : Nat} {xs : Nat → Int32} {x1 : Int32} {x2 : Int32} {x3 : Nat} {f : Hp} {Q : Int32 → Hp → Prop} (qx3 : xS0 L x3 = (3, 0)) (h : CI L xs xm_Co_isQuorumSet [.ref 77, .int x1] f (fun v1 g1 => ((v1 = 0 → Q 0 g1) ∧ (¬ v1 = 0 → (((x1 &&& ((g1 77 3) ^^^ (-1))) = 0 → Q 0 g1) ∧ (¬ (x1 &&& ((g1 77 3) ^^^ (-1))) = 0 → CV L xs xm_As_merge [.ref 75, .int x1, .ref x3] g1 (fun g2 => (((g2 x3 1) < x2 → Q 1 g2) ∧ (¬ (g2 x3 1) < x2 → Q 0 g2))))))))) : CI L xs xm_As_counts [.ref 75, .int x1, .int x2, .ref x3] f Q := by
  show Wp L xs xm_As_counts 0 [.ref 75, .int x1, .int x2, .ref x3] [] f (QI Q)
  refine w_aload_n (pc' := 1) rfl rfl rfl ?_
  have q1 : xR0 75 1 = some 77 ∧ xS0 L 77 = (1, 0) := (kf_0_1 (show xS0 L 75 = (0, 0) from rfl))
  refine w_getR (pc' := 4) rfl rfl rfl rfl (show xS0 L 75 = (0, 0) from rfl) q1.1 ?_
  refine w_iload_n (pc' := 5) rfl rfl rfl ?_
  refine w_cv (pc' := 8) (cm := xm_Co_isQuorumSet) (as := [.int x1]) (a := 77) (rest := []) rfl rfl rfl  (xa_Co_isQuorumSet (Nat.le_of_ble_eq_true rfl)) q1.2 rfl (CI.k h fun v1 g1 h => ?_)
  show Wp L xs xm_As_counts 8 [.ref 75, .int x1, .int x2, .ref x3] [.int v1] g1 _
  refine w_br (pc' := 11) (t := 25) rfl rfl rfl ic_eq (fun hc => ?_) (fun hc => ?_)
  · replace h := h.1 hc
    refine w_iconst (pc' := 26) rfl rfl (v := 0) rfl ?_
    exact w_ireturn rfl rfl h
  · replace h := h.2 hc
    refine w_iload_n (pc' := 12) rfl rfl rfl ?_
    refine w_aload_n (pc' := 13) rfl rfl rfl ?_
    have q2 : xR0 75 1 = some 77 ∧ xS0 L 77 = (1, 0) := (kf_0_1 (show xS0 L 75 = (0, 0) from rfl))
    refine w_getR (pc' := 16) rfl rfl rfl rfl (show xS0 L 75 = (0, 0) from rfl) q2.1 ?_
    refine w_getI (pc' := 19) rfl rfl rfl rfl rfl q2.2 ?_
    refine w_iconst (pc' := 20) rfl rfl (v := (-1)) rfl ?_
    refine w_ixor (pc' := 21) rfl rfl ?_
    refine w_iand (pc' := 22) rfl rfl ?_
    refine w_br (pc' := 25) (t := 27) rfl rfl rfl ic_ne (fun hc => ?_) (fun hc => ?_)
    · replace h := h.2 hc
      refine w_aload_n (pc' := 28) rfl rfl rfl ?_
      refine w_iload_n (pc' := 29) rfl rfl rfl ?_
      refine w_aload_n (pc' := 30) rfl rfl rfl ?_
      refine w_cv (pc' := 33) (cm := xm_As_merge) (as := [.int x1, .ref x3]) (a := 75) (rest := []) rfl rfl rfl  (xa_As_merge (Nat.le_of_ble_eq_true rfl)) (show xS0 L 75 = (0, 0) from rfl) rfl (CV.k h fun g2 h => ?_)
      show Wp L xs xm_As_counts 33 [.ref 75, .int x1, .int x2, .ref x3] [] g2 _
      refine w_aload_n (pc' := 34) rfl rfl rfl ?_
      refine w_getI (pc' := 37) rfl rfl rfl rfl rfl qx3 ?_
      refine w_iload_n (pc' := 38) rfl rfl rfl ?_
      refine w_br2 (pc' := 41) (t := 45) rfl rfl rfl ic_ge (fun hc => ?_) (fun hc => ?_)
      · replace h := h.2 hc
        refine w_iconst (pc' := 46) rfl rfl (v := 0) rfl ?_
        exact w_ireturn rfl rfl h
      · replace h := h.1 (Classical.not_not.mp hc)
        refine w_iconst (pc' := 42) rfl rfl (v := 1) rfl ?_
        refine w_goto (pc' := 46) rfl rfl ?_
        exact w_ireturn rfl rfl h
    · replace h := h.1 (Classical.not_not.mp hc)
      refine w_iconst (pc' := 26) rfl rfl (v := 0) rfl ?_
      exact w_ireturn rfl rfl h
theorem t_As_sureAt_0 {L : Nat} {xs : Nat → Int32} {x1 : Int32} {x2 : Nat} {f : Hp} {Q : Int32 → Hp → Prop} (qx2 : xS0 L x2 = (3, 0)) (h : Wp L xs xm_As_sureAt 6 [.ref 75, .int x1, .ref x2, .int (-2), .int 0, .retAddr 0] [] f (QI Q)) : CI L xs xm_As_sureAt [.ref 75, .int x1, .ref x2] f Q := by
  show Wp L xs xm_As_sureAt 0 [.ref 75, .int x1, .ref x2, .retAddr 0, .retAddr 0, .retAddr 0] [] f (QI Q)
  refine w_bipush (pc' := 2) rfl rfl (v := (-2)) rfl ?_
  refine w_istore_n (pc' := 3) rfl rfl (xl' := [.ref 75, .int x1, .ref x2, .int (-2), .retAddr 0, .retAddr 0]) rfl ?_
  refine w_iconst (pc' := 4) rfl rfl (v := 0) rfl ?_
  refine w_istore (pc' := 6) rfl rfl (xl' := [.ref 75, .int x1, .ref x2, .int (-2), .int 0, .retAddr 0]) rfl ?_
  exact h
theorem t_As_sureAt_6 {L : Nat} {xs : Nat → Int32} {x1 : Int32} {x2 : Nat} {x3 : Int32} {x4 : Int32} {x5 : Value} {f : Hp} {Q : Int32 → Hp → Prop} (qx2 : xS0 L x2 = (3, 0)) (cx5 : (x5.category != 2) = true) (h : ((x4 < (1 <<< ((f 75 4) &&& 31)) → CI L xs xm_As_counts [.ref 75, .int x4, .int x1, .ref x2] f (fun v1 g1 => ((v1 = 0 → Wp L xs xm_As_sureAt 6 [.ref 75, .int x1, .ref x2, .int x3, .int (x4 + 1), x5] [] g1 (QI Q)) ∧ (¬ v1 = 0 → CI L xs xm_Mg_orderAt [.ref x2, .int x1] g1 (fun v2 g2 => ((v2 = (-1) → Q (-1) g2) ∧ (¬ v2 = (-1) → ((x3 = (-2) → Wp L xs xm_As_sureAt 6 [.ref 75, .int x1, .ref x2, .int v2, .int (x4 + 1), .int v2] [] g2 (QI Q)) ∧ (¬ x3 = (-2) → ((x3 = v2 → Wp L xs xm_As_sureAt 6 [.ref 75, .int x1, .ref x2, .int v2, .int (x4 + 1), .int v2] [] g2 (QI Q)) ∧ (¬ x3 = v2 → Q (-1) g2))))))))))) ∧ (¬ x4 < (1 <<< ((f 75 4) &&& 31)) → ((x3 = (-2) → Q (-1) f) ∧ (¬ x3 = (-2) → Q x3 f))))) : Wp L xs xm_As_sureAt 6 [.ref 75, .int x1, .ref x2, .int x3, .int x4, x5] [] f (QI Q) := by
  refine w_iload (pc' := 8) rfl rfl rfl ?_
  refine w_iconst (pc' := 9) rfl rfl (v := 1) rfl ?_
  refine w_aload_n (pc' := 10) rfl rfl rfl ?_
  refine w_getI (pc' := 13) rfl rfl rfl rfl rfl (show xS0 L 75 = (0, 0) from rfl) ?_
  refine w_ishl (pc' := 14) rfl rfl ?_
  refine w_br2 (pc' := 17) (t := 67) rfl rfl rfl ic_ge (fun hc => ?_) (fun hc => ?_)
  · replace h := h.2 hc
    refine w_iload_n (pc' := 68) rfl rfl rfl ?_
    refine w_bipush (pc' := 70) rfl rfl (v := (-2)) rfl ?_
    refine w_br2 (pc' := 73) (t := 77) rfl rfl rfl ic_ne (fun hc => ?_) (fun hc => ?_)
    · replace h := h.2 hc
      refine w_iload_n (pc' := 78) rfl rfl rfl ?_
      exact w_ireturn rfl rfl h
    · replace h := h.1 (Classical.not_not.mp hc)
      refine w_iconst (pc' := 74) rfl rfl (v := (-1)) rfl ?_
      refine w_goto (pc' := 78) rfl rfl ?_
      exact w_ireturn rfl rfl h
  · replace h := h.1 (Classical.not_not.mp hc)
    refine w_aload_n (pc' := 18) rfl rfl rfl ?_
    refine w_iload (pc' := 20) rfl rfl rfl ?_
    refine w_iload_n (pc' := 21) rfl rfl rfl ?_
    refine w_aload_n (pc' := 22) rfl rfl rfl ?_
    refine w_cv (pc' := 25) (cm := xm_As_counts) (as := [.int x4, .int x1, .ref x2]) (a := 75) (rest := []) rfl rfl rfl  (xa_As_counts (Nat.le_of_ble_eq_true rfl)) (show xS0 L 75 = (0, 0) from rfl) rfl (CI.k h fun v1 g1 h => ?_)
    show Wp L xs xm_As_sureAt 25 [.ref 75, .int x1, .ref x2, .int x3, .int x4, x5] [.int v1] g1 _
    refine w_br (pc' := 28) (t := 31) rfl rfl rfl ic_ne (fun hc => ?_) (fun hc => ?_)
    · replace h := h.2 hc
      refine w_aload_n (pc' := 32) rfl rfl rfl ?_
      refine w_iload_n (pc' := 33) rfl rfl rfl ?_
      refine w_cv (pc' := 36) (cm := xm_Mg_orderAt) (as := [.int x1]) (a := x2) (rest := []) rfl rfl rfl  (xa_Mg_orderAt (Nat.le_of_ble_eq_true rfl)) qx2 rfl (CI.k h fun v2 g2 h => ?_)
      show Wp L xs xm_As_sureAt 36 [.ref 75, .int x1, .ref x2, .int x3, .int x4, x5] [.int v2] g2 _
      refine w_istore (pc' := 38) rfl rfl (xl' := [.ref 75, .int x1, .ref x2, .int x3, .int x4, .int v2]) rfl ?_
      refine w_iload (pc' := 40) rfl rfl rfl ?_
      refine w_iconst (pc' := 41) rfl rfl (v := (-1)) rfl ?_
      refine w_br2 (pc' := 44) (t := 56) rfl rfl rfl ic_eq (fun hc => ?_) (fun hc => ?_)
      · replace h := h.1 hc
        refine w_iconst (pc' := 57) rfl rfl (v := (-1)) rfl ?_
        exact w_ireturn rfl rfl h
      · replace h := h.2 hc
        refine w_iload_n (pc' := 45) rfl rfl rfl ?_
        refine w_bipush (pc' := 47) rfl rfl (v := (-2)) rfl ?_
        refine w_br2 (pc' := 50) (t := 58) rfl rfl rfl ic_eq (fun hc => ?_) (fun hc => ?_)
        · replace h := h.1 hc
          refine w_iload (pc' := 60) rfl rfl rfl ?_
          refine w_istore_n (pc' := 61) rfl rfl (xl' := [.ref 75, .int x1, .ref x2, .int v2, .int x4, .int v2]) rfl ?_
          refine w_iinc (pc' := 64) rfl rfl rfl (v := (x4 + 1)) rfl (xl' := [.ref 75, .int x1, .ref x2, .int v2, .int (x4 + 1), .int v2]) rfl ?_
          refine w_goto (pc' := 6) rfl rfl ?_
          exact h
        · replace h := h.2 hc
          refine w_iload_n (pc' := 51) rfl rfl rfl ?_
          refine w_iload (pc' := 53) rfl rfl rfl ?_
          refine w_br2 (pc' := 56) (t := 58) rfl rfl rfl ic_eq (fun hc => ?_) (fun hc => ?_)
          · replace h := h.1 hc
            refine w_iload (pc' := 60) rfl rfl rfl ?_
            refine w_istore_n (pc' := 61) rfl rfl (xl' := [.ref 75, .int x1, .ref x2, .int v2, .int x4, .int v2]) rfl ?_
            refine w_iinc (pc' := 64) rfl rfl rfl (v := (x4 + 1)) rfl (xl' := [.ref 75, .int x1, .ref x2, .int v2, .int (x4 + 1), .int v2]) rfl ?_
            refine w_goto (pc' := 6) rfl rfl ?_
            exact h
          · replace h := h.2 hc
            refine w_iconst (pc' := 57) rfl rfl (v := (-1)) rfl ?_
            exact w_ireturn rfl rfl h
    · replace h := h.1 (Classical.not_not.mp hc)
      refine w_goto (pc' := 61) rfl rfl ?_
      refine w_iinc (pc' := 64) rfl rfl rfl (v := (x4 + 1)) rfl (xl' := [.ref 75, .int x1, .ref x2, .int x3, .int (x4 + 1), x5]) rfl ?_
      refine w_goto (pc' := 6) rfl rfl ?_
      exact h
theorem t_As_behindOnes_0 {L : Nat} {xs : Nat → Int32}  {f : Hp} {Q : Int32 → Hp → Prop}  (h : Wp L xs xm_As_behindOnes 4 [.ref 75, .int 0, .int 0] [] f (QI Q)) : CI L xs xm_As_behindOnes [.ref 75] f Q := by
  show Wp L xs xm_As_behindOnes 0 [.ref 75, .retAddr 0, .retAddr 0] [] f (QI Q)
  refine w_iconst (pc' := 1) rfl rfl (v := 0) rfl ?_
  refine w_istore_n (pc' := 2) rfl rfl (xl' := [.ref 75, .int 0, .retAddr 0]) rfl ?_
  refine w_iconst (pc' := 3) rfl rfl (v := 0) rfl ?_
  refine w_istore_n (pc' := 4) rfl rfl (xl' := [.ref 75, .int 0, .int 0]) rfl ?_
  exact h
theorem t_As_behindOnes_4 {L : Nat} {xs : Nat → Int32} {x1 : Int32} {x2 : Int32} {f : Hp} {Q : Int32 → Hp → Prop}  (h : ((x2 < (f 75 4) → CI L xs xm_As_isHonest [.ref 75, .int x2] f (fun v1 g1 => ((v1 = 0 → Wp L xs xm_As_behindOnes 4 [.ref 75, .int x1, .int (x2 + 1)] [] g1 (QI Q)) ∧ (¬ v1 = 0 → ∃ k1 : Nat, x2 = iN k1 ∧ k1 < 7 ∧ (((g1 (93 + 11 * k1) 3) < (g1 (93 + 11 * k1) 2) → Wp L xs xm_As_behindOnes 4 [.ref 75, .int (x1 ||| (1 <<< (x2 &&& 31))), .int (x2 + 1)] [] g1 (QI Q)) ∧ (¬ (g1 (93 + 11 * k1) 3) < (g1 (93 + 11 * k1) 2) → Wp L xs xm_As_behindOnes 4 [.ref 75, .int x1, .int (x2 + 1)] [] g1 (QI Q))))))) ∧ (¬ x2 < (f 75 4) → Q x1 f))) : Wp L xs xm_As_behindOnes 4 [.ref 75, .int x1, .int x2] [] f (QI Q) := by
  refine w_iload_n (pc' := 5) rfl rfl rfl ?_
  refine w_aload_n (pc' := 6) rfl rfl rfl ?_
  refine w_getI (pc' := 9) rfl rfl rfl rfl rfl (show xS0 L 75 = (0, 0) from rfl) ?_
  refine w_br2 (pc' := 12) (t := 53) rfl rfl rfl ic_ge (fun hc => ?_) (fun hc => ?_)
  · replace h := h.2 hc
    refine w_iload_n (pc' := 54) rfl rfl rfl ?_
    exact w_ireturn rfl rfl h
  · replace h := h.1 (Classical.not_not.mp hc)
    refine w_aload_n (pc' := 13) rfl rfl rfl ?_
    refine w_iload_n (pc' := 14) rfl rfl rfl ?_
    refine w_cv (pc' := 17) (cm := xm_As_isHonest) (as := [.int x2]) (a := 75) (rest := []) rfl rfl rfl  (xa_As_isHonest (Nat.le_of_ble_eq_true rfl)) (show xS0 L 75 = (0, 0) from rfl) rfl (CI.k h fun v1 g1 h => ?_)
    show Wp L xs xm_As_behindOnes 17 [.ref 75, .int x1, .int x2] [.int v1] g1 _
    refine w_br (pc' := 20) (t := 47) rfl rfl rfl ic_eq (fun hc => ?_) (fun hc => ?_)
    · replace h := h.1 hc
      refine w_iinc (pc' := 50) rfl rfl rfl (v := (x2 + 1)) rfl (xl' := [.ref 75, .int x1, .int (x2 + 1)]) rfl ?_
      refine w_goto (pc' := 4) rfl rfl ?_
      exact h
    · replace h := h.2 hc
      refine w_aload_n (pc' := 21) rfl rfl rfl ?_
      have q1 : xR0 75 2 = some 89 ∧ xS0 L 89 = (24, 7) := (kf_0_2 (show xS0 L 75 = (0, 0) from rfl))
      refine w_getR (pc' := 24) rfl rfl rfl rfl (show xS0 L 75 = (0, 0) from rfl) q1.1 ?_
      refine w_iload_n (pc' := 25) rfl rfl rfl ?_
      obtain ⟨k1, ek1, bk1, h⟩ := h
      have q2 : xR0 89 k1 = some (93 + 11 * k1) ∧ xS0 L (93 + 11 * k1) = (2, 0) := ke_24 q1.2 bk1
      refine w_aaload (pc' := 26) (i := k1) rfl rfl q1.2 (by omega) ek1 bk1 (by omega) q2.1 ?_
      refine w_getI (pc' := 29) rfl rfl rfl rfl rfl q2.2 ?_
      refine w_aload_n (pc' := 30) rfl rfl rfl ?_
      have q3 : xR0 75 2 = some 89 ∧ xS0 L 89 = (24, 7) := (kf_0_2 (show xS0 L 75 = (0, 0) from rfl))
      refine w_getR (pc' := 33) rfl rfl rfl rfl (show xS0 L 75 = (0, 0) from rfl) q3.1 ?_
      refine w_iload_n (pc' := 34) rfl rfl rfl ?_
      have q4 : xR0 89 k1 = some (93 + 11 * k1) ∧ xS0 L (93 + 11 * k1) = (2, 0) := ke_24 q3.2 bk1
      refine w_aaload (pc' := 35) (i := k1) rfl rfl q3.2 (by omega) ek1 bk1 (by omega) q4.1 ?_
      refine w_getI (pc' := 38) rfl rfl rfl rfl rfl q4.2 ?_
      refine w_br2 (pc' := 41) (t := 47) rfl rfl rfl ic_ge (fun hc => ?_) (fun hc => ?_)
      · replace h := h.2 hc
        refine w_iinc (pc' := 50) rfl rfl rfl (v := (x2 + 1)) rfl (xl' := [.ref 75, .int x1, .int (x2 + 1)]) rfl ?_
        refine w_goto (pc' := 4) rfl rfl ?_
        exact h
      · replace h := h.1 (Classical.not_not.mp hc)
        refine w_iload_n (pc' := 42) rfl rfl rfl ?_
        refine w_iconst (pc' := 43) rfl rfl (v := 1) rfl ?_
        refine w_iload_n (pc' := 44) rfl rfl rfl ?_
        refine w_ishl (pc' := 45) rfl rfl ?_
        refine w_ior (pc' := 46) rfl rfl ?_
        refine w_istore_n (pc' := 47) rfl rfl (xl' := [.ref 75, .int (x1 ||| (1 <<< (x2 &&& 31))), .int x2]) rfl ?_
        refine w_iinc (pc' := 50) rfl rfl rfl (v := (x2 + 1)) rfl (xl' := [.ref 75, .int (x1 ||| (1 <<< (x2 &&& 31))), .int (x2 + 1)]) rfl ?_
        refine w_goto (pc' := 4) rfl rfl ?_
        exact h
theorem t_As_stuckOnes_0 {L : Nat} {xs : Nat → Int32}  {f : Hp} {Q : Int32 → Hp → Prop}  (h : Wp L xs xm_As_stuckOnes 4 [.ref 75, .int 0, .int 0] [] f (QI Q)) : CI L xs xm_As_stuckOnes [.ref 75] f Q := by
  show Wp L xs xm_As_stuckOnes 0 [.ref 75, .retAddr 0, .retAddr 0] [] f (QI Q)
  refine w_iconst (pc' := 1) rfl rfl (v := 0) rfl ?_
  refine w_istore_n (pc' := 2) rfl rfl (xl' := [.ref 75, .int 0, .retAddr 0]) rfl ?_
  refine w_iconst (pc' := 3) rfl rfl (v := 0) rfl ?_
  refine w_istore_n (pc' := 4) rfl rfl (xl' := [.ref 75, .int 0, .int 0]) rfl ?_
  exact h
theorem t_As_stuckOnes_4 {L : Nat} {xs : Nat → Int32} {x1 : Int32} {x2 : Int32} {f : Hp} {Q : Int32 → Hp → Prop}  (h : ((x2 < (f 75 4) → CI L xs xm_As_isHonest [.ref 75, .int x2] f (fun v1 g1 => ((v1 = 0 → Wp L xs xm_As_stuckOnes 4 [.ref 75, .int x1, .int (x2 + 1)] [] g1 (QI Q)) ∧ (¬ v1 = 0 → ∃ k1 : Nat, x2 = iN k1 ∧ k1 < 7 ∧ (((g1 (93 + 11 * k1) 1) = 0 → Wp L xs xm_As_stuckOnes 4 [.ref 75, .int (x1 ||| (1 <<< (x2 &&& 31))), .int (x2 + 1)] [] g1 (QI Q)) ∧ (¬ (g1 (93 + 11 * k1) 1) = 0 → Wp L xs xm_As_stuckOnes 4 [.ref 75, .int x1, .int (x2 + 1)] [] g1 (QI Q))))))) ∧ (¬ x2 < (f 75 4) → Q x1 f))) : Wp L xs xm_As_stuckOnes 4 [.ref 75, .int x1, .int x2] [] f (QI Q) := by
  refine w_iload_n (pc' := 5) rfl rfl rfl ?_
  refine w_aload_n (pc' := 6) rfl rfl rfl ?_
  refine w_getI (pc' := 9) rfl rfl rfl rfl rfl (show xS0 L 75 = (0, 0) from rfl) ?_
  refine w_br2 (pc' := 12) (t := 44) rfl rfl rfl ic_ge (fun hc => ?_) (fun hc => ?_)
  · replace h := h.2 hc
    refine w_iload_n (pc' := 45) rfl rfl rfl ?_
    exact w_ireturn rfl rfl h
  · replace h := h.1 (Classical.not_not.mp hc)
    refine w_aload_n (pc' := 13) rfl rfl rfl ?_
    refine w_iload_n (pc' := 14) rfl rfl rfl ?_
    refine w_cv (pc' := 17) (cm := xm_As_isHonest) (as := [.int x2]) (a := 75) (rest := []) rfl rfl rfl  (xa_As_isHonest (Nat.le_of_ble_eq_true rfl)) (show xS0 L 75 = (0, 0) from rfl) rfl (CI.k h fun v1 g1 h => ?_)
    show Wp L xs xm_As_stuckOnes 17 [.ref 75, .int x1, .int x2] [.int v1] g1 _
    refine w_br (pc' := 20) (t := 38) rfl rfl rfl ic_eq (fun hc => ?_) (fun hc => ?_)
    · replace h := h.1 hc
      refine w_iinc (pc' := 41) rfl rfl rfl (v := (x2 + 1)) rfl (xl' := [.ref 75, .int x1, .int (x2 + 1)]) rfl ?_
      refine w_goto (pc' := 4) rfl rfl ?_
      exact h
    · replace h := h.2 hc
      refine w_aload_n (pc' := 21) rfl rfl rfl ?_
      have q1 : xR0 75 2 = some 89 ∧ xS0 L 89 = (24, 7) := (kf_0_2 (show xS0 L 75 = (0, 0) from rfl))
      refine w_getR (pc' := 24) rfl rfl rfl rfl (show xS0 L 75 = (0, 0) from rfl) q1.1 ?_
      refine w_iload_n (pc' := 25) rfl rfl rfl ?_
      obtain ⟨k1, ek1, bk1, h⟩ := h
      have q2 : xR0 89 k1 = some (93 + 11 * k1) ∧ xS0 L (93 + 11 * k1) = (2, 0) := ke_24 q1.2 bk1
      refine w_aaload (pc' := 26) (i := k1) rfl rfl q1.2 (by omega) ek1 bk1 (by omega) q2.1 ?_
      refine w_getI (pc' := 29) rfl rfl rfl rfl rfl q2.2 ?_
      refine w_br (pc' := 32) (t := 38) rfl rfl rfl ic_ne (fun hc => ?_) (fun hc => ?_)
      · replace h := h.2 hc
        refine w_iinc (pc' := 41) rfl rfl rfl (v := (x2 + 1)) rfl (xl' := [.ref 75, .int x1, .int (x2 + 1)]) rfl ?_
        refine w_goto (pc' := 4) rfl rfl ?_
        exact h
      · replace h := h.1 (Classical.not_not.mp hc)
        refine w_iload_n (pc' := 33) rfl rfl rfl ?_
        refine w_iconst (pc' := 34) rfl rfl (v := 1) rfl ?_
        refine w_iload_n (pc' := 35) rfl rfl rfl ?_
        refine w_ishl (pc' := 36) rfl rfl ?_
        refine w_ior (pc' := 37) rfl rfl ?_
        refine w_istore_n (pc' := 38) rfl rfl (xl' := [.ref 75, .int (x1 ||| (1 <<< (x2 &&& 31))), .int x2]) rfl ?_
        refine w_iinc (pc' := 41) rfl rfl rfl (v := (x2 + 1)) rfl (xl' := [.ref 75, .int (x1 ||| (1 <<< (x2 &&& 31))), .int (x2 + 1)]) rfl ?_
        refine w_goto (pc' := 4) rfl rfl ?_
        exact h
theorem t_As_madeViews_0 {L : Nat} {xs : Nat → Int32}  {f : Hp} {Q : Int32 → Hp → Prop}  (h : Wp L xs xm_As_madeViews 4 [.ref 75, .int 0, .int 1] [] f (QI Q)) : CI L xs xm_As_madeViews [.ref 75] f Q := by
  show Wp L xs xm_As_madeViews 0 [.ref 75, .retAddr 0, .retAddr 0] [] f (QI Q)
  refine w_iconst (pc' := 1) rfl rfl (v := 0) rfl ?_
  refine w_istore_n (pc' := 2) rfl rfl (xl' := [.ref 75, .int 0, .retAddr 0]) rfl ?_
  refine w_iconst (pc' := 3) rfl rfl (v := 1) rfl ?_
  refine w_istore_n (pc' := 4) rfl rfl (xl' := [.ref 75, .int 0, .int 1]) rfl ?_
  exact h
theorem t_As_madeViews_4 {L : Nat} {xs : Nat → Int32} {x1 : Int32} {x2 : Int32} {f : Hp} {Q : Int32 → Hp → Prop}  (h : ((9 < x2 → Q x1 f) ∧ (¬ 9 < x2 → ∃ k1 : Nat, x2 = iN k1 ∧ k1 < 10 ∧ (((f (170 + 3 * k1) 0) = 0 → Wp L xs xm_As_madeViews 4 [.ref 75, .int x1, .int (x2 + 1)] [] f (QI Q)) ∧ (¬ (f (170 + 3 * k1) 0) = 0 → Wp L xs xm_As_madeViews 4 [.ref 75, .int (x1 ||| (1 <<< (x2 &&& 31))), .int (x2 + 1)] [] f (QI Q)))))) : Wp L xs xm_As_madeViews 4 [.ref 75, .int x1, .int x2] [] f (QI Q) := by
  refine w_iload_n (pc' := 5) rfl rfl rfl ?_
  refine w_bipush (pc' := 7) rfl rfl (v := 9) rfl ?_
  refine w_br2 (pc' := 10) (t := 34) rfl rfl rfl ic_gt (fun hc => ?_) (fun hc => ?_)
  · replace h := h.1 hc
    refine w_iload_n (pc' := 35) rfl rfl rfl ?_
    exact w_ireturn rfl rfl h
  · replace h := h.2 hc
    refine w_aload_n (pc' := 11) rfl rfl rfl ?_
    have q1 : xR0 75 0 = some 76 ∧ xS0 L 76 = (23, 10) := (kf_0_0 (show xS0 L 75 = (0, 0) from rfl))
    refine w_getR (pc' := 14) rfl rfl rfl rfl (show xS0 L 75 = (0, 0) from rfl) q1.1 ?_
    refine w_iload_n (pc' := 15) rfl rfl rfl ?_
    obtain ⟨k1, ek1, bk1, h⟩ := h
    have q2 : xR0 76 k1 = some (170 + 3 * k1) ∧ xS0 L (170 + 3 * k1) = (3, 0) := ke_23 q1.2 bk1
    refine w_aaload (pc' := 16) (i := k1) rfl rfl q1.2 (by omega) ek1 bk1 (by omega) q2.1 ?_
    refine w_getI (pc' := 19) rfl rfl rfl rfl rfl q2.2 ?_
    refine w_br (pc' := 22) (t := 28) rfl rfl rfl ic_eq (fun hc => ?_) (fun hc => ?_)
    · replace h := h.1 hc
      refine w_iinc (pc' := 31) rfl rfl rfl (v := (x2 + 1)) rfl (xl' := [.ref 75, .int x1, .int (x2 + 1)]) rfl ?_
      refine w_goto (pc' := 4) rfl rfl ?_
      exact h
    · replace h := h.2 hc
      refine w_iload_n (pc' := 23) rfl rfl rfl ?_
      refine w_iconst (pc' := 24) rfl rfl (v := 1) rfl ?_
      refine w_iload_n (pc' := 25) rfl rfl rfl ?_
      refine w_ishl (pc' := 26) rfl rfl ?_
      refine w_ior (pc' := 27) rfl rfl ?_
      refine w_istore_n (pc' := 28) rfl rfl (xl' := [.ref 75, .int (x1 ||| (1 <<< (x2 &&& 31))), .int x2]) rfl ?_
      refine w_iinc (pc' := 31) rfl rfl rfl (v := (x2 + 1)) rfl (xl' := [.ref 75, .int (x1 ||| (1 <<< (x2 &&& 31))), .int (x2 + 1)]) rfl ?_
      refine w_goto (pc' := 4) rfl rfl ?_
      exact h
theorem t_As_certainPlaces_0 {L : Nat} {xs : Nat → Int32}  {f : Hp} {Q : Int32 → Hp → Prop}  (h : Wp L xs xm_As_certainPlaces 4 [.ref 75, .int 0, .int 1, .retAddr 0] [] f (QI Q)) : CI L xs xm_As_certainPlaces [.ref 75] f Q := by
  show Wp L xs xm_As_certainPlaces 0 [.ref 75, .retAddr 0, .retAddr 0, .retAddr 0] [] f (QI Q)
  refine w_iconst (pc' := 1) rfl rfl (v := 0) rfl ?_
  refine w_istore_n (pc' := 2) rfl rfl (xl' := [.ref 75, .int 0, .retAddr 0, .retAddr 0]) rfl ?_
  refine w_iconst (pc' := 3) rfl rfl (v := 1) rfl ?_
  refine w_istore_n (pc' := 4) rfl rfl (xl' := [.ref 75, .int 0, .int 1, .retAddr 0]) rfl ?_
  exact h
theorem t_As_certainPlaces_4 {L : Nat} {xs : Nat → Int32} {x1 : Int32} {x2 : Int32} {x3 : Value} {f : Hp} {Q : Int32 → Hp → Prop} (cx3 : (x3.category != 2) = true) (h : ((12 < x2 → Q x1 f) ∧ (¬ 12 < x2 → Wp L xs xm_As_certainPlaces 12 [.ref 75, .int x1, .int x2, .int 0] [] f (QI Q)))) : Wp L xs xm_As_certainPlaces 4 [.ref 75, .int x1, .int x2, x3] [] f (QI Q) := by
  refine w_iload_n (pc' := 5) rfl rfl rfl ?_
  refine w_bipush (pc' := 7) rfl rfl (v := 12) rfl ?_
  refine w_br2 (pc' := 10) (t := 54) rfl rfl rfl ic_gt (fun hc => ?_) (fun hc => ?_)
  · replace h := h.1 hc
    refine w_iload_n (pc' := 55) rfl rfl rfl ?_
    exact w_ireturn rfl rfl h
  · replace h := h.2 hc
    refine w_iconst (pc' := 11) rfl rfl (v := 0) rfl ?_
    refine w_istore_n (pc' := 12) rfl rfl (xl' := [.ref 75, .int x1, .int x2, .int 0]) rfl ?_
    exact h
theorem t_As_certainPlaces_12 {L : Nat} {xs : Nat → Int32} {x1 : Int32} {x2 : Int32} {x3 : Int32} {f : Hp} {Q : Int32 → Hp → Prop}  (h : ((x3 < (f 75 4) → CI L xs xm_As_alikeProofs [.ref 75, .int x3, .int x2] f (fun v1 g1 => (((g1 77 0) < v1 → Wp L xs xm_As_certainPlaces 12 [.ref 75, .int (x1 ||| (1 <<< (x2 &&& 31))), .int x2, .int (x3 + 1)] [] g1 (QI Q)) ∧ (¬ (g1 77 0) < v1 → Wp L xs xm_As_certainPlaces 12 [.ref 75, .int x1, .int x2, .int (x3 + 1)] [] g1 (QI Q))))) ∧ (¬ x3 < (f 75 4) → Wp L xs xm_As_certainPlaces 4 [.ref 75, .int x1, .int (x2 + 1), .int x3] [] f (QI Q)))) : Wp L xs xm_As_certainPlaces 12 [.ref 75, .int x1, .int x2, .int x3] [] f (QI Q) := by
  refine w_iload_n (pc' := 13) rfl rfl rfl ?_
  refine w_aload_n (pc' := 14) rfl rfl rfl ?_
  refine w_getI (pc' := 17) rfl rfl rfl rfl rfl (show xS0 L 75 = (0, 0) from rfl) ?_
  refine w_br2 (pc' := 20) (t := 48) rfl rfl rfl ic_ge (fun hc => ?_) (fun hc => ?_)
  · replace h := h.2 hc
    refine w_iinc (pc' := 51) rfl rfl rfl (v := (x2 + 1)) rfl (xl' := [.ref 75, .int x1, .int (x2 + 1), .int x3]) rfl ?_
    refine w_goto (pc' := 4) rfl rfl ?_
    exact h
  · replace h := h.1 (Classical.not_not.mp hc)
    refine w_aload_n (pc' := 21) rfl rfl rfl ?_
    refine w_iload_n (pc' := 22) rfl rfl rfl ?_
    refine w_iload_n (pc' := 23) rfl rfl rfl ?_
    refine w_cv (pc' := 26) (cm := xm_As_alikeProofs) (as := [.int x3, .int x2]) (a := 75) (rest := []) rfl rfl rfl  (xa_As_alikeProofs (Nat.le_of_ble_eq_true rfl)) (show xS0 L 75 = (0, 0) from rfl) rfl (CI.k h fun v1 g1 h => ?_)
    show Wp L xs xm_As_certainPlaces 26 [.ref 75, .int x1, .int x2, .int x3] [.int v1] g1 _
    refine w_aload_n (pc' := 27) rfl rfl rfl ?_
    have q1 : xR0 75 1 = some 77 ∧ xS0 L 77 = (1, 0) := (kf_0_1 (show xS0 L 75 = (0, 0) from rfl))
    refine w_getR (pc' := 30) rfl rfl rfl rfl (show xS0 L 75 = (0, 0) from rfl) q1.1 ?_
    refine w_getI (pc' := 33) rfl rfl rfl rfl rfl q1.2 ?_
    refine w_br2 (pc' := 36) (t := 42) rfl rfl rfl ic_le (fun hc => ?_) (fun hc => ?_)
    · replace h := h.2 hc
      refine w_iinc (pc' := 45) rfl rfl rfl (v := (x3 + 1)) rfl (xl' := [.ref 75, .int x1, .int x2, .int (x3 + 1)]) rfl ?_
      refine w_goto (pc' := 12) rfl rfl ?_
      exact h
    · replace h := h.1 (Classical.not_not.mp hc)
      refine w_iload_n (pc' := 37) rfl rfl rfl ?_
      refine w_iconst (pc' := 38) rfl rfl (v := 1) rfl ?_
      refine w_iload_n (pc' := 39) rfl rfl rfl ?_
      refine w_ishl (pc' := 40) rfl rfl ?_
      refine w_ior (pc' := 41) rfl rfl ?_
      refine w_istore_n (pc' := 42) rfl rfl (xl' := [.ref 75, .int (x1 ||| (1 <<< (x2 &&& 31))), .int x2, .int x3]) rfl ?_
      refine w_iinc (pc' := 45) rfl rfl rfl (v := (x3 + 1)) rfl (xl' := [.ref 75, .int (x1 ||| (1 <<< (x2 &&& 31))), .int x2, .int (x3 + 1)]) rfl ?_
      refine w_goto (pc' := 12) rfl rfl ?_
      exact h
theorem t_As_alikeProofs_0 {L : Nat} {xs : Nat → Int32} {x1 : Int32} {x2 : Int32} {f : Hp} {Q : Int32 → Hp → Prop}  (h : ∃ k1 : Nat, x1 = iN k1 ∧ k1 < 7 ∧ CI L xs xm_As_isHonest [.ref 75, .int x1] f (fun v1 g1 => ((v1 = 0 → Q 0 g1) ∧ (¬ v1 = 0 → ∃ k2 : Nat, x2 = iN k2 ∧ k2 < 13 ∧ (((g1 (93 + 11 * k1 + 6) k2) = (-1) → Q 0 g1) ∧ (¬ (g1 (93 + 11 * k1 + 6) k2) = (-1) → Wp L xs xm_As_alikeProofs 33 [.ref 75, .int x1, .int x2, .ref (93 + 11 * k1), .int 0, .int 0, .retAddr 0] [] g1 (QI Q))))))) : CI L xs xm_As_alikeProofs [.ref 75, .int x1, .int x2] f Q := by
  show Wp L xs xm_As_alikeProofs 0 [.ref 75, .int x1, .int x2, .retAddr 0, .retAddr 0, .retAddr 0, .retAddr 0] [] f (QI Q)
  refine w_aload_n (pc' := 1) rfl rfl rfl ?_
  have q1 : xR0 75 2 = some 89 ∧ xS0 L 89 = (24, 7) := (kf_0_2 (show xS0 L 75 = (0, 0) from rfl))
  refine w_getR (pc' := 4) rfl rfl rfl rfl (show xS0 L 75 = (0, 0) from rfl) q1.1 ?_
  refine w_iload_n (pc' := 5) rfl rfl rfl ?_
  obtain ⟨k1, ek1, bk1, h⟩ := h
  have q2 : xR0 89 k1 = some (93 + 11 * k1) ∧ xS0 L (93 + 11 * k1) = (2, 0) := ke_24 q1.2 bk1
  refine w_aaload (pc' := 6) (i := k1) rfl rfl q1.2 (by omega) ek1 bk1 (by omega) q2.1 ?_
  refine w_astore_n (pc' := 7) rfl rfl (xl' := [.ref 75, .int x1, .int x2, .ref (93 + 11 * k1), .retAddr 0, .retAddr 0, .retAddr 0]) rfl ?_
  refine w_aload_n (pc' := 8) rfl rfl rfl ?_
  refine w_iload_n (pc' := 9) rfl rfl rfl ?_
  refine w_cv (pc' := 12) (cm := xm_As_isHonest) (as := [.int x1]) (a := 75) (rest := []) rfl rfl rfl  (xa_As_isHonest (Nat.le_of_ble_eq_true rfl)) (show xS0 L 75 = (0, 0) from rfl) rfl (CI.k h fun v1 g1 h => ?_)
  show Wp L xs xm_As_alikeProofs 12 [.ref 75, .int x1, .int x2, .ref (93 + 11 * k1), .retAddr 0, .retAddr 0, .retAddr 0] [.int v1] g1 _
  refine w_br (pc' := 15) (t := 25) rfl rfl rfl ic_eq (fun hc => ?_) (fun hc => ?_)
  · replace h := h.1 hc
    refine w_iconst (pc' := 26) rfl rfl (v := 0) rfl ?_
    exact w_ireturn rfl rfl h
  · replace h := h.2 hc
    refine w_aload_n (pc' := 16) rfl rfl rfl ?_
    have q3 : xR0 (93 + 11 * k1) 13 = some (93 + 11 * k1 + 6) ∧ xS0 L (93 + 11 * k1 + 6) = (20, 13) := (kf_2_13 q2.2)
    refine w_getR (pc' := 19) rfl rfl rfl rfl q2.2 q3.1 ?_
    refine w_iload_n (pc' := 20) rfl rfl rfl ?_
    obtain ⟨k2, ek2, bk2, h⟩ := h
    refine w_iaload (pc' := 21) (i := k2) rfl rfl q3.2 ek2 bk2 (by omega) ?_
    refine w_iconst (pc' := 22) rfl rfl (v := (-1)) rfl ?_
    refine w_br2 (pc' := 25) (t := 27) rfl rfl rfl ic_ne (fun hc => ?_) (fun hc => ?_)
    · replace h := h.2 hc
      refine w_iconst (pc' := 28) rfl rfl (v := 0) rfl ?_
      refine w_istore (pc' := 30) rfl rfl (xl' := [.ref 75, .int x1, .int x2, .ref (93 + 11 * k1), .int 0, .retAddr 0, .retAddr 0]) rfl ?_
      refine w_iconst (pc' := 31) rfl rfl (v := 0) rfl ?_
      refine w_istore (pc' := 33) rfl rfl (xl' := [.ref 75, .int x1, .int x2, .ref (93 + 11 * k1), .int 0, .int 0, .retAddr 0]) rfl ?_
      exact h
    · replace h := h.1 (Classical.not_not.mp hc)
      refine w_iconst (pc' := 26) rfl rfl (v := 0) rfl ?_
      exact w_ireturn rfl rfl h
theorem t_As_alikeProofs_33 {L : Nat} {xs : Nat → Int32} {x1 : Int32} {x2 : Int32} {x3 : Nat} {x4 : Int32} {x5 : Int32} {x6 : Value} {f : Hp} {Q : Int32 → Hp → Prop} (qx3 : xS0 L x3 = (2, 0)) (cx6 : (x6.category != 2) = true) (h : ((x5 < (f 75 4) → ∃ k1 : Nat, x5 = iN k1 ∧ k1 < 7 ∧ CI L xs xm_As_isHonest [.ref 75, .int x5] f (fun v1 g1 => ((v1 = 0 → Wp L xs xm_As_alikeProofs 33 [.ref 75, .int x1, .int x2, .ref x3, .int x4, .int (x5 + 1), .ref (93 + 11 * k1)] [] g1 (QI Q)) ∧ (¬ v1 = 0 → ∃ k2 : Nat, x2 = iN k2 ∧ k2 < 13 ∧ (((g1 (93 + 11 * k1 + 6) k2) = (g1 (x3 + 6) k2) → (((g1 (93 + 11 * k1 + 7) k2) = (g1 (x3 + 7) k2) → Wp L xs xm_As_alikeProofs 33 [.ref 75, .int x1, .int x2, .ref x3, .int (x4 + 1), .int (x5 + 1), .ref (93 + 11 * k1)] [] g1 (QI Q)) ∧ (¬ (g1 (93 + 11 * k1 + 7) k2) = (g1 (x3 + 7) k2) → Wp L xs xm_As_alikeProofs 33 [.ref 75, .int x1, .int x2, .ref x3, .int x4, .int (x5 + 1), .ref (93 + 11 * k1)] [] g1 (QI Q)))) ∧ (¬ (g1 (93 + 11 * k1 + 6) k2) = (g1 (x3 + 6) k2) → Wp L xs xm_As_alikeProofs 33 [.ref 75, .int x1, .int x2, .ref x3, .int x4, .int (x5 + 1), .ref (93 + 11 * k1)] [] g1 (QI Q))))))) ∧ (¬ x5 < (f 75 4) → Q x4 f))) : Wp L xs xm_As_alikeProofs 33 [.ref 75, .int x1, .int x2, .ref x3, .int x4, .int x5, x6] [] f (QI Q) := by
  refine w_iload (pc' := 35) rfl rfl rfl ?_
  refine w_aload_n (pc' := 36) rfl rfl rfl ?_
  refine w_getI (pc' := 39) rfl rfl rfl rfl rfl (show xS0 L 75 = (0, 0) from rfl) ?_
  refine w_br2 (pc' := 42) (t := 101) rfl rfl rfl ic_ge (fun hc => ?_) (fun hc => ?_)
  · replace h := h.2 hc
    refine w_iload (pc' := 103) rfl rfl rfl ?_
    exact w_ireturn rfl rfl h
  · replace h := h.1 (Classical.not_not.mp hc)
    refine w_aload_n (pc' := 43) rfl rfl rfl ?_
    have q1 : xR0 75 2 = some 89 ∧ xS0 L 89 = (24, 7) := (kf_0_2 (show xS0 L 75 = (0, 0) from rfl))
    refine w_getR (pc' := 46) rfl rfl rfl rfl (show xS0 L 75 = (0, 0) from rfl) q1.1 ?_
    refine w_iload (pc' := 48) rfl rfl rfl ?_
    obtain ⟨k1, ek1, bk1, h⟩ := h
    have q2 : xR0 89 k1 = some (93 + 11 * k1) ∧ xS0 L (93 + 11 * k1) = (2, 0) := ke_24 q1.2 bk1
    refine w_aaload (pc' := 49) (i := k1) rfl rfl q1.2 (by omega) ek1 bk1 (by omega) q2.1 ?_
    refine w_astore (pc' := 51) rfl rfl (xl' := [.ref 75, .int x1, .int x2, .ref x3, .int x4, .int x5, .ref (93 + 11 * k1)]) rfl ?_
    refine w_aload_n (pc' := 52) rfl rfl rfl ?_
    refine w_iload (pc' := 54) rfl rfl rfl ?_
    refine w_cv (pc' := 57) (cm := xm_As_isHonest) (as := [.int x5]) (a := 75) (rest := []) rfl rfl rfl  (xa_As_isHonest (Nat.le_of_ble_eq_true rfl)) (show xS0 L 75 = (0, 0) from rfl) rfl (CI.k h fun v1 g1 h => ?_)
    show Wp L xs xm_As_alikeProofs 57 [.ref 75, .int x1, .int x2, .ref x3, .int x4, .int x5, .ref (93 + 11 * k1)] [.int v1] g1 _
    refine w_br (pc' := 60) (t := 95) rfl rfl rfl ic_eq (fun hc => ?_) (fun hc => ?_)
    · replace h := h.1 hc
      refine w_iinc (pc' := 98) rfl rfl rfl (v := (x5 + 1)) rfl (xl' := [.ref 75, .int x1, .int x2, .ref x3, .int x4, .int (x5 + 1), .ref (93 + 11 * k1)]) rfl ?_
      refine w_goto (pc' := 33) rfl rfl ?_
      exact h
    · replace h := h.2 hc
      refine w_aload (pc' := 62) rfl rfl rfl ?_
      have q3 : xR0 (93 + 11 * k1) 13 = some (93 + 11 * k1 + 6) ∧ xS0 L (93 + 11 * k1 + 6) = (20, 13) := (kf_2_13 q2.2)
      refine w_getR (pc' := 65) rfl rfl rfl rfl q2.2 q3.1 ?_
      refine w_iload_n (pc' := 66) rfl rfl rfl ?_
      obtain ⟨k2, ek2, bk2, h⟩ := h
      refine w_iaload (pc' := 67) (i := k2) rfl rfl q3.2 ek2 bk2 (by omega) ?_
      refine w_aload_n (pc' := 68) rfl rfl rfl ?_
      have q4 : xR0 x3 13 = some (x3 + 6) ∧ xS0 L (x3 + 6) = (20, 13) := (kf_2_13 qx3)
      refine w_getR (pc' := 71) rfl rfl rfl rfl qx3 q4.1 ?_
      refine w_iload_n (pc' := 72) rfl rfl rfl ?_
      refine w_iaload (pc' := 73) (i := k2) rfl rfl q4.2 ek2 bk2 (by omega) ?_
      refine w_br2 (pc' := 76) (t := 95) rfl rfl rfl ic_ne (fun hc => ?_) (fun hc => ?_)
      · replace h := h.2 hc
        refine w_iinc (pc' := 98) rfl rfl rfl (v := (x5 + 1)) rfl (xl' := [.ref 75, .int x1, .int x2, .ref x3, .int x4, .int (x5 + 1), .ref (93 + 11 * k1)]) rfl ?_
        refine w_goto (pc' := 33) rfl rfl ?_
        exact h
      · replace h := h.1 (Classical.not_not.mp hc)
        refine w_aload (pc' := 78) rfl rfl rfl ?_
        have q5 : xR0 (93 + 11 * k1) 14 = some (93 + 11 * k1 + 7) ∧ xS0 L (93 + 11 * k1 + 7) = (20, 13) := (kf_2_14 q2.2)
        refine w_getR (pc' := 81) rfl rfl rfl rfl q2.2 q5.1 ?_
        refine w_iload_n (pc' := 82) rfl rfl rfl ?_
        refine w_iaload (pc' := 83) (i := k2) rfl rfl q5.2 ek2 bk2 (by omega) ?_
        refine w_aload_n (pc' := 84) rfl rfl rfl ?_
        have q6 : xR0 x3 14 = some (x3 + 7) ∧ xS0 L (x3 + 7) = (20, 13) := (kf_2_14 qx3)
        refine w_getR (pc' := 87) rfl rfl rfl rfl qx3 q6.1 ?_
        refine w_iload_n (pc' := 88) rfl rfl rfl ?_
        refine w_iaload (pc' := 89) (i := k2) rfl rfl q6.2 ek2 bk2 (by omega) ?_
        refine w_br2 (pc' := 92) (t := 95) rfl rfl rfl ic_ne (fun hc => ?_) (fun hc => ?_)
        · replace h := h.2 hc
          refine w_iinc (pc' := 98) rfl rfl rfl (v := (x5 + 1)) rfl (xl' := [.ref 75, .int x1, .int x2, .ref x3, .int x4, .int (x5 + 1), .ref (93 + 11 * k1)]) rfl ?_
          refine w_goto (pc' := 33) rfl rfl ?_
          exact h
        · replace h := h.1 (Classical.not_not.mp hc)
          refine w_iinc (pc' := 95) rfl rfl rfl (v := (x4 + 1)) rfl (xl' := [.ref 75, .int x1, .int x2, .ref x3, .int (x4 + 1), .int x5, .ref (93 + 11 * k1)]) rfl ?_
          refine w_iinc (pc' := 98) rfl rfl rfl (v := (x5 + 1)) rfl (xl' := [.ref 75, .int x1, .int x2, .ref x3, .int (x4 + 1), .int (x5 + 1), .ref (93 + 11 * k1)]) rfl ?_
          refine w_goto (pc' := 33) rfl rfl ?_
          exact h
theorem t_As_words_0 {L : Nat} {xs : Nat → Int32}  {f : Hp} {Q : Int32 → Hp → Prop}  (h : Wp L xs xm_As_words 4 [.ref 75, .int 0, .int 0, .retAddr 0] [] f (QI Q)) : CI L xs xm_As_words [.ref 75] f Q := by
  show Wp L xs xm_As_words 0 [.ref 75, .retAddr 0, .retAddr 0, .retAddr 0] [] f (QI Q)
  refine w_iconst (pc' := 1) rfl rfl (v := 0) rfl ?_
  refine w_istore_n (pc' := 2) rfl rfl (xl' := [.ref 75, .int 0, .retAddr 0, .retAddr 0]) rfl ?_
  refine w_iconst (pc' := 3) rfl rfl (v := 0) rfl ?_
  refine w_istore_n (pc' := 4) rfl rfl (xl' := [.ref 75, .int 0, .int 0, .retAddr 0]) rfl ?_
  exact h
theorem t_As_words_4 {L : Nat} {xs : Nat → Int32} {x1 : Int32} {x2 : Int32} {x3 : Value} {f : Hp} {Q : Int32 → Hp → Prop} (cx3 : (x3.category != 2) = true) (h : ((x2 < (f 75 4) → Wp L xs xm_As_words 14 [.ref 75, .int x1, .int x2, .int 1] [] f (QI Q)) ∧ (¬ x2 < (f 75 4) → Q x1 f))) : Wp L xs xm_As_words 4 [.ref 75, .int x1, .int x2, x3] [] f (QI Q) := by
  refine w_iload_n (pc' := 5) rfl rfl rfl ?_
  refine w_aload_n (pc' := 6) rfl rfl rfl ?_
  refine w_getI (pc' := 9) rfl rfl rfl rfl rfl (show xS0 L 75 = (0, 0) from rfl) ?_
  refine w_br2 (pc' := 12) (t := 74) rfl rfl rfl ic_ge (fun hc => ?_) (fun hc => ?_)
  · replace h := h.2 hc
    refine w_iload_n (pc' := 75) rfl rfl rfl ?_
    exact w_ireturn rfl rfl h
  · replace h := h.1 (Classical.not_not.mp hc)
    refine w_iconst (pc' := 13) rfl rfl (v := 1) rfl ?_
    refine w_istore_n (pc' := 14) rfl rfl (xl' := [.ref 75, .int x1, .int x2, .int 1]) rfl ?_
    exact h
theorem t_As_words_14 {L : Nat} {xs : Nat → Int32} {x1 : Int32} {x2 : Int32} {x3 : Int32} {f : Hp} {Q : Int32 → Hp → Prop}  (h : ((12 < x3 → Wp L xs xm_As_words 4 [.ref 75, .int x1, .int (x2 + 1), .int x3] [] f (QI Q)) ∧ (¬ 12 < x3 → CI L xs xm_As_isHonest [.ref 75, .int x2] f (fun v1 g1 => ((v1 = 0 → Wp L xs xm_As_words 4 [.ref 75, .int x1, .int (x2 + 1), .int x3] [] g1 (QI Q)) ∧ (¬ v1 = 0 → ∃ k1 : Nat, x2 = iN k1 ∧ k1 < 7 ∧ ∃ k2 : Nat, x3 = iN k2 ∧ k2 < 13 ∧ CI L xs xm_ji_bitCount [.int (g1 (93 + 11 * k1 + 4) k2)] g1 (fun v2 g2 => CI L xs xm_ji_bitCount [.int (g2 (93 + 11 * k1 + 5) k2)] g2 (fun v3 g3 => Wp L xs xm_As_words 14 [.ref 75, .int ((x1 + v2) + v3), .int x2, .int (x3 + 1)] [] g3 (QI Q))))))))) : Wp L xs xm_As_words 14 [.ref 75, .int x1, .int x2, .int x3] [] f (QI Q) := by
  refine w_iload_n (pc' := 15) rfl rfl rfl ?_
  refine w_bipush (pc' := 17) rfl rfl (v := 12) rfl ?_
  refine w_br2 (pc' := 20) (t := 68) rfl rfl rfl ic_gt (fun hc => ?_) (fun hc => ?_)
  · replace h := h.1 hc
    refine w_iinc (pc' := 71) rfl rfl rfl (v := (x2 + 1)) rfl (xl' := [.ref 75, .int x1, .int (x2 + 1), .int x3]) rfl ?_
    refine w_goto (pc' := 4) rfl rfl ?_
    exact h
  · replace h := h.2 hc
    refine w_aload_n (pc' := 21) rfl rfl rfl ?_
    refine w_iload_n (pc' := 22) rfl rfl rfl ?_
    refine w_cv (pc' := 25) (cm := xm_As_isHonest) (as := [.int x2]) (a := 75) (rest := []) rfl rfl rfl  (xa_As_isHonest (Nat.le_of_ble_eq_true rfl)) (show xS0 L 75 = (0, 0) from rfl) rfl (CI.k h fun v1 g1 h => ?_)
    show Wp L xs xm_As_words 25 [.ref 75, .int x1, .int x2, .int x3] [.int v1] g1 _
    refine w_br (pc' := 28) (t := 68) rfl rfl rfl ic_eq (fun hc => ?_) (fun hc => ?_)
    · replace h := h.1 hc
      refine w_iinc (pc' := 71) rfl rfl rfl (v := (x2 + 1)) rfl (xl' := [.ref 75, .int x1, .int (x2 + 1), .int x3]) rfl ?_
      refine w_goto (pc' := 4) rfl rfl ?_
      exact h
    · replace h := h.2 hc
      refine w_iload_n (pc' := 29) rfl rfl rfl ?_
      refine w_aload_n (pc' := 30) rfl rfl rfl ?_
      have q1 : xR0 75 2 = some 89 ∧ xS0 L 89 = (24, 7) := (kf_0_2 (show xS0 L 75 = (0, 0) from rfl))
      refine w_getR (pc' := 33) rfl rfl rfl rfl (show xS0 L 75 = (0, 0) from rfl) q1.1 ?_
      refine w_iload_n (pc' := 34) rfl rfl rfl ?_
      obtain ⟨k1, ek1, bk1, h⟩ := h
      have q2 : xR0 89 k1 = some (93 + 11 * k1) ∧ xS0 L (93 + 11 * k1) = (2, 0) := ke_24 q1.2 bk1
      refine w_aaload (pc' := 35) (i := k1) rfl rfl q1.2 (by omega) ek1 bk1 (by omega) q2.1 ?_
      have q3 : xR0 (93 + 11 * k1) 11 = some (93 + 11 * k1 + 4) ∧ xS0 L (93 + 11 * k1 + 4) = (20, 13) := (kf_2_11 q2.2)
      refine w_getR (pc' := 38) rfl rfl rfl rfl q2.2 q3.1 ?_
      refine w_iload_n (pc' := 39) rfl rfl rfl ?_
      obtain ⟨k2, ek2, bk2, h⟩ := h
      refine w_iaload (pc' := 40) (i := k2) rfl rfl q3.2 ek2 bk2 (by omega) ?_
      refine w_cs (pc' := 43) (cm := xm_ji_bitCount) (as := [.int (g1 (93 + 11 * k1 + 4) k2)]) (rest := [.int x1]) rfl rfl rfl (Or.inl rfl) (xa_ji_bitCount (Nat.le_of_ble_eq_true rfl)) (CI.k h fun v2 g2 h => ?_)
      show Wp L xs xm_As_words 43 [.ref 75, .int x1, .int x2, .int x3] [.int v2, .int x1] g2 _
      refine w_iadd (pc' := 44) rfl rfl ?_
      refine w_istore_n (pc' := 45) rfl rfl (xl' := [.ref 75, .int (x1 + v2), .int x2, .int x3]) rfl ?_
      refine w_iload_n (pc' := 46) rfl rfl rfl ?_
      refine w_aload_n (pc' := 47) rfl rfl rfl ?_
      have q4 : xR0 75 2 = some 89 ∧ xS0 L 89 = (24, 7) := (kf_0_2 (show xS0 L 75 = (0, 0) from rfl))
      refine w_getR (pc' := 50) rfl rfl rfl rfl (show xS0 L 75 = (0, 0) from rfl) q4.1 ?_
      refine w_iload_n (pc' := 51) rfl rfl rfl ?_
      have q5 : xR0 89 k1 = some (93 + 11 * k1) ∧ xS0 L (93 + 11 * k1) = (2, 0) := ke_24 q4.2 bk1
      refine w_aaload (pc' := 52) (i := k1) rfl rfl q4.2 (by omega) ek1 bk1 (by omega) q5.1 ?_
      have q6 : xR0 (93 + 11 * k1) 12 = some (93 + 11 * k1 + 5) ∧ xS0 L (93 + 11 * k1 + 5) = (20, 13) := (kf_2_12 q5.2)
      refine w_getR (pc' := 55) rfl rfl rfl rfl q5.2 q6.1 ?_
      refine w_iload_n (pc' := 56) rfl rfl rfl ?_
      refine w_iaload (pc' := 57) (i := k2) rfl rfl q6.2 ek2 bk2 (by omega) ?_
      refine w_cs (pc' := 60) (cm := xm_ji_bitCount) (as := [.int (g2 (93 + 11 * k1 + 5) k2)]) (rest := [.int (x1 + v2)]) rfl rfl rfl (Or.inl rfl) (xa_ji_bitCount (Nat.le_of_ble_eq_true rfl)) (CI.k h fun v3 g3 h => ?_)
      show Wp L xs xm_As_words 60 [.ref 75, .int (x1 + v2), .int x2, .int x3] [.int v3, .int (x1 + v2)] g3 _
      refine w_iadd (pc' := 61) rfl rfl ?_
      refine w_istore_n (pc' := 62) rfl rfl (xl' := [.ref 75, .int ((x1 + v2) + v3), .int x2, .int x3]) rfl ?_
      refine w_iinc (pc' := 65) rfl rfl rfl (v := (x3 + 1)) rfl (xl' := [.ref 75, .int ((x1 + v2) + v3), .int x2, .int (x3 + 1)]) rfl ?_
      refine w_goto (pc' := 14) rfl rfl ?_
      exact h
theorem t_As_fullOnes_0 {L : Nat} {xs : Nat → Int32}  {f : Hp} {Q : Int32 → Hp → Prop}  (h : Wp L xs xm_As_fullOnes 4 [.ref 75, .int 0, .int 0] [] f (QI Q)) : CI L xs xm_As_fullOnes [.ref 75] f Q := by
  show Wp L xs xm_As_fullOnes 0 [.ref 75, .retAddr 0, .retAddr 0] [] f (QI Q)
  refine w_iconst (pc' := 1) rfl rfl (v := 0) rfl ?_
  refine w_istore_n (pc' := 2) rfl rfl (xl' := [.ref 75, .int 0, .retAddr 0]) rfl ?_
  refine w_iconst (pc' := 3) rfl rfl (v := 0) rfl ?_
  refine w_istore_n (pc' := 4) rfl rfl (xl' := [.ref 75, .int 0, .int 0]) rfl ?_
  exact h
theorem t_As_fullOnes_4 {L : Nat} {xs : Nat → Int32} {x1 : Int32} {x2 : Int32} {f : Hp} {Q : Int32 → Hp → Prop}  (h : ((x2 < (f 75 4) → CI L xs xm_As_isHonest [.ref 75, .int x2] f (fun v1 g1 => ((v1 = 0 → Wp L xs xm_As_fullOnes 4 [.ref 75, .int x1, .int (x2 + 1)] [] g1 (QI Q)) ∧ (¬ v1 = 0 → ∃ k1 : Nat, x2 = iN k1 ∧ k1 < 7 ∧ CI L xs xm_As_isFull [.ref (93 + 11 * k1)] g1 (fun v2 g2 => ((v2 = 0 → Wp L xs xm_As_fullOnes 4 [.ref 75, .int x1, .int (x2 + 1)] [] g2 (QI Q)) ∧ (¬ v2 = 0 → Wp L xs xm_As_fullOnes 4 [.ref 75, .int (x1 ||| (1 <<< (x2 &&& 31))), .int (x2 + 1)] [] g2 (QI Q)))))))) ∧ (¬ x2 < (f 75 4) → Q x1 f))) : Wp L xs xm_As_fullOnes 4 [.ref 75, .int x1, .int x2] [] f (QI Q) := by
  refine w_iload_n (pc' := 5) rfl rfl rfl ?_
  refine w_aload_n (pc' := 6) rfl rfl rfl ?_
  refine w_getI (pc' := 9) rfl rfl rfl rfl rfl (show xS0 L 75 = (0, 0) from rfl) ?_
  refine w_br2 (pc' := 12) (t := 44) rfl rfl rfl ic_ge (fun hc => ?_) (fun hc => ?_)
  · replace h := h.2 hc
    refine w_iload_n (pc' := 45) rfl rfl rfl ?_
    exact w_ireturn rfl rfl h
  · replace h := h.1 (Classical.not_not.mp hc)
    refine w_aload_n (pc' := 13) rfl rfl rfl ?_
    refine w_iload_n (pc' := 14) rfl rfl rfl ?_
    refine w_cv (pc' := 17) (cm := xm_As_isHonest) (as := [.int x2]) (a := 75) (rest := []) rfl rfl rfl  (xa_As_isHonest (Nat.le_of_ble_eq_true rfl)) (show xS0 L 75 = (0, 0) from rfl) rfl (CI.k h fun v1 g1 h => ?_)
    show Wp L xs xm_As_fullOnes 17 [.ref 75, .int x1, .int x2] [.int v1] g1 _
    refine w_br (pc' := 20) (t := 38) rfl rfl rfl ic_eq (fun hc => ?_) (fun hc => ?_)
    · replace h := h.1 hc
      refine w_iinc (pc' := 41) rfl rfl rfl (v := (x2 + 1)) rfl (xl' := [.ref 75, .int x1, .int (x2 + 1)]) rfl ?_
      refine w_goto (pc' := 4) rfl rfl ?_
      exact h
    · replace h := h.2 hc
      refine w_aload_n (pc' := 21) rfl rfl rfl ?_
      have q1 : xR0 75 2 = some 89 ∧ xS0 L 89 = (24, 7) := (kf_0_2 (show xS0 L 75 = (0, 0) from rfl))
      refine w_getR (pc' := 24) rfl rfl rfl rfl (show xS0 L 75 = (0, 0) from rfl) q1.1 ?_
      refine w_iload_n (pc' := 25) rfl rfl rfl ?_
      obtain ⟨k1, ek1, bk1, h⟩ := h
      have q2 : xR0 89 k1 = some (93 + 11 * k1) ∧ xS0 L (93 + 11 * k1) = (2, 0) := ke_24 q1.2 bk1
      refine w_aaload (pc' := 26) (i := k1) rfl rfl q1.2 (by omega) ek1 bk1 (by omega) q2.1 ?_
      refine w_cs (pc' := 29) (cm := xm_As_isFull) (as := [.ref (93 + 11 * k1)]) (rest := []) rfl rfl rfl (Or.inl rfl) (xa_As_isFull (Nat.le_of_ble_eq_true rfl)) (CI.k h fun v2 g2 h => ?_)
      show Wp L xs xm_As_fullOnes 29 [.ref 75, .int x1, .int x2] [.int v2] g2 _
      refine w_br (pc' := 32) (t := 38) rfl rfl rfl ic_eq (fun hc => ?_) (fun hc => ?_)
      · replace h := h.1 hc
        refine w_iinc (pc' := 41) rfl rfl rfl (v := (x2 + 1)) rfl (xl' := [.ref 75, .int x1, .int (x2 + 1)]) rfl ?_
        refine w_goto (pc' := 4) rfl rfl ?_
        exact h
      · replace h := h.2 hc
        refine w_iload_n (pc' := 33) rfl rfl rfl ?_
        refine w_iconst (pc' := 34) rfl rfl (v := 1) rfl ?_
        refine w_iload_n (pc' := 35) rfl rfl rfl ?_
        refine w_ishl (pc' := 36) rfl rfl ?_
        refine w_ior (pc' := 37) rfl rfl ?_
        refine w_istore_n (pc' := 38) rfl rfl (xl' := [.ref 75, .int (x1 ||| (1 <<< (x2 &&& 31))), .int x2]) rfl ?_
        refine w_iinc (pc' := 41) rfl rfl rfl (v := (x2 + 1)) rfl (xl' := [.ref 75, .int (x1 ||| (1 <<< (x2 &&& 31))), .int (x2 + 1)]) rfl ?_
        refine w_goto (pc' := 4) rfl rfl ?_
        exact h
theorem t_As_isFull_0 {L : Nat} {xs : Nat → Int32} {x0 : Nat} {f : Hp} {Q : Int32 → Hp → Prop} (qx0 : xS0 L x0 = (2, 0)) (h : Wp L xs xm_As_isFull 7 [.ref x0, .int ((f x0 2) + 1)] [] f (QI Q)) : CI L xs xm_As_isFull [.ref x0] f Q := by
  show Wp L xs xm_As_isFull 0 [.ref x0, .retAddr 0] [] f (QI Q)
  refine w_aload_n (pc' := 1) rfl rfl rfl ?_
  refine w_getI (pc' := 4) rfl rfl rfl rfl rfl qx0 ?_
  refine w_iconst (pc' := 5) rfl rfl (v := 1) rfl ?_
  refine w_iadd (pc' := 6) rfl rfl ?_
  refine w_istore_n (pc' := 7) rfl rfl (xl' := [.ref x0, .int ((f x0 2) + 1)]) rfl ?_
  exact h
theorem t_As_isFull_7 {L : Nat} {xs : Nat → Int32} {x0 : Nat} {x1 : Int32} {f : Hp} {Q : Int32 → Hp → Prop} (qx0 : xS0 L x0 = (2, 0)) (h : ((12 < x1 → Q 1 f) ∧ (¬ 12 < x1 → CI L xs xm_Me_isWithin [.ref x0, .int x1] f (fun v1 g1 => ((v1 = 0 → Q 1 g1) ∧ (¬ v1 = 0 → CI L xs xm_Me_hasAccepted [.ref x0, .int x1] g1 (fun v2 g2 => ((v2 = 0 → Q 0 g2) ∧ (¬ v2 = 0 → Wp L xs xm_As_isFull 7 [.ref x0, .int (x1 + 1)] [] g2 (QI Q)))))))))) : Wp L xs xm_As_isFull 7 [.ref x0, .int x1] [] f (QI Q) := by
  refine w_iload_n (pc' := 8) rfl rfl rfl ?_
  refine w_bipush (pc' := 10) rfl rfl (v := 12) rfl ?_
  refine w_br2 (pc' := 13) (t := 37) rfl rfl rfl ic_gt (fun hc => ?_) (fun hc => ?_)
  · replace h := h.1 hc
    refine w_iconst (pc' := 38) rfl rfl (v := 1) rfl ?_
    exact w_ireturn rfl rfl h
  · replace h := h.2 hc
    refine w_aload_n (pc' := 14) rfl rfl rfl ?_
    refine w_iload_n (pc' := 15) rfl rfl rfl ?_
    refine w_cv (pc' := 18) (cm := xm_Me_isWithin) (as := [.int x1]) (a := x0) (rest := []) rfl rfl rfl  (xa_Me_isWithin (Nat.le_of_ble_eq_true rfl)) qx0 rfl (CI.k h fun v1 g1 h => ?_)
    show Wp L xs xm_As_isFull 18 [.ref x0, .int x1] [.int v1] g1 _
    refine w_br (pc' := 21) (t := 37) rfl rfl rfl ic_eq (fun hc => ?_) (fun hc => ?_)
    · replace h := h.1 hc
      refine w_iconst (pc' := 38) rfl rfl (v := 1) rfl ?_
      exact w_ireturn rfl rfl h
    · replace h := h.2 hc
      refine w_aload_n (pc' := 22) rfl rfl rfl ?_
      refine w_iload_n (pc' := 23) rfl rfl rfl ?_
      refine w_cv (pc' := 26) (cm := xm_Me_hasAccepted) (as := [.int x1]) (a := x0) (rest := []) rfl rfl rfl  (xa_Me_hasAccepted (Nat.le_of_ble_eq_true rfl)) qx0 rfl (CI.k h fun v2 g2 h => ?_)
      show Wp L xs xm_As_isFull 26 [.ref x0, .int x1] [.int v2] g2 _
      refine w_br (pc' := 29) (t := 31) rfl rfl rfl ic_ne (fun hc => ?_) (fun hc => ?_)
      · replace h := h.2 hc
        refine w_iinc (pc' := 34) rfl rfl rfl (v := (x1 + 1)) rfl (xl' := [.ref x0, .int (x1 + 1)]) rfl ?_
        refine w_goto (pc' := 7) rfl rfl ?_
        exact h
      · replace h := h.1 (Classical.not_not.mp hc)
        refine w_iconst (pc' := 30) rfl rfl (v := 0) rfl ?_
        exact w_ireturn rfl rfl h
