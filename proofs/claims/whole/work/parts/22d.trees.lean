/-! TREES (printed by wip/whole/gen7.py): what must hold at a label of a method -/
theorem t_TP_feed_0 {L : Nat} {xs : Nat → Int32} {x1 : Int32} {x2 : Int32} {x3 : Int32} {x4 : Int32} {x5 : Int32} {f : Hp} {Q : Int32 → Hp → Prop}  (h : ((600 < ((f 1 1) + 20) → Q (-1) f) ∧ (¬ 600 < ((f 1 1) + 20) → CV L xs xm_To_write [.ref 1, .int x1] f (fun g1 => CV L xs xm_To_write [.ref 1, .int x2] g1 (fun g2 => CV L xs xm_To_write [.ref 1, .int x3] g2 (fun g3 => CV L xs xm_To_write [.ref 1, .int x4] g3 (fun g4 => CV L xs xm_To_write [.ref 1, .int x5] g4 (fun g5 => Q (g5 1 1) g5)))))))) : CI L xs xm_TP_feed [.ref 0, .int x1, .int x2, .int x3, .int x4, .int x5] f Q := by
  show Wp L xs xm_TP_feed 0 [.ref 0, .int x1, .int x2, .int x3, .int x4, .int x5] [] f (QI Q)
  refine w_aload_n (pc' := 1) rfl rfl rfl ?_
  have q1 : xR0 0 0 = some 1 ∧ xS0 L 1 = (10, 0) := (kf_11_0 (show xS0 L 0 = (11, 0) from rfl))
  refine w_getR (pc' := 4) rfl rfl rfl rfl (show xS0 L 0 = (11, 0) from rfl) q1.1 ?_
  refine w_getI (pc' := 7) rfl rfl rfl rfl rfl q1.2 ?_
  refine w_bipush (pc' := 9) rfl rfl (v := 20) rfl ?_
  refine w_iadd (pc' := 10) rfl rfl ?_
  refine w_sipush (pc' := 13) rfl rfl (v := 600) rfl ?_
  refine w_br2 (pc' := 16) (t := 18) rfl rfl rfl ic_le (fun hc => ?_) (fun hc => ?_)
  · replace h := h.2 hc
    refine w_aload_n (pc' := 19) rfl rfl rfl ?_
    have q2 : xR0 0 0 = some 1 ∧ xS0 L 1 = (10, 0) := (kf_11_0 (show xS0 L 0 = (11, 0) from rfl))
    refine w_getR (pc' := 22) rfl rfl rfl rfl (show xS0 L 0 = (11, 0) from rfl) q2.1 ?_
    refine w_iload_n (pc' := 23) rfl rfl rfl ?_
    refine w_cv (pc' := 26) (cm := xm_To_write) (as := [.int x1]) (a := 1) (rest := []) rfl rfl rfl  (xa_To_write (Nat.le_of_ble_eq_true rfl)) q2.2 rfl (CV.k h fun g1 h => ?_)
    show Wp L xs xm_TP_feed 26 [.ref 0, .int x1, .int x2, .int x3, .int x4, .int x5] [] g1 _
    refine w_aload_n (pc' := 27) rfl rfl rfl ?_
    have q3 : xR0 0 0 = some 1 ∧ xS0 L 1 = (10, 0) := (kf_11_0 (show xS0 L 0 = (11, 0) from rfl))
    refine w_getR (pc' := 30) rfl rfl rfl rfl (show xS0 L 0 = (11, 0) from rfl) q3.1 ?_
    refine w_iload_n (pc' := 31) rfl rfl rfl ?_
    refine w_cv (pc' := 34) (cm := xm_To_write) (as := [.int x2]) (a := 1) (rest := []) rfl rfl rfl  (xa_To_write (Nat.le_of_ble_eq_true rfl)) q3.2 rfl (CV.k h fun g2 h => ?_)
    show Wp L xs xm_TP_feed 34 [.ref 0, .int x1, .int x2, .int x3, .int x4, .int x5] [] g2 _
    refine w_aload_n (pc' := 35) rfl rfl rfl ?_
    have q4 : xR0 0 0 = some 1 ∧ xS0 L 1 = (10, 0) := (kf_11_0 (show xS0 L 0 = (11, 0) from rfl))
    refine w_getR (pc' := 38) rfl rfl rfl rfl (show xS0 L 0 = (11, 0) from rfl) q4.1 ?_
    refine w_iload_n (pc' := 39) rfl rfl rfl ?_
    refine w_cv (pc' := 42) (cm := xm_To_write) (as := [.int x3]) (a := 1) (rest := []) rfl rfl rfl  (xa_To_write (Nat.le_of_ble_eq_true rfl)) q4.2 rfl (CV.k h fun g3 h => ?_)
    show Wp L xs xm_TP_feed 42 [.ref 0, .int x1, .int x2, .int x3, .int x4, .int x5] [] g3 _
    refine w_aload_n (pc' := 43) rfl rfl rfl ?_
    have q5 : xR0 0 0 = some 1 ∧ xS0 L 1 = (10, 0) := (kf_11_0 (show xS0 L 0 = (11, 0) from rfl))
    refine w_getR (pc' := 46) rfl rfl rfl rfl (show xS0 L 0 = (11, 0) from rfl) q5.1 ?_
    refine w_iload (pc' := 48) rfl rfl rfl ?_
    refine w_cv (pc' := 51) (cm := xm_To_write) (as := [.int x4]) (a := 1) (rest := []) rfl rfl rfl  (xa_To_write (Nat.le_of_ble_eq_true rfl)) q5.2 rfl (CV.k h fun g4 h => ?_)
    show Wp L xs xm_TP_feed 51 [.ref 0, .int x1, .int x2, .int x3, .int x4, .int x5] [] g4 _
    refine w_aload_n (pc' := 52) rfl rfl rfl ?_
    have q6 : xR0 0 0 = some 1 ∧ xS0 L 1 = (10, 0) := (kf_11_0 (show xS0 L 0 = (11, 0) from rfl))
    refine w_getR (pc' := 55) rfl rfl rfl rfl (show xS0 L 0 = (11, 0) from rfl) q6.1 ?_
    refine w_iload (pc' := 57) rfl rfl rfl ?_
    refine w_cv (pc' := 60) (cm := xm_To_write) (as := [.int x5]) (a := 1) (rest := []) rfl rfl rfl  (xa_To_write (Nat.le_of_ble_eq_true rfl)) q6.2 rfl (CV.k h fun g5 h => ?_)
    show Wp L xs xm_TP_feed 60 [.ref 0, .int x1, .int x2, .int x3, .int x4, .int x5] [] g5 _
    refine w_aload_n (pc' := 61) rfl rfl rfl ?_
    have q7 : xR0 0 0 = some 1 ∧ xS0 L 1 = (10, 0) := (kf_11_0 (show xS0 L 0 = (11, 0) from rfl))
    refine w_getR (pc' := 64) rfl rfl rfl rfl (show xS0 L 0 = (11, 0) from rfl) q7.1 ?_
    refine w_getI (pc' := 67) rfl rfl rfl rfl rfl q7.2 ?_
    exact w_ireturn rfl rfl h
  · replace h := h.1 (Classical.not_not.mp hc)
    refine w_iconst (pc' := 17) rfl rfl (v := (-1)) rfl ?_
    exact w_ireturn rfl rfl h
theorem t_TP_end_0 {L : Nat} {xs : Nat → Int32} {x1 : Int32} {f : Hp} {Q : Int32 → Hp → Prop}  (h : ((x1 < 0 → Q (-1) f) ∧ (¬ x1 < 0 → (((f 1 1) < x1 → Q (-1) f) ∧ (¬ (f 1 1) < x1 → ∀ g1, g1 = xu f 1 1 x1 → Q x1 g1))))) : CI L xs xm_TP_end [.ref 0, .int x1] f Q := by
  show Wp L xs xm_TP_end 0 [.ref 0, .int x1] [] f (QI Q)
  refine w_iload_n (pc' := 1) rfl rfl rfl ?_
  refine w_br (pc' := 4) (t := 15) rfl rfl rfl ic_lt (fun hc => ?_) (fun hc => ?_)
  · replace h := h.1 hc
    refine w_iconst (pc' := 16) rfl rfl (v := (-1)) rfl ?_
    exact w_ireturn rfl rfl h
  · replace h := h.2 hc
    refine w_iload_n (pc' := 5) rfl rfl rfl ?_
    refine w_aload_n (pc' := 6) rfl rfl rfl ?_
    have q1 : xR0 0 0 = some 1 ∧ xS0 L 1 = (10, 0) := (kf_11_0 (show xS0 L 0 = (11, 0) from rfl))
    refine w_getR (pc' := 9) rfl rfl rfl rfl (show xS0 L 0 = (11, 0) from rfl) q1.1 ?_
    refine w_getI (pc' := 12) rfl rfl rfl rfl rfl q1.2 ?_
    refine w_br2 (pc' := 15) (t := 17) rfl rfl rfl ic_le (fun hc => ?_) (fun hc => ?_)
    · replace h := h.2 hc
      refine w_aload_n (pc' := 18) rfl rfl rfl ?_
      have q2 : xR0 0 0 = some 1 ∧ xS0 L 1 = (10, 0) := (kf_11_0 (show xS0 L 0 = (11, 0) from rfl))
      refine w_getR (pc' := 21) rfl rfl rfl rfl (show xS0 L 0 = (11, 0) from rfl) q2.1 ?_
      refine w_iload_n (pc' := 22) rfl rfl rfl ?_
      refine w_putI (pc' := 25) rfl rfl rfl rfl q2.2 ?_
      replace h := h _ rfl
      generalize xu f 1 1 x1 = g1 at h ⊢
      refine w_iload_n (pc' := 26) rfl rfl rfl ?_
      exact w_ireturn rfl rfl h
    · replace h := h.1 (Classical.not_not.mp hc)
      refine w_iconst (pc' := 16) rfl rfl (v := (-1)) rfl ?_
      exact w_ireturn rfl rfl h
theorem t_TP_text_0 {L : Nat} {xs : Nat → Int32} {x1 : Int32} {x2 : Int32} {f : Hp} {Q : Int32 → Hp → Prop}  (h : ∀ g1, g1 = xu f 1 1 0 → ∀ g2, g2 = xu g1 1 2 0 → ∀ g3, g3 = xu g2 1 3 (-1) → ((x1 < 0 → Q (-2) g3) ∧ (¬ x1 < 0 → ((x1 < 3 → ((x2 = (-1) → ∃ k1 : Nat, x1 = iN k1 ∧ k1 < 3 ∧ Wp L xs xm_TP_text 62 [.ref 0, .int x1, .int x2, .int (f 1 1), .retAddr 0] [.int (g3 3 k1)] g3 (QI Q)) ∧ (¬ x2 = (-1) → Wp L xs xm_TP_text 62 [.ref 0, .int x1, .int x2, .int (f 1 1), .retAddr 0] [.int x2] g3 (QI Q)))) ∧ (¬ x1 < 3 → Q (-2) g3))))) : CI L xs xm_TP_text [.ref 0, .int x1, .int x2] f Q := by
  show Wp L xs xm_TP_text 0 [.ref 0, .int x1, .int x2, .retAddr 0, .retAddr 0] [] f (QI Q)
  refine w_aload_n (pc' := 1) rfl rfl rfl ?_
  have q1 : xR0 0 0 = some 1 ∧ xS0 L 1 = (10, 0) := (kf_11_0 (show xS0 L 0 = (11, 0) from rfl))
  refine w_getR (pc' := 4) rfl rfl rfl rfl (show xS0 L 0 = (11, 0) from rfl) q1.1 ?_
  refine w_getI (pc' := 7) rfl rfl rfl rfl rfl q1.2 ?_
  refine w_istore_n (pc' := 8) rfl rfl (xl' := [.ref 0, .int x1, .int x2, .int (f 1 1), .retAddr 0]) rfl ?_
  refine w_aload_n (pc' := 9) rfl rfl rfl ?_
  have q2 : xR0 0 0 = some 1 ∧ xS0 L 1 = (10, 0) := (kf_11_0 (show xS0 L 0 = (11, 0) from rfl))
  refine w_getR (pc' := 12) rfl rfl rfl rfl (show xS0 L 0 = (11, 0) from rfl) q2.1 ?_
  refine w_iconst (pc' := 13) rfl rfl (v := 0) rfl ?_
  refine w_putI (pc' := 16) rfl rfl rfl rfl q2.2 ?_
  replace h := h _ rfl
  generalize xu f 1 1 0 = g1 at h ⊢
  refine w_aload_n (pc' := 17) rfl rfl rfl ?_
  have q3 : xR0 0 0 = some 1 ∧ xS0 L 1 = (10, 0) := (kf_11_0 (show xS0 L 0 = (11, 0) from rfl))
  refine w_getR (pc' := 20) rfl rfl rfl rfl (show xS0 L 0 = (11, 0) from rfl) q3.1 ?_
  refine w_iconst (pc' := 21) rfl rfl (v := 0) rfl ?_
  refine w_putI (pc' := 24) rfl rfl rfl rfl q3.2 ?_
  replace h := h _ rfl
  generalize xu g1 1 2 0 = g2 at h ⊢
  refine w_aload_n (pc' := 25) rfl rfl rfl ?_
  have q4 : xR0 0 0 = some 1 ∧ xS0 L 1 = (10, 0) := (kf_11_0 (show xS0 L 0 = (11, 0) from rfl))
  refine w_getR (pc' := 28) rfl rfl rfl rfl (show xS0 L 0 = (11, 0) from rfl) q4.1 ?_
  refine w_iconst (pc' := 29) rfl rfl (v := (-1)) rfl ?_
  refine w_putI (pc' := 32) rfl rfl rfl rfl q4.2 ?_
  replace h := h _ rfl
  generalize xu g2 1 3 (-1) = g3 at h ⊢
  refine w_iload_n (pc' := 33) rfl rfl rfl ?_
  refine w_br (pc' := 36) (t := 41) rfl rfl rfl ic_lt (fun hc => ?_) (fun hc => ?_)
  · replace h := h.1 hc
    refine w_bipush (pc' := 43) rfl rfl (v := (-2)) rfl ?_
    exact w_ireturn rfl rfl h
  · replace h := h.2 hc
    refine w_iload_n (pc' := 37) rfl rfl rfl ?_
    refine w_iconst (pc' := 38) rfl rfl (v := 3) rfl ?_
    refine w_br2 (pc' := 41) (t := 44) rfl rfl rfl ic_lt (fun hc => ?_) (fun hc => ?_)
    · replace h := h.1 hc
      refine w_iload_n (pc' := 45) rfl rfl rfl ?_
      refine w_iconst (pc' := 46) rfl rfl (v := (-1)) rfl ?_
      refine w_br2 (pc' := 49) (t := 61) rfl rfl rfl ic_ne (fun hc => ?_) (fun hc => ?_)
      · replace h := h.2 hc
        refine w_iload_n (pc' := 62) rfl rfl rfl ?_
        exact h
      · replace h := h.1 (Classical.not_not.mp hc)
        refine w_aload_n (pc' := 50) rfl rfl rfl ?_
        have q5 : xR0 0 0 = some 1 ∧ xS0 L 1 = (10, 0) := (kf_11_0 (show xS0 L 0 = (11, 0) from rfl))
        refine w_getR (pc' := 53) rfl rfl rfl rfl (show xS0 L 0 = (11, 0) from rfl) q5.1 ?_
        have q6 : xR0 1 4 = some 3 ∧ xS0 L 3 = (20, 3) := (kf_10_4 q5.2)
        refine w_getR (pc' := 56) rfl rfl rfl rfl q5.2 q6.1 ?_
        refine w_iload_n (pc' := 57) rfl rfl rfl ?_
        obtain ⟨k1, ek1, bk1, h⟩ := h
        refine w_iaload (pc' := 58) (i := k1) rfl rfl q6.2 ek1 bk1 (by omega) ?_
        refine w_goto (pc' := 62) rfl rfl ?_
        exact h
    · replace h := h.2 hc
      refine w_bipush (pc' := 43) rfl rfl (v := (-2)) rfl ?_
      exact w_ireturn rfl rfl h
theorem t_TP_text_62 {L : Nat} {xs : Nat → Int32} {x1 : Int32} {x2 : Int32} {x3 : Int32} {s0 : Int32} {f : Hp} {Q : Int32 → Hp → Prop}  (h : ((s0 < 0 → Q (-2) f) ∧ (¬ s0 < 0 → ((s0 < 2 → ((x2 = (-1) → Wp L xs xm_TP_text 95 [.ref 0, .int x1, .int x2, .int x3, .int s0] [] f (QI Q)) ∧ (¬ x2 = (-1) → CI L xs xm_To_has [.ref 1, .int x1, .int x2] f (fun v1 g1 => ((v1 = 0 → Q (-2) g1) ∧ (¬ v1 = 0 → Wp L xs xm_TP_text 95 [.ref 0, .int x1, .int x2, .int x3, .int s0] [] g1 (QI Q))))))) ∧ (¬ s0 < 2 → Q (-2) f))))) : Wp L xs xm_TP_text 62 [.ref 0, .int x1, .int x2, .int x3, .retAddr 0] [.int s0] f (QI Q) := by
  refine w_istore (pc' := 64) rfl rfl (xl' := [.ref 0, .int x1, .int x2, .int x3, .int s0]) rfl ?_
  refine w_iload (pc' := 66) rfl rfl rfl ?_
  refine w_br (pc' := 69) (t := 92) rfl rfl rfl ic_lt (fun hc => ?_) (fun hc => ?_)
  · replace h := h.1 hc
    refine w_bipush (pc' := 94) rfl rfl (v := (-2)) rfl ?_
    exact w_ireturn rfl rfl h
  · replace h := h.2 hc
    refine w_iload (pc' := 71) rfl rfl rfl ?_
    refine w_iconst (pc' := 72) rfl rfl (v := 2) rfl ?_
    refine w_br2 (pc' := 75) (t := 92) rfl rfl rfl ic_ge (fun hc => ?_) (fun hc => ?_)
    · replace h := h.2 hc
      refine w_bipush (pc' := 94) rfl rfl (v := (-2)) rfl ?_
      exact w_ireturn rfl rfl h
    · replace h := h.1 (Classical.not_not.mp hc)
      refine w_iload_n (pc' := 76) rfl rfl rfl ?_
      refine w_iconst (pc' := 77) rfl rfl (v := (-1)) rfl ?_
      refine w_br2 (pc' := 80) (t := 95) rfl rfl rfl ic_eq (fun hc => ?_) (fun hc => ?_)
      · replace h := h.1 hc
        exact h
      · replace h := h.2 hc
        refine w_aload_n (pc' := 81) rfl rfl rfl ?_
        have q1 : xR0 0 0 = some 1 ∧ xS0 L 1 = (10, 0) := (kf_11_0 (show xS0 L 0 = (11, 0) from rfl))
        refine w_getR (pc' := 84) rfl rfl rfl rfl (show xS0 L 0 = (11, 0) from rfl) q1.1 ?_
        refine w_iload_n (pc' := 85) rfl rfl rfl ?_
        refine w_iload_n (pc' := 86) rfl rfl rfl ?_
        refine w_cv (pc' := 89) (cm := xm_To_has) (as := [.int x1, .int x2]) (a := 1) (rest := []) rfl rfl rfl  (xa_To_has (Nat.le_of_ble_eq_true rfl)) q1.2 rfl (CI.k h fun v1 g1 h => ?_)
        show Wp L xs xm_TP_text 89 [.ref 0, .int x1, .int x2, .int x3, .int s0] [.int v1] g1 _
        refine w_br (pc' := 92) (t := 95) rfl rfl rfl ic_ne (fun hc => ?_) (fun hc => ?_)
        · replace h := h.2 hc
          exact h
        · replace h := h.1 (Classical.not_not.mp hc)
          refine w_bipush (pc' := 94) rfl rfl (v := (-2)) rfl ?_
          exact w_ireturn rfl rfl h
theorem t_TP_text_95 {L : Nat} {xs : Nat → Int32} {x1 : Int32} {x2 : Int32} {x3 : Int32} {x4 : Int32} {f : Hp} {Q : Int32 → Hp → Prop}  (h : CV L xs xm_Re_read [.ref 51, .ref 2, .int x3, .int x1] f (fun g1 => ∀ g2, g2 = xu g1 1 2 (g1 51 3) → ∀ g3, g3 = xu g2 1 3 (g2 51 4) → (((g3 51 3) = 0 → CV L xs xm_To_put [.ref 1, .int x1, .int x4, .ref 51] g3 (fun g4 => Q x4 g4)) ∧ (¬ (g3 51 3) = 0 → Q (-1) g3)))) : Wp L xs xm_TP_text 95 [.ref 0, .int x1, .int x2, .int x3, .int x4] [] f (QI Q) := by
  refine w_aload_n (pc' := 96) rfl rfl rfl ?_
  have q1 : xR0 0 3 = some 51 ∧ xS0 L 51 = (4, 0) := (kf_11_3 (show xS0 L 0 = (11, 0) from rfl))
  refine w_getR (pc' := 99) rfl rfl rfl rfl (show xS0 L 0 = (11, 0) from rfl) q1.1 ?_
  refine w_aload_n (pc' := 100) rfl rfl rfl ?_
  have q2 : xR0 0 0 = some 1 ∧ xS0 L 1 = (10, 0) := (kf_11_0 (show xS0 L 0 = (11, 0) from rfl))
  refine w_getR (pc' := 103) rfl rfl rfl rfl (show xS0 L 0 = (11, 0) from rfl) q2.1 ?_
  have q3 : xR0 1 0 = some 2 ∧ xS0 L 2 = (21, 600) := (kf_10_0 q2.2)
  refine w_getR (pc' := 106) rfl rfl rfl rfl q2.2 q3.1 ?_
  refine w_iload_n (pc' := 107) rfl rfl rfl ?_
  refine w_iload_n (pc' := 108) rfl rfl rfl ?_
  refine w_cv (pc' := 111) (cm := xm_Re_read) (as := [.ref 2, .int x3, .int x1]) (a := 51) (rest := []) rfl rfl rfl  (xa_Re_read (Nat.le_of_ble_eq_true rfl)) q1.2 rfl (CV.k h fun g1 h => ?_)
  show Wp L xs xm_TP_text 111 [.ref 0, .int x1, .int x2, .int x3, .int x4] [] g1 _
  refine w_aload_n (pc' := 112) rfl rfl rfl ?_
  have q4 : xR0 0 0 = some 1 ∧ xS0 L 1 = (10, 0) := (kf_11_0 (show xS0 L 0 = (11, 0) from rfl))
  refine w_getR (pc' := 115) rfl rfl rfl rfl (show xS0 L 0 = (11, 0) from rfl) q4.1 ?_
  refine w_aload_n (pc' := 116) rfl rfl rfl ?_
  have q5 : xR0 0 3 = some 51 ∧ xS0 L 51 = (4, 0) := (kf_11_3 (show xS0 L 0 = (11, 0) from rfl))
  refine w_getR (pc' := 119) rfl rfl rfl rfl (show xS0 L 0 = (11, 0) from rfl) q5.1 ?_
  refine w_getI (pc' := 122) rfl rfl rfl rfl rfl q5.2 ?_
  refine w_putI (pc' := 125) rfl rfl rfl rfl q4.2 ?_
  replace h := h _ rfl
  generalize xu g1 1 2 (g1 51 3) = g2 at h ⊢
  refine w_aload_n (pc' := 126) rfl rfl rfl ?_
  have q6 : xR0 0 0 = some 1 ∧ xS0 L 1 = (10, 0) := (kf_11_0 (show xS0 L 0 = (11, 0) from rfl))
  refine w_getR (pc' := 129) rfl rfl rfl rfl (show xS0 L 0 = (11, 0) from rfl) q6.1 ?_
  refine w_aload_n (pc' := 130) rfl rfl rfl ?_
  have q7 : xR0 0 3 = some 51 ∧ xS0 L 51 = (4, 0) := (kf_11_3 (show xS0 L 0 = (11, 0) from rfl))
  refine w_getR (pc' := 133) rfl rfl rfl rfl (show xS0 L 0 = (11, 0) from rfl) q7.1 ?_
  refine w_getI (pc' := 136) rfl rfl rfl rfl rfl q7.2 ?_
  refine w_putI (pc' := 139) rfl rfl rfl rfl q6.2 ?_
  replace h := h _ rfl
  generalize xu g2 1 3 (g2 51 4) = g3 at h ⊢
  refine w_aload_n (pc' := 140) rfl rfl rfl ?_
  have q8 : xR0 0 3 = some 51 ∧ xS0 L 51 = (4, 0) := (kf_11_3 (show xS0 L 0 = (11, 0) from rfl))
  refine w_getR (pc' := 143) rfl rfl rfl rfl (show xS0 L 0 = (11, 0) from rfl) q8.1 ?_
  refine w_getI (pc' := 146) rfl rfl rfl rfl rfl q8.2 ?_
  refine w_br (pc' := 149) (t := 151) rfl rfl rfl ic_eq (fun hc => ?_) (fun hc => ?_)
  · replace h := h.1 hc
    refine w_aload_n (pc' := 152) rfl rfl rfl ?_
    have q9 : xR0 0 0 = some 1 ∧ xS0 L 1 = (10, 0) := (kf_11_0 (show xS0 L 0 = (11, 0) from rfl))
    refine w_getR (pc' := 155) rfl rfl rfl rfl (show xS0 L 0 = (11, 0) from rfl) q9.1 ?_
    refine w_iload_n (pc' := 156) rfl rfl rfl ?_
    refine w_iload (pc' := 158) rfl rfl rfl ?_
    refine w_aload_n (pc' := 159) rfl rfl rfl ?_
    have q10 : xR0 0 3 = some 51 ∧ xS0 L 51 = (4, 0) := (kf_11_3 (show xS0 L 0 = (11, 0) from rfl))
    refine w_getR (pc' := 162) rfl rfl rfl rfl (show xS0 L 0 = (11, 0) from rfl) q10.1 ?_
    refine w_cv (pc' := 165) (cm := xm_To_put) (as := [.int x1, .int x4, .ref 51]) (a := 1) (rest := []) rfl rfl rfl  (xa_To_put (Nat.le_of_ble_eq_true rfl)) q9.2 rfl (CV.k h fun g4 h => ?_)
    show Wp L xs xm_TP_text 165 [.ref 0, .int x1, .int x2, .int x3, .int x4] [] g4 _
    refine w_iload (pc' := 167) rfl rfl rfl ?_
    exact w_ireturn rfl rfl h
  · replace h := h.2 hc
    refine w_iconst (pc' := 150) rfl rfl (v := (-1)) rfl ?_
    exact w_ireturn rfl rfl h
theorem t_TP_copyAccounts_0 {L : Nat} {xs : Nat → Int32} {x0 : Nat} {nx0 : Nat} {x1 : Nat} {nx1 : Nat} {f : Hp} {Q : Hp → Prop} (qx0 : xS0 L x0 = (20, nx0)) (qx1 : xS0 L x1 = (20, nx1)) (h : 8 ≤ nx0 ∧ 8 ≤ nx1 ∧ ∀ g1, g1 = xuc f x1 (va_cpy (f x0) (f x1) 0 0 8) → Q g1) : CV L xs xm_TP_copyAccounts [.ref x0, .ref x1] f Q := by
  show Wp L xs xm_TP_copyAccounts 0 [.ref x0, .ref x1] [] f (QV Q)
  refine w_aload_n (pc' := 1) rfl rfl rfl ?_
  refine w_iconst (pc' := 2) rfl rfl (v := 0) rfl ?_
  refine w_aload_n (pc' := 3) rfl rfl rfl ?_
  refine w_iconst (pc' := 4) rfl rfl (v := 0) rfl ?_
  refine w_bipush (pc' := 6) rfl rfl (v := 8) rfl ?_
  obtain ⟨q1, h⟩ := h
  obtain ⟨q2, h⟩ := h
  refine w_copy (pc' := 9) rfl rfl rfl qx0 qx1 (Or.inl rfl) (sp := 0) (dp := 0) (c := 8) rfl rfl rfl (by omega) (by omega) (k_len qx0 rfl) (k_len qx1 rfl) (Nat.le_of_ble_eq_true rfl) ?_
  replace h := h _ rfl
  generalize xuc f x1 (va_cpy (f x0) (f x1) 0 0 8) = g1 at h ⊢
  exact w_return rfl rfl h
theorem t_TP_fault_0 {L : Nat} {xs : Nat → Int32} {x1 : Int32} {f : Hp} {Q : Int32 → Hp → Prop}  (h : ((x1 = 0 → Q (f 1 2) f) ∧ (¬ x1 = 0 → ((x1 = 1 → Q (f 1 3) f) ∧ (¬ x1 = 1 → Q (-1) f))))) : CI L xs xm_TP_fault [.ref 0, .int x1] f Q := by
  show Wp L xs xm_TP_fault 0 [.ref 0, .int x1] [] f (QI Q)
  refine w_iload_n (pc' := 1) rfl rfl rfl ?_
  refine w_br (pc' := 4) (t := 12) rfl rfl rfl ic_ne (fun hc => ?_) (fun hc => ?_)
  · replace h := h.2 hc
    refine w_iload_n (pc' := 13) rfl rfl rfl ?_
    refine w_iconst (pc' := 14) rfl rfl (v := 1) rfl ?_
    refine w_br2 (pc' := 17) (t := 27) rfl rfl rfl ic_ne (fun hc => ?_) (fun hc => ?_)
    · replace h := h.2 hc
      refine w_iconst (pc' := 28) rfl rfl (v := (-1)) rfl ?_
      exact w_ireturn rfl rfl h
    · replace h := h.1 (Classical.not_not.mp hc)
      refine w_aload_n (pc' := 18) rfl rfl rfl ?_
      have q1 : xR0 0 0 = some 1 ∧ xS0 L 1 = (10, 0) := (kf_11_0 (show xS0 L 0 = (11, 0) from rfl))
      refine w_getR (pc' := 21) rfl rfl rfl rfl (show xS0 L 0 = (11, 0) from rfl) q1.1 ?_
      refine w_getI (pc' := 24) rfl rfl rfl rfl rfl q1.2 ?_
      refine w_goto (pc' := 28) rfl rfl ?_
      exact w_ireturn rfl rfl h
  · replace h := h.1 (Classical.not_not.mp hc)
    refine w_aload_n (pc' := 5) rfl rfl rfl ?_
    have q2 : xR0 0 0 = some 1 ∧ xS0 L 1 = (10, 0) := (kf_11_0 (show xS0 L 0 = (11, 0) from rfl))
    refine w_getR (pc' := 8) rfl rfl rfl rfl (show xS0 L 0 = (11, 0) from rfl) q2.1 ?_
    refine w_getI (pc' := 11) rfl rfl rfl rfl rfl q2.2 ?_
    exact w_ireturn rfl rfl h
theorem t_TP_council_0 {L : Nat} {xs : Nat → Int32} {x1 : Int32} {x2 : Int32} {f : Hp} {Q : Int32 → Hp → Prop}  (h : CI L xs xm_To_has [.ref 1, .int 0, .int x1] f (fun v1 g1 => ((v1 = 0 → Q (-1) g1) ∧ (¬ v1 = 0 → ∃ k1 : Nat, x1 = iN k1 ∧ k1 < 2 ∧ ((x2 = 0 → Q (g1 (7 + 21 * k1) 0) g1) ∧ (¬ x2 = 0 → ((x2 = 1 → Q (g1 (7 + 21 * k1) 1) g1) ∧ (¬ x2 = 1 → ((x2 = 2 → Q (g1 (7 + 21 * k1) 2) g1) ∧ (¬ x2 = 2 → ((x2 = 3 → Q (g1 (7 + 21 * k1) 3) g1) ∧ (¬ x2 = 3 → ((x2 = 4 → Q (g1 (7 + 21 * k1) 4) g1) ∧ (¬ x2 = 4 → CI L xs xm_Co_detail [.ref (7 + 21 * k1), .int x2] g1 (fun v2 g2 => Q v2 g2))))))))))))))) : CI L xs xm_TP_council [.ref 0, .int x1, .int x2] f Q := by
  show Wp L xs xm_TP_council 0 [.ref 0, .int x1, .int x2, .retAddr 0] [] f (QI Q)
  refine w_aload_n (pc' := 1) rfl rfl rfl ?_
  have q1 : xR0 0 0 = some 1 ∧ xS0 L 1 = (10, 0) := (kf_11_0 (show xS0 L 0 = (11, 0) from rfl))
  refine w_getR (pc' := 4) rfl rfl rfl rfl (show xS0 L 0 = (11, 0) from rfl) q1.1 ?_
  refine w_iconst (pc' := 5) rfl rfl (v := 0) rfl ?_
  refine w_iload_n (pc' := 6) rfl rfl rfl ?_
  refine w_cv (pc' := 9) (cm := xm_To_has) (as := [.int 0, .int x1]) (a := 1) (rest := []) rfl rfl rfl  (xa_To_has (Nat.le_of_ble_eq_true rfl)) q1.2 rfl (CI.k h fun v1 g1 h => ?_)
  show Wp L xs xm_TP_council 9 [.ref 0, .int x1, .int x2, .retAddr 0] [.int v1] g1 _
  refine w_br (pc' := 12) (t := 14) rfl rfl rfl ic_ne (fun hc => ?_) (fun hc => ?_)
  · replace h := h.2 hc
    refine w_aload_n (pc' := 15) rfl rfl rfl ?_
    have q2 : xR0 0 0 = some 1 ∧ xS0 L 1 = (10, 0) := (kf_11_0 (show xS0 L 0 = (11, 0) from rfl))
    refine w_getR (pc' := 18) rfl rfl rfl rfl (show xS0 L 0 = (11, 0) from rfl) q2.1 ?_
    have q3 : xR0 1 5 = some 4 ∧ xS0 L 4 = (26, 2) := (kf_10_5 q2.2)
    refine w_getR (pc' := 21) rfl rfl rfl rfl q2.2 q3.1 ?_
    refine w_iload_n (pc' := 22) rfl rfl rfl ?_
    obtain ⟨k1, ek1, bk1, h⟩ := h
    have q4 : xR0 4 k1 = some (7 + 21 * k1) ∧ xS0 L (7 + 21 * k1) = (1, 0) := ke_26 q3.2 bk1
    refine w_aaload (pc' := 23) (i := k1) rfl rfl q3.2 (by omega) ek1 bk1 (by omega) q4.1 ?_
    refine w_astore_n (pc' := 24) rfl rfl (xl' := [.ref 0, .int x1, .int x2, .ref (7 + 21 * k1)]) rfl ?_
    refine w_iload_n (pc' := 25) rfl rfl rfl ?_
    by_cases hs0 : x2 = 0
    · replace h := h.1 hs0
      refine w_ts (o := 35) (t := 60) rfl (by rw [hs0]; decide) (by rw [hs0]; rfl) rfl ?_
      refine w_aload_n (pc' := 61) rfl rfl rfl ?_
      refine w_getI (pc' := 64) rfl rfl rfl rfl rfl q4.2 ?_
      exact w_ireturn rfl rfl h
    replace h := h.2 hs0
    by_cases hs1 : x2 = 1
    · replace h := h.1 hs1
      refine w_ts (o := 40) (t := 65) rfl (by rw [hs1]; decide) (by rw [hs1]; rfl) rfl ?_
      refine w_aload_n (pc' := 66) rfl rfl rfl ?_
      refine w_getI (pc' := 69) rfl rfl rfl rfl rfl q4.2 ?_
      exact w_ireturn rfl rfl h
    replace h := h.2 hs1
    by_cases hs2 : x2 = 2
    · replace h := h.1 hs2
      refine w_ts (o := 45) (t := 70) rfl (by rw [hs2]; decide) (by rw [hs2]; rfl) rfl ?_
      refine w_aload_n (pc' := 71) rfl rfl rfl ?_
      refine w_getI (pc' := 74) rfl rfl rfl rfl rfl q4.2 ?_
      exact w_ireturn rfl rfl h
    replace h := h.2 hs2
    by_cases hs3 : x2 = 3
    · replace h := h.1 hs3
      refine w_ts (o := 50) (t := 75) rfl (by rw [hs3]; decide) (by rw [hs3]; rfl) rfl ?_
      refine w_aload_n (pc' := 76) rfl rfl rfl ?_
      refine w_getI (pc' := 79) rfl rfl rfl rfl rfl q4.2 ?_
      exact w_ireturn rfl rfl h
    replace h := h.2 hs3
    by_cases hs4 : x2 = 4
    · replace h := h.1 hs4
      refine w_ts (o := 55) (t := 80) rfl (by rw [hs4]; decide) (by rw [hs4]; rfl) rfl ?_
      refine w_aload_n (pc' := 81) rfl rfl rfl ?_
      refine w_getI (pc' := 84) rfl rfl rfl rfl rfl q4.2 ?_
      exact w_ireturn rfl rfl h
    replace h := h.2 hs4
    refine w_tsd (t := 85) rfl ?_ rfl ?_
    · have z0 : (x2).toInt ≠ 0 := fun e => hs0 (Int32.toInt_inj.mp e); have z1 : (x2).toInt ≠ 1 := fun e => hs1 (Int32.toInt_inj.mp e); have z2 : (x2).toInt ≠ 2 := fun e => hs2 (Int32.toInt_inj.mp e); have z3 : (x2).toInt ≠ 3 := fun e => hs3 (Int32.toInt_inj.mp e); have z4 : (x2).toInt ≠ 4 := fun e => hs4 (Int32.toInt_inj.mp e); omega
    refine w_aload_n (pc' := 86) rfl rfl rfl ?_
    refine w_iload_n (pc' := 87) rfl rfl rfl ?_
    refine w_cv (pc' := 90) (cm := xm_Co_detail) (as := [.int x2]) (a := (7 + 21 * k1)) (rest := []) rfl rfl rfl  (xa_Co_detail (Nat.le_of_ble_eq_true rfl)) q4.2 rfl (CI.k h fun v2 g2 h => ?_)
    show Wp L xs xm_TP_council 90 [.ref 0, .int x1, .int x2, .ref (7 + 21 * k1)] [.int v2] g2 _
    exact w_ireturn rfl rfl h
  · replace h := h.1 (Classical.not_not.mp hc)
    refine w_iconst (pc' := 13) rfl rfl (v := (-1)) rfl ?_
    exact w_ireturn rfl rfl h
theorem t_TP_deed_0 {L : Nat} {xs : Nat → Int32} {x1 : Int32} {x2 : Int32} {x3 : Int32} {f : Hp} {Q : Int32 → Hp → Prop}  (h : CI L xs xm_To_has [.ref 1, .int 1, .int x1] f (fun v1 g1 => ((v1 = 0 → Q (-2) g1) ∧ (¬ v1 = 0 → ∃ k1 : Nat, x1 = iN k1 ∧ k1 < 2 ∧ ((x2 = (-1) → ((x3 = 0 → Q (g1 (19 + 21 * k1) 0) g1) ∧ (¬ x3 = 0 → Q (-2) g1))) ∧ (¬ x2 = (-1) → CI L xs xm_Ru_tell [.ref (19 + 21 * k1), .int x2, .int x3] g1 (fun v2 g2 => Q v2 g2))))))) : CI L xs xm_TP_deed [.ref 0, .int x1, .int x2, .int x3] f Q := by
  show Wp L xs xm_TP_deed 0 [.ref 0, .int x1, .int x2, .int x3, .retAddr 0] [] f (QI Q)
  refine w_aload_n (pc' := 1) rfl rfl rfl ?_
  have q1 : xR0 0 0 = some 1 ∧ xS0 L 1 = (10, 0) := (kf_11_0 (show xS0 L 0 = (11, 0) from rfl))
  refine w_getR (pc' := 4) rfl rfl rfl rfl (show xS0 L 0 = (11, 0) from rfl) q1.1 ?_
  refine w_iconst (pc' := 5) rfl rfl (v := 1) rfl ?_
  refine w_iload_n (pc' := 6) rfl rfl rfl ?_
  refine w_cv (pc' := 9) (cm := xm_To_has) (as := [.int 1, .int x1]) (a := 1) (rest := []) rfl rfl rfl  (xa_To_has (Nat.le_of_ble_eq_true rfl)) q1.2 rfl (CI.k h fun v1 g1 h => ?_)
  show Wp L xs xm_TP_deed 9 [.ref 0, .int x1, .int x2, .int x3, .retAddr 0] [.int v1] g1 _
  refine w_br (pc' := 12) (t := 15) rfl rfl rfl ic_ne (fun hc => ?_) (fun hc => ?_)
  · replace h := h.2 hc
    refine w_aload_n (pc' := 16) rfl rfl rfl ?_
    have q2 : xR0 0 0 = some 1 ∧ xS0 L 1 = (10, 0) := (kf_11_0 (show xS0 L 0 = (11, 0) from rfl))
    refine w_getR (pc' := 19) rfl rfl rfl rfl (show xS0 L 0 = (11, 0) from rfl) q2.1 ?_
    have q3 : xR0 1 6 = some 5 ∧ xS0 L 5 = (27, 2) := (kf_10_6 q2.2)
    refine w_getR (pc' := 22) rfl rfl rfl rfl q2.2 q3.1 ?_
    refine w_iload_n (pc' := 23) rfl rfl rfl ?_
    obtain ⟨k1, ek1, bk1, h⟩ := h
    have q4 : xR0 5 k1 = some (19 + 21 * k1) ∧ xS0 L (19 + 21 * k1) = (6, 0) := ke_27 q3.2 bk1
    refine w_aaload (pc' := 24) (i := k1) rfl rfl q3.2 (by omega) ek1 bk1 (by omega) q4.1 ?_
    refine w_astore (pc' := 26) rfl rfl (xl' := [.ref 0, .int x1, .int x2, .int x3, .ref (19 + 21 * k1)]) rfl ?_
    refine w_iload_n (pc' := 27) rfl rfl rfl ?_
    refine w_iconst (pc' := 28) rfl rfl (v := (-1)) rfl ?_
    refine w_br2 (pc' := 31) (t := 46) rfl rfl rfl ic_ne (fun hc => ?_) (fun hc => ?_)
    · replace h := h.2 hc
      refine w_aload (pc' := 48) rfl rfl rfl ?_
      refine w_iload_n (pc' := 49) rfl rfl rfl ?_
      refine w_iload_n (pc' := 50) rfl rfl rfl ?_
      refine w_cv (pc' := 53) (cm := xm_Ru_tell) (as := [.int x2, .int x3]) (a := (19 + 21 * k1)) (rest := []) rfl rfl rfl  (xa_Ru_tell (Nat.le_of_ble_eq_true rfl)) q4.2 rfl (CI.k h fun v2 g2 h => ?_)
      show Wp L xs xm_TP_deed 53 [.ref 0, .int x1, .int x2, .int x3, .ref (19 + 21 * k1)] [.int v2] g2 _
      exact w_ireturn rfl rfl h
    · replace h := h.1 (Classical.not_not.mp hc)
      refine w_iload_n (pc' := 32) rfl rfl rfl ?_
      refine w_br (pc' := 35) (t := 43) rfl rfl rfl ic_ne (fun hc => ?_) (fun hc => ?_)
      · replace h := h.2 hc
        refine w_bipush (pc' := 45) rfl rfl (v := (-2)) rfl ?_
        exact w_ireturn rfl rfl h
      · replace h := h.1 (Classical.not_not.mp hc)
        refine w_aload (pc' := 37) rfl rfl rfl ?_
        refine w_getI (pc' := 40) rfl rfl rfl rfl rfl q4.2 ?_
        refine w_goto (pc' := 45) rfl rfl ?_
        exact w_ireturn rfl rfl h
  · replace h := h.1 (Classical.not_not.mp hc)
    refine w_bipush (pc' := 14) rfl rfl (v := (-2)) rfl ?_
    exact w_ireturn rfl rfl h
theorem t_TP_stop_0 {L : Nat} {xs : Nat → Int32} {x1 : Int32} {x2 : Int32} {f : Hp} {Q : Int32 → Hp → Prop}  (h : CI L xs xm_To_has [.ref 1, .int 0, .int x1] f (fun v1 g1 => ((v1 = 0 → Q (-1) g1) ∧ (¬ v1 = 0 → CI L xs xm_To_has [.ref 1, .int 1, .int x2] g1 (fun v2 g2 => ((v2 = 0 → Q (-1) g2) ∧ (¬ v2 = 0 → ∃ k1 : Nat, x1 = iN k1 ∧ k1 < 2 ∧ ∃ k2 : Nat, x2 = iN k2 ∧ k2 < 2 ∧ CI L xs xm_As_follow [.ref 75, .ref (7 + 21 * k1), .ref (19 + 21 * k2), .int 40] g2 (fun v3 g3 => Q v3 g3)))))))) : CI L xs xm_TP_stop [.ref 0, .int x1, .int x2] f Q := by
  show Wp L xs xm_TP_stop 0 [.ref 0, .int x1, .int x2] [] f (QI Q)
  refine w_aload_n (pc' := 1) rfl rfl rfl ?_
  have q1 : xR0 0 0 = some 1 ∧ xS0 L 1 = (10, 0) := (kf_11_0 (show xS0 L 0 = (11, 0) from rfl))
  refine w_getR (pc' := 4) rfl rfl rfl rfl (show xS0 L 0 = (11, 0) from rfl) q1.1 ?_
  refine w_iconst (pc' := 5) rfl rfl (v := 0) rfl ?_
  refine w_iload_n (pc' := 6) rfl rfl rfl ?_
  refine w_cv (pc' := 9) (cm := xm_To_has) (as := [.int 0, .int x1]) (a := 1) (rest := []) rfl rfl rfl  (xa_To_has (Nat.le_of_ble_eq_true rfl)) q1.2 rfl (CI.k h fun v1 g1 h => ?_)
  show Wp L xs xm_TP_stop 9 [.ref 0, .int x1, .int x2] [.int v1] g1 _
  refine w_br (pc' := 12) (t := 24) rfl rfl rfl ic_eq (fun hc => ?_) (fun hc => ?_)
  · replace h := h.1 hc
    refine w_iconst (pc' := 25) rfl rfl (v := (-1)) rfl ?_
    exact w_ireturn rfl rfl h
  · replace h := h.2 hc
    refine w_aload_n (pc' := 13) rfl rfl rfl ?_
    have q2 : xR0 0 0 = some 1 ∧ xS0 L 1 = (10, 0) := (kf_11_0 (show xS0 L 0 = (11, 0) from rfl))
    refine w_getR (pc' := 16) rfl rfl rfl rfl (show xS0 L 0 = (11, 0) from rfl) q2.1 ?_
    refine w_iconst (pc' := 17) rfl rfl (v := 1) rfl ?_
    refine w_iload_n (pc' := 18) rfl rfl rfl ?_
    refine w_cv (pc' := 21) (cm := xm_To_has) (as := [.int 1, .int x2]) (a := 1) (rest := []) rfl rfl rfl  (xa_To_has (Nat.le_of_ble_eq_true rfl)) q2.2 rfl (CI.k h fun v2 g2 h => ?_)
    show Wp L xs xm_TP_stop 21 [.ref 0, .int x1, .int x2] [.int v2] g2 _
    refine w_br (pc' := 24) (t := 26) rfl rfl rfl ic_ne (fun hc => ?_) (fun hc => ?_)
    · replace h := h.2 hc
      refine w_aload_n (pc' := 27) rfl rfl rfl ?_
      have q3 : xR0 0 4 = some 75 ∧ xS0 L 75 = (0, 0) := (kf_11_4 (show xS0 L 0 = (11, 0) from rfl))
      refine w_getR (pc' := 30) rfl rfl rfl rfl (show xS0 L 0 = (11, 0) from rfl) q3.1 ?_
      refine w_aload_n (pc' := 31) rfl rfl rfl ?_
      have q4 : xR0 0 0 = some 1 ∧ xS0 L 1 = (10, 0) := (kf_11_0 (show xS0 L 0 = (11, 0) from rfl))
      refine w_getR (pc' := 34) rfl rfl rfl rfl (show xS0 L 0 = (11, 0) from rfl) q4.1 ?_
      have q5 : xR0 1 5 = some 4 ∧ xS0 L 4 = (26, 2) := (kf_10_5 q4.2)
      refine w_getR (pc' := 37) rfl rfl rfl rfl q4.2 q5.1 ?_
      refine w_iload_n (pc' := 38) rfl rfl rfl ?_
      obtain ⟨k1, ek1, bk1, h⟩ := h
      have q6 : xR0 4 k1 = some (7 + 21 * k1) ∧ xS0 L (7 + 21 * k1) = (1, 0) := ke_26 q5.2 bk1
      refine w_aaload (pc' := 39) (i := k1) rfl rfl q5.2 (by omega) ek1 bk1 (by omega) q6.1 ?_
      refine w_aload_n (pc' := 40) rfl rfl rfl ?_
      have q7 : xR0 0 0 = some 1 ∧ xS0 L 1 = (10, 0) := (kf_11_0 (show xS0 L 0 = (11, 0) from rfl))
      refine w_getR (pc' := 43) rfl rfl rfl rfl (show xS0 L 0 = (11, 0) from rfl) q7.1 ?_
      have q8 : xR0 1 6 = some 5 ∧ xS0 L 5 = (27, 2) := (kf_10_6 q7.2)
      refine w_getR (pc' := 46) rfl rfl rfl rfl q7.2 q8.1 ?_
      refine w_iload_n (pc' := 47) rfl rfl rfl ?_
      obtain ⟨k2, ek2, bk2, h⟩ := h
      have q9 : xR0 5 k2 = some (19 + 21 * k2) ∧ xS0 L (19 + 21 * k2) = (6, 0) := ke_27 q8.2 bk2
      refine w_aaload (pc' := 48) (i := k2) rfl rfl q8.2 (by omega) ek2 bk2 (by omega) q9.1 ?_
      refine w_bipush (pc' := 50) rfl rfl (v := 40) rfl ?_
      refine w_cv (pc' := 53) (cm := xm_As_follow) (as := [.ref (7 + 21 * k1), .ref (19 + 21 * k2), .int 40]) (a := 75) (rest := []) rfl rfl rfl  (xa_As_follow (Nat.le_of_ble_eq_true rfl)) q3.2 rfl (CI.k h fun v3 g3 h => ?_)
      show Wp L xs xm_TP_stop 53 [.ref 0, .int x1, .int x2] [.int v3] g3 _
      exact w_ireturn rfl rfl h
    · replace h := h.1 (Classical.not_not.mp hc)
      refine w_iconst (pc' := 25) rfl rfl (v := (-1)) rfl ?_
      exact w_ireturn rfl rfl h
theorem t_TP_isPlace_0 {L : Nat} {xs : Nat → Int32} {x0 : Int32} {f : Hp} {Q : Int32 → Hp → Prop}  (h : ((x0 < 1 → Q 0 f) ∧ (¬ x0 < 1 → ((12 < x0 → Q 0 f) ∧ (¬ 12 < x0 → Q 1 f))))) : CI L xs xm_TP_isPlace [.int x0] f Q := by
  show Wp L xs xm_TP_isPlace 0 [.int x0] [] f (QI Q)
  refine w_iload_n (pc' := 1) rfl rfl rfl ?_
  refine w_iconst (pc' := 2) rfl rfl (v := 1) rfl ?_
  refine w_br2 (pc' := 5) (t := 15) rfl rfl rfl ic_lt (fun hc => ?_) (fun hc => ?_)
  · replace h := h.1 hc
    refine w_iconst (pc' := 16) rfl rfl (v := 0) rfl ?_
    exact w_ireturn rfl rfl h
  · replace h := h.2 hc
    refine w_iload_n (pc' := 6) rfl rfl rfl ?_
    refine w_bipush (pc' := 8) rfl rfl (v := 12) rfl ?_
    refine w_br2 (pc' := 11) (t := 15) rfl rfl rfl ic_gt (fun hc => ?_) (fun hc => ?_)
    · replace h := h.1 hc
      refine w_iconst (pc' := 16) rfl rfl (v := 0) rfl ?_
      exact w_ireturn rfl rfl h
    · replace h := h.2 hc
      refine w_iconst (pc' := 12) rfl rfl (v := 1) rfl ?_
      refine w_goto (pc' := 16) rfl rfl ?_
      exact w_ireturn rfl rfl h
theorem t_TP_hasBit_0 {L : Nat} {xs : Nat → Int32} {x0 : Int32} {x1 : Int32} {f : Hp} {Q : Int32 → Hp → Prop}  (h : ((((x0 >>> (x1 &&& 31)) &&& 1) = 0 → Q 0 f) ∧ (¬ ((x0 >>> (x1 &&& 31)) &&& 1) = 0 → Q 1 f))) : CI L xs xm_TP_hasBit [.int x0, .int x1] f Q := by
  show Wp L xs xm_TP_hasBit 0 [.int x0, .int x1] [] f (QI Q)
  refine w_iload_n (pc' := 1) rfl rfl rfl ?_
  refine w_iload_n (pc' := 2) rfl rfl rfl ?_
  refine w_ishr (pc' := 3) rfl rfl ?_
  refine w_iconst (pc' := 4) rfl rfl (v := 1) rfl ?_
  refine w_iand (pc' := 5) rfl rfl ?_
  refine w_br (pc' := 8) (t := 12) rfl rfl rfl ic_eq (fun hc => ?_) (fun hc => ?_)
  · replace h := h.1 hc
    refine w_iconst (pc' := 13) rfl rfl (v := 0) rfl ?_
    exact w_ireturn rfl rfl h
  · replace h := h.2 hc
    refine w_iconst (pc' := 9) rfl rfl (v := 1) rfl ?_
    refine w_goto (pc' := 13) rfl rfl ?_
    exact w_ireturn rfl rfl h
theorem t_TP_state_0 {L : Nat} {xs : Nat → Int32} {x1 : Int32} {x2 : Int32} {x3 : Int32} {x4 : Int32} {x5 : Int32} {f : Hp} {Q : Int32 → Hp → Prop}  (h : CI L xs xm_TP_reaches [.ref 0, .int x1, .int x2, .int x3] f (fun v1 g1 => ((v1 = 0 → Q (-2) g1) ∧ (¬ v1 = 0 → CI L xs xm_As_tell [.ref 75, .int x4, .int x5] g1 (fun v2 g2 => Q v2 g2))))) : CI L xs xm_TP_state [.ref 0, .int x1, .int x2, .int x3, .int x4, .int x5] f Q := by
  show Wp L xs xm_TP_state 0 [.ref 0, .int x1, .int x2, .int x3, .int x4, .int x5] [] f (QI Q)
  refine w_aload_n (pc' := 1) rfl rfl rfl ?_
  refine w_iload_n (pc' := 2) rfl rfl rfl ?_
  refine w_iload_n (pc' := 3) rfl rfl rfl ?_
  refine w_iload_n (pc' := 4) rfl rfl rfl ?_
  refine w_cv (pc' := 7) (cm := xm_TP_reaches) (as := [.int x1, .int x2, .int x3]) (a := 0) (rest := []) rfl rfl rfl  (xa_TP_reaches (Nat.le_of_ble_eq_true rfl)) (show xS0 L 0 = (11, 0) from rfl) rfl (CI.k h fun v1 g1 h => ?_)
  show Wp L xs xm_TP_state 7 [.ref 0, .int x1, .int x2, .int x3, .int x4, .int x5] [.int v1] g1 _
  refine w_br (pc' := 10) (t := 13) rfl rfl rfl ic_ne (fun hc => ?_) (fun hc => ?_)
  · replace h := h.2 hc
    refine w_aload_n (pc' := 14) rfl rfl rfl ?_
    have q1 : xR0 0 4 = some 75 ∧ xS0 L 75 = (0, 0) := (kf_11_4 (show xS0 L 0 = (11, 0) from rfl))
    refine w_getR (pc' := 17) rfl rfl rfl rfl (show xS0 L 0 = (11, 0) from rfl) q1.1 ?_
    refine w_iload (pc' := 19) rfl rfl rfl ?_
    refine w_iload (pc' := 21) rfl rfl rfl ?_
    refine w_cv (pc' := 24) (cm := xm_As_tell) (as := [.int x4, .int x5]) (a := 75) (rest := []) rfl rfl rfl  (xa_As_tell (Nat.le_of_ble_eq_true rfl)) q1.2 rfl (CI.k h fun v2 g2 h => ?_)
    show Wp L xs xm_TP_state 24 [.ref 0, .int x1, .int x2, .int x3, .int x4, .int x5] [.int v2] g2 _
    exact w_ireturn rfl rfl h
  · replace h := h.1 (Classical.not_not.mp hc)
    refine w_bipush (pc' := 12) rfl rfl (v := (-2)) rfl ?_
    exact w_ireturn rfl rfl h
theorem t_TP_reaches_0 {L : Nat} {xs : Nat → Int32} {x1 : Int32} {x2 : Int32} {x3 : Int32} {f : Hp} {Q : Int32 → Hp → Prop}  (h : CI L xs xm_To_has [.ref 1, .int 0, .int x1] f (fun v1 g1 => ((v1 = 0 → Q 0 g1) ∧ (¬ v1 = 0 → CI L xs xm_To_has [.ref 1, .int 1, .int x2] g1 (fun v2 g2 => ((v2 = 0 → Q 0 g2) ∧ (¬ v2 = 0 → ((x3 < 0 → Q 0 g2) ∧ (¬ x3 < 0 → ∃ k1 : Nat, x1 = iN k1 ∧ k1 < 2 ∧ ∃ k2 : Nat, x2 = iN k2 ∧ k2 < 2 ∧ CI L xs xm_As_follow [.ref 75, .ref (7 + 21 * k1), .ref (19 + 21 * k2), .int x3] g2 (fun v3 g3 => ((v3 = x3 → Q 1 g3) ∧ (¬ v3 = x3 → Q 0 g3)))))))))))) : CI L xs xm_TP_reaches [.ref 0, .int x1, .int x2, .int x3] f Q := by
  show Wp L xs xm_TP_reaches 0 [.ref 0, .int x1, .int x2, .int x3] [] f (QI Q)
  refine w_aload_n (pc' := 1) rfl rfl rfl ?_
  have q1 : xR0 0 0 = some 1 ∧ xS0 L 1 = (10, 0) := (kf_11_0 (show xS0 L 0 = (11, 0) from rfl))
  refine w_getR (pc' := 4) rfl rfl rfl rfl (show xS0 L 0 = (11, 0) from rfl) q1.1 ?_
  refine w_iconst (pc' := 5) rfl rfl (v := 0) rfl ?_
  refine w_iload_n (pc' := 6) rfl rfl rfl ?_
  refine w_cv (pc' := 9) (cm := xm_To_has) (as := [.int 0, .int x1]) (a := 1) (rest := []) rfl rfl rfl  (xa_To_has (Nat.le_of_ble_eq_true rfl)) q1.2 rfl (CI.k h fun v1 g1 h => ?_)
  show Wp L xs xm_TP_reaches 9 [.ref 0, .int x1, .int x2, .int x3] [.int v1] g1 _
  refine w_br (pc' := 12) (t := 24) rfl rfl rfl ic_eq (fun hc => ?_) (fun hc => ?_)
  · replace h := h.1 hc
    refine w_iconst (pc' := 25) rfl rfl (v := 0) rfl ?_
    exact w_ireturn rfl rfl h
  · replace h := h.2 hc
    refine w_aload_n (pc' := 13) rfl rfl rfl ?_
    have q2 : xR0 0 0 = some 1 ∧ xS0 L 1 = (10, 0) := (kf_11_0 (show xS0 L 0 = (11, 0) from rfl))
    refine w_getR (pc' := 16) rfl rfl rfl rfl (show xS0 L 0 = (11, 0) from rfl) q2.1 ?_
    refine w_iconst (pc' := 17) rfl rfl (v := 1) rfl ?_
    refine w_iload_n (pc' := 18) rfl rfl rfl ?_
    refine w_cv (pc' := 21) (cm := xm_To_has) (as := [.int 1, .int x2]) (a := 1) (rest := []) rfl rfl rfl  (xa_To_has (Nat.le_of_ble_eq_true rfl)) q2.2 rfl (CI.k h fun v2 g2 h => ?_)
    show Wp L xs xm_TP_reaches 21 [.ref 0, .int x1, .int x2, .int x3] [.int v2] g2 _
    refine w_br (pc' := 24) (t := 26) rfl rfl rfl ic_ne (fun hc => ?_) (fun hc => ?_)
    · replace h := h.2 hc
      refine w_iload_n (pc' := 27) rfl rfl rfl ?_
      refine w_br (pc' := 30) (t := 64) rfl rfl rfl ic_lt (fun hc => ?_) (fun hc => ?_)
      · replace h := h.1 hc
        refine w_iconst (pc' := 65) rfl rfl (v := 0) rfl ?_
        exact w_ireturn rfl rfl h
      · replace h := h.2 hc
        refine w_aload_n (pc' := 31) rfl rfl rfl ?_
        have q3 : xR0 0 4 = some 75 ∧ xS0 L 75 = (0, 0) := (kf_11_4 (show xS0 L 0 = (11, 0) from rfl))
        refine w_getR (pc' := 34) rfl rfl rfl rfl (show xS0 L 0 = (11, 0) from rfl) q3.1 ?_
        refine w_aload_n (pc' := 35) rfl rfl rfl ?_
        have q4 : xR0 0 0 = some 1 ∧ xS0 L 1 = (10, 0) := (kf_11_0 (show xS0 L 0 = (11, 0) from rfl))
        refine w_getR (pc' := 38) rfl rfl rfl rfl (show xS0 L 0 = (11, 0) from rfl) q4.1 ?_
        have q5 : xR0 1 5 = some 4 ∧ xS0 L 4 = (26, 2) := (kf_10_5 q4.2)
        refine w_getR (pc' := 41) rfl rfl rfl rfl q4.2 q5.1 ?_
        refine w_iload_n (pc' := 42) rfl rfl rfl ?_
        obtain ⟨k1, ek1, bk1, h⟩ := h
        have q6 : xR0 4 k1 = some (7 + 21 * k1) ∧ xS0 L (7 + 21 * k1) = (1, 0) := ke_26 q5.2 bk1
        refine w_aaload (pc' := 43) (i := k1) rfl rfl q5.2 (by omega) ek1 bk1 (by omega) q6.1 ?_
        refine w_aload_n (pc' := 44) rfl rfl rfl ?_
        have q7 : xR0 0 0 = some 1 ∧ xS0 L 1 = (10, 0) := (kf_11_0 (show xS0 L 0 = (11, 0) from rfl))
        refine w_getR (pc' := 47) rfl rfl rfl rfl (show xS0 L 0 = (11, 0) from rfl) q7.1 ?_
        have q8 : xR0 1 6 = some 5 ∧ xS0 L 5 = (27, 2) := (kf_10_6 q7.2)
        refine w_getR (pc' := 50) rfl rfl rfl rfl q7.2 q8.1 ?_
        refine w_iload_n (pc' := 51) rfl rfl rfl ?_
        obtain ⟨k2, ek2, bk2, h⟩ := h
        have q9 : xR0 5 k2 = some (19 + 21 * k2) ∧ xS0 L (19 + 21 * k2) = (6, 0) := ke_27 q8.2 bk2
        refine w_aaload (pc' := 52) (i := k2) rfl rfl q8.2 (by omega) ek2 bk2 (by omega) q9.1 ?_
        refine w_iload_n (pc' := 53) rfl rfl rfl ?_
        refine w_cv (pc' := 56) (cm := xm_As_follow) (as := [.ref (7 + 21 * k1), .ref (19 + 21 * k2), .int x3]) (a := 75) (rest := []) rfl rfl rfl  (xa_As_follow (Nat.le_of_ble_eq_true rfl)) q3.2 rfl (CI.k h fun v3 g3 h => ?_)
        show Wp L xs xm_TP_reaches 56 [.ref 0, .int x1, .int x2, .int x3] [.int v3] g3 _
        refine w_iload_n (pc' := 57) rfl rfl rfl ?_
        refine w_br2 (pc' := 60) (t := 64) rfl rfl rfl ic_ne (fun hc => ?_) (fun hc => ?_)
        · replace h := h.2 hc
          refine w_iconst (pc' := 65) rfl rfl (v := 0) rfl ?_
          exact w_ireturn rfl rfl h
        · replace h := h.1 (Classical.not_not.mp hc)
          refine w_iconst (pc' := 61) rfl rfl (v := 1) rfl ?_
          refine w_goto (pc' := 65) rfl rfl ?_
          exact w_ireturn rfl rfl h
    · replace h := h.1 (Classical.not_not.mp hc)
      refine w_iconst (pc' := 25) rfl rfl (v := 0) rfl ?_
      exact w_ireturn rfl rfl h
theorem t_TP_made_0 {L : Nat} {xs : Nat → Int32} {x1 : Int32} {x2 : Int32} {x3 : Int32} {x4 : Int32} {x5 : Int32} {f : Hp} {Q : Int32 → Hp → Prop}  (h : ((x4 < 1 → Q (-2) f) ∧ (¬ x4 < 1 → ((9 < x4 → Q (-2) f) ∧ (¬ 9 < x4 → CI L xs xm_TP_reaches [.ref 0, .int x1, .int x2, .int x3] f (fun v1 g1 => ((v1 = 0 → Q (-2) g1) ∧ (¬ v1 = 0 → ∃ k1 : Nat, x4 = iN k1 ∧ k1 < 10 ∧ ((x5 = 0 → (((g1 (170 + 3 * k1) 0) = 0 → Q 0 g1) ∧ (¬ (g1 (170 + 3 * k1) 0) = 0 → Q 1 g1))) ∧ (¬ x5 = 0 → ((x5 = 1 → Wp L xs xm_TP_made 69 [.ref 0, .int x1, .int x2, .int x3, .int x4, .int x5, .ref (170 + 3 * k1), .retAddr 0] [] g1 (QI Q)) ∧ (¬ x5 = 1 → ((x5 = 2 → Wp L xs xm_TP_made 69 [.ref 0, .int x1, .int x2, .int x3, .int x4, .int x5, .ref (170 + 3 * k1), .retAddr 0] [] g1 (QI Q)) ∧ (¬ x5 = 2 → ((x5 = x5 → CI L xs xm_Mg_isPlaceOf [.int x5] g1 (fun v2 g2 => ((v2 = 0 → Q (-2) g2) ∧ (¬ v2 = 0 → Wp L xs xm_TP_made 95 [.ref 0, .int x1, .int x2, .int x3, .int x4, .int x5, .ref (170 + 3 * k1), .int x5] [] g2 (QI Q))))) ∧ (¬ x5 = x5 → Wp L xs xm_TP_made 95 [.ref 0, .int x1, .int x2, .int x3, .int x4, .int x5, .ref (170 + 3 * k1), .int x5] [] g1 (QI Q))))))))))))))))) : CI L xs xm_TP_made [.ref 0, .int x1, .int x2, .int x3, .int x4, .int x5] f Q := by
  show Wp L xs xm_TP_made 0 [.ref 0, .int x1, .int x2, .int x3, .int x4, .int x5, .retAddr 0, .retAddr 0] [] f (QI Q)
  refine w_iload (pc' := 2) rfl rfl rfl ?_
  refine w_iconst (pc' := 3) rfl rfl (v := 1) rfl ?_
  refine w_br2 (pc' := 6) (t := 23) rfl rfl rfl ic_lt (fun hc => ?_) (fun hc => ?_)
  · replace h := h.1 hc
    refine w_bipush (pc' := 25) rfl rfl (v := (-2)) rfl ?_
    exact w_ireturn rfl rfl h
  · replace h := h.2 hc
    refine w_iload (pc' := 8) rfl rfl rfl ?_
    refine w_bipush (pc' := 10) rfl rfl (v := 9) rfl ?_
    refine w_br2 (pc' := 13) (t := 23) rfl rfl rfl ic_gt (fun hc => ?_) (fun hc => ?_)
    · replace h := h.1 hc
      refine w_bipush (pc' := 25) rfl rfl (v := (-2)) rfl ?_
      exact w_ireturn rfl rfl h
    · replace h := h.2 hc
      refine w_aload_n (pc' := 14) rfl rfl rfl ?_
      refine w_iload_n (pc' := 15) rfl rfl rfl ?_
      refine w_iload_n (pc' := 16) rfl rfl rfl ?_
      refine w_iload_n (pc' := 17) rfl rfl rfl ?_
      refine w_cv (pc' := 20) (cm := xm_TP_reaches) (as := [.int x1, .int x2, .int x3]) (a := 0) (rest := []) rfl rfl rfl  (xa_TP_reaches (Nat.le_of_ble_eq_true rfl)) (show xS0 L 0 = (11, 0) from rfl) rfl (CI.k h fun v1 g1 h => ?_)
      show Wp L xs xm_TP_made 20 [.ref 0, .int x1, .int x2, .int x3, .int x4, .int x5, .retAddr 0, .retAddr 0] [.int v1] g1 _
      refine w_br (pc' := 23) (t := 26) rfl rfl rfl ic_ne (fun hc => ?_) (fun hc => ?_)
      · replace h := h.2 hc
        refine w_aload_n (pc' := 27) rfl rfl rfl ?_
        have q1 : xR0 0 4 = some 75 ∧ xS0 L 75 = (0, 0) := (kf_11_4 (show xS0 L 0 = (11, 0) from rfl))
        refine w_getR (pc' := 30) rfl rfl rfl rfl (show xS0 L 0 = (11, 0) from rfl) q1.1 ?_
        have q2 : xR0 75 0 = some 76 ∧ xS0 L 76 = (23, 10) := (kf_0_0 q1.2)
        refine w_getR (pc' := 33) rfl rfl rfl rfl q1.2 q2.1 ?_
        refine w_iload (pc' := 35) rfl rfl rfl ?_
        obtain ⟨k1, ek1, bk1, h⟩ := h
        have q3 : xR0 76 k1 = some (170 + 3 * k1) ∧ xS0 L (170 + 3 * k1) = (3, 0) := ke_23 q2.2 bk1
        refine w_aaload (pc' := 36) (i := k1) rfl rfl q2.2 (by omega) ek1 bk1 (by omega) q3.1 ?_
        refine w_astore (pc' := 38) rfl rfl (xl' := [.ref 0, .int x1, .int x2, .int x3, .int x4, .int x5, .ref (170 + 3 * k1), .retAddr 0]) rfl ?_
        refine w_iload (pc' := 40) rfl rfl rfl ?_
        refine w_br (pc' := 43) (t := 57) rfl rfl rfl ic_ne (fun hc => ?_) (fun hc => ?_)
        · replace h := h.2 hc
          refine w_iload (pc' := 59) rfl rfl rfl ?_
          refine w_iconst (pc' := 60) rfl rfl (v := 1) rfl ?_
          refine w_br2 (pc' := 63) (t := 69) rfl rfl rfl ic_eq (fun hc => ?_) (fun hc => ?_)
          · replace h := h.1 hc
            exact h
          · replace h := h.2 hc
            refine w_iload (pc' := 65) rfl rfl rfl ?_
            refine w_iconst (pc' := 66) rfl rfl (v := 2) rfl ?_
            refine w_br2 (pc' := 69) (t := 76) rfl rfl rfl ic_ne (fun hc => ?_) (fun hc => ?_)
            · replace h := h.2 hc
              refine w_iload (pc' := 78) rfl rfl rfl ?_
              refine w_istore (pc' := 80) rfl rfl (xl' := [.ref 0, .int x1, .int x2, .int x3, .int x4, .int x5, .ref (170 + 3 * k1), .int x5]) rfl ?_
              refine w_iload (pc' := 82) rfl rfl rfl ?_
              refine w_iload (pc' := 84) rfl rfl rfl ?_
              refine w_br2 (pc' := 87) (t := 95) rfl rfl rfl ic_ne (fun hc => ?_) (fun hc => ?_)
              · replace h := h.2 hc
                exact h
              · replace h := h.1 (Classical.not_not.mp hc)
                refine w_iload (pc' := 89) rfl rfl rfl ?_
                refine w_cs (pc' := 92) (cm := xm_Mg_isPlaceOf) (as := [.int x5]) (rest := []) rfl rfl rfl (Or.inl rfl) (xa_Mg_isPlaceOf (Nat.le_of_ble_eq_true rfl)) (CI.k h fun v2 g2 h => ?_)
                show Wp L xs xm_TP_made 92 [.ref 0, .int x1, .int x2, .int x3, .int x4, .int x5, .ref (170 + 3 * k1), .int x5] [.int v2] g2 _
                refine w_br (pc' := 95) (t := 115) rfl rfl rfl ic_eq (fun hc => ?_) (fun hc => ?_)
                · replace h := h.1 hc
                  refine w_bipush (pc' := 117) rfl rfl (v := (-2)) rfl ?_
                  exact w_ireturn rfl rfl h
                · replace h := h.2 hc
                  exact h
            · replace h := h.1 (Classical.not_not.mp hc)
              exact h
        · replace h := h.1 (Classical.not_not.mp hc)
          refine w_aload (pc' := 45) rfl rfl rfl ?_
          refine w_getI (pc' := 48) rfl rfl rfl rfl rfl q3.2 ?_
          refine w_br (pc' := 51) (t := 55) rfl rfl rfl ic_eq (fun hc => ?_) (fun hc => ?_)
          · replace h := h.1 hc
            refine w_iconst (pc' := 56) rfl rfl (v := 0) rfl ?_
            exact w_ireturn rfl rfl h
          · replace h := h.2 hc
            refine w_iconst (pc' := 52) rfl rfl (v := 1) rfl ?_
            refine w_goto (pc' := 56) rfl rfl ?_
            exact w_ireturn rfl rfl h
      · replace h := h.1 (Classical.not_not.mp hc)
        refine w_bipush (pc' := 25) rfl rfl (v := (-2)) rfl ?_
        exact w_ireturn rfl rfl h
theorem t_TP_made_69 {L : Nat} {xs : Nat → Int32} {x1 : Int32} {x2 : Int32} {x3 : Int32} {x4 : Int32} {x5 : Int32} {x6 : Nat} {f : Hp} {Q : Int32 → Hp → Prop} (qx6 : xS0 L x6 = (3, 0)) (h : (((x5 - 1) = x5 → CI L xs xm_Mg_isPlaceOf [.int x5] f (fun v1 g1 => ((v1 = 0 → Q (-2) g1) ∧ (¬ v1 = 0 → Wp L xs xm_TP_made 95 [.ref 0, .int x1, .int x2, .int x3, .int x4, .int x5, .ref x6, .int (x5 - 1)] [] g1 (QI Q))))) ∧ (¬ (x5 - 1) = x5 → Wp L xs xm_TP_made 95 [.ref 0, .int x1, .int x2, .int x3, .int x4, .int x5, .ref x6, .int (x5 - 1)] [] f (QI Q)))) : Wp L xs xm_TP_made 69 [.ref 0, .int x1, .int x2, .int x3, .int x4, .int x5, .ref x6, .retAddr 0] [] f (QI Q) := by
  refine w_iload (pc' := 71) rfl rfl rfl ?_
  refine w_iconst (pc' := 72) rfl rfl (v := 1) rfl ?_
  refine w_isub (pc' := 73) rfl rfl ?_
  refine w_goto (pc' := 78) rfl rfl ?_
  refine w_istore (pc' := 80) rfl rfl (xl' := [.ref 0, .int x1, .int x2, .int x3, .int x4, .int x5, .ref x6, .int (x5 - 1)]) rfl ?_
  refine w_iload (pc' := 82) rfl rfl rfl ?_
  refine w_iload (pc' := 84) rfl rfl rfl ?_
  refine w_br2 (pc' := 87) (t := 95) rfl rfl rfl ic_ne (fun hc => ?_) (fun hc => ?_)
  · replace h := h.2 hc
    exact h
  · replace h := h.1 (Classical.not_not.mp hc)
    refine w_iload (pc' := 89) rfl rfl rfl ?_
    refine w_cs (pc' := 92) (cm := xm_Mg_isPlaceOf) (as := [.int x5]) (rest := []) rfl rfl rfl (Or.inl rfl) (xa_Mg_isPlaceOf (Nat.le_of_ble_eq_true rfl)) (CI.k h fun v1 g1 h => ?_)
    show Wp L xs xm_TP_made 92 [.ref 0, .int x1, .int x2, .int x3, .int x4, .int x5, .ref x6, .int (x5 - 1)] [.int v1] g1 _
    refine w_br (pc' := 95) (t := 115) rfl rfl rfl ic_eq (fun hc => ?_) (fun hc => ?_)
    · replace h := h.1 hc
      refine w_bipush (pc' := 117) rfl rfl (v := (-2)) rfl ?_
      exact w_ireturn rfl rfl h
    · replace h := h.2 hc
      exact h
theorem t_TP_made_95 {L : Nat} {xs : Nat → Int32} {x1 : Int32} {x2 : Int32} {x3 : Int32} {x4 : Int32} {x5 : Int32} {x6 : Nat} {x7 : Int32} {f : Hp} {Q : Int32 → Hp → Prop} (qx6 : xS0 L x6 = (3, 0)) (h : (((f x6 0) = 0 → Q (-1) f) ∧ (¬ (f x6 0) = 0 → CI L xs xm_Mg_tell [.ref x6, .int x7] f (fun v1 g1 => Q v1 g1)))) : Wp L xs xm_TP_made 95 [.ref 0, .int x1, .int x2, .int x3, .int x4, .int x5, .ref x6, .int x7] [] f (QI Q) := by
  refine w_aload (pc' := 97) rfl rfl rfl ?_
  refine w_getI (pc' := 100) rfl rfl rfl rfl rfl qx6 ?_
  refine w_br (pc' := 103) (t := 113) rfl rfl rfl ic_eq (fun hc => ?_) (fun hc => ?_)
  · replace h := h.1 hc
    refine w_iconst (pc' := 114) rfl rfl (v := (-1)) rfl ?_
    exact w_ireturn rfl rfl h
  · replace h := h.2 hc
    refine w_aload (pc' := 105) rfl rfl rfl ?_
    refine w_iload (pc' := 107) rfl rfl rfl ?_
    refine w_cv (pc' := 110) (cm := xm_Mg_tell) (as := [.int x7]) (a := x6) (rest := []) rfl rfl rfl  (xa_Mg_tell (Nat.le_of_ble_eq_true rfl)) qx6 rfl (CI.k h fun v1 g1 h => ?_)
    show Wp L xs xm_TP_made 110 [.ref 0, .int x1, .int x2, .int x3, .int x4, .int x5, .ref x6, .int x7] [.int v1] g1 _
    refine w_goto (pc' := 114) rfl rfl ?_
    exact w_ireturn rfl rfl h
theorem t_TP_unlike_0 {L : Nat} {xs : Nat → Int32} {x1 : Int32} {x2 : Int32} {x3 : Int32} {f : Hp} {Q : Int32 → Hp → Prop}  (h : CI L xs xm_TP_stop [.ref 0, .int x1, .int x2] f (fun v1 g1 => ((v1 = (-1) → Q (-2) g1) ∧ (¬ v1 = (-1) → ((x3 = 0 → CI L xs xm_As_unlikePlaces [.ref 75] g1 (fun v2 g2 => Q v2 g2)) ∧ (¬ x3 = 0 → ((x3 = 1 → CI L xs xm_As_alikePlaces [.ref 75] g1 (fun v3 g3 => Q v3 g3)) ∧ (¬ x3 = 1 → ((x3 = 2 → CI L xs xm_As_greatestRan [.ref 75] g1 (fun v4 g4 => Q v4 g4)) ∧ (¬ x3 = 2 → ((x3 = 3 → CI L xs xm_As_leastRan [.ref 75] g1 (fun v5 g5 => Q v5 g5)) ∧ (¬ x3 = 3 → Q (-2) g1)))))))))))) : CI L xs xm_TP_unlike [.ref 0, .int x1, .int x2, .int x3] f Q := by
  show Wp L xs xm_TP_unlike 0 [.ref 0, .int x1, .int x2, .int x3] [] f (QI Q)
  refine w_aload_n (pc' := 1) rfl rfl rfl ?_
  refine w_iload_n (pc' := 2) rfl rfl rfl ?_
  refine w_iload_n (pc' := 3) rfl rfl rfl ?_
  refine w_cv (pc' := 6) (cm := xm_TP_stop) (as := [.int x1, .int x2]) (a := 0) (rest := []) rfl rfl rfl  (xa_TP_stop (Nat.le_of_ble_eq_true rfl)) (show xS0 L 0 = (11, 0) from rfl) rfl (CI.k h fun v1 g1 h => ?_)
  show Wp L xs xm_TP_unlike 6 [.ref 0, .int x1, .int x2, .int x3] [.int v1] g1 _
  refine w_iconst (pc' := 7) rfl rfl (v := (-1)) rfl ?_
  refine w_br2 (pc' := 10) (t := 13) rfl rfl rfl ic_ne (fun hc => ?_) (fun hc => ?_)
  · replace h := h.2 hc
    refine w_iload_n (pc' := 14) rfl rfl rfl ?_
    by_cases hs0 : x3 = 0
    · replace h := h.1 hs0
      refine w_ts (o := 30) (t := 44) rfl (by rw [hs0]; decide) (by rw [hs0]; rfl) rfl ?_
      refine w_aload_n (pc' := 45) rfl rfl rfl ?_
      have q1 : xR0 0 4 = some 75 ∧ xS0 L 75 = (0, 0) := (kf_11_4 (show xS0 L 0 = (11, 0) from rfl))
      refine w_getR (pc' := 48) rfl rfl rfl rfl (show xS0 L 0 = (11, 0) from rfl) q1.1 ?_
      refine w_cv (pc' := 51) (cm := xm_As_unlikePlaces) (as := []) (a := 75) (rest := []) rfl rfl rfl  (xa_As_unlikePlaces (Nat.le_of_ble_eq_true rfl)) q1.2 rfl (CI.k h fun v2 g2 h => ?_)
      show Wp L xs xm_TP_unlike 51 [.ref 0, .int x1, .int x2, .int x3] [.int v2] g2 _
      exact w_ireturn rfl rfl h
    replace h := h.2 hs0
    by_cases hs1 : x3 = 1
    · replace h := h.1 hs1
      refine w_ts (o := 38) (t := 52) rfl (by rw [hs1]; decide) (by rw [hs1]; rfl) rfl ?_
      refine w_aload_n (pc' := 53) rfl rfl rfl ?_
      have q2 : xR0 0 4 = some 75 ∧ xS0 L 75 = (0, 0) := (kf_11_4 (show xS0 L 0 = (11, 0) from rfl))
      refine w_getR (pc' := 56) rfl rfl rfl rfl (show xS0 L 0 = (11, 0) from rfl) q2.1 ?_
      refine w_cv (pc' := 59) (cm := xm_As_alikePlaces) (as := []) (a := 75) (rest := []) rfl rfl rfl  (xa_As_alikePlaces (Nat.le_of_ble_eq_true rfl)) q2.2 rfl (CI.k h fun v3 g3 h => ?_)
      show Wp L xs xm_TP_unlike 59 [.ref 0, .int x1, .int x2, .int x3] [.int v3] g3 _
      exact w_ireturn rfl rfl h
    replace h := h.2 hs1
    by_cases hs2 : x3 = 2
    · replace h := h.1 hs2
      refine w_ts (o := 46) (t := 60) rfl (by rw [hs2]; decide) (by rw [hs2]; rfl) rfl ?_
      refine w_aload_n (pc' := 61) rfl rfl rfl ?_
      have q3 : xR0 0 4 = some 75 ∧ xS0 L 75 = (0, 0) := (kf_11_4 (show xS0 L 0 = (11, 0) from rfl))
      refine w_getR (pc' := 64) rfl rfl rfl rfl (show xS0 L 0 = (11, 0) from rfl) q3.1 ?_
      refine w_cv (pc' := 67) (cm := xm_As_greatestRan) (as := []) (a := 75) (rest := []) rfl rfl rfl  (xa_As_greatestRan (Nat.le_of_ble_eq_true rfl)) q3.2 rfl (CI.k h fun v4 g4 h => ?_)
      show Wp L xs xm_TP_unlike 67 [.ref 0, .int x1, .int x2, .int x3] [.int v4] g4 _
      exact w_ireturn rfl rfl h
    replace h := h.2 hs2
    by_cases hs3 : x3 = 3
    · replace h := h.1 hs3
      refine w_ts (o := 54) (t := 68) rfl (by rw [hs3]; decide) (by rw [hs3]; rfl) rfl ?_
      refine w_aload_n (pc' := 69) rfl rfl rfl ?_
      have q4 : xR0 0 4 = some 75 ∧ xS0 L 75 = (0, 0) := (kf_11_4 (show xS0 L 0 = (11, 0) from rfl))
      refine w_getR (pc' := 72) rfl rfl rfl rfl (show xS0 L 0 = (11, 0) from rfl) q4.1 ?_
      refine w_cv (pc' := 75) (cm := xm_As_leastRan) (as := []) (a := 75) (rest := []) rfl rfl rfl  (xa_As_leastRan (Nat.le_of_ble_eq_true rfl)) q4.2 rfl (CI.k h fun v5 g5 h => ?_)
      show Wp L xs xm_TP_unlike 75 [.ref 0, .int x1, .int x2, .int x3] [.int v5] g5 _
      exact w_ireturn rfl rfl h
    replace h := h.2 hs3
    refine w_tsd (t := 76) rfl ?_ rfl ?_
    · have z0 : (x3).toInt ≠ 0 := fun e => hs0 (Int32.toInt_inj.mp e); have z1 : (x3).toInt ≠ 1 := fun e => hs1 (Int32.toInt_inj.mp e); have z2 : (x3).toInt ≠ 2 := fun e => hs2 (Int32.toInt_inj.mp e); have z3 : (x3).toInt ≠ 3 := fun e => hs3 (Int32.toInt_inj.mp e); omega
    refine w_bipush (pc' := 78) rfl rfl (v := (-2)) rfl ?_
    exact w_ireturn rfl rfl h
  · replace h := h.1 (Classical.not_not.mp hc)
    refine w_bipush (pc' := 12) rfl rfl (v := (-2)) rfl ?_
    exact w_ireturn rfl rfl h
theorem t_TP_quorum_0 {L : Nat} {xs : Nat → Int32} {x1 : Int32} {x2 : Int32} {f : Hp} {Q : Int32 → Hp → Prop}  (h : CI L xs xm_To_has [.ref 1, .int 0, .int x1] f (fun v1 g1 => ((v1 = 0 → Q (-2) g1) ∧ (¬ v1 = 0 → ∃ k1 : Nat, x1 = iN k1 ∧ k1 < 2 ∧ ((x2 = 0 → CI L xs xm_Co_quorumSize [.ref (7 + 21 * k1)] g1 (fun v2 g2 => Q v2 g2)) ∧ (¬ x2 = 0 → ((x2 = 1 → CI L xs xm_Co_quorums [.ref (7 + 21 * k1)] g1 (fun v3 g3 => Q v3 g3)) ∧ (¬ x2 = 1 → ((x2 = 2 → CI L xs xm_Co_clashes [.ref (7 + 21 * k1)] g1 (fun v4 g4 => Q v4 g4)) ∧ (¬ x2 = 2 → ((x2 = 3 → CI L xs xm_Co_members [.ref (7 + 21 * k1)] g1 (fun v5 g5 => CI L xs xm_ji_bitCount [.int (g5 (7 + 21 * k1) 3)] g5 (fun v6 g6 => Q (v5 - v6) g6))) ∧ (¬ x2 = 3 → Q (-2) g1)))))))))))) : CI L xs xm_TP_quorum [.ref 0, .int x1, .int x2] f Q := by
  show Wp L xs xm_TP_quorum 0 [.ref 0, .int x1, .int x2, .retAddr 0] [] f (QI Q)
  refine w_aload_n (pc' := 1) rfl rfl rfl ?_
  have q1 : xR0 0 0 = some 1 ∧ xS0 L 1 = (10, 0) := (kf_11_0 (show xS0 L 0 = (11, 0) from rfl))
  refine w_getR (pc' := 4) rfl rfl rfl rfl (show xS0 L 0 = (11, 0) from rfl) q1.1 ?_
  refine w_iconst (pc' := 5) rfl rfl (v := 0) rfl ?_
  refine w_iload_n (pc' := 6) rfl rfl rfl ?_
  refine w_cv (pc' := 9) (cm := xm_To_has) (as := [.int 0, .int x1]) (a := 1) (rest := []) rfl rfl rfl  (xa_To_has (Nat.le_of_ble_eq_true rfl)) q1.2 rfl (CI.k h fun v1 g1 h => ?_)
  show Wp L xs xm_TP_quorum 9 [.ref 0, .int x1, .int x2, .retAddr 0] [.int v1] g1 _
  refine w_br (pc' := 12) (t := 15) rfl rfl rfl ic_ne (fun hc => ?_) (fun hc => ?_)
  · replace h := h.2 hc
    refine w_aload_n (pc' := 16) rfl rfl rfl ?_
    have q2 : xR0 0 0 = some 1 ∧ xS0 L 1 = (10, 0) := (kf_11_0 (show xS0 L 0 = (11, 0) from rfl))
    refine w_getR (pc' := 19) rfl rfl rfl rfl (show xS0 L 0 = (11, 0) from rfl) q2.1 ?_
    have q3 : xR0 1 5 = some 4 ∧ xS0 L 4 = (26, 2) := (kf_10_5 q2.2)
    refine w_getR (pc' := 22) rfl rfl rfl rfl q2.2 q3.1 ?_
    refine w_iload_n (pc' := 23) rfl rfl rfl ?_
    obtain ⟨k1, ek1, bk1, h⟩ := h
    have q4 : xR0 4 k1 = some (7 + 21 * k1) ∧ xS0 L (7 + 21 * k1) = (1, 0) := ke_26 q3.2 bk1
    refine w_aaload (pc' := 24) (i := k1) rfl rfl q3.2 (by omega) ek1 bk1 (by omega) q4.1 ?_
    refine w_astore_n (pc' := 25) rfl rfl (xl' := [.ref 0, .int x1, .int x2, .ref (7 + 21 * k1)]) rfl ?_
    refine w_iload_n (pc' := 26) rfl rfl rfl ?_
    by_cases hs0 : x2 = 0
    · replace h := h.1 hs0
      refine w_ts (o := 30) (t := 56) rfl (by rw [hs0]; decide) (by rw [hs0]; rfl) rfl ?_
      refine w_aload_n (pc' := 57) rfl rfl rfl ?_
      refine w_cv (pc' := 60) (cm := xm_Co_quorumSize) (as := []) (a := (7 + 21 * k1)) (rest := []) rfl rfl rfl  (xa_Co_quorumSize (Nat.le_of_ble_eq_true rfl)) q4.2 rfl (CI.k h fun v2 g2 h => ?_)
      show Wp L xs xm_TP_quorum 60 [.ref 0, .int x1, .int x2, .ref (7 + 21 * k1)] [.int v2] g2 _
      exact w_ireturn rfl rfl h
    replace h := h.2 hs0
    by_cases hs1 : x2 = 1
    · replace h := h.1 hs1
      refine w_ts (o := 35) (t := 61) rfl (by rw [hs1]; decide) (by rw [hs1]; rfl) rfl ?_
      refine w_aload_n (pc' := 62) rfl rfl rfl ?_
      refine w_cv (pc' := 65) (cm := xm_Co_quorums) (as := []) (a := (7 + 21 * k1)) (rest := []) rfl rfl rfl  (xa_Co_quorums (Nat.le_of_ble_eq_true rfl)) q4.2 rfl (CI.k h fun v3 g3 h => ?_)
      show Wp L xs xm_TP_quorum 65 [.ref 0, .int x1, .int x2, .ref (7 + 21 * k1)] [.int v3] g3 _
      exact w_ireturn rfl rfl h
    replace h := h.2 hs1
    by_cases hs2 : x2 = 2
    · replace h := h.1 hs2
      refine w_ts (o := 40) (t := 66) rfl (by rw [hs2]; decide) (by rw [hs2]; rfl) rfl ?_
      refine w_aload_n (pc' := 67) rfl rfl rfl ?_
      refine w_cv (pc' := 70) (cm := xm_Co_clashes) (as := []) (a := (7 + 21 * k1)) (rest := []) rfl rfl rfl  (xa_Co_clashes (Nat.le_of_ble_eq_true rfl)) q4.2 rfl (CI.k h fun v4 g4 h => ?_)
      show Wp L xs xm_TP_quorum 70 [.ref 0, .int x1, .int x2, .ref (7 + 21 * k1)] [.int v4] g4 _
      exact w_ireturn rfl rfl h
    replace h := h.2 hs2
    by_cases hs3 : x2 = 3
    · replace h := h.1 hs3
      refine w_ts (o := 45) (t := 71) rfl (by rw [hs3]; decide) (by rw [hs3]; rfl) rfl ?_
      refine w_aload_n (pc' := 72) rfl rfl rfl ?_
      refine w_cv (pc' := 75) (cm := xm_Co_members) (as := []) (a := (7 + 21 * k1)) (rest := []) rfl rfl rfl  (xa_Co_members (Nat.le_of_ble_eq_true rfl)) q4.2 rfl (CI.k h fun v5 g5 h => ?_)
      show Wp L xs xm_TP_quorum 75 [.ref 0, .int x1, .int x2, .ref (7 + 21 * k1)] [.int v5] g5 _
      refine w_aload_n (pc' := 76) rfl rfl rfl ?_
      refine w_getI (pc' := 79) rfl rfl rfl rfl rfl q4.2 ?_
      refine w_cs (pc' := 82) (cm := xm_ji_bitCount) (as := [.int (g5 (7 + 21 * k1) 3)]) (rest := [.int v5]) rfl rfl rfl (Or.inl rfl) (xa_ji_bitCount (Nat.le_of_ble_eq_true rfl)) (CI.k h fun v6 g6 h => ?_)
      show Wp L xs xm_TP_quorum 82 [.ref 0, .int x1, .int x2, .ref (7 + 21 * k1)] [.int v6, .int v5] g6 _
      refine w_isub (pc' := 83) rfl rfl ?_
      exact w_ireturn rfl rfl h
    replace h := h.2 hs3
    refine w_tsd (t := 84) rfl ?_ rfl ?_
    · have z0 : (x2).toInt ≠ 0 := fun e => hs0 (Int32.toInt_inj.mp e); have z1 : (x2).toInt ≠ 1 := fun e => hs1 (Int32.toInt_inj.mp e); have z2 : (x2).toInt ≠ 2 := fun e => hs2 (Int32.toInt_inj.mp e); have z3 : (x2).toInt ≠ 3 := fun e => hs3 (Int32.toInt_inj.mp e); omega
    refine w_bipush (pc' := 86) rfl rfl (v := (-2)) rfl ?_
    exact w_ireturn rfl rfl h
  · replace h := h.1 (Classical.not_not.mp hc)
    refine w_bipush (pc' := 14) rfl rfl (v := (-2)) rfl ?_
    exact w_ireturn rfl rfl h
theorem t_TP_tree_0 {L : Nat} {xs : Nat → Int32} {x1 : Int32} {x2 : Int32} {f : Hp} {Q : Int32 → Hp → Prop}  (h : CI L xs xm_To_has [.ref 1, .int 0, .int x1] f (fun v1 g1 => ((v1 = 0 → Q (-1) g1) ∧ (¬ v1 = 0 → ((x2 < 1 → Q (-1) g1) ∧ (¬ x2 < 1 → ((x2 < 16 → ∃ k1 : Nat, x1 = iN k1 ∧ k1 < 2 ∧ CV L xs xm_Su_build [.ref (7 + 21 * k1 + 1), .ref 250] g1 (fun g2 => ∃ k2 : Nat, x2 = iN k2 ∧ k2 < 16 ∧ Q (g2 250 k2) g2)) ∧ (¬ x2 < 16 → Q (-1) g1)))))))) : CI L xs xm_TP_tree [.ref 0, .int x1, .int x2] f Q := by
  show Wp L xs xm_TP_tree 0 [.ref 0, .int x1, .int x2] [] f (QI Q)
  refine w_aload_n (pc' := 1) rfl rfl rfl ?_
  have q1 : xR0 0 0 = some 1 ∧ xS0 L 1 = (10, 0) := (kf_11_0 (show xS0 L 0 = (11, 0) from rfl))
  refine w_getR (pc' := 4) rfl rfl rfl rfl (show xS0 L 0 = (11, 0) from rfl) q1.1 ?_
  refine w_iconst (pc' := 5) rfl rfl (v := 0) rfl ?_
  refine w_iload_n (pc' := 6) rfl rfl rfl ?_
  refine w_cv (pc' := 9) (cm := xm_To_has) (as := [.int 0, .int x1]) (a := 1) (rest := []) rfl rfl rfl  (xa_To_has (Nat.le_of_ble_eq_true rfl)) q1.2 rfl (CI.k h fun v1 g1 h => ?_)
  show Wp L xs xm_TP_tree 9 [.ref 0, .int x1, .int x2] [.int v1] g1 _
  refine w_br (pc' := 12) (t := 23) rfl rfl rfl ic_eq (fun hc => ?_) (fun hc => ?_)
  · replace h := h.1 hc
    refine w_iconst (pc' := 24) rfl rfl (v := (-1)) rfl ?_
    exact w_ireturn rfl rfl h
  · replace h := h.2 hc
    refine w_iload_n (pc' := 13) rfl rfl rfl ?_
    refine w_iconst (pc' := 14) rfl rfl (v := 1) rfl ?_
    refine w_br2 (pc' := 17) (t := 23) rfl rfl rfl ic_lt (fun hc => ?_) (fun hc => ?_)
    · replace h := h.1 hc
      refine w_iconst (pc' := 24) rfl rfl (v := (-1)) rfl ?_
      exact w_ireturn rfl rfl h
    · replace h := h.2 hc
      refine w_iload_n (pc' := 18) rfl rfl rfl ?_
      refine w_bipush (pc' := 20) rfl rfl (v := 16) rfl ?_
      refine w_br2 (pc' := 23) (t := 25) rfl rfl rfl ic_lt (fun hc => ?_) (fun hc => ?_)
      · replace h := h.1 hc
        refine w_aload_n (pc' := 26) rfl rfl rfl ?_
        have q2 : xR0 0 0 = some 1 ∧ xS0 L 1 = (10, 0) := (kf_11_0 (show xS0 L 0 = (11, 0) from rfl))
        refine w_getR (pc' := 29) rfl rfl rfl rfl (show xS0 L 0 = (11, 0) from rfl) q2.1 ?_
        have q3 : xR0 1 5 = some 4 ∧ xS0 L 4 = (26, 2) := (kf_10_5 q2.2)
        refine w_getR (pc' := 32) rfl rfl rfl rfl q2.2 q3.1 ?_
        refine w_iload_n (pc' := 33) rfl rfl rfl ?_
        obtain ⟨k1, ek1, bk1, h⟩ := h
        have q4 : xR0 4 k1 = some (7 + 21 * k1) ∧ xS0 L (7 + 21 * k1) = (1, 0) := ke_26 q3.2 bk1
        refine w_aaload (pc' := 34) (i := k1) rfl rfl q3.2 (by omega) ek1 bk1 (by omega) q4.1 ?_
        have q5 : xR0 (7 + 21 * k1) 5 = some (7 + 21 * k1 + 1) ∧ xS0 L (7 + 21 * k1 + 1) = (20, 8) := (kf_1_5 q4.2)
        refine w_getR (pc' := 37) rfl rfl rfl rfl q4.2 q5.1 ?_
        refine w_aload_n (pc' := 38) rfl rfl rfl ?_
        have q6 : xR0 0 7 = some 249 ∧ xS0 L 249 = (7, 0) := (kf_11_7 (show xS0 L 0 = (11, 0) from rfl))
        refine w_getR (pc' := 41) rfl rfl rfl rfl (show xS0 L 0 = (11, 0) from rfl) q6.1 ?_
        have q7 : xR0 249 0 = some 250 ∧ xS0 L 250 = (20, 16) := (kf_7_0 q6.2)
        refine w_getR (pc' := 44) rfl rfl rfl rfl q6.2 q7.1 ?_
        refine w_cs (pc' := 47) (cm := xm_Su_build) (as := [.ref (7 + 21 * k1 + 1), .ref 250]) (rest := []) rfl rfl rfl (Or.inl rfl) (xa_Su_build (Nat.le_of_ble_eq_true rfl)) (CV.k h fun g2 h => ?_)
        show Wp L xs xm_TP_tree 47 [.ref 0, .int x1, .int x2] [] g2 _
        refine w_aload_n (pc' := 48) rfl rfl rfl ?_
        have q8 : xR0 0 7 = some 249 ∧ xS0 L 249 = (7, 0) := (kf_11_7 (show xS0 L 0 = (11, 0) from rfl))
        refine w_getR (pc' := 51) rfl rfl rfl rfl (show xS0 L 0 = (11, 0) from rfl) q8.1 ?_
        have q9 : xR0 249 0 = some 250 ∧ xS0 L 250 = (20, 16) := (kf_7_0 q8.2)
        refine w_getR (pc' := 54) rfl rfl rfl rfl q8.2 q9.1 ?_
        refine w_iload_n (pc' := 55) rfl rfl rfl ?_
        obtain ⟨k2, ek2, bk2, h⟩ := h
        refine w_iaload (pc' := 56) (i := k2) rfl rfl q9.2 ek2 bk2 (by omega) ?_
        exact w_ireturn rfl rfl h
      · replace h := h.2 hc
        refine w_iconst (pc' := 24) rfl rfl (v := (-1)) rfl ?_
        exact w_ireturn rfl rfl h
theorem t_TP_differ_0 {L : Nat} {xs : Nat → Int32} {x1 : Int32} {x2 : Int32} {x3 : Int32} {f : Hp} {Q : Int32 → Hp → Prop}  (h : CI L xs xm_To_has [.ref 1, .int 0, .int x1] f (fun v1 g1 => ((v1 = 0 → Q (-1) g1) ∧ (¬ v1 = 0 → CI L xs xm_To_has [.ref 1, .int 0, .int x2] g1 (fun v2 g2 => ((v2 = 0 → Q (-1) g2) ∧ (¬ v2 = 0 → ∃ k1 : Nat, x1 = iN k1 ∧ k1 < 2 ∧ CV L xs xm_TP_copyAccounts [.ref (7 + 21 * k1 + 1), .ref 255] g2 (fun g3 => ∃ k2 : Nat, x2 = iN k2 ∧ k2 < 2 ∧ CV L xs xm_Su_fetch [.ref 249, .ref 255, .ref (7 + 21 * k2 + 1)] g3 (fun g4 => ((x3 = 0 → Q (g4 249 2) g4) ∧ (¬ x3 = 0 → ((x3 = 1 → Q (g4 249 3) g4) ∧ (¬ x3 = 1 → ((x3 = 2 → CI L xs xm_TP_sameAccounts [.ref 255, .ref (7 + 21 * k2 + 1)] g4 (fun v3 g5 => ((v3 = 0 → Q 0 g5) ∧ (¬ v3 = 0 → Q 1 g5)))) ∧ (¬ x3 = 2 → Q (-1) g4))))))))))))))) : CI L xs xm_TP_differ [.ref 0, .int x1, .int x2, .int x3] f Q := by
  show Wp L xs xm_TP_differ 0 [.ref 0, .int x1, .int x2, .int x3] [] f (QI Q)
  refine w_aload_n (pc' := 1) rfl rfl rfl ?_
  have q1 : xR0 0 0 = some 1 ∧ xS0 L 1 = (10, 0) := (kf_11_0 (show xS0 L 0 = (11, 0) from rfl))
  refine w_getR (pc' := 4) rfl rfl rfl rfl (show xS0 L 0 = (11, 0) from rfl) q1.1 ?_
  refine w_iconst (pc' := 5) rfl rfl (v := 0) rfl ?_
  refine w_iload_n (pc' := 6) rfl rfl rfl ?_
  refine w_cv (pc' := 9) (cm := xm_To_has) (as := [.int 0, .int x1]) (a := 1) (rest := []) rfl rfl rfl  (xa_To_has (Nat.le_of_ble_eq_true rfl)) q1.2 rfl (CI.k h fun v1 g1 h => ?_)
  show Wp L xs xm_TP_differ 9 [.ref 0, .int x1, .int x2, .int x3] [.int v1] g1 _
  refine w_br (pc' := 12) (t := 24) rfl rfl rfl ic_eq (fun hc => ?_) (fun hc => ?_)
  · replace h := h.1 hc
    refine w_iconst (pc' := 25) rfl rfl (v := (-1)) rfl ?_
    exact w_ireturn rfl rfl h
  · replace h := h.2 hc
    refine w_aload_n (pc' := 13) rfl rfl rfl ?_
    have q2 : xR0 0 0 = some 1 ∧ xS0 L 1 = (10, 0) := (kf_11_0 (show xS0 L 0 = (11, 0) from rfl))
    refine w_getR (pc' := 16) rfl rfl rfl rfl (show xS0 L 0 = (11, 0) from rfl) q2.1 ?_
    refine w_iconst (pc' := 17) rfl rfl (v := 0) rfl ?_
    refine w_iload_n (pc' := 18) rfl rfl rfl ?_
    refine w_cv (pc' := 21) (cm := xm_To_has) (as := [.int 0, .int x2]) (a := 1) (rest := []) rfl rfl rfl  (xa_To_has (Nat.le_of_ble_eq_true rfl)) q2.2 rfl (CI.k h fun v2 g2 h => ?_)
    show Wp L xs xm_TP_differ 21 [.ref 0, .int x1, .int x2, .int x3] [.int v2] g2 _
    refine w_br (pc' := 24) (t := 26) rfl rfl rfl ic_ne (fun hc => ?_) (fun hc => ?_)
    · replace h := h.2 hc
      refine w_aload_n (pc' := 27) rfl rfl rfl ?_
      have q3 : xR0 0 0 = some 1 ∧ xS0 L 1 = (10, 0) := (kf_11_0 (show xS0 L 0 = (11, 0) from rfl))
      refine w_getR (pc' := 30) rfl rfl rfl rfl (show xS0 L 0 = (11, 0) from rfl) q3.1 ?_
      have q4 : xR0 1 5 = some 4 ∧ xS0 L 4 = (26, 2) := (kf_10_5 q3.2)
      refine w_getR (pc' := 33) rfl rfl rfl rfl q3.2 q4.1 ?_
      refine w_iload_n (pc' := 34) rfl rfl rfl ?_
      obtain ⟨k1, ek1, bk1, h⟩ := h
      have q5 : xR0 4 k1 = some (7 + 21 * k1) ∧ xS0 L (7 + 21 * k1) = (1, 0) := ke_26 q4.2 bk1
      refine w_aaload (pc' := 35) (i := k1) rfl rfl q4.2 (by omega) ek1 bk1 (by omega) q5.1 ?_
      have q6 : xR0 (7 + 21 * k1) 5 = some (7 + 21 * k1 + 1) ∧ xS0 L (7 + 21 * k1 + 1) = (20, 8) := (kf_1_5 q5.2)
      refine w_getR (pc' := 38) rfl rfl rfl rfl q5.2 q6.1 ?_
      refine w_aload_n (pc' := 39) rfl rfl rfl ?_
      have q7 : xR0 0 9 = some 255 ∧ xS0 L 255 = (20, 8) := (kf_11_9 (show xS0 L 0 = (11, 0) from rfl))
      refine w_getR (pc' := 42) rfl rfl rfl rfl (show xS0 L 0 = (11, 0) from rfl) q7.1 ?_
      refine w_cs (pc' := 45) (cm := xm_TP_copyAccounts) (as := [.ref (7 + 21 * k1 + 1), .ref 255]) (rest := []) rfl rfl rfl (Or.inl rfl) (xa_TP_copyAccounts (Nat.le_of_ble_eq_true rfl)) (CV.k h fun g3 h => ?_)
      show Wp L xs xm_TP_differ 45 [.ref 0, .int x1, .int x2, .int x3] [] g3 _
      refine w_aload_n (pc' := 46) rfl rfl rfl ?_
      have q8 : xR0 0 7 = some 249 ∧ xS0 L 249 = (7, 0) := (kf_11_7 (show xS0 L 0 = (11, 0) from rfl))
      refine w_getR (pc' := 49) rfl rfl rfl rfl (show xS0 L 0 = (11, 0) from rfl) q8.1 ?_
      refine w_aload_n (pc' := 50) rfl rfl rfl ?_
      have q9 : xR0 0 9 = some 255 ∧ xS0 L 255 = (20, 8) := (kf_11_9 (show xS0 L 0 = (11, 0) from rfl))
      refine w_getR (pc' := 53) rfl rfl rfl rfl (show xS0 L 0 = (11, 0) from rfl) q9.1 ?_
      refine w_aload_n (pc' := 54) rfl rfl rfl ?_
      have q10 : xR0 0 0 = some 1 ∧ xS0 L 1 = (10, 0) := (kf_11_0 (show xS0 L 0 = (11, 0) from rfl))
      refine w_getR (pc' := 57) rfl rfl rfl rfl (show xS0 L 0 = (11, 0) from rfl) q10.1 ?_
      have q11 : xR0 1 5 = some 4 ∧ xS0 L 4 = (26, 2) := (kf_10_5 q10.2)
      refine w_getR (pc' := 60) rfl rfl rfl rfl q10.2 q11.1 ?_
      refine w_iload_n (pc' := 61) rfl rfl rfl ?_
      obtain ⟨k2, ek2, bk2, h⟩ := h
      have q12 : xR0 4 k2 = some (7 + 21 * k2) ∧ xS0 L (7 + 21 * k2) = (1, 0) := ke_26 q11.2 bk2
      refine w_aaload (pc' := 62) (i := k2) rfl rfl q11.2 (by omega) ek2 bk2 (by omega) q12.1 ?_
      have q13 : xR0 (7 + 21 * k2) 5 = some (7 + 21 * k2 + 1) ∧ xS0 L (7 + 21 * k2 + 1) = (20, 8) := (kf_1_5 q12.2)
      refine w_getR (pc' := 65) rfl rfl rfl rfl q12.2 q13.1 ?_
      refine w_cv (pc' := 68) (cm := xm_Su_fetch) (as := [.ref 255, .ref (7 + 21 * k2 + 1)]) (a := 249) (rest := []) rfl rfl rfl  (xa_Su_fetch (Nat.le_of_ble_eq_true rfl)) q8.2 rfl (CV.k h fun g4 h => ?_)
      show Wp L xs xm_TP_differ 68 [.ref 0, .int x1, .int x2, .int x3] [] g4 _
      refine w_iload_n (pc' := 69) rfl rfl rfl ?_
      by_cases hs0 : x3 = 0
      · replace h := h.1 hs0
        refine w_ts (o := 27) (t := 96) rfl (by rw [hs0]; decide) (by rw [hs0]; rfl) rfl ?_
        refine w_aload_n (pc' := 97) rfl rfl rfl ?_
        have q14 : xR0 0 7 = some 249 ∧ xS0 L 249 = (7, 0) := (kf_11_7 (show xS0 L 0 = (11, 0) from rfl))
        refine w_getR (pc' := 100) rfl rfl rfl rfl (show xS0 L 0 = (11, 0) from rfl) q14.1 ?_
        refine w_getI (pc' := 103) rfl rfl rfl rfl rfl q14.2 ?_
        exact w_ireturn rfl rfl h
      replace h := h.2 hs0
      by_cases hs1 : x3 = 1
      · replace h := h.1 hs1
        refine w_ts (o := 35) (t := 104) rfl (by rw [hs1]; decide) (by rw [hs1]; rfl) rfl ?_
        refine w_aload_n (pc' := 105) rfl rfl rfl ?_
        have q15 : xR0 0 7 = some 249 ∧ xS0 L 249 = (7, 0) := (kf_11_7 (show xS0 L 0 = (11, 0) from rfl))
        refine w_getR (pc' := 108) rfl rfl rfl rfl (show xS0 L 0 = (11, 0) from rfl) q15.1 ?_
        refine w_getI (pc' := 111) rfl rfl rfl rfl rfl q15.2 ?_
        exact w_ireturn rfl rfl h
      replace h := h.2 hs1
      by_cases hs2 : x3 = 2
      · replace h := h.1 hs2
        refine w_ts (o := 43) (t := 112) rfl (by rw [hs2]; decide) (by rw [hs2]; rfl) rfl ?_
        refine w_aload_n (pc' := 113) rfl rfl rfl ?_
        have q16 : xR0 0 9 = some 255 ∧ xS0 L 255 = (20, 8) := (kf_11_9 (show xS0 L 0 = (11, 0) from rfl))
        refine w_getR (pc' := 116) rfl rfl rfl rfl (show xS0 L 0 = (11, 0) from rfl) q16.1 ?_
        refine w_aload_n (pc' := 117) rfl rfl rfl ?_
        have q17 : xR0 0 0 = some 1 ∧ xS0 L 1 = (10, 0) := (kf_11_0 (show xS0 L 0 = (11, 0) from rfl))
        refine w_getR (pc' := 120) rfl rfl rfl rfl (show xS0 L 0 = (11, 0) from rfl) q17.1 ?_
        have q18 : xR0 1 5 = some 4 ∧ xS0 L 4 = (26, 2) := (kf_10_5 q17.2)
        refine w_getR (pc' := 123) rfl rfl rfl rfl q17.2 q18.1 ?_
        refine w_iload_n (pc' := 124) rfl rfl rfl ?_
        have q19 : xR0 4 k2 = some (7 + 21 * k2) ∧ xS0 L (7 + 21 * k2) = (1, 0) := ke_26 q18.2 bk2
        refine w_aaload (pc' := 125) (i := k2) rfl rfl q18.2 (by omega) ek2 bk2 (by omega) q19.1 ?_
        have q20 : xR0 (7 + 21 * k2) 5 = some (7 + 21 * k2 + 1) ∧ xS0 L (7 + 21 * k2 + 1) = (20, 8) := (kf_1_5 q19.2)
        refine w_getR (pc' := 128) rfl rfl rfl rfl q19.2 q20.1 ?_
        refine w_cs (pc' := 131) (cm := xm_TP_sameAccounts) (as := [.ref 255, .ref (7 + 21 * k2 + 1)]) (rest := []) rfl rfl rfl (Or.inl rfl) (xa_TP_sameAccounts (Nat.le_of_ble_eq_true rfl)) (CI.k h fun v3 g5 h => ?_)
        show Wp L xs xm_TP_differ 131 [.ref 0, .int x1, .int x2, .int x3] [.int v3] g5 _
        refine w_br (pc' := 134) (t := 138) rfl rfl rfl ic_eq (fun hc => ?_) (fun hc => ?_)
        · replace h := h.1 hc
          refine w_iconst (pc' := 139) rfl rfl (v := 0) rfl ?_
          exact w_ireturn rfl rfl h
        · replace h := h.2 hc
          refine w_iconst (pc' := 135) rfl rfl (v := 1) rfl ?_
          refine w_goto (pc' := 139) rfl rfl ?_
          exact w_ireturn rfl rfl h
      replace h := h.2 hs2
      refine w_tsd (t := 140) rfl ?_ rfl ?_
      · have z0 : (x3).toInt ≠ 0 := fun e => hs0 (Int32.toInt_inj.mp e); have z1 : (x3).toInt ≠ 1 := fun e => hs1 (Int32.toInt_inj.mp e); have z2 : (x3).toInt ≠ 2 := fun e => hs2 (Int32.toInt_inj.mp e); omega
      refine w_iconst (pc' := 141) rfl rfl (v := (-1)) rfl ?_
      exact w_ireturn rfl rfl h
    · replace h := h.1 (Classical.not_not.mp hc)
      refine w_iconst (pc' := 25) rfl rfl (v := (-1)) rfl ?_
      exact w_ireturn rfl rfl h
theorem t_TP_sameAccounts_0 {L : Nat} {xs : Nat → Int32} {x0 : Nat} {nx0 : Nat} {x1 : Nat} {nx1 : Nat} {f : Hp} {Q : Int32 → Hp → Prop} (qx0 : xS0 L x0 = (20, nx0)) (qx1 : xS0 L x1 = (20, nx1)) (h : Wp L xs xm_TP_sameAccounts 2 [.ref x0, .ref x1, .int 0] [] f (QI Q)) : CI L xs xm_TP_sameAccounts [.ref x0, .ref x1] f Q := by
  show Wp L xs xm_TP_sameAccounts 0 [.ref x0, .ref x1, .retAddr 0] [] f (QI Q)
  refine w_iconst (pc' := 1) rfl rfl (v := 0) rfl ?_
  refine w_istore_n (pc' := 2) rfl rfl (xl' := [.ref x0, .ref x1, .int 0]) rfl ?_
  exact h
theorem t_TP_sameAccounts_2 {L : Nat} {xs : Nat → Int32} {x0 : Nat} {nx0 : Nat} {x1 : Nat} {nx1 : Nat} {x2 : Int32} {f : Hp} {Q : Int32 → Hp → Prop} (qx0 : xS0 L x0 = (20, nx0)) (qx1 : xS0 L x1 = (20, nx1)) (h : ((x2 < 8 → ∃ k1 : Nat, x2 = iN k1 ∧ k1 < nx0 ∧ k1 < nx1 ∧ (((f x0 k1) = (f x1 k1) → Wp L xs xm_TP_sameAccounts 2 [.ref x0, .ref x1, .int (x2 + 1)] [] f (QI Q)) ∧ (¬ (f x0 k1) = (f x1 k1) → Q 0 f))) ∧ (¬ x2 < 8 → Q 1 f))) : Wp L xs xm_TP_sameAccounts 2 [.ref x0, .ref x1, .int x2] [] f (QI Q) := by
  refine w_iload_n (pc' := 3) rfl rfl rfl ?_
  refine w_bipush (pc' := 5) rfl rfl (v := 8) rfl ?_
  refine w_br2 (pc' := 8) (t := 25) rfl rfl rfl ic_ge (fun hc => ?_) (fun hc => ?_)
  · replace h := h.2 hc
    refine w_iconst (pc' := 26) rfl rfl (v := 1) rfl ?_
    exact w_ireturn rfl rfl h
  · replace h := h.1 (Classical.not_not.mp hc)
    refine w_aload_n (pc' := 9) rfl rfl rfl ?_
    refine w_iload_n (pc' := 10) rfl rfl rfl ?_
    obtain ⟨k1, ek1, bk1, h⟩ := h
    refine w_iaload (pc' := 11) (i := k1) rfl rfl qx0 ek1 bk1 (k_len qx0 rfl) ?_
    refine w_aload_n (pc' := 12) rfl rfl rfl ?_
    refine w_iload_n (pc' := 13) rfl rfl rfl ?_
    obtain ⟨q1, h⟩ := h
    refine w_iaload (pc' := 14) (i := k1) rfl rfl qx1 ek1 q1 (k_len qx1 rfl) ?_
    refine w_br2 (pc' := 17) (t := 19) rfl rfl rfl ic_eq (fun hc => ?_) (fun hc => ?_)
    · replace h := h.1 hc
      refine w_iinc (pc' := 22) rfl rfl rfl (v := (x2 + 1)) rfl (xl' := [.ref x0, .ref x1, .int (x2 + 1)]) rfl ?_
      refine w_goto (pc' := 2) rfl rfl ?_
      exact h
    · replace h := h.2 hc
      refine w_iconst (pc' := 18) rfl rfl (v := 0) rfl ?_
      exact w_ireturn rfl rfl h
theorem t_TP_play_0 {L : Nat} {xs : Nat → Int32} {x1 : Int32} {x2 : Int32} {x3 : Int32} {x4 : Int32} {f : Hp} {Q : Int32 → Hp → Prop}  (h : CI L xs xm_To_has [.ref 1, .int 0, .int x1] f (fun v1 g1 => ((v1 = 0 → Q (-1) g1) ∧ (¬ v1 = 0 → ((x3 < 1 → Q (-1) g1) ∧ (¬ x3 < 1 → ((10 < x3 → Q (-1) g1) ∧ (¬ 10 < x3 → ∃ k1 : Nat, x1 = iN k1 ∧ k1 < 2 ∧ CI L xs xm_Co_has [.ref (7 + 21 * k1), .int x2] g1 (fun v2 g2 => ((v2 = 0 → Q (-1) g2) ∧ (¬ v2 = 0 → CV L xs xm_Tt_plan [.ref 200, .ref (7 + 21 * k1), .int (g2 (7 + 21 * k1) 1), .int (g2 (7 + 21 * k1) 3)] g2 (fun g3 => ((x4 = 0 → ∃ k2 : Nat, x2 = iN k2 ∧ k2 < 7 ∧ ∃ k3 : Nat, x3 = iN k3 ∧ k3 < 11 ∧ (((g3 (202 + k2) k3) = 1000000 → Q (-1) g3) ∧ (¬ (g3 (202 + k2) k3) = 1000000 → Q (g3 (202 + k2) k3) g3))) ∧ (¬ x4 = 0 → CI L xs xm_Tt_lowAt [.ref 200, .int x2, .int x3] g3 (fun v3 g4 => ((v3 = 1000000 → Q (-1) g4) ∧ (¬ v3 = 1000000 → Q v3 g4))))))))))))))))) : CI L xs xm_TP_play [.ref 0, .int x1, .int x2, .int x3, .int x4] f Q := by
  show Wp L xs xm_TP_play 0 [.ref 0, .int x1, .int x2, .int x3, .int x4, .retAddr 0, .retAddr 0] [] f (QI Q)
  refine w_aload_n (pc' := 1) rfl rfl rfl ?_
  have q1 : xR0 0 0 = some 1 ∧ xS0 L 1 = (10, 0) := (kf_11_0 (show xS0 L 0 = (11, 0) from rfl))
  refine w_getR (pc' := 4) rfl rfl rfl rfl (show xS0 L 0 = (11, 0) from rfl) q1.1 ?_
  refine w_iconst (pc' := 5) rfl rfl (v := 0) rfl ?_
  refine w_iload_n (pc' := 6) rfl rfl rfl ?_
  refine w_cv (pc' := 9) (cm := xm_To_has) (as := [.int 0, .int x1]) (a := 1) (rest := []) rfl rfl rfl  (xa_To_has (Nat.le_of_ble_eq_true rfl)) q1.2 rfl (CI.k h fun v1 g1 h => ?_)
  show Wp L xs xm_TP_play 9 [.ref 0, .int x1, .int x2, .int x3, .int x4, .retAddr 0, .retAddr 0] [.int v1] g1 _
  refine w_br (pc' := 12) (t := 23) rfl rfl rfl ic_eq (fun hc => ?_) (fun hc => ?_)
  · replace h := h.1 hc
    refine w_iconst (pc' := 24) rfl rfl (v := (-1)) rfl ?_
    exact w_ireturn rfl rfl h
  · replace h := h.2 hc
    refine w_iload_n (pc' := 13) rfl rfl rfl ?_
    refine w_iconst (pc' := 14) rfl rfl (v := 1) rfl ?_
    refine w_br2 (pc' := 17) (t := 23) rfl rfl rfl ic_lt (fun hc => ?_) (fun hc => ?_)
    · replace h := h.1 hc
      refine w_iconst (pc' := 24) rfl rfl (v := (-1)) rfl ?_
      exact w_ireturn rfl rfl h
    · replace h := h.2 hc
      refine w_iload_n (pc' := 18) rfl rfl rfl ?_
      refine w_bipush (pc' := 20) rfl rfl (v := 10) rfl ?_
      refine w_br2 (pc' := 23) (t := 25) rfl rfl rfl ic_le (fun hc => ?_) (fun hc => ?_)
      · replace h := h.2 hc
        refine w_aload_n (pc' := 26) rfl rfl rfl ?_
        have q2 : xR0 0 0 = some 1 ∧ xS0 L 1 = (10, 0) := (kf_11_0 (show xS0 L 0 = (11, 0) from rfl))
        refine w_getR (pc' := 29) rfl rfl rfl rfl (show xS0 L 0 = (11, 0) from rfl) q2.1 ?_
        have q3 : xR0 1 5 = some 4 ∧ xS0 L 4 = (26, 2) := (kf_10_5 q2.2)
        refine w_getR (pc' := 32) rfl rfl rfl rfl q2.2 q3.1 ?_
        refine w_iload_n (pc' := 33) rfl rfl rfl ?_
        obtain ⟨k1, ek1, bk1, h⟩ := h
        have q4 : xR0 4 k1 = some (7 + 21 * k1) ∧ xS0 L (7 + 21 * k1) = (1, 0) := ke_26 q3.2 bk1
        refine w_aaload (pc' := 34) (i := k1) rfl rfl q3.2 (by omega) ek1 bk1 (by omega) q4.1 ?_
        refine w_astore (pc' := 36) rfl rfl (xl' := [.ref 0, .int x1, .int x2, .int x3, .int x4, .ref (7 + 21 * k1), .retAddr 0]) rfl ?_
        refine w_aload (pc' := 38) rfl rfl rfl ?_
        refine w_iload_n (pc' := 39) rfl rfl rfl ?_
        refine w_cv (pc' := 42) (cm := xm_Co_has) (as := [.int x2]) (a := (7 + 21 * k1)) (rest := []) rfl rfl rfl  (xa_Co_has (Nat.le_of_ble_eq_true rfl)) q4.2 rfl (CI.k h fun v2 g2 h => ?_)
        show Wp L xs xm_TP_play 42 [.ref 0, .int x1, .int x2, .int x3, .int x4, .ref (7 + 21 * k1), .retAddr 0] [.int v2] g2 _
        refine w_br (pc' := 45) (t := 47) rfl rfl rfl ic_ne (fun hc => ?_) (fun hc => ?_)
        · replace h := h.2 hc
          refine w_aload_n (pc' := 48) rfl rfl rfl ?_
          have q5 : xR0 0 5 = some 200 ∧ xS0 L 200 = (9, 0) := (kf_11_5 (show xS0 L 0 = (11, 0) from rfl))
          refine w_getR (pc' := 51) rfl rfl rfl rfl (show xS0 L 0 = (11, 0) from rfl) q5.1 ?_
          refine w_aload (pc' := 53) rfl rfl rfl ?_
          refine w_aload (pc' := 55) rfl rfl rfl ?_
          refine w_getI (pc' := 58) rfl rfl rfl rfl rfl q4.2 ?_
          refine w_aload (pc' := 60) rfl rfl rfl ?_
          refine w_getI (pc' := 63) rfl rfl rfl rfl rfl q4.2 ?_
          refine w_cv (pc' := 66) (cm := xm_Tt_plan) (as := [.ref (7 + 21 * k1), .int (g2 (7 + 21 * k1) 1), .int (g2 (7 + 21 * k1) 3)]) (a := 200) (rest := []) rfl rfl rfl  (xa_Tt_plan (Nat.le_of_ble_eq_true rfl)) q5.2 rfl (CV.k h fun g3 h => ?_)
          show Wp L xs xm_TP_play 66 [.ref 0, .int x1, .int x2, .int x3, .int x4, .ref (7 + 21 * k1), .retAddr 0] [] g3 _
          refine w_iload (pc' := 68) rfl rfl rfl ?_
          refine w_br (pc' := 71) (t := 83) rfl rfl rfl ic_eq (fun hc => ?_) (fun hc => ?_)
          · replace h := h.1 hc
            refine w_aload_n (pc' := 84) rfl rfl rfl ?_
            have q6 : xR0 0 5 = some 200 ∧ xS0 L 200 = (9, 0) := (kf_11_5 (show xS0 L 0 = (11, 0) from rfl))
            refine w_getR (pc' := 87) rfl rfl rfl rfl (show xS0 L 0 = (11, 0) from rfl) q6.1 ?_
            have q7 : xR0 200 0 = some 201 ∧ kG L 201 11 := (kf_9_0 q6.2)
            refine w_getR (pc' := 90) rfl rfl rfl rfl q6.2 q7.1 ?_
            refine w_iload_n (pc' := 91) rfl rfl rfl ?_
            obtain ⟨k2, ek2, bk2, h⟩ := h
            have q8 : xR0 201 k2 = some (202 + k2) ∧ xS0 L (202 + k2) = (20, 11) := q7.2.2 k2 bk2
            refine w_aaload (pc' := 92) (i := k2) rfl rfl q7.2.1 (by omega) ek2 bk2 (by omega) q8.1 ?_
            refine w_iload_n (pc' := 93) rfl rfl rfl ?_
            obtain ⟨k3, ek3, bk3, h⟩ := h
            refine w_iaload (pc' := 94) (i := k3) rfl rfl q8.2 ek3 bk3 (by omega) ?_
            refine w_istore (pc' := 96) rfl rfl (xl' := [.ref 0, .int x1, .int x2, .int x3, .int x4, .ref (7 + 21 * k1), .int (g3 (202 + k2) k3)]) rfl ?_
            refine w_iload (pc' := 98) rfl rfl rfl ?_
            refine w_ldc (pc' := 100) rfl rfl (v := 1000000) rfl ?_
            refine w_br2 (pc' := 103) (t := 107) rfl rfl rfl ic_ne (fun hc => ?_) (fun hc => ?_)
            · replace h := h.2 hc
              refine w_iload (pc' := 109) rfl rfl rfl ?_
              exact w_ireturn rfl rfl h
            · replace h := h.1 (Classical.not_not.mp hc)
              refine w_iconst (pc' := 104) rfl rfl (v := (-1)) rfl ?_
              refine w_goto (pc' := 109) rfl rfl ?_
              exact w_ireturn rfl rfl h
          · replace h := h.2 hc
            refine w_aload_n (pc' := 72) rfl rfl rfl ?_
            have q9 : xR0 0 5 = some 200 ∧ xS0 L 200 = (9, 0) := (kf_11_5 (show xS0 L 0 = (11, 0) from rfl))
            refine w_getR (pc' := 75) rfl rfl rfl rfl (show xS0 L 0 = (11, 0) from rfl) q9.1 ?_
            refine w_iload_n (pc' := 76) rfl rfl rfl ?_
            refine w_iload_n (pc' := 77) rfl rfl rfl ?_
            refine w_cv (pc' := 80) (cm := xm_Tt_lowAt) (as := [.int x2, .int x3]) (a := 200) (rest := []) rfl rfl rfl  (xa_Tt_lowAt (Nat.le_of_ble_eq_true rfl)) q9.2 rfl (CI.k h fun v3 g4 h => ?_)
            show Wp L xs xm_TP_play 80 [.ref 0, .int x1, .int x2, .int x3, .int x4, .ref (7 + 21 * k1), .retAddr 0] [.int v3] g4 _
            refine w_goto (pc' := 94) rfl rfl ?_
            refine w_istore (pc' := 96) rfl rfl (xl' := [.ref 0, .int x1, .int x2, .int x3, .int x4, .ref (7 + 21 * k1), .int v3]) rfl ?_
            refine w_iload (pc' := 98) rfl rfl rfl ?_
            refine w_ldc (pc' := 100) rfl rfl (v := 1000000) rfl ?_
            refine w_br2 (pc' := 103) (t := 107) rfl rfl rfl ic_ne (fun hc => ?_) (fun hc => ?_)
            · replace h := h.2 hc
              refine w_iload (pc' := 109) rfl rfl rfl ?_
              exact w_ireturn rfl rfl h
            · replace h := h.1 (Classical.not_not.mp hc)
              refine w_iconst (pc' := 104) rfl rfl (v := (-1)) rfl ?_
              refine w_goto (pc' := 109) rfl rfl ?_
              exact w_ireturn rfl rfl h
        · replace h := h.1 (Classical.not_not.mp hc)
          refine w_iconst (pc' := 46) rfl rfl (v := (-1)) rfl ?_
          exact w_ireturn rfl rfl h
      · replace h := h.1 (Classical.not_not.mp hc)
        refine w_iconst (pc' := 24) rfl rfl (v := (-1)) rfl ?_
        exact w_ireturn rfl rfl h
theorem t_TP_reply_0 {L : Nat} {xs : Nat → Int32} {x1 : Int32} {x2 : Int32} {x3 : Int32} {f : Hp} {Q : Int32 → Hp → Prop}  (h : CI L xs xm_To_has [.ref 1, .int 2, .int x1] f (fun v1 g1 => ((v1 = 0 → Q (-2) g1) ∧ (¬ v1 = 0 → ∃ k1 : Nat, x1 = iN k1 ∧ k1 < 2 ∧ ((x2 = (-1) → ((x3 = 0 → Q (g1 (24 + 21 * k1) 0) g1) ∧ (¬ x3 = 0 → Q (-2) g1))) ∧ (¬ x2 = (-1) → CI L xs xm_Rp_tell [.ref (24 + 21 * k1), .int x2, .int x3] g1 (fun v2 g2 => Q v2 g2))))))) : CI L xs xm_TP_reply [.ref 0, .int x1, .int x2, .int x3] f Q := by
  show Wp L xs xm_TP_reply 0 [.ref 0, .int x1, .int x2, .int x3, .retAddr 0] [] f (QI Q)
  refine w_aload_n (pc' := 1) rfl rfl rfl ?_
  have q1 : xR0 0 0 = some 1 ∧ xS0 L 1 = (10, 0) := (kf_11_0 (show xS0 L 0 = (11, 0) from rfl))
  refine w_getR (pc' := 4) rfl rfl rfl rfl (show xS0 L 0 = (11, 0) from rfl) q1.1 ?_
  refine w_iconst (pc' := 5) rfl rfl (v := 2) rfl ?_
  refine w_iload_n (pc' := 6) rfl rfl rfl ?_
  refine w_cv (pc' := 9) (cm := xm_To_has) (as := [.int 2, .int x1]) (a := 1) (rest := []) rfl rfl rfl  (xa_To_has (Nat.le_of_ble_eq_true rfl)) q1.2 rfl (CI.k h fun v1 g1 h => ?_)
  show Wp L xs xm_TP_reply 9 [.ref 0, .int x1, .int x2, .int x3, .retAddr 0] [.int v1] g1 _
  refine w_br (pc' := 12) (t := 15) rfl rfl rfl ic_ne (fun hc => ?_) (fun hc => ?_)
  · replace h := h.2 hc
    refine w_aload_n (pc' := 16) rfl rfl rfl ?_
    have q2 : xR0 0 0 = some 1 ∧ xS0 L 1 = (10, 0) := (kf_11_0 (show xS0 L 0 = (11, 0) from rfl))
    refine w_getR (pc' := 19) rfl rfl rfl rfl (show xS0 L 0 = (11, 0) from rfl) q2.1 ?_
    have q3 : xR0 1 7 = some 6 ∧ xS0 L 6 = (28, 2) := (kf_10_7 q2.2)
    refine w_getR (pc' := 22) rfl rfl rfl rfl q2.2 q3.1 ?_
    refine w_iload_n (pc' := 23) rfl rfl rfl ?_
    obtain ⟨k1, ek1, bk1, h⟩ := h
    have q4 : xR0 6 k1 = some (24 + 21 * k1) ∧ xS0 L (24 + 21 * k1) = (5, 0) := ke_28 q3.2 bk1
    refine w_aaload (pc' := 24) (i := k1) rfl rfl q3.2 (by omega) ek1 bk1 (by omega) q4.1 ?_
    refine w_astore (pc' := 26) rfl rfl (xl' := [.ref 0, .int x1, .int x2, .int x3, .ref (24 + 21 * k1)]) rfl ?_
    refine w_iload_n (pc' := 27) rfl rfl rfl ?_
    refine w_iconst (pc' := 28) rfl rfl (v := (-1)) rfl ?_
    refine w_br2 (pc' := 31) (t := 46) rfl rfl rfl ic_ne (fun hc => ?_) (fun hc => ?_)
    · replace h := h.2 hc
      refine w_aload (pc' := 48) rfl rfl rfl ?_
      refine w_iload_n (pc' := 49) rfl rfl rfl ?_
      refine w_iload_n (pc' := 50) rfl rfl rfl ?_
      refine w_cv (pc' := 53) (cm := xm_Rp_tell) (as := [.int x2, .int x3]) (a := (24 + 21 * k1)) (rest := []) rfl rfl rfl  (xa_Rp_tell (Nat.le_of_ble_eq_true rfl)) q4.2 rfl (CI.k h fun v2 g2 h => ?_)
      show Wp L xs xm_TP_reply 53 [.ref 0, .int x1, .int x2, .int x3, .ref (24 + 21 * k1)] [.int v2] g2 _
      exact w_ireturn rfl rfl h
    · replace h := h.1 (Classical.not_not.mp hc)
      refine w_iload_n (pc' := 32) rfl rfl rfl ?_
      refine w_br (pc' := 35) (t := 43) rfl rfl rfl ic_ne (fun hc => ?_) (fun hc => ?_)
      · replace h := h.2 hc
        refine w_bipush (pc' := 45) rfl rfl (v := (-2)) rfl ?_
        exact w_ireturn rfl rfl h
      · replace h := h.1 (Classical.not_not.mp hc)
        refine w_aload (pc' := 37) rfl rfl rfl ?_
        refine w_getI (pc' := 40) rfl rfl rfl rfl rfl q4.2 ?_
        refine w_goto (pc' := 45) rfl rfl ?_
        exact w_ireturn rfl rfl h
  · replace h := h.1 (Classical.not_not.mp hc)
    refine w_bipush (pc' := 14) rfl rfl (v := (-2)) rfl ?_
    exact w_ireturn rfl rfl h
theorem t_TP_match_0 {L : Nat} {xs : Nat → Int32} {x1 : Int32} {x2 : Int32} {x3 : Int32} {f : Hp} {Q : Int32 → Hp → Prop}  (h : CI L xs xm_TP_tallies [.ref 0, .int x1, .int x2] f (fun v1 g1 => ((v1 = 0 → Q (-1) g1) ∧ (¬ v1 = 0 → ((x3 = 0 → Q (g1 246 0) g1) ∧ (¬ x3 = 0 → ((x3 = 1 → Q (g1 246 1) g1) ∧ (¬ x3 = 1 → ((x3 = 2 → Q (g1 246 2) g1) ∧ (¬ x3 = 2 → Q (-1) g1)))))))))) : CI L xs xm_TP_match [.ref 0, .int x1, .int x2, .int x3] f Q := by
  show Wp L xs xm_TP_match 0 [.ref 0, .int x1, .int x2, .int x3] [] f (QI Q)
  refine w_aload_n (pc' := 1) rfl rfl rfl ?_
  refine w_iload_n (pc' := 2) rfl rfl rfl ?_
  refine w_iload_n (pc' := 3) rfl rfl rfl ?_
  refine w_cv (pc' := 6) (cm := xm_TP_tallies) (as := [.int x1, .int x2]) (a := 0) (rest := []) rfl rfl rfl  (xa_TP_tallies (Nat.le_of_ble_eq_true rfl)) (show xS0 L 0 = (11, 0) from rfl) rfl (CI.k h fun v1 g1 h => ?_)
  show Wp L xs xm_TP_match 6 [.ref 0, .int x1, .int x2, .int x3] [.int v1] g1 _
  refine w_br (pc' := 9) (t := 11) rfl rfl rfl ic_ne (fun hc => ?_) (fun hc => ?_)
  · replace h := h.2 hc
    refine w_iload_n (pc' := 12) rfl rfl rfl ?_
    by_cases hs0 : x3 = 0
    · replace h := h.1 hs0
      refine w_ts (o := 28) (t := 40) rfl (by rw [hs0]; decide) (by rw [hs0]; rfl) rfl ?_
      refine w_aload_n (pc' := 41) rfl rfl rfl ?_
      have q1 : xR0 0 6 = some 246 ∧ xS0 L 246 = (8, 0) := (kf_11_6 (show xS0 L 0 = (11, 0) from rfl))
      refine w_getR (pc' := 44) rfl rfl rfl rfl (show xS0 L 0 = (11, 0) from rfl) q1.1 ?_
      refine w_getI (pc' := 47) rfl rfl rfl rfl rfl q1.2 ?_
      exact w_ireturn rfl rfl h
    replace h := h.2 hs0
    by_cases hs1 : x3 = 1
    · replace h := h.1 hs1
      refine w_ts (o := 36) (t := 48) rfl (by rw [hs1]; decide) (by rw [hs1]; rfl) rfl ?_
      refine w_aload_n (pc' := 49) rfl rfl rfl ?_
      have q2 : xR0 0 6 = some 246 ∧ xS0 L 246 = (8, 0) := (kf_11_6 (show xS0 L 0 = (11, 0) from rfl))
      refine w_getR (pc' := 52) rfl rfl rfl rfl (show xS0 L 0 = (11, 0) from rfl) q2.1 ?_
      refine w_getI (pc' := 55) rfl rfl rfl rfl rfl q2.2 ?_
      exact w_ireturn rfl rfl h
    replace h := h.2 hs1
    by_cases hs2 : x3 = 2
    · replace h := h.1 hs2
      refine w_ts (o := 44) (t := 56) rfl (by rw [hs2]; decide) (by rw [hs2]; rfl) rfl ?_
      refine w_aload_n (pc' := 57) rfl rfl rfl ?_
      have q3 : xR0 0 6 = some 246 ∧ xS0 L 246 = (8, 0) := (kf_11_6 (show xS0 L 0 = (11, 0) from rfl))
      refine w_getR (pc' := 60) rfl rfl rfl rfl (show xS0 L 0 = (11, 0) from rfl) q3.1 ?_
      refine w_getI (pc' := 63) rfl rfl rfl rfl rfl q3.2 ?_
      exact w_ireturn rfl rfl h
    replace h := h.2 hs2
    refine w_tsd (t := 64) rfl ?_ rfl ?_
    · have z0 : (x3).toInt ≠ 0 := fun e => hs0 (Int32.toInt_inj.mp e); have z1 : (x3).toInt ≠ 1 := fun e => hs1 (Int32.toInt_inj.mp e); have z2 : (x3).toInt ≠ 2 := fun e => hs2 (Int32.toInt_inj.mp e); omega
    refine w_iconst (pc' := 65) rfl rfl (v := (-1)) rfl ?_
    exact w_ireturn rfl rfl h
  · replace h := h.1 (Classical.not_not.mp hc)
    refine w_iconst (pc' := 10) rfl rfl (v := (-1)) rfl ?_
    exact w_ireturn rfl rfl h
theorem t_TP_tallies_0 {L : Nat} {xs : Nat → Int32} {x1 : Int32} {x2 : Int32} {f : Hp} {Q : Int32 → Hp → Prop}  (h : CI L xs xm_To_has [.ref 1, .int 0, .int x1] f (fun v1 g1 => ((v1 = 0 → Q 0 g1) ∧ (¬ v1 = 0 → CI L xs xm_To_has [.ref 1, .int 2, .int x2] g1 (fun v2 g2 => ((v2 = 0 → Q 0 g2) ∧ (¬ v2 = 0 → ∃ k1 : Nat, x1 = iN k1 ∧ k1 < 2 ∧ ∃ k2 : Nat, x2 = iN k2 ∧ k2 < 2 ∧ CV L xs xm_Ta_hear [.ref 246, .ref (7 + 21 * k1), .ref (24 + 21 * k2)] g2 (fun g3 => Q 1 g3)))))))) : CI L xs xm_TP_tallies [.ref 0, .int x1, .int x2] f Q := by
  show Wp L xs xm_TP_tallies 0 [.ref 0, .int x1, .int x2] [] f (QI Q)
  refine w_aload_n (pc' := 1) rfl rfl rfl ?_
  have q1 : xR0 0 0 = some 1 ∧ xS0 L 1 = (10, 0) := (kf_11_0 (show xS0 L 0 = (11, 0) from rfl))
  refine w_getR (pc' := 4) rfl rfl rfl rfl (show xS0 L 0 = (11, 0) from rfl) q1.1 ?_
  refine w_iconst (pc' := 5) rfl rfl (v := 0) rfl ?_
  refine w_iload_n (pc' := 6) rfl rfl rfl ?_
  refine w_cv (pc' := 9) (cm := xm_To_has) (as := [.int 0, .int x1]) (a := 1) (rest := []) rfl rfl rfl  (xa_To_has (Nat.le_of_ble_eq_true rfl)) q1.2 rfl (CI.k h fun v1 g1 h => ?_)
  show Wp L xs xm_TP_tallies 9 [.ref 0, .int x1, .int x2] [.int v1] g1 _
  refine w_br (pc' := 12) (t := 24) rfl rfl rfl ic_eq (fun hc => ?_) (fun hc => ?_)
  · replace h := h.1 hc
    refine w_iconst (pc' := 25) rfl rfl (v := 0) rfl ?_
    exact w_ireturn rfl rfl h
  · replace h := h.2 hc
    refine w_aload_n (pc' := 13) rfl rfl rfl ?_
    have q2 : xR0 0 0 = some 1 ∧ xS0 L 1 = (10, 0) := (kf_11_0 (show xS0 L 0 = (11, 0) from rfl))
    refine w_getR (pc' := 16) rfl rfl rfl rfl (show xS0 L 0 = (11, 0) from rfl) q2.1 ?_
    refine w_iconst (pc' := 17) rfl rfl (v := 2) rfl ?_
    refine w_iload_n (pc' := 18) rfl rfl rfl ?_
    refine w_cv (pc' := 21) (cm := xm_To_has) (as := [.int 2, .int x2]) (a := 1) (rest := []) rfl rfl rfl  (xa_To_has (Nat.le_of_ble_eq_true rfl)) q2.2 rfl (CI.k h fun v2 g2 h => ?_)
    show Wp L xs xm_TP_tallies 21 [.ref 0, .int x1, .int x2] [.int v2] g2 _
    refine w_br (pc' := 24) (t := 26) rfl rfl rfl ic_ne (fun hc => ?_) (fun hc => ?_)
    · replace h := h.2 hc
      refine w_aload_n (pc' := 27) rfl rfl rfl ?_
      have q3 : xR0 0 6 = some 246 ∧ xS0 L 246 = (8, 0) := (kf_11_6 (show xS0 L 0 = (11, 0) from rfl))
      refine w_getR (pc' := 30) rfl rfl rfl rfl (show xS0 L 0 = (11, 0) from rfl) q3.1 ?_
      refine w_aload_n (pc' := 31) rfl rfl rfl ?_
      have q4 : xR0 0 0 = some 1 ∧ xS0 L 1 = (10, 0) := (kf_11_0 (show xS0 L 0 = (11, 0) from rfl))
      refine w_getR (pc' := 34) rfl rfl rfl rfl (show xS0 L 0 = (11, 0) from rfl) q4.1 ?_
      have q5 : xR0 1 5 = some 4 ∧ xS0 L 4 = (26, 2) := (kf_10_5 q4.2)
      refine w_getR (pc' := 37) rfl rfl rfl rfl q4.2 q5.1 ?_
      refine w_iload_n (pc' := 38) rfl rfl rfl ?_
      obtain ⟨k1, ek1, bk1, h⟩ := h
      have q6 : xR0 4 k1 = some (7 + 21 * k1) ∧ xS0 L (7 + 21 * k1) = (1, 0) := ke_26 q5.2 bk1
      refine w_aaload (pc' := 39) (i := k1) rfl rfl q5.2 (by omega) ek1 bk1 (by omega) q6.1 ?_
      refine w_aload_n (pc' := 40) rfl rfl rfl ?_
      have q7 : xR0 0 0 = some 1 ∧ xS0 L 1 = (10, 0) := (kf_11_0 (show xS0 L 0 = (11, 0) from rfl))
      refine w_getR (pc' := 43) rfl rfl rfl rfl (show xS0 L 0 = (11, 0) from rfl) q7.1 ?_
      have q8 : xR0 1 7 = some 6 ∧ xS0 L 6 = (28, 2) := (kf_10_7 q7.2)
      refine w_getR (pc' := 46) rfl rfl rfl rfl q7.2 q8.1 ?_
      refine w_iload_n (pc' := 47) rfl rfl rfl ?_
      obtain ⟨k2, ek2, bk2, h⟩ := h
      have q9 : xR0 6 k2 = some (24 + 21 * k2) ∧ xS0 L (24 + 21 * k2) = (5, 0) := ke_28 q8.2 bk2
      refine w_aaload (pc' := 48) (i := k2) rfl rfl q8.2 (by omega) ek2 bk2 (by omega) q9.1 ?_
      refine w_cv (pc' := 51) (cm := xm_Ta_hear) (as := [.ref (7 + 21 * k1), .ref (24 + 21 * k2)]) (a := 246) (rest := []) rfl rfl rfl  (xa_Ta_hear (Nat.le_of_ble_eq_true rfl)) q3.2 rfl (CV.k h fun g3 h => ?_)
      show Wp L xs xm_TP_tallies 51 [.ref 0, .int x1, .int x2] [] g3 _
      refine w_iconst (pc' := 52) rfl rfl (v := 1) rfl ?_
      exact w_ireturn rfl rfl h
    · replace h := h.1 (Classical.not_not.mp hc)
      refine w_iconst (pc' := 25) rfl rfl (v := 0) rfl ?_
      exact w_ireturn rfl rfl h
theorem t_TP_suspects_0 {L : Nat} {xs : Nat → Int32} {x1 : Int32} {x2 : Int32} {x3 : Int32} {f : Hp} {Q : Int32 → Hp → Prop}  (h : CI L xs xm_TP_tallies [.ref 0, .int x1, .int x2] f (fun v1 g1 => ((v1 = 0 → Q (-2) g1) ∧ (¬ v1 = 0 → ((x3 = 0 → CI L xs xm_Ta_suspectSets [.ref 246] g1 (fun v4 g4 => Q v4 g4)) ∧ (¬ x3 = 0 → ((x3 = 1 → CI L xs xm_Ta_suspectsInAll [.ref 246] g1 (fun v3 g3 => Q v3 g3)) ∧ (¬ x3 = 1 → ((x3 < 10 → Q (-2) g1) ∧ (¬ x3 < 10 → CI L xs xm_Ta_suspectSet [.ref 246, .int (x3 - 10)] g1 (fun v2 g2 => Q v2 g2))))))))))) : CI L xs xm_TP_suspects [.ref 0, .int x1, .int x2, .int x3] f Q := by
  show Wp L xs xm_TP_suspects 0 [.ref 0, .int x1, .int x2, .int x3] [] f (QI Q)
  refine w_aload_n (pc' := 1) rfl rfl rfl ?_
  refine w_iload_n (pc' := 2) rfl rfl rfl ?_
  refine w_iload_n (pc' := 3) rfl rfl rfl ?_
  refine w_cv (pc' := 6) (cm := xm_TP_tallies) (as := [.int x1, .int x2]) (a := 0) (rest := []) rfl rfl rfl  (xa_TP_tallies (Nat.le_of_ble_eq_true rfl)) (show xS0 L 0 = (11, 0) from rfl) rfl (CI.k h fun v1 g1 h => ?_)
  show Wp L xs xm_TP_suspects 6 [.ref 0, .int x1, .int x2, .int x3] [.int v1] g1 _
  refine w_br (pc' := 9) (t := 12) rfl rfl rfl ic_ne (fun hc => ?_) (fun hc => ?_)
  · replace h := h.2 hc
    refine w_iload_n (pc' := 13) rfl rfl rfl ?_
    refine w_br (pc' := 16) (t := 24) rfl rfl rfl ic_ne (fun hc => ?_) (fun hc => ?_)
    · replace h := h.2 hc
      refine w_iload_n (pc' := 25) rfl rfl rfl ?_
      refine w_iconst (pc' := 26) rfl rfl (v := 1) rfl ?_
      refine w_br2 (pc' := 29) (t := 37) rfl rfl rfl ic_ne (fun hc => ?_) (fun hc => ?_)
      · replace h := h.2 hc
        refine w_iload_n (pc' := 38) rfl rfl rfl ?_
        refine w_bipush (pc' := 40) rfl rfl (v := 10) rfl ?_
        refine w_br2 (pc' := 43) (t := 57) rfl rfl rfl ic_lt (fun hc => ?_) (fun hc => ?_)
        · replace h := h.1 hc
          refine w_bipush (pc' := 59) rfl rfl (v := (-2)) rfl ?_
          exact w_ireturn rfl rfl h
        · replace h := h.2 hc
          refine w_aload_n (pc' := 44) rfl rfl rfl ?_
          have q1 : xR0 0 6 = some 246 ∧ xS0 L 246 = (8, 0) := (kf_11_6 (show xS0 L 0 = (11, 0) from rfl))
          refine w_getR (pc' := 47) rfl rfl rfl rfl (show xS0 L 0 = (11, 0) from rfl) q1.1 ?_
          refine w_iload_n (pc' := 48) rfl rfl rfl ?_
          refine w_bipush (pc' := 50) rfl rfl (v := 10) rfl ?_
          refine w_isub (pc' := 51) rfl rfl ?_
          refine w_cv (pc' := 54) (cm := xm_Ta_suspectSet) (as := [.int (x3 - 10)]) (a := 246) (rest := []) rfl rfl rfl  (xa_Ta_suspectSet (Nat.le_of_ble_eq_true rfl)) q1.2 rfl (CI.k h fun v2 g2 h => ?_)
          show Wp L xs xm_TP_suspects 54 [.ref 0, .int x1, .int x2, .int x3] [.int v2] g2 _
          refine w_goto (pc' := 59) rfl rfl ?_
          exact w_ireturn rfl rfl h
      · replace h := h.1 (Classical.not_not.mp hc)
        refine w_aload_n (pc' := 30) rfl rfl rfl ?_
        have q2 : xR0 0 6 = some 246 ∧ xS0 L 246 = (8, 0) := (kf_11_6 (show xS0 L 0 = (11, 0) from rfl))
        refine w_getR (pc' := 33) rfl rfl rfl rfl (show xS0 L 0 = (11, 0) from rfl) q2.1 ?_
        refine w_cv (pc' := 36) (cm := xm_Ta_suspectsInAll) (as := []) (a := 246) (rest := []) rfl rfl rfl  (xa_Ta_suspectsInAll (Nat.le_of_ble_eq_true rfl)) q2.2 rfl (CI.k h fun v3 g3 h => ?_)
        show Wp L xs xm_TP_suspects 36 [.ref 0, .int x1, .int x2, .int x3] [.int v3] g3 _
        exact w_ireturn rfl rfl h
    · replace h := h.1 (Classical.not_not.mp hc)
      refine w_aload_n (pc' := 17) rfl rfl rfl ?_
      have q3 : xR0 0 6 = some 246 ∧ xS0 L 246 = (8, 0) := (kf_11_6 (show xS0 L 0 = (11, 0) from rfl))
      refine w_getR (pc' := 20) rfl rfl rfl rfl (show xS0 L 0 = (11, 0) from rfl) q3.1 ?_
      refine w_cv (pc' := 23) (cm := xm_Ta_suspectSets) (as := []) (a := 246) (rest := []) rfl rfl rfl  (xa_Ta_suspectSets (Nat.le_of_ble_eq_true rfl)) q3.2 rfl (CI.k h fun v4 g4 h => ?_)
      show Wp L xs xm_TP_suspects 23 [.ref 0, .int x1, .int x2, .int x3] [.int v4] g4 _
      exact w_ireturn rfl rfl h
  · replace h := h.1 (Classical.not_not.mp hc)
    refine w_bipush (pc' := 11) rfl rfl (v := (-2)) rfl ?_
    exact w_ireturn rfl rfl h
theorem t_TP_drawn_0 {L : Nat} {xs : Nat → Int32} {x1 : Int32} {x2 : Int32} {x3 : Int32} {x4 : Int32} {x5 : Int32} {f : Hp} {Q : Int32 → Hp → Prop}  (h : CI L xs xm_To_has [.ref 1, .int 0, .int x1] f (fun v1 g1 => ((v1 = 0 → Q (-2) g1) ∧ (¬ v1 = 0 → ((x3 < 0 → Q (-2) g1) ∧ (¬ x3 < 0 → ((200 < x3 → Q (-2) g1) ∧ (¬ 200 < x3 → ∃ k1 : Nat, x1 = iN k1 ∧ k1 < 2 ∧ CV L xs xm_As_draw [.ref 75, .ref (7 + 21 * k1), .int x2, .int x3] g1 (fun g2 => CI L xs xm_As_tell [.ref 75, .int x4, .int x5] g2 (fun v2 g3 => Q v2 g3)))))))))) : CI L xs xm_TP_drawn [.ref 0, .int x1, .int x2, .int x3, .int x4, .int x5] f Q := by
  show Wp L xs xm_TP_drawn 0 [.ref 0, .int x1, .int x2, .int x3, .int x4, .int x5] [] f (QI Q)
  refine w_aload_n (pc' := 1) rfl rfl rfl ?_
  have q1 : xR0 0 0 = some 1 ∧ xS0 L 1 = (10, 0) := (kf_11_0 (show xS0 L 0 = (11, 0) from rfl))
  refine w_getR (pc' := 4) rfl rfl rfl rfl (show xS0 L 0 = (11, 0) from rfl) q1.1 ?_
  refine w_iconst (pc' := 5) rfl rfl (v := 0) rfl ?_
  refine w_iload_n (pc' := 6) rfl rfl rfl ?_
  refine w_cv (pc' := 9) (cm := xm_To_has) (as := [.int 0, .int x1]) (a := 1) (rest := []) rfl rfl rfl  (xa_To_has (Nat.le_of_ble_eq_true rfl)) q1.2 rfl (CI.k h fun v1 g1 h => ?_)
  show Wp L xs xm_TP_drawn 9 [.ref 0, .int x1, .int x2, .int x3, .int x4, .int x5] [.int v1] g1 _
  refine w_br (pc' := 12) (t := 23) rfl rfl rfl ic_eq (fun hc => ?_) (fun hc => ?_)
  · replace h := h.1 hc
    refine w_bipush (pc' := 25) rfl rfl (v := (-2)) rfl ?_
    exact w_ireturn rfl rfl h
  · replace h := h.2 hc
    refine w_iload_n (pc' := 13) rfl rfl rfl ?_
    refine w_br (pc' := 16) (t := 23) rfl rfl rfl ic_lt (fun hc => ?_) (fun hc => ?_)
    · replace h := h.1 hc
      refine w_bipush (pc' := 25) rfl rfl (v := (-2)) rfl ?_
      exact w_ireturn rfl rfl h
    · replace h := h.2 hc
      refine w_iload_n (pc' := 17) rfl rfl rfl ?_
      refine w_sipush (pc' := 20) rfl rfl (v := 200) rfl ?_
      refine w_br2 (pc' := 23) (t := 26) rfl rfl rfl ic_le (fun hc => ?_) (fun hc => ?_)
      · replace h := h.2 hc
        refine w_aload_n (pc' := 27) rfl rfl rfl ?_
        have q2 : xR0 0 4 = some 75 ∧ xS0 L 75 = (0, 0) := (kf_11_4 (show xS0 L 0 = (11, 0) from rfl))
        refine w_getR (pc' := 30) rfl rfl rfl rfl (show xS0 L 0 = (11, 0) from rfl) q2.1 ?_
        refine w_aload_n (pc' := 31) rfl rfl rfl ?_
        have q3 : xR0 0 0 = some 1 ∧ xS0 L 1 = (10, 0) := (kf_11_0 (show xS0 L 0 = (11, 0) from rfl))
        refine w_getR (pc' := 34) rfl rfl rfl rfl (show xS0 L 0 = (11, 0) from rfl) q3.1 ?_
        have q4 : xR0 1 5 = some 4 ∧ xS0 L 4 = (26, 2) := (kf_10_5 q3.2)
        refine w_getR (pc' := 37) rfl rfl rfl rfl q3.2 q4.1 ?_
        refine w_iload_n (pc' := 38) rfl rfl rfl ?_
        obtain ⟨k1, ek1, bk1, h⟩ := h
        have q5 : xR0 4 k1 = some (7 + 21 * k1) ∧ xS0 L (7 + 21 * k1) = (1, 0) := ke_26 q4.2 bk1
        refine w_aaload (pc' := 39) (i := k1) rfl rfl q4.2 (by omega) ek1 bk1 (by omega) q5.1 ?_
        refine w_iload_n (pc' := 40) rfl rfl rfl ?_
        refine w_iload_n (pc' := 41) rfl rfl rfl ?_
        refine w_cv (pc' := 44) (cm := xm_As_draw) (as := [.ref (7 + 21 * k1), .int x2, .int x3]) (a := 75) (rest := []) rfl rfl rfl  (xa_As_draw (Nat.le_of_ble_eq_true rfl)) q2.2 rfl (CV.k h fun g2 h => ?_)
        show Wp L xs xm_TP_drawn 44 [.ref 0, .int x1, .int x2, .int x3, .int x4, .int x5] [] g2 _
        refine w_aload_n (pc' := 45) rfl rfl rfl ?_
        have q6 : xR0 0 4 = some 75 ∧ xS0 L 75 = (0, 0) := (kf_11_4 (show xS0 L 0 = (11, 0) from rfl))
        refine w_getR (pc' := 48) rfl rfl rfl rfl (show xS0 L 0 = (11, 0) from rfl) q6.1 ?_
        refine w_iload (pc' := 50) rfl rfl rfl ?_
        refine w_iload (pc' := 52) rfl rfl rfl ?_
        refine w_cv (pc' := 55) (cm := xm_As_tell) (as := [.int x4, .int x5]) (a := 75) (rest := []) rfl rfl rfl  (xa_As_tell (Nat.le_of_ble_eq_true rfl)) q6.2 rfl (CI.k h fun v2 g3 h => ?_)
        show Wp L xs xm_TP_drawn 55 [.ref 0, .int x1, .int x2, .int x3, .int x4, .int x5] [.int v2] g3 _
        exact w_ireturn rfl rfl h
      · replace h := h.1 (Classical.not_not.mp hc)
        refine w_bipush (pc' := 25) rfl rfl (v := (-2)) rfl ?_
        exact w_ireturn rfl rfl h
theorem t_TP_merged_0 {L : Nat} {xs : Nat → Int32} {x1 : Int32} {x2 : Int32} {x3 : Int32} {x4 : Int32} {x5 : Int32} {f : Hp} {Q : Int32 → Hp → Prop}  (h : CI L xs xm_TP_reaches [.ref 0, .int x1, .int x2, .int x3] f (fun v1 g1 => ((v1 = 0 → Q (-2) g1) ∧ (¬ v1 = 0 → ((0 < x4 → ∃ k1 : Nat, x1 = iN k1 ∧ k1 < 2 ∧ CI L xs xm_Co_members [.ref (7 + 21 * k1)] g1 (fun v2 g2 => ((x4 < (1 <<< (v2 &&& 31)) → CV L xs xm_As_merge [.ref 75, .int x4, .ref 252] g2 (fun g3 => CI L xs xm_Mg_tell [.ref 252, .int x5] g3 (fun v3 g4 => Q v3 g4))) ∧ (¬ x4 < (1 <<< (v2 &&& 31)) → Q (-2) g2)))) ∧ (¬ 0 < x4 → Q (-2) g1)))))) : CI L xs xm_TP_merged [.ref 0, .int x1, .int x2, .int x3, .int x4, .int x5] f Q := by
  show Wp L xs xm_TP_merged 0 [.ref 0, .int x1, .int x2, .int x3, .int x4, .int x5] [] f (QI Q)
  refine w_aload_n (pc' := 1) rfl rfl rfl ?_
  refine w_iload_n (pc' := 2) rfl rfl rfl ?_
  refine w_iload_n (pc' := 3) rfl rfl rfl ?_
  refine w_iload_n (pc' := 4) rfl rfl rfl ?_
  refine w_cv (pc' := 7) (cm := xm_TP_reaches) (as := [.int x1, .int x2, .int x3]) (a := 0) (rest := []) rfl rfl rfl  (xa_TP_reaches (Nat.le_of_ble_eq_true rfl)) (show xS0 L 0 = (11, 0) from rfl) rfl (CI.k h fun v1 g1 h => ?_)
  show Wp L xs xm_TP_merged 7 [.ref 0, .int x1, .int x2, .int x3, .int x4, .int x5] [.int v1] g1 _
  refine w_br (pc' := 10) (t := 15) rfl rfl rfl ic_eq (fun hc => ?_) (fun hc => ?_)
  · replace h := h.1 hc
    refine w_bipush (pc' := 17) rfl rfl (v := (-2)) rfl ?_
    exact w_ireturn rfl rfl h
  · replace h := h.2 hc
    refine w_iload (pc' := 12) rfl rfl rfl ?_
    refine w_br (pc' := 15) (t := 18) rfl rfl rfl ic_gt (fun hc => ?_) (fun hc => ?_)
    · replace h := h.1 hc
      refine w_iload (pc' := 20) rfl rfl rfl ?_
      refine w_iconst (pc' := 21) rfl rfl (v := 1) rfl ?_
      refine w_aload_n (pc' := 22) rfl rfl rfl ?_
      have q1 : xR0 0 0 = some 1 ∧ xS0 L 1 = (10, 0) := (kf_11_0 (show xS0 L 0 = (11, 0) from rfl))
      refine w_getR (pc' := 25) rfl rfl rfl rfl (show xS0 L 0 = (11, 0) from rfl) q1.1 ?_
      have q2 : xR0 1 5 = some 4 ∧ xS0 L 4 = (26, 2) := (kf_10_5 q1.2)
      refine w_getR (pc' := 28) rfl rfl rfl rfl q1.2 q2.1 ?_
      refine w_iload_n (pc' := 29) rfl rfl rfl ?_
      obtain ⟨k1, ek1, bk1, h⟩ := h
      have q3 : xR0 4 k1 = some (7 + 21 * k1) ∧ xS0 L (7 + 21 * k1) = (1, 0) := ke_26 q2.2 bk1
      refine w_aaload (pc' := 30) (i := k1) rfl rfl q2.2 (by omega) ek1 bk1 (by omega) q3.1 ?_
      refine w_cv (pc' := 33) (cm := xm_Co_members) (as := []) (a := (7 + 21 * k1)) (rest := [.int 1, .int x4]) rfl rfl rfl  (xa_Co_members (Nat.le_of_ble_eq_true rfl)) q3.2 rfl (CI.k h fun v2 g2 h => ?_)
      show Wp L xs xm_TP_merged 33 [.ref 0, .int x1, .int x2, .int x3, .int x4, .int x5] [.int v2, .int 1, .int x4] g2 _
      refine w_ishl (pc' := 34) rfl rfl ?_
      refine w_br2 (pc' := 37) (t := 40) rfl rfl rfl ic_lt (fun hc => ?_) (fun hc => ?_)
      · replace h := h.1 hc
        refine w_aload_n (pc' := 41) rfl rfl rfl ?_
        have q4 : xR0 0 4 = some 75 ∧ xS0 L 75 = (0, 0) := (kf_11_4 (show xS0 L 0 = (11, 0) from rfl))
        refine w_getR (pc' := 44) rfl rfl rfl rfl (show xS0 L 0 = (11, 0) from rfl) q4.1 ?_
        refine w_iload (pc' := 46) rfl rfl rfl ?_
        refine w_aload_n (pc' := 47) rfl rfl rfl ?_
        have q5 : xR0 0 8 = some 252 ∧ xS0 L 252 = (3, 0) := (kf_11_8 (show xS0 L 0 = (11, 0) from rfl))
        refine w_getR (pc' := 50) rfl rfl rfl rfl (show xS0 L 0 = (11, 0) from rfl) q5.1 ?_
        refine w_cv (pc' := 53) (cm := xm_As_merge) (as := [.int x4, .ref 252]) (a := 75) (rest := []) rfl rfl rfl  (xa_As_merge (Nat.le_of_ble_eq_true rfl)) q4.2 rfl (CV.k h fun g3 h => ?_)
        show Wp L xs xm_TP_merged 53 [.ref 0, .int x1, .int x2, .int x3, .int x4, .int x5] [] g3 _
        refine w_aload_n (pc' := 54) rfl rfl rfl ?_
        have q6 : xR0 0 8 = some 252 ∧ xS0 L 252 = (3, 0) := (kf_11_8 (show xS0 L 0 = (11, 0) from rfl))
        refine w_getR (pc' := 57) rfl rfl rfl rfl (show xS0 L 0 = (11, 0) from rfl) q6.1 ?_
        refine w_iload (pc' := 59) rfl rfl rfl ?_
        refine w_cv (pc' := 62) (cm := xm_Mg_tell) (as := [.int x5]) (a := 252) (rest := []) rfl rfl rfl  (xa_Mg_tell (Nat.le_of_ble_eq_true rfl)) q6.2 rfl (CI.k h fun v3 g4 h => ?_)
        show Wp L xs xm_TP_merged 62 [.ref 0, .int x1, .int x2, .int x3, .int x4, .int x5] [.int v3] g4 _
        exact w_ireturn rfl rfl h
      · replace h := h.2 hc
        refine w_bipush (pc' := 39) rfl rfl (v := (-2)) rfl ?_
        exact w_ireturn rfl rfl h
    · replace h := h.2 hc
      refine w_bipush (pc' := 17) rfl rfl (v := (-2)) rfl ?_
      exact w_ireturn rfl rfl h
theorem t_TP_sure_0 {L : Nat} {xs : Nat → Int32} {x1 : Int32} {x2 : Int32} {x3 : Int32} {x4 : Int32} {x5 : Int32} {f : Hp} {Q : Int32 → Hp → Prop}  (h : CI L xs xm_TP_isPlace [.int x4] f (fun v1 g1 => ((v1 = 0 → Q (-2) g1) ∧ (¬ v1 = 0 → CI L xs xm_TP_reaches [.ref 0, .int x1, .int x2, .int x3] g1 (fun v2 g2 => ((v2 = 0 → Q (-2) g2) ∧ (¬ v2 = 0 → ((x5 = 0 → CI L xs xm_As_sureAt [.ref 75, .int x4, .ref 252] g2 (fun v3 g3 => Q v3 g3)) ∧ (¬ x5 = 0 → CI L xs xm_As_lostAt [.ref 75, .int x4, .ref 252] g2 (fun v4 g4 => Q v4 g4)))))))))) : CI L xs xm_TP_sure [.ref 0, .int x1, .int x2, .int x3, .int x4, .int x5] f Q := by
  show Wp L xs xm_TP_sure 0 [.ref 0, .int x1, .int x2, .int x3, .int x4, .int x5] [] f (QI Q)
  refine w_iload (pc' := 2) rfl rfl rfl ?_
  refine w_cs (pc' := 5) (cm := xm_TP_isPlace) (as := [.int x4]) (rest := []) rfl rfl rfl (Or.inl rfl) (xa_TP_isPlace (Nat.le_of_ble_eq_true rfl)) (CI.k h fun v1 g1 h => ?_)
  show Wp L xs xm_TP_sure 5 [.ref 0, .int x1, .int x2, .int x3, .int x4, .int x5] [.int v1] g1 _
  refine w_br (pc' := 8) (t := 18) rfl rfl rfl ic_eq (fun hc => ?_) (fun hc => ?_)
  · replace h := h.1 hc
    refine w_bipush (pc' := 20) rfl rfl (v := (-2)) rfl ?_
    exact w_ireturn rfl rfl h
  · replace h := h.2 hc
    refine w_aload_n (pc' := 9) rfl rfl rfl ?_
    refine w_iload_n (pc' := 10) rfl rfl rfl ?_
    refine w_iload_n (pc' := 11) rfl rfl rfl ?_
    refine w_iload_n (pc' := 12) rfl rfl rfl ?_
    refine w_cv (pc' := 15) (cm := xm_TP_reaches) (as := [.int x1, .int x2, .int x3]) (a := 0) (rest := []) rfl rfl rfl  (xa_TP_reaches (Nat.le_of_ble_eq_true rfl)) (show xS0 L 0 = (11, 0) from rfl) rfl (CI.k h fun v2 g2 h => ?_)
    show Wp L xs xm_TP_sure 15 [.ref 0, .int x1, .int x2, .int x3, .int x4, .int x5] [.int v2] g2 _
    refine w_br (pc' := 18) (t := 21) rfl rfl rfl ic_ne (fun hc => ?_) (fun hc => ?_)
    · replace h := h.2 hc
      refine w_iload (pc' := 23) rfl rfl rfl ?_
      refine w_br (pc' := 26) (t := 42) rfl rfl rfl ic_eq (fun hc => ?_) (fun hc => ?_)
      · replace h := h.1 hc
        refine w_aload_n (pc' := 43) rfl rfl rfl ?_
        have q1 : xR0 0 4 = some 75 ∧ xS0 L 75 = (0, 0) := (kf_11_4 (show xS0 L 0 = (11, 0) from rfl))
        refine w_getR (pc' := 46) rfl rfl rfl rfl (show xS0 L 0 = (11, 0) from rfl) q1.1 ?_
        refine w_iload (pc' := 48) rfl rfl rfl ?_
        refine w_aload_n (pc' := 49) rfl rfl rfl ?_
        have q2 : xR0 0 8 = some 252 ∧ xS0 L 252 = (3, 0) := (kf_11_8 (show xS0 L 0 = (11, 0) from rfl))
        refine w_getR (pc' := 52) rfl rfl rfl rfl (show xS0 L 0 = (11, 0) from rfl) q2.1 ?_
        refine w_cv (pc' := 55) (cm := xm_As_sureAt) (as := [.int x4, .ref 252]) (a := 75) (rest := []) rfl rfl rfl  (xa_As_sureAt (Nat.le_of_ble_eq_true rfl)) q1.2 rfl (CI.k h fun v3 g3 h => ?_)
        show Wp L xs xm_TP_sure 55 [.ref 0, .int x1, .int x2, .int x3, .int x4, .int x5] [.int v3] g3 _
        exact w_ireturn rfl rfl h
      · replace h := h.2 hc
        refine w_aload_n (pc' := 27) rfl rfl rfl ?_
        have q3 : xR0 0 4 = some 75 ∧ xS0 L 75 = (0, 0) := (kf_11_4 (show xS0 L 0 = (11, 0) from rfl))
        refine w_getR (pc' := 30) rfl rfl rfl rfl (show xS0 L 0 = (11, 0) from rfl) q3.1 ?_
        refine w_iload (pc' := 32) rfl rfl rfl ?_
        refine w_aload_n (pc' := 33) rfl rfl rfl ?_
        have q4 : xR0 0 8 = some 252 ∧ xS0 L 252 = (3, 0) := (kf_11_8 (show xS0 L 0 = (11, 0) from rfl))
        refine w_getR (pc' := 36) rfl rfl rfl rfl (show xS0 L 0 = (11, 0) from rfl) q4.1 ?_
        refine w_cv (pc' := 39) (cm := xm_As_lostAt) (as := [.int x4, .ref 252]) (a := 75) (rest := []) rfl rfl rfl  (xa_As_lostAt (Nat.le_of_ble_eq_true rfl)) q3.2 rfl (CI.k h fun v4 g4 h => ?_)
        show Wp L xs xm_TP_sure 39 [.ref 0, .int x1, .int x2, .int x3, .int x4, .int x5] [.int v4] g4 _
        refine w_goto (pc' := 55) rfl rfl ?_
        exact w_ireturn rfl rfl h
    · replace h := h.1 (Classical.not_not.mp hc)
      refine w_bipush (pc' := 20) rfl rfl (v := (-2)) rfl ?_
      exact w_ireturn rfl rfl h
theorem t_TP_after_0 {L : Nat} {xs : Nat → Int32} {x1 : Int32} {x2 : Int32} {x3 : Int32} {f : Hp} {Q : Int32 → Hp → Prop}  (h : CI L xs xm_TP_stop [.ref 0, .int x1, .int x2] f (fun v1 g1 => ((v1 = (-1) → Q (-2) g1) ∧ (¬ v1 = (-1) → ((x3 = 0 → CI L xs xm_As_behindOnes [.ref 75] g1 (fun v2 g2 => Q v2 g2)) ∧ (¬ x3 = 0 → ((x3 = 1 → CI L xs xm_As_stuckOnes [.ref 75] g1 (fun v3 g3 => Q v3 g3)) ∧ (¬ x3 = 1 → ((x3 = 2 → CI L xs xm_As_madeViews [.ref 75] g1 (fun v4 g4 => Q v4 g4)) ∧ (¬ x3 = 2 → ((x3 = 3 → CI L xs xm_As_certainPlaces [.ref 75] g1 (fun v5 g5 => Q v5 g5)) ∧ (¬ x3 = 3 → ((x3 = 4 → CI L xs xm_As_words [.ref 75] g1 (fun v6 g6 => Q v6 g6)) ∧ (¬ x3 = 4 → ((x3 = 5 → CI L xs xm_As_fullOnes [.ref 75] g1 (fun v7 g7 => Q v7 g7)) ∧ (¬ x3 = 5 → Q (-2) g1)))))))))))))))) : CI L xs xm_TP_after [.ref 0, .int x1, .int x2, .int x3] f Q := by
  show Wp L xs xm_TP_after 0 [.ref 0, .int x1, .int x2, .int x3] [] f (QI Q)
  refine w_aload_n (pc' := 1) rfl rfl rfl ?_
  refine w_iload_n (pc' := 2) rfl rfl rfl ?_
  refine w_iload_n (pc' := 3) rfl rfl rfl ?_
  refine w_cv (pc' := 6) (cm := xm_TP_stop) (as := [.int x1, .int x2]) (a := 0) (rest := []) rfl rfl rfl  (xa_TP_stop (Nat.le_of_ble_eq_true rfl)) (show xS0 L 0 = (11, 0) from rfl) rfl (CI.k h fun v1 g1 h => ?_)
  show Wp L xs xm_TP_after 6 [.ref 0, .int x1, .int x2, .int x3] [.int v1] g1 _
  refine w_iconst (pc' := 7) rfl rfl (v := (-1)) rfl ?_
  refine w_br2 (pc' := 10) (t := 13) rfl rfl rfl ic_ne (fun hc => ?_) (fun hc => ?_)
  · replace h := h.2 hc
    refine w_iload_n (pc' := 14) rfl rfl rfl ?_
    by_cases hs0 : x3 = 0
    · replace h := h.1 hs0
      refine w_ts (o := 38) (t := 52) rfl (by rw [hs0]; decide) (by rw [hs0]; rfl) rfl ?_
      refine w_aload_n (pc' := 53) rfl rfl rfl ?_
      have q1 : xR0 0 4 = some 75 ∧ xS0 L 75 = (0, 0) := (kf_11_4 (show xS0 L 0 = (11, 0) from rfl))
      refine w_getR (pc' := 56) rfl rfl rfl rfl (show xS0 L 0 = (11, 0) from rfl) q1.1 ?_
      refine w_cv (pc' := 59) (cm := xm_As_behindOnes) (as := []) (a := 75) (rest := []) rfl rfl rfl  (xa_As_behindOnes (Nat.le_of_ble_eq_true rfl)) q1.2 rfl (CI.k h fun v2 g2 h => ?_)
      show Wp L xs xm_TP_after 59 [.ref 0, .int x1, .int x2, .int x3] [.int v2] g2 _
      exact w_ireturn rfl rfl h
    replace h := h.2 hs0
    by_cases hs1 : x3 = 1
    · replace h := h.1 hs1
      refine w_ts (o := 46) (t := 60) rfl (by rw [hs1]; decide) (by rw [hs1]; rfl) rfl ?_
      refine w_aload_n (pc' := 61) rfl rfl rfl ?_
      have q2 : xR0 0 4 = some 75 ∧ xS0 L 75 = (0, 0) := (kf_11_4 (show xS0 L 0 = (11, 0) from rfl))
      refine w_getR (pc' := 64) rfl rfl rfl rfl (show xS0 L 0 = (11, 0) from rfl) q2.1 ?_
      refine w_cv (pc' := 67) (cm := xm_As_stuckOnes) (as := []) (a := 75) (rest := []) rfl rfl rfl  (xa_As_stuckOnes (Nat.le_of_ble_eq_true rfl)) q2.2 rfl (CI.k h fun v3 g3 h => ?_)
      show Wp L xs xm_TP_after 67 [.ref 0, .int x1, .int x2, .int x3] [.int v3] g3 _
      exact w_ireturn rfl rfl h
    replace h := h.2 hs1
    by_cases hs2 : x3 = 2
    · replace h := h.1 hs2
      refine w_ts (o := 54) (t := 68) rfl (by rw [hs2]; decide) (by rw [hs2]; rfl) rfl ?_
      refine w_aload_n (pc' := 69) rfl rfl rfl ?_
      have q3 : xR0 0 4 = some 75 ∧ xS0 L 75 = (0, 0) := (kf_11_4 (show xS0 L 0 = (11, 0) from rfl))
      refine w_getR (pc' := 72) rfl rfl rfl rfl (show xS0 L 0 = (11, 0) from rfl) q3.1 ?_
      refine w_cv (pc' := 75) (cm := xm_As_madeViews) (as := []) (a := 75) (rest := []) rfl rfl rfl  (xa_As_madeViews (Nat.le_of_ble_eq_true rfl)) q3.2 rfl (CI.k h fun v4 g4 h => ?_)
      show Wp L xs xm_TP_after 75 [.ref 0, .int x1, .int x2, .int x3] [.int v4] g4 _
      exact w_ireturn rfl rfl h
    replace h := h.2 hs2
    by_cases hs3 : x3 = 3
    · replace h := h.1 hs3
      refine w_ts (o := 62) (t := 76) rfl (by rw [hs3]; decide) (by rw [hs3]; rfl) rfl ?_
      refine w_aload_n (pc' := 77) rfl rfl rfl ?_
      have q4 : xR0 0 4 = some 75 ∧ xS0 L 75 = (0, 0) := (kf_11_4 (show xS0 L 0 = (11, 0) from rfl))
      refine w_getR (pc' := 80) rfl rfl rfl rfl (show xS0 L 0 = (11, 0) from rfl) q4.1 ?_
      refine w_cv (pc' := 83) (cm := xm_As_certainPlaces) (as := []) (a := 75) (rest := []) rfl rfl rfl  (xa_As_certainPlaces (Nat.le_of_ble_eq_true rfl)) q4.2 rfl (CI.k h fun v5 g5 h => ?_)
      show Wp L xs xm_TP_after 83 [.ref 0, .int x1, .int x2, .int x3] [.int v5] g5 _
      exact w_ireturn rfl rfl h
    replace h := h.2 hs3
    by_cases hs4 : x3 = 4
    · replace h := h.1 hs4
      refine w_ts (o := 70) (t := 84) rfl (by rw [hs4]; decide) (by rw [hs4]; rfl) rfl ?_
      refine w_aload_n (pc' := 85) rfl rfl rfl ?_
      have q5 : xR0 0 4 = some 75 ∧ xS0 L 75 = (0, 0) := (kf_11_4 (show xS0 L 0 = (11, 0) from rfl))
      refine w_getR (pc' := 88) rfl rfl rfl rfl (show xS0 L 0 = (11, 0) from rfl) q5.1 ?_
      refine w_cv (pc' := 91) (cm := xm_As_words) (as := []) (a := 75) (rest := []) rfl rfl rfl  (xa_As_words (Nat.le_of_ble_eq_true rfl)) q5.2 rfl (CI.k h fun v6 g6 h => ?_)
      show Wp L xs xm_TP_after 91 [.ref 0, .int x1, .int x2, .int x3] [.int v6] g6 _
      exact w_ireturn rfl rfl h
    replace h := h.2 hs4
    by_cases hs5 : x3 = 5
    · replace h := h.1 hs5
      refine w_ts (o := 78) (t := 92) rfl (by rw [hs5]; decide) (by rw [hs5]; rfl) rfl ?_
      refine w_aload_n (pc' := 93) rfl rfl rfl ?_
      have q6 : xR0 0 4 = some 75 ∧ xS0 L 75 = (0, 0) := (kf_11_4 (show xS0 L 0 = (11, 0) from rfl))
      refine w_getR (pc' := 96) rfl rfl rfl rfl (show xS0 L 0 = (11, 0) from rfl) q6.1 ?_
      refine w_cv (pc' := 99) (cm := xm_As_fullOnes) (as := []) (a := 75) (rest := []) rfl rfl rfl  (xa_As_fullOnes (Nat.le_of_ble_eq_true rfl)) q6.2 rfl (CI.k h fun v7 g7 h => ?_)
      show Wp L xs xm_TP_after 99 [.ref 0, .int x1, .int x2, .int x3] [.int v7] g7 _
      exact w_ireturn rfl rfl h
    replace h := h.2 hs5
    refine w_tsd (t := 100) rfl ?_ rfl ?_
    · have z0 : (x3).toInt ≠ 0 := fun e => hs0 (Int32.toInt_inj.mp e); have z1 : (x3).toInt ≠ 1 := fun e => hs1 (Int32.toInt_inj.mp e); have z2 : (x3).toInt ≠ 2 := fun e => hs2 (Int32.toInt_inj.mp e); have z3 : (x3).toInt ≠ 3 := fun e => hs3 (Int32.toInt_inj.mp e); have z4 : (x3).toInt ≠ 4 := fun e => hs4 (Int32.toInt_inj.mp e); have z5 : (x3).toInt ≠ 5 := fun e => hs5 (Int32.toInt_inj.mp e); omega
    refine w_bipush (pc' := 102) rfl rfl (v := (-2)) rfl ?_
    exact w_ireturn rfl rfl h
  · replace h := h.1 (Classical.not_not.mp hc)
    refine w_bipush (pc' := 12) rfl rfl (v := (-2)) rfl ?_
    exact w_ireturn rfl rfl h
theorem t_TP_pace_0 {L : Nat} {xs : Nat → Int32} {x1 : Int32} {x2 : Int32} {f : Hp} {Q : Int32 → Hp → Prop}  (h : CI L xs xm_To_has [.ref 1, .int 0, .int x1] f (fun v1 g1 => ((v1 = 0 → Q (-2) g1) ∧ (¬ v1 = 0 → ∃ k1 : Nat, x1 = iN k1 ∧ k1 < 2 ∧ ((x2 = 3 → CI L xs xm_Tt_tightest [.ref 200, .ref (7 + 21 * k1)] g1 (fun v5 g6 => Q v5 g6)) ∧ (¬ x2 = 3 → ((x2 = 4 → CI L xs xm_Tt_spareOnes [.ref 200, .ref (7 + 21 * k1)] g1 (fun v4 g5 => Q v4 g5)) ∧ (¬ x2 = 4 → CV L xs xm_Tt_plan [.ref 200, .ref (7 + 21 * k1), .int (g1 (7 + 21 * k1) 1), .int (g1 (7 + 21 * k1) 3)] g1 (fun g2 => ((x2 = 0 → Q (g2 200 1) g2) ∧ (¬ x2 = 0 → ((x2 = 1 → Q (g2 200 2) g2) ∧ (¬ x2 = 1 → ((x2 = 2 → CI L xs xm_Tt_slowest [.ref 200] g2 (fun v2 g3 => Q v2 g3)) ∧ (¬ x2 = 2 → ((x2 < 11 → Q (-2) g2) ∧ (¬ x2 < 11 → ((20 < x2 → Q (-2) g2) ∧ (¬ 20 < x2 → CI L xs xm_Tt_doneAt [.ref 200, .int (x2 - 10)] g2 (fun v3 g4 => ((v3 = 1000000 → Q (-1) g4) ∧ (¬ v3 = 1000000 → Q v3 g4)))))))))))))))))))))) : CI L xs xm_TP_pace [.ref 0, .int x1, .int x2] f Q := by
  show Wp L xs xm_TP_pace 0 [.ref 0, .int x1, .int x2, .retAddr 0, .retAddr 0] [] f (QI Q)
  refine w_aload_n (pc' := 1) rfl rfl rfl ?_
  have q1 : xR0 0 0 = some 1 ∧ xS0 L 1 = (10, 0) := (kf_11_0 (show xS0 L 0 = (11, 0) from rfl))
  refine w_getR (pc' := 4) rfl rfl rfl rfl (show xS0 L 0 = (11, 0) from rfl) q1.1 ?_
  refine w_iconst (pc' := 5) rfl rfl (v := 0) rfl ?_
  refine w_iload_n (pc' := 6) rfl rfl rfl ?_
  refine w_cv (pc' := 9) (cm := xm_To_has) (as := [.int 0, .int x1]) (a := 1) (rest := []) rfl rfl rfl  (xa_To_has (Nat.le_of_ble_eq_true rfl)) q1.2 rfl (CI.k h fun v1 g1 h => ?_)
  show Wp L xs xm_TP_pace 9 [.ref 0, .int x1, .int x2, .retAddr 0, .retAddr 0] [.int v1] g1 _
  refine w_br (pc' := 12) (t := 15) rfl rfl rfl ic_ne (fun hc => ?_) (fun hc => ?_)
  · replace h := h.2 hc
    refine w_aload_n (pc' := 16) rfl rfl rfl ?_
    have q2 : xR0 0 0 = some 1 ∧ xS0 L 1 = (10, 0) := (kf_11_0 (show xS0 L 0 = (11, 0) from rfl))
    refine w_getR (pc' := 19) rfl rfl rfl rfl (show xS0 L 0 = (11, 0) from rfl) q2.1 ?_
    have q3 : xR0 1 5 = some 4 ∧ xS0 L 4 = (26, 2) := (kf_10_5 q2.2)
    refine w_getR (pc' := 22) rfl rfl rfl rfl q2.2 q3.1 ?_
    refine w_iload_n (pc' := 23) rfl rfl rfl ?_
    obtain ⟨k1, ek1, bk1, h⟩ := h
    have q4 : xR0 4 k1 = some (7 + 21 * k1) ∧ xS0 L (7 + 21 * k1) = (1, 0) := ke_26 q3.2 bk1
    refine w_aaload (pc' := 24) (i := k1) rfl rfl q3.2 (by omega) ek1 bk1 (by omega) q4.1 ?_
    refine w_astore_n (pc' := 25) rfl rfl (xl' := [.ref 0, .int x1, .int x2, .ref (7 + 21 * k1), .retAddr 0]) rfl ?_
    refine w_iload_n (pc' := 26) rfl rfl rfl ?_
    refine w_iconst (pc' := 27) rfl rfl (v := 3) rfl ?_
    refine w_br2 (pc' := 30) (t := 39) rfl rfl rfl ic_ne (fun hc => ?_) (fun hc => ?_)
    · replace h := h.2 hc
      refine w_iload_n (pc' := 40) rfl rfl rfl ?_
      refine w_iconst (pc' := 41) rfl rfl (v := 4) rfl ?_
      refine w_br2 (pc' := 44) (t := 53) rfl rfl rfl ic_ne (fun hc => ?_) (fun hc => ?_)
      · replace h := h.2 hc
        refine w_aload_n (pc' := 54) rfl rfl rfl ?_
        have q5 : xR0 0 5 = some 200 ∧ xS0 L 200 = (9, 0) := (kf_11_5 (show xS0 L 0 = (11, 0) from rfl))
        refine w_getR (pc' := 57) rfl rfl rfl rfl (show xS0 L 0 = (11, 0) from rfl) q5.1 ?_
        refine w_aload_n (pc' := 58) rfl rfl rfl ?_
        refine w_aload_n (pc' := 59) rfl rfl rfl ?_
        refine w_getI (pc' := 62) rfl rfl rfl rfl rfl q4.2 ?_
        refine w_aload_n (pc' := 63) rfl rfl rfl ?_
        refine w_getI (pc' := 66) rfl rfl rfl rfl rfl q4.2 ?_
        refine w_cv (pc' := 69) (cm := xm_Tt_plan) (as := [.ref (7 + 21 * k1), .int (g1 (7 + 21 * k1) 1), .int (g1 (7 + 21 * k1) 3)]) (a := 200) (rest := []) rfl rfl rfl  (xa_Tt_plan (Nat.le_of_ble_eq_true rfl)) q5.2 rfl (CV.k h fun g2 h => ?_)
        show Wp L xs xm_TP_pace 69 [.ref 0, .int x1, .int x2, .ref (7 + 21 * k1), .retAddr 0] [] g2 _
        refine w_iload_n (pc' := 70) rfl rfl rfl ?_
        by_cases hs0 : x2 = 0
        · replace h := h.1 hs0
          refine w_ts (o := 26) (t := 96) rfl (by rw [hs0]; decide) (by rw [hs0]; rfl) rfl ?_
          refine w_aload_n (pc' := 97) rfl rfl rfl ?_
          have q6 : xR0 0 5 = some 200 ∧ xS0 L 200 = (9, 0) := (kf_11_5 (show xS0 L 0 = (11, 0) from rfl))
          refine w_getR (pc' := 100) rfl rfl rfl rfl (show xS0 L 0 = (11, 0) from rfl) q6.1 ?_
          refine w_getI (pc' := 103) rfl rfl rfl rfl rfl q6.2 ?_
          exact w_ireturn rfl rfl h
        replace h := h.2 hs0
        by_cases hs1 : x2 = 1
        · replace h := h.1 hs1
          refine w_ts (o := 34) (t := 104) rfl (by rw [hs1]; decide) (by rw [hs1]; rfl) rfl ?_
          refine w_aload_n (pc' := 105) rfl rfl rfl ?_
          have q7 : xR0 0 5 = some 200 ∧ xS0 L 200 = (9, 0) := (kf_11_5 (show xS0 L 0 = (11, 0) from rfl))
          refine w_getR (pc' := 108) rfl rfl rfl rfl (show xS0 L 0 = (11, 0) from rfl) q7.1 ?_
          refine w_getI (pc' := 111) rfl rfl rfl rfl rfl q7.2 ?_
          exact w_ireturn rfl rfl h
        replace h := h.2 hs1
        by_cases hs2 : x2 = 2
        · replace h := h.1 hs2
          refine w_ts (o := 42) (t := 112) rfl (by rw [hs2]; decide) (by rw [hs2]; rfl) rfl ?_
          refine w_aload_n (pc' := 113) rfl rfl rfl ?_
          have q8 : xR0 0 5 = some 200 ∧ xS0 L 200 = (9, 0) := (kf_11_5 (show xS0 L 0 = (11, 0) from rfl))
          refine w_getR (pc' := 116) rfl rfl rfl rfl (show xS0 L 0 = (11, 0) from rfl) q8.1 ?_
          refine w_cv (pc' := 119) (cm := xm_Tt_slowest) (as := []) (a := 200) (rest := []) rfl rfl rfl  (xa_Tt_slowest (Nat.le_of_ble_eq_true rfl)) q8.2 rfl (CI.k h fun v2 g3 h => ?_)
          show Wp L xs xm_TP_pace 119 [.ref 0, .int x1, .int x2, .ref (7 + 21 * k1), .retAddr 0] [.int v2] g3 _
          exact w_ireturn rfl rfl h
        replace h := h.2 hs2
        refine w_tsd (t := 120) rfl ?_ rfl ?_
        · have z0 : (x2).toInt ≠ 0 := fun e => hs0 (Int32.toInt_inj.mp e); have z1 : (x2).toInt ≠ 1 := fun e => hs1 (Int32.toInt_inj.mp e); have z2 : (x2).toInt ≠ 2 := fun e => hs2 (Int32.toInt_inj.mp e); omega
        refine w_iload_n (pc' := 121) rfl rfl rfl ?_
        refine w_bipush (pc' := 123) rfl rfl (v := 11) rfl ?_
        refine w_br2 (pc' := 126) (t := 132) rfl rfl rfl ic_lt (fun hc => ?_) (fun hc => ?_)
        · replace h := h.1 hc
          refine w_bipush (pc' := 134) rfl rfl (v := (-2)) rfl ?_
          exact w_ireturn rfl rfl h
        · replace h := h.2 hc
          refine w_iload_n (pc' := 127) rfl rfl rfl ?_
          refine w_bipush (pc' := 129) rfl rfl (v := 20) rfl ?_
          refine w_br2 (pc' := 132) (t := 135) rfl rfl rfl ic_le (fun hc => ?_) (fun hc => ?_)
          · replace h := h.2 hc
            refine w_aload_n (pc' := 136) rfl rfl rfl ?_
            have q9 : xR0 0 5 = some 200 ∧ xS0 L 200 = (9, 0) := (kf_11_5 (show xS0 L 0 = (11, 0) from rfl))
            refine w_getR (pc' := 139) rfl rfl rfl rfl (show xS0 L 0 = (11, 0) from rfl) q9.1 ?_
            refine w_iload_n (pc' := 140) rfl rfl rfl ?_
            refine w_bipush (pc' := 142) rfl rfl (v := 10) rfl ?_
            refine w_isub (pc' := 143) rfl rfl ?_
            refine w_cv (pc' := 146) (cm := xm_Tt_doneAt) (as := [.int (x2 - 10)]) (a := 200) (rest := []) rfl rfl rfl  (xa_Tt_doneAt (Nat.le_of_ble_eq_true rfl)) q9.2 rfl (CI.k h fun v3 g4 h => ?_)
            show Wp L xs xm_TP_pace 146 [.ref 0, .int x1, .int x2, .ref (7 + 21 * k1), .retAddr 0] [.int v3] g4 _
            refine w_istore (pc' := 148) rfl rfl (xl' := [.ref 0, .int x1, .int x2, .ref (7 + 21 * k1), .int v3]) rfl ?_
            refine w_iload (pc' := 150) rfl rfl rfl ?_
            refine w_ldc (pc' := 152) rfl rfl (v := 1000000) rfl ?_
            refine w_br2 (pc' := 155) (t := 159) rfl rfl rfl ic_ne (fun hc => ?_) (fun hc => ?_)
            · replace h := h.2 hc
              refine w_iload (pc' := 161) rfl rfl rfl ?_
              exact w_ireturn rfl rfl h
            · replace h := h.1 (Classical.not_not.mp hc)
              refine w_iconst (pc' := 156) rfl rfl (v := (-1)) rfl ?_
              refine w_goto (pc' := 161) rfl rfl ?_
              exact w_ireturn rfl rfl h
          · replace h := h.1 (Classical.not_not.mp hc)
            refine w_bipush (pc' := 134) rfl rfl (v := (-2)) rfl ?_
            exact w_ireturn rfl rfl h
      · replace h := h.1 (Classical.not_not.mp hc)
        refine w_aload_n (pc' := 45) rfl rfl rfl ?_
        have q10 : xR0 0 5 = some 200 ∧ xS0 L 200 = (9, 0) := (kf_11_5 (show xS0 L 0 = (11, 0) from rfl))
        refine w_getR (pc' := 48) rfl rfl rfl rfl (show xS0 L 0 = (11, 0) from rfl) q10.1 ?_
        refine w_aload_n (pc' := 49) rfl rfl rfl ?_
        refine w_cv (pc' := 52) (cm := xm_Tt_spareOnes) (as := [.ref (7 + 21 * k1)]) (a := 200) (rest := []) rfl rfl rfl  (xa_Tt_spareOnes (Nat.le_of_ble_eq_true rfl)) q10.2 rfl (CI.k h fun v4 g5 h => ?_)
        show Wp L xs xm_TP_pace 52 [.ref 0, .int x1, .int x2, .ref (7 + 21 * k1), .retAddr 0] [.int v4] g5 _
        exact w_ireturn rfl rfl h
    · replace h := h.1 (Classical.not_not.mp hc)
      refine w_aload_n (pc' := 31) rfl rfl rfl ?_
      have q11 : xR0 0 5 = some 200 ∧ xS0 L 200 = (9, 0) := (kf_11_5 (show xS0 L 0 = (11, 0) from rfl))
      refine w_getR (pc' := 34) rfl rfl rfl rfl (show xS0 L 0 = (11, 0) from rfl) q11.1 ?_
      refine w_aload_n (pc' := 35) rfl rfl rfl ?_
      refine w_cv (pc' := 38) (cm := xm_Tt_tightest) (as := [.ref (7 + 21 * k1)]) (a := 200) (rest := []) rfl rfl rfl  (xa_Tt_tightest (Nat.le_of_ble_eq_true rfl)) q11.2 rfl (CI.k h fun v5 g6 h => ?_)
      show Wp L xs xm_TP_pace 38 [.ref 0, .int x1, .int x2, .ref (7 + 21 * k1), .retAddr 0] [.int v5] g6 _
      exact w_ireturn rfl rfl h
  · replace h := h.1 (Classical.not_not.mp hc)
    refine w_bipush (pc' := 14) rfl rfl (v := (-2)) rfl ?_
    exact w_ireturn rfl rfl h
theorem t_TP_behind_0 {L : Nat} {xs : Nat → Int32} {x1 : Int32} {x2 : Int32} {x3 : Int32} {f : Hp} {Q : Int32 → Hp → Prop}  (h : CI L xs xm_To_has [.ref 1, .int 0, .int x1] f (fun v1 g1 => ((v1 = 0 → Q (-1) g1) ∧ (¬ v1 = 0 → ∃ k1 : Nat, x1 = iN k1 ∧ k1 < 2 ∧ ((x2 < 0 → Q (-1) g1) ∧ (¬ x2 < 0 → (((g1 (7 + 21 * k1) 4) < x2 → Q (-1) g1) ∧ (¬ (g1 (7 + 21 * k1) 4) < x2 → CV L xs xm_Co_runFirst [.ref (7 + 21 * k1), .int x2, .ref 255] g1 (fun g2 => ((x3 = 0 → CI L xs xm_Su_rootOf [.ref 249, .ref 255] g2 (fun v2 g3 => Q v2 g3)) ∧ (¬ x3 = 0 → ((x3 < 10 → Q (-1) g2) ∧ (¬ x3 < 10 → ((x3 < 18 → ∃ k2 : Nat, (x3 - 10) = iN k2 ∧ k2 < 8 ∧ Q (g2 255 k2) g2) ∧ (¬ x3 < 18 → Q (-1) g2))))))))))))))) : CI L xs xm_TP_behind [.ref 0, .int x1, .int x2, .int x3] f Q := by
  show Wp L xs xm_TP_behind 0 [.ref 0, .int x1, .int x2, .int x3, .retAddr 0] [] f (QI Q)
  refine w_aload_n (pc' := 1) rfl rfl rfl ?_
  have q1 : xR0 0 0 = some 1 ∧ xS0 L 1 = (10, 0) := (kf_11_0 (show xS0 L 0 = (11, 0) from rfl))
  refine w_getR (pc' := 4) rfl rfl rfl rfl (show xS0 L 0 = (11, 0) from rfl) q1.1 ?_
  refine w_iconst (pc' := 5) rfl rfl (v := 0) rfl ?_
  refine w_iload_n (pc' := 6) rfl rfl rfl ?_
  refine w_cv (pc' := 9) (cm := xm_To_has) (as := [.int 0, .int x1]) (a := 1) (rest := []) rfl rfl rfl  (xa_To_has (Nat.le_of_ble_eq_true rfl)) q1.2 rfl (CI.k h fun v1 g1 h => ?_)
  show Wp L xs xm_TP_behind 9 [.ref 0, .int x1, .int x2, .int x3, .retAddr 0] [.int v1] g1 _
  refine w_br (pc' := 12) (t := 14) rfl rfl rfl ic_ne (fun hc => ?_) (fun hc => ?_)
  · replace h := h.2 hc
    refine w_aload_n (pc' := 15) rfl rfl rfl ?_
    have q2 : xR0 0 0 = some 1 ∧ xS0 L 1 = (10, 0) := (kf_11_0 (show xS0 L 0 = (11, 0) from rfl))
    refine w_getR (pc' := 18) rfl rfl rfl rfl (show xS0 L 0 = (11, 0) from rfl) q2.1 ?_
    have q3 : xR0 1 5 = some 4 ∧ xS0 L 4 = (26, 2) := (kf_10_5 q2.2)
    refine w_getR (pc' := 21) rfl rfl rfl rfl q2.2 q3.1 ?_
    refine w_iload_n (pc' := 22) rfl rfl rfl ?_
    obtain ⟨k1, ek1, bk1, h⟩ := h
    have q4 : xR0 4 k1 = some (7 + 21 * k1) ∧ xS0 L (7 + 21 * k1) = (1, 0) := ke_26 q3.2 bk1
    refine w_aaload (pc' := 23) (i := k1) rfl rfl q3.2 (by omega) ek1 bk1 (by omega) q4.1 ?_
    refine w_astore (pc' := 25) rfl rfl (xl' := [.ref 0, .int x1, .int x2, .int x3, .ref (7 + 21 * k1)]) rfl ?_
    refine w_iload_n (pc' := 26) rfl rfl rfl ?_
    refine w_br (pc' := 29) (t := 38) rfl rfl rfl ic_lt (fun hc => ?_) (fun hc => ?_)
    · replace h := h.1 hc
      refine w_iconst (pc' := 39) rfl rfl (v := (-1)) rfl ?_
      exact w_ireturn rfl rfl h
    · replace h := h.2 hc
      refine w_iload_n (pc' := 30) rfl rfl rfl ?_
      refine w_aload (pc' := 32) rfl rfl rfl ?_
      refine w_getI (pc' := 35) rfl rfl rfl rfl rfl q4.2 ?_
      refine w_br2 (pc' := 38) (t := 40) rfl rfl rfl ic_le (fun hc => ?_) (fun hc => ?_)
      · replace h := h.2 hc
        refine w_aload (pc' := 42) rfl rfl rfl ?_
        refine w_iload_n (pc' := 43) rfl rfl rfl ?_
        refine w_aload_n (pc' := 44) rfl rfl rfl ?_
        have q5 : xR0 0 9 = some 255 ∧ xS0 L 255 = (20, 8) := (kf_11_9 (show xS0 L 0 = (11, 0) from rfl))
        refine w_getR (pc' := 47) rfl rfl rfl rfl (show xS0 L 0 = (11, 0) from rfl) q5.1 ?_
        refine w_cv (pc' := 50) (cm := xm_Co_runFirst) (as := [.int x2, .ref 255]) (a := (7 + 21 * k1)) (rest := []) rfl rfl rfl  (xa_Co_runFirst (Nat.le_of_ble_eq_true rfl)) q4.2 rfl (CV.k h fun g2 h => ?_)
        show Wp L xs xm_TP_behind 50 [.ref 0, .int x1, .int x2, .int x3, .ref (7 + 21 * k1)] [] g2 _
        refine w_iload_n (pc' := 51) rfl rfl rfl ?_
        refine w_br (pc' := 54) (t := 66) rfl rfl rfl ic_ne (fun hc => ?_) (fun hc => ?_)
        · replace h := h.2 hc
          refine w_iload_n (pc' := 67) rfl rfl rfl ?_
          refine w_bipush (pc' := 69) rfl rfl (v := 10) rfl ?_
          refine w_br2 (pc' := 72) (t := 90) rfl rfl rfl ic_lt (fun hc => ?_) (fun hc => ?_)
          · replace h := h.1 hc
            refine w_iconst (pc' := 91) rfl rfl (v := (-1)) rfl ?_
            exact w_ireturn rfl rfl h
          · replace h := h.2 hc
            refine w_iload_n (pc' := 73) rfl rfl rfl ?_
            refine w_bipush (pc' := 75) rfl rfl (v := 18) rfl ?_
            refine w_br2 (pc' := 78) (t := 90) rfl rfl rfl ic_ge (fun hc => ?_) (fun hc => ?_)
            · replace h := h.2 hc
              refine w_iconst (pc' := 91) rfl rfl (v := (-1)) rfl ?_
              exact w_ireturn rfl rfl h
            · replace h := h.1 (Classical.not_not.mp hc)
              refine w_aload_n (pc' := 79) rfl rfl rfl ?_
              have q6 : xR0 0 9 = some 255 ∧ xS0 L 255 = (20, 8) := (kf_11_9 (show xS0 L 0 = (11, 0) from rfl))
              refine w_getR (pc' := 82) rfl rfl rfl rfl (show xS0 L 0 = (11, 0) from rfl) q6.1 ?_
              refine w_iload_n (pc' := 83) rfl rfl rfl ?_
              refine w_bipush (pc' := 85) rfl rfl (v := 10) rfl ?_
              refine w_isub (pc' := 86) rfl rfl ?_
              obtain ⟨k2, ek2, bk2, h⟩ := h
              refine w_iaload (pc' := 87) (i := k2) rfl rfl q6.2 ek2 bk2 (by omega) ?_
              refine w_goto (pc' := 91) rfl rfl ?_
              exact w_ireturn rfl rfl h
        · replace h := h.1 (Classical.not_not.mp hc)
          refine w_aload_n (pc' := 55) rfl rfl rfl ?_
          have q7 : xR0 0 7 = some 249 ∧ xS0 L 249 = (7, 0) := (kf_11_7 (show xS0 L 0 = (11, 0) from rfl))
          refine w_getR (pc' := 58) rfl rfl rfl rfl (show xS0 L 0 = (11, 0) from rfl) q7.1 ?_
          refine w_aload_n (pc' := 59) rfl rfl rfl ?_
          have q8 : xR0 0 9 = some 255 ∧ xS0 L 255 = (20, 8) := (kf_11_9 (show xS0 L 0 = (11, 0) from rfl))
          refine w_getR (pc' := 62) rfl rfl rfl rfl (show xS0 L 0 = (11, 0) from rfl) q8.1 ?_
          refine w_cv (pc' := 65) (cm := xm_Su_rootOf) (as := [.ref 255]) (a := 249) (rest := []) rfl rfl rfl  (xa_Su_rootOf (Nat.le_of_ble_eq_true rfl)) q7.2 rfl (CI.k h fun v2 g3 h => ?_)
          show Wp L xs xm_TP_behind 65 [.ref 0, .int x1, .int x2, .int x3, .ref (7 + 21 * k1)] [.int v2] g3 _
          exact w_ireturn rfl rfl h
      · replace h := h.1 (Classical.not_not.mp hc)
        refine w_iconst (pc' := 39) rfl rfl (v := (-1)) rfl ?_
        exact w_ireturn rfl rfl h
  · replace h := h.1 (Classical.not_not.mp hc)
    refine w_iconst (pc' := 13) rfl rfl (v := (-1)) rfl ?_
    exact w_ireturn rfl rfl h
theorem t_TP_blind_0 {L : Nat} {xs : Nat → Int32} {x1 : Int32} {x2 : Int32} {f : Hp} {Q : Int32 → Hp → Prop}  (h : CI L xs xm_To_has [.ref 1, .int 0, .int x1] f (fun v1 g1 => ((v1 = 0 → Q (-2) g1) ∧ (¬ v1 = 0 → ∃ k1 : Nat, x1 = iN k1 ∧ k1 < 2 ∧ ((x2 = 0 → CI L xs xm_TP_blindOrders [.ref 0, .ref (7 + 21 * k1)] g1 (fun v2 g2 => Q v2 g2)) ∧ (¬ x2 = 0 → ((x2 = 1 → CI L xs xm_TP_changedNodes [.ref 0, .ref (7 + 21 * k1)] g1 (fun v3 g3 => Q v3 g3)) ∧ (¬ x2 = 1 → ((x2 = 2 → CI L xs xm_TP_richest [.ref 0, .ref (7 + 21 * k1)] g1 (fun v4 g4 => Q v4 g4)) ∧ (¬ x2 = 2 → Q (-2) g1)))))))))) : CI L xs xm_TP_blind [.ref 0, .int x1, .int x2] f Q := by
  show Wp L xs xm_TP_blind 0 [.ref 0, .int x1, .int x2, .retAddr 0] [] f (QI Q)
  refine w_aload_n (pc' := 1) rfl rfl rfl ?_
  have q1 : xR0 0 0 = some 1 ∧ xS0 L 1 = (10, 0) := (kf_11_0 (show xS0 L 0 = (11, 0) from rfl))
  refine w_getR (pc' := 4) rfl rfl rfl rfl (show xS0 L 0 = (11, 0) from rfl) q1.1 ?_
  refine w_iconst (pc' := 5) rfl rfl (v := 0) rfl ?_
  refine w_iload_n (pc' := 6) rfl rfl rfl ?_
  refine w_cv (pc' := 9) (cm := xm_To_has) (as := [.int 0, .int x1]) (a := 1) (rest := []) rfl rfl rfl  (xa_To_has (Nat.le_of_ble_eq_true rfl)) q1.2 rfl (CI.k h fun v1 g1 h => ?_)
  show Wp L xs xm_TP_blind 9 [.ref 0, .int x1, .int x2, .retAddr 0] [.int v1] g1 _
  refine w_br (pc' := 12) (t := 15) rfl rfl rfl ic_ne (fun hc => ?_) (fun hc => ?_)
  · replace h := h.2 hc
    refine w_aload_n (pc' := 16) rfl rfl rfl ?_
    have q2 : xR0 0 0 = some 1 ∧ xS0 L 1 = (10, 0) := (kf_11_0 (show xS0 L 0 = (11, 0) from rfl))
    refine w_getR (pc' := 19) rfl rfl rfl rfl (show xS0 L 0 = (11, 0) from rfl) q2.1 ?_
    have q3 : xR0 1 5 = some 4 ∧ xS0 L 4 = (26, 2) := (kf_10_5 q2.2)
    refine w_getR (pc' := 22) rfl rfl rfl rfl q2.2 q3.1 ?_
    refine w_iload_n (pc' := 23) rfl rfl rfl ?_
    obtain ⟨k1, ek1, bk1, h⟩ := h
    have q4 : xR0 4 k1 = some (7 + 21 * k1) ∧ xS0 L (7 + 21 * k1) = (1, 0) := ke_26 q3.2 bk1
    refine w_aaload (pc' := 24) (i := k1) rfl rfl q3.2 (by omega) ek1 bk1 (by omega) q4.1 ?_
    refine w_astore_n (pc' := 25) rfl rfl (xl' := [.ref 0, .int x1, .int x2, .ref (7 + 21 * k1)]) rfl ?_
    refine w_iload_n (pc' := 26) rfl rfl rfl ?_
    by_cases hs0 : x2 = 0
    · replace h := h.1 hs0
      refine w_ts (o := 26) (t := 52) rfl (by rw [hs0]; decide) (by rw [hs0]; rfl) rfl ?_
      refine w_aload_n (pc' := 53) rfl rfl rfl ?_
      refine w_aload_n (pc' := 54) rfl rfl rfl ?_
      refine w_cv (pc' := 57) (cm := xm_TP_blindOrders) (as := [.ref (7 + 21 * k1)]) (a := 0) (rest := []) rfl rfl rfl  (xa_TP_blindOrders (Nat.le_of_ble_eq_true rfl)) (show xS0 L 0 = (11, 0) from rfl) rfl (CI.k h fun v2 g2 h => ?_)
      show Wp L xs xm_TP_blind 57 [.ref 0, .int x1, .int x2, .ref (7 + 21 * k1)] [.int v2] g2 _
      exact w_ireturn rfl rfl h
    replace h := h.2 hs0
    by_cases hs1 : x2 = 1
    · replace h := h.1 hs1
      refine w_ts (o := 32) (t := 58) rfl (by rw [hs1]; decide) (by rw [hs1]; rfl) rfl ?_
      refine w_aload_n (pc' := 59) rfl rfl rfl ?_
      refine w_aload_n (pc' := 60) rfl rfl rfl ?_
      refine w_cv (pc' := 63) (cm := xm_TP_changedNodes) (as := [.ref (7 + 21 * k1)]) (a := 0) (rest := []) rfl rfl rfl  (xa_TP_changedNodes (Nat.le_of_ble_eq_true rfl)) (show xS0 L 0 = (11, 0) from rfl) rfl (CI.k h fun v3 g3 h => ?_)
      show Wp L xs xm_TP_blind 63 [.ref 0, .int x1, .int x2, .ref (7 + 21 * k1)] [.int v3] g3 _
      exact w_ireturn rfl rfl h
    replace h := h.2 hs1
    by_cases hs2 : x2 = 2
    · replace h := h.1 hs2
      refine w_ts (o := 38) (t := 64) rfl (by rw [hs2]; decide) (by rw [hs2]; rfl) rfl ?_
      refine w_aload_n (pc' := 65) rfl rfl rfl ?_
      refine w_aload_n (pc' := 66) rfl rfl rfl ?_
      refine w_cv (pc' := 69) (cm := xm_TP_richest) (as := [.ref (7 + 21 * k1)]) (a := 0) (rest := []) rfl rfl rfl  (xa_TP_richest (Nat.le_of_ble_eq_true rfl)) (show xS0 L 0 = (11, 0) from rfl) rfl (CI.k h fun v4 g4 h => ?_)
      show Wp L xs xm_TP_blind 69 [.ref 0, .int x1, .int x2, .ref (7 + 21 * k1)] [.int v4] g4 _
      exact w_ireturn rfl rfl h
    replace h := h.2 hs2
    refine w_tsd (t := 70) rfl ?_ rfl ?_
    · have z0 : (x2).toInt ≠ 0 := fun e => hs0 (Int32.toInt_inj.mp e); have z1 : (x2).toInt ≠ 1 := fun e => hs1 (Int32.toInt_inj.mp e); have z2 : (x2).toInt ≠ 2 := fun e => hs2 (Int32.toInt_inj.mp e); omega
    refine w_bipush (pc' := 72) rfl rfl (v := (-2)) rfl ?_
    exact w_ireturn rfl rfl h
  · replace h := h.1 (Classical.not_not.mp hc)
    refine w_bipush (pc' := 14) rfl rfl (v := (-2)) rfl ?_
    exact w_ireturn rfl rfl h
theorem t_TP_blindOrders_0 {L : Nat} {xs : Nat → Int32} {x1 : Nat} {f : Hp} {Q : Int32 → Hp → Prop} (qx1 : xS0 L x1 = (1, 0)) (h : CI L xs xm_Su_rootOf [.ref 249, .ref (x1 + 1)] f (fun v1 g1 => Wp L xs xm_TP_blindOrders 17 [.ref 0, .ref x1, .int v1, .int 0, .int 0] [] g1 (QI Q))) : CI L xs xm_TP_blindOrders [.ref 0, .ref x1] f Q := by
  show Wp L xs xm_TP_blindOrders 0 [.ref 0, .ref x1, .retAddr 0, .retAddr 0, .retAddr 0] [] f (QI Q)
  refine w_aload_n (pc' := 1) rfl rfl rfl ?_
  have q1 : xR0 0 7 = some 249 ∧ xS0 L 249 = (7, 0) := (kf_11_7 (show xS0 L 0 = (11, 0) from rfl))
  refine w_getR (pc' := 4) rfl rfl rfl rfl (show xS0 L 0 = (11, 0) from rfl) q1.1 ?_
  refine w_aload_n (pc' := 5) rfl rfl rfl ?_
  have q2 : xR0 x1 5 = some (x1 + 1) ∧ xS0 L (x1 + 1) = (20, 8) := (kf_1_5 qx1)
  refine w_getR (pc' := 8) rfl rfl rfl rfl qx1 q2.1 ?_
  refine w_cv (pc' := 11) (cm := xm_Su_rootOf) (as := [.ref (x1 + 1)]) (a := 249) (rest := []) rfl rfl rfl  (xa_Su_rootOf (Nat.le_of_ble_eq_true rfl)) q1.2 rfl (CI.k h fun v1 g1 h => ?_)
  show Wp L xs xm_TP_blindOrders 11 [.ref 0, .ref x1, .retAddr 0, .retAddr 0, .retAddr 0] [.int v1] g1 _
  refine w_istore_n (pc' := 12) rfl rfl (xl' := [.ref 0, .ref x1, .int v1, .retAddr 0, .retAddr 0]) rfl ?_
  refine w_iconst (pc' := 13) rfl rfl (v := 0) rfl ?_
  refine w_istore_n (pc' := 14) rfl rfl (xl' := [.ref 0, .ref x1, .int v1, .int 0, .retAddr 0]) rfl ?_
  refine w_iconst (pc' := 15) rfl rfl (v := 0) rfl ?_
  refine w_istore (pc' := 17) rfl rfl (xl' := [.ref 0, .ref x1, .int v1, .int 0, .int 0]) rfl ?_
  exact h
theorem t_TP_blindOrders_17 {L : Nat} {xs : Nat → Int32} {x1 : Nat} {x2 : Int32} {x3 : Int32} {x4 : Int32} {f : Hp} {Q : Int32 → Hp → Prop} (qx1 : xS0 L x1 = (1, 0)) (h : ((x4 < (f x1 4) → CV L xs xm_TP_copyAccounts [.ref (x1 + 1), .ref 255] f (fun g1 => CV L xs xm_Co_runOrder [.ref x1, .int x4, .ref 255] g1 (fun g2 => CI L xs xm_Su_rootOf [.ref 249, .ref 255] g2 (fun v1 g3 => ((v1 = x2 → Wp L xs xm_TP_blindOrders 17 [.ref 0, .ref x1, .int x2, .int (x3 ||| (1 <<< (x4 &&& 31))), .int (x4 + 1)] [] g3 (QI Q)) ∧ (¬ v1 = x2 → Wp L xs xm_TP_blindOrders 17 [.ref 0, .ref x1, .int x2, .int x3, .int (x4 + 1)] [] g3 (QI Q))))))) ∧ (¬ x4 < (f x1 4) → Q x3 f))) : Wp L xs xm_TP_blindOrders 17 [.ref 0, .ref x1, .int x2, .int x3, .int x4] [] f (QI Q) := by
  refine w_iload (pc' := 19) rfl rfl rfl ?_
  refine w_aload_n (pc' := 20) rfl rfl rfl ?_
  refine w_getI (pc' := 23) rfl rfl rfl rfl rfl qx1 ?_
  refine w_br2 (pc' := 26) (t := 75) rfl rfl rfl ic_ge (fun hc => ?_) (fun hc => ?_)
  · replace h := h.2 hc
    refine w_iload_n (pc' := 76) rfl rfl rfl ?_
    exact w_ireturn rfl rfl h
  · replace h := h.1 (Classical.not_not.mp hc)
    refine w_aload_n (pc' := 27) rfl rfl rfl ?_
    have q1 : xR0 x1 5 = some (x1 + 1) ∧ xS0 L (x1 + 1) = (20, 8) := (kf_1_5 qx1)
    refine w_getR (pc' := 30) rfl rfl rfl rfl qx1 q1.1 ?_
    refine w_aload_n (pc' := 31) rfl rfl rfl ?_
    have q2 : xR0 0 9 = some 255 ∧ xS0 L 255 = (20, 8) := (kf_11_9 (show xS0 L 0 = (11, 0) from rfl))
    refine w_getR (pc' := 34) rfl rfl rfl rfl (show xS0 L 0 = (11, 0) from rfl) q2.1 ?_
    refine w_cs (pc' := 37) (cm := xm_TP_copyAccounts) (as := [.ref (x1 + 1), .ref 255]) (rest := []) rfl rfl rfl (Or.inl rfl) (xa_TP_copyAccounts (Nat.le_of_ble_eq_true rfl)) (CV.k h fun g1 h => ?_)
    show Wp L xs xm_TP_blindOrders 37 [.ref 0, .ref x1, .int x2, .int x3, .int x4] [] g1 _
    refine w_aload_n (pc' := 38) rfl rfl rfl ?_
    refine w_iload (pc' := 40) rfl rfl rfl ?_
    refine w_aload_n (pc' := 41) rfl rfl rfl ?_
    have q3 : xR0 0 9 = some 255 ∧ xS0 L 255 = (20, 8) := (kf_11_9 (show xS0 L 0 = (11, 0) from rfl))
    refine w_getR (pc' := 44) rfl rfl rfl rfl (show xS0 L 0 = (11, 0) from rfl) q3.1 ?_
    refine w_cv (pc' := 47) (cm := xm_Co_runOrder) (as := [.int x4, .ref 255]) (a := x1) (rest := []) rfl rfl rfl  (xa_Co_runOrder (Nat.le_of_ble_eq_true rfl)) qx1 rfl (CV.k h fun g2 h => ?_)
    show Wp L xs xm_TP_blindOrders 47 [.ref 0, .ref x1, .int x2, .int x3, .int x4] [] g2 _
    refine w_aload_n (pc' := 48) rfl rfl rfl ?_
    have q4 : xR0 0 7 = some 249 ∧ xS0 L 249 = (7, 0) := (kf_11_7 (show xS0 L 0 = (11, 0) from rfl))
    refine w_getR (pc' := 51) rfl rfl rfl rfl (show xS0 L 0 = (11, 0) from rfl) q4.1 ?_
    refine w_aload_n (pc' := 52) rfl rfl rfl ?_
    have q5 : xR0 0 9 = some 255 ∧ xS0 L 255 = (20, 8) := (kf_11_9 (show xS0 L 0 = (11, 0) from rfl))
    refine w_getR (pc' := 55) rfl rfl rfl rfl (show xS0 L 0 = (11, 0) from rfl) q5.1 ?_
    refine w_cv (pc' := 58) (cm := xm_Su_rootOf) (as := [.ref 255]) (a := 249) (rest := []) rfl rfl rfl  (xa_Su_rootOf (Nat.le_of_ble_eq_true rfl)) q4.2 rfl (CI.k h fun v1 g3 h => ?_)
    show Wp L xs xm_TP_blindOrders 58 [.ref 0, .ref x1, .int x2, .int x3, .int x4] [.int v1] g3 _
    refine w_iload_n (pc' := 59) rfl rfl rfl ?_
    refine w_br2 (pc' := 62) (t := 69) rfl rfl rfl ic_ne (fun hc => ?_) (fun hc => ?_)
    · replace h := h.2 hc
      refine w_iinc (pc' := 72) rfl rfl rfl (v := (x4 + 1)) rfl (xl' := [.ref 0, .ref x1, .int x2, .int x3, .int (x4 + 1)]) rfl ?_
      refine w_goto (pc' := 17) rfl rfl ?_
      exact h
    · replace h := h.1 (Classical.not_not.mp hc)
      refine w_iload_n (pc' := 63) rfl rfl rfl ?_
      refine w_iconst (pc' := 64) rfl rfl (v := 1) rfl ?_
      refine w_iload (pc' := 66) rfl rfl rfl ?_
      refine w_ishl (pc' := 67) rfl rfl ?_
      refine w_ior (pc' := 68) rfl rfl ?_
      refine w_istore_n (pc' := 69) rfl rfl (xl' := [.ref 0, .ref x1, .int x2, .int (x3 ||| (1 <<< (x4 &&& 31))), .int x4]) rfl ?_
      refine w_iinc (pc' := 72) rfl rfl rfl (v := (x4 + 1)) rfl (xl' := [.ref 0, .ref x1, .int x2, .int (x3 ||| (1 <<< (x4 &&& 31))), .int (x4 + 1)]) rfl ?_
      refine w_goto (pc' := 17) rfl rfl ?_
      exact h
theorem t_TP_changedNodes_0 {L : Nat} {xs : Nat → Int32} {x1 : Nat} {f : Hp} {Q : Int32 → Hp → Prop} (qx1 : xS0 L x1 = (1, 0)) (h : CV L xs xm_Co_runFirst [.ref x1, .int (f x1 4), .ref 255] f (fun g1 => CI L xs xm_Su_unlikeNodes [.ref 249, .ref (x1 + 1), .ref 255] g1 (fun v1 g2 => Q v1 g2))) : CI L xs xm_TP_changedNodes [.ref 0, .ref x1] f Q := by
  show Wp L xs xm_TP_changedNodes 0 [.ref 0, .ref x1] [] f (QI Q)
  refine w_aload_n (pc' := 1) rfl rfl rfl ?_
  refine w_aload_n (pc' := 2) rfl rfl rfl ?_
  refine w_getI (pc' := 5) rfl rfl rfl rfl rfl qx1 ?_
  refine w_aload_n (pc' := 6) rfl rfl rfl ?_
  have q1 : xR0 0 9 = some 255 ∧ xS0 L 255 = (20, 8) := (kf_11_9 (show xS0 L 0 = (11, 0) from rfl))
  refine w_getR (pc' := 9) rfl rfl rfl rfl (show xS0 L 0 = (11, 0) from rfl) q1.1 ?_
  refine w_cv (pc' := 12) (cm := xm_Co_runFirst) (as := [.int (f x1 4), .ref 255]) (a := x1) (rest := []) rfl rfl rfl  (xa_Co_runFirst (Nat.le_of_ble_eq_true rfl)) qx1 rfl (CV.k h fun g1 h => ?_)
  show Wp L xs xm_TP_changedNodes 12 [.ref 0, .ref x1] [] g1 _
  refine w_aload_n (pc' := 13) rfl rfl rfl ?_
  have q2 : xR0 0 7 = some 249 ∧ xS0 L 249 = (7, 0) := (kf_11_7 (show xS0 L 0 = (11, 0) from rfl))
  refine w_getR (pc' := 16) rfl rfl rfl rfl (show xS0 L 0 = (11, 0) from rfl) q2.1 ?_
  refine w_aload_n (pc' := 17) rfl rfl rfl ?_
  have q3 : xR0 x1 5 = some (x1 + 1) ∧ xS0 L (x1 + 1) = (20, 8) := (kf_1_5 qx1)
  refine w_getR (pc' := 20) rfl rfl rfl rfl qx1 q3.1 ?_
  refine w_aload_n (pc' := 21) rfl rfl rfl ?_
  have q4 : xR0 0 9 = some 255 ∧ xS0 L 255 = (20, 8) := (kf_11_9 (show xS0 L 0 = (11, 0) from rfl))
  refine w_getR (pc' := 24) rfl rfl rfl rfl (show xS0 L 0 = (11, 0) from rfl) q4.1 ?_
  refine w_cv (pc' := 27) (cm := xm_Su_unlikeNodes) (as := [.ref (x1 + 1), .ref 255]) (a := 249) (rest := []) rfl rfl rfl  (xa_Su_unlikeNodes (Nat.le_of_ble_eq_true rfl)) q2.2 rfl (CI.k h fun v1 g2 h => ?_)
  show Wp L xs xm_TP_changedNodes 27 [.ref 0, .ref x1] [.int v1] g2 _
  exact w_ireturn rfl rfl h
theorem t_TP_richest_0 {L : Nat} {xs : Nat → Int32} {x1 : Nat} {f : Hp} {Q : Int32 → Hp → Prop} (qx1 : xS0 L x1 = (1, 0)) (h : CV L xs xm_Co_runFirst [.ref x1, .int (f x1 4), .ref 255] f (fun g1 => Wp L xs xm_TP_richest 16 [.ref 0, .ref x1, .int 0, .int 1] [] g1 (QI Q))) : CI L xs xm_TP_richest [.ref 0, .ref x1] f Q := by
  show Wp L xs xm_TP_richest 0 [.ref 0, .ref x1, .retAddr 0, .retAddr 0] [] f (QI Q)
  refine w_aload_n (pc' := 1) rfl rfl rfl ?_
  refine w_aload_n (pc' := 2) rfl rfl rfl ?_
  refine w_getI (pc' := 5) rfl rfl rfl rfl rfl qx1 ?_
  refine w_aload_n (pc' := 6) rfl rfl rfl ?_
  have q1 : xR0 0 9 = some 255 ∧ xS0 L 255 = (20, 8) := (kf_11_9 (show xS0 L 0 = (11, 0) from rfl))
  refine w_getR (pc' := 9) rfl rfl rfl rfl (show xS0 L 0 = (11, 0) from rfl) q1.1 ?_
  refine w_cv (pc' := 12) (cm := xm_Co_runFirst) (as := [.int (f x1 4), .ref 255]) (a := x1) (rest := []) rfl rfl rfl  (xa_Co_runFirst (Nat.le_of_ble_eq_true rfl)) qx1 rfl (CV.k h fun g1 h => ?_)
  show Wp L xs xm_TP_richest 12 [.ref 0, .ref x1, .retAddr 0, .retAddr 0] [] g1 _
  refine w_iconst (pc' := 13) rfl rfl (v := 0) rfl ?_
  refine w_istore_n (pc' := 14) rfl rfl (xl' := [.ref 0, .ref x1, .int 0, .retAddr 0]) rfl ?_
  refine w_iconst (pc' := 15) rfl rfl (v := 1) rfl ?_
  refine w_istore_n (pc' := 16) rfl rfl (xl' := [.ref 0, .ref x1, .int 0, .int 1]) rfl ?_
  exact h
theorem t_TP_richest_16 {L : Nat} {xs : Nat → Int32} {x1 : Nat} {x2 : Int32} {x3 : Int32} {f : Hp} {Q : Int32 → Hp → Prop} (qx1 : xS0 L x1 = (1, 0)) (h : ((x3 < 8 → ∃ k1 : Nat, x3 = iN k1 ∧ k1 < 8 ∧ ∃ k2 : Nat, x2 = iN k2 ∧ k2 < 8 ∧ (((f 255 k2) < (f 255 k1) → Wp L xs xm_TP_richest 16 [.ref 0, .ref x1, .int x3, .int (x3 + 1)] [] f (QI Q)) ∧ (¬ (f 255 k2) < (f 255 k1) → Wp L xs xm_TP_richest 16 [.ref 0, .ref x1, .int x2, .int (x3 + 1)] [] f (QI Q)))) ∧ (¬ x3 < 8 → Q x2 f))) : Wp L xs xm_TP_richest 16 [.ref 0, .ref x1, .int x2, .int x3] [] f (QI Q) := by
  refine w_iload_n (pc' := 17) rfl rfl rfl ?_
  refine w_bipush (pc' := 19) rfl rfl (v := 8) rfl ?_
  refine w_br2 (pc' := 22) (t := 45) rfl rfl rfl ic_ge (fun hc => ?_) (fun hc => ?_)
  · replace h := h.2 hc
    refine w_iload_n (pc' := 46) rfl rfl rfl ?_
    exact w_ireturn rfl rfl h
  · replace h := h.1 (Classical.not_not.mp hc)
    refine w_aload_n (pc' := 23) rfl rfl rfl ?_
    have q1 : xR0 0 9 = some 255 ∧ xS0 L 255 = (20, 8) := (kf_11_9 (show xS0 L 0 = (11, 0) from rfl))
    refine w_getR (pc' := 26) rfl rfl rfl rfl (show xS0 L 0 = (11, 0) from rfl) q1.1 ?_
    refine w_iload_n (pc' := 27) rfl rfl rfl ?_
    obtain ⟨k1, ek1, bk1, h⟩ := h
    refine w_iaload (pc' := 28) (i := k1) rfl rfl q1.2 ek1 bk1 (by omega) ?_
    refine w_aload_n (pc' := 29) rfl rfl rfl ?_
    have q2 : xR0 0 9 = some 255 ∧ xS0 L 255 = (20, 8) := (kf_11_9 (show xS0 L 0 = (11, 0) from rfl))
    refine w_getR (pc' := 32) rfl rfl rfl rfl (show xS0 L 0 = (11, 0) from rfl) q2.1 ?_
    refine w_iload_n (pc' := 33) rfl rfl rfl ?_
    obtain ⟨k2, ek2, bk2, h⟩ := h
    refine w_iaload (pc' := 34) (i := k2) rfl rfl q2.2 ek2 bk2 (by omega) ?_
    refine w_br2 (pc' := 37) (t := 39) rfl rfl rfl ic_le (fun hc => ?_) (fun hc => ?_)
    · replace h := h.2 hc
      refine w_iinc (pc' := 42) rfl rfl rfl (v := (x3 + 1)) rfl (xl' := [.ref 0, .ref x1, .int x2, .int (x3 + 1)]) rfl ?_
      refine w_goto (pc' := 16) rfl rfl ?_
      exact h
    · replace h := h.1 (Classical.not_not.mp hc)
      refine w_iload_n (pc' := 38) rfl rfl rfl ?_
      refine w_istore_n (pc' := 39) rfl rfl (xl' := [.ref 0, .ref x1, .int x3, .int x3]) rfl ?_
      refine w_iinc (pc' := 42) rfl rfl rfl (v := (x3 + 1)) rfl (xl' := [.ref 0, .ref x1, .int x3, .int (x3 + 1)]) rfl ?_
      refine w_goto (pc' := 16) rfl rfl ?_
      exact h
theorem t_TP_voices_0 {L : Nat} {xs : Nat → Int32} {x1 : Int32} {x2 : Int32} {x3 : Int32} {f : Hp} {Q : Int32 → Hp → Prop}  (h : ((x3 < 0 → Q (-1) f) ∧ (¬ x3 < 0 → ((x3 < 100 → CI L xs xm_TP_tallies [.ref 0, .int x1, .int x2] f (fun v1 g1 => ((v1 = 0 → Q (-1) g1) ∧ (¬ v1 = 0 → CI L xs xm_Ta_voicesOf [.ref 246, .int x3] g1 (fun v2 g2 => Q v2 g2))))) ∧ (¬ x3 < 100 → Q (-1) f))))) : CI L xs xm_TP_voices [.ref 0, .int x1, .int x2, .int x3] f Q := by
  show Wp L xs xm_TP_voices 0 [.ref 0, .int x1, .int x2, .int x3] [] f (QI Q)
  refine w_iload_n (pc' := 1) rfl rfl rfl ?_
  refine w_br (pc' := 4) (t := 19) rfl rfl rfl ic_lt (fun hc => ?_) (fun hc => ?_)
  · replace h := h.1 hc
    refine w_iconst (pc' := 20) rfl rfl (v := (-1)) rfl ?_
    exact w_ireturn rfl rfl h
  · replace h := h.2 hc
    refine w_iload_n (pc' := 5) rfl rfl rfl ?_
    refine w_bipush (pc' := 7) rfl rfl (v := 100) rfl ?_
    refine w_br2 (pc' := 10) (t := 19) rfl rfl rfl ic_ge (fun hc => ?_) (fun hc => ?_)
    · replace h := h.2 hc
      refine w_iconst (pc' := 20) rfl rfl (v := (-1)) rfl ?_
      exact w_ireturn rfl rfl h
    · replace h := h.1 (Classical.not_not.mp hc)
      refine w_aload_n (pc' := 11) rfl rfl rfl ?_
      refine w_iload_n (pc' := 12) rfl rfl rfl ?_
      refine w_iload_n (pc' := 13) rfl rfl rfl ?_
      refine w_cv (pc' := 16) (cm := xm_TP_tallies) (as := [.int x1, .int x2]) (a := 0) (rest := []) rfl rfl rfl  (xa_TP_tallies (Nat.le_of_ble_eq_true rfl)) (show xS0 L 0 = (11, 0) from rfl) rfl (CI.k h fun v1 g1 h => ?_)
      show Wp L xs xm_TP_voices 16 [.ref 0, .int x1, .int x2, .int x3] [.int v1] g1 _
      refine w_br (pc' := 19) (t := 21) rfl rfl rfl ic_ne (fun hc => ?_) (fun hc => ?_)
      · replace h := h.2 hc
        refine w_aload_n (pc' := 22) rfl rfl rfl ?_
        have q1 : xR0 0 6 = some 246 ∧ xS0 L 246 = (8, 0) := (kf_11_6 (show xS0 L 0 = (11, 0) from rfl))
        refine w_getR (pc' := 25) rfl rfl rfl rfl (show xS0 L 0 = (11, 0) from rfl) q1.1 ?_
        refine w_iload_n (pc' := 26) rfl rfl rfl ?_
        refine w_cv (pc' := 29) (cm := xm_Ta_voicesOf) (as := [.int x3]) (a := 246) (rest := []) rfl rfl rfl  (xa_Ta_voicesOf (Nat.le_of_ble_eq_true rfl)) q1.2 rfl (CI.k h fun v2 g2 h => ?_)
        show Wp L xs xm_TP_voices 29 [.ref 0, .int x1, .int x2, .int x3] [.int v2] g2 _
        exact w_ireturn rfl rfl h
      · replace h := h.1 (Classical.not_not.mp hc)
        refine w_iconst (pc' := 20) rfl rfl (v := (-1)) rfl ?_
        exact w_ireturn rfl rfl h
theorem t_TP_lack_0 {L : Nat} {xs : Nat → Int32} {x1 : Int32} {x2 : Int32} {x3 : Int32} {f : Hp} {Q : Int32 → Hp → Prop}  (h : CI L xs xm_TP_tallies [.ref 0, .int x1, .int x2] f (fun v1 g1 => ((v1 = 0 → Q (-2) g1) ∧ (¬ v1 = 0 → ((x3 = 0 → CI L xs xm_Ta_lacking [.ref 246] g1 (fun v2 g2 => Q v2 g2)) ∧ (¬ x3 = 0 → ((x3 = 1 → CI L xs xm_Ta_unlikeResults [.ref 246] g1 (fun v3 g3 => Q v3 g3)) ∧ (¬ x3 = 1 → ((x3 = 2 → Q (g1 246 3) g1) ∧ (¬ x3 = 2 → Q (-2) g1)))))))))) : CI L xs xm_TP_lack [.ref 0, .int x1, .int x2, .int x3] f Q := by
  show Wp L xs xm_TP_lack 0 [.ref 0, .int x1, .int x2, .int x3] [] f (QI Q)
  refine w_aload_n (pc' := 1) rfl rfl rfl ?_
  refine w_iload_n (pc' := 2) rfl rfl rfl ?_
  refine w_iload_n (pc' := 3) rfl rfl rfl ?_
  refine w_cv (pc' := 6) (cm := xm_TP_tallies) (as := [.int x1, .int x2]) (a := 0) (rest := []) rfl rfl rfl  (xa_TP_tallies (Nat.le_of_ble_eq_true rfl)) (show xS0 L 0 = (11, 0) from rfl) rfl (CI.k h fun v1 g1 h => ?_)
  show Wp L xs xm_TP_lack 6 [.ref 0, .int x1, .int x2, .int x3] [.int v1] g1 _
  refine w_br (pc' := 9) (t := 12) rfl rfl rfl ic_ne (fun hc => ?_) (fun hc => ?_)
  · replace h := h.2 hc
    refine w_iload_n (pc' := 13) rfl rfl rfl ?_
    by_cases hs0 : x3 = 0
    · replace h := h.1 hs0
      refine w_ts (o := 27) (t := 40) rfl (by rw [hs0]; decide) (by rw [hs0]; rfl) rfl ?_
      refine w_aload_n (pc' := 41) rfl rfl rfl ?_
      have q1 : xR0 0 6 = some 246 ∧ xS0 L 246 = (8, 0) := (kf_11_6 (show xS0 L 0 = (11, 0) from rfl))
      refine w_getR (pc' := 44) rfl rfl rfl rfl (show xS0 L 0 = (11, 0) from rfl) q1.1 ?_
      refine w_cv (pc' := 47) (cm := xm_Ta_lacking) (as := []) (a := 246) (rest := []) rfl rfl rfl  (xa_Ta_lacking (Nat.le_of_ble_eq_true rfl)) q1.2 rfl (CI.k h fun v2 g2 h => ?_)
      show Wp L xs xm_TP_lack 47 [.ref 0, .int x1, .int x2, .int x3] [.int v2] g2 _
      exact w_ireturn rfl rfl h
    replace h := h.2 hs0
    by_cases hs1 : x3 = 1
    · replace h := h.1 hs1
      refine w_ts (o := 35) (t := 48) rfl (by rw [hs1]; decide) (by rw [hs1]; rfl) rfl ?_
      refine w_aload_n (pc' := 49) rfl rfl rfl ?_
      have q2 : xR0 0 6 = some 246 ∧ xS0 L 246 = (8, 0) := (kf_11_6 (show xS0 L 0 = (11, 0) from rfl))
      refine w_getR (pc' := 52) rfl rfl rfl rfl (show xS0 L 0 = (11, 0) from rfl) q2.1 ?_
      refine w_cv (pc' := 55) (cm := xm_Ta_unlikeResults) (as := []) (a := 246) (rest := []) rfl rfl rfl  (xa_Ta_unlikeResults (Nat.le_of_ble_eq_true rfl)) q2.2 rfl (CI.k h fun v3 g3 h => ?_)
      show Wp L xs xm_TP_lack 55 [.ref 0, .int x1, .int x2, .int x3] [.int v3] g3 _
      exact w_ireturn rfl rfl h
    replace h := h.2 hs1
    by_cases hs2 : x3 = 2
    · replace h := h.1 hs2
      refine w_ts (o := 43) (t := 56) rfl (by rw [hs2]; decide) (by rw [hs2]; rfl) rfl ?_
      refine w_aload_n (pc' := 57) rfl rfl rfl ?_
      have q3 : xR0 0 6 = some 246 ∧ xS0 L 246 = (8, 0) := (kf_11_6 (show xS0 L 0 = (11, 0) from rfl))
      refine w_getR (pc' := 60) rfl rfl rfl rfl (show xS0 L 0 = (11, 0) from rfl) q3.1 ?_
      refine w_getI (pc' := 63) rfl rfl rfl rfl rfl q3.2 ?_
      exact w_ireturn rfl rfl h
    replace h := h.2 hs2
    refine w_tsd (t := 64) rfl ?_ rfl ?_
    · have z0 : (x3).toInt ≠ 0 := fun e => hs0 (Int32.toInt_inj.mp e); have z1 : (x3).toInt ≠ 1 := fun e => hs1 (Int32.toInt_inj.mp e); have z2 : (x3).toInt ≠ 2 := fun e => hs2 (Int32.toInt_inj.mp e); omega
    refine w_bipush (pc' := 66) rfl rfl (v := (-2)) rfl ?_
    exact w_ireturn rfl rfl h
  · replace h := h.1 (Classical.not_not.mp hc)
    refine w_bipush (pc' := 11) rfl rfl (v := (-2)) rfl ?_
    exact w_ireturn rfl rfl h
theorem t_TP_count_0 {L : Nat} {xs : Nat → Int32} {x1 : Int32} {f : Hp} {Q : Int32 → Hp → Prop}  (h : ((x1 < 0 → Q (-2) f) ∧ (¬ x1 < 0 → ((x1 < 3 → ∃ k1 : Nat, x1 = iN k1 ∧ k1 < 3 ∧ Q (f 3 k1) f) ∧ (¬ x1 < 3 → Q (-2) f))))) : CI L xs xm_TP_count [.ref 0, .int x1] f Q := by
  show Wp L xs xm_TP_count 0 [.ref 0, .int x1] [] f (QI Q)
  refine w_iload_n (pc' := 1) rfl rfl rfl ?_
  refine w_br (pc' := 4) (t := 9) rfl rfl rfl ic_lt (fun hc => ?_) (fun hc => ?_)
  · replace h := h.1 hc
    refine w_bipush (pc' := 11) rfl rfl (v := (-2)) rfl ?_
    refine w_goto (pc' := 23) rfl rfl ?_
    exact w_ireturn rfl rfl h
  · replace h := h.2 hc
    refine w_iload_n (pc' := 5) rfl rfl rfl ?_
    refine w_iconst (pc' := 6) rfl rfl (v := 3) rfl ?_
    refine w_br2 (pc' := 9) (t := 14) rfl rfl rfl ic_lt (fun hc => ?_) (fun hc => ?_)
    · replace h := h.1 hc
      refine w_aload_n (pc' := 15) rfl rfl rfl ?_
      have q1 : xR0 0 0 = some 1 ∧ xS0 L 1 = (10, 0) := (kf_11_0 (show xS0 L 0 = (11, 0) from rfl))
      refine w_getR (pc' := 18) rfl rfl rfl rfl (show xS0 L 0 = (11, 0) from rfl) q1.1 ?_
      have q2 : xR0 1 4 = some 3 ∧ xS0 L 3 = (20, 3) := (kf_10_4 q1.2)
      refine w_getR (pc' := 21) rfl rfl rfl rfl q1.2 q2.1 ?_
      refine w_iload_n (pc' := 22) rfl rfl rfl ?_
      obtain ⟨k1, ek1, bk1, h⟩ := h
      refine w_iaload (pc' := 23) (i := k1) rfl rfl q2.2 ek1 bk1 (by omega) ?_
      exact w_ireturn rfl rfl h
    · replace h := h.2 hc
      refine w_bipush (pc' := 11) rfl rfl (v := (-2)) rfl ?_
      refine w_goto (pc' := 23) rfl rfl ?_
      exact w_ireturn rfl rfl h
theorem t_TP_image_0 {L : Nat} {xs : Nat → Int32} {x1 : Int32} {f : Hp} {Q : Int32 → Hp → Prop}  (h : ((x1 < 0 → Q 0 f) ∧ (¬ x1 < 0 → ((x1 < 3 → ∃ k1 : Nat, x1 = iN k1 ∧ k1 < 3 ∧ CV L xs xm_To_take [.ref (256 + 48 * k1), .ref 1] f (fun g1 => ∀ g2, g2 = xu g1 50 k1 1 → Q 1 g2)) ∧ (¬ x1 < 3 → Q 0 f))))) : CI L xs xm_TP_image [.ref 0, .int x1] f Q := by
  show Wp L xs xm_TP_image 0 [.ref 0, .int x1] [] f (QI Q)
  refine w_iload_n (pc' := 1) rfl rfl rfl ?_
  refine w_br (pc' := 4) (t := 9) rfl rfl rfl ic_lt (fun hc => ?_) (fun hc => ?_)
  · replace h := h.1 hc
    refine w_iconst (pc' := 10) rfl rfl (v := 0) rfl ?_
    exact w_ireturn rfl rfl h
  · replace h := h.2 hc
    refine w_iload_n (pc' := 5) rfl rfl rfl ?_
    refine w_iconst (pc' := 6) rfl rfl (v := 3) rfl ?_
    refine w_br2 (pc' := 9) (t := 11) rfl rfl rfl ic_lt (fun hc => ?_) (fun hc => ?_)
    · replace h := h.1 hc
      refine w_aload_n (pc' := 12) rfl rfl rfl ?_
      have q1 : xR0 0 1 = some 49 ∧ xS0 L 49 = (25, 3) := (kf_11_1 (show xS0 L 0 = (11, 0) from rfl))
      refine w_getR (pc' := 15) rfl rfl rfl rfl (show xS0 L 0 = (11, 0) from rfl) q1.1 ?_
      refine w_iload_n (pc' := 16) rfl rfl rfl ?_
      obtain ⟨k1, ek1, bk1, h⟩ := h
      have q2 : xR0 49 k1 = some (256 + 48 * k1) ∧ xS0 L (256 + 48 * k1) = (10, 0) := ke_25 q1.2 bk1
      refine w_aaload (pc' := 17) (i := k1) rfl rfl q1.2 (by omega) ek1 bk1 (by omega) q2.1 ?_
      refine w_aload_n (pc' := 18) rfl rfl rfl ?_
      have q3 : xR0 0 0 = some 1 ∧ xS0 L 1 = (10, 0) := (kf_11_0 (show xS0 L 0 = (11, 0) from rfl))
      refine w_getR (pc' := 21) rfl rfl rfl rfl (show xS0 L 0 = (11, 0) from rfl) q3.1 ?_
      refine w_cv (pc' := 24) (cm := xm_To_take) (as := [.ref 1]) (a := (256 + 48 * k1)) (rest := []) rfl rfl rfl  (xa_To_take (Nat.le_of_ble_eq_true rfl)) q2.2 rfl (CV.k h fun g1 h => ?_)
      show Wp L xs xm_TP_image 24 [.ref 0, .int x1] [] g1 _
      refine w_aload_n (pc' := 25) rfl rfl rfl ?_
      have q4 : xR0 0 2 = some 50 ∧ xS0 L 50 = (20, 3) := (kf_11_2 (show xS0 L 0 = (11, 0) from rfl))
      refine w_getR (pc' := 28) rfl rfl rfl rfl (show xS0 L 0 = (11, 0) from rfl) q4.1 ?_
      refine w_iload_n (pc' := 29) rfl rfl rfl ?_
      refine w_iconst (pc' := 30) rfl rfl (v := 1) rfl ?_
      refine w_iastore (pc' := 31) (i := k1) rfl rfl q4.2 ek1 bk1 (by omega) ?_
      replace h := h _ rfl
      generalize xu g1 50 k1 1 = g2 at h ⊢
      refine w_iconst (pc' := 32) rfl rfl (v := 1) rfl ?_
      exact w_ireturn rfl rfl h
    · replace h := h.2 hc
      refine w_iconst (pc' := 10) rfl rfl (v := 0) rfl ?_
      exact w_ireturn rfl rfl h
theorem t_TP_again_0 {L : Nat} {xs : Nat → Int32} {x1 : Int32} {f : Hp} {Q : Int32 → Hp → Prop}  (h : ((x1 < 0 → Q 0 f) ∧ (¬ x1 < 0 → ((x1 < 3 → ∃ k1 : Nat, x1 = iN k1 ∧ k1 < 3 ∧ (((f 50 k1) = 0 → Q 0 f) ∧ (¬ (f 50 k1) = 0 → CV L xs xm_To_take [.ref 1, .ref (256 + 48 * k1)] f (fun g1 => Q 1 g1)))) ∧ (¬ x1 < 3 → Q 0 f))))) : CI L xs xm_TP_again [.ref 0, .int x1] f Q := by
  show Wp L xs xm_TP_again 0 [.ref 0, .int x1] [] f (QI Q)
  refine w_iload_n (pc' := 1) rfl rfl rfl ?_
  refine w_br (pc' := 4) (t := 18) rfl rfl rfl ic_lt (fun hc => ?_) (fun hc => ?_)
  · replace h := h.1 hc
    refine w_iconst (pc' := 19) rfl rfl (v := 0) rfl ?_
    exact w_ireturn rfl rfl h
  · replace h := h.2 hc
    refine w_iload_n (pc' := 5) rfl rfl rfl ?_
    refine w_iconst (pc' := 6) rfl rfl (v := 3) rfl ?_
    refine w_br2 (pc' := 9) (t := 18) rfl rfl rfl ic_ge (fun hc => ?_) (fun hc => ?_)
    · replace h := h.2 hc
      refine w_iconst (pc' := 19) rfl rfl (v := 0) rfl ?_
      exact w_ireturn rfl rfl h
    · replace h := h.1 (Classical.not_not.mp hc)
      refine w_aload_n (pc' := 10) rfl rfl rfl ?_
      have q1 : xR0 0 2 = some 50 ∧ xS0 L 50 = (20, 3) := (kf_11_2 (show xS0 L 0 = (11, 0) from rfl))
      refine w_getR (pc' := 13) rfl rfl rfl rfl (show xS0 L 0 = (11, 0) from rfl) q1.1 ?_
      refine w_iload_n (pc' := 14) rfl rfl rfl ?_
      obtain ⟨k1, ek1, bk1, h⟩ := h
      refine w_iaload (pc' := 15) (i := k1) rfl rfl q1.2 ek1 bk1 (by omega) ?_
      refine w_br (pc' := 18) (t := 20) rfl rfl rfl ic_ne (fun hc => ?_) (fun hc => ?_)
      · replace h := h.2 hc
        refine w_aload_n (pc' := 21) rfl rfl rfl ?_
        have q2 : xR0 0 0 = some 1 ∧ xS0 L 1 = (10, 0) := (kf_11_0 (show xS0 L 0 = (11, 0) from rfl))
        refine w_getR (pc' := 24) rfl rfl rfl rfl (show xS0 L 0 = (11, 0) from rfl) q2.1 ?_
        refine w_aload_n (pc' := 25) rfl rfl rfl ?_
        have q3 : xR0 0 1 = some 49 ∧ xS0 L 49 = (25, 3) := (kf_11_1 (show xS0 L 0 = (11, 0) from rfl))
        refine w_getR (pc' := 28) rfl rfl rfl rfl (show xS0 L 0 = (11, 0) from rfl) q3.1 ?_
        refine w_iload_n (pc' := 29) rfl rfl rfl ?_
        have q4 : xR0 49 k1 = some (256 + 48 * k1) ∧ xS0 L (256 + 48 * k1) = (10, 0) := ke_25 q3.2 bk1
        refine w_aaload (pc' := 30) (i := k1) rfl rfl q3.2 (by omega) ek1 bk1 (by omega) q4.1 ?_
        refine w_cv (pc' := 33) (cm := xm_To_take) (as := [.ref (256 + 48 * k1)]) (a := 1) (rest := []) rfl rfl rfl  (xa_To_take (Nat.le_of_ble_eq_true rfl)) q2.2 rfl (CV.k h fun g1 h => ?_)
        show Wp L xs xm_TP_again 33 [.ref 0, .int x1] [] g1 _
        refine w_iconst (pc' := 34) rfl rfl (v := 1) rfl ?_
        exact w_ireturn rfl rfl h
      · replace h := h.1 (Classical.not_not.mp hc)
        refine w_iconst (pc' := 19) rfl rfl (v := 0) rfl ?_
        exact w_ireturn rfl rfl h
