/-! TREES (printed by wip/whole/gen7.py): what must hold at a label of a method -/
theorem t_Me_begin_0 {L : Nat} {xs : Nat → Int32} {x0 : Nat} {x1 : Nat} {f : Hp} {Q : Hp → Prop} (qx0 : xS0 L x0 = (2, 0)) (qx1 : xS0 L x1 = (1, 0)) (h : ∀ g1, g1 = xu f x0 0 0 → ∀ g2, g2 = xu g1 x0 1 1 → ∀ g3, g3 = xu g2 x0 2 0 → ∀ g4, g4 = xu g3 x0 3 0 → ∀ g5, g5 = xu g4 x0 4 0 → ∀ g6, g6 = xu g5 x0 5 (-1) → CI L xs xm_Co_quorumSize [.ref x1] g6 (fun v1 g7 => ∀ g8, g8 = xu g7 x0 6 v1 → ∀ g9, g9 = xu g8 x0 7 (g8 x1 1) → CV L xs xm_TP_copyAccounts [.ref (x1 + 1), .ref (x0 + 1)] g9 (fun g10 => CV L xs xm_Me_forgetAccepted [.ref x0, .int 12] g10 (fun g11 => CV L xs xm_ja_fill [.ref (x0 + 6), .int (-1)] g11 (fun g12 => CV L xs xm_ja_fill [.ref (x0 + 7), .int (-1)] g12 (fun g13 => CV L xs xm_ja_fill [.ref (x0 + 8), .int (-1)] g13 (fun g14 => CV L xs xm_ja_fill [.ref (x0 + 9), .int (-1)] g14 (fun g15 => CV L xs xm_ja_fill [.ref (x0 + 10), .int (-1)] g15 (fun g16 => Q g16))))))))) : CV L xs xm_Me_begin [.ref x0, .ref x1] f Q := by
  show Wp L xs xm_Me_begin 0 [.ref x0, .ref x1] [] f (QV Q)
  refine w_aload_n (pc' := 1) rfl rfl rfl ?_
  refine w_iconst (pc' := 2) rfl rfl (v := 0) rfl ?_
  refine w_putI (pc' := 5) rfl rfl rfl rfl qx0 ?_
  replace h := h _ rfl
  generalize xu f x0 0 0 = g1 at h ⊢
  refine w_aload_n (pc' := 6) rfl rfl rfl ?_
  refine w_iconst (pc' := 7) rfl rfl (v := 1) rfl ?_
  refine w_putB (pc' := 10) rfl rfl rfl rfl qx0 (by decide) ?_
  replace h := h _ rfl
  generalize xu g1 x0 1 1 = g2 at h ⊢
  refine w_aload_n (pc' := 11) rfl rfl rfl ?_
  refine w_iconst (pc' := 12) rfl rfl (v := 0) rfl ?_
  refine w_putI (pc' := 15) rfl rfl rfl rfl qx0 ?_
  replace h := h _ rfl
  generalize xu g2 x0 2 0 = g3 at h ⊢
  refine w_aload_n (pc' := 16) rfl rfl rfl ?_
  refine w_iconst (pc' := 17) rfl rfl (v := 0) rfl ?_
  refine w_putI (pc' := 20) rfl rfl rfl rfl qx0 ?_
  replace h := h _ rfl
  generalize xu g3 x0 3 0 = g4 at h ⊢
  refine w_aload_n (pc' := 21) rfl rfl rfl ?_
  refine w_iconst (pc' := 22) rfl rfl (v := 0) rfl ?_
  refine w_putI (pc' := 25) rfl rfl rfl rfl qx0 ?_
  replace h := h _ rfl
  generalize xu g4 x0 4 0 = g5 at h ⊢
  refine w_aload_n (pc' := 26) rfl rfl rfl ?_
  refine w_iconst (pc' := 27) rfl rfl (v := (-1)) rfl ?_
  refine w_putI (pc' := 30) rfl rfl rfl rfl qx0 ?_
  replace h := h _ rfl
  generalize xu g5 x0 5 (-1) = g6 at h ⊢
  refine w_aload_n (pc' := 31) rfl rfl rfl ?_
  refine w_aload_n (pc' := 32) rfl rfl rfl ?_
  refine w_cv (pc' := 35) (cm := xm_Co_quorumSize) (as := []) (a := x1) (rest := [.ref x0]) rfl rfl rfl  (xa_Co_quorumSize (Nat.le_of_ble_eq_true rfl)) qx1 rfl (CI.k h fun v1 g7 h => ?_)
  show Wp L xs xm_Me_begin 35 [.ref x0, .ref x1] [.int v1, .ref x0] g7 _
  refine w_putI (pc' := 38) rfl rfl rfl rfl qx0 ?_
  replace h := h _ rfl
  generalize xu g7 x0 6 v1 = g8 at h ⊢
  refine w_aload_n (pc' := 39) rfl rfl rfl ?_
  refine w_aload_n (pc' := 40) rfl rfl rfl ?_
  refine w_getI (pc' := 43) rfl rfl rfl rfl rfl qx1 ?_
  refine w_putI (pc' := 46) rfl rfl rfl rfl qx0 ?_
  replace h := h _ rfl
  generalize xu g8 x0 7 (g8 x1 1) = g9 at h ⊢
  refine w_aload_n (pc' := 47) rfl rfl rfl ?_
  have q1 : xR0 x1 5 = some (x1 + 1) ∧ xS0 L (x1 + 1) = (20, 8) := (kf_1_5 qx1)
  refine w_getR (pc' := 50) rfl rfl rfl rfl qx1 q1.1 ?_
  refine w_aload_n (pc' := 51) rfl rfl rfl ?_
  have q2 : xR0 x0 8 = some (x0 + 1) ∧ xS0 L (x0 + 1) = (20, 8) := (kf_2_8 qx0)
  refine w_getR (pc' := 54) rfl rfl rfl rfl qx0 q2.1 ?_
  refine w_cs (pc' := 57) (cm := xm_TP_copyAccounts) (as := [.ref (x1 + 1), .ref (x0 + 1)]) (rest := []) rfl rfl rfl (Or.inr rfl) (xa_TP_copyAccounts (Nat.le_of_ble_eq_true rfl)) (CV.k h fun g10 h => ?_)
  show Wp L xs xm_Me_begin 57 [.ref x0, .ref x1] [] g10 _
  refine w_aload_n (pc' := 58) rfl rfl rfl ?_
  refine w_bipush (pc' := 60) rfl rfl (v := 12) rfl ?_
  refine w_cv (pc' := 63) (cm := xm_Me_forgetAccepted) (as := [.int 12]) (a := x0) (rest := []) rfl rfl rfl  (xa_Me_forgetAccepted (Nat.le_of_ble_eq_true rfl)) qx0 rfl (CV.k h fun g11 h => ?_)
  show Wp L xs xm_Me_begin 63 [.ref x0, .ref x1] [] g11 _
  refine w_aload_n (pc' := 64) rfl rfl rfl ?_
  have q3 : xR0 x0 13 = some (x0 + 6) ∧ xS0 L (x0 + 6) = (20, 13) := (kf_2_13 qx0)
  refine w_getR (pc' := 67) rfl rfl rfl rfl qx0 q3.1 ?_
  refine w_iconst (pc' := 68) rfl rfl (v := (-1)) rfl ?_
  refine w_cs (pc' := 71) (cm := xm_ja_fill) (as := [.ref (x0 + 6), .int (-1)]) (rest := []) rfl rfl rfl (Or.inl rfl) (xa_ja_fill (Nat.le_of_ble_eq_true rfl)) (CV.k h fun g12 h => ?_)
  show Wp L xs xm_Me_begin 71 [.ref x0, .ref x1] [] g12 _
  refine w_aload_n (pc' := 72) rfl rfl rfl ?_
  have q4 : xR0 x0 14 = some (x0 + 7) ∧ xS0 L (x0 + 7) = (20, 13) := (kf_2_14 qx0)
  refine w_getR (pc' := 75) rfl rfl rfl rfl qx0 q4.1 ?_
  refine w_iconst (pc' := 76) rfl rfl (v := (-1)) rfl ?_
  refine w_cs (pc' := 79) (cm := xm_ja_fill) (as := [.ref (x0 + 7), .int (-1)]) (rest := []) rfl rfl rfl (Or.inl rfl) (xa_ja_fill (Nat.le_of_ble_eq_true rfl)) (CV.k h fun g13 h => ?_)
  show Wp L xs xm_Me_begin 79 [.ref x0, .ref x1] [] g13 _
  refine w_aload_n (pc' := 80) rfl rfl rfl ?_
  have q5 : xR0 x0 15 = some (x0 + 8) ∧ xS0 L (x0 + 8) = (20, 13) := (kf_2_15 qx0)
  refine w_getR (pc' := 83) rfl rfl rfl rfl qx0 q5.1 ?_
  refine w_iconst (pc' := 84) rfl rfl (v := (-1)) rfl ?_
  refine w_cs (pc' := 87) (cm := xm_ja_fill) (as := [.ref (x0 + 8), .int (-1)]) (rest := []) rfl rfl rfl (Or.inl rfl) (xa_ja_fill (Nat.le_of_ble_eq_true rfl)) (CV.k h fun g14 h => ?_)
  show Wp L xs xm_Me_begin 87 [.ref x0, .ref x1] [] g14 _
  refine w_aload_n (pc' := 88) rfl rfl rfl ?_
  have q6 : xR0 x0 16 = some (x0 + 9) ∧ xS0 L (x0 + 9) = (20, 7) := (kf_2_16 qx0)
  refine w_getR (pc' := 91) rfl rfl rfl rfl qx0 q6.1 ?_
  refine w_iconst (pc' := 92) rfl rfl (v := (-1)) rfl ?_
  refine w_cs (pc' := 95) (cm := xm_ja_fill) (as := [.ref (x0 + 9), .int (-1)]) (rest := []) rfl rfl rfl (Or.inl rfl) (xa_ja_fill (Nat.le_of_ble_eq_true rfl)) (CV.k h fun g15 h => ?_)
  show Wp L xs xm_Me_begin 95 [.ref x0, .ref x1] [] g15 _
  refine w_aload_n (pc' := 96) rfl rfl rfl ?_
  have q7 : xR0 x0 17 = some (x0 + 10) ∧ xS0 L (x0 + 10) = (20, 7) := (kf_2_17 qx0)
  refine w_getR (pc' := 99) rfl rfl rfl rfl qx0 q7.1 ?_
  refine w_iconst (pc' := 100) rfl rfl (v := (-1)) rfl ?_
  refine w_cs (pc' := 103) (cm := xm_ja_fill) (as := [.ref (x0 + 10), .int (-1)]) (rest := []) rfl rfl rfl (Or.inl rfl) (xa_ja_fill (Nat.le_of_ble_eq_true rfl)) (CV.k h fun g16 h => ?_)
  show Wp L xs xm_Me_begin 103 [.ref x0, .ref x1] [] g16 _
  exact w_return rfl rfl h
theorem t_Me_forgetAccepted_0 {L : Nat} {xs : Nat → Int32} {x0 : Nat} {x1 : Int32} {f : Hp} {Q : Hp → Prop} (qx0 : xS0 L x0 = (2, 0)) (h : Wp L xs xm_Me_forgetAccepted 2 [.ref x0, .int x1, .int 1] [] f (QV Q)) : CV L xs xm_Me_forgetAccepted [.ref x0, .int x1] f Q := by
  show Wp L xs xm_Me_forgetAccepted 0 [.ref x0, .int x1, .retAddr 0] [] f (QV Q)
  refine w_iconst (pc' := 1) rfl rfl (v := 1) rfl ?_
  refine w_istore_n (pc' := 2) rfl rfl (xl' := [.ref x0, .int x1, .int 1]) rfl ?_
  exact h
theorem t_Me_forgetAccepted_2 {L : Nat} {xs : Nat → Int32} {x0 : Nat} {x1 : Int32} {x2 : Int32} {f : Hp} {Q : Hp → Prop} (qx0 : xS0 L x0 = (2, 0)) (h : ((x1 < x2 → Q f) ∧ (¬ x1 < x2 → ((12 < x2 → Q f) ∧ (¬ 12 < x2 → ∃ k1 : Nat, x2 = iN k1 ∧ k1 < 13 ∧ ∀ g1, g1 = xu f (x0 + 3) k1 (-1) → ∀ g2, g2 = xu g1 (x0 + 4) k1 0 → ∀ g3, g3 = xu g2 (x0 + 5) k1 0 → Wp L xs xm_Me_forgetAccepted 2 [.ref x0, .int x1, .int (x2 + 1)] [] g3 (QV Q)))))) : Wp L xs xm_Me_forgetAccepted 2 [.ref x0, .int x1, .int x2] [] f (QV Q) := by
  refine w_iload_n (pc' := 3) rfl rfl rfl ?_
  refine w_iload_n (pc' := 4) rfl rfl rfl ?_
  refine w_br2 (pc' := 7) (t := 40) rfl rfl rfl ic_gt (fun hc => ?_) (fun hc => ?_)
  · replace h := h.1 hc
    exact w_return rfl rfl h
  · replace h := h.2 hc
    refine w_iload_n (pc' := 8) rfl rfl rfl ?_
    refine w_bipush (pc' := 10) rfl rfl (v := 12) rfl ?_
    refine w_br2 (pc' := 13) (t := 40) rfl rfl rfl ic_gt (fun hc => ?_) (fun hc => ?_)
    · replace h := h.1 hc
      exact w_return rfl rfl h
    · replace h := h.2 hc
      refine w_aload_n (pc' := 14) rfl rfl rfl ?_
      have q1 : xR0 x0 10 = some (x0 + 3) ∧ xS0 L (x0 + 3) = (20, 13) := (kf_2_10 qx0)
      refine w_getR (pc' := 17) rfl rfl rfl rfl qx0 q1.1 ?_
      refine w_iload_n (pc' := 18) rfl rfl rfl ?_
      refine w_iconst (pc' := 19) rfl rfl (v := (-1)) rfl ?_
      obtain ⟨k1, ek1, bk1, h⟩ := h
      refine w_iastore (pc' := 20) (i := k1) rfl rfl q1.2 ek1 bk1 (by omega) ?_
      replace h := h _ rfl
      generalize xu f (x0 + 3) k1 (-1) = g1 at h ⊢
      refine w_aload_n (pc' := 21) rfl rfl rfl ?_
      have q2 : xR0 x0 11 = some (x0 + 4) ∧ xS0 L (x0 + 4) = (20, 13) := (kf_2_11 qx0)
      refine w_getR (pc' := 24) rfl rfl rfl rfl qx0 q2.1 ?_
      refine w_iload_n (pc' := 25) rfl rfl rfl ?_
      refine w_iconst (pc' := 26) rfl rfl (v := 0) rfl ?_
      refine w_iastore (pc' := 27) (i := k1) rfl rfl q2.2 ek1 bk1 (by omega) ?_
      replace h := h _ rfl
      generalize xu g1 (x0 + 4) k1 0 = g2 at h ⊢
      refine w_aload_n (pc' := 28) rfl rfl rfl ?_
      have q3 : xR0 x0 12 = some (x0 + 5) ∧ xS0 L (x0 + 5) = (20, 13) := (kf_2_12 qx0)
      refine w_getR (pc' := 31) rfl rfl rfl rfl qx0 q3.1 ?_
      refine w_iload_n (pc' := 32) rfl rfl rfl ?_
      refine w_iconst (pc' := 33) rfl rfl (v := 0) rfl ?_
      refine w_iastore (pc' := 34) (i := k1) rfl rfl q3.2 ek1 bk1 (by omega) ?_
      replace h := h _ rfl
      generalize xu g2 (x0 + 5) k1 0 = g3 at h ⊢
      refine w_iinc (pc' := 37) rfl rfl rfl (v := (x2 + 1)) rfl (xl' := [.ref x0, .int x1, .int (x2 + 1)]) rfl ?_
      refine w_goto (pc' := 2) rfl rfl ?_
      exact h
theorem t_Me_isWithin_0 {L : Nat} {xs : Nat → Int32} {x0 : Nat} {x1 : Int32} {f : Hp} {Q : Int32 → Hp → Prop} (qx0 : xS0 L x0 = (2, 0)) (h : CI L xs xm_TP_isPlace [.int x1] f (fun v1 g1 => ((v1 = 0 → Q 0 g1) ∧ (¬ v1 = 0 → (((g1 x0 2) < x1 → ((((g1 x0 2) + (g1 x0 7)) < x1 → Q 0 g1) ∧ (¬ ((g1 x0 2) + (g1 x0 7)) < x1 → Q 1 g1))) ∧ (¬ (g1 x0 2) < x1 → Q 0 g1)))))) : CI L xs xm_Me_isWithin [.ref x0, .int x1] f Q := by
  show Wp L xs xm_Me_isWithin 0 [.ref x0, .int x1] [] f (QI Q)
  refine w_iload_n (pc' := 1) rfl rfl rfl ?_
  refine w_cs (pc' := 4) (cm := xm_TP_isPlace) (as := [.int x1]) (rest := []) rfl rfl rfl (Or.inr rfl) (xa_TP_isPlace (Nat.le_of_ble_eq_true rfl)) (CI.k h fun v1 g1 h => ?_)
  show Wp L xs xm_Me_isWithin 4 [.ref x0, .int x1] [.int v1] g1 _
  refine w_br (pc' := 7) (t := 32) rfl rfl rfl ic_eq (fun hc => ?_) (fun hc => ?_)
  · replace h := h.1 hc
    refine w_iconst (pc' := 33) rfl rfl (v := 0) rfl ?_
    exact w_ireturn rfl rfl h
  · replace h := h.2 hc
    refine w_iload_n (pc' := 8) rfl rfl rfl ?_
    refine w_aload_n (pc' := 9) rfl rfl rfl ?_
    refine w_getI (pc' := 12) rfl rfl rfl rfl rfl qx0 ?_
    refine w_br2 (pc' := 15) (t := 32) rfl rfl rfl ic_le (fun hc => ?_) (fun hc => ?_)
    · replace h := h.2 hc
      refine w_iconst (pc' := 33) rfl rfl (v := 0) rfl ?_
      exact w_ireturn rfl rfl h
    · replace h := h.1 (Classical.not_not.mp hc)
      refine w_iload_n (pc' := 16) rfl rfl rfl ?_
      refine w_aload_n (pc' := 17) rfl rfl rfl ?_
      refine w_getI (pc' := 20) rfl rfl rfl rfl rfl qx0 ?_
      refine w_aload_n (pc' := 21) rfl rfl rfl ?_
      refine w_getI (pc' := 24) rfl rfl rfl rfl rfl qx0 ?_
      refine w_iadd (pc' := 25) rfl rfl ?_
      refine w_br2 (pc' := 28) (t := 32) rfl rfl rfl ic_gt (fun hc => ?_) (fun hc => ?_)
      · replace h := h.1 hc
        refine w_iconst (pc' := 33) rfl rfl (v := 0) rfl ?_
        exact w_ireturn rfl rfl h
      · replace h := h.2 hc
        refine w_iconst (pc' := 29) rfl rfl (v := 1) rfl ?_
        refine w_goto (pc' := 33) rfl rfl ?_
        exact w_ireturn rfl rfl h
theorem t_Me_hasAccepted_0 {L : Nat} {xs : Nat → Int32} {x0 : Nat} {x1 : Int32} {f : Hp} {Q : Int32 → Hp → Prop} (qx0 : xS0 L x0 = (2, 0)) (h : ((x1 < 1 → Q 0 f) ∧ (¬ x1 < 1 → ((12 < x1 → Q 0 f) ∧ (¬ 12 < x1 → ∃ k1 : Nat, x1 = iN k1 ∧ k1 < 13 ∧ (((f (x0 + 3) k1) = (-1) → Q 0 f) ∧ (¬ (f (x0 + 3) k1) = (-1) → Q 1 f))))))) : CI L xs xm_Me_hasAccepted [.ref x0, .int x1] f Q := by
  show Wp L xs xm_Me_hasAccepted 0 [.ref x0, .int x1] [] f (QI Q)
  refine w_iload_n (pc' := 1) rfl rfl rfl ?_
  refine w_iconst (pc' := 2) rfl rfl (v := 1) rfl ?_
  refine w_br2 (pc' := 5) (t := 25) rfl rfl rfl ic_lt (fun hc => ?_) (fun hc => ?_)
  · replace h := h.1 hc
    refine w_iconst (pc' := 26) rfl rfl (v := 0) rfl ?_
    exact w_ireturn rfl rfl h
  · replace h := h.2 hc
    refine w_iload_n (pc' := 6) rfl rfl rfl ?_
    refine w_bipush (pc' := 8) rfl rfl (v := 12) rfl ?_
    refine w_br2 (pc' := 11) (t := 25) rfl rfl rfl ic_gt (fun hc => ?_) (fun hc => ?_)
    · replace h := h.1 hc
      refine w_iconst (pc' := 26) rfl rfl (v := 0) rfl ?_
      exact w_ireturn rfl rfl h
    · replace h := h.2 hc
      refine w_aload_n (pc' := 12) rfl rfl rfl ?_
      have q1 : xR0 x0 10 = some (x0 + 3) ∧ xS0 L (x0 + 3) = (20, 13) := (kf_2_10 qx0)
      refine w_getR (pc' := 15) rfl rfl rfl rfl qx0 q1.1 ?_
      refine w_iload_n (pc' := 16) rfl rfl rfl ?_
      obtain ⟨k1, ek1, bk1, h⟩ := h
      refine w_iaload (pc' := 17) (i := k1) rfl rfl q1.2 ek1 bk1 (by omega) ?_
      refine w_iconst (pc' := 18) rfl rfl (v := (-1)) rfl ?_
      refine w_br2 (pc' := 21) (t := 25) rfl rfl rfl ic_eq (fun hc => ?_) (fun hc => ?_)
      · replace h := h.1 hc
        refine w_iconst (pc' := 26) rfl rfl (v := 0) rfl ?_
        exact w_ireturn rfl rfl h
      · replace h := h.2 hc
        refine w_iconst (pc' := 22) rfl rfl (v := 1) rfl ?_
        refine w_goto (pc' := 26) rfl rfl ?_
        exact w_ireturn rfl rfl h
theorem t_Me_accept_0 {L : Nat} {xs : Nat → Int32} {x0 : Nat} {x1 : Int32} {x2 : Int32} {f : Hp} {Q : Hp → Prop} (qx0 : xS0 L x0 = (2, 0)) (h : CI L xs xm_TP_isPlace [.int x1] f (fun v1 g1 => ((v1 = 0 → Q g1) ∧ (¬ v1 = 0 → ∃ k1 : Nat, x1 = iN k1 ∧ k1 < 13 ∧ ∀ g2, g2 = xu g1 (x0 + 3) k1 x2 → ∀ g3, g3 = xu g2 (x0 + 4) k1 0 → ∀ g4, g4 = xu g3 (x0 + 5) k1 0 → Q g4)))) : CV L xs xm_Me_accept [.ref x0, .int x1, .int x2] f Q := by
  show Wp L xs xm_Me_accept 0 [.ref x0, .int x1, .int x2] [] f (QV Q)
  refine w_iload_n (pc' := 1) rfl rfl rfl ?_
  refine w_cs (pc' := 4) (cm := xm_TP_isPlace) (as := [.int x1]) (rest := []) rfl rfl rfl (Or.inr rfl) (xa_TP_isPlace (Nat.le_of_ble_eq_true rfl)) (CI.k h fun v1 g1 h => ?_)
  show Wp L xs xm_Me_accept 4 [.ref x0, .int x1, .int x2] [.int v1] g1 _
  refine w_br (pc' := 7) (t := 28) rfl rfl rfl ic_eq (fun hc => ?_) (fun hc => ?_)
  · replace h := h.1 hc
    exact w_return rfl rfl h
  · replace h := h.2 hc
    refine w_aload_n (pc' := 8) rfl rfl rfl ?_
    have q1 : xR0 x0 10 = some (x0 + 3) ∧ xS0 L (x0 + 3) = (20, 13) := (kf_2_10 qx0)
    refine w_getR (pc' := 11) rfl rfl rfl rfl qx0 q1.1 ?_
    refine w_iload_n (pc' := 12) rfl rfl rfl ?_
    refine w_iload_n (pc' := 13) rfl rfl rfl ?_
    obtain ⟨k1, ek1, bk1, h⟩ := h
    refine w_iastore (pc' := 14) (i := k1) rfl rfl q1.2 ek1 bk1 (by omega) ?_
    replace h := h _ rfl
    generalize xu g1 (x0 + 3) k1 x2 = g2 at h ⊢
    refine w_aload_n (pc' := 15) rfl rfl rfl ?_
    have q2 : xR0 x0 11 = some (x0 + 4) ∧ xS0 L (x0 + 4) = (20, 13) := (kf_2_11 qx0)
    refine w_getR (pc' := 18) rfl rfl rfl rfl qx0 q2.1 ?_
    refine w_iload_n (pc' := 19) rfl rfl rfl ?_
    refine w_iconst (pc' := 20) rfl rfl (v := 0) rfl ?_
    refine w_iastore (pc' := 21) (i := k1) rfl rfl q2.2 ek1 bk1 (by omega) ?_
    replace h := h _ rfl
    generalize xu g2 (x0 + 4) k1 0 = g3 at h ⊢
    refine w_aload_n (pc' := 22) rfl rfl rfl ?_
    have q3 : xR0 x0 12 = some (x0 + 5) ∧ xS0 L (x0 + 5) = (20, 13) := (kf_2_12 qx0)
    refine w_getR (pc' := 25) rfl rfl rfl rfl qx0 q3.1 ?_
    refine w_iload_n (pc' := 26) rfl rfl rfl ?_
    refine w_iconst (pc' := 27) rfl rfl (v := 0) rfl ?_
    refine w_iastore (pc' := 28) (i := k1) rfl rfl q3.2 ek1 bk1 (by omega) ?_
    replace h := h _ rfl
    generalize xu g3 (x0 + 5) k1 0 = g4 at h ⊢
    exact w_return rfl rfl h
theorem t_Me_addPrepares_0 {L : Nat} {xs : Nat → Int32} {x0 : Nat} {x1 : Int32} {x2 : Int32} {x3 : Int32} {f : Hp} {Q : Hp → Prop} (qx0 : xS0 L x0 = (2, 0)) (h : CI L xs xm_Me_hasAccepted [.ref x0, .int x1] f (fun v1 g1 => ((v1 = 0 → Q g1) ∧ (¬ v1 = 0 → ∃ k1 : Nat, x1 = iN k1 ∧ k1 < 13 ∧ ∀ g2, g2 = xu g1 (x0 + 4) k1 ((g1 (x0 + 4) k1) ||| x2) → CI L xs xm_ji_bitCount [.int (g2 (x0 + 4) k1)] g2 (fun v2 g3 => ((v2 < (g3 x0 6) → Q g3) ∧ (¬ v2 < (g3 x0 6) → ∀ g4, g4 = xu g3 (x0 + 6) k1 (g3 x0 0) → ∀ g5, g5 = xu g4 (x0 + 7) k1 (g4 (x0 + 3) k1) → ∀ g6, g6 = xu g5 (x0 + 5) k1 ((g5 (x0 + 5) k1) ||| (1 <<< (x3 &&& 31))) → Q g6))))))) : CV L xs xm_Me_addPrepares [.ref x0, .int x1, .int x2, .int x3] f Q := by
  show Wp L xs xm_Me_addPrepares 0 [.ref x0, .int x1, .int x2, .int x3] [] f (QV Q)
  refine w_aload_n (pc' := 1) rfl rfl rfl ?_
  refine w_iload_n (pc' := 2) rfl rfl rfl ?_
  refine w_cv (pc' := 5) (cm := xm_Me_hasAccepted) (as := [.int x1]) (a := x0) (rest := []) rfl rfl rfl  (xa_Me_hasAccepted (Nat.le_of_ble_eq_true rfl)) qx0 rfl (CI.k h fun v1 g1 h => ?_)
  show Wp L xs xm_Me_addPrepares 5 [.ref x0, .int x1, .int x2, .int x3] [.int v1] g1 _
  refine w_br (pc' := 8) (t := 9) rfl rfl rfl ic_ne (fun hc => ?_) (fun hc => ?_)
  · replace h := h.2 hc
    refine w_aload_n (pc' := 10) rfl rfl rfl ?_
    have q1 : xR0 x0 11 = some (x0 + 4) ∧ xS0 L (x0 + 4) = (20, 13) := (kf_2_11 qx0)
    refine w_getR (pc' := 13) rfl rfl rfl rfl qx0 q1.1 ?_
    refine w_iload_n (pc' := 14) rfl rfl rfl ?_
    refine w_dup2 (pc' := 15) rfl rfl ?_
    obtain ⟨k1, ek1, bk1, h⟩ := h
    refine w_iaload (pc' := 16) (i := k1) rfl rfl q1.2 ek1 bk1 (by omega) ?_
    refine w_iload_n (pc' := 17) rfl rfl rfl ?_
    refine w_ior (pc' := 18) rfl rfl ?_
    refine w_iastore (pc' := 19) (i := k1) rfl rfl q1.2 ek1 bk1 (by omega) ?_
    replace h := h _ rfl
    generalize xu g1 (x0 + 4) k1 ((g1 (x0 + 4) k1) ||| x2) = g2 at h ⊢
    refine w_aload_n (pc' := 20) rfl rfl rfl ?_
    have q2 : xR0 x0 11 = some (x0 + 4) ∧ xS0 L (x0 + 4) = (20, 13) := (kf_2_11 qx0)
    refine w_getR (pc' := 23) rfl rfl rfl rfl qx0 q2.1 ?_
    refine w_iload_n (pc' := 24) rfl rfl rfl ?_
    refine w_iaload (pc' := 25) (i := k1) rfl rfl q2.2 ek1 bk1 (by omega) ?_
    refine w_cs (pc' := 28) (cm := xm_ji_bitCount) (as := [.int (g2 (x0 + 4) k1)]) (rest := []) rfl rfl rfl (Or.inl rfl) (xa_ji_bitCount (Nat.le_of_ble_eq_true rfl)) (CI.k h fun v2 g3 h => ?_)
    show Wp L xs xm_Me_addPrepares 28 [.ref x0, .int x1, .int x2, .int x3] [.int v2] g3 _
    refine w_aload_n (pc' := 29) rfl rfl rfl ?_
    refine w_getI (pc' := 32) rfl rfl rfl rfl rfl qx0 ?_
    refine w_br2 (pc' := 35) (t := 69) rfl rfl rfl ic_lt (fun hc => ?_) (fun hc => ?_)
    · replace h := h.1 hc
      exact w_return rfl rfl h
    · replace h := h.2 hc
      refine w_aload_n (pc' := 36) rfl rfl rfl ?_
      have q3 : xR0 x0 13 = some (x0 + 6) ∧ xS0 L (x0 + 6) = (20, 13) := (kf_2_13 qx0)
      refine w_getR (pc' := 39) rfl rfl rfl rfl qx0 q3.1 ?_
      refine w_iload_n (pc' := 40) rfl rfl rfl ?_
      refine w_aload_n (pc' := 41) rfl rfl rfl ?_
      refine w_getI (pc' := 44) rfl rfl rfl rfl rfl qx0 ?_
      refine w_iastore (pc' := 45) (i := k1) rfl rfl q3.2 ek1 bk1 (by omega) ?_
      replace h := h _ rfl
      generalize xu g3 (x0 + 6) k1 (g3 x0 0) = g4 at h ⊢
      refine w_aload_n (pc' := 46) rfl rfl rfl ?_
      have q4 : xR0 x0 14 = some (x0 + 7) ∧ xS0 L (x0 + 7) = (20, 13) := (kf_2_14 qx0)
      refine w_getR (pc' := 49) rfl rfl rfl rfl qx0 q4.1 ?_
      refine w_iload_n (pc' := 50) rfl rfl rfl ?_
      refine w_aload_n (pc' := 51) rfl rfl rfl ?_
      have q5 : xR0 x0 10 = some (x0 + 3) ∧ xS0 L (x0 + 3) = (20, 13) := (kf_2_10 qx0)
      refine w_getR (pc' := 54) rfl rfl rfl rfl qx0 q5.1 ?_
      refine w_iload_n (pc' := 55) rfl rfl rfl ?_
      refine w_iaload (pc' := 56) (i := k1) rfl rfl q5.2 ek1 bk1 (by omega) ?_
      refine w_iastore (pc' := 57) (i := k1) rfl rfl q4.2 ek1 bk1 (by omega) ?_
      replace h := h _ rfl
      generalize xu g4 (x0 + 7) k1 (g4 (x0 + 3) k1) = g5 at h ⊢
      refine w_aload_n (pc' := 58) rfl rfl rfl ?_
      have q6 : xR0 x0 12 = some (x0 + 5) ∧ xS0 L (x0 + 5) = (20, 13) := (kf_2_12 qx0)
      refine w_getR (pc' := 61) rfl rfl rfl rfl qx0 q6.1 ?_
      refine w_iload_n (pc' := 62) rfl rfl rfl ?_
      refine w_dup2 (pc' := 63) rfl rfl ?_
      refine w_iaload (pc' := 64) (i := k1) rfl rfl q6.2 ek1 bk1 (by omega) ?_
      refine w_iconst (pc' := 65) rfl rfl (v := 1) rfl ?_
      refine w_iload_n (pc' := 66) rfl rfl rfl ?_
      refine w_ishl (pc' := 67) rfl rfl ?_
      refine w_ior (pc' := 68) rfl rfl ?_
      refine w_iastore (pc' := 69) (i := k1) rfl rfl q6.2 ek1 bk1 (by omega) ?_
      replace h := h _ rfl
      generalize xu g5 (x0 + 5) k1 ((g5 (x0 + 5) k1) ||| (1 <<< (x3 &&& 31))) = g6 at h ⊢
      exact w_return rfl rfl h
  · replace h := h.1 (Classical.not_not.mp hc)
    exact w_return rfl rfl h
theorem t_Me_isCommitted_0 {L : Nat} {xs : Nat → Int32} {x0 : Nat} {x1 : Int32} {f : Hp} {Q : Int32 → Hp → Prop} (qx0 : xS0 L x0 = (2, 0)) (h : CI L xs xm_Me_isPrepared [.ref x0, .int x1] f (fun v1 g1 => ((v1 = 0 → Q 0 g1) ∧ (¬ v1 = 0 → ∃ k1 : Nat, x1 = iN k1 ∧ k1 < 13 ∧ CI L xs xm_ji_bitCount [.int (g1 (x0 + 5) k1)] g1 (fun v2 g2 => ((v2 < (g2 x0 6) → Q 0 g2) ∧ (¬ v2 < (g2 x0 6) → Q 1 g2))))))) : CI L xs xm_Me_isCommitted [.ref x0, .int x1] f Q := by
  show Wp L xs xm_Me_isCommitted 0 [.ref x0, .int x1] [] f (QI Q)
  refine w_aload_n (pc' := 1) rfl rfl rfl ?_
  refine w_iload_n (pc' := 2) rfl rfl rfl ?_
  refine w_cv (pc' := 5) (cm := xm_Me_isPrepared) (as := [.int x1]) (a := x0) (rest := []) rfl rfl rfl  (xa_Me_isPrepared (Nat.le_of_ble_eq_true rfl)) qx0 rfl (CI.k h fun v1 g1 h => ?_)
  show Wp L xs xm_Me_isCommitted 5 [.ref x0, .int x1] [.int v1] g1 _
  refine w_br (pc' := 8) (t := 28) rfl rfl rfl ic_eq (fun hc => ?_) (fun hc => ?_)
  · replace h := h.1 hc
    refine w_iconst (pc' := 29) rfl rfl (v := 0) rfl ?_
    exact w_ireturn rfl rfl h
  · replace h := h.2 hc
    refine w_aload_n (pc' := 9) rfl rfl rfl ?_
    have q1 : xR0 x0 12 = some (x0 + 5) ∧ xS0 L (x0 + 5) = (20, 13) := (kf_2_12 qx0)
    refine w_getR (pc' := 12) rfl rfl rfl rfl qx0 q1.1 ?_
    refine w_iload_n (pc' := 13) rfl rfl rfl ?_
    obtain ⟨k1, ek1, bk1, h⟩ := h
    refine w_iaload (pc' := 14) (i := k1) rfl rfl q1.2 ek1 bk1 (by omega) ?_
    refine w_cs (pc' := 17) (cm := xm_ji_bitCount) (as := [.int (g1 (x0 + 5) k1)]) (rest := []) rfl rfl rfl (Or.inl rfl) (xa_ji_bitCount (Nat.le_of_ble_eq_true rfl)) (CI.k h fun v2 g2 h => ?_)
    show Wp L xs xm_Me_isCommitted 17 [.ref x0, .int x1] [.int v2] g2 _
    refine w_aload_n (pc' := 18) rfl rfl rfl ?_
    refine w_getI (pc' := 21) rfl rfl rfl rfl rfl qx0 ?_
    refine w_br2 (pc' := 24) (t := 28) rfl rfl rfl ic_lt (fun hc => ?_) (fun hc => ?_)
    · replace h := h.1 hc
      refine w_iconst (pc' := 29) rfl rfl (v := 0) rfl ?_
      exact w_ireturn rfl rfl h
    · replace h := h.2 hc
      refine w_iconst (pc' := 25) rfl rfl (v := 1) rfl ?_
      refine w_goto (pc' := 29) rfl rfl ?_
      exact w_ireturn rfl rfl h
theorem t_Me_isPrepared_0 {L : Nat} {xs : Nat → Int32} {x0 : Nat} {x1 : Int32} {f : Hp} {Q : Int32 → Hp → Prop} (qx0 : xS0 L x0 = (2, 0)) (h : CI L xs xm_Me_hasAccepted [.ref x0, .int x1] f (fun v1 g1 => ((v1 = 0 → Q 0 g1) ∧ (¬ v1 = 0 → ∃ k1 : Nat, x1 = iN k1 ∧ k1 < 13 ∧ CI L xs xm_ji_bitCount [.int (g1 (x0 + 4) k1)] g1 (fun v2 g2 => ((v2 < (g2 x0 6) → Q 0 g2) ∧ (¬ v2 < (g2 x0 6) → Q 1 g2))))))) : CI L xs xm_Me_isPrepared [.ref x0, .int x1] f Q := by
  show Wp L xs xm_Me_isPrepared 0 [.ref x0, .int x1] [] f (QI Q)
  refine w_aload_n (pc' := 1) rfl rfl rfl ?_
  refine w_iload_n (pc' := 2) rfl rfl rfl ?_
  refine w_cv (pc' := 5) (cm := xm_Me_hasAccepted) (as := [.int x1]) (a := x0) (rest := []) rfl rfl rfl  (xa_Me_hasAccepted (Nat.le_of_ble_eq_true rfl)) qx0 rfl (CI.k h fun v1 g1 h => ?_)
  show Wp L xs xm_Me_isPrepared 5 [.ref x0, .int x1] [.int v1] g1 _
  refine w_br (pc' := 8) (t := 28) rfl rfl rfl ic_eq (fun hc => ?_) (fun hc => ?_)
  · replace h := h.1 hc
    refine w_iconst (pc' := 29) rfl rfl (v := 0) rfl ?_
    exact w_ireturn rfl rfl h
  · replace h := h.2 hc
    refine w_aload_n (pc' := 9) rfl rfl rfl ?_
    have q1 : xR0 x0 11 = some (x0 + 4) ∧ xS0 L (x0 + 4) = (20, 13) := (kf_2_11 qx0)
    refine w_getR (pc' := 12) rfl rfl rfl rfl qx0 q1.1 ?_
    refine w_iload_n (pc' := 13) rfl rfl rfl ?_
    obtain ⟨k1, ek1, bk1, h⟩ := h
    refine w_iaload (pc' := 14) (i := k1) rfl rfl q1.2 ek1 bk1 (by omega) ?_
    refine w_cs (pc' := 17) (cm := xm_ji_bitCount) (as := [.int (g1 (x0 + 4) k1)]) (rest := []) rfl rfl rfl (Or.inl rfl) (xa_ji_bitCount (Nat.le_of_ble_eq_true rfl)) (CI.k h fun v2 g2 h => ?_)
    show Wp L xs xm_Me_isPrepared 17 [.ref x0, .int x1] [.int v2] g2 _
    refine w_aload_n (pc' := 18) rfl rfl rfl ?_
    refine w_getI (pc' := 21) rfl rfl rfl rfl rfl qx0 ?_
    refine w_br2 (pc' := 24) (t := 28) rfl rfl rfl ic_lt (fun hc => ?_) (fun hc => ?_)
    · replace h := h.1 hc
      refine w_iconst (pc' := 29) rfl rfl (v := 0) rfl ?_
      exact w_ireturn rfl rfl h
    · replace h := h.2 hc
      refine w_iconst (pc' := 25) rfl rfl (v := 1) rfl ?_
      refine w_goto (pc' := 29) rfl rfl ?_
      exact w_ireturn rfl rfl h
theorem t_Me_countVotes_0 {L : Nat} {xs : Nat → Int32} {x0 : Nat} {f : Hp} {Q : Hp → Prop} (qx0 : xS0 L x0 = (2, 0)) (h : Wp L xs xm_Me_countVotes 2 [.ref x0, .int 0, .retAddr 0, .retAddr 0] [] f (QV Q)) : CV L xs xm_Me_countVotes [.ref x0] f Q := by
  show Wp L xs xm_Me_countVotes 0 [.ref x0, .retAddr 0, .retAddr 0, .retAddr 0] [] f (QV Q)
  refine w_iconst (pc' := 1) rfl rfl (v := 0) rfl ?_
  refine w_istore_n (pc' := 2) rfl rfl (xl' := [.ref x0, .int 0, .retAddr 0, .retAddr 0]) rfl ?_
  exact h
theorem t_Me_countVotes_2 {L : Nat} {xs : Nat → Int32} {x0 : Nat} {x1 : Int32} {x2 : Value} {x3 : Value} {f : Hp} {Q : Hp → Prop} (qx0 : xS0 L x0 = (2, 0)) (cx2 : (x2.category != 2) = true) (cx3 : (x3.category != 2) = true) (h : ((x1 < 7 → Wp L xs xm_Me_countVotes 12 [.ref x0, .int x1, .int 0, .int 0] [] f (QV Q)) ∧ (¬ x1 < 7 → Q f))) : Wp L xs xm_Me_countVotes 2 [.ref x0, .int x1, x2, x3] [] f (QV Q) := by
  refine w_iload_n (pc' := 3) rfl rfl rfl ?_
  refine w_bipush (pc' := 5) rfl rfl (v := 7) rfl ?_
  refine w_br2 (pc' := 8) (t := 110) rfl rfl rfl ic_ge (fun hc => ?_) (fun hc => ?_)
  · replace h := h.2 hc
    exact w_return rfl rfl h
  · replace h := h.1 (Classical.not_not.mp hc)
    refine w_iconst (pc' := 9) rfl rfl (v := 0) rfl ?_
    refine w_istore_n (pc' := 10) rfl rfl (xl' := [.ref x0, .int x1, .int 0, x3]) rfl ?_
    refine w_iconst (pc' := 11) rfl rfl (v := 0) rfl ?_
    refine w_istore_n (pc' := 12) rfl rfl (xl' := [.ref x0, .int x1, .int 0, .int 0]) rfl ?_
    exact h
theorem t_Me_countVotes_12 {L : Nat} {xs : Nat → Int32} {x0 : Nat} {x1 : Int32} {x2 : Int32} {x3 : Int32} {f : Hp} {Q : Hp → Prop} (qx0 : xS0 L x0 = (2, 0)) (h : ((x3 < 7 → ∃ k2 : Nat, x3 = iN k2 ∧ k2 < 7 ∧ ∃ k3 : Nat, x1 = iN k3 ∧ k3 < 7 ∧ (((f (x0 + 9) k2) = (f (x0 + 9) k3) → (((f (x0 + 10) k2) = (f (x0 + 10) k3) → Wp L xs xm_Me_countVotes 12 [.ref x0, .int x1, .int (x2 + 1), .int (x3 + 1)] [] f (QV Q)) ∧ (¬ (f (x0 + 10) k2) = (f (x0 + 10) k3) → Wp L xs xm_Me_countVotes 12 [.ref x0, .int x1, .int x2, .int (x3 + 1)] [] f (QV Q)))) ∧ (¬ (f (x0 + 9) k2) = (f (x0 + 9) k3) → Wp L xs xm_Me_countVotes 12 [.ref x0, .int x1, .int x2, .int (x3 + 1)] [] f (QV Q)))) ∧ (¬ x3 < 7 → ∃ k1 : Nat, x1 = iN k1 ∧ k1 < 7 ∧ (((f x0 2) < (f (x0 + 9) k1) → ((x2 < (f x0 6) → Wp L xs xm_Me_countVotes 2 [.ref x0, .int (x1 + 1), .int x2, .int x3] [] f (QV Q)) ∧ (¬ x2 < (f x0 6) → ∀ g1, g1 = xu f x0 2 (f (x0 + 9) k1) → CV L xs xm_Me_forgetAccepted [.ref x0, .int (g1 x0 2)] g1 (fun g2 => CV L xs xm_Me_forgetProofs [.ref x0, .int (g2 x0 2)] g2 (fun g3 => Wp L xs xm_Me_countVotes 2 [.ref x0, .int (x1 + 1), .int x2, .int x3] [] g3 (QV Q)))))) ∧ (¬ (f x0 2) < (f (x0 + 9) k1) → Wp L xs xm_Me_countVotes 2 [.ref x0, .int (x1 + 1), .int x2, .int x3] [] f (QV Q)))))) : Wp L xs xm_Me_countVotes 12 [.ref x0, .int x1, .int x2, .int x3] [] f (QV Q) := by
  refine w_iload_n (pc' := 13) rfl rfl rfl ?_
  refine w_bipush (pc' := 15) rfl rfl (v := 7) rfl ?_
  refine w_br2 (pc' := 18) (t := 57) rfl rfl rfl ic_ge (fun hc => ?_) (fun hc => ?_)
  · replace h := h.2 hc
    refine w_aload_n (pc' := 58) rfl rfl rfl ?_
    have q1 : xR0 x0 16 = some (x0 + 9) ∧ xS0 L (x0 + 9) = (20, 7) := (kf_2_16 qx0)
    refine w_getR (pc' := 61) rfl rfl rfl rfl qx0 q1.1 ?_
    refine w_iload_n (pc' := 62) rfl rfl rfl ?_
    obtain ⟨k1, ek1, bk1, h⟩ := h
    refine w_iaload (pc' := 63) (i := k1) rfl rfl q1.2 ek1 bk1 (by omega) ?_
    refine w_aload_n (pc' := 64) rfl rfl rfl ?_
    refine w_getI (pc' := 67) rfl rfl rfl rfl rfl qx0 ?_
    refine w_br2 (pc' := 70) (t := 104) rfl rfl rfl ic_le (fun hc => ?_) (fun hc => ?_)
    · replace h := h.2 hc
      refine w_iinc (pc' := 107) rfl rfl rfl (v := (x1 + 1)) rfl (xl' := [.ref x0, .int (x1 + 1), .int x2, .int x3]) rfl ?_
      refine w_goto (pc' := 2) rfl rfl ?_
      exact h
    · replace h := h.1 (Classical.not_not.mp hc)
      refine w_iload_n (pc' := 71) rfl rfl rfl ?_
      refine w_aload_n (pc' := 72) rfl rfl rfl ?_
      refine w_getI (pc' := 75) rfl rfl rfl rfl rfl qx0 ?_
      refine w_br2 (pc' := 78) (t := 104) rfl rfl rfl ic_lt (fun hc => ?_) (fun hc => ?_)
      · replace h := h.1 hc
        refine w_iinc (pc' := 107) rfl rfl rfl (v := (x1 + 1)) rfl (xl' := [.ref x0, .int (x1 + 1), .int x2, .int x3]) rfl ?_
        refine w_goto (pc' := 2) rfl rfl ?_
        exact h
      · replace h := h.2 hc
        refine w_aload_n (pc' := 79) rfl rfl rfl ?_
        refine w_aload_n (pc' := 80) rfl rfl rfl ?_
        have q2 : xR0 x0 16 = some (x0 + 9) ∧ xS0 L (x0 + 9) = (20, 7) := (kf_2_16 qx0)
        refine w_getR (pc' := 83) rfl rfl rfl rfl qx0 q2.1 ?_
        refine w_iload_n (pc' := 84) rfl rfl rfl ?_
        refine w_iaload (pc' := 85) (i := k1) rfl rfl q2.2 ek1 bk1 (by omega) ?_
        refine w_putI (pc' := 88) rfl rfl rfl rfl qx0 ?_
        replace h := h _ rfl
        generalize xu f x0 2 (f (x0 + 9) k1) = g1 at h ⊢
        refine w_aload_n (pc' := 89) rfl rfl rfl ?_
        refine w_aload_n (pc' := 90) rfl rfl rfl ?_
        refine w_getI (pc' := 93) rfl rfl rfl rfl rfl qx0 ?_
        refine w_cv (pc' := 96) (cm := xm_Me_forgetAccepted) (as := [.int (g1 x0 2)]) (a := x0) (rest := []) rfl rfl rfl  (xa_Me_forgetAccepted (Nat.le_of_ble_eq_true rfl)) qx0 rfl (CV.k h fun g2 h => ?_)
        show Wp L xs xm_Me_countVotes 96 [.ref x0, .int x1, .int x2, .int x3] [] g2 _
        refine w_aload_n (pc' := 97) rfl rfl rfl ?_
        refine w_aload_n (pc' := 98) rfl rfl rfl ?_
        refine w_getI (pc' := 101) rfl rfl rfl rfl rfl qx0 ?_
        refine w_cv (pc' := 104) (cm := xm_Me_forgetProofs) (as := [.int (g2 x0 2)]) (a := x0) (rest := []) rfl rfl rfl  (xa_Me_forgetProofs (Nat.le_of_ble_eq_true rfl)) qx0 rfl (CV.k h fun g3 h => ?_)
        show Wp L xs xm_Me_countVotes 104 [.ref x0, .int x1, .int x2, .int x3] [] g3 _
        refine w_iinc (pc' := 107) rfl rfl rfl (v := (x1 + 1)) rfl (xl' := [.ref x0, .int (x1 + 1), .int x2, .int x3]) rfl ?_
        refine w_goto (pc' := 2) rfl rfl ?_
        exact h
  · replace h := h.1 (Classical.not_not.mp hc)
    refine w_aload_n (pc' := 19) rfl rfl rfl ?_
    have q3 : xR0 x0 16 = some (x0 + 9) ∧ xS0 L (x0 + 9) = (20, 7) := (kf_2_16 qx0)
    refine w_getR (pc' := 22) rfl rfl rfl rfl qx0 q3.1 ?_
    refine w_iload_n (pc' := 23) rfl rfl rfl ?_
    obtain ⟨k2, ek2, bk2, h⟩ := h
    refine w_iaload (pc' := 24) (i := k2) rfl rfl q3.2 ek2 bk2 (by omega) ?_
    refine w_aload_n (pc' := 25) rfl rfl rfl ?_
    have q4 : xR0 x0 16 = some (x0 + 9) ∧ xS0 L (x0 + 9) = (20, 7) := (kf_2_16 qx0)
    refine w_getR (pc' := 28) rfl rfl rfl rfl qx0 q4.1 ?_
    refine w_iload_n (pc' := 29) rfl rfl rfl ?_
    obtain ⟨k3, ek3, bk3, h⟩ := h
    refine w_iaload (pc' := 30) (i := k3) rfl rfl q4.2 ek3 bk3 (by omega) ?_
    refine w_br2 (pc' := 33) (t := 51) rfl rfl rfl ic_ne (fun hc => ?_) (fun hc => ?_)
    · replace h := h.2 hc
      refine w_iinc (pc' := 54) rfl rfl rfl (v := (x3 + 1)) rfl (xl' := [.ref x0, .int x1, .int x2, .int (x3 + 1)]) rfl ?_
      refine w_goto (pc' := 12) rfl rfl ?_
      exact h
    · replace h := h.1 (Classical.not_not.mp hc)
      refine w_aload_n (pc' := 34) rfl rfl rfl ?_
      have q5 : xR0 x0 17 = some (x0 + 10) ∧ xS0 L (x0 + 10) = (20, 7) := (kf_2_17 qx0)
      refine w_getR (pc' := 37) rfl rfl rfl rfl qx0 q5.1 ?_
      refine w_iload_n (pc' := 38) rfl rfl rfl ?_
      refine w_iaload (pc' := 39) (i := k2) rfl rfl q5.2 ek2 bk2 (by omega) ?_
      refine w_aload_n (pc' := 40) rfl rfl rfl ?_
      have q6 : xR0 x0 17 = some (x0 + 10) ∧ xS0 L (x0 + 10) = (20, 7) := (kf_2_17 qx0)
      refine w_getR (pc' := 43) rfl rfl rfl rfl qx0 q6.1 ?_
      refine w_iload_n (pc' := 44) rfl rfl rfl ?_
      refine w_iaload (pc' := 45) (i := k3) rfl rfl q6.2 ek3 bk3 (by omega) ?_
      refine w_br2 (pc' := 48) (t := 51) rfl rfl rfl ic_ne (fun hc => ?_) (fun hc => ?_)
      · replace h := h.2 hc
        refine w_iinc (pc' := 54) rfl rfl rfl (v := (x3 + 1)) rfl (xl' := [.ref x0, .int x1, .int x2, .int (x3 + 1)]) rfl ?_
        refine w_goto (pc' := 12) rfl rfl ?_
        exact h
      · replace h := h.1 (Classical.not_not.mp hc)
        refine w_iinc (pc' := 51) rfl rfl rfl (v := (x2 + 1)) rfl (xl' := [.ref x0, .int x1, .int (x2 + 1), .int x3]) rfl ?_
        refine w_iinc (pc' := 54) rfl rfl rfl (v := (x3 + 1)) rfl (xl' := [.ref x0, .int x1, .int (x2 + 1), .int (x3 + 1)]) rfl ?_
        refine w_goto (pc' := 12) rfl rfl ?_
        exact h
theorem t_Me_forgetProofs_0 {L : Nat} {xs : Nat → Int32} {x0 : Nat} {x1 : Int32} {f : Hp} {Q : Hp → Prop} (qx0 : xS0 L x0 = (2, 0)) (h : Wp L xs xm_Me_forgetProofs 2 [.ref x0, .int x1, .int 1] [] f (QV Q)) : CV L xs xm_Me_forgetProofs [.ref x0, .int x1] f Q := by
  show Wp L xs xm_Me_forgetProofs 0 [.ref x0, .int x1, .retAddr 0] [] f (QV Q)
  refine w_iconst (pc' := 1) rfl rfl (v := 1) rfl ?_
  refine w_istore_n (pc' := 2) rfl rfl (xl' := [.ref x0, .int x1, .int 1]) rfl ?_
  exact h
theorem t_Me_forgetProofs_2 {L : Nat} {xs : Nat → Int32} {x0 : Nat} {x1 : Int32} {x2 : Int32} {f : Hp} {Q : Hp → Prop} (qx0 : xS0 L x0 = (2, 0)) (h : ((x1 < x2 → Q f) ∧ (¬ x1 < x2 → ((12 < x2 → Q f) ∧ (¬ 12 < x2 → ∃ k1 : Nat, x2 = iN k1 ∧ k1 < 13 ∧ ∀ g1, g1 = xu f (x0 + 6) k1 (-1) → ∀ g2, g2 = xu g1 (x0 + 7) k1 (-1) → Wp L xs xm_Me_forgetProofs 2 [.ref x0, .int x1, .int (x2 + 1)] [] g2 (QV Q)))))) : Wp L xs xm_Me_forgetProofs 2 [.ref x0, .int x1, .int x2] [] f (QV Q) := by
  refine w_iload_n (pc' := 3) rfl rfl rfl ?_
  refine w_iload_n (pc' := 4) rfl rfl rfl ?_
  refine w_br2 (pc' := 7) (t := 33) rfl rfl rfl ic_gt (fun hc => ?_) (fun hc => ?_)
  · replace h := h.1 hc
    exact w_return rfl rfl h
  · replace h := h.2 hc
    refine w_iload_n (pc' := 8) rfl rfl rfl ?_
    refine w_bipush (pc' := 10) rfl rfl (v := 12) rfl ?_
    refine w_br2 (pc' := 13) (t := 33) rfl rfl rfl ic_gt (fun hc => ?_) (fun hc => ?_)
    · replace h := h.1 hc
      exact w_return rfl rfl h
    · replace h := h.2 hc
      refine w_aload_n (pc' := 14) rfl rfl rfl ?_
      have q1 : xR0 x0 13 = some (x0 + 6) ∧ xS0 L (x0 + 6) = (20, 13) := (kf_2_13 qx0)
      refine w_getR (pc' := 17) rfl rfl rfl rfl qx0 q1.1 ?_
      refine w_iload_n (pc' := 18) rfl rfl rfl ?_
      refine w_iconst (pc' := 19) rfl rfl (v := (-1)) rfl ?_
      obtain ⟨k1, ek1, bk1, h⟩ := h
      refine w_iastore (pc' := 20) (i := k1) rfl rfl q1.2 ek1 bk1 (by omega) ?_
      replace h := h _ rfl
      generalize xu f (x0 + 6) k1 (-1) = g1 at h ⊢
      refine w_aload_n (pc' := 21) rfl rfl rfl ?_
      have q2 : xR0 x0 14 = some (x0 + 7) ∧ xS0 L (x0 + 7) = (20, 13) := (kf_2_14 qx0)
      refine w_getR (pc' := 24) rfl rfl rfl rfl qx0 q2.1 ?_
      refine w_iload_n (pc' := 25) rfl rfl rfl ?_
      refine w_iconst (pc' := 26) rfl rfl (v := (-1)) rfl ?_
      refine w_iastore (pc' := 27) (i := k1) rfl rfl q2.2 ek1 bk1 (by omega) ?_
      replace h := h _ rfl
      generalize xu g1 (x0 + 7) k1 (-1) = g2 at h ⊢
      refine w_iinc (pc' := 30) rfl rfl rfl (v := (x2 + 1)) rfl (xl' := [.ref x0, .int x1, .int (x2 + 1)]) rfl ?_
      refine w_goto (pc' := 2) rfl rfl ?_
      exact h
theorem t_Me_sharesAt_0 {L : Nat} {xs : Nat → Int32} {x0 : Nat} {x1 : Nat} {x2 : Int32} {f : Hp} {Q : Int32 → Hp → Prop} (qx0 : xS0 L x0 = (2, 0)) (qx1 : xS0 L x1 = (2, 0)) (h : (((f x0 1) = 0 → Q 0 f) ∧ (¬ (f x0 1) = 0 → (((f x0 0) = (f x1 0) → CI L xs xm_Me_hasAccepted [.ref x0, .int x2] f (fun v1 g1 => ((v1 = 0 → Q 0 g1) ∧ (¬ v1 = 0 → ∃ k1 : Nat, x2 = iN k1 ∧ k1 < 13 ∧ (((g1 (x0 + 3) k1) = (g1 (x1 + 3) k1) → Q 1 g1) ∧ (¬ (g1 (x0 + 3) k1) = (g1 (x1 + 3) k1) → Q 0 g1)))))) ∧ (¬ (f x0 0) = (f x1 0) → Q 0 f))))) : CI L xs xm_Me_sharesAt [.ref x0, .ref x1, .int x2] f Q := by
  show Wp L xs xm_Me_sharesAt 0 [.ref x0, .ref x1, .int x2] [] f (QI Q)
  refine w_aload_n (pc' := 1) rfl rfl rfl ?_
  refine w_getI (pc' := 4) rfl rfl rfl rfl rfl qx0 ?_
  refine w_br (pc' := 7) (t := 45) rfl rfl rfl ic_eq (fun hc => ?_) (fun hc => ?_)
  · replace h := h.1 hc
    refine w_iconst (pc' := 46) rfl rfl (v := 0) rfl ?_
    exact w_ireturn rfl rfl h
  · replace h := h.2 hc
    refine w_aload_n (pc' := 8) rfl rfl rfl ?_
    refine w_getI (pc' := 11) rfl rfl rfl rfl rfl qx0 ?_
    refine w_aload_n (pc' := 12) rfl rfl rfl ?_
    refine w_getI (pc' := 15) rfl rfl rfl rfl rfl qx1 ?_
    refine w_br2 (pc' := 18) (t := 45) rfl rfl rfl ic_ne (fun hc => ?_) (fun hc => ?_)
    · replace h := h.2 hc
      refine w_iconst (pc' := 46) rfl rfl (v := 0) rfl ?_
      exact w_ireturn rfl rfl h
    · replace h := h.1 (Classical.not_not.mp hc)
      refine w_aload_n (pc' := 19) rfl rfl rfl ?_
      refine w_iload_n (pc' := 20) rfl rfl rfl ?_
      refine w_cv (pc' := 23) (cm := xm_Me_hasAccepted) (as := [.int x2]) (a := x0) (rest := []) rfl rfl rfl  (xa_Me_hasAccepted (Nat.le_of_ble_eq_true rfl)) qx0 rfl (CI.k h fun v1 g1 h => ?_)
      show Wp L xs xm_Me_sharesAt 23 [.ref x0, .ref x1, .int x2] [.int v1] g1 _
      refine w_br (pc' := 26) (t := 45) rfl rfl rfl ic_eq (fun hc => ?_) (fun hc => ?_)
      · replace h := h.1 hc
        refine w_iconst (pc' := 46) rfl rfl (v := 0) rfl ?_
        exact w_ireturn rfl rfl h
      · replace h := h.2 hc
        refine w_aload_n (pc' := 27) rfl rfl rfl ?_
        have q1 : xR0 x0 10 = some (x0 + 3) ∧ xS0 L (x0 + 3) = (20, 13) := (kf_2_10 qx0)
        refine w_getR (pc' := 30) rfl rfl rfl rfl qx0 q1.1 ?_
        refine w_iload_n (pc' := 31) rfl rfl rfl ?_
        obtain ⟨k1, ek1, bk1, h⟩ := h
        refine w_iaload (pc' := 32) (i := k1) rfl rfl q1.2 ek1 bk1 (by omega) ?_
        refine w_aload_n (pc' := 33) rfl rfl rfl ?_
        have q2 : xR0 x1 10 = some (x1 + 3) ∧ xS0 L (x1 + 3) = (20, 13) := (kf_2_10 qx1)
        refine w_getR (pc' := 36) rfl rfl rfl rfl qx1 q2.1 ?_
        refine w_iload_n (pc' := 37) rfl rfl rfl ?_
        refine w_iaload (pc' := 38) (i := k1) rfl rfl q2.2 ek1 bk1 (by omega) ?_
        refine w_br2 (pc' := 41) (t := 45) rfl rfl rfl ic_ne (fun hc => ?_) (fun hc => ?_)
        · replace h := h.2 hc
          refine w_iconst (pc' := 46) rfl rfl (v := 0) rfl ?_
          exact w_ireturn rfl rfl h
        · replace h := h.1 (Classical.not_not.mp hc)
          refine w_iconst (pc' := 42) rfl rfl (v := 1) rfl ?_
          refine w_goto (pc' := 46) rfl rfl ?_
          exact w_ireturn rfl rfl h
theorem t_Me_tell_0 {L : Nat} {xs : Nat → Int32} {x0 : Nat} {x1 : Int32} {f : Hp} {Q : Int32 → Hp → Prop} (qx0 : xS0 L x0 = (2, 0)) (h : ((x1 = 0 → Q (f x0 0) f) ∧ (¬ x1 = 0 → ((x1 = 1 → (((f x0 1) = 0 → Q 0 f) ∧ (¬ (f x0 1) = 0 → Q 1 f))) ∧ (¬ x1 = 1 → ((x1 = 2 → Q (f x0 2) f) ∧ (¬ x1 = 2 → ((x1 = 3 → Q (f x0 3) f) ∧ (¬ x1 = 3 → ((x1 = 4 → ((x1 < 10 → Wp L xs xm_Me_tell 104 [.ref x0, .int x1, .retAddr 0] [] f (QI Q)) ∧ (¬ x1 < 10 → ((x1 < 18 → ∃ k1 : Nat, (x1 - 10) = iN k1 ∧ k1 < 8 ∧ Q (f (x0 + 1) k1) f) ∧ (¬ x1 < 18 → Wp L xs xm_Me_tell 104 [.ref x0, .int x1, .retAddr 0] [] f (QI Q)))))) ∧ (¬ x1 = 4 → ((x1 = 5 → Q (f x0 4) f) ∧ (¬ x1 = 5 → ((x1 = 6 → Q (f x0 5) f) ∧ (¬ x1 = 6 → ((x1 < 10 → Wp L xs xm_Me_tell 104 [.ref x0, .int x1, .retAddr 0] [] f (QI Q)) ∧ (¬ x1 < 10 → ((x1 < 18 → ∃ k2 : Nat, (x1 - 10) = iN k2 ∧ k2 < 8 ∧ Q (f (x0 + 1) k2) f) ∧ (¬ x1 < 18 → Wp L xs xm_Me_tell 104 [.ref x0, .int x1, .retAddr 0] [] f (QI Q)))))))))))))))))))) : CI L xs xm_Me_tell [.ref x0, .int x1] f Q := by
  show Wp L xs xm_Me_tell 0 [.ref x0, .int x1, .retAddr 0] [] f (QI Q)
  refine w_iload_n (pc' := 1) rfl rfl rfl ?_
  by_cases hs0 : x1 = 0
  · replace h := h.1 hs0
    refine w_ts (o := 43) (t := 44) rfl (by rw [hs0]; decide) (by rw [hs0]; rfl) rfl ?_
    refine w_aload_n (pc' := 45) rfl rfl rfl ?_
    refine w_getI (pc' := 48) rfl rfl rfl rfl rfl qx0 ?_
    exact w_ireturn rfl rfl h
  replace h := h.2 hs0
  by_cases hs1 : x1 = 1
  · replace h := h.1 hs1
    refine w_ts (o := 48) (t := 49) rfl (by rw [hs1]; decide) (by rw [hs1]; rfl) rfl ?_
    refine w_aload_n (pc' := 50) rfl rfl rfl ?_
    refine w_getI (pc' := 53) rfl rfl rfl rfl rfl qx0 ?_
    refine w_br (pc' := 56) (t := 60) rfl rfl rfl ic_eq (fun hc => ?_) (fun hc => ?_)
    · replace h := h.1 hc
      refine w_iconst (pc' := 61) rfl rfl (v := 0) rfl ?_
      exact w_ireturn rfl rfl h
    · replace h := h.2 hc
      refine w_iconst (pc' := 57) rfl rfl (v := 1) rfl ?_
      refine w_goto (pc' := 61) rfl rfl ?_
      exact w_ireturn rfl rfl h
  replace h := h.2 hs1
  by_cases hs2 : x1 = 2
  · replace h := h.1 hs2
    refine w_ts (o := 61) (t := 62) rfl (by rw [hs2]; decide) (by rw [hs2]; rfl) rfl ?_
    refine w_aload_n (pc' := 63) rfl rfl rfl ?_
    refine w_getI (pc' := 66) rfl rfl rfl rfl rfl qx0 ?_
    exact w_ireturn rfl rfl h
  replace h := h.2 hs2
  by_cases hs3 : x1 = 3
  · replace h := h.1 hs3
    refine w_ts (o := 66) (t := 67) rfl (by rw [hs3]; decide) (by rw [hs3]; rfl) rfl ?_
    refine w_aload_n (pc' := 68) rfl rfl rfl ?_
    refine w_getI (pc' := 71) rfl rfl rfl rfl rfl qx0 ?_
    exact w_ireturn rfl rfl h
  replace h := h.2 hs3
  by_cases hs4 : x1 = 4
  · replace h := h.1 hs4
    refine w_ts (o := 81) (t := 82) rfl (by rw [hs4]; decide) (by rw [hs4]; rfl) rfl ?_
    refine w_iload_n (pc' := 83) rfl rfl rfl ?_
    refine w_bipush (pc' := 85) rfl rfl (v := 10) rfl ?_
    refine w_br2 (pc' := 88) (t := 104) rfl rfl rfl ic_lt (fun hc => ?_) (fun hc => ?_)
    · replace h := h.1 hc
      exact h
    · replace h := h.2 hc
      refine w_iload_n (pc' := 89) rfl rfl rfl ?_
      refine w_bipush (pc' := 91) rfl rfl (v := 18) rfl ?_
      refine w_br2 (pc' := 94) (t := 104) rfl rfl rfl ic_ge (fun hc => ?_) (fun hc => ?_)
      · replace h := h.2 hc
        exact h
      · replace h := h.1 (Classical.not_not.mp hc)
        refine w_aload_n (pc' := 95) rfl rfl rfl ?_
        have q1 : xR0 x0 8 = some (x0 + 1) ∧ xS0 L (x0 + 1) = (20, 8) := (kf_2_8 qx0)
        refine w_getR (pc' := 98) rfl rfl rfl rfl qx0 q1.1 ?_
        refine w_iload_n (pc' := 99) rfl rfl rfl ?_
        refine w_bipush (pc' := 101) rfl rfl (v := 10) rfl ?_
        refine w_isub (pc' := 102) rfl rfl ?_
        obtain ⟨k1, ek1, bk1, h⟩ := h
        refine w_iaload (pc' := 103) (i := k1) rfl rfl q1.2 ek1 bk1 (by omega) ?_
        exact w_ireturn rfl rfl h
  replace h := h.2 hs4
  by_cases hs5 : x1 = 5
  · replace h := h.1 hs5
    refine w_ts (o := 71) (t := 72) rfl (by rw [hs5]; decide) (by rw [hs5]; rfl) rfl ?_
    refine w_aload_n (pc' := 73) rfl rfl rfl ?_
    refine w_getI (pc' := 76) rfl rfl rfl rfl rfl qx0 ?_
    exact w_ireturn rfl rfl h
  replace h := h.2 hs5
  by_cases hs6 : x1 = 6
  · replace h := h.1 hs6
    refine w_ts (o := 76) (t := 77) rfl (by rw [hs6]; decide) (by rw [hs6]; rfl) rfl ?_
    refine w_aload_n (pc' := 78) rfl rfl rfl ?_
    refine w_getI (pc' := 81) rfl rfl rfl rfl rfl qx0 ?_
    exact w_ireturn rfl rfl h
  replace h := h.2 hs6
  refine w_tsd (t := 82) rfl ?_ rfl ?_
  · have z0 : (x1).toInt ≠ 0 := fun e => hs0 (Int32.toInt_inj.mp e); have z1 : (x1).toInt ≠ 1 := fun e => hs1 (Int32.toInt_inj.mp e); have z2 : (x1).toInt ≠ 2 := fun e => hs2 (Int32.toInt_inj.mp e); have z3 : (x1).toInt ≠ 3 := fun e => hs3 (Int32.toInt_inj.mp e); have z4 : (x1).toInt ≠ 4 := fun e => hs4 (Int32.toInt_inj.mp e); have z5 : (x1).toInt ≠ 5 := fun e => hs5 (Int32.toInt_inj.mp e); have z6 : (x1).toInt ≠ 6 := fun e => hs6 (Int32.toInt_inj.mp e); omega
  refine w_iload_n (pc' := 83) rfl rfl rfl ?_
  refine w_bipush (pc' := 85) rfl rfl (v := 10) rfl ?_
  refine w_br2 (pc' := 88) (t := 104) rfl rfl rfl ic_lt (fun hc => ?_) (fun hc => ?_)
  · replace h := h.1 hc
    exact h
  · replace h := h.2 hc
    refine w_iload_n (pc' := 89) rfl rfl rfl ?_
    refine w_bipush (pc' := 91) rfl rfl (v := 18) rfl ?_
    refine w_br2 (pc' := 94) (t := 104) rfl rfl rfl ic_ge (fun hc => ?_) (fun hc => ?_)
    · replace h := h.2 hc
      exact h
    · replace h := h.1 (Classical.not_not.mp hc)
      refine w_aload_n (pc' := 95) rfl rfl rfl ?_
      have q2 : xR0 x0 8 = some (x0 + 1) ∧ xS0 L (x0 + 1) = (20, 8) := (kf_2_8 qx0)
      refine w_getR (pc' := 98) rfl rfl rfl rfl qx0 q2.1 ?_
      refine w_iload_n (pc' := 99) rfl rfl rfl ?_
      refine w_bipush (pc' := 101) rfl rfl (v := 10) rfl ?_
      refine w_isub (pc' := 102) rfl rfl ?_
      obtain ⟨k2, ek2, bk2, h⟩ := h
      refine w_iaload (pc' := 103) (i := k2) rfl rfl q2.2 ek2 bk2 (by omega) ?_
      exact w_ireturn rfl rfl h
theorem t_Me_tell_104 {L : Nat} {xs : Nat → Int32} {x0 : Nat} {x1 : Int32} {f : Hp} {Q : Int32 → Hp → Prop} (qx0 : xS0 L x0 = (2, 0)) (h : ((x1 < 100 → Q (-2) f) ∧ (¬ x1 < 100 → CI L xs xm_TP_isPlace [.int (x1 / 100)] f (fun v1 g1 => ((v1 = 0 → Q (-2) g1) ∧ (¬ v1 = 0 → CI L xs xm_Me_tellPlace [.ref x0, .int (x1 / 100), .int (jrem x1 100)] g1 (fun v2 g2 => Q v2 g2))))))) : Wp L xs xm_Me_tell 104 [.ref x0, .int x1, .retAddr 0] [] f (QI Q) := by
  refine w_iload_n (pc' := 105) rfl rfl rfl ?_
  refine w_bipush (pc' := 107) rfl rfl (v := 100) rfl ?_
  refine w_idiv (pc' := 108) rfl rfl (by decide) ?_
  refine w_istore_n (pc' := 109) rfl rfl (xl' := [.ref x0, .int x1, .int (x1 / 100)]) rfl ?_
  refine w_iload_n (pc' := 110) rfl rfl rfl ?_
  refine w_bipush (pc' := 112) rfl rfl (v := 100) rfl ?_
  refine w_br2 (pc' := 115) (t := 134) rfl rfl rfl ic_lt (fun hc => ?_) (fun hc => ?_)
  · replace h := h.1 hc
    refine w_bipush (pc' := 136) rfl rfl (v := (-2)) rfl ?_
    exact w_ireturn rfl rfl h
  · replace h := h.2 hc
    refine w_iload_n (pc' := 116) rfl rfl rfl ?_
    refine w_cs (pc' := 119) (cm := xm_TP_isPlace) (as := [.int (x1 / 100)]) (rest := []) rfl rfl rfl (Or.inr rfl) (xa_TP_isPlace (Nat.le_of_ble_eq_true rfl)) (CI.k h fun v1 g1 h => ?_)
    show Wp L xs xm_Me_tell 119 [.ref x0, .int x1, .int (x1 / 100)] [.int v1] g1 _
    refine w_br (pc' := 122) (t := 134) rfl rfl rfl ic_eq (fun hc => ?_) (fun hc => ?_)
    · replace h := h.1 hc
      refine w_bipush (pc' := 136) rfl rfl (v := (-2)) rfl ?_
      exact w_ireturn rfl rfl h
    · replace h := h.2 hc
      refine w_aload_n (pc' := 123) rfl rfl rfl ?_
      refine w_iload_n (pc' := 124) rfl rfl rfl ?_
      refine w_iload_n (pc' := 125) rfl rfl rfl ?_
      refine w_bipush (pc' := 127) rfl rfl (v := 100) rfl ?_
      refine w_irem (pc' := 128) rfl rfl (by decide) ?_
      refine w_cv (pc' := 131) (cm := xm_Me_tellPlace) (as := [.int (x1 / 100), .int (jrem x1 100)]) (a := x0) (rest := []) rfl rfl rfl  (xa_Me_tellPlace (Nat.le_of_ble_eq_true rfl)) qx0 rfl (CI.k h fun v2 g2 h => ?_)
      show Wp L xs xm_Me_tell 131 [.ref x0, .int x1, .int (x1 / 100)] [.int v2] g2 _
      refine w_goto (pc' := 136) rfl rfl ?_
      exact w_ireturn rfl rfl h
theorem t_Me_tellPlace_0 {L : Nat} {xs : Nat → Int32} {x0 : Nat} {x1 : Int32} {x2 : Int32} {f : Hp} {Q : Int32 → Hp → Prop} (qx0 : xS0 L x0 = (2, 0)) (h : ((x2 = 0 → ∃ k1 : Nat, x1 = iN k1 ∧ k1 < 13 ∧ Q (f (x0 + 3) k1) f) ∧ (¬ x2 = 0 → ((x2 = 1 → ∃ k2 : Nat, x1 = iN k2 ∧ k2 < 13 ∧ Q (f (x0 + 4) k2) f) ∧ (¬ x2 = 1 → ((x2 = 2 → ∃ k3 : Nat, x1 = iN k3 ∧ k3 < 13 ∧ Q (f (x0 + 5) k3) f) ∧ (¬ x2 = 2 → ((x2 = 3 → CI L xs xm_Me_isPrepared [.ref x0, .int x1] f (fun v1 g1 => ((v1 = 0 → Q 0 g1) ∧ (¬ v1 = 0 → Q 1 g1)))) ∧ (¬ x2 = 3 → ((x2 = 4 → CI L xs xm_Me_isCommitted [.ref x0, .int x1] f (fun v2 g2 => ((v2 = 0 → Q 0 g2) ∧ (¬ v2 = 0 → Q 1 g2)))) ∧ (¬ x2 = 4 → ((x2 = 5 → ∃ k4 : Nat, x1 = iN k4 ∧ k4 < 13 ∧ Q (f (x0 + 6) k4) f) ∧ (¬ x2 = 5 → ((x2 = 6 → ∃ k5 : Nat, x1 = iN k5 ∧ k5 < 13 ∧ Q (f (x0 + 7) k5) f) ∧ (¬ x2 = 6 → ((x2 = 7 → ∃ k6 : Nat, x1 = iN k6 ∧ k6 < 13 ∧ Q (f (x0 + 8) k6) f) ∧ (¬ x2 = 7 → Q (-2) f))))))))))))))))) : CI L xs xm_Me_tellPlace [.ref x0, .int x1, .int x2] f Q := by
  show Wp L xs xm_Me_tellPlace 0 [.ref x0, .int x1, .int x2] [] f (QI Q)
  refine w_iload_n (pc' := 1) rfl rfl rfl ?_
  by_cases hs0 : x2 = 0
  · replace h := h.1 hs0
    refine w_ts (o := 47) (t := 48) rfl (by rw [hs0]; decide) (by rw [hs0]; rfl) rfl ?_
    refine w_aload_n (pc' := 49) rfl rfl rfl ?_
    have q1 : xR0 x0 10 = some (x0 + 3) ∧ xS0 L (x0 + 3) = (20, 13) := (kf_2_10 qx0)
    refine w_getR (pc' := 52) rfl rfl rfl rfl qx0 q1.1 ?_
    refine w_iload_n (pc' := 53) rfl rfl rfl ?_
    obtain ⟨k1, ek1, bk1, h⟩ := h
    refine w_iaload (pc' := 54) (i := k1) rfl rfl q1.2 ek1 bk1 (by omega) ?_
    exact w_ireturn rfl rfl h
  replace h := h.2 hs0
  by_cases hs1 : x2 = 1
  · replace h := h.1 hs1
    refine w_ts (o := 54) (t := 55) rfl (by rw [hs1]; decide) (by rw [hs1]; rfl) rfl ?_
    refine w_aload_n (pc' := 56) rfl rfl rfl ?_
    have q2 : xR0 x0 11 = some (x0 + 4) ∧ xS0 L (x0 + 4) = (20, 13) := (kf_2_11 qx0)
    refine w_getR (pc' := 59) rfl rfl rfl rfl qx0 q2.1 ?_
    refine w_iload_n (pc' := 60) rfl rfl rfl ?_
    obtain ⟨k2, ek2, bk2, h⟩ := h
    refine w_iaload (pc' := 61) (i := k2) rfl rfl q2.2 ek2 bk2 (by omega) ?_
    exact w_ireturn rfl rfl h
  replace h := h.2 hs1
  by_cases hs2 : x2 = 2
  · replace h := h.1 hs2
    refine w_ts (o := 61) (t := 62) rfl (by rw [hs2]; decide) (by rw [hs2]; rfl) rfl ?_
    refine w_aload_n (pc' := 63) rfl rfl rfl ?_
    have q3 : xR0 x0 12 = some (x0 + 5) ∧ xS0 L (x0 + 5) = (20, 13) := (kf_2_12 qx0)
    refine w_getR (pc' := 66) rfl rfl rfl rfl qx0 q3.1 ?_
    refine w_iload_n (pc' := 67) rfl rfl rfl ?_
    obtain ⟨k3, ek3, bk3, h⟩ := h
    refine w_iaload (pc' := 68) (i := k3) rfl rfl q3.2 ek3 bk3 (by omega) ?_
    exact w_ireturn rfl rfl h
  replace h := h.2 hs2
  by_cases hs3 : x2 = 3
  · replace h := h.1 hs3
    refine w_ts (o := 68) (t := 69) rfl (by rw [hs3]; decide) (by rw [hs3]; rfl) rfl ?_
    refine w_aload_n (pc' := 70) rfl rfl rfl ?_
    refine w_iload_n (pc' := 71) rfl rfl rfl ?_
    refine w_cv (pc' := 74) (cm := xm_Me_isPrepared) (as := [.int x1]) (a := x0) (rest := []) rfl rfl rfl  (xa_Me_isPrepared (Nat.le_of_ble_eq_true rfl)) qx0 rfl (CI.k h fun v1 g1 h => ?_)
    show Wp L xs xm_Me_tellPlace 74 [.ref x0, .int x1, .int x2] [.int v1] g1 _
    refine w_br (pc' := 77) (t := 81) rfl rfl rfl ic_eq (fun hc => ?_) (fun hc => ?_)
    · replace h := h.1 hc
      refine w_iconst (pc' := 82) rfl rfl (v := 0) rfl ?_
      exact w_ireturn rfl rfl h
    · replace h := h.2 hc
      refine w_iconst (pc' := 78) rfl rfl (v := 1) rfl ?_
      refine w_goto (pc' := 82) rfl rfl ?_
      exact w_ireturn rfl rfl h
  replace h := h.2 hs3
  by_cases hs4 : x2 = 4
  · replace h := h.1 hs4
    refine w_ts (o := 82) (t := 83) rfl (by rw [hs4]; decide) (by rw [hs4]; rfl) rfl ?_
    refine w_aload_n (pc' := 84) rfl rfl rfl ?_
    refine w_iload_n (pc' := 85) rfl rfl rfl ?_
    refine w_cv (pc' := 88) (cm := xm_Me_isCommitted) (as := [.int x1]) (a := x0) (rest := []) rfl rfl rfl  (xa_Me_isCommitted (Nat.le_of_ble_eq_true rfl)) qx0 rfl (CI.k h fun v2 g2 h => ?_)
    show Wp L xs xm_Me_tellPlace 88 [.ref x0, .int x1, .int x2] [.int v2] g2 _
    refine w_br (pc' := 91) (t := 95) rfl rfl rfl ic_eq (fun hc => ?_) (fun hc => ?_)
    · replace h := h.1 hc
      refine w_iconst (pc' := 96) rfl rfl (v := 0) rfl ?_
      exact w_ireturn rfl rfl h
    · replace h := h.2 hc
      refine w_iconst (pc' := 92) rfl rfl (v := 1) rfl ?_
      refine w_goto (pc' := 96) rfl rfl ?_
      exact w_ireturn rfl rfl h
  replace h := h.2 hs4
  by_cases hs5 : x2 = 5
  · replace h := h.1 hs5
    refine w_ts (o := 96) (t := 97) rfl (by rw [hs5]; decide) (by rw [hs5]; rfl) rfl ?_
    refine w_aload_n (pc' := 98) rfl rfl rfl ?_
    have q4 : xR0 x0 13 = some (x0 + 6) ∧ xS0 L (x0 + 6) = (20, 13) := (kf_2_13 qx0)
    refine w_getR (pc' := 101) rfl rfl rfl rfl qx0 q4.1 ?_
    refine w_iload_n (pc' := 102) rfl rfl rfl ?_
    obtain ⟨k4, ek4, bk4, h⟩ := h
    refine w_iaload (pc' := 103) (i := k4) rfl rfl q4.2 ek4 bk4 (by omega) ?_
    exact w_ireturn rfl rfl h
  replace h := h.2 hs5
  by_cases hs6 : x2 = 6
  · replace h := h.1 hs6
    refine w_ts (o := 103) (t := 104) rfl (by rw [hs6]; decide) (by rw [hs6]; rfl) rfl ?_
    refine w_aload_n (pc' := 105) rfl rfl rfl ?_
    have q5 : xR0 x0 14 = some (x0 + 7) ∧ xS0 L (x0 + 7) = (20, 13) := (kf_2_14 qx0)
    refine w_getR (pc' := 108) rfl rfl rfl rfl qx0 q5.1 ?_
    refine w_iload_n (pc' := 109) rfl rfl rfl ?_
    obtain ⟨k5, ek5, bk5, h⟩ := h
    refine w_iaload (pc' := 110) (i := k5) rfl rfl q5.2 ek5 bk5 (by omega) ?_
    exact w_ireturn rfl rfl h
  replace h := h.2 hs6
  by_cases hs7 : x2 = 7
  · replace h := h.1 hs7
    refine w_ts (o := 110) (t := 111) rfl (by rw [hs7]; decide) (by rw [hs7]; rfl) rfl ?_
    refine w_aload_n (pc' := 112) rfl rfl rfl ?_
    have q6 : xR0 x0 15 = some (x0 + 8) ∧ xS0 L (x0 + 8) = (20, 13) := (kf_2_15 qx0)
    refine w_getR (pc' := 115) rfl rfl rfl rfl qx0 q6.1 ?_
    refine w_iload_n (pc' := 116) rfl rfl rfl ?_
    obtain ⟨k6, ek6, bk6, h⟩ := h
    refine w_iaload (pc' := 117) (i := k6) rfl rfl q6.2 ek6 bk6 (by omega) ?_
    exact w_ireturn rfl rfl h
  replace h := h.2 hs7
  refine w_tsd (t := 118) rfl ?_ rfl ?_
  · have z0 : (x2).toInt ≠ 0 := fun e => hs0 (Int32.toInt_inj.mp e); have z1 : (x2).toInt ≠ 1 := fun e => hs1 (Int32.toInt_inj.mp e); have z2 : (x2).toInt ≠ 2 := fun e => hs2 (Int32.toInt_inj.mp e); have z3 : (x2).toInt ≠ 3 := fun e => hs3 (Int32.toInt_inj.mp e); have z4 : (x2).toInt ≠ 4 := fun e => hs4 (Int32.toInt_inj.mp e); have z5 : (x2).toInt ≠ 5 := fun e => hs5 (Int32.toInt_inj.mp e); have z6 : (x2).toInt ≠ 6 := fun e => hs6 (Int32.toInt_inj.mp e); have z7 : (x2).toInt ≠ 7 := fun e => hs7 (Int32.toInt_inj.mp e); omega
  refine w_bipush (pc' := 120) rfl rfl (v := (-2)) rfl ?_
  exact w_ireturn rfl rfl h
theorem t_Tt_plan_0 {L : Nat} {xs : Nat → Int32} {x1 : Nat} {x2 : Int32} {x3 : Int32} {f : Hp} {Q : Hp → Prop} (qx1 : xS0 L x1 = (1, 0)) (h : CV L xs xm_Co_take [.ref 234, .ref x1] f (fun g1 => ∀ g2, g2 = xu g1 234 1 x2 → ∀ g3, g3 = xu g2 234 3 x3 → ∀ g4, g4 = xu g3 200 1 0 → ∀ g5, g5 = xu g4 200 2 (-1) → Wp L xs xm_Tt_plan 37 [.ref 200, .ref x1, .int x2, .int x3, .int 0] [] g5 (QV Q))) : CV L xs xm_Tt_plan [.ref 200, .ref x1, .int x2, .int x3] f Q := by
  show Wp L xs xm_Tt_plan 0 [.ref 200, .ref x1, .int x2, .int x3, .retAddr 0] [] f (QV Q)
  refine w_aload_n (pc' := 1) rfl rfl rfl ?_
  have q1 : xR0 200 7 = some 234 ∧ xS0 L 234 = (1, 0) := (kf_9_7 (show xS0 L 200 = (9, 0) from rfl))
  refine w_getR (pc' := 4) rfl rfl rfl rfl (show xS0 L 200 = (9, 0) from rfl) q1.1 ?_
  refine w_aload_n (pc' := 5) rfl rfl rfl ?_
  refine w_cv (pc' := 8) (cm := xm_Co_take) (as := [.ref x1]) (a := 234) (rest := []) rfl rfl rfl  (xa_Co_take (Nat.le_of_ble_eq_true rfl)) q1.2 rfl (CV.k h fun g1 h => ?_)
  show Wp L xs xm_Tt_plan 8 [.ref 200, .ref x1, .int x2, .int x3, .retAddr 0] [] g1 _
  refine w_aload_n (pc' := 9) rfl rfl rfl ?_
  have q2 : xR0 200 7 = some 234 ∧ xS0 L 234 = (1, 0) := (kf_9_7 (show xS0 L 200 = (9, 0) from rfl))
  refine w_getR (pc' := 12) rfl rfl rfl rfl (show xS0 L 200 = (9, 0) from rfl) q2.1 ?_
  refine w_iload_n (pc' := 13) rfl rfl rfl ?_
  refine w_putI (pc' := 16) rfl rfl rfl rfl q2.2 ?_
  replace h := h _ rfl
  generalize xu g1 234 1 x2 = g2 at h ⊢
  refine w_aload_n (pc' := 17) rfl rfl rfl ?_
  have q3 : xR0 200 7 = some 234 ∧ xS0 L 234 = (1, 0) := (kf_9_7 (show xS0 L 200 = (9, 0) from rfl))
  refine w_getR (pc' := 20) rfl rfl rfl rfl (show xS0 L 200 = (9, 0) from rfl) q3.1 ?_
  refine w_iload_n (pc' := 21) rfl rfl rfl ?_
  refine w_putI (pc' := 24) rfl rfl rfl rfl q3.2 ?_
  replace h := h _ rfl
  generalize xu g2 234 3 x3 = g3 at h ⊢
  refine w_aload_n (pc' := 25) rfl rfl rfl ?_
  refine w_iconst (pc' := 26) rfl rfl (v := 0) rfl ?_
  refine w_putI (pc' := 29) rfl rfl rfl rfl (show xS0 L 200 = (9, 0) from rfl) ?_
  replace h := h _ rfl
  generalize xu g3 200 1 0 = g4 at h ⊢
  refine w_aload_n (pc' := 30) rfl rfl rfl ?_
  refine w_iconst (pc' := 31) rfl rfl (v := (-1)) rfl ?_
  refine w_putI (pc' := 34) rfl rfl rfl rfl (show xS0 L 200 = (9, 0) from rfl) ?_
  replace h := h _ rfl
  generalize xu g4 200 2 (-1) = g5 at h ⊢
  refine w_iconst (pc' := 35) rfl rfl (v := 0) rfl ?_
  refine w_istore (pc' := 37) rfl rfl (xl' := [.ref 200, .ref x1, .int x2, .int x3, .int 0]) rfl ?_
  exact h
theorem t_Tt_plan_37 {L : Nat} {xs : Nat → Int32} {x1 : Nat} {x2 : Int32} {x3 : Int32} {x4 : Int32} {f : Hp} {Q : Hp → Prop} (qx1 : xS0 L x1 = (1, 0)) (h : ((x4 < 7 → ∃ k1 : Nat, x4 = iN k1 ∧ k1 < 7 ∧ CV L xs xm_ja_fill [.ref (202 + k1), .int 1000000] f (fun g2 => CV L xs xm_ja_fill [.ref (210 + k1), .int 1000000] g2 (fun g3 => CV L xs xm_ja_fill [.ref (218 + k1), .int 1000000] g3 (fun g4 => CV L xs xm_ja_fill [.ref (226 + k1), .int 1000000] g4 (fun g5 => ∀ g6, g6 = xu g5 (202 + k1) 0 0 → ∀ g7, g7 = xu g6 (210 + k1) 0 0 → Wp L xs xm_Tt_plan 37 [.ref 200, .ref x1, .int x2, .int x3, .int (x4 + 1)] [] g7 (QV Q)))))) ∧ (¬ x4 < 7 → CI L xs xm_Co_isHonest [.ref 234, .int 0] f (fun v1 g1 => ((v1 = 0 → Q g1) ∧ (¬ v1 = 0 → Wp L xs xm_Tt_plan 133 [.ref 200, .ref x1, .int x2, .int x3, .int 1] [] g1 (QV Q))))))) : Wp L xs xm_Tt_plan 37 [.ref 200, .ref x1, .int x2, .int x3, .int x4] [] f (QV Q) := by
  refine w_iload (pc' := 39) rfl rfl rfl ?_
  refine w_bipush (pc' := 41) rfl rfl (v := 7) rfl ?_
  refine w_br2 (pc' := 44) (t := 118) rfl rfl rfl ic_ge (fun hc => ?_) (fun hc => ?_)
  · replace h := h.2 hc
    refine w_aload_n (pc' := 119) rfl rfl rfl ?_
    have q1 : xR0 200 7 = some 234 ∧ xS0 L 234 = (1, 0) := (kf_9_7 (show xS0 L 200 = (9, 0) from rfl))
    refine w_getR (pc' := 122) rfl rfl rfl rfl (show xS0 L 200 = (9, 0) from rfl) q1.1 ?_
    refine w_iconst (pc' := 123) rfl rfl (v := 0) rfl ?_
    refine w_cv (pc' := 126) (cm := xm_Co_isHonest) (as := [.int 0]) (a := 234) (rest := []) rfl rfl rfl  (xa_Co_isHonest (Nat.le_of_ble_eq_true rfl)) q1.2 rfl (CI.k h fun v1 g1 h => ?_)
    show Wp L xs xm_Tt_plan 126 [.ref 200, .ref x1, .int x2, .int x3, .int x4] [.int v1] g1 _
    refine w_br (pc' := 129) (t := 130) rfl rfl rfl ic_ne (fun hc => ?_) (fun hc => ?_)
    · replace h := h.2 hc
      refine w_iconst (pc' := 131) rfl rfl (v := 1) rfl ?_
      refine w_istore (pc' := 133) rfl rfl (xl' := [.ref 200, .ref x1, .int x2, .int x3, .int 1]) rfl ?_
      exact h
    · replace h := h.1 (Classical.not_not.mp hc)
      exact w_return rfl rfl h
  · replace h := h.1 (Classical.not_not.mp hc)
    refine w_aload_n (pc' := 45) rfl rfl rfl ?_
    have q2 : xR0 200 0 = some 201 ∧ kG L 201 11 := (kf_9_0 (show xS0 L 200 = (9, 0) from rfl))
    refine w_getR (pc' := 48) rfl rfl rfl rfl (show xS0 L 200 = (9, 0) from rfl) q2.1 ?_
    refine w_iload (pc' := 50) rfl rfl rfl ?_
    obtain ⟨k1, ek1, bk1, h⟩ := h
    have q3 : xR0 201 k1 = some (202 + k1) ∧ xS0 L (202 + k1) = (20, 11) := q2.2.2 k1 bk1
    refine w_aaload (pc' := 51) (i := k1) rfl rfl q2.2.1 (by omega) ek1 bk1 (by omega) q3.1 ?_
    refine w_ldc (pc' := 53) rfl rfl (v := 1000000) rfl ?_
    refine w_cs (pc' := 56) (cm := xm_ja_fill) (as := [.ref (202 + k1), .int 1000000]) (rest := []) rfl rfl rfl (Or.inl rfl) (xa_ja_fill (Nat.le_of_ble_eq_true rfl)) (CV.k h fun g2 h => ?_)
    show Wp L xs xm_Tt_plan 56 [.ref 200, .ref x1, .int x2, .int x3, .int x4] [] g2 _
    refine w_aload_n (pc' := 57) rfl rfl rfl ?_
    have q4 : xR0 200 3 = some 209 ∧ kG L 209 11 := (kf_9_3 (show xS0 L 200 = (9, 0) from rfl))
    refine w_getR (pc' := 60) rfl rfl rfl rfl (show xS0 L 200 = (9, 0) from rfl) q4.1 ?_
    refine w_iload (pc' := 62) rfl rfl rfl ?_
    have q5 : xR0 209 k1 = some (210 + k1) ∧ xS0 L (210 + k1) = (20, 11) := q4.2.2 k1 bk1
    refine w_aaload (pc' := 63) (i := k1) rfl rfl q4.2.1 (by omega) ek1 bk1 (by omega) q5.1 ?_
    refine w_ldc (pc' := 65) rfl rfl (v := 1000000) rfl ?_
    refine w_cs (pc' := 68) (cm := xm_ja_fill) (as := [.ref (210 + k1), .int 1000000]) (rest := []) rfl rfl rfl (Or.inl rfl) (xa_ja_fill (Nat.le_of_ble_eq_true rfl)) (CV.k h fun g3 h => ?_)
    show Wp L xs xm_Tt_plan 68 [.ref 200, .ref x1, .int x2, .int x3, .int x4] [] g3 _
    refine w_aload_n (pc' := 69) rfl rfl rfl ?_
    have q6 : xR0 200 4 = some 217 ∧ kG L 217 11 := (kf_9_4 (show xS0 L 200 = (9, 0) from rfl))
    refine w_getR (pc' := 72) rfl rfl rfl rfl (show xS0 L 200 = (9, 0) from rfl) q6.1 ?_
    refine w_iload (pc' := 74) rfl rfl rfl ?_
    have q7 : xR0 217 k1 = some (218 + k1) ∧ xS0 L (218 + k1) = (20, 11) := q6.2.2 k1 bk1
    refine w_aaload (pc' := 75) (i := k1) rfl rfl q6.2.1 (by omega) ek1 bk1 (by omega) q7.1 ?_
    refine w_ldc (pc' := 77) rfl rfl (v := 1000000) rfl ?_
    refine w_cs (pc' := 80) (cm := xm_ja_fill) (as := [.ref (218 + k1), .int 1000000]) (rest := []) rfl rfl rfl (Or.inl rfl) (xa_ja_fill (Nat.le_of_ble_eq_true rfl)) (CV.k h fun g4 h => ?_)
    show Wp L xs xm_Tt_plan 80 [.ref 200, .ref x1, .int x2, .int x3, .int x4] [] g4 _
    refine w_aload_n (pc' := 81) rfl rfl rfl ?_
    have q8 : xR0 200 5 = some 225 ∧ kG L 225 11 := (kf_9_5 (show xS0 L 200 = (9, 0) from rfl))
    refine w_getR (pc' := 84) rfl rfl rfl rfl (show xS0 L 200 = (9, 0) from rfl) q8.1 ?_
    refine w_iload (pc' := 86) rfl rfl rfl ?_
    have q9 : xR0 225 k1 = some (226 + k1) ∧ xS0 L (226 + k1) = (20, 11) := q8.2.2 k1 bk1
    refine w_aaload (pc' := 87) (i := k1) rfl rfl q8.2.1 (by omega) ek1 bk1 (by omega) q9.1 ?_
    refine w_ldc (pc' := 89) rfl rfl (v := 1000000) rfl ?_
    refine w_cs (pc' := 92) (cm := xm_ja_fill) (as := [.ref (226 + k1), .int 1000000]) (rest := []) rfl rfl rfl (Or.inl rfl) (xa_ja_fill (Nat.le_of_ble_eq_true rfl)) (CV.k h fun g5 h => ?_)
    show Wp L xs xm_Tt_plan 92 [.ref 200, .ref x1, .int x2, .int x3, .int x4] [] g5 _
    refine w_aload_n (pc' := 93) rfl rfl rfl ?_
    have q10 : xR0 200 0 = some 201 ∧ kG L 201 11 := (kf_9_0 (show xS0 L 200 = (9, 0) from rfl))
    refine w_getR (pc' := 96) rfl rfl rfl rfl (show xS0 L 200 = (9, 0) from rfl) q10.1 ?_
    refine w_iload (pc' := 98) rfl rfl rfl ?_
    have q11 : xR0 201 k1 = some (202 + k1) ∧ xS0 L (202 + k1) = (20, 11) := q10.2.2 k1 bk1
    refine w_aaload (pc' := 99) (i := k1) rfl rfl q10.2.1 (by omega) ek1 bk1 (by omega) q11.1 ?_
    refine w_iconst (pc' := 100) rfl rfl (v := 0) rfl ?_
    refine w_iconst (pc' := 101) rfl rfl (v := 0) rfl ?_
    refine w_iastore (pc' := 102) (i := 0) rfl rfl q11.2 rfl (by omega) (by omega) ?_
    replace h := h _ rfl
    generalize xu g5 (202 + k1) 0 0 = g6 at h ⊢
    refine w_aload_n (pc' := 103) rfl rfl rfl ?_
    have q12 : xR0 200 3 = some 209 ∧ kG L 209 11 := (kf_9_3 (show xS0 L 200 = (9, 0) from rfl))
    refine w_getR (pc' := 106) rfl rfl rfl rfl (show xS0 L 200 = (9, 0) from rfl) q12.1 ?_
    refine w_iload (pc' := 108) rfl rfl rfl ?_
    have q13 : xR0 209 k1 = some (210 + k1) ∧ xS0 L (210 + k1) = (20, 11) := q12.2.2 k1 bk1
    refine w_aaload (pc' := 109) (i := k1) rfl rfl q12.2.1 (by omega) ek1 bk1 (by omega) q13.1 ?_
    refine w_iconst (pc' := 110) rfl rfl (v := 0) rfl ?_
    refine w_iconst (pc' := 111) rfl rfl (v := 0) rfl ?_
    refine w_iastore (pc' := 112) (i := 0) rfl rfl q13.2 rfl (by omega) (by omega) ?_
    replace h := h _ rfl
    generalize xu g6 (210 + k1) 0 0 = g7 at h ⊢
    refine w_iinc (pc' := 115) rfl rfl rfl (v := (x4 + 1)) rfl (xl' := [.ref 200, .ref x1, .int x2, .int x3, .int (x4 + 1)]) rfl ?_
    refine w_goto (pc' := 37) rfl rfl ?_
    exact h
theorem t_Tt_plan_133 {L : Nat} {xs : Nat → Int32} {x1 : Nat} {x2 : Int32} {x3 : Int32} {x4 : Int32} {f : Hp} {Q : Hp → Prop} (qx1 : xS0 L x1 = (1, 0)) (h : (((f 234 4) < x4 → Q f) ∧ (¬ (f 234 4) < x4 → ((10 < x4 → Q f) ∧ (¬ 10 < x4 → CV L xs xm_Tt_acceptAll [.ref 200, .int x4] f (fun g1 => CV L xs xm_Tt_prepareAll [.ref 200, .int x4] g1 (fun g2 => CV L xs xm_Tt_runAll [.ref 200, .int x4] g2 (fun g3 => CV L xs xm_Tt_cutAll [.ref 200, .int x4] g3 (fun g4 => CV L xs xm_Tt_sendAll [.ref 200, .int x4] g4 (fun g5 => Wp L xs xm_Tt_plan 133 [.ref 200, .ref x1, .int x2, .int x3, .int (x4 + 1)] [] g5 (QV Q))))))))))) : Wp L xs xm_Tt_plan 133 [.ref 200, .ref x1, .int x2, .int x3, .int x4] [] f (QV Q) := by
  refine w_iload (pc' := 135) rfl rfl rfl ?_
  refine w_aload_n (pc' := 136) rfl rfl rfl ?_
  have q1 : xR0 200 7 = some 234 ∧ xS0 L 234 = (1, 0) := (kf_9_7 (show xS0 L 200 = (9, 0) from rfl))
  refine w_getR (pc' := 139) rfl rfl rfl rfl (show xS0 L 200 = (9, 0) from rfl) q1.1 ?_
  refine w_getI (pc' := 142) rfl rfl rfl rfl rfl q1.2 ?_
  refine w_br2 (pc' := 145) (t := 188) rfl rfl rfl ic_gt (fun hc => ?_) (fun hc => ?_)
  · replace h := h.1 hc
    exact w_return rfl rfl h
  · replace h := h.2 hc
    refine w_iload (pc' := 147) rfl rfl rfl ?_
    refine w_bipush (pc' := 149) rfl rfl (v := 10) rfl ?_
    refine w_br2 (pc' := 152) (t := 188) rfl rfl rfl ic_gt (fun hc => ?_) (fun hc => ?_)
    · replace h := h.1 hc
      exact w_return rfl rfl h
    · replace h := h.2 hc
      refine w_aload_n (pc' := 153) rfl rfl rfl ?_
      refine w_iload (pc' := 155) rfl rfl rfl ?_
      refine w_cv (pc' := 158) (cm := xm_Tt_acceptAll) (as := [.int x4]) (a := 200) (rest := []) rfl rfl rfl  (xa_Tt_acceptAll (Nat.le_of_ble_eq_true rfl)) (show xS0 L 200 = (9, 0) from rfl) rfl (CV.k h fun g1 h => ?_)
      show Wp L xs xm_Tt_plan 158 [.ref 200, .ref x1, .int x2, .int x3, .int x4] [] g1 _
      refine w_aload_n (pc' := 159) rfl rfl rfl ?_
      refine w_iload (pc' := 161) rfl rfl rfl ?_
      refine w_cv (pc' := 164) (cm := xm_Tt_prepareAll) (as := [.int x4]) (a := 200) (rest := []) rfl rfl rfl  (xa_Tt_prepareAll (Nat.le_of_ble_eq_true rfl)) (show xS0 L 200 = (9, 0) from rfl) rfl (CV.k h fun g2 h => ?_)
      show Wp L xs xm_Tt_plan 164 [.ref 200, .ref x1, .int x2, .int x3, .int x4] [] g2 _
      refine w_aload_n (pc' := 165) rfl rfl rfl ?_
      refine w_iload (pc' := 167) rfl rfl rfl ?_
      refine w_cv (pc' := 170) (cm := xm_Tt_runAll) (as := [.int x4]) (a := 200) (rest := []) rfl rfl rfl  (xa_Tt_runAll (Nat.le_of_ble_eq_true rfl)) (show xS0 L 200 = (9, 0) from rfl) rfl (CV.k h fun g3 h => ?_)
      show Wp L xs xm_Tt_plan 170 [.ref 200, .ref x1, .int x2, .int x3, .int x4] [] g3 _
      refine w_aload_n (pc' := 171) rfl rfl rfl ?_
      refine w_iload (pc' := 173) rfl rfl rfl ?_
      refine w_cv (pc' := 176) (cm := xm_Tt_cutAll) (as := [.int x4]) (a := 200) (rest := []) rfl rfl rfl  (xa_Tt_cutAll (Nat.le_of_ble_eq_true rfl)) (show xS0 L 200 = (9, 0) from rfl) rfl (CV.k h fun g4 h => ?_)
      show Wp L xs xm_Tt_plan 176 [.ref 200, .ref x1, .int x2, .int x3, .int x4] [] g4 _
      refine w_aload_n (pc' := 177) rfl rfl rfl ?_
      refine w_iload (pc' := 179) rfl rfl rfl ?_
      refine w_cv (pc' := 182) (cm := xm_Tt_sendAll) (as := [.int x4]) (a := 200) (rest := []) rfl rfl rfl  (xa_Tt_sendAll (Nat.le_of_ble_eq_true rfl)) (show xS0 L 200 = (9, 0) from rfl) rfl (CV.k h fun g5 h => ?_)
      show Wp L xs xm_Tt_plan 182 [.ref 200, .ref x1, .int x2, .int x3, .int x4] [] g5 _
      refine w_iinc (pc' := 185) rfl rfl rfl (v := (x4 + 1)) rfl (xl' := [.ref 200, .ref x1, .int x2, .int x3, .int (x4 + 1)]) rfl ?_
      refine w_goto (pc' := 133) rfl rfl ?_
      exact h
theorem t_Tt_acceptAll_0 {L : Nat} {xs : Nat → Int32} {x1 : Int32} {f : Hp} {Q : Hp → Prop}  (h : ∃ k1 : Nat, (x1 - 1) = iN k1 ∧ k1 < 11 ∧ CI L xs xm_Tt_lowAt [.ref 200, .int 0, .int (x1 - (f 234 1))] f (fun v1 g1 => CI L xs xm_Tt_bounded [.int (imax (imax (x1 - 1) (f 210 k1)) v1)] g1 (fun v2 g2 => ∃ k2 : Nat, x1 = iN k2 ∧ k2 < 11 ∧ ∀ g3, g3 = xu g2 210 k2 v2 → Wp L xs xm_Tt_acceptAll 48 [.ref 200, .int x1, .int (imax (x1 - 1) (f 210 k1)), .int 1, .retAddr 0] [] g3 (QV Q)))) : CV L xs xm_Tt_acceptAll [.ref 200, .int x1] f Q := by
  show Wp L xs xm_Tt_acceptAll 0 [.ref 200, .int x1, .retAddr 0, .retAddr 0, .retAddr 0] [] f (QV Q)
  refine w_iload_n (pc' := 1) rfl rfl rfl ?_
  refine w_iconst (pc' := 2) rfl rfl (v := 1) rfl ?_
  refine w_isub (pc' := 3) rfl rfl ?_
  refine w_aload_n (pc' := 4) rfl rfl rfl ?_
  have q1 : xR0 200 3 = some 209 ∧ kG L 209 11 := (kf_9_3 (show xS0 L 200 = (9, 0) from rfl))
  refine w_getR (pc' := 7) rfl rfl rfl rfl (show xS0 L 200 = (9, 0) from rfl) q1.1 ?_
  refine w_iconst (pc' := 8) rfl rfl (v := 0) rfl ?_
  have q2 : xR0 209 0 = some 210 ∧ xS0 L 210 = (20, 11) := q1.2.2 0 (by omega)
  refine w_aaload (pc' := 9) (i := 0) rfl rfl q1.2.1 (by omega) rfl (by omega) (by omega) q2.1 ?_
  refine w_iload_n (pc' := 10) rfl rfl rfl ?_
  refine w_iconst (pc' := 11) rfl rfl (v := 1) rfl ?_
  refine w_isub (pc' := 12) rfl rfl ?_
  obtain ⟨k1, ek1, bk1, h⟩ := h
  refine w_iaload (pc' := 13) (i := k1) rfl rfl q2.2 ek1 bk1 (by omega) ?_
  refine w_max (pc' := 16) rfl rfl rfl (Nat.le_of_ble_eq_true rfl) ?_
  refine w_istore_n (pc' := 17) rfl rfl (xl' := [.ref 200, .int x1, .int (imax (x1 - 1) (f 210 k1)), .retAddr 0, .retAddr 0]) rfl ?_
  refine w_aload_n (pc' := 18) rfl rfl rfl ?_
  have q3 : xR0 200 3 = some 209 ∧ kG L 209 11 := (kf_9_3 (show xS0 L 200 = (9, 0) from rfl))
  refine w_getR (pc' := 21) rfl rfl rfl rfl (show xS0 L 200 = (9, 0) from rfl) q3.1 ?_
  refine w_iconst (pc' := 22) rfl rfl (v := 0) rfl ?_
  have q4 : xR0 209 0 = some 210 ∧ xS0 L 210 = (20, 11) := q3.2.2 0 (by omega)
  refine w_aaload (pc' := 23) (i := 0) rfl rfl q3.2.1 (by omega) rfl (by omega) (by omega) q4.1 ?_
  refine w_iload_n (pc' := 24) rfl rfl rfl ?_
  refine w_iload_n (pc' := 25) rfl rfl rfl ?_
  refine w_aload_n (pc' := 26) rfl rfl rfl ?_
  refine w_iconst (pc' := 27) rfl rfl (v := 0) rfl ?_
  refine w_iload_n (pc' := 28) rfl rfl rfl ?_
  refine w_aload_n (pc' := 29) rfl rfl rfl ?_
  have q5 : xR0 200 7 = some 234 ∧ xS0 L 234 = (1, 0) := (kf_9_7 (show xS0 L 200 = (9, 0) from rfl))
  refine w_getR (pc' := 32) rfl rfl rfl rfl (show xS0 L 200 = (9, 0) from rfl) q5.1 ?_
  refine w_getI (pc' := 35) rfl rfl rfl rfl rfl q5.2 ?_
  refine w_isub (pc' := 36) rfl rfl ?_
  refine w_cv (pc' := 39) (cm := xm_Tt_lowAt) (as := [.int 0, .int (x1 - (f 234 1))]) (a := 200) (rest := [.int (imax (x1 - 1) (f 210 k1)), .int x1, .ref 210]) rfl rfl rfl  (xa_Tt_lowAt (Nat.le_of_ble_eq_true rfl)) (show xS0 L 200 = (9, 0) from rfl) rfl (CI.k h fun v1 g1 h => ?_)
  show Wp L xs xm_Tt_acceptAll 39 [.ref 200, .int x1, .int (imax (x1 - 1) (f 210 k1)), .retAddr 0, .retAddr 0] [.int v1, .int (imax (x1 - 1) (f 210 k1)), .int x1, .ref 210] g1 _
  refine w_max (pc' := 42) rfl rfl rfl (Nat.le_of_ble_eq_true rfl) ?_
  refine w_cs (pc' := 45) (cm := xm_Tt_bounded) (as := [.int (imax (imax (x1 - 1) (f 210 k1)) v1)]) (rest := [.int x1, .ref 210]) rfl rfl rfl (Or.inl rfl) (xa_Tt_bounded (Nat.le_of_ble_eq_true rfl)) (CI.k h fun v2 g2 h => ?_)
  show Wp L xs xm_Tt_acceptAll 45 [.ref 200, .int x1, .int (imax (x1 - 1) (f 210 k1)), .retAddr 0, .retAddr 0] [.int v2, .int x1, .ref 210] g2 _
  obtain ⟨k2, ek2, bk2, h⟩ := h
  refine w_iastore (pc' := 46) (i := k2) rfl rfl q4.2 ek2 bk2 (by omega) ?_
  replace h := h _ rfl
  generalize xu g2 210 k2 v2 = g3 at h ⊢
  refine w_iconst (pc' := 47) rfl rfl (v := 1) rfl ?_
  refine w_istore_n (pc' := 48) rfl rfl (xl' := [.ref 200, .int x1, .int (imax (x1 - 1) (f 210 k1)), .int 1, .retAddr 0]) rfl ?_
  exact h
theorem t_Tt_acceptAll_48 {L : Nat} {xs : Nat → Int32} {x1 : Int32} {x2 : Int32} {x3 : Int32} {x4 : Value} {f : Hp} {Q : Hp → Prop} (cx4 : (x4.category != 2) = true) (h : CI L xs xm_Co_members [.ref 234] f (fun v1 g1 => ((x3 < v1 → CI L xs xm_Co_isHonest [.ref 234, .int x3] g1 (fun v2 g2 => ((v2 = 0 → Wp L xs xm_Tt_acceptAll 48 [.ref 200, .int x1, .int x2, .int (x3 + 1), x4] [] g2 (QV Q)) ∧ (¬ v2 = 0 → ∃ k1 : Nat, x1 = iN k1 ∧ k1 < 11 ∧ ∃ k2 : Nat, x3 = iN k2 ∧ k2 < 7 ∧ CI L xs xm_Tt_lowAt [.ref 200, .int x3, .int (x1 - (g2 234 1))] g2 (fun v3 g3 => CI L xs xm_Tt_bounded [.int (imax ((g2 210 k1) + (g2 239 k2)) v3)] g3 (fun v4 g4 => ∀ g5, g5 = xu g4 (210 + k2) k1 v4 → Wp L xs xm_Tt_acceptAll 48 [.ref 200, .int x1, .int x2, .int (x3 + 1), .int ((g2 210 k1) + (g2 239 k2))] [] g5 (QV Q))))))) ∧ (¬ x3 < v1 → Q g1)))) : Wp L xs xm_Tt_acceptAll 48 [.ref 200, .int x1, .int x2, .int x3, x4] [] f (QV Q) := by
  refine w_iload_n (pc' := 49) rfl rfl rfl ?_
  refine w_aload_n (pc' := 50) rfl rfl rfl ?_
  have q1 : xR0 200 7 = some 234 ∧ xS0 L 234 = (1, 0) := (kf_9_7 (show xS0 L 200 = (9, 0) from rfl))
  refine w_getR (pc' := 53) rfl rfl rfl rfl (show xS0 L 200 = (9, 0) from rfl) q1.1 ?_
  refine w_cv (pc' := 56) (cm := xm_Co_members) (as := []) (a := 234) (rest := [.int x3]) rfl rfl rfl  (xa_Co_members (Nat.le_of_ble_eq_true rfl)) q1.2 rfl (CI.k h fun v1 g1 h => ?_)
  show Wp L xs xm_Tt_acceptAll 56 [.ref 200, .int x1, .int x2, .int x3, x4] [.int v1, .int x3] g1 _
  refine w_br2 (pc' := 59) (t := 128) rfl rfl rfl ic_ge (fun hc => ?_) (fun hc => ?_)
  · replace h := h.2 hc
    exact w_return rfl rfl h
  · replace h := h.1 (Classical.not_not.mp hc)
    refine w_aload_n (pc' := 60) rfl rfl rfl ?_
    have q2 : xR0 200 7 = some 234 ∧ xS0 L 234 = (1, 0) := (kf_9_7 (show xS0 L 200 = (9, 0) from rfl))
    refine w_getR (pc' := 63) rfl rfl rfl rfl (show xS0 L 200 = (9, 0) from rfl) q2.1 ?_
    refine w_iload_n (pc' := 64) rfl rfl rfl ?_
    refine w_cv (pc' := 67) (cm := xm_Co_isHonest) (as := [.int x3]) (a := 234) (rest := []) rfl rfl rfl  (xa_Co_isHonest (Nat.le_of_ble_eq_true rfl)) q2.2 rfl (CI.k h fun v2 g2 h => ?_)
    show Wp L xs xm_Tt_acceptAll 67 [.ref 200, .int x1, .int x2, .int x3, x4] [.int v2] g2 _
    refine w_br (pc' := 70) (t := 122) rfl rfl rfl ic_eq (fun hc => ?_) (fun hc => ?_)
    · replace h := h.1 hc
      refine w_iinc (pc' := 125) rfl rfl rfl (v := (x3 + 1)) rfl (xl' := [.ref 200, .int x1, .int x2, .int (x3 + 1), x4]) rfl ?_
      refine w_goto (pc' := 48) rfl rfl ?_
      exact h
    · replace h := h.2 hc
      refine w_aload_n (pc' := 71) rfl rfl rfl ?_
      have q3 : xR0 200 3 = some 209 ∧ kG L 209 11 := (kf_9_3 (show xS0 L 200 = (9, 0) from rfl))
      refine w_getR (pc' := 74) rfl rfl rfl rfl (show xS0 L 200 = (9, 0) from rfl) q3.1 ?_
      refine w_iconst (pc' := 75) rfl rfl (v := 0) rfl ?_
      have q4 : xR0 209 0 = some 210 ∧ xS0 L 210 = (20, 11) := q3.2.2 0 (by omega)
      refine w_aaload (pc' := 76) (i := 0) rfl rfl q3.2.1 (by omega) rfl (by omega) (by omega) q4.1 ?_
      refine w_iload_n (pc' := 77) rfl rfl rfl ?_
      obtain ⟨k1, ek1, bk1, h⟩ := h
      refine w_iaload (pc' := 78) (i := k1) rfl rfl q4.2 ek1 bk1 (by omega) ?_
      refine w_aload_n (pc' := 79) rfl rfl rfl ?_
      have q5 : xR0 200 7 = some 234 ∧ xS0 L 234 = (1, 0) := (kf_9_7 (show xS0 L 200 = (9, 0) from rfl))
      refine w_getR (pc' := 82) rfl rfl rfl rfl (show xS0 L 200 = (9, 0) from rfl) q5.1 ?_
      have q6 : xR0 234 8 = some 238 ∧ kG L 238 7 := (kf_1_8 q5.2)
      refine w_getR (pc' := 85) rfl rfl rfl rfl q5.2 q6.1 ?_
      refine w_iconst (pc' := 86) rfl rfl (v := 0) rfl ?_
      have q7 : xR0 238 0 = some 239 ∧ xS0 L 239 = (20, 7) := q6.2.2 0 (by omega)
      refine w_aaload (pc' := 87) (i := 0) rfl rfl q6.2.1 (by omega) rfl (by omega) (by omega) q7.1 ?_
      refine w_iload_n (pc' := 88) rfl rfl rfl ?_
      obtain ⟨k2, ek2, bk2, h⟩ := h
      refine w_iaload (pc' := 89) (i := k2) rfl rfl q7.2 ek2 bk2 (by omega) ?_
      refine w_iadd (pc' := 90) rfl rfl ?_
      refine w_istore (pc' := 92) rfl rfl (xl' := [.ref 200, .int x1, .int x2, .int x3, .int ((g2 210 k1) + (g2 239 k2))]) rfl ?_
      refine w_aload_n (pc' := 93) rfl rfl rfl ?_
      have q8 : xR0 200 3 = some 209 ∧ kG L 209 11 := (kf_9_3 (show xS0 L 200 = (9, 0) from rfl))
      refine w_getR (pc' := 96) rfl rfl rfl rfl (show xS0 L 200 = (9, 0) from rfl) q8.1 ?_
      refine w_iload_n (pc' := 97) rfl rfl rfl ?_
      have q9 : xR0 209 k2 = some (210 + k2) ∧ xS0 L (210 + k2) = (20, 11) := q8.2.2 k2 bk2
      refine w_aaload (pc' := 98) (i := k2) rfl rfl q8.2.1 (by omega) ek2 bk2 (by omega) q9.1 ?_
      refine w_iload_n (pc' := 99) rfl rfl rfl ?_
      refine w_iload (pc' := 101) rfl rfl rfl ?_
      refine w_aload_n (pc' := 102) rfl rfl rfl ?_
      refine w_iload_n (pc' := 103) rfl rfl rfl ?_
      refine w_iload_n (pc' := 104) rfl rfl rfl ?_
      refine w_aload_n (pc' := 105) rfl rfl rfl ?_
      have q10 : xR0 200 7 = some 234 ∧ xS0 L 234 = (1, 0) := (kf_9_7 (show xS0 L 200 = (9, 0) from rfl))
      refine w_getR (pc' := 108) rfl rfl rfl rfl (show xS0 L 200 = (9, 0) from rfl) q10.1 ?_
      refine w_getI (pc' := 111) rfl rfl rfl rfl rfl q10.2 ?_
      refine w_isub (pc' := 112) rfl rfl ?_
      refine w_cv (pc' := 115) (cm := xm_Tt_lowAt) (as := [.int x3, .int (x1 - (g2 234 1))]) (a := 200) (rest := [.int ((g2 210 k1) + (g2 239 k2)), .int x1, .ref (210 + k2)]) rfl rfl rfl  (xa_Tt_lowAt (Nat.le_of_ble_eq_true rfl)) (show xS0 L 200 = (9, 0) from rfl) rfl (CI.k h fun v3 g3 h => ?_)
      show Wp L xs xm_Tt_acceptAll 115 [.ref 200, .int x1, .int x2, .int x3, .int ((g2 210 k1) + (g2 239 k2))] [.int v3, .int ((g2 210 k1) + (g2 239 k2)), .int x1, .ref (210 + k2)] g3 _
      refine w_max (pc' := 118) rfl rfl rfl (Nat.le_of_ble_eq_true rfl) ?_
      refine w_cs (pc' := 121) (cm := xm_Tt_bounded) (as := [.int (imax ((g2 210 k1) + (g2 239 k2)) v3)]) (rest := [.int x1, .ref (210 + k2)]) rfl rfl rfl (Or.inl rfl) (xa_Tt_bounded (Nat.le_of_ble_eq_true rfl)) (CI.k h fun v4 g4 h => ?_)
      show Wp L xs xm_Tt_acceptAll 121 [.ref 200, .int x1, .int x2, .int x3, .int ((g2 210 k1) + (g2 239 k2))] [.int v4, .int x1, .ref (210 + k2)] g4 _
      refine w_iastore (pc' := 122) (i := k1) rfl rfl q9.2 ek1 bk1 (by omega) ?_
      replace h := h _ rfl
      generalize xu g4 (210 + k2) k1 v4 = g5 at h ⊢
      refine w_iinc (pc' := 125) rfl rfl rfl (v := (x3 + 1)) rfl (xl' := [.ref 200, .int x1, .int x2, .int (x3 + 1), .int ((g2 210 k1) + (g2 239 k2))]) rfl ?_
      refine w_goto (pc' := 48) rfl rfl ?_
      exact h
theorem t_Tt_lowAt_0 {L : Nat} {xs : Nat → Int32} {x1 : Int32} {x2 : Int32} {f : Hp} {Q : Int32 → Hp → Prop}  (h : ((0 < x2 → Wp L xs xm_Tt_lowAt 12 [.ref 200, .int x1, .int x2, .int 1000000, .int x2] [] f (QI Q)) ∧ (¬ 0 < x2 → Q 0 f))) : CI L xs xm_Tt_lowAt [.ref 200, .int x1, .int x2] f Q := by
  show Wp L xs xm_Tt_lowAt 0 [.ref 200, .int x1, .int x2, .retAddr 0, .retAddr 0] [] f (QI Q)
  refine w_iload_n (pc' := 1) rfl rfl rfl ?_
  refine w_br (pc' := 4) (t := 6) rfl rfl rfl ic_gt (fun hc => ?_) (fun hc => ?_)
  · replace h := h.1 hc
    refine w_ldc (pc' := 8) rfl rfl (v := 1000000) rfl ?_
    refine w_istore_n (pc' := 9) rfl rfl (xl' := [.ref 200, .int x1, .int x2, .int 1000000, .retAddr 0]) rfl ?_
    refine w_iload_n (pc' := 10) rfl rfl rfl ?_
    refine w_istore (pc' := 12) rfl rfl (xl' := [.ref 200, .int x1, .int x2, .int 1000000, .int x2]) rfl ?_
    exact h
  · replace h := h.2 hc
    refine w_iconst (pc' := 5) rfl rfl (v := 0) rfl ?_
    exact w_ireturn rfl rfl h
theorem t_Tt_lowAt_12 {L : Nat} {xs : Nat → Int32} {x1 : Int32} {x2 : Int32} {x3 : Int32} {x4 : Int32} {f : Hp} {Q : Int32 → Hp → Prop}  (h : ((10 < x4 → Q x3 f) ∧ (¬ 10 < x4 → ((x1 < 0 → Q x3 f) ∧ (¬ x1 < 0 → ((x1 < 7 → ∃ k1 : Nat, x1 = iN k1 ∧ k1 < 7 ∧ ∃ k2 : Nat, x4 = iN k2 ∧ k2 < 11 ∧ Wp L xs xm_Tt_lowAt 12 [.ref 200, .int x1, .int x2, .int (imin x3 (f (226 + k1) k2)), .int (x4 + 1)] [] f (QI Q)) ∧ (¬ x1 < 7 → Q x3 f))))))) : Wp L xs xm_Tt_lowAt 12 [.ref 200, .int x1, .int x2, .int x3, .int x4] [] f (QI Q) := by
  refine w_iload (pc' := 14) rfl rfl rfl ?_
  refine w_bipush (pc' := 16) rfl rfl (v := 10) rfl ?_
  refine w_br2 (pc' := 19) (t := 49) rfl rfl rfl ic_gt (fun hc => ?_) (fun hc => ?_)
  · replace h := h.1 hc
    refine w_iload_n (pc' := 50) rfl rfl rfl ?_
    exact w_ireturn rfl rfl h
  · replace h := h.2 hc
    refine w_iload_n (pc' := 20) rfl rfl rfl ?_
    refine w_br (pc' := 23) (t := 49) rfl rfl rfl ic_lt (fun hc => ?_) (fun hc => ?_)
    · replace h := h.1 hc
      refine w_iload_n (pc' := 50) rfl rfl rfl ?_
      exact w_ireturn rfl rfl h
    · replace h := h.2 hc
      refine w_iload_n (pc' := 24) rfl rfl rfl ?_
      refine w_bipush (pc' := 26) rfl rfl (v := 7) rfl ?_
      refine w_br2 (pc' := 29) (t := 49) rfl rfl rfl ic_ge (fun hc => ?_) (fun hc => ?_)
      · replace h := h.2 hc
        refine w_iload_n (pc' := 50) rfl rfl rfl ?_
        exact w_ireturn rfl rfl h
      · replace h := h.1 (Classical.not_not.mp hc)
        refine w_iload_n (pc' := 30) rfl rfl rfl ?_
        refine w_aload_n (pc' := 31) rfl rfl rfl ?_
        have q1 : xR0 200 5 = some 225 ∧ kG L 225 11 := (kf_9_5 (show xS0 L 200 = (9, 0) from rfl))
        refine w_getR (pc' := 34) rfl rfl rfl rfl (show xS0 L 200 = (9, 0) from rfl) q1.1 ?_
        refine w_iload_n (pc' := 35) rfl rfl rfl ?_
        obtain ⟨k1, ek1, bk1, h⟩ := h
        have q2 : xR0 225 k1 = some (226 + k1) ∧ xS0 L (226 + k1) = (20, 11) := q1.2.2 k1 bk1
        refine w_aaload (pc' := 36) (i := k1) rfl rfl q1.2.1 (by omega) ek1 bk1 (by omega) q2.1 ?_
        refine w_iload (pc' := 38) rfl rfl rfl ?_
        obtain ⟨k2, ek2, bk2, h⟩ := h
        refine w_iaload (pc' := 39) (i := k2) rfl rfl q2.2 ek2 bk2 (by omega) ?_
        refine w_min (pc' := 42) rfl rfl rfl (Nat.le_of_ble_eq_true rfl) ?_
        refine w_istore_n (pc' := 43) rfl rfl (xl' := [.ref 200, .int x1, .int x2, .int (imin x3 (f (226 + k1) k2)), .int x4]) rfl ?_
        refine w_iinc (pc' := 46) rfl rfl rfl (v := (x4 + 1)) rfl (xl' := [.ref 200, .int x1, .int x2, .int (imin x3 (f (226 + k1) k2)), .int (x4 + 1)]) rfl ?_
        refine w_goto (pc' := 12) rfl rfl ?_
        exact h
theorem t_Tt_bounded_0 {L : Nat} {xs : Nat → Int32} {x0 : Int32} {f : Hp} {Q : Int32 → Hp → Prop}  (h : ((400 < x0 → Q 1000000 f) ∧ (¬ 400 < x0 → Q x0 f))) : CI L xs xm_Tt_bounded [.int x0] f Q := by
  show Wp L xs xm_Tt_bounded 0 [.int x0] [] f (QI Q)
  refine w_iload_n (pc' := 1) rfl rfl rfl ?_
  refine w_sipush (pc' := 4) rfl rfl (v := 400) rfl ?_
  refine w_br2 (pc' := 7) (t := 12) rfl rfl rfl ic_le (fun hc => ?_) (fun hc => ?_)
  · replace h := h.2 hc
    refine w_iload_n (pc' := 13) rfl rfl rfl ?_
    exact w_ireturn rfl rfl h
  · replace h := h.1 (Classical.not_not.mp hc)
    refine w_ldc (pc' := 9) rfl rfl (v := 1000000) rfl ?_
    refine w_goto (pc' := 13) rfl rfl ?_
    exact w_ireturn rfl rfl h
theorem t_Tt_prepareAll_0 {L : Nat} {xs : Nat → Int32} {x1 : Int32} {f : Hp} {Q : Hp → Prop}  (h : Wp L xs xm_Tt_prepareAll 2 [.ref 200, .int x1, .int 0] [] f (QV Q)) : CV L xs xm_Tt_prepareAll [.ref 200, .int x1] f Q := by
  show Wp L xs xm_Tt_prepareAll 0 [.ref 200, .int x1, .retAddr 0] [] f (QV Q)
  refine w_iconst (pc' := 1) rfl rfl (v := 0) rfl ?_
  refine w_istore_n (pc' := 2) rfl rfl (xl' := [.ref 200, .int x1, .int 0]) rfl ?_
  exact h
theorem t_Tt_prepareAll_2 {L : Nat} {xs : Nat → Int32} {x1 : Int32} {x2 : Int32} {f : Hp} {Q : Hp → Prop}  (h : CI L xs xm_Co_members [.ref 234] f (fun v1 g1 => ((x2 < v1 → CV L xs xm_Tt_fillRow [.ref 200, .ref 209, .int x2, .int x1] g1 (fun g2 => CI L xs xm_Co_isHonest [.ref 234, .int x2] g2 (fun v2 g3 => ((v2 = 0 → Wp L xs xm_Tt_prepareAll 2 [.ref 200, .int x1, .int (x2 + 1)] [] g3 (QV Q)) ∧ (¬ v2 = 0 → ∃ k1 : Nat, x2 = iN k1 ∧ k1 < 7 ∧ ∃ k2 : Nat, x1 = iN k2 ∧ k2 < 11 ∧ CI L xs xm_Tt_quorumth [.ref 200] g3 (fun v3 g4 => CI L xs xm_Tt_bounded [.int (imax (g3 (210 + k1) k2) v3)] g4 (fun v4 g5 => ∀ g6, g6 = xu g5 (218 + k1) k2 v4 → Wp L xs xm_Tt_prepareAll 2 [.ref 200, .int x1, .int (x2 + 1)] [] g6 (QV Q)))))))) ∧ (¬ x2 < v1 → Q g1)))) : Wp L xs xm_Tt_prepareAll 2 [.ref 200, .int x1, .int x2] [] f (QV Q) := by
  refine w_iload_n (pc' := 3) rfl rfl rfl ?_
  refine w_aload_n (pc' := 4) rfl rfl rfl ?_
  have q1 : xR0 200 7 = some 234 ∧ xS0 L 234 = (1, 0) := (kf_9_7 (show xS0 L 200 = (9, 0) from rfl))
  refine w_getR (pc' := 7) rfl rfl rfl rfl (show xS0 L 200 = (9, 0) from rfl) q1.1 ?_
  refine w_cv (pc' := 10) (cm := xm_Co_members) (as := []) (a := 234) (rest := [.int x2]) rfl rfl rfl  (xa_Co_members (Nat.le_of_ble_eq_true rfl)) q1.2 rfl (CI.k h fun v1 g1 h => ?_)
  show Wp L xs xm_Tt_prepareAll 10 [.ref 200, .int x1, .int x2] [.int v1, .int x2] g1 _
  refine w_br2 (pc' := 13) (t := 66) rfl rfl rfl ic_ge (fun hc => ?_) (fun hc => ?_)
  · replace h := h.2 hc
    exact w_return rfl rfl h
  · replace h := h.1 (Classical.not_not.mp hc)
    refine w_aload_n (pc' := 14) rfl rfl rfl ?_
    refine w_aload_n (pc' := 15) rfl rfl rfl ?_
    have q2 : xR0 200 3 = some 209 ∧ kG L 209 11 := (kf_9_3 (show xS0 L 200 = (9, 0) from rfl))
    refine w_getR (pc' := 18) rfl rfl rfl rfl (show xS0 L 200 = (9, 0) from rfl) q2.1 ?_
    refine w_iload_n (pc' := 19) rfl rfl rfl ?_
    refine w_iload_n (pc' := 20) rfl rfl rfl ?_
    refine w_cv (pc' := 23) (cm := xm_Tt_fillRow) (as := [.ref 209, .int x2, .int x1]) (a := 200) (rest := []) rfl rfl rfl  (xa_Tt_fillRow (Nat.le_of_ble_eq_true rfl)) (show xS0 L 200 = (9, 0) from rfl) rfl (CV.k h fun g2 h => ?_)
    show Wp L xs xm_Tt_prepareAll 23 [.ref 200, .int x1, .int x2] [] g2 _
    refine w_aload_n (pc' := 24) rfl rfl rfl ?_
    have q3 : xR0 200 7 = some 234 ∧ xS0 L 234 = (1, 0) := (kf_9_7 (show xS0 L 200 = (9, 0) from rfl))
    refine w_getR (pc' := 27) rfl rfl rfl rfl (show xS0 L 200 = (9, 0) from rfl) q3.1 ?_
    refine w_iload_n (pc' := 28) rfl rfl rfl ?_
    refine w_cv (pc' := 31) (cm := xm_Co_isHonest) (as := [.int x2]) (a := 234) (rest := []) rfl rfl rfl  (xa_Co_isHonest (Nat.le_of_ble_eq_true rfl)) q3.2 rfl (CI.k h fun v2 g3 h => ?_)
    show Wp L xs xm_Tt_prepareAll 31 [.ref 200, .int x1, .int x2] [.int v2] g3 _
    refine w_br (pc' := 34) (t := 60) rfl rfl rfl ic_eq (fun hc => ?_) (fun hc => ?_)
    · replace h := h.1 hc
      refine w_iinc (pc' := 63) rfl rfl rfl (v := (x2 + 1)) rfl (xl' := [.ref 200, .int x1, .int (x2 + 1)]) rfl ?_
      refine w_goto (pc' := 2) rfl rfl ?_
      exact h
    · replace h := h.2 hc
      refine w_aload_n (pc' := 35) rfl rfl rfl ?_
      have q4 : xR0 200 4 = some 217 ∧ kG L 217 11 := (kf_9_4 (show xS0 L 200 = (9, 0) from rfl))
      refine w_getR (pc' := 38) rfl rfl rfl rfl (show xS0 L 200 = (9, 0) from rfl) q4.1 ?_
      refine w_iload_n (pc' := 39) rfl rfl rfl ?_
      obtain ⟨k1, ek1, bk1, h⟩ := h
      have q5 : xR0 217 k1 = some (218 + k1) ∧ xS0 L (218 + k1) = (20, 11) := q4.2.2 k1 bk1
      refine w_aaload (pc' := 40) (i := k1) rfl rfl q4.2.1 (by omega) ek1 bk1 (by omega) q5.1 ?_
      refine w_iload_n (pc' := 41) rfl rfl rfl ?_
      refine w_aload_n (pc' := 42) rfl rfl rfl ?_
      have q6 : xR0 200 3 = some 209 ∧ kG L 209 11 := (kf_9_3 (show xS0 L 200 = (9, 0) from rfl))
      refine w_getR (pc' := 45) rfl rfl rfl rfl (show xS0 L 200 = (9, 0) from rfl) q6.1 ?_
      refine w_iload_n (pc' := 46) rfl rfl rfl ?_
      have q7 : xR0 209 k1 = some (210 + k1) ∧ xS0 L (210 + k1) = (20, 11) := q6.2.2 k1 bk1
      refine w_aaload (pc' := 47) (i := k1) rfl rfl q6.2.1 (by omega) ek1 bk1 (by omega) q7.1 ?_
      refine w_iload_n (pc' := 48) rfl rfl rfl ?_
      obtain ⟨k2, ek2, bk2, h⟩ := h
      refine w_iaload (pc' := 49) (i := k2) rfl rfl q7.2 ek2 bk2 (by omega) ?_
      refine w_aload_n (pc' := 50) rfl rfl rfl ?_
      refine w_cv (pc' := 53) (cm := xm_Tt_quorumth) (as := []) (a := 200) (rest := [.int (g3 (210 + k1) k2), .int x1, .ref (218 + k1)]) rfl rfl rfl  (xa_Tt_quorumth (Nat.le_of_ble_eq_true rfl)) (show xS0 L 200 = (9, 0) from rfl) rfl (CI.k h fun v3 g4 h => ?_)
      show Wp L xs xm_Tt_prepareAll 53 [.ref 200, .int x1, .int x2] [.int v3, .int (g3 (210 + k1) k2), .int x1, .ref (218 + k1)] g4 _
      refine w_max (pc' := 56) rfl rfl rfl (Nat.le_of_ble_eq_true rfl) ?_
      refine w_cs (pc' := 59) (cm := xm_Tt_bounded) (as := [.int (imax (g3 (210 + k1) k2) v3)]) (rest := [.int x1, .ref (218 + k1)]) rfl rfl rfl (Or.inl rfl) (xa_Tt_bounded (Nat.le_of_ble_eq_true rfl)) (CI.k h fun v4 g5 h => ?_)
      show Wp L xs xm_Tt_prepareAll 59 [.ref 200, .int x1, .int x2] [.int v4, .int x1, .ref (218 + k1)] g5 _
      refine w_iastore (pc' := 60) (i := k2) rfl rfl q5.2 ek2 bk2 (by omega) ?_
      replace h := h _ rfl
      generalize xu g5 (218 + k1) k2 v4 = g6 at h ⊢
      refine w_iinc (pc' := 63) rfl rfl rfl (v := (x2 + 1)) rfl (xl' := [.ref 200, .int x1, .int (x2 + 1)]) rfl ?_
      refine w_goto (pc' := 2) rfl rfl ?_
      exact h
theorem t_Tt_fillRow_0 {L : Nat} {xs : Nat → Int32} {x1 : Nat} {nx1 : Nat} {x2 : Int32} {x3 : Int32} {f : Hp} {Q : Hp → Prop} (qx1 : kG L x1 nx1) (h : CV L xs xm_ja_fill [.ref 233, .int 1000000] f (fun g1 => Wp L xs xm_Tt_fillRow 12 [.ref 200, .ref x1, .int x2, .int x3, .int 0] [] g1 (QV Q))) : CV L xs xm_Tt_fillRow [.ref 200, .ref x1, .int x2, .int x3] f Q := by
  show Wp L xs xm_Tt_fillRow 0 [.ref 200, .ref x1, .int x2, .int x3, .retAddr 0] [] f (QV Q)
  refine w_aload_n (pc' := 1) rfl rfl rfl ?_
  have q1 : xR0 200 6 = some 233 ∧ xS0 L 233 = (20, 7) := (kf_9_6 (show xS0 L 200 = (9, 0) from rfl))
  refine w_getR (pc' := 4) rfl rfl rfl rfl (show xS0 L 200 = (9, 0) from rfl) q1.1 ?_
  refine w_ldc (pc' := 6) rfl rfl (v := 1000000) rfl ?_
  refine w_cs (pc' := 9) (cm := xm_ja_fill) (as := [.ref 233, .int 1000000]) (rest := []) rfl rfl rfl (Or.inl rfl) (xa_ja_fill (Nat.le_of_ble_eq_true rfl)) (CV.k h fun g1 h => ?_)
  show Wp L xs xm_Tt_fillRow 9 [.ref 200, .ref x1, .int x2, .int x3, .retAddr 0] [] g1 _
  refine w_iconst (pc' := 10) rfl rfl (v := 0) rfl ?_
  refine w_istore (pc' := 12) rfl rfl (xl' := [.ref 200, .ref x1, .int x2, .int x3, .int 0]) rfl ?_
  exact h
theorem t_Tt_fillRow_12 {L : Nat} {xs : Nat → Int32} {x1 : Nat} {nx1 : Nat} {x2 : Int32} {x3 : Int32} {x4 : Int32} {f : Hp} {Q : Hp → Prop} (qx1 : kG L x1 nx1) (h : CI L xs xm_Co_members [.ref 234] f (fun v1 g1 => ((x4 < v1 → ∃ k1 : Nat, x4 = iN k1 ∧ k1 < 7 ∧ ∃ k2 : Nat, x3 = iN k2 ∧ k2 < nx1 ∧ ((x4 = x2 → ∀ g3, g3 = xu g1 233 k1 ((g1 (x1 + 1 + k1) k2) + 0) → Wp L xs xm_Tt_fillRow 12 [.ref 200, .ref x1, .int x2, .int x3, .int (x4 + 1)] [] g3 (QV Q)) ∧ (¬ x4 = x2 → ∃ k3 : Nat, x2 = iN k3 ∧ k3 < 7 ∧ ∀ g2, g2 = xu g1 233 k1 ((g1 (x1 + 1 + k1) k2) + (g1 (239 + k1) k3)) → Wp L xs xm_Tt_fillRow 12 [.ref 200, .ref x1, .int x2, .int x3, .int (x4 + 1)] [] g2 (QV Q)))) ∧ (¬ x4 < v1 → Q g1)))) : Wp L xs xm_Tt_fillRow 12 [.ref 200, .ref x1, .int x2, .int x3, .int x4] [] f (QV Q) := by
  refine w_iload (pc' := 14) rfl rfl rfl ?_
  refine w_aload_n (pc' := 15) rfl rfl rfl ?_
  have q1 : xR0 200 7 = some 234 ∧ xS0 L 234 = (1, 0) := (kf_9_7 (show xS0 L 200 = (9, 0) from rfl))
  refine w_getR (pc' := 18) rfl rfl rfl rfl (show xS0 L 200 = (9, 0) from rfl) q1.1 ?_
  refine w_cv (pc' := 21) (cm := xm_Co_members) (as := []) (a := 234) (rest := [.int x4]) rfl rfl rfl  (xa_Co_members (Nat.le_of_ble_eq_true rfl)) q1.2 rfl (CI.k h fun v1 g1 h => ?_)
  show Wp L xs xm_Tt_fillRow 21 [.ref 200, .ref x1, .int x2, .int x3, .int x4] [.int v1, .int x4] g1 _
  refine w_br2 (pc' := 24) (t := 66) rfl rfl rfl ic_ge (fun hc => ?_) (fun hc => ?_)
  · replace h := h.2 hc
    exact w_return rfl rfl h
  · replace h := h.1 (Classical.not_not.mp hc)
    refine w_aload_n (pc' := 25) rfl rfl rfl ?_
    have q2 : xR0 200 6 = some 233 ∧ xS0 L 233 = (20, 7) := (kf_9_6 (show xS0 L 200 = (9, 0) from rfl))
    refine w_getR (pc' := 28) rfl rfl rfl rfl (show xS0 L 200 = (9, 0) from rfl) q2.1 ?_
    refine w_iload (pc' := 30) rfl rfl rfl ?_
    refine w_aload_n (pc' := 31) rfl rfl rfl ?_
    refine w_iload (pc' := 33) rfl rfl rfl ?_
    obtain ⟨k1, ek1, bk1, h⟩ := h
    have q3 : xR0 x1 k1 = some (x1 + 1 + k1) ∧ xS0 L (x1 + 1 + k1) = (20, nx1) := qx1.2 k1 bk1
    refine w_aaload (pc' := 34) (i := k1) rfl rfl qx1.1 (by omega) ek1 bk1 (by omega) q3.1 ?_
    refine w_iload_n (pc' := 35) rfl rfl rfl ?_
    obtain ⟨k2, ek2, bk2, h⟩ := h
    refine w_iaload (pc' := 36) (i := k2) rfl rfl q3.2 ek2 bk2 (k_len q3.2 rfl) ?_
    refine w_iload (pc' := 38) rfl rfl rfl ?_
    refine w_iload_n (pc' := 39) rfl rfl rfl ?_
    refine w_br2 (pc' := 42) (t := 46) rfl rfl rfl ic_ne (fun hc => ?_) (fun hc => ?_)
    · replace h := h.2 hc
      refine w_aload_n (pc' := 47) rfl rfl rfl ?_
      have q4 : xR0 200 7 = some 234 ∧ xS0 L 234 = (1, 0) := (kf_9_7 (show xS0 L 200 = (9, 0) from rfl))
      refine w_getR (pc' := 50) rfl rfl rfl rfl (show xS0 L 200 = (9, 0) from rfl) q4.1 ?_
      have q5 : xR0 234 8 = some 238 ∧ kG L 238 7 := (kf_1_8 q4.2)
      refine w_getR (pc' := 53) rfl rfl rfl rfl q4.2 q5.1 ?_
      refine w_iload (pc' := 55) rfl rfl rfl ?_
      have q6 : xR0 238 k1 = some (239 + k1) ∧ xS0 L (239 + k1) = (20, 7) := q5.2.2 k1 bk1
      refine w_aaload (pc' := 56) (i := k1) rfl rfl q5.2.1 (by omega) ek1 bk1 (by omega) q6.1 ?_
      refine w_iload_n (pc' := 57) rfl rfl rfl ?_
      obtain ⟨k3, ek3, bk3, h⟩ := h
      refine w_iaload (pc' := 58) (i := k3) rfl rfl q6.2 ek3 bk3 (by omega) ?_
      refine w_iadd (pc' := 59) rfl rfl ?_
      refine w_iastore (pc' := 60) (i := k1) rfl rfl q2.2 ek1 bk1 (by omega) ?_
      replace h := h _ rfl
      generalize xu g1 233 k1 ((g1 (x1 + 1 + k1) k2) + (g1 (239 + k1) k3)) = g2 at h ⊢
      refine w_iinc (pc' := 63) rfl rfl rfl (v := (x4 + 1)) rfl (xl' := [.ref 200, .ref x1, .int x2, .int x3, .int (x4 + 1)]) rfl ?_
      refine w_goto (pc' := 12) rfl rfl ?_
      exact h
    · replace h := h.1 (Classical.not_not.mp hc)
      refine w_iconst (pc' := 43) rfl rfl (v := 0) rfl ?_
      refine w_goto (pc' := 58) rfl rfl ?_
      refine w_iadd (pc' := 59) rfl rfl ?_
      refine w_iastore (pc' := 60) (i := k1) rfl rfl q2.2 ek1 bk1 (by omega) ?_
      replace h := h _ rfl
      generalize xu g1 233 k1 ((g1 (x1 + 1 + k1) k2) + 0) = g3 at h ⊢
      refine w_iinc (pc' := 63) rfl rfl rfl (v := (x4 + 1)) rfl (xl' := [.ref 200, .ref x1, .int x2, .int x3, .int (x4 + 1)]) rfl ?_
      refine w_goto (pc' := 12) rfl rfl ?_
      exact h
theorem t_Tt_quorumth_0 {L : Nat} {xs : Nat → Int32}  {f : Hp} {Q : Int32 → Hp → Prop}  (h : CI L xs xm_Co_quorumSize [.ref 234] f (fun v1 g1 => CI L xs xm_Tt_least [.ref 200, .int v1] g1 (fun v2 g2 => Q v2 g2))) : CI L xs xm_Tt_quorumth [.ref 200] f Q := by
  show Wp L xs xm_Tt_quorumth 0 [.ref 200] [] f (QI Q)
  refine w_aload_n (pc' := 1) rfl rfl rfl ?_
  refine w_aload_n (pc' := 2) rfl rfl rfl ?_
  have q1 : xR0 200 7 = some 234 ∧ xS0 L 234 = (1, 0) := (kf_9_7 (show xS0 L 200 = (9, 0) from rfl))
  refine w_getR (pc' := 5) rfl rfl rfl rfl (show xS0 L 200 = (9, 0) from rfl) q1.1 ?_
  refine w_cv (pc' := 8) (cm := xm_Co_quorumSize) (as := []) (a := 234) (rest := [.ref 200]) rfl rfl rfl  (xa_Co_quorumSize (Nat.le_of_ble_eq_true rfl)) q1.2 rfl (CI.k h fun v1 g1 h => ?_)
  show Wp L xs xm_Tt_quorumth 8 [.ref 200] [.int v1, .ref 200] g1 _
  refine w_cv (pc' := 11) (cm := xm_Tt_least) (as := [.int v1]) (a := 200) (rest := []) rfl rfl rfl  (xa_Tt_least (Nat.le_of_ble_eq_true rfl)) (show xS0 L 200 = (9, 0) from rfl) rfl (CI.k h fun v2 g2 h => ?_)
  show Wp L xs xm_Tt_quorumth 11 [.ref 200] [.int v2] g2 _
  exact w_ireturn rfl rfl h
theorem t_Tt_least_0 {L : Nat} {xs : Nat → Int32} {x1 : Int32} {f : Hp} {Q : Int32 → Hp → Prop}  (h : Wp L xs xm_Tt_least 5 [.ref 200, .int x1, .int 1000000, .int 0, .retAddr 0, .retAddr 0] [] f (QI Q)) : CI L xs xm_Tt_least [.ref 200, .int x1] f Q := by
  show Wp L xs xm_Tt_least 0 [.ref 200, .int x1, .retAddr 0, .retAddr 0, .retAddr 0, .retAddr 0] [] f (QI Q)
  refine w_ldc (pc' := 2) rfl rfl (v := 1000000) rfl ?_
  refine w_istore_n (pc' := 3) rfl rfl (xl' := [.ref 200, .int x1, .int 1000000, .retAddr 0, .retAddr 0, .retAddr 0]) rfl ?_
  refine w_iconst (pc' := 4) rfl rfl (v := 0) rfl ?_
  refine w_istore_n (pc' := 5) rfl rfl (xl' := [.ref 200, .int x1, .int 1000000, .int 0, .retAddr 0, .retAddr 0]) rfl ?_
  exact h
theorem t_Tt_least_5 {L : Nat} {xs : Nat → Int32} {x1 : Int32} {x2 : Int32} {x3 : Int32} {x4 : Value} {x5 : Value} {f : Hp} {Q : Int32 → Hp → Prop} (cx4 : (x4.category != 2) = true) (cx5 : (x5.category != 2) = true) (h : ((x3 < 7 → Wp L xs xm_Tt_least 17 [.ref 200, .int x1, .int x2, .int x3, .int 0, .int 0] [] f (QI Q)) ∧ (¬ x3 < 7 → Q x2 f))) : Wp L xs xm_Tt_least 5 [.ref 200, .int x1, .int x2, .int x3, x4, x5] [] f (QI Q) := by
  refine w_iload_n (pc' := 6) rfl rfl rfl ?_
  refine w_bipush (pc' := 8) rfl rfl (v := 7) rfl ?_
  refine w_br2 (pc' := 11) (t := 72) rfl rfl rfl ic_ge (fun hc => ?_) (fun hc => ?_)
  · replace h := h.2 hc
    refine w_iload_n (pc' := 73) rfl rfl rfl ?_
    exact w_ireturn rfl rfl h
  · replace h := h.1 (Classical.not_not.mp hc)
    refine w_iconst (pc' := 12) rfl rfl (v := 0) rfl ?_
    refine w_istore (pc' := 14) rfl rfl (xl' := [.ref 200, .int x1, .int x2, .int x3, .int 0, x5]) rfl ?_
    refine w_iconst (pc' := 15) rfl rfl (v := 0) rfl ?_
    refine w_istore (pc' := 17) rfl rfl (xl' := [.ref 200, .int x1, .int x2, .int x3, .int 0, .int 0]) rfl ?_
    exact h
theorem t_Tt_least_17 {L : Nat} {xs : Nat → Int32} {x1 : Int32} {x2 : Int32} {x3 : Int32} {x4 : Int32} {x5 : Int32} {f : Hp} {Q : Int32 → Hp → Prop}  (h : ((x5 < 7 → ∃ k2 : Nat, x5 = iN k2 ∧ k2 < 7 ∧ ∃ k3 : Nat, x3 = iN k3 ∧ k3 < 7 ∧ (((f 233 k3) < (f 233 k2) → Wp L xs xm_Tt_least 17 [.ref 200, .int x1, .int x2, .int x3, .int x4, .int (x5 + 1)] [] f (QI Q)) ∧ (¬ (f 233 k3) < (f 233 k2) → Wp L xs xm_Tt_least 17 [.ref 200, .int x1, .int x2, .int x3, .int (x4 + 1), .int (x5 + 1)] [] f (QI Q)))) ∧ (¬ x5 < 7 → ((x4 < x1 → Wp L xs xm_Tt_least 5 [.ref 200, .int x1, .int x2, .int (x3 + 1), .int x4, .int x5] [] f (QI Q)) ∧ (¬ x4 < x1 → ∃ k1 : Nat, x3 = iN k1 ∧ k1 < 7 ∧ Wp L xs xm_Tt_least 5 [.ref 200, .int x1, .int (imin x2 (f 233 k1)), .int (x3 + 1), .int x4, .int x5] [] f (QI Q)))))) : Wp L xs xm_Tt_least 17 [.ref 200, .int x1, .int x2, .int x3, .int x4, .int x5] [] f (QI Q) := by
  refine w_iload (pc' := 19) rfl rfl rfl ?_
  refine w_bipush (pc' := 21) rfl rfl (v := 7) rfl ?_
  refine w_br2 (pc' := 24) (t := 49) rfl rfl rfl ic_ge (fun hc => ?_) (fun hc => ?_)
  · replace h := h.2 hc
    refine w_iload (pc' := 51) rfl rfl rfl ?_
    refine w_iload_n (pc' := 52) rfl rfl rfl ?_
    refine w_br2 (pc' := 55) (t := 66) rfl rfl rfl ic_lt (fun hc => ?_) (fun hc => ?_)
    · replace h := h.1 hc
      refine w_iinc (pc' := 69) rfl rfl rfl (v := (x3 + 1)) rfl (xl' := [.ref 200, .int x1, .int x2, .int (x3 + 1), .int x4, .int x5]) rfl ?_
      refine w_goto (pc' := 5) rfl rfl ?_
      exact h
    · replace h := h.2 hc
      refine w_iload_n (pc' := 56) rfl rfl rfl ?_
      refine w_aload_n (pc' := 57) rfl rfl rfl ?_
      have q1 : xR0 200 6 = some 233 ∧ xS0 L 233 = (20, 7) := (kf_9_6 (show xS0 L 200 = (9, 0) from rfl))
      refine w_getR (pc' := 60) rfl rfl rfl rfl (show xS0 L 200 = (9, 0) from rfl) q1.1 ?_
      refine w_iload_n (pc' := 61) rfl rfl rfl ?_
      obtain ⟨k1, ek1, bk1, h⟩ := h
      refine w_iaload (pc' := 62) (i := k1) rfl rfl q1.2 ek1 bk1 (by omega) ?_
      refine w_min (pc' := 65) rfl rfl rfl (Nat.le_of_ble_eq_true rfl) ?_
      refine w_istore_n (pc' := 66) rfl rfl (xl' := [.ref 200, .int x1, .int (imin x2 (f 233 k1)), .int x3, .int x4, .int x5]) rfl ?_
      refine w_iinc (pc' := 69) rfl rfl rfl (v := (x3 + 1)) rfl (xl' := [.ref 200, .int x1, .int (imin x2 (f 233 k1)), .int (x3 + 1), .int x4, .int x5]) rfl ?_
      refine w_goto (pc' := 5) rfl rfl ?_
      exact h
  · replace h := h.1 (Classical.not_not.mp hc)
    refine w_aload_n (pc' := 25) rfl rfl rfl ?_
    have q2 : xR0 200 6 = some 233 ∧ xS0 L 233 = (20, 7) := (kf_9_6 (show xS0 L 200 = (9, 0) from rfl))
    refine w_getR (pc' := 28) rfl rfl rfl rfl (show xS0 L 200 = (9, 0) from rfl) q2.1 ?_
    refine w_iload (pc' := 30) rfl rfl rfl ?_
    obtain ⟨k2, ek2, bk2, h⟩ := h
    refine w_iaload (pc' := 31) (i := k2) rfl rfl q2.2 ek2 bk2 (by omega) ?_
    refine w_aload_n (pc' := 32) rfl rfl rfl ?_
    have q3 : xR0 200 6 = some 233 ∧ xS0 L 233 = (20, 7) := (kf_9_6 (show xS0 L 200 = (9, 0) from rfl))
    refine w_getR (pc' := 35) rfl rfl rfl rfl (show xS0 L 200 = (9, 0) from rfl) q3.1 ?_
    refine w_iload_n (pc' := 36) rfl rfl rfl ?_
    obtain ⟨k3, ek3, bk3, h⟩ := h
    refine w_iaload (pc' := 37) (i := k3) rfl rfl q3.2 ek3 bk3 (by omega) ?_
    refine w_br2 (pc' := 40) (t := 43) rfl rfl rfl ic_gt (fun hc => ?_) (fun hc => ?_)
    · replace h := h.1 hc
      refine w_iinc (pc' := 46) rfl rfl rfl (v := (x5 + 1)) rfl (xl' := [.ref 200, .int x1, .int x2, .int x3, .int x4, .int (x5 + 1)]) rfl ?_
      refine w_goto (pc' := 17) rfl rfl ?_
      exact h
    · replace h := h.2 hc
      refine w_iinc (pc' := 43) rfl rfl rfl (v := (x4 + 1)) rfl (xl' := [.ref 200, .int x1, .int x2, .int x3, .int (x4 + 1), .int x5]) rfl ?_
      refine w_iinc (pc' := 46) rfl rfl rfl (v := (x5 + 1)) rfl (xl' := [.ref 200, .int x1, .int x2, .int x3, .int (x4 + 1), .int (x5 + 1)]) rfl ?_
      refine w_goto (pc' := 17) rfl rfl ?_
      exact h
theorem t_Tt_runAll_0 {L : Nat} {xs : Nat → Int32} {x1 : Int32} {f : Hp} {Q : Hp → Prop}  (h : Wp L xs xm_Tt_runAll 2 [.ref 200, .int x1, .int 0, .retAddr 0] [] f (QV Q)) : CV L xs xm_Tt_runAll [.ref 200, .int x1] f Q := by
  show Wp L xs xm_Tt_runAll 0 [.ref 200, .int x1, .retAddr 0, .retAddr 0] [] f (QV Q)
  refine w_iconst (pc' := 1) rfl rfl (v := 0) rfl ?_
  refine w_istore_n (pc' := 2) rfl rfl (xl' := [.ref 200, .int x1, .int 0, .retAddr 0]) rfl ?_
  exact h
theorem t_Tt_runAll_2 {L : Nat} {xs : Nat → Int32} {x1 : Int32} {x2 : Int32} {x3 : Value} {f : Hp} {Q : Hp → Prop} (cx3 : (x3.category != 2) = true) (h : CI L xs xm_Co_members [.ref 234] f (fun v1 g1 => ((x2 < v1 → CV L xs xm_Tt_fillRow [.ref 200, .ref 217, .int x2, .int x1] g1 (fun g2 => CI L xs xm_Co_isHonest [.ref 234, .int x2] g2 (fun v2 g3 => ((v2 = 0 → Wp L xs xm_Tt_runAll 2 [.ref 200, .int x1, .int (x2 + 1), x3] [] g3 (QV Q)) ∧ (¬ v2 = 0 → ∃ k1 : Nat, x2 = iN k1 ∧ k1 < 7 ∧ ∃ k2 : Nat, x1 = iN k2 ∧ k2 < 11 ∧ CI L xs xm_Tt_quorumth [.ref 200] g3 (fun v3 g4 => ∃ k3 : Nat, (x1 - 1) = iN k3 ∧ k3 < 11 ∧ CI L xs xm_Tt_bounded [.int (imax (imax (g3 (218 + k1) k2) v3) (g4 (202 + k1) k3))] g4 (fun v4 g5 => ∀ g6, g6 = xu g5 (202 + k1) k2 v4 → Wp L xs xm_Tt_runAll 2 [.ref 200, .int x1, .int (x2 + 1), .int (imax (g3 (218 + k1) k2) v3)] [] g6 (QV Q)))))))) ∧ (¬ x2 < v1 → Q g1)))) : Wp L xs xm_Tt_runAll 2 [.ref 200, .int x1, .int x2, x3] [] f (QV Q) := by
  refine w_iload_n (pc' := 3) rfl rfl rfl ?_
  refine w_aload_n (pc' := 4) rfl rfl rfl ?_
  have q1 : xR0 200 7 = some 234 ∧ xS0 L 234 = (1, 0) := (kf_9_7 (show xS0 L 200 = (9, 0) from rfl))
  refine w_getR (pc' := 7) rfl rfl rfl rfl (show xS0 L 200 = (9, 0) from rfl) q1.1 ?_
  refine w_cv (pc' := 10) (cm := xm_Co_members) (as := []) (a := 234) (rest := [.int x2]) rfl rfl rfl  (xa_Co_members (Nat.le_of_ble_eq_true rfl)) q1.2 rfl (CI.k h fun v1 g1 h => ?_)
  show Wp L xs xm_Tt_runAll 10 [.ref 200, .int x1, .int x2, x3] [.int v1, .int x2] g1 _
  refine w_br2 (pc' := 13) (t := 81) rfl rfl rfl ic_ge (fun hc => ?_) (fun hc => ?_)
  · replace h := h.2 hc
    exact w_return rfl rfl h
  · replace h := h.1 (Classical.not_not.mp hc)
    refine w_aload_n (pc' := 14) rfl rfl rfl ?_
    refine w_aload_n (pc' := 15) rfl rfl rfl ?_
    have q2 : xR0 200 4 = some 217 ∧ kG L 217 11 := (kf_9_4 (show xS0 L 200 = (9, 0) from rfl))
    refine w_getR (pc' := 18) rfl rfl rfl rfl (show xS0 L 200 = (9, 0) from rfl) q2.1 ?_
    refine w_iload_n (pc' := 19) rfl rfl rfl ?_
    refine w_iload_n (pc' := 20) rfl rfl rfl ?_
    refine w_cv (pc' := 23) (cm := xm_Tt_fillRow) (as := [.ref 217, .int x2, .int x1]) (a := 200) (rest := []) rfl rfl rfl  (xa_Tt_fillRow (Nat.le_of_ble_eq_true rfl)) (show xS0 L 200 = (9, 0) from rfl) rfl (CV.k h fun g2 h => ?_)
    show Wp L xs xm_Tt_runAll 23 [.ref 200, .int x1, .int x2, x3] [] g2 _
    refine w_aload_n (pc' := 24) rfl rfl rfl ?_
    have q3 : xR0 200 7 = some 234 ∧ xS0 L 234 = (1, 0) := (kf_9_7 (show xS0 L 200 = (9, 0) from rfl))
    refine w_getR (pc' := 27) rfl rfl rfl rfl (show xS0 L 200 = (9, 0) from rfl) q3.1 ?_
    refine w_iload_n (pc' := 28) rfl rfl rfl ?_
    refine w_cv (pc' := 31) (cm := xm_Co_isHonest) (as := [.int x2]) (a := 234) (rest := []) rfl rfl rfl  (xa_Co_isHonest (Nat.le_of_ble_eq_true rfl)) q3.2 rfl (CI.k h fun v2 g3 h => ?_)
    show Wp L xs xm_Tt_runAll 31 [.ref 200, .int x1, .int x2, x3] [.int v2] g3 _
    refine w_br (pc' := 34) (t := 75) rfl rfl rfl ic_eq (fun hc => ?_) (fun hc => ?_)
    · replace h := h.1 hc
      refine w_iinc (pc' := 78) rfl rfl rfl (v := (x2 + 1)) rfl (xl' := [.ref 200, .int x1, .int (x2 + 1), x3]) rfl ?_
      refine w_goto (pc' := 2) rfl rfl ?_
      exact h
    · replace h := h.2 hc
      refine w_aload_n (pc' := 35) rfl rfl rfl ?_
      have q4 : xR0 200 4 = some 217 ∧ kG L 217 11 := (kf_9_4 (show xS0 L 200 = (9, 0) from rfl))
      refine w_getR (pc' := 38) rfl rfl rfl rfl (show xS0 L 200 = (9, 0) from rfl) q4.1 ?_
      refine w_iload_n (pc' := 39) rfl rfl rfl ?_
      obtain ⟨k1, ek1, bk1, h⟩ := h
      have q5 : xR0 217 k1 = some (218 + k1) ∧ xS0 L (218 + k1) = (20, 11) := q4.2.2 k1 bk1
      refine w_aaload (pc' := 40) (i := k1) rfl rfl q4.2.1 (by omega) ek1 bk1 (by omega) q5.1 ?_
      refine w_iload_n (pc' := 41) rfl rfl rfl ?_
      obtain ⟨k2, ek2, bk2, h⟩ := h
      refine w_iaload (pc' := 42) (i := k2) rfl rfl q5.2 ek2 bk2 (by omega) ?_
      refine w_aload_n (pc' := 43) rfl rfl rfl ?_
      refine w_cv (pc' := 46) (cm := xm_Tt_quorumth) (as := []) (a := 200) (rest := [.int (g3 (218 + k1) k2)]) rfl rfl rfl  (xa_Tt_quorumth (Nat.le_of_ble_eq_true rfl)) (show xS0 L 200 = (9, 0) from rfl) rfl (CI.k h fun v3 g4 h => ?_)
      show Wp L xs xm_Tt_runAll 46 [.ref 200, .int x1, .int x2, x3] [.int v3, .int (g3 (218 + k1) k2)] g4 _
      refine w_max (pc' := 49) rfl rfl rfl (Nat.le_of_ble_eq_true rfl) ?_
      refine w_istore_n (pc' := 50) rfl rfl (xl' := [.ref 200, .int x1, .int x2, .int (imax (g3 (218 + k1) k2) v3)]) rfl ?_
      refine w_aload_n (pc' := 51) rfl rfl rfl ?_
      have q6 : xR0 200 0 = some 201 ∧ kG L 201 11 := (kf_9_0 (show xS0 L 200 = (9, 0) from rfl))
      refine w_getR (pc' := 54) rfl rfl rfl rfl (show xS0 L 200 = (9, 0) from rfl) q6.1 ?_
      refine w_iload_n (pc' := 55) rfl rfl rfl ?_
      have q7 : xR0 201 k1 = some (202 + k1) ∧ xS0 L (202 + k1) = (20, 11) := q6.2.2 k1 bk1
      refine w_aaload (pc' := 56) (i := k1) rfl rfl q6.2.1 (by omega) ek1 bk1 (by omega) q7.1 ?_
      refine w_iload_n (pc' := 57) rfl rfl rfl ?_
      refine w_iload_n (pc' := 58) rfl rfl rfl ?_
      refine w_aload_n (pc' := 59) rfl rfl rfl ?_
      have q8 : xR0 200 0 = some 201 ∧ kG L 201 11 := (kf_9_0 (show xS0 L 200 = (9, 0) from rfl))
      refine w_getR (pc' := 62) rfl rfl rfl rfl (show xS0 L 200 = (9, 0) from rfl) q8.1 ?_
      refine w_iload_n (pc' := 63) rfl rfl rfl ?_
      have q9 : xR0 201 k1 = some (202 + k1) ∧ xS0 L (202 + k1) = (20, 11) := q8.2.2 k1 bk1
      refine w_aaload (pc' := 64) (i := k1) rfl rfl q8.2.1 (by omega) ek1 bk1 (by omega) q9.1 ?_
      refine w_iload_n (pc' := 65) rfl rfl rfl ?_
      refine w_iconst (pc' := 66) rfl rfl (v := 1) rfl ?_
      refine w_isub (pc' := 67) rfl rfl ?_
      obtain ⟨k3, ek3, bk3, h⟩ := h
      refine w_iaload (pc' := 68) (i := k3) rfl rfl q9.2 ek3 bk3 (by omega) ?_
      refine w_max (pc' := 71) rfl rfl rfl (Nat.le_of_ble_eq_true rfl) ?_
      refine w_cs (pc' := 74) (cm := xm_Tt_bounded) (as := [.int (imax (imax (g3 (218 + k1) k2) v3) (g4 (202 + k1) k3))]) (rest := [.int x1, .ref (202 + k1)]) rfl rfl rfl (Or.inl rfl) (xa_Tt_bounded (Nat.le_of_ble_eq_true rfl)) (CI.k h fun v4 g5 h => ?_)
      show Wp L xs xm_Tt_runAll 74 [.ref 200, .int x1, .int x2, .int (imax (g3 (218 + k1) k2) v3)] [.int v4, .int x1, .ref (202 + k1)] g5 _
      refine w_iastore (pc' := 75) (i := k2) rfl rfl q7.2 ek2 bk2 (by omega) ?_
      replace h := h _ rfl
      generalize xu g5 (202 + k1) k2 v4 = g6 at h ⊢
      refine w_iinc (pc' := 78) rfl rfl rfl (v := (x2 + 1)) rfl (xl' := [.ref 200, .int x1, .int (x2 + 1), .int (imax (g3 (218 + k1) k2) v3)]) rfl ?_
      refine w_goto (pc' := 2) rfl rfl ?_
      exact h
theorem t_Tt_cutAll_0 {L : Nat} {xs : Nat → Int32} {x1 : Int32} {f : Hp} {Q : Hp → Prop}  (h : Wp L xs xm_Tt_cutAll 2 [.ref 200, .int x1, .int 0] [] f (QV Q)) : CV L xs xm_Tt_cutAll [.ref 200, .int x1] f Q := by
  show Wp L xs xm_Tt_cutAll 0 [.ref 200, .int x1, .retAddr 0] [] f (QV Q)
  refine w_iconst (pc' := 1) rfl rfl (v := 0) rfl ?_
  refine w_istore_n (pc' := 2) rfl rfl (xl' := [.ref 200, .int x1, .int 0]) rfl ?_
  exact h
theorem t_Tt_cutAll_2 {L : Nat} {xs : Nat → Int32} {x1 : Int32} {x2 : Int32} {f : Hp} {Q : Hp → Prop}  (h : CI L xs xm_Co_members [.ref 234] f (fun v1 g1 => ((x2 < v1 → CI L xs xm_Tt_isCheckpoint [.ref 200, .int x1] g1 (fun v2 g2 => ((v2 = 0 → Q g2) ∧ (¬ v2 = 0 → CV L xs xm_Tt_fillRow [.ref 200, .ref 201, .int x2, .int x1] g2 (fun g3 => CI L xs xm_Co_isHonest [.ref 234, .int x2] g3 (fun v3 g4 => ((v3 = 0 → Wp L xs xm_Tt_cutAll 2 [.ref 200, .int x1, .int (x2 + 1)] [] g4 (QV Q)) ∧ (¬ v3 = 0 → ∃ k1 : Nat, x2 = iN k1 ∧ k1 < 7 ∧ ∃ k2 : Nat, x1 = iN k2 ∧ k2 < 11 ∧ CI L xs xm_Tt_quorumth [.ref 200] g4 (fun v4 g5 => CI L xs xm_Tt_bounded [.int (imax (g4 (202 + k1) k2) v4)] g5 (fun v5 g6 => ∀ g7, g7 = xu g6 (226 + k1) k2 v5 → Wp L xs xm_Tt_cutAll 2 [.ref 200, .int x1, .int (x2 + 1)] [] g7 (QV Q))))))))))) ∧ (¬ x2 < v1 → Q g1)))) : Wp L xs xm_Tt_cutAll 2 [.ref 200, .int x1, .int x2] [] f (QV Q) := by
  refine w_iload_n (pc' := 3) rfl rfl rfl ?_
  refine w_aload_n (pc' := 4) rfl rfl rfl ?_
  have q1 : xR0 200 7 = some 234 ∧ xS0 L 234 = (1, 0) := (kf_9_7 (show xS0 L 200 = (9, 0) from rfl))
  refine w_getR (pc' := 7) rfl rfl rfl rfl (show xS0 L 200 = (9, 0) from rfl) q1.1 ?_
  refine w_cv (pc' := 10) (cm := xm_Co_members) (as := []) (a := 234) (rest := [.int x2]) rfl rfl rfl  (xa_Co_members (Nat.le_of_ble_eq_true rfl)) q1.2 rfl (CI.k h fun v1 g1 h => ?_)
  show Wp L xs xm_Tt_cutAll 10 [.ref 200, .int x1, .int x2] [.int v1, .int x2] g1 _
  refine w_br2 (pc' := 13) (t := 74) rfl rfl rfl ic_ge (fun hc => ?_) (fun hc => ?_)
  · replace h := h.2 hc
    exact w_return rfl rfl h
  · replace h := h.1 (Classical.not_not.mp hc)
    refine w_aload_n (pc' := 14) rfl rfl rfl ?_
    refine w_iload_n (pc' := 15) rfl rfl rfl ?_
    refine w_cv (pc' := 18) (cm := xm_Tt_isCheckpoint) (as := [.int x1]) (a := 200) (rest := []) rfl rfl rfl  (xa_Tt_isCheckpoint (Nat.le_of_ble_eq_true rfl)) (show xS0 L 200 = (9, 0) from rfl) rfl (CI.k h fun v2 g2 h => ?_)
    show Wp L xs xm_Tt_cutAll 18 [.ref 200, .int x1, .int x2] [.int v2] g2 _
    refine w_br (pc' := 21) (t := 74) rfl rfl rfl ic_eq (fun hc => ?_) (fun hc => ?_)
    · replace h := h.1 hc
      exact w_return rfl rfl h
    · replace h := h.2 hc
      refine w_aload_n (pc' := 22) rfl rfl rfl ?_
      refine w_aload_n (pc' := 23) rfl rfl rfl ?_
      have q2 : xR0 200 0 = some 201 ∧ kG L 201 11 := (kf_9_0 (show xS0 L 200 = (9, 0) from rfl))
      refine w_getR (pc' := 26) rfl rfl rfl rfl (show xS0 L 200 = (9, 0) from rfl) q2.1 ?_
      refine w_iload_n (pc' := 27) rfl rfl rfl ?_
      refine w_iload_n (pc' := 28) rfl rfl rfl ?_
      refine w_cv (pc' := 31) (cm := xm_Tt_fillRow) (as := [.ref 201, .int x2, .int x1]) (a := 200) (rest := []) rfl rfl rfl  (xa_Tt_fillRow (Nat.le_of_ble_eq_true rfl)) (show xS0 L 200 = (9, 0) from rfl) rfl (CV.k h fun g3 h => ?_)
      show Wp L xs xm_Tt_cutAll 31 [.ref 200, .int x1, .int x2] [] g3 _
      refine w_aload_n (pc' := 32) rfl rfl rfl ?_
      have q3 : xR0 200 7 = some 234 ∧ xS0 L 234 = (1, 0) := (kf_9_7 (show xS0 L 200 = (9, 0) from rfl))
      refine w_getR (pc' := 35) rfl rfl rfl rfl (show xS0 L 200 = (9, 0) from rfl) q3.1 ?_
      refine w_iload_n (pc' := 36) rfl rfl rfl ?_
      refine w_cv (pc' := 39) (cm := xm_Co_isHonest) (as := [.int x2]) (a := 234) (rest := []) rfl rfl rfl  (xa_Co_isHonest (Nat.le_of_ble_eq_true rfl)) q3.2 rfl (CI.k h fun v3 g4 h => ?_)
      show Wp L xs xm_Tt_cutAll 39 [.ref 200, .int x1, .int x2] [.int v3] g4 _
      refine w_br (pc' := 42) (t := 68) rfl rfl rfl ic_eq (fun hc => ?_) (fun hc => ?_)
      · replace h := h.1 hc
        refine w_iinc (pc' := 71) rfl rfl rfl (v := (x2 + 1)) rfl (xl' := [.ref 200, .int x1, .int (x2 + 1)]) rfl ?_
        refine w_goto (pc' := 2) rfl rfl ?_
        exact h
      · replace h := h.2 hc
        refine w_aload_n (pc' := 43) rfl rfl rfl ?_
        have q4 : xR0 200 5 = some 225 ∧ kG L 225 11 := (kf_9_5 (show xS0 L 200 = (9, 0) from rfl))
        refine w_getR (pc' := 46) rfl rfl rfl rfl (show xS0 L 200 = (9, 0) from rfl) q4.1 ?_
        refine w_iload_n (pc' := 47) rfl rfl rfl ?_
        obtain ⟨k1, ek1, bk1, h⟩ := h
        have q5 : xR0 225 k1 = some (226 + k1) ∧ xS0 L (226 + k1) = (20, 11) := q4.2.2 k1 bk1
        refine w_aaload (pc' := 48) (i := k1) rfl rfl q4.2.1 (by omega) ek1 bk1 (by omega) q5.1 ?_
        refine w_iload_n (pc' := 49) rfl rfl rfl ?_
        refine w_aload_n (pc' := 50) rfl rfl rfl ?_
        have q6 : xR0 200 0 = some 201 ∧ kG L 201 11 := (kf_9_0 (show xS0 L 200 = (9, 0) from rfl))
        refine w_getR (pc' := 53) rfl rfl rfl rfl (show xS0 L 200 = (9, 0) from rfl) q6.1 ?_
        refine w_iload_n (pc' := 54) rfl rfl rfl ?_
        have q7 : xR0 201 k1 = some (202 + k1) ∧ xS0 L (202 + k1) = (20, 11) := q6.2.2 k1 bk1
        refine w_aaload (pc' := 55) (i := k1) rfl rfl q6.2.1 (by omega) ek1 bk1 (by omega) q7.1 ?_
        refine w_iload_n (pc' := 56) rfl rfl rfl ?_
        obtain ⟨k2, ek2, bk2, h⟩ := h
        refine w_iaload (pc' := 57) (i := k2) rfl rfl q7.2 ek2 bk2 (by omega) ?_
        refine w_aload_n (pc' := 58) rfl rfl rfl ?_
        refine w_cv (pc' := 61) (cm := xm_Tt_quorumth) (as := []) (a := 200) (rest := [.int (g4 (202 + k1) k2), .int x1, .ref (226 + k1)]) rfl rfl rfl  (xa_Tt_quorumth (Nat.le_of_ble_eq_true rfl)) (show xS0 L 200 = (9, 0) from rfl) rfl (CI.k h fun v4 g5 h => ?_)
        show Wp L xs xm_Tt_cutAll 61 [.ref 200, .int x1, .int x2] [.int v4, .int (g4 (202 + k1) k2), .int x1, .ref (226 + k1)] g5 _
        refine w_max (pc' := 64) rfl rfl rfl (Nat.le_of_ble_eq_true rfl) ?_
        refine w_cs (pc' := 67) (cm := xm_Tt_bounded) (as := [.int (imax (g4 (202 + k1) k2) v4)]) (rest := [.int x1, .ref (226 + k1)]) rfl rfl rfl (Or.inl rfl) (xa_Tt_bounded (Nat.le_of_ble_eq_true rfl)) (CI.k h fun v5 g6 h => ?_)
        show Wp L xs xm_Tt_cutAll 67 [.ref 200, .int x1, .int x2] [.int v5, .int x1, .ref (226 + k1)] g6 _
        refine w_iastore (pc' := 68) (i := k2) rfl rfl q5.2 ek2 bk2 (by omega) ?_
        replace h := h _ rfl
        generalize xu g6 (226 + k1) k2 v5 = g7 at h ⊢
        refine w_iinc (pc' := 71) rfl rfl rfl (v := (x2 + 1)) rfl (xl' := [.ref 200, .int x1, .int (x2 + 1)]) rfl ?_
        refine w_goto (pc' := 2) rfl rfl ?_
        exact h
theorem t_Tt_isCheckpoint_0 {L : Nat} {xs : Nat → Int32} {x1 : Int32} {f : Hp} {Q : Int32 → Hp → Prop}  (h : ((0 < (f 234 2) → (f 234 2) ≠ 0 ∧ (((jrem x1 (f 234 2)) = 0 → Q 1 f) ∧ (¬ (jrem x1 (f 234 2)) = 0 → Q 0 f))) ∧ (¬ 0 < (f 234 2) → Q 0 f))) : CI L xs xm_Tt_isCheckpoint [.ref 200, .int x1] f Q := by
  show Wp L xs xm_Tt_isCheckpoint 0 [.ref 200, .int x1] [] f (QI Q)
  refine w_aload_n (pc' := 1) rfl rfl rfl ?_
  have q1 : xR0 200 7 = some 234 ∧ xS0 L 234 = (1, 0) := (kf_9_7 (show xS0 L 200 = (9, 0) from rfl))
  refine w_getR (pc' := 4) rfl rfl rfl rfl (show xS0 L 200 = (9, 0) from rfl) q1.1 ?_
  refine w_getI (pc' := 7) rfl rfl rfl rfl rfl q1.2 ?_
  refine w_br (pc' := 10) (t := 26) rfl rfl rfl ic_le (fun hc => ?_) (fun hc => ?_)
  · replace h := h.2 hc
    refine w_iconst (pc' := 27) rfl rfl (v := 0) rfl ?_
    exact w_ireturn rfl rfl h
  · replace h := h.1 (Classical.not_not.mp hc)
    refine w_iload_n (pc' := 11) rfl rfl rfl ?_
    refine w_aload_n (pc' := 12) rfl rfl rfl ?_
    have q2 : xR0 200 7 = some 234 ∧ xS0 L 234 = (1, 0) := (kf_9_7 (show xS0 L 200 = (9, 0) from rfl))
    refine w_getR (pc' := 15) rfl rfl rfl rfl (show xS0 L 200 = (9, 0) from rfl) q2.1 ?_
    refine w_getI (pc' := 18) rfl rfl rfl rfl rfl q2.2 ?_
    obtain ⟨q3, h⟩ := h
    refine w_irem (pc' := 19) rfl rfl q3 ?_
    refine w_br (pc' := 22) (t := 26) rfl rfl rfl ic_ne (fun hc => ?_) (fun hc => ?_)
    · replace h := h.2 hc
      refine w_iconst (pc' := 27) rfl rfl (v := 0) rfl ?_
      exact w_ireturn rfl rfl h
    · replace h := h.1 (Classical.not_not.mp hc)
      refine w_iconst (pc' := 23) rfl rfl (v := 1) rfl ?_
      refine w_goto (pc' := 27) rfl rfl ?_
      exact w_ireturn rfl rfl h
theorem t_Tt_sendAll_0 {L : Nat} {xs : Nat → Int32} {x1 : Int32} {f : Hp} {Q : Hp → Prop}  (h : Wp L xs xm_Tt_sendAll 2 [.ref 200, .int x1, .int 0] [] f (QV Q)) : CV L xs xm_Tt_sendAll [.ref 200, .int x1] f Q := by
  show Wp L xs xm_Tt_sendAll 0 [.ref 200, .int x1, .retAddr 0] [] f (QV Q)
  refine w_iconst (pc' := 1) rfl rfl (v := 0) rfl ?_
  refine w_istore_n (pc' := 2) rfl rfl (xl' := [.ref 200, .int x1, .int 0]) rfl ?_
  exact h
theorem t_Tt_sendAll_2 {L : Nat} {xs : Nat → Int32} {x1 : Int32} {x2 : Int32} {f : Hp} {Q : Hp → Prop}  (h : CI L xs xm_Co_members [.ref 234] f (fun v1 g1 => ((x2 < v1 → ∃ k1 : Nat, x2 = iN k1 ∧ k1 < 7 ∧ ∃ k2 : Nat, x1 = iN k2 ∧ k2 < 11 ∧ CV L xs xm_Tt_send [.ref 200, .int x2, .int (g1 (210 + k1) k2)] g1 (fun g2 => CV L xs xm_Tt_send [.ref 200, .int x2, .int (g2 (218 + k1) k2)] g2 (fun g3 => CI L xs xm_Tt_isCheckpoint [.ref 200, .int x1] g3 (fun v2 g4 => ((v2 = 0 → Wp L xs xm_Tt_sendAll 2 [.ref 200, .int x1, .int (x2 + 1)] [] g4 (QV Q)) ∧ (¬ v2 = 0 → CV L xs xm_Tt_send [.ref 200, .int x2, .int (g4 (202 + k1) k2)] g4 (fun g5 => Wp L xs xm_Tt_sendAll 2 [.ref 200, .int x1, .int (x2 + 1)] [] g5 (QV Q)))))))) ∧ (¬ x2 < v1 → Q g1)))) : Wp L xs xm_Tt_sendAll 2 [.ref 200, .int x1, .int x2] [] f (QV Q) := by
  refine w_iload_n (pc' := 3) rfl rfl rfl ?_
  refine w_aload_n (pc' := 4) rfl rfl rfl ?_
  have q1 : xR0 200 7 = some 234 ∧ xS0 L 234 = (1, 0) := (kf_9_7 (show xS0 L 200 = (9, 0) from rfl))
  refine w_getR (pc' := 7) rfl rfl rfl rfl (show xS0 L 200 = (9, 0) from rfl) q1.1 ?_
  refine w_cv (pc' := 10) (cm := xm_Co_members) (as := []) (a := 234) (rest := [.int x2]) rfl rfl rfl  (xa_Co_members (Nat.le_of_ble_eq_true rfl)) q1.2 rfl (CI.k h fun v1 g1 h => ?_)
  show Wp L xs xm_Tt_sendAll 10 [.ref 200, .int x1, .int x2] [.int v1, .int x2] g1 _
  refine w_br2 (pc' := 13) (t := 66) rfl rfl rfl ic_ge (fun hc => ?_) (fun hc => ?_)
  · replace h := h.2 hc
    exact w_return rfl rfl h
  · replace h := h.1 (Classical.not_not.mp hc)
    refine w_aload_n (pc' := 14) rfl rfl rfl ?_
    refine w_iload_n (pc' := 15) rfl rfl rfl ?_
    refine w_aload_n (pc' := 16) rfl rfl rfl ?_
    have q2 : xR0 200 3 = some 209 ∧ kG L 209 11 := (kf_9_3 (show xS0 L 200 = (9, 0) from rfl))
    refine w_getR (pc' := 19) rfl rfl rfl rfl (show xS0 L 200 = (9, 0) from rfl) q2.1 ?_
    refine w_iload_n (pc' := 20) rfl rfl rfl ?_
    obtain ⟨k1, ek1, bk1, h⟩ := h
    have q3 : xR0 209 k1 = some (210 + k1) ∧ xS0 L (210 + k1) = (20, 11) := q2.2.2 k1 bk1
    refine w_aaload (pc' := 21) (i := k1) rfl rfl q2.2.1 (by omega) ek1 bk1 (by omega) q3.1 ?_
    refine w_iload_n (pc' := 22) rfl rfl rfl ?_
    obtain ⟨k2, ek2, bk2, h⟩ := h
    refine w_iaload (pc' := 23) (i := k2) rfl rfl q3.2 ek2 bk2 (by omega) ?_
    refine w_cv (pc' := 26) (cm := xm_Tt_send) (as := [.int x2, .int (g1 (210 + k1) k2)]) (a := 200) (rest := []) rfl rfl rfl  (xa_Tt_send (Nat.le_of_ble_eq_true rfl)) (show xS0 L 200 = (9, 0) from rfl) rfl (CV.k h fun g2 h => ?_)
    show Wp L xs xm_Tt_sendAll 26 [.ref 200, .int x1, .int x2] [] g2 _
    refine w_aload_n (pc' := 27) rfl rfl rfl ?_
    refine w_iload_n (pc' := 28) rfl rfl rfl ?_
    refine w_aload_n (pc' := 29) rfl rfl rfl ?_
    have q4 : xR0 200 4 = some 217 ∧ kG L 217 11 := (kf_9_4 (show xS0 L 200 = (9, 0) from rfl))
    refine w_getR (pc' := 32) rfl rfl rfl rfl (show xS0 L 200 = (9, 0) from rfl) q4.1 ?_
    refine w_iload_n (pc' := 33) rfl rfl rfl ?_
    have q5 : xR0 217 k1 = some (218 + k1) ∧ xS0 L (218 + k1) = (20, 11) := q4.2.2 k1 bk1
    refine w_aaload (pc' := 34) (i := k1) rfl rfl q4.2.1 (by omega) ek1 bk1 (by omega) q5.1 ?_
    refine w_iload_n (pc' := 35) rfl rfl rfl ?_
    refine w_iaload (pc' := 36) (i := k2) rfl rfl q5.2 ek2 bk2 (by omega) ?_
    refine w_cv (pc' := 39) (cm := xm_Tt_send) (as := [.int x2, .int (g2 (218 + k1) k2)]) (a := 200) (rest := []) rfl rfl rfl  (xa_Tt_send (Nat.le_of_ble_eq_true rfl)) (show xS0 L 200 = (9, 0) from rfl) rfl (CV.k h fun g3 h => ?_)
    show Wp L xs xm_Tt_sendAll 39 [.ref 200, .int x1, .int x2] [] g3 _
    refine w_aload_n (pc' := 40) rfl rfl rfl ?_
    refine w_iload_n (pc' := 41) rfl rfl rfl ?_
    refine w_cv (pc' := 44) (cm := xm_Tt_isCheckpoint) (as := [.int x1]) (a := 200) (rest := []) rfl rfl rfl  (xa_Tt_isCheckpoint (Nat.le_of_ble_eq_true rfl)) (show xS0 L 200 = (9, 0) from rfl) rfl (CI.k h fun v2 g4 h => ?_)
    show Wp L xs xm_Tt_sendAll 44 [.ref 200, .int x1, .int x2] [.int v2] g4 _
    refine w_br (pc' := 47) (t := 60) rfl rfl rfl ic_eq (fun hc => ?_) (fun hc => ?_)
    · replace h := h.1 hc
      refine w_iinc (pc' := 63) rfl rfl rfl (v := (x2 + 1)) rfl (xl' := [.ref 200, .int x1, .int (x2 + 1)]) rfl ?_
      refine w_goto (pc' := 2) rfl rfl ?_
      exact h
    · replace h := h.2 hc
      refine w_aload_n (pc' := 48) rfl rfl rfl ?_
      refine w_iload_n (pc' := 49) rfl rfl rfl ?_
      refine w_aload_n (pc' := 50) rfl rfl rfl ?_
      have q6 : xR0 200 0 = some 201 ∧ kG L 201 11 := (kf_9_0 (show xS0 L 200 = (9, 0) from rfl))
      refine w_getR (pc' := 53) rfl rfl rfl rfl (show xS0 L 200 = (9, 0) from rfl) q6.1 ?_
      refine w_iload_n (pc' := 54) rfl rfl rfl ?_
      have q7 : xR0 201 k1 = some (202 + k1) ∧ xS0 L (202 + k1) = (20, 11) := q6.2.2 k1 bk1
      refine w_aaload (pc' := 55) (i := k1) rfl rfl q6.2.1 (by omega) ek1 bk1 (by omega) q7.1 ?_
      refine w_iload_n (pc' := 56) rfl rfl rfl ?_
      refine w_iaload (pc' := 57) (i := k2) rfl rfl q7.2 ek2 bk2 (by omega) ?_
      refine w_cv (pc' := 60) (cm := xm_Tt_send) (as := [.int x2, .int (g4 (202 + k1) k2)]) (a := 200) (rest := []) rfl rfl rfl  (xa_Tt_send (Nat.le_of_ble_eq_true rfl)) (show xS0 L 200 = (9, 0) from rfl) rfl (CV.k h fun g5 h => ?_)
      show Wp L xs xm_Tt_sendAll 60 [.ref 200, .int x1, .int x2] [] g5 _
      refine w_iinc (pc' := 63) rfl rfl rfl (v := (x2 + 1)) rfl (xl' := [.ref 200, .int x1, .int (x2 + 1)]) rfl ?_
      refine w_goto (pc' := 2) rfl rfl ?_
      exact h
theorem t_Tt_send_0 {L : Nat} {xs : Nat → Int32} {x1 : Int32} {x2 : Int32} {f : Hp} {Q : Hp → Prop}  (h : Wp L xs xm_Tt_send 2 [.ref 200, .int x1, .int x2, .int 0, .retAddr 0] [] f (QV Q)) : CV L xs xm_Tt_send [.ref 200, .int x1, .int x2] f Q := by
  show Wp L xs xm_Tt_send 0 [.ref 200, .int x1, .int x2, .retAddr 0, .retAddr 0] [] f (QV Q)
  refine w_iconst (pc' := 1) rfl rfl (v := 0) rfl ?_
  refine w_istore_n (pc' := 2) rfl rfl (xl' := [.ref 200, .int x1, .int x2, .int 0, .retAddr 0]) rfl ?_
  exact h
theorem t_Tt_send_2 {L : Nat} {xs : Nat → Int32} {x1 : Int32} {x2 : Int32} {x3 : Int32} {x4 : Value} {f : Hp} {Q : Hp → Prop} (cx4 : (x4.category != 2) = true) (h : CI L xs xm_Co_members [.ref 234] f (fun v1 g1 => ((x3 < v1 → ((400 < x2 → Q g1) ∧ (¬ 400 < x2 → ((x3 = x1 → Wp L xs xm_Tt_send 2 [.ref 200, .int x1, .int x2, .int (x3 + 1), x4] [] g1 (QV Q)) ∧ (¬ x3 = x1 → CI L xs xm_Co_isHonest [.ref 234, .int x3] g1 (fun v2 g2 => ((v2 = 0 → Wp L xs xm_Tt_send 2 [.ref 200, .int x1, .int x2, .int (x3 + 1), x4] [] g2 (QV Q)) ∧ (¬ v2 = 0 → ∀ g3, g3 = xu g2 200 1 ((g2 200 1) + 1) → ∃ k1 : Nat, x1 = iN k1 ∧ k1 < 7 ∧ ∃ k2 : Nat, x3 = iN k2 ∧ k2 < 7 ∧ ((400 < (x2 + (g3 (239 + k1) k2)) → Wp L xs xm_Tt_send 2 [.ref 200, .int x1, .int x2, .int (x3 + 1), .int (x2 + (g3 (239 + k1) k2))] [] g3 (QV Q)) ∧ (¬ 400 < (x2 + (g3 (239 + k1) k2)) → ∀ g4, g4 = xu g3 200 2 (imax (g3 200 2) (x2 + (g3 (239 + k1) k2))) → Wp L xs xm_Tt_send 2 [.ref 200, .int x1, .int x2, .int (x3 + 1), .int (x2 + (g3 (239 + k1) k2))] [] g4 (QV Q))))))))))) ∧ (¬ x3 < v1 → Q g1)))) : Wp L xs xm_Tt_send 2 [.ref 200, .int x1, .int x2, .int x3, x4] [] f (QV Q) := by
  refine w_iload_n (pc' := 3) rfl rfl rfl ?_
  refine w_aload_n (pc' := 4) rfl rfl rfl ?_
  have q1 : xR0 200 7 = some 234 ∧ xS0 L 234 = (1, 0) := (kf_9_7 (show xS0 L 200 = (9, 0) from rfl))
  refine w_getR (pc' := 7) rfl rfl rfl rfl (show xS0 L 200 = (9, 0) from rfl) q1.1 ?_
  refine w_cv (pc' := 10) (cm := xm_Co_members) (as := []) (a := 234) (rest := [.int x3]) rfl rfl rfl  (xa_Co_members (Nat.le_of_ble_eq_true rfl)) q1.2 rfl (CI.k h fun v1 g1 h => ?_)
  show Wp L xs xm_Tt_send 10 [.ref 200, .int x1, .int x2, .int x3, x4] [.int v1, .int x3] g1 _
  refine w_br2 (pc' := 13) (t := 91) rfl rfl rfl ic_ge (fun hc => ?_) (fun hc => ?_)
  · replace h := h.2 hc
    exact w_return rfl rfl h
  · replace h := h.1 (Classical.not_not.mp hc)
    refine w_iload_n (pc' := 14) rfl rfl rfl ?_
    refine w_sipush (pc' := 17) rfl rfl (v := 400) rfl ?_
    refine w_br2 (pc' := 20) (t := 91) rfl rfl rfl ic_gt (fun hc => ?_) (fun hc => ?_)
    · replace h := h.1 hc
      exact w_return rfl rfl h
    · replace h := h.2 hc
      refine w_iload_n (pc' := 21) rfl rfl rfl ?_
      refine w_iload_n (pc' := 22) rfl rfl rfl ?_
      refine w_br2 (pc' := 25) (t := 85) rfl rfl rfl ic_eq (fun hc => ?_) (fun hc => ?_)
      · replace h := h.1 hc
        refine w_iinc (pc' := 88) rfl rfl rfl (v := (x3 + 1)) rfl (xl' := [.ref 200, .int x1, .int x2, .int (x3 + 1), x4]) rfl ?_
        refine w_goto (pc' := 2) rfl rfl ?_
        exact h
      · replace h := h.2 hc
        refine w_aload_n (pc' := 26) rfl rfl rfl ?_
        have q2 : xR0 200 7 = some 234 ∧ xS0 L 234 = (1, 0) := (kf_9_7 (show xS0 L 200 = (9, 0) from rfl))
        refine w_getR (pc' := 29) rfl rfl rfl rfl (show xS0 L 200 = (9, 0) from rfl) q2.1 ?_
        refine w_iload_n (pc' := 30) rfl rfl rfl ?_
        refine w_cv (pc' := 33) (cm := xm_Co_isHonest) (as := [.int x3]) (a := 234) (rest := []) rfl rfl rfl  (xa_Co_isHonest (Nat.le_of_ble_eq_true rfl)) q2.2 rfl (CI.k h fun v2 g2 h => ?_)
        show Wp L xs xm_Tt_send 33 [.ref 200, .int x1, .int x2, .int x3, x4] [.int v2] g2 _
        refine w_br (pc' := 36) (t := 39) rfl rfl rfl ic_ne (fun hc => ?_) (fun hc => ?_)
        · replace h := h.2 hc
          refine w_aload_n (pc' := 40) rfl rfl rfl ?_
          refine w_dupA (pc' := 41) rfl rfl ?_
          refine w_getI (pc' := 44) rfl rfl rfl rfl rfl (show xS0 L 200 = (9, 0) from rfl) ?_
          refine w_iconst (pc' := 45) rfl rfl (v := 1) rfl ?_
          refine w_iadd (pc' := 46) rfl rfl ?_
          refine w_putI (pc' := 49) rfl rfl rfl rfl (show xS0 L 200 = (9, 0) from rfl) ?_
          replace h := h _ rfl
          generalize xu g2 200 1 ((g2 200 1) + 1) = g3 at h ⊢
          refine w_iload_n (pc' := 50) rfl rfl rfl ?_
          refine w_aload_n (pc' := 51) rfl rfl rfl ?_
          have q3 : xR0 200 7 = some 234 ∧ xS0 L 234 = (1, 0) := (kf_9_7 (show xS0 L 200 = (9, 0) from rfl))
          refine w_getR (pc' := 54) rfl rfl rfl rfl (show xS0 L 200 = (9, 0) from rfl) q3.1 ?_
          have q4 : xR0 234 8 = some 238 ∧ kG L 238 7 := (kf_1_8 q3.2)
          refine w_getR (pc' := 57) rfl rfl rfl rfl q3.2 q4.1 ?_
          refine w_iload_n (pc' := 58) rfl rfl rfl ?_
          obtain ⟨k1, ek1, bk1, h⟩ := h
          have q5 : xR0 238 k1 = some (239 + k1) ∧ xS0 L (239 + k1) = (20, 7) := q4.2.2 k1 bk1
          refine w_aaload (pc' := 59) (i := k1) rfl rfl q4.2.1 (by omega) ek1 bk1 (by omega) q5.1 ?_
          refine w_iload_n (pc' := 60) rfl rfl rfl ?_
          obtain ⟨k2, ek2, bk2, h⟩ := h
          refine w_iaload (pc' := 61) (i := k2) rfl rfl q5.2 ek2 bk2 (by omega) ?_
          refine w_iadd (pc' := 62) rfl rfl ?_
          refine w_istore (pc' := 64) rfl rfl (xl' := [.ref 200, .int x1, .int x2, .int x3, .int (x2 + (g3 (239 + k1) k2))]) rfl ?_
          refine w_iload (pc' := 66) rfl rfl rfl ?_
          refine w_sipush (pc' := 69) rfl rfl (v := 400) rfl ?_
          refine w_br2 (pc' := 72) (t := 85) rfl rfl rfl ic_gt (fun hc => ?_) (fun hc => ?_)
          · replace h := h.1 hc
            refine w_iinc (pc' := 88) rfl rfl rfl (v := (x3 + 1)) rfl (xl' := [.ref 200, .int x1, .int x2, .int (x3 + 1), .int (x2 + (g3 (239 + k1) k2))]) rfl ?_
            refine w_goto (pc' := 2) rfl rfl ?_
            exact h
          · replace h := h.2 hc
            refine w_aload_n (pc' := 73) rfl rfl rfl ?_
            refine w_aload_n (pc' := 74) rfl rfl rfl ?_
            refine w_getI (pc' := 77) rfl rfl rfl rfl rfl (show xS0 L 200 = (9, 0) from rfl) ?_
            refine w_iload (pc' := 79) rfl rfl rfl ?_
            refine w_max (pc' := 82) rfl rfl rfl (Nat.le_of_ble_eq_true rfl) ?_
            refine w_putI (pc' := 85) rfl rfl rfl rfl (show xS0 L 200 = (9, 0) from rfl) ?_
            replace h := h _ rfl
            generalize xu g3 200 2 (imax (g3 200 2) (x2 + (g3 (239 + k1) k2))) = g4 at h ⊢
            refine w_iinc (pc' := 88) rfl rfl rfl (v := (x3 + 1)) rfl (xl' := [.ref 200, .int x1, .int x2, .int (x3 + 1), .int (x2 + (g3 (239 + k1) k2))]) rfl ?_
            refine w_goto (pc' := 2) rfl rfl ?_
            exact h
        · replace h := h.1 (Classical.not_not.mp hc)
          refine w_goto (pc' := 85) rfl rfl ?_
          refine w_iinc (pc' := 88) rfl rfl rfl (v := (x3 + 1)) rfl (xl' := [.ref 200, .int x1, .int x2, .int (x3 + 1), x4]) rfl ?_
          refine w_goto (pc' := 2) rfl rfl ?_
          exact h
theorem t_Tt_tightest_0 {L : Nat} {xs : Nat → Int32} {x1 : Nat} {f : Hp} {Q : Int32 → Hp → Prop} (qx1 : xS0 L x1 = (1, 0)) (h : CV L xs xm_Tt_plan [.ref 200, .ref x1, .int 9, .int (f x1 3)] f (fun g1 => CI L xs xm_Tt_doneAt [.ref 200, .int (g1 x1 4)] g1 (fun v1 g2 => (((g2 x1 4) = 0 → Q (-1) g2) ∧ (¬ (g2 x1 4) = 0 → ((v1 = 1000000 → Q (-1) g2) ∧ (¬ v1 = 1000000 → Wp L xs xm_Tt_tightest 37 [.ref 200, .ref x1, .int v1, .int 1] [] g2 (QI Q)))))))) : CI L xs xm_Tt_tightest [.ref 200, .ref x1] f Q := by
  show Wp L xs xm_Tt_tightest 0 [.ref 200, .ref x1, .retAddr 0, .retAddr 0] [] f (QI Q)
  refine w_aload_n (pc' := 1) rfl rfl rfl ?_
  refine w_aload_n (pc' := 2) rfl rfl rfl ?_
  refine w_bipush (pc' := 4) rfl rfl (v := 9) rfl ?_
  refine w_aload_n (pc' := 5) rfl rfl rfl ?_
  refine w_getI (pc' := 8) rfl rfl rfl rfl rfl qx1 ?_
  refine w_cv (pc' := 11) (cm := xm_Tt_plan) (as := [.ref x1, .int 9, .int (f x1 3)]) (a := 200) (rest := []) rfl rfl rfl  (xa_Tt_plan (Nat.le_of_ble_eq_true rfl)) (show xS0 L 200 = (9, 0) from rfl) rfl (CV.k h fun g1 h => ?_)
  show Wp L xs xm_Tt_tightest 11 [.ref 200, .ref x1, .retAddr 0, .retAddr 0] [] g1 _
  refine w_aload_n (pc' := 12) rfl rfl rfl ?_
  refine w_aload_n (pc' := 13) rfl rfl rfl ?_
  refine w_getI (pc' := 16) rfl rfl rfl rfl rfl qx1 ?_
  refine w_cv (pc' := 19) (cm := xm_Tt_doneAt) (as := [.int (g1 x1 4)]) (a := 200) (rest := []) rfl rfl rfl  (xa_Tt_doneAt (Nat.le_of_ble_eq_true rfl)) (show xS0 L 200 = (9, 0) from rfl) rfl (CI.k h fun v1 g2 h => ?_)
  show Wp L xs xm_Tt_tightest 19 [.ref 200, .ref x1, .retAddr 0, .retAddr 0] [.int v1] g2 _
  refine w_istore_n (pc' := 20) rfl rfl (xl' := [.ref 200, .ref x1, .int v1, .retAddr 0]) rfl ?_
  refine w_aload_n (pc' := 21) rfl rfl rfl ?_
  refine w_getI (pc' := 24) rfl rfl rfl rfl rfl qx1 ?_
  refine w_br (pc' := 27) (t := 33) rfl rfl rfl ic_eq (fun hc => ?_) (fun hc => ?_)
  · replace h := h.1 hc
    refine w_iconst (pc' := 34) rfl rfl (v := (-1)) rfl ?_
    exact w_ireturn rfl rfl h
  · replace h := h.2 hc
    refine w_iload_n (pc' := 28) rfl rfl rfl ?_
    refine w_ldc (pc' := 30) rfl rfl (v := 1000000) rfl ?_
    refine w_br2 (pc' := 33) (t := 35) rfl rfl rfl ic_ne (fun hc => ?_) (fun hc => ?_)
    · replace h := h.2 hc
      refine w_iconst (pc' := 36) rfl rfl (v := 1) rfl ?_
      refine w_istore_n (pc' := 37) rfl rfl (xl' := [.ref 200, .ref x1, .int v1, .int 1]) rfl ?_
      exact h
    · replace h := h.1 (Classical.not_not.mp hc)
      refine w_iconst (pc' := 34) rfl rfl (v := (-1)) rfl ?_
      exact w_ireturn rfl rfl h
theorem t_Tt_tightest_37 {L : Nat} {xs : Nat → Int32} {x1 : Nat} {x2 : Int32} {x3 : Int32} {f : Hp} {Q : Int32 → Hp → Prop} (qx1 : xS0 L x1 = (1, 0)) (h : ((x3 < 9 → CV L xs xm_Tt_plan [.ref 200, .ref x1, .int x3, .int (f x1 3)] f (fun g1 => CI L xs xm_Tt_doneAt [.ref 200, .int (g1 x1 4)] g1 (fun v1 g2 => ((v1 = x2 → Q x3 g2) ∧ (¬ v1 = x2 → Wp L xs xm_Tt_tightest 37 [.ref 200, .ref x1, .int x2, .int (x3 + 1)] [] g2 (QI Q)))))) ∧ (¬ x3 < 9 → Q 9 f))) : Wp L xs xm_Tt_tightest 37 [.ref 200, .ref x1, .int x2, .int x3] [] f (QI Q) := by
  refine w_iload_n (pc' := 38) rfl rfl rfl ?_
  refine w_bipush (pc' := 40) rfl rfl (v := 9) rfl ?_
  refine w_br2 (pc' := 43) (t := 73) rfl rfl rfl ic_ge (fun hc => ?_) (fun hc => ?_)
  · replace h := h.2 hc
    refine w_bipush (pc' := 75) rfl rfl (v := 9) rfl ?_
    exact w_ireturn rfl rfl h
  · replace h := h.1 (Classical.not_not.mp hc)
    refine w_aload_n (pc' := 44) rfl rfl rfl ?_
    refine w_aload_n (pc' := 45) rfl rfl rfl ?_
    refine w_iload_n (pc' := 46) rfl rfl rfl ?_
    refine w_aload_n (pc' := 47) rfl rfl rfl ?_
    refine w_getI (pc' := 50) rfl rfl rfl rfl rfl qx1 ?_
    refine w_cv (pc' := 53) (cm := xm_Tt_plan) (as := [.ref x1, .int x3, .int (f x1 3)]) (a := 200) (rest := []) rfl rfl rfl  (xa_Tt_plan (Nat.le_of_ble_eq_true rfl)) (show xS0 L 200 = (9, 0) from rfl) rfl (CV.k h fun g1 h => ?_)
    show Wp L xs xm_Tt_tightest 53 [.ref 200, .ref x1, .int x2, .int x3] [] g1 _
    refine w_aload_n (pc' := 54) rfl rfl rfl ?_
    refine w_aload_n (pc' := 55) rfl rfl rfl ?_
    refine w_getI (pc' := 58) rfl rfl rfl rfl rfl qx1 ?_
    refine w_cv (pc' := 61) (cm := xm_Tt_doneAt) (as := [.int (g1 x1 4)]) (a := 200) (rest := []) rfl rfl rfl  (xa_Tt_doneAt (Nat.le_of_ble_eq_true rfl)) (show xS0 L 200 = (9, 0) from rfl) rfl (CI.k h fun v1 g2 h => ?_)
    show Wp L xs xm_Tt_tightest 61 [.ref 200, .ref x1, .int x2, .int x3] [.int v1] g2 _
    refine w_iload_n (pc' := 62) rfl rfl rfl ?_
    refine w_br2 (pc' := 65) (t := 67) rfl rfl rfl ic_ne (fun hc => ?_) (fun hc => ?_)
    · replace h := h.2 hc
      refine w_iinc (pc' := 70) rfl rfl rfl (v := (x3 + 1)) rfl (xl' := [.ref 200, .ref x1, .int x2, .int (x3 + 1)]) rfl ?_
      refine w_goto (pc' := 37) rfl rfl ?_
      exact h
    · replace h := h.1 (Classical.not_not.mp hc)
      refine w_iload_n (pc' := 66) rfl rfl rfl ?_
      exact w_ireturn rfl rfl h
theorem t_Tt_doneAt_0 {L : Nat} {xs : Nat → Int32} {x1 : Int32} {f : Hp} {Q : Int32 → Hp → Prop}  (h : CV L xs xm_ja_fill [.ref 233, .int 1000000] f (fun g1 => Wp L xs xm_Tt_doneAt 11 [.ref 200, .int x1, .int 0] [] g1 (QI Q))) : CI L xs xm_Tt_doneAt [.ref 200, .int x1] f Q := by
  show Wp L xs xm_Tt_doneAt 0 [.ref 200, .int x1, .retAddr 0] [] f (QI Q)
  refine w_aload_n (pc' := 1) rfl rfl rfl ?_
  have q1 : xR0 200 6 = some 233 ∧ xS0 L 233 = (20, 7) := (kf_9_6 (show xS0 L 200 = (9, 0) from rfl))
  refine w_getR (pc' := 4) rfl rfl rfl rfl (show xS0 L 200 = (9, 0) from rfl) q1.1 ?_
  refine w_ldc (pc' := 6) rfl rfl (v := 1000000) rfl ?_
  refine w_cs (pc' := 9) (cm := xm_ja_fill) (as := [.ref 233, .int 1000000]) (rest := []) rfl rfl rfl (Or.inl rfl) (xa_ja_fill (Nat.le_of_ble_eq_true rfl)) (CV.k h fun g1 h => ?_)
  show Wp L xs xm_Tt_doneAt 9 [.ref 200, .int x1, .retAddr 0] [] g1 _
  refine w_iconst (pc' := 10) rfl rfl (v := 0) rfl ?_
  refine w_istore_n (pc' := 11) rfl rfl (xl' := [.ref 200, .int x1, .int 0]) rfl ?_
  exact h
theorem t_Tt_doneAt_11 {L : Nat} {xs : Nat → Int32} {x1 : Int32} {x2 : Int32} {f : Hp} {Q : Int32 → Hp → Prop}  (h : ((x2 < 7 → ((x1 < 1 → CI L xs xm_Tt_least [.ref 200, .int ((f 234 0) + 1)] f (fun v2 g2 => Q v2 g2)) ∧ (¬ x1 < 1 → ((10 < x1 → CI L xs xm_Tt_least [.ref 200, .int ((f 234 0) + 1)] f (fun v3 g3 => Q v3 g3)) ∧ (¬ 10 < x1 → ∃ k1 : Nat, x2 = iN k1 ∧ k1 < 7 ∧ ∃ k2 : Nat, x1 = iN k2 ∧ k2 < 11 ∧ ∀ g4, g4 = xu f 233 k1 (f (202 + k1) k2) → Wp L xs xm_Tt_doneAt 11 [.ref 200, .int x1, .int (x2 + 1)] [] g4 (QI Q)))))) ∧ (¬ x2 < 7 → CI L xs xm_Tt_least [.ref 200, .int ((f 234 0) + 1)] f (fun v1 g1 => Q v1 g1)))) : Wp L xs xm_Tt_doneAt 11 [.ref 200, .int x1, .int x2] [] f (QI Q) := by
  refine w_iload_n (pc' := 12) rfl rfl rfl ?_
  refine w_bipush (pc' := 14) rfl rfl (v := 7) rfl ?_
  refine w_br2 (pc' := 17) (t := 48) rfl rfl rfl ic_ge (fun hc => ?_) (fun hc => ?_)
  · replace h := h.2 hc
    refine w_aload_n (pc' := 49) rfl rfl rfl ?_
    refine w_aload_n (pc' := 50) rfl rfl rfl ?_
    have q1 : xR0 200 7 = some 234 ∧ xS0 L 234 = (1, 0) := (kf_9_7 (show xS0 L 200 = (9, 0) from rfl))
    refine w_getR (pc' := 53) rfl rfl rfl rfl (show xS0 L 200 = (9, 0) from rfl) q1.1 ?_
    refine w_getI (pc' := 56) rfl rfl rfl rfl rfl q1.2 ?_
    refine w_iconst (pc' := 57) rfl rfl (v := 1) rfl ?_
    refine w_iadd (pc' := 58) rfl rfl ?_
    refine w_cv (pc' := 61) (cm := xm_Tt_least) (as := [.int ((f 234 0) + 1)]) (a := 200) (rest := []) rfl rfl rfl  (xa_Tt_least (Nat.le_of_ble_eq_true rfl)) (show xS0 L 200 = (9, 0) from rfl) rfl (CI.k h fun v1 g1 h => ?_)
    show Wp L xs xm_Tt_doneAt 61 [.ref 200, .int x1, .int x2] [.int v1] g1 _
    exact w_ireturn rfl rfl h
  · replace h := h.1 (Classical.not_not.mp hc)
    refine w_iload_n (pc' := 18) rfl rfl rfl ?_
    refine w_iconst (pc' := 19) rfl rfl (v := 1) rfl ?_
    refine w_br2 (pc' := 22) (t := 48) rfl rfl rfl ic_lt (fun hc => ?_) (fun hc => ?_)
    · replace h := h.1 hc
      refine w_aload_n (pc' := 49) rfl rfl rfl ?_
      refine w_aload_n (pc' := 50) rfl rfl rfl ?_
      have q2 : xR0 200 7 = some 234 ∧ xS0 L 234 = (1, 0) := (kf_9_7 (show xS0 L 200 = (9, 0) from rfl))
      refine w_getR (pc' := 53) rfl rfl rfl rfl (show xS0 L 200 = (9, 0) from rfl) q2.1 ?_
      refine w_getI (pc' := 56) rfl rfl rfl rfl rfl q2.2 ?_
      refine w_iconst (pc' := 57) rfl rfl (v := 1) rfl ?_
      refine w_iadd (pc' := 58) rfl rfl ?_
      refine w_cv (pc' := 61) (cm := xm_Tt_least) (as := [.int ((f 234 0) + 1)]) (a := 200) (rest := []) rfl rfl rfl  (xa_Tt_least (Nat.le_of_ble_eq_true rfl)) (show xS0 L 200 = (9, 0) from rfl) rfl (CI.k h fun v2 g2 h => ?_)
      show Wp L xs xm_Tt_doneAt 61 [.ref 200, .int x1, .int x2] [.int v2] g2 _
      exact w_ireturn rfl rfl h
    · replace h := h.2 hc
      refine w_iload_n (pc' := 23) rfl rfl rfl ?_
      refine w_bipush (pc' := 25) rfl rfl (v := 10) rfl ?_
      refine w_br2 (pc' := 28) (t := 48) rfl rfl rfl ic_gt (fun hc => ?_) (fun hc => ?_)
      · replace h := h.1 hc
        refine w_aload_n (pc' := 49) rfl rfl rfl ?_
        refine w_aload_n (pc' := 50) rfl rfl rfl ?_
        have q3 : xR0 200 7 = some 234 ∧ xS0 L 234 = (1, 0) := (kf_9_7 (show xS0 L 200 = (9, 0) from rfl))
        refine w_getR (pc' := 53) rfl rfl rfl rfl (show xS0 L 200 = (9, 0) from rfl) q3.1 ?_
        refine w_getI (pc' := 56) rfl rfl rfl rfl rfl q3.2 ?_
        refine w_iconst (pc' := 57) rfl rfl (v := 1) rfl ?_
        refine w_iadd (pc' := 58) rfl rfl ?_
        refine w_cv (pc' := 61) (cm := xm_Tt_least) (as := [.int ((f 234 0) + 1)]) (a := 200) (rest := []) rfl rfl rfl  (xa_Tt_least (Nat.le_of_ble_eq_true rfl)) (show xS0 L 200 = (9, 0) from rfl) rfl (CI.k h fun v3 g3 h => ?_)
        show Wp L xs xm_Tt_doneAt 61 [.ref 200, .int x1, .int x2] [.int v3] g3 _
        exact w_ireturn rfl rfl h
      · replace h := h.2 hc
        refine w_aload_n (pc' := 29) rfl rfl rfl ?_
        have q4 : xR0 200 6 = some 233 ∧ xS0 L 233 = (20, 7) := (kf_9_6 (show xS0 L 200 = (9, 0) from rfl))
        refine w_getR (pc' := 32) rfl rfl rfl rfl (show xS0 L 200 = (9, 0) from rfl) q4.1 ?_
        refine w_iload_n (pc' := 33) rfl rfl rfl ?_
        refine w_aload_n (pc' := 34) rfl rfl rfl ?_
        have q5 : xR0 200 0 = some 201 ∧ kG L 201 11 := (kf_9_0 (show xS0 L 200 = (9, 0) from rfl))
        refine w_getR (pc' := 37) rfl rfl rfl rfl (show xS0 L 200 = (9, 0) from rfl) q5.1 ?_
        refine w_iload_n (pc' := 38) rfl rfl rfl ?_
        obtain ⟨k1, ek1, bk1, h⟩ := h
        have q6 : xR0 201 k1 = some (202 + k1) ∧ xS0 L (202 + k1) = (20, 11) := q5.2.2 k1 bk1
        refine w_aaload (pc' := 39) (i := k1) rfl rfl q5.2.1 (by omega) ek1 bk1 (by omega) q6.1 ?_
        refine w_iload_n (pc' := 40) rfl rfl rfl ?_
        obtain ⟨k2, ek2, bk2, h⟩ := h
        refine w_iaload (pc' := 41) (i := k2) rfl rfl q6.2 ek2 bk2 (by omega) ?_
        refine w_iastore (pc' := 42) (i := k1) rfl rfl q4.2 ek1 bk1 (by omega) ?_
        replace h := h _ rfl
        generalize xu f 233 k1 (f (202 + k1) k2) = g4 at h ⊢
        refine w_iinc (pc' := 45) rfl rfl rfl (v := (x2 + 1)) rfl (xl' := [.ref 200, .int x1, .int (x2 + 1)]) rfl ?_
        refine w_goto (pc' := 11) rfl rfl ?_
        exact h
theorem t_Tt_spareOnes_0 {L : Nat} {xs : Nat → Int32} {x1 : Nat} {f : Hp} {Q : Int32 → Hp → Prop} (qx1 : xS0 L x1 = (1, 0)) (h : Wp L xs xm_Tt_spareOnes 4 [.ref 200, .ref x1, .int 0, .int 0] [] f (QI Q)) : CI L xs xm_Tt_spareOnes [.ref 200, .ref x1] f Q := by
  show Wp L xs xm_Tt_spareOnes 0 [.ref 200, .ref x1, .retAddr 0, .retAddr 0] [] f (QI Q)
  refine w_iconst (pc' := 1) rfl rfl (v := 0) rfl ?_
  refine w_istore_n (pc' := 2) rfl rfl (xl' := [.ref 200, .ref x1, .int 0, .retAddr 0]) rfl ?_
  refine w_iconst (pc' := 3) rfl rfl (v := 0) rfl ?_
  refine w_istore_n (pc' := 4) rfl rfl (xl' := [.ref 200, .ref x1, .int 0, .int 0]) rfl ?_
  exact h
theorem t_Tt_spareOnes_4 {L : Nat} {xs : Nat → Int32} {x1 : Nat} {x2 : Int32} {x3 : Int32} {f : Hp} {Q : Int32 → Hp → Prop} (qx1 : xS0 L x1 = (1, 0)) (h : CI L xs xm_Co_members [.ref x1] f (fun v1 g1 => ((x3 < v1 → ((0 < (g1 x1 4) → CV L xs xm_Tt_plan [.ref 200, .ref x1, .int (g1 x1 1), .int ((g1 x1 3) ||| (1 <<< (x3 &&& 31)))] g1 (fun g2 => CI L xs xm_Tt_doneAt [.ref 200, .int (g2 x1 4)] g2 (fun v2 g3 => ((v2 = 1000000 → Wp L xs xm_Tt_spareOnes 4 [.ref 200, .ref x1, .int x2, .int (x3 + 1)] [] g3 (QI Q)) ∧ (¬ v2 = 1000000 → Wp L xs xm_Tt_spareOnes 4 [.ref 200, .ref x1, .int (x2 ||| (1 <<< (x3 &&& 31))), .int (x3 + 1)] [] g3 (QI Q)))))) ∧ (¬ 0 < (g1 x1 4) → Q x2 g1))) ∧ (¬ x3 < v1 → Q x2 g1)))) : Wp L xs xm_Tt_spareOnes 4 [.ref 200, .ref x1, .int x2, .int x3] [] f (QI Q) := by
  refine w_iload_n (pc' := 5) rfl rfl rfl ?_
  refine w_aload_n (pc' := 6) rfl rfl rfl ?_
  refine w_cv (pc' := 9) (cm := xm_Co_members) (as := []) (a := x1) (rest := [.int x3]) rfl rfl rfl  (xa_Co_members (Nat.le_of_ble_eq_true rfl)) qx1 rfl (CI.k h fun v1 g1 h => ?_)
  show Wp L xs xm_Tt_spareOnes 9 [.ref 200, .ref x1, .int x2, .int x3] [.int v1, .int x3] g1 _
  refine w_br2 (pc' := 12) (t := 61) rfl rfl rfl ic_ge (fun hc => ?_) (fun hc => ?_)
  · replace h := h.2 hc
    refine w_iload_n (pc' := 62) rfl rfl rfl ?_
    exact w_ireturn rfl rfl h
  · replace h := h.1 (Classical.not_not.mp hc)
    refine w_aload_n (pc' := 13) rfl rfl rfl ?_
    refine w_getI (pc' := 16) rfl rfl rfl rfl rfl qx1 ?_
    refine w_br (pc' := 19) (t := 61) rfl rfl rfl ic_le (fun hc => ?_) (fun hc => ?_)
    · replace h := h.2 hc
      refine w_iload_n (pc' := 62) rfl rfl rfl ?_
      exact w_ireturn rfl rfl h
    · replace h := h.1 (Classical.not_not.mp hc)
      refine w_aload_n (pc' := 20) rfl rfl rfl ?_
      refine w_aload_n (pc' := 21) rfl rfl rfl ?_
      refine w_aload_n (pc' := 22) rfl rfl rfl ?_
      refine w_getI (pc' := 25) rfl rfl rfl rfl rfl qx1 ?_
      refine w_aload_n (pc' := 26) rfl rfl rfl ?_
      refine w_getI (pc' := 29) rfl rfl rfl rfl rfl qx1 ?_
      refine w_iconst (pc' := 30) rfl rfl (v := 1) rfl ?_
      refine w_iload_n (pc' := 31) rfl rfl rfl ?_
      refine w_ishl (pc' := 32) rfl rfl ?_
      refine w_ior (pc' := 33) rfl rfl ?_
      refine w_cv (pc' := 36) (cm := xm_Tt_plan) (as := [.ref x1, .int (g1 x1 1), .int ((g1 x1 3) ||| (1 <<< (x3 &&& 31)))]) (a := 200) (rest := []) rfl rfl rfl  (xa_Tt_plan (Nat.le_of_ble_eq_true rfl)) (show xS0 L 200 = (9, 0) from rfl) rfl (CV.k h fun g2 h => ?_)
      show Wp L xs xm_Tt_spareOnes 36 [.ref 200, .ref x1, .int x2, .int x3] [] g2 _
      refine w_aload_n (pc' := 37) rfl rfl rfl ?_
      refine w_aload_n (pc' := 38) rfl rfl rfl ?_
      refine w_getI (pc' := 41) rfl rfl rfl rfl rfl qx1 ?_
      refine w_cv (pc' := 44) (cm := xm_Tt_doneAt) (as := [.int (g2 x1 4)]) (a := 200) (rest := []) rfl rfl rfl  (xa_Tt_doneAt (Nat.le_of_ble_eq_true rfl)) (show xS0 L 200 = (9, 0) from rfl) rfl (CI.k h fun v2 g3 h => ?_)
      show Wp L xs xm_Tt_spareOnes 44 [.ref 200, .ref x1, .int x2, .int x3] [.int v2] g3 _
      refine w_ldc (pc' := 46) rfl rfl (v := 1000000) rfl ?_
      refine w_br2 (pc' := 49) (t := 55) rfl rfl rfl ic_eq (fun hc => ?_) (fun hc => ?_)
      · replace h := h.1 hc
        refine w_iinc (pc' := 58) rfl rfl rfl (v := (x3 + 1)) rfl (xl' := [.ref 200, .ref x1, .int x2, .int (x3 + 1)]) rfl ?_
        refine w_goto (pc' := 4) rfl rfl ?_
        exact h
      · replace h := h.2 hc
        refine w_iload_n (pc' := 50) rfl rfl rfl ?_
        refine w_iconst (pc' := 51) rfl rfl (v := 1) rfl ?_
        refine w_iload_n (pc' := 52) rfl rfl rfl ?_
        refine w_ishl (pc' := 53) rfl rfl ?_
        refine w_ior (pc' := 54) rfl rfl ?_
        refine w_istore_n (pc' := 55) rfl rfl (xl' := [.ref 200, .ref x1, .int (x2 ||| (1 <<< (x3 &&& 31))), .int x3]) rfl ?_
        refine w_iinc (pc' := 58) rfl rfl rfl (v := (x3 + 1)) rfl (xl' := [.ref 200, .ref x1, .int (x2 ||| (1 <<< (x3 &&& 31))), .int (x3 + 1)]) rfl ?_
        refine w_goto (pc' := 4) rfl rfl ?_
        exact h
theorem t_Tt_slowest_0 {L : Nat} {xs : Nat → Int32}  {f : Hp} {Q : Int32 → Hp → Prop}  (h : Wp L xs xm_Tt_slowest 6 [.ref 200, .int (-1), .int (-1), .int 1, .retAddr 0] [] f (QI Q)) : CI L xs xm_Tt_slowest [.ref 200] f Q := by
  show Wp L xs xm_Tt_slowest 0 [.ref 200, .retAddr 0, .retAddr 0, .retAddr 0, .retAddr 0] [] f (QI Q)
  refine w_iconst (pc' := 1) rfl rfl (v := (-1)) rfl ?_
  refine w_istore_n (pc' := 2) rfl rfl (xl' := [.ref 200, .int (-1), .retAddr 0, .retAddr 0, .retAddr 0]) rfl ?_
  refine w_iconst (pc' := 3) rfl rfl (v := (-1)) rfl ?_
  refine w_istore_n (pc' := 4) rfl rfl (xl' := [.ref 200, .int (-1), .int (-1), .retAddr 0, .retAddr 0]) rfl ?_
  refine w_iconst (pc' := 5) rfl rfl (v := 1) rfl ?_
  refine w_istore_n (pc' := 6) rfl rfl (xl' := [.ref 200, .int (-1), .int (-1), .int 1, .retAddr 0]) rfl ?_
  exact h
theorem t_Tt_slowest_6 {L : Nat} {xs : Nat → Int32} {x1 : Int32} {x2 : Int32} {x3 : Int32} {x4 : Value} {f : Hp} {Q : Int32 → Hp → Prop} (cx4 : (x4.category != 2) = true) (h : (((f 234 4) < x3 → Q x1 f) ∧ (¬ (f 234 4) < x3 → ((10 < x3 → Q x1 f) ∧ (¬ 10 < x3 → CI L xs xm_Tt_doneAt [.ref 200, .int x3] f (fun v1 g1 => ((v1 = 1000000 → Q (-1) g1) ∧ (¬ v1 = 1000000 → ((x2 < (v1 - (x3 - 1)) → Wp L xs xm_Tt_slowest 6 [.ref 200, .int x3, .int (v1 - (x3 - 1)), .int (x3 + 1), .int v1] [] g1 (QI Q)) ∧ (¬ x2 < (v1 - (x3 - 1)) → Wp L xs xm_Tt_slowest 6 [.ref 200, .int x1, .int x2, .int (x3 + 1), .int v1] [] g1 (QI Q))))))))))) : Wp L xs xm_Tt_slowest 6 [.ref 200, .int x1, .int x2, .int x3, x4] [] f (QI Q) := by
  refine w_iload_n (pc' := 7) rfl rfl rfl ?_
  refine w_aload_n (pc' := 8) rfl rfl rfl ?_
  have q1 : xR0 200 7 = some 234 ∧ xS0 L 234 = (1, 0) := (kf_9_7 (show xS0 L 200 = (9, 0) from rfl))
  refine w_getR (pc' := 11) rfl rfl rfl rfl (show xS0 L 200 = (9, 0) from rfl) q1.1 ?_
  refine w_getI (pc' := 14) rfl rfl rfl rfl rfl q1.2 ?_
  refine w_br2 (pc' := 17) (t := 64) rfl rfl rfl ic_gt (fun hc => ?_) (fun hc => ?_)
  · replace h := h.1 hc
    refine w_iload_n (pc' := 65) rfl rfl rfl ?_
    exact w_ireturn rfl rfl h
  · replace h := h.2 hc
    refine w_iload_n (pc' := 18) rfl rfl rfl ?_
    refine w_bipush (pc' := 20) rfl rfl (v := 10) rfl ?_
    refine w_br2 (pc' := 23) (t := 64) rfl rfl rfl ic_gt (fun hc => ?_) (fun hc => ?_)
    · replace h := h.1 hc
      refine w_iload_n (pc' := 65) rfl rfl rfl ?_
      exact w_ireturn rfl rfl h
    · replace h := h.2 hc
      refine w_aload_n (pc' := 24) rfl rfl rfl ?_
      refine w_iload_n (pc' := 25) rfl rfl rfl ?_
      refine w_cv (pc' := 28) (cm := xm_Tt_doneAt) (as := [.int x3]) (a := 200) (rest := []) rfl rfl rfl  (xa_Tt_doneAt (Nat.le_of_ble_eq_true rfl)) (show xS0 L 200 = (9, 0) from rfl) rfl (CI.k h fun v1 g1 h => ?_)
      show Wp L xs xm_Tt_slowest 28 [.ref 200, .int x1, .int x2, .int x3, x4] [.int v1] g1 _
      refine w_istore (pc' := 30) rfl rfl (xl' := [.ref 200, .int x1, .int x2, .int x3, .int v1]) rfl ?_
      refine w_iload (pc' := 32) rfl rfl rfl ?_
      refine w_ldc (pc' := 34) rfl rfl (v := 1000000) rfl ?_
      refine w_br2 (pc' := 37) (t := 39) rfl rfl rfl ic_ne (fun hc => ?_) (fun hc => ?_)
      · replace h := h.2 hc
        refine w_iload (pc' := 41) rfl rfl rfl ?_
        refine w_iload_n (pc' := 42) rfl rfl rfl ?_
        refine w_iconst (pc' := 43) rfl rfl (v := 1) rfl ?_
        refine w_isub (pc' := 44) rfl rfl ?_
        refine w_isub (pc' := 45) rfl rfl ?_
        refine w_iload_n (pc' := 46) rfl rfl rfl ?_
        refine w_br2 (pc' := 49) (t := 58) rfl rfl rfl ic_le (fun hc => ?_) (fun hc => ?_)
        · replace h := h.2 hc
          refine w_iinc (pc' := 61) rfl rfl rfl (v := (x3 + 1)) rfl (xl' := [.ref 200, .int x1, .int x2, .int (x3 + 1), .int v1]) rfl ?_
          refine w_goto (pc' := 6) rfl rfl ?_
          exact h
        · replace h := h.1 (Classical.not_not.mp hc)
          refine w_iload (pc' := 51) rfl rfl rfl ?_
          refine w_iload_n (pc' := 52) rfl rfl rfl ?_
          refine w_iconst (pc' := 53) rfl rfl (v := 1) rfl ?_
          refine w_isub (pc' := 54) rfl rfl ?_
          refine w_isub (pc' := 55) rfl rfl ?_
          refine w_istore_n (pc' := 56) rfl rfl (xl' := [.ref 200, .int x1, .int (v1 - (x3 - 1)), .int x3, .int v1]) rfl ?_
          refine w_iload_n (pc' := 57) rfl rfl rfl ?_
          refine w_istore_n (pc' := 58) rfl rfl (xl' := [.ref 200, .int x3, .int (v1 - (x3 - 1)), .int x3, .int v1]) rfl ?_
          refine w_iinc (pc' := 61) rfl rfl rfl (v := (x3 + 1)) rfl (xl' := [.ref 200, .int x3, .int (v1 - (x3 - 1)), .int (x3 + 1), .int v1]) rfl ?_
          refine w_goto (pc' := 6) rfl rfl ?_
          exact h
      · replace h := h.1 (Classical.not_not.mp hc)
        refine w_iconst (pc' := 38) rfl rfl (v := (-1)) rfl ?_
        exact w_ireturn rfl rfl h
