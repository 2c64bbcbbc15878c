/-! TREES (printed by wip/whole/gen7.py): what must hold at a label of a method -/
theorem t_Mg_clear_0 {L : Nat} {xs : Nat → Int32} {x0 : Nat} {f : Hp} {Q : Hp → Prop} (qx0 : xS0 L x0 = (3, 0)) (h : ∀ g1, g1 = xu f x0 0 0 → ∀ g2, g2 = xu g1 x0 1 0 → ∀ g3, g3 = xu g2 x0 2 0 → CV L xs xm_ja_fill [.ref (x0 + 1), .int 10] g3 (fun g4 => CV L xs xm_ja_fill [.ref (x0 + 2), .int (-1)] g4 (fun g5 => Q g5))) : CV L xs xm_Mg_clear [.ref x0] f Q := by
  show Wp L xs xm_Mg_clear 0 [.ref x0] [] f (QV Q)
  refine w_aload_n (pc' := 1) rfl rfl rfl ?_
  refine w_iconst (pc' := 2) rfl rfl (v := 0) rfl ?_
  refine w_putB (pc' := 5) rfl rfl rfl rfl qx0 (by decide) ?_
  replace h := h _ rfl
  generalize xu f x0 0 0 = g1 at h ⊢
  refine w_aload_n (pc' := 6) rfl rfl rfl ?_
  refine w_iconst (pc' := 7) rfl rfl (v := 0) rfl ?_
  refine w_putI (pc' := 10) rfl rfl rfl rfl qx0 ?_
  replace h := h _ rfl
  generalize xu g1 x0 1 0 = g2 at h ⊢
  refine w_aload_n (pc' := 11) rfl rfl rfl ?_
  refine w_iconst (pc' := 12) rfl rfl (v := 0) rfl ?_
  refine w_putI (pc' := 15) rfl rfl rfl rfl qx0 ?_
  replace h := h _ rfl
  generalize xu g2 x0 2 0 = g3 at h ⊢
  refine w_aload_n (pc' := 16) rfl rfl rfl ?_
  have q1 : xR0 x0 3 = some (x0 + 1) ∧ xS0 L (x0 + 1) = (20, 13) := (kf_3_3 qx0)
  refine w_getR (pc' := 19) rfl rfl rfl rfl qx0 q1.1 ?_
  refine w_bipush (pc' := 21) rfl rfl (v := 10) rfl ?_
  refine w_cs (pc' := 24) (cm := xm_ja_fill) (as := [.ref (x0 + 1), .int 10]) (rest := []) rfl rfl rfl (Or.inl rfl) (xa_ja_fill (Nat.le_of_ble_eq_true rfl)) (CV.k h fun g4 h => ?_)
  show Wp L xs xm_Mg_clear 24 [.ref x0] [] g4 _
  refine w_aload_n (pc' := 25) rfl rfl rfl ?_
  have q2 : xR0 x0 4 = some (x0 + 2) ∧ xS0 L (x0 + 2) = (20, 13) := (kf_3_4 qx0)
  refine w_getR (pc' := 28) rfl rfl rfl rfl qx0 q2.1 ?_
  refine w_iconst (pc' := 29) rfl rfl (v := (-1)) rfl ?_
  refine w_cs (pc' := 32) (cm := xm_ja_fill) (as := [.ref (x0 + 2), .int (-1)]) (rest := []) rfl rfl rfl (Or.inl rfl) (xa_ja_fill (Nat.le_of_ble_eq_true rfl)) (CV.k h fun g5 h => ?_)
  show Wp L xs xm_Mg_clear 32 [.ref x0] [] g5 _
  exact w_return rfl rfl h
theorem t_Su_rootOf_0 {L : Nat} {xs : Nat → Int32} {x0 : Nat} {x1 : Nat} {nx1 : Nat} {f : Hp} {Q : Int32 → Hp → Prop} (qx0 : xS0 L x0 = (7, 0)) (qx1 : xS0 L x1 = (20, nx1)) (h : CV L xs xm_Su_build [.ref x1, .ref (x0 + 1)] f (fun g1 => Q (g1 (x0 + 1) 1) g1)) : CI L xs xm_Su_rootOf [.ref x0, .ref x1] f Q := by
  show Wp L xs xm_Su_rootOf 0 [.ref x0, .ref x1] [] f (QI Q)
  refine w_aload_n (pc' := 1) rfl rfl rfl ?_
  refine w_aload_n (pc' := 2) rfl rfl rfl ?_
  have q1 : xR0 x0 0 = some (x0 + 1) ∧ xS0 L (x0 + 1) = (20, 16) := (kf_7_0 qx0)
  refine w_getR (pc' := 5) rfl rfl rfl rfl qx0 q1.1 ?_
  refine w_cs (pc' := 8) (cm := xm_Su_build) (as := [.ref x1, .ref (x0 + 1)]) (rest := []) rfl rfl rfl (Or.inl rfl) (xa_Su_build (Nat.le_of_ble_eq_true rfl)) (CV.k h fun g1 h => ?_)
  show Wp L xs xm_Su_rootOf 8 [.ref x0, .ref x1] [] g1 _
  refine w_aload_n (pc' := 9) rfl rfl rfl ?_
  have q2 : xR0 x0 0 = some (x0 + 1) ∧ xS0 L (x0 + 1) = (20, 16) := (kf_7_0 qx0)
  refine w_getR (pc' := 12) rfl rfl rfl rfl qx0 q2.1 ?_
  refine w_iconst (pc' := 13) rfl rfl (v := 1) rfl ?_
  refine w_iaload (pc' := 14) (i := 1) rfl rfl q2.2 rfl (by omega) (by omega) ?_
  exact w_ireturn rfl rfl h
theorem t_Su_build_0 {L : Nat} {xs : Nat → Int32} {x0 : Nat} {nx0 : Nat} {x1 : Nat} {nx1 : Nat} {f : Hp} {Q : Hp → Prop} (qx0 : xS0 L x0 = (20, nx0)) (qx1 : xS0 L x1 = (20, nx1)) (h : Wp L xs xm_Su_build 2 [.ref x0, .ref x1, .int 0] [] f (QV Q)) : CV L xs xm_Su_build [.ref x0, .ref x1] f Q := by
  show Wp L xs xm_Su_build 0 [.ref x0, .ref x1, .retAddr 0] [] f (QV Q)
  refine w_iconst (pc' := 1) rfl rfl (v := 0) rfl ?_
  refine w_istore_n (pc' := 2) rfl rfl (xl' := [.ref x0, .ref x1, .int 0]) rfl ?_
  exact h
theorem t_Su_build_2 {L : Nat} {xs : Nat → Int32} {x0 : Nat} {nx0 : Nat} {x1 : Nat} {nx1 : Nat} {x2 : Int32} {f : Hp} {Q : Hp → Prop} (qx0 : xS0 L x0 = (20, nx0)) (qx1 : xS0 L x1 = (20, nx1)) (h : ((x2 < 8 → ∃ k1 : Nat, x2 = iN k1 ∧ k1 < nx0 ∧ ∃ k2 : Nat, (8 + x2) = iN k2 ∧ k2 < nx1 ∧ ∀ g1, g1 = xu f x1 k2 (f x0 k1) → Wp L xs xm_Su_build 2 [.ref x0, .ref x1, .int (x2 + 1)] [] g1 (QV Q)) ∧ (¬ x2 < 8 → Wp L xs xm_Su_build 26 [.ref x0, .ref x1, .int 7] [] f (QV Q)))) : Wp L xs xm_Su_build 2 [.ref x0, .ref x1, .int x2] [] f (QV Q) := by
  refine w_iload_n (pc' := 3) rfl rfl rfl ?_
  refine w_bipush (pc' := 5) rfl rfl (v := 8) rfl ?_
  refine w_br2 (pc' := 8) (t := 23) rfl rfl rfl ic_ge (fun hc => ?_) (fun hc => ?_)
  · replace h := h.2 hc
    refine w_bipush (pc' := 25) rfl rfl (v := 7) rfl ?_
    refine w_istore_n (pc' := 26) rfl rfl (xl' := [.ref x0, .ref x1, .int 7]) rfl ?_
    exact h
  · replace h := h.1 (Classical.not_not.mp hc)
    refine w_aload_n (pc' := 9) rfl rfl rfl ?_
    refine w_bipush (pc' := 11) rfl rfl (v := 8) rfl ?_
    refine w_iload_n (pc' := 12) rfl rfl rfl ?_
    refine w_iadd (pc' := 13) rfl rfl ?_
    refine w_aload_n (pc' := 14) rfl rfl rfl ?_
    refine w_iload_n (pc' := 15) rfl rfl rfl ?_
    obtain ⟨k1, ek1, bk1, h⟩ := h
    refine w_iaload (pc' := 16) (i := k1) rfl rfl qx0 ek1 bk1 (k_len qx0 rfl) ?_
    obtain ⟨k2, ek2, bk2, h⟩ := h
    refine w_iastore (pc' := 17) (i := k2) rfl rfl qx1 ek2 bk2 (k_len qx1 rfl) ?_
    replace h := h _ rfl
    generalize xu f x1 k2 (f x0 k1) = g1 at h ⊢
    refine w_iinc (pc' := 20) rfl rfl rfl (v := (x2 + 1)) rfl (xl' := [.ref x0, .ref x1, .int (x2 + 1)]) rfl ?_
    refine w_goto (pc' := 2) rfl rfl ?_
    exact h
theorem t_Su_build_26 {L : Nat} {xs : Nat → Int32} {x0 : Nat} {nx0 : Nat} {x1 : Nat} {nx1 : Nat} {x2 : Int32} {f : Hp} {Q : Hp → Prop} (qx0 : xS0 L x0 = (20, nx0)) (qx1 : xS0 L x1 = (20, nx1)) (h : ((x2 < 1 → Q f) ∧ (¬ x2 < 1 → ∃ k1 : Nat, (2 * x2) = iN k1 ∧ k1 < nx1 ∧ ∃ k2 : Nat, ((2 * x2) + 1) = iN k2 ∧ k2 < nx1 ∧ ∃ k3 : Nat, x2 = iN k3 ∧ k3 < nx1 ∧ ∀ g1, g1 = xu f x1 k3 (jrem (((31 * (f x1 k1)) + (17 * (f x1 k2))) + 7) 9973) → Wp L xs xm_Su_build 26 [.ref x0, .ref x1, .int (x2 + (-1))] [] g1 (QV Q)))) : Wp L xs xm_Su_build 26 [.ref x0, .ref x1, .int x2] [] f (QV Q) := by
  refine w_iload_n (pc' := 27) rfl rfl rfl ?_
  refine w_iconst (pc' := 28) rfl rfl (v := 1) rfl ?_
  refine w_br2 (pc' := 31) (t := 66) rfl rfl rfl ic_lt (fun hc => ?_) (fun hc => ?_)
  · replace h := h.1 hc
    exact w_return rfl rfl h
  · replace h := h.2 hc
    refine w_aload_n (pc' := 32) rfl rfl rfl ?_
    refine w_iload_n (pc' := 33) rfl rfl rfl ?_
    refine w_bipush (pc' := 35) rfl rfl (v := 31) rfl ?_
    refine w_aload_n (pc' := 36) rfl rfl rfl ?_
    refine w_iconst (pc' := 37) rfl rfl (v := 2) rfl ?_
    refine w_iload_n (pc' := 38) rfl rfl rfl ?_
    refine w_imul (pc' := 39) rfl rfl ?_
    obtain ⟨k1, ek1, bk1, h⟩ := h
    refine w_iaload (pc' := 40) (i := k1) rfl rfl qx1 ek1 bk1 (k_len qx1 rfl) ?_
    refine w_imul (pc' := 41) rfl rfl ?_
    refine w_bipush (pc' := 43) rfl rfl (v := 17) rfl ?_
    refine w_aload_n (pc' := 44) rfl rfl rfl ?_
    refine w_iconst (pc' := 45) rfl rfl (v := 2) rfl ?_
    refine w_iload_n (pc' := 46) rfl rfl rfl ?_
    refine w_imul (pc' := 47) rfl rfl ?_
    refine w_iconst (pc' := 48) rfl rfl (v := 1) rfl ?_
    refine w_iadd (pc' := 49) rfl rfl ?_
    obtain ⟨k2, ek2, bk2, h⟩ := h
    refine w_iaload (pc' := 50) (i := k2) rfl rfl qx1 ek2 bk2 (k_len qx1 rfl) ?_
    refine w_imul (pc' := 51) rfl rfl ?_
    refine w_iadd (pc' := 52) rfl rfl ?_
    refine w_bipush (pc' := 54) rfl rfl (v := 7) rfl ?_
    refine w_iadd (pc' := 55) rfl rfl ?_
    refine w_sipush (pc' := 58) rfl rfl (v := 9973) rfl ?_
    refine w_irem (pc' := 59) rfl rfl (by decide) ?_
    obtain ⟨k3, ek3, bk3, h⟩ := h
    refine w_iastore (pc' := 60) (i := k3) rfl rfl qx1 ek3 bk3 (k_len qx1 rfl) ?_
    replace h := h _ rfl
    generalize xu f x1 k3 (jrem (((31 * (f x1 k1)) + (17 * (f x1 k2))) + 7) 9973) = g1 at h ⊢
    refine w_iinc (pc' := 63) rfl rfl rfl (v := (x2 + (-1))) rfl (xl' := [.ref x0, .ref x1, .int (x2 + (-1))]) rfl ?_
    refine w_goto (pc' := 26) rfl rfl ?_
    exact h
theorem t_Mg_add_0 {L : Nat} {xs : Nat → Int32} {x0 : Nat} {x1 : Nat} {f : Hp} {Q : Hp → Prop} (qx0 : xS0 L x0 = (3, 0)) (qx1 : xS0 L x1 = (2, 0)) (h : ∀ g1, g1 = xu f x0 1 (imax (f x0 1) (f x1 2)) → ∀ g2, g2 = xu g1 x0 2 (imax (g1 x0 2) (g1 x0 1)) → Wp L xs xm_Mg_add 32 [.ref x0, .ref x1, .int 1, .retAddr 0, .retAddr 0] [] g2 (QV Q)) : CV L xs xm_Mg_add [.ref x0, .ref x1] f Q := by
  show Wp L xs xm_Mg_add 0 [.ref x0, .ref x1, .retAddr 0, .retAddr 0, .retAddr 0] [] f (QV Q)
  refine w_aload_n (pc' := 1) rfl rfl rfl ?_
  refine w_aload_n (pc' := 2) rfl rfl rfl ?_
  refine w_getI (pc' := 5) rfl rfl rfl rfl rfl qx0 ?_
  refine w_aload_n (pc' := 6) rfl rfl rfl ?_
  refine w_getI (pc' := 9) rfl rfl rfl rfl rfl qx1 ?_
  refine w_max (pc' := 12) rfl rfl rfl (Nat.le_of_ble_eq_true rfl) ?_
  refine w_putI (pc' := 15) rfl rfl rfl rfl qx0 ?_
  replace h := h _ rfl
  generalize xu f x0 1 (imax (f x0 1) (f x1 2)) = g1 at h ⊢
  refine w_aload_n (pc' := 16) rfl rfl rfl ?_
  refine w_aload_n (pc' := 17) rfl rfl rfl ?_
  refine w_getI (pc' := 20) rfl rfl rfl rfl rfl qx0 ?_
  refine w_aload_n (pc' := 21) rfl rfl rfl ?_
  refine w_getI (pc' := 24) rfl rfl rfl rfl rfl qx0 ?_
  refine w_max (pc' := 27) rfl rfl rfl (Nat.le_of_ble_eq_true rfl) ?_
  refine w_putI (pc' := 30) rfl rfl rfl rfl qx0 ?_
  replace h := h _ rfl
  generalize xu g1 x0 2 (imax (g1 x0 2) (g1 x0 1)) = g2 at h ⊢
  refine w_iconst (pc' := 31) rfl rfl (v := 1) rfl ?_
  refine w_istore_n (pc' := 32) rfl rfl (xl' := [.ref x0, .ref x1, .int 1, .retAddr 0, .retAddr 0]) rfl ?_
  exact h
theorem t_Mg_add_32 {L : Nat} {xs : Nat → Int32} {x0 : Nat} {x1 : Nat} {x2 : Int32} {x3 : Value} {x4 : Value} {f : Hp} {Q : Hp → Prop} (qx0 : xS0 L x0 = (3, 0)) (qx1 : xS0 L x1 = (2, 0)) (cx3 : (x3.category != 2) = true) (cx4 : (x4.category != 2) = true) (h : ((12 < x2 → Q f) ∧ (¬ 12 < x2 → ∃ k1 : Nat, x2 = iN k1 ∧ k1 < 13 ∧ (((f (x1 + 6) k1) = (-1) → Wp L xs xm_Mg_add 32 [.ref x0, .ref x1, .int (x2 + 1), .int (f (x1 + 6) k1), .int (f (x1 + 7) k1)] [] f (QV Q)) ∧ (¬ (f (x1 + 6) k1) = (-1) → ∀ g1, g1 = xu f x0 2 (imax (f x0 2) x2) → (((g1 (x0 + 2) k1) < (f (x1 + 6) k1) → Wp L xs xm_Mg_add 104 [.ref x0, .ref x1, .int x2, .int (f (x1 + 6) k1), .int (f (x1 + 7) k1)] [] g1 (QV Q)) ∧ (¬ (g1 (x0 + 2) k1) < (f (x1 + 6) k1) → (((f (x1 + 6) k1) = (g1 (x0 + 2) k1) → (((f (x1 + 7) k1) < (g1 (x0 + 1) k1) → Wp L xs xm_Mg_add 104 [.ref x0, .ref x1, .int x2, .int (f (x1 + 6) k1), .int (f (x1 + 7) k1)] [] g1 (QV Q)) ∧ (¬ (f (x1 + 7) k1) < (g1 (x0 + 1) k1) → Wp L xs xm_Mg_add 32 [.ref x0, .ref x1, .int (x2 + 1), .int (f (x1 + 6) k1), .int (f (x1 + 7) k1)] [] g1 (QV Q)))) ∧ (¬ (f (x1 + 6) k1) = (g1 (x0 + 2) k1) → Wp L xs xm_Mg_add 32 [.ref x0, .ref x1, .int (x2 + 1), .int (f (x1 + 6) k1), .int (f (x1 + 7) k1)] [] g1 (QV Q)))))))))) : Wp L xs xm_Mg_add 32 [.ref x0, .ref x1, .int x2, x3, x4] [] f (QV Q) := by
  refine w_iload_n (pc' := 33) rfl rfl rfl ?_
  refine w_bipush (pc' := 35) rfl rfl (v := 12) rfl ?_
  refine w_br2 (pc' := 38) (t := 125) rfl rfl rfl ic_gt (fun hc => ?_) (fun hc => ?_)
  · replace h := h.1 hc
    exact w_return rfl rfl h
  · replace h := h.2 hc
    refine w_aload_n (pc' := 39) rfl rfl rfl ?_
    have q1 : xR0 x1 13 = some (x1 + 6) ∧ xS0 L (x1 + 6) = (20, 13) := (kf_2_13 qx1)
    refine w_getR (pc' := 42) rfl rfl rfl rfl qx1 q1.1 ?_
    refine w_iload_n (pc' := 43) rfl rfl rfl ?_
    obtain ⟨k1, ek1, bk1, h⟩ := h
    refine w_iaload (pc' := 44) (i := k1) rfl rfl q1.2 ek1 bk1 (by omega) ?_
    refine w_istore_n (pc' := 45) rfl rfl (xl' := [.ref x0, .ref x1, .int x2, .int (f (x1 + 6) k1), x4]) rfl ?_
    refine w_aload_n (pc' := 46) rfl rfl rfl ?_
    have q2 : xR0 x1 14 = some (x1 + 7) ∧ xS0 L (x1 + 7) = (20, 13) := (kf_2_14 qx1)
    refine w_getR (pc' := 49) rfl rfl rfl rfl qx1 q2.1 ?_
    refine w_iload_n (pc' := 50) rfl rfl rfl ?_
    refine w_iaload (pc' := 51) (i := k1) rfl rfl q2.2 ek1 bk1 (by omega) ?_
    refine w_istore (pc' := 53) rfl rfl (xl' := [.ref x0, .ref x1, .int x2, .int (f (x1 + 6) k1), .int (f (x1 + 7) k1)]) rfl ?_
    refine w_iload_n (pc' := 54) rfl rfl rfl ?_
    refine w_iconst (pc' := 55) rfl rfl (v := (-1)) rfl ?_
    refine w_br2 (pc' := 58) (t := 61) rfl rfl rfl ic_ne (fun hc => ?_) (fun hc => ?_)
    · replace h := h.2 hc
      refine w_aload_n (pc' := 62) rfl rfl rfl ?_
      refine w_aload_n (pc' := 63) rfl rfl rfl ?_
      refine w_getI (pc' := 66) rfl rfl rfl rfl rfl qx0 ?_
      refine w_iload_n (pc' := 67) rfl rfl rfl ?_
      refine w_max (pc' := 70) rfl rfl rfl (Nat.le_of_ble_eq_true rfl) ?_
      refine w_putI (pc' := 73) rfl rfl rfl rfl qx0 ?_
      replace h := h _ rfl
      generalize xu f x0 2 (imax (f x0 2) x2) = g1 at h ⊢
      refine w_iload_n (pc' := 74) rfl rfl rfl ?_
      refine w_aload_n (pc' := 75) rfl rfl rfl ?_
      have q3 : xR0 x0 4 = some (x0 + 2) ∧ xS0 L (x0 + 2) = (20, 13) := (kf_3_4 qx0)
      refine w_getR (pc' := 78) rfl rfl rfl rfl qx0 q3.1 ?_
      refine w_iload_n (pc' := 79) rfl rfl rfl ?_
      refine w_iaload (pc' := 80) (i := k1) rfl rfl q3.2 ek1 bk1 (by omega) ?_
      refine w_br2 (pc' := 83) (t := 104) rfl rfl rfl ic_gt (fun hc => ?_) (fun hc => ?_)
      · replace h := h.1 hc
        exact h
      · replace h := h.2 hc
        refine w_iload_n (pc' := 84) rfl rfl rfl ?_
        refine w_aload_n (pc' := 85) rfl rfl rfl ?_
        have q4 : xR0 x0 4 = some (x0 + 2) ∧ xS0 L (x0 + 2) = (20, 13) := (kf_3_4 qx0)
        refine w_getR (pc' := 88) rfl rfl rfl rfl qx0 q4.1 ?_
        refine w_iload_n (pc' := 89) rfl rfl rfl ?_
        refine w_iaload (pc' := 90) (i := k1) rfl rfl q4.2 ek1 bk1 (by omega) ?_
        refine w_br2 (pc' := 93) (t := 119) rfl rfl rfl ic_ne (fun hc => ?_) (fun hc => ?_)
        · replace h := h.2 hc
          refine w_iinc (pc' := 122) rfl rfl rfl (v := (x2 + 1)) rfl (xl' := [.ref x0, .ref x1, .int (x2 + 1), .int (f (x1 + 6) k1), .int (f (x1 + 7) k1)]) rfl ?_
          refine w_goto (pc' := 32) rfl rfl ?_
          exact h
        · replace h := h.1 (Classical.not_not.mp hc)
          refine w_iload (pc' := 95) rfl rfl rfl ?_
          refine w_aload_n (pc' := 96) rfl rfl rfl ?_
          have q5 : xR0 x0 3 = some (x0 + 1) ∧ xS0 L (x0 + 1) = (20, 13) := (kf_3_3 qx0)
          refine w_getR (pc' := 99) rfl rfl rfl rfl qx0 q5.1 ?_
          refine w_iload_n (pc' := 100) rfl rfl rfl ?_
          refine w_iaload (pc' := 101) (i := k1) rfl rfl q5.2 ek1 bk1 (by omega) ?_
          refine w_br2 (pc' := 104) (t := 119) rfl rfl rfl ic_ge (fun hc => ?_) (fun hc => ?_)
          · replace h := h.2 hc
            refine w_iinc (pc' := 122) rfl rfl rfl (v := (x2 + 1)) rfl (xl' := [.ref x0, .ref x1, .int (x2 + 1), .int (f (x1 + 6) k1), .int (f (x1 + 7) k1)]) rfl ?_
            refine w_goto (pc' := 32) rfl rfl ?_
            exact h
          · replace h := h.1 (Classical.not_not.mp hc)
            exact h
    · replace h := h.1 (Classical.not_not.mp hc)
      refine w_goto (pc' := 119) rfl rfl ?_
      refine w_iinc (pc' := 122) rfl rfl rfl (v := (x2 + 1)) rfl (xl' := [.ref x0, .ref x1, .int (x2 + 1), .int (f (x1 + 6) k1), .int (f (x1 + 7) k1)]) rfl ?_
      refine w_goto (pc' := 32) rfl rfl ?_
      exact h
theorem t_Mg_add_104 {L : Nat} {xs : Nat → Int32} {x0 : Nat} {x1 : Nat} {x2 : Int32} {x3 : Int32} {x4 : Int32} {f : Hp} {Q : Hp → Prop} (qx0 : xS0 L x0 = (3, 0)) (qx1 : xS0 L x1 = (2, 0)) (h : ∃ k1 : Nat, x2 = iN k1 ∧ k1 < 13 ∧ ∀ g1, g1 = xu f (x0 + 2) k1 x3 → ∀ g2, g2 = xu g1 (x0 + 1) k1 x4 → Wp L xs xm_Mg_add 32 [.ref x0, .ref x1, .int (x2 + 1), .int x3, .int x4] [] g2 (QV Q)) : Wp L xs xm_Mg_add 104 [.ref x0, .ref x1, .int x2, .int x3, .int x4] [] f (QV Q) := by
  refine w_aload_n (pc' := 105) rfl rfl rfl ?_
  have q1 : xR0 x0 4 = some (x0 + 2) ∧ xS0 L (x0 + 2) = (20, 13) := (kf_3_4 qx0)
  refine w_getR (pc' := 108) rfl rfl rfl rfl qx0 q1.1 ?_
  refine w_iload_n (pc' := 109) rfl rfl rfl ?_
  refine w_iload_n (pc' := 110) rfl rfl rfl ?_
  obtain ⟨k1, ek1, bk1, h⟩ := h
  refine w_iastore (pc' := 111) (i := k1) rfl rfl q1.2 ek1 bk1 (by omega) ?_
  replace h := h _ rfl
  generalize xu f (x0 + 2) k1 x3 = g1 at h ⊢
  refine w_aload_n (pc' := 112) rfl rfl rfl ?_
  have q2 : xR0 x0 3 = some (x0 + 1) ∧ xS0 L (x0 + 1) = (20, 13) := (kf_3_3 qx0)
  refine w_getR (pc' := 115) rfl rfl rfl rfl qx0 q2.1 ?_
  refine w_iload_n (pc' := 116) rfl rfl rfl ?_
  refine w_iload (pc' := 118) rfl rfl rfl ?_
  refine w_iastore (pc' := 119) (i := k1) rfl rfl q2.2 ek1 bk1 (by omega) ?_
  replace h := h _ rfl
  generalize xu g1 (x0 + 1) k1 x4 = g2 at h ⊢
  refine w_iinc (pc' := 122) rfl rfl rfl (v := (x2 + 1)) rfl (xl' := [.ref x0, .ref x1, .int (x2 + 1), .int x3, .int x4]) rfl ?_
  refine w_goto (pc' := 32) rfl rfl ?_
  exact h
theorem t_Su_fetch_0 {L : Nat} {xs : Nat → Int32} {x0 : Nat} {x1 : Nat} {nx1 : Nat} {x2 : Nat} {nx2 : Nat} {f : Hp} {Q : Hp → Prop} (qx0 : xS0 L x0 = (7, 0)) (qx1 : xS0 L x1 = (20, nx1)) (qx2 : xS0 L x2 = (20, nx2)) (h : CV L xs xm_Su_build [.ref x1, .ref (x0 + 1)] f (fun g1 => CV L xs xm_Su_build [.ref x2, .ref (x0 + 2)] g1 (fun g2 => ∀ g3, g3 = xu g2 x0 2 0 → ∀ g4, g4 = xu g3 x0 3 0 → Wp L xs xm_Su_fetch 31 [.ref x0, .ref x1, .ref x2, .int 2, .int 1] [] g4 (QV Q)))) : CV L xs xm_Su_fetch [.ref x0, .ref x1, .ref x2] f Q := by
  show Wp L xs xm_Su_fetch 0 [.ref x0, .ref x1, .ref x2, .retAddr 0, .retAddr 0] [] f (QV Q)
  refine w_aload_n (pc' := 1) rfl rfl rfl ?_
  refine w_aload_n (pc' := 2) rfl rfl rfl ?_
  have q1 : xR0 x0 0 = some (x0 + 1) ∧ xS0 L (x0 + 1) = (20, 16) := (kf_7_0 qx0)
  refine w_getR (pc' := 5) rfl rfl rfl rfl qx0 q1.1 ?_
  refine w_cs (pc' := 8) (cm := xm_Su_build) (as := [.ref x1, .ref (x0 + 1)]) (rest := []) rfl rfl rfl (Or.inl rfl) (xa_Su_build (Nat.le_of_ble_eq_true rfl)) (CV.k h fun g1 h => ?_)
  show Wp L xs xm_Su_fetch 8 [.ref x0, .ref x1, .ref x2, .retAddr 0, .retAddr 0] [] g1 _
  refine w_aload_n (pc' := 9) rfl rfl rfl ?_
  refine w_aload_n (pc' := 10) rfl rfl rfl ?_
  have q2 : xR0 x0 1 = some (x0 + 2) ∧ xS0 L (x0 + 2) = (20, 16) := (kf_7_1 qx0)
  refine w_getR (pc' := 13) rfl rfl rfl rfl qx0 q2.1 ?_
  refine w_cs (pc' := 16) (cm := xm_Su_build) (as := [.ref x2, .ref (x0 + 2)]) (rest := []) rfl rfl rfl (Or.inl rfl) (xa_Su_build (Nat.le_of_ble_eq_true rfl)) (CV.k h fun g2 h => ?_)
  show Wp L xs xm_Su_fetch 16 [.ref x0, .ref x1, .ref x2, .retAddr 0, .retAddr 0] [] g2 _
  refine w_aload_n (pc' := 17) rfl rfl rfl ?_
  refine w_iconst (pc' := 18) rfl rfl (v := 0) rfl ?_
  refine w_putI (pc' := 21) rfl rfl rfl rfl qx0 ?_
  replace h := h _ rfl
  generalize xu g2 x0 2 0 = g3 at h ⊢
  refine w_aload_n (pc' := 22) rfl rfl rfl ?_
  refine w_iconst (pc' := 23) rfl rfl (v := 0) rfl ?_
  refine w_putI (pc' := 26) rfl rfl rfl rfl qx0 ?_
  replace h := h _ rfl
  generalize xu g3 x0 3 0 = g4 at h ⊢
  refine w_iconst (pc' := 27) rfl rfl (v := 2) rfl ?_
  refine w_istore_n (pc' := 28) rfl rfl (xl' := [.ref x0, .ref x1, .ref x2, .int 2, .retAddr 0]) rfl ?_
  refine w_iconst (pc' := 29) rfl rfl (v := 1) rfl ?_
  refine w_istore (pc' := 31) rfl rfl (xl' := [.ref x0, .ref x1, .ref x2, .int 2, .int 1]) rfl ?_
  exact h
theorem t_Su_fetch_31 {L : Nat} {xs : Nat → Int32} {x0 : Nat} {x1 : Nat} {nx1 : Nat} {x2 : Nat} {nx2 : Nat} {x3 : Int32} {x4 : Int32} {f : Hp} {Q : Hp → Prop} (qx0 : xS0 L x0 = (7, 0)) (qx1 : xS0 L x1 = (20, nx1)) (qx2 : xS0 L x2 = (20, nx2)) (h : ((x4 < 16 → CI L xs xm_TP_hasBit [.int x3, .int x4] f (fun v1 g1 => ((v1 = 0 → Wp L xs xm_Su_fetch 31 [.ref x0, .ref x1, .ref x2, .int x3, .int (x4 + 1)] [] g1 (QV Q)) ∧ (¬ v1 = 0 → ∀ g2, g2 = xu g1 x0 2 ((g1 x0 2) + 1) → ∃ k1 : Nat, x4 = iN k1 ∧ k1 < 16 ∧ (((g2 (x0 + 1) k1) = (g2 (x0 + 2) k1) → Wp L xs xm_Su_fetch 31 [.ref x0, .ref x1, .ref x2, .int x3, .int (x4 + 1)] [] g2 (QV Q)) ∧ (¬ (g2 (x0 + 1) k1) = (g2 (x0 + 2) k1) → ((x4 < 8 → Wp L xs xm_Su_fetch 31 [.ref x0, .ref x1, .ref x2, .int (x3 ||| (3 <<< ((2 * x4) &&& 31))), .int (x4 + 1)] [] g2 (QV Q)) ∧ (¬ x4 < 8 → ∀ g3, g3 = xu g2 x0 3 ((g2 x0 3) ||| (1 <<< ((x4 - 8) &&& 31))) → ∃ k2 : Nat, (x4 - 8) = iN k2 ∧ k2 < nx2 ∧ k2 < nx1 ∧ ∀ g4, g4 = xu g3 x1 k2 (g3 x2 k2) → Wp L xs xm_Su_fetch 31 [.ref x0, .ref x1, .ref x2, .int x3, .int (x4 + 1)] [] g4 (QV Q))))))))) ∧ (¬ x4 < 16 → Q f))) : Wp L xs xm_Su_fetch 31 [.ref x0, .ref x1, .ref x2, .int x3, .int x4] [] f (QV Q) := by
  refine w_iload (pc' := 33) rfl rfl rfl ?_
  refine w_bipush (pc' := 35) rfl rfl (v := 16) rfl ?_
  refine w_br2 (pc' := 38) (t := 135) rfl rfl rfl ic_ge (fun hc => ?_) (fun hc => ?_)
  · replace h := h.2 hc
    exact w_return rfl rfl h
  · replace h := h.1 (Classical.not_not.mp hc)
    refine w_iload_n (pc' := 39) rfl rfl rfl ?_
    refine w_iload (pc' := 41) rfl rfl rfl ?_
    refine w_cs (pc' := 44) (cm := xm_TP_hasBit) (as := [.int x3, .int x4]) (rest := []) rfl rfl rfl (Or.inr rfl) (xa_TP_hasBit (Nat.le_of_ble_eq_true rfl)) (CI.k h fun v1 g1 h => ?_)
    show Wp L xs xm_Su_fetch 44 [.ref x0, .ref x1, .ref x2, .int x3, .int x4] [.int v1] g1 _
    refine w_br (pc' := 47) (t := 50) rfl rfl rfl ic_ne (fun hc => ?_) (fun hc => ?_)
    · replace h := h.2 hc
      refine w_aload_n (pc' := 51) rfl rfl rfl ?_
      refine w_dupA (pc' := 52) rfl rfl ?_
      refine w_getI (pc' := 55) rfl rfl rfl rfl rfl qx0 ?_
      refine w_iconst (pc' := 56) rfl rfl (v := 1) rfl ?_
      refine w_iadd (pc' := 57) rfl rfl ?_
      refine w_putI (pc' := 60) rfl rfl rfl rfl qx0 ?_
      replace h := h _ rfl
      generalize xu g1 x0 2 ((g1 x0 2) + 1) = g2 at h ⊢
      refine w_aload_n (pc' := 61) rfl rfl rfl ?_
      have q1 : xR0 x0 0 = some (x0 + 1) ∧ xS0 L (x0 + 1) = (20, 16) := (kf_7_0 qx0)
      refine w_getR (pc' := 64) rfl rfl rfl rfl qx0 q1.1 ?_
      refine w_iload (pc' := 66) rfl rfl rfl ?_
      obtain ⟨k1, ek1, bk1, h⟩ := h
      refine w_iaload (pc' := 67) (i := k1) rfl rfl q1.2 ek1 bk1 (by omega) ?_
      refine w_aload_n (pc' := 68) rfl rfl rfl ?_
      have q2 : xR0 x0 1 = some (x0 + 2) ∧ xS0 L (x0 + 2) = (20, 16) := (kf_7_1 qx0)
      refine w_getR (pc' := 71) rfl rfl rfl rfl qx0 q2.1 ?_
      refine w_iload (pc' := 73) rfl rfl rfl ?_
      refine w_iaload (pc' := 74) (i := k1) rfl rfl q2.2 ek1 bk1 (by omega) ?_
      refine w_br2 (pc' := 77) (t := 80) rfl rfl rfl ic_ne (fun hc => ?_) (fun hc => ?_)
      · replace h := h.2 hc
        refine w_iload (pc' := 82) rfl rfl rfl ?_
        refine w_bipush (pc' := 84) rfl rfl (v := 8) rfl ?_
        refine w_br2 (pc' := 87) (t := 99) rfl rfl rfl ic_ge (fun hc => ?_) (fun hc => ?_)
        · replace h := h.2 hc
          refine w_aload_n (pc' := 100) rfl rfl rfl ?_
          refine w_dupA (pc' := 101) rfl rfl ?_
          refine w_getI (pc' := 104) rfl rfl rfl rfl rfl qx0 ?_
          refine w_iconst (pc' := 105) rfl rfl (v := 1) rfl ?_
          refine w_iload (pc' := 107) rfl rfl rfl ?_
          refine w_bipush (pc' := 109) rfl rfl (v := 8) rfl ?_
          refine w_isub (pc' := 110) rfl rfl ?_
          refine w_ishl (pc' := 111) rfl rfl ?_
          refine w_ior (pc' := 112) rfl rfl ?_
          refine w_putI (pc' := 115) rfl rfl rfl rfl qx0 ?_
          replace h := h _ rfl
          generalize xu g2 x0 3 ((g2 x0 3) ||| (1 <<< ((x4 - 8) &&& 31))) = g3 at h ⊢
          refine w_aload_n (pc' := 116) rfl rfl rfl ?_
          refine w_iload (pc' := 118) rfl rfl rfl ?_
          refine w_bipush (pc' := 120) rfl rfl (v := 8) rfl ?_
          refine w_isub (pc' := 121) rfl rfl ?_
          refine w_aload_n (pc' := 122) rfl rfl rfl ?_
          refine w_iload (pc' := 124) rfl rfl rfl ?_
          refine w_bipush (pc' := 126) rfl rfl (v := 8) rfl ?_
          refine w_isub (pc' := 127) rfl rfl ?_
          obtain ⟨k2, ek2, bk2, h⟩ := h
          refine w_iaload (pc' := 128) (i := k2) rfl rfl qx2 ek2 bk2 (k_len qx2 rfl) ?_
          obtain ⟨q3, h⟩ := h
          refine w_iastore (pc' := 129) (i := k2) rfl rfl qx1 ek2 q3 (k_len qx1 rfl) ?_
          replace h := h _ rfl
          generalize xu g3 x1 k2 (g3 x2 k2) = g4 at h ⊢
          refine w_iinc (pc' := 132) rfl rfl rfl (v := (x4 + 1)) rfl (xl' := [.ref x0, .ref x1, .ref x2, .int x3, .int (x4 + 1)]) rfl ?_
          refine w_goto (pc' := 31) rfl rfl ?_
          exact h
        · replace h := h.1 (Classical.not_not.mp hc)
          refine w_iload_n (pc' := 88) rfl rfl rfl ?_
          refine w_iconst (pc' := 89) rfl rfl (v := 3) rfl ?_
          refine w_iconst (pc' := 90) rfl rfl (v := 2) rfl ?_
          refine w_iload (pc' := 92) rfl rfl rfl ?_
          refine w_imul (pc' := 93) rfl rfl ?_
          refine w_ishl (pc' := 94) rfl rfl ?_
          refine w_ior (pc' := 95) rfl rfl ?_
          refine w_istore_n (pc' := 96) rfl rfl (xl' := [.ref x0, .ref x1, .ref x2, .int (x3 ||| (3 <<< ((2 * x4) &&& 31))), .int x4]) rfl ?_
          refine w_goto (pc' := 129) rfl rfl ?_
          refine w_iinc (pc' := 132) rfl rfl rfl (v := (x4 + 1)) rfl (xl' := [.ref x0, .ref x1, .ref x2, .int (x3 ||| (3 <<< ((2 * x4) &&& 31))), .int (x4 + 1)]) rfl ?_
          refine w_goto (pc' := 31) rfl rfl ?_
          exact h
      · replace h := h.1 (Classical.not_not.mp hc)
        refine w_goto (pc' := 129) rfl rfl ?_
        refine w_iinc (pc' := 132) rfl rfl rfl (v := (x4 + 1)) rfl (xl' := [.ref x0, .ref x1, .ref x2, .int x3, .int (x4 + 1)]) rfl ?_
        refine w_goto (pc' := 31) rfl rfl ?_
        exact h
    · replace h := h.1 (Classical.not_not.mp hc)
      refine w_goto (pc' := 129) rfl rfl ?_
      refine w_iinc (pc' := 132) rfl rfl rfl (v := (x4 + 1)) rfl (xl' := [.ref x0, .ref x1, .ref x2, .int x3, .int (x4 + 1)]) rfl ?_
      refine w_goto (pc' := 31) rfl rfl ?_
      exact h
theorem t_Mg_isPlaceOf_0 {L : Nat} {xs : Nat → Int32} {x0 : Int32} {f : Hp} {Q : Int32 → Hp → Prop}  (h : ((10 < x0 → ((22 < x0 → Q 0 f) ∧ (¬ 22 < x0 → Q 1 f))) ∧ (¬ 10 < x0 → Q 0 f))) : CI L xs xm_Mg_isPlaceOf [.int x0] f Q := by
  show Wp L xs xm_Mg_isPlaceOf 0 [.int x0] [] f (QI Q)
  refine w_iload_n (pc' := 1) rfl rfl rfl ?_
  refine w_bipush (pc' := 3) rfl rfl (v := 10) rfl ?_
  refine w_br2 (pc' := 6) (t := 16) rfl rfl rfl ic_le (fun hc => ?_) (fun hc => ?_)
  · replace h := h.2 hc
    refine w_iconst (pc' := 17) rfl rfl (v := 0) rfl ?_
    exact w_ireturn rfl rfl h
  · replace h := h.1 (Classical.not_not.mp hc)
    refine w_iload_n (pc' := 7) rfl rfl rfl ?_
    refine w_bipush (pc' := 9) rfl rfl (v := 22) rfl ?_
    refine w_br2 (pc' := 12) (t := 16) rfl rfl rfl ic_gt (fun hc => ?_) (fun hc => ?_)
    · replace h := h.1 hc
      refine w_iconst (pc' := 17) rfl rfl (v := 0) rfl ?_
      exact w_ireturn rfl rfl h
    · replace h := h.2 hc
      refine w_iconst (pc' := 13) rfl rfl (v := 1) rfl ?_
      refine w_goto (pc' := 17) rfl rfl ?_
      exact w_ireturn rfl rfl h
theorem t_Mg_tell_0 {L : Nat} {xs : Nat → Int32} {x0 : Nat} {x1 : Int32} {f : Hp} {Q : Int32 → Hp → Prop} (qx0 : xS0 L x0 = (3, 0)) (h : ((x1 = 0 → Q (f x0 1) f) ∧ (¬ x1 = 0 → ((x1 = 1 → Q (f x0 2) f) ∧ (¬ x1 = 1 → CI L xs xm_Mg_isPlaceOf [.int x1] f (fun v1 g1 => ((v1 = 0 → Q (-2) g1) ∧ (¬ v1 = 0 → CI L xs xm_Mg_orderAt [.ref x0, .int (x1 - 10)] g1 (fun v2 g2 => Q v2 g2))))))))) : CI L xs xm_Mg_tell [.ref x0, .int x1] f Q := by
  show Wp L xs xm_Mg_tell 0 [.ref x0, .int x1] [] f (QI Q)
  refine w_iload_n (pc' := 1) rfl rfl rfl ?_
  refine w_br (pc' := 4) (t := 9) rfl rfl rfl ic_ne (fun hc => ?_) (fun hc => ?_)
  · replace h := h.2 hc
    refine w_iload_n (pc' := 10) rfl rfl rfl ?_
    refine w_iconst (pc' := 11) rfl rfl (v := 1) rfl ?_
    refine w_br2 (pc' := 14) (t := 19) rfl rfl rfl ic_ne (fun hc => ?_) (fun hc => ?_)
    · replace h := h.2 hc
      refine w_iload_n (pc' := 20) rfl rfl rfl ?_
      refine w_cs (pc' := 23) (cm := xm_Mg_isPlaceOf) (as := [.int x1]) (rest := []) rfl rfl rfl (Or.inl rfl) (xa_Mg_isPlaceOf (Nat.le_of_ble_eq_true rfl)) (CI.k h fun v1 g1 h => ?_)
      show Wp L xs xm_Mg_tell 23 [.ref x0, .int x1] [.int v1] g1 _
      refine w_br (pc' := 26) (t := 37) rfl rfl rfl ic_eq (fun hc => ?_) (fun hc => ?_)
      · replace h := h.1 hc
        refine w_bipush (pc' := 39) rfl rfl (v := (-2)) rfl ?_
        exact w_ireturn rfl rfl h
      · replace h := h.2 hc
        refine w_aload_n (pc' := 27) rfl rfl rfl ?_
        refine w_iload_n (pc' := 28) rfl rfl rfl ?_
        refine w_bipush (pc' := 30) rfl rfl (v := 10) rfl ?_
        refine w_isub (pc' := 31) rfl rfl ?_
        refine w_cv (pc' := 34) (cm := xm_Mg_orderAt) (as := [.int (x1 - 10)]) (a := x0) (rest := []) rfl rfl rfl  (xa_Mg_orderAt (Nat.le_of_ble_eq_true rfl)) qx0 rfl (CI.k h fun v2 g2 h => ?_)
        show Wp L xs xm_Mg_tell 34 [.ref x0, .int x1] [.int v2] g2 _
        refine w_goto (pc' := 39) rfl rfl ?_
        exact w_ireturn rfl rfl h
    · replace h := h.1 (Classical.not_not.mp hc)
      refine w_aload_n (pc' := 15) rfl rfl rfl ?_
      refine w_getI (pc' := 18) rfl rfl rfl rfl rfl qx0 ?_
      exact w_ireturn rfl rfl h
  · replace h := h.1 (Classical.not_not.mp hc)
    refine w_aload_n (pc' := 5) rfl rfl rfl ?_
    refine w_getI (pc' := 8) rfl rfl rfl rfl rfl qx0 ?_
    exact w_ireturn rfl rfl h
theorem t_Mg_orderAt_0 {L : Nat} {xs : Nat → Int32} {x0 : Nat} {x1 : Int32} {f : Hp} {Q : Int32 → Hp → Prop} (qx0 : xS0 L x0 = (3, 0)) (h : CI L xs xm_TP_isPlace [.int x1] f (fun v1 g1 => ((v1 = 0 → Q (-1) g1) ∧ (¬ v1 = 0 → (((g1 x0 1) < x1 → (((g1 x0 2) < x1 → Q (-1) g1) ∧ (¬ (g1 x0 2) < x1 → ∃ k1 : Nat, x1 = iN k1 ∧ k1 < 13 ∧ Q (g1 (x0 + 1) k1) g1))) ∧ (¬ (g1 x0 1) < x1 → Q (-1) g1)))))) : CI L xs xm_Mg_orderAt [.ref x0, .int x1] f Q := by
  show Wp L xs xm_Mg_orderAt 0 [.ref x0, .int x1] [] f (QI Q)
  refine w_iload_n (pc' := 1) rfl rfl rfl ?_
  refine w_cs (pc' := 4) (cm := xm_TP_isPlace) (as := [.int x1]) (rest := []) rfl rfl rfl (Or.inr rfl) (xa_TP_isPlace (Nat.le_of_ble_eq_true rfl)) (CI.k h fun v1 g1 h => ?_)
  show Wp L xs xm_Mg_orderAt 4 [.ref x0, .int x1] [.int v1] g1 _
  refine w_br (pc' := 7) (t := 32) rfl rfl rfl ic_eq (fun hc => ?_) (fun hc => ?_)
  · replace h := h.1 hc
    refine w_iconst (pc' := 33) rfl rfl (v := (-1)) rfl ?_
    exact w_ireturn rfl rfl h
  · replace h := h.2 hc
    refine w_iload_n (pc' := 8) rfl rfl rfl ?_
    refine w_aload_n (pc' := 9) rfl rfl rfl ?_
    refine w_getI (pc' := 12) rfl rfl rfl rfl rfl qx0 ?_
    refine w_br2 (pc' := 15) (t := 32) rfl rfl rfl ic_le (fun hc => ?_) (fun hc => ?_)
    · replace h := h.2 hc
      refine w_iconst (pc' := 33) rfl rfl (v := (-1)) rfl ?_
      exact w_ireturn rfl rfl h
    · replace h := h.1 (Classical.not_not.mp hc)
      refine w_iload_n (pc' := 16) rfl rfl rfl ?_
      refine w_aload_n (pc' := 17) rfl rfl rfl ?_
      refine w_getI (pc' := 20) rfl rfl rfl rfl rfl qx0 ?_
      refine w_br2 (pc' := 23) (t := 32) rfl rfl rfl ic_gt (fun hc => ?_) (fun hc => ?_)
      · replace h := h.1 hc
        refine w_iconst (pc' := 33) rfl rfl (v := (-1)) rfl ?_
        exact w_ireturn rfl rfl h
      · replace h := h.2 hc
        refine w_aload_n (pc' := 24) rfl rfl rfl ?_
        have q1 : xR0 x0 3 = some (x0 + 1) ∧ xS0 L (x0 + 1) = (20, 13) := (kf_3_3 qx0)
        refine w_getR (pc' := 27) rfl rfl rfl rfl qx0 q1.1 ?_
        refine w_iload_n (pc' := 28) rfl rfl rfl ?_
        obtain ⟨k1, ek1, bk1, h⟩ := h
        refine w_iaload (pc' := 29) (i := k1) rfl rfl q1.2 ek1 bk1 (by omega) ?_
        refine w_goto (pc' := 33) rfl rfl ?_
        exact w_ireturn rfl rfl h
theorem t_Ta_hear_0 {L : Nat} {xs : Nat → Int32} {x1 : Nat} {x2 : Nat} {f : Hp} {Q : Hp → Prop} (qx1 : xS0 L x1 = (1, 0)) (qx2 : xS0 L x2 = (5, 0)) (h : ∀ g1, g1 = xu f 246 0 (-1) → ∀ g2, g2 = xu g1 246 1 (-1) → ∀ g3, g3 = xu g2 246 2 (-1) → ∀ g4, g4 = xu g3 246 3 0 → ∀ g5, g5 = xu g4 246 4 (g4 x1 0) → CI L xs xm_Co_members [.ref x1] g5 (fun v1 g6 => ∀ g7, g7 = xu g6 246 5 v1 → CV L xs xm_ja_fill [.ref 247, .int (-1)] g7 (fun g8 => CV L xs xm_ja_fill [.ref 248, .int (-1)] g8 (fun g9 => Wp L xs xm_Ta_hear 54 [.ref 246, .ref x1, .ref x2, .int 0, .retAddr 0] [] g9 (QV Q))))) : CV L xs xm_Ta_hear [.ref 246, .ref x1, .ref x2] f Q := by
  show Wp L xs xm_Ta_hear 0 [.ref 246, .ref x1, .ref x2, .retAddr 0, .retAddr 0] [] f (QV Q)
  refine w_aload_n (pc' := 1) rfl rfl rfl ?_
  refine w_iconst (pc' := 2) rfl rfl (v := (-1)) rfl ?_
  refine w_putI (pc' := 5) rfl rfl rfl rfl (show xS0 L 246 = (8, 0) from rfl) ?_
  replace h := h _ rfl
  generalize xu f 246 0 (-1) = g1 at h ⊢
  refine w_aload_n (pc' := 6) rfl rfl rfl ?_
  refine w_iconst (pc' := 7) rfl rfl (v := (-1)) rfl ?_
  refine w_putI (pc' := 10) rfl rfl rfl rfl (show xS0 L 246 = (8, 0) from rfl) ?_
  replace h := h _ rfl
  generalize xu g1 246 1 (-1) = g2 at h ⊢
  refine w_aload_n (pc' := 11) rfl rfl rfl ?_
  refine w_iconst (pc' := 12) rfl rfl (v := (-1)) rfl ?_
  refine w_putI (pc' := 15) rfl rfl rfl rfl (show xS0 L 246 = (8, 0) from rfl) ?_
  replace h := h _ rfl
  generalize xu g2 246 2 (-1) = g3 at h ⊢
  refine w_aload_n (pc' := 16) rfl rfl rfl ?_
  refine w_iconst (pc' := 17) rfl rfl (v := 0) rfl ?_
  refine w_putI (pc' := 20) rfl rfl rfl rfl (show xS0 L 246 = (8, 0) from rfl) ?_
  replace h := h _ rfl
  generalize xu g3 246 3 0 = g4 at h ⊢
  refine w_aload_n (pc' := 21) rfl rfl rfl ?_
  refine w_aload_n (pc' := 22) rfl rfl rfl ?_
  refine w_getI (pc' := 25) rfl rfl rfl rfl rfl qx1 ?_
  refine w_putI (pc' := 28) rfl rfl rfl rfl (show xS0 L 246 = (8, 0) from rfl) ?_
  replace h := h _ rfl
  generalize xu g4 246 4 (g4 x1 0) = g5 at h ⊢
  refine w_aload_n (pc' := 29) rfl rfl rfl ?_
  refine w_aload_n (pc' := 30) rfl rfl rfl ?_
  refine w_cv (pc' := 33) (cm := xm_Co_members) (as := []) (a := x1) (rest := [.ref 246]) rfl rfl rfl  (xa_Co_members (Nat.le_of_ble_eq_true rfl)) qx1 rfl (CI.k h fun v1 g6 h => ?_)
  show Wp L xs xm_Ta_hear 33 [.ref 246, .ref x1, .ref x2, .retAddr 0, .retAddr 0] [.int v1, .ref 246] g6 _
  refine w_putI (pc' := 36) rfl rfl rfl rfl (show xS0 L 246 = (8, 0) from rfl) ?_
  replace h := h _ rfl
  generalize xu g6 246 5 v1 = g7 at h ⊢
  refine w_aload_n (pc' := 37) rfl rfl rfl ?_
  have q1 : xR0 246 6 = some 247 ∧ xS0 L 247 = (20, 7) := (kf_8_6 (show xS0 L 246 = (8, 0) from rfl))
  refine w_getR (pc' := 40) rfl rfl rfl rfl (show xS0 L 246 = (8, 0) from rfl) q1.1 ?_
  refine w_iconst (pc' := 41) rfl rfl (v := (-1)) rfl ?_
  refine w_cs (pc' := 44) (cm := xm_ja_fill) (as := [.ref 247, .int (-1)]) (rest := []) rfl rfl rfl (Or.inl rfl) (xa_ja_fill (Nat.le_of_ble_eq_true rfl)) (CV.k h fun g8 h => ?_)
  show Wp L xs xm_Ta_hear 44 [.ref 246, .ref x1, .ref x2, .retAddr 0, .retAddr 0] [] g8 _
  refine w_aload_n (pc' := 45) rfl rfl rfl ?_
  have q2 : xR0 246 7 = some 248 ∧ xS0 L 248 = (20, 7) := (kf_8_7 (show xS0 L 246 = (8, 0) from rfl))
  refine w_getR (pc' := 48) rfl rfl rfl rfl (show xS0 L 246 = (8, 0) from rfl) q2.1 ?_
  refine w_iconst (pc' := 49) rfl rfl (v := (-1)) rfl ?_
  refine w_cs (pc' := 52) (cm := xm_ja_fill) (as := [.ref 248, .int (-1)]) (rest := []) rfl rfl rfl (Or.inl rfl) (xa_ja_fill (Nat.le_of_ble_eq_true rfl)) (CV.k h fun g9 h => ?_)
  show Wp L xs xm_Ta_hear 52 [.ref 246, .ref x1, .ref x2, .retAddr 0, .retAddr 0] [] g9 _
  refine w_iconst (pc' := 53) rfl rfl (v := 0) rfl ?_
  refine w_istore_n (pc' := 54) rfl rfl (xl' := [.ref 246, .ref x1, .ref x2, .int 0, .retAddr 0]) rfl ?_
  exact h
theorem t_Ta_hear_54 {L : Nat} {xs : Nat → Int32} {x1 : Nat} {x2 : Nat} {x3 : Int32} {x4 : Value} {f : Hp} {Q : Hp → Prop} (qx1 : xS0 L x1 = (1, 0)) (qx2 : xS0 L x2 = (5, 0)) (cx4 : (x4.category != 2) = true) (h : ((x3 < (f x2 0) → ∃ k1 : Nat, x3 = iN k1 ∧ k1 < 12 ∧ CI L xs xm_Co_has [.ref x1, .int (f (x2 + 1) k1)] f (fun v1 g1 => ((v1 = 0 → Wp L xs xm_Ta_hear 54 [.ref 246, .ref x1, .ref x2, .int (x3 + 1), .int (f (x2 + 1) k1)] [] g1 (QV Q)) ∧ (¬ v1 = 0 → CV L xs xm_Ta_hearOne [.ref 246, .int (f (x2 + 1) k1), .int (g1 (x2 + 2) k1), .int (g1 (x2 + 3) k1)] g1 (fun g2 => CV L xs xm_Ta_noteMatch [.ref 246, .int x3, .int (g2 (x2 + 3) k1)] g2 (fun g3 => Wp L xs xm_Ta_hear 54 [.ref 246, .ref x1, .ref x2, .int (x3 + 1), .int (f (x2 + 1) k1)] [] g3 (QV Q))))))) ∧ (¬ x3 < (f x2 0) → Q f))) : Wp L xs xm_Ta_hear 54 [.ref 246, .ref x1, .ref x2, .int x3, x4] [] f (QV Q) := by
  refine w_iload_n (pc' := 55) rfl rfl rfl ?_
  refine w_aload_n (pc' := 56) rfl rfl rfl ?_
  refine w_getI (pc' := 59) rfl rfl rfl rfl rfl qx2 ?_
  refine w_br2 (pc' := 62) (t := 114) rfl rfl rfl ic_ge (fun hc => ?_) (fun hc => ?_)
  · replace h := h.2 hc
    exact w_return rfl rfl h
  · replace h := h.1 (Classical.not_not.mp hc)
    refine w_aload_n (pc' := 63) rfl rfl rfl ?_
    have q1 : xR0 x2 1 = some (x2 + 1) ∧ xS0 L (x2 + 1) = (20, 12) := (kf_5_1 qx2)
    refine w_getR (pc' := 66) rfl rfl rfl rfl qx2 q1.1 ?_
    refine w_iload_n (pc' := 67) rfl rfl rfl ?_
    obtain ⟨k1, ek1, bk1, h⟩ := h
    refine w_iaload (pc' := 68) (i := k1) rfl rfl q1.2 ek1 bk1 (by omega) ?_
    refine w_istore (pc' := 70) rfl rfl (xl' := [.ref 246, .ref x1, .ref x2, .int x3, .int (f (x2 + 1) k1)]) rfl ?_
    refine w_aload_n (pc' := 71) rfl rfl rfl ?_
    refine w_iload (pc' := 73) rfl rfl rfl ?_
    refine w_cv (pc' := 76) (cm := xm_Co_has) (as := [.int (f (x2 + 1) k1)]) (a := x1) (rest := []) rfl rfl rfl  (xa_Co_has (Nat.le_of_ble_eq_true rfl)) qx1 rfl (CI.k h fun v1 g1 h => ?_)
    show Wp L xs xm_Ta_hear 76 [.ref 246, .ref x1, .ref x2, .int x3, .int (f (x2 + 1) k1)] [.int v1] g1 _
    refine w_br (pc' := 79) (t := 108) rfl rfl rfl ic_eq (fun hc => ?_) (fun hc => ?_)
    · replace h := h.1 hc
      refine w_iinc (pc' := 111) rfl rfl rfl (v := (x3 + 1)) rfl (xl' := [.ref 246, .ref x1, .ref x2, .int (x3 + 1), .int (f (x2 + 1) k1)]) rfl ?_
      refine w_goto (pc' := 54) rfl rfl ?_
      exact h
    · replace h := h.2 hc
      refine w_aload_n (pc' := 80) rfl rfl rfl ?_
      refine w_iload (pc' := 82) rfl rfl rfl ?_
      refine w_aload_n (pc' := 83) rfl rfl rfl ?_
      have q2 : xR0 x2 2 = some (x2 + 2) ∧ xS0 L (x2 + 2) = (20, 12) := (kf_5_2 qx2)
      refine w_getR (pc' := 86) rfl rfl rfl rfl qx2 q2.1 ?_
      refine w_iload_n (pc' := 87) rfl rfl rfl ?_
      refine w_iaload (pc' := 88) (i := k1) rfl rfl q2.2 ek1 bk1 (by omega) ?_
      refine w_aload_n (pc' := 89) rfl rfl rfl ?_
      have q3 : xR0 x2 3 = some (x2 + 3) ∧ xS0 L (x2 + 3) = (20, 12) := (kf_5_3 qx2)
      refine w_getR (pc' := 92) rfl rfl rfl rfl qx2 q3.1 ?_
      refine w_iload_n (pc' := 93) rfl rfl rfl ?_
      refine w_iaload (pc' := 94) (i := k1) rfl rfl q3.2 ek1 bk1 (by omega) ?_
      refine w_cv (pc' := 97) (cm := xm_Ta_hearOne) (as := [.int (f (x2 + 1) k1), .int (g1 (x2 + 2) k1), .int (g1 (x2 + 3) k1)]) (a := 246) (rest := []) rfl rfl rfl  (xa_Ta_hearOne (Nat.le_of_ble_eq_true rfl)) (show xS0 L 246 = (8, 0) from rfl) rfl (CV.k h fun g2 h => ?_)
      show Wp L xs xm_Ta_hear 97 [.ref 246, .ref x1, .ref x2, .int x3, .int (f (x2 + 1) k1)] [] g2 _
      refine w_aload_n (pc' := 98) rfl rfl rfl ?_
      refine w_iload_n (pc' := 99) rfl rfl rfl ?_
      refine w_aload_n (pc' := 100) rfl rfl rfl ?_
      have q4 : xR0 x2 3 = some (x2 + 3) ∧ xS0 L (x2 + 3) = (20, 12) := (kf_5_3 qx2)
      refine w_getR (pc' := 103) rfl rfl rfl rfl qx2 q4.1 ?_
      refine w_iload_n (pc' := 104) rfl rfl rfl ?_
      refine w_iaload (pc' := 105) (i := k1) rfl rfl q4.2 ek1 bk1 (by omega) ?_
      refine w_cv (pc' := 108) (cm := xm_Ta_noteMatch) (as := [.int x3, .int (g2 (x2 + 3) k1)]) (a := 246) (rest := []) rfl rfl rfl  (xa_Ta_noteMatch (Nat.le_of_ble_eq_true rfl)) (show xS0 L 246 = (8, 0) from rfl) rfl (CV.k h fun g3 h => ?_)
      show Wp L xs xm_Ta_hear 108 [.ref 246, .ref x1, .ref x2, .int x3, .int (f (x2 + 1) k1)] [] g3 _
      refine w_iinc (pc' := 111) rfl rfl rfl (v := (x3 + 1)) rfl (xl' := [.ref 246, .ref x1, .ref x2, .int (x3 + 1), .int (f (x2 + 1) k1)]) rfl ?_
      refine w_goto (pc' := 54) rfl rfl ?_
      exact h
theorem t_Ta_hearOne_0 {L : Nat} {xs : Nat → Int32} {x1 : Int32} {x2 : Int32} {x3 : Int32} {f : Hp} {Q : Hp → Prop}  (h : ∃ k1 : Nat, x1 = iN k1 ∧ k1 < 7 ∧ (((f 248 k1) = (-1) → Wp L xs xm_Ta_hearOne 32 [.ref 246, .int x1, .int x2, .int x3] [] f (QV Q)) ∧ (¬ (f 248 k1) = (-1) → (((f 248 k1) = x3 → Wp L xs xm_Ta_hearOne 32 [.ref 246, .int x1, .int x2, .int x3] [] f (QV Q)) ∧ (¬ (f 248 k1) = x3 → ∀ g1, g1 = xu f 246 3 ((f 246 3) ||| (1 <<< (x1 &&& 31))) → Wp L xs xm_Ta_hearOne 32 [.ref 246, .int x1, .int x2, .int x3] [] g1 (QV Q)))))) : CV L xs xm_Ta_hearOne [.ref 246, .int x1, .int x2, .int x3] f Q := by
  show Wp L xs xm_Ta_hearOne 0 [.ref 246, .int x1, .int x2, .int x3] [] f (QV Q)
  refine w_aload_n (pc' := 1) rfl rfl rfl ?_
  have q1 : xR0 246 7 = some 248 ∧ xS0 L 248 = (20, 7) := (kf_8_7 (show xS0 L 246 = (8, 0) from rfl))
  refine w_getR (pc' := 4) rfl rfl rfl rfl (show xS0 L 246 = (8, 0) from rfl) q1.1 ?_
  refine w_iload_n (pc' := 5) rfl rfl rfl ?_
  obtain ⟨k1, ek1, bk1, h⟩ := h
  refine w_iaload (pc' := 6) (i := k1) rfl rfl q1.2 ek1 bk1 (by omega) ?_
  refine w_iconst (pc' := 7) rfl rfl (v := (-1)) rfl ?_
  refine w_br2 (pc' := 10) (t := 32) rfl rfl rfl ic_eq (fun hc => ?_) (fun hc => ?_)
  · replace h := h.1 hc
    exact h
  · replace h := h.2 hc
    refine w_aload_n (pc' := 11) rfl rfl rfl ?_
    have q2 : xR0 246 7 = some 248 ∧ xS0 L 248 = (20, 7) := (kf_8_7 (show xS0 L 246 = (8, 0) from rfl))
    refine w_getR (pc' := 14) rfl rfl rfl rfl (show xS0 L 246 = (8, 0) from rfl) q2.1 ?_
    refine w_iload_n (pc' := 15) rfl rfl rfl ?_
    refine w_iaload (pc' := 16) (i := k1) rfl rfl q2.2 ek1 bk1 (by omega) ?_
    refine w_iload_n (pc' := 17) rfl rfl rfl ?_
    refine w_br2 (pc' := 20) (t := 32) rfl rfl rfl ic_eq (fun hc => ?_) (fun hc => ?_)
    · replace h := h.1 hc
      exact h
    · replace h := h.2 hc
      refine w_aload_n (pc' := 21) rfl rfl rfl ?_
      refine w_dupA (pc' := 22) rfl rfl ?_
      refine w_getI (pc' := 25) rfl rfl rfl rfl rfl (show xS0 L 246 = (8, 0) from rfl) ?_
      refine w_iconst (pc' := 26) rfl rfl (v := 1) rfl ?_
      refine w_iload_n (pc' := 27) rfl rfl rfl ?_
      refine w_ishl (pc' := 28) rfl rfl ?_
      refine w_ior (pc' := 29) rfl rfl ?_
      refine w_putI (pc' := 32) rfl rfl rfl rfl (show xS0 L 246 = (8, 0) from rfl) ?_
      replace h := h _ rfl
      generalize xu f 246 3 ((f 246 3) ||| (1 <<< (x1 &&& 31))) = g1 at h ⊢
      exact h
theorem t_Ta_hearOne_32 {L : Nat} {xs : Nat → Int32} {x1 : Int32} {x2 : Int32} {x3 : Int32} {f : Hp} {Q : Hp → Prop}  (h : ∃ k1 : Nat, x1 = iN k1 ∧ k1 < 7 ∧ ∀ g1, g1 = xu f 247 k1 x2 → ∀ g2, g2 = xu g1 248 k1 x3 → Q g2) : Wp L xs xm_Ta_hearOne 32 [.ref 246, .int x1, .int x2, .int x3] [] f (QV Q) := by
  refine w_aload_n (pc' := 33) rfl rfl rfl ?_
  have q1 : xR0 246 6 = some 247 ∧ xS0 L 247 = (20, 7) := (kf_8_6 (show xS0 L 246 = (8, 0) from rfl))
  refine w_getR (pc' := 36) rfl rfl rfl rfl (show xS0 L 246 = (8, 0) from rfl) q1.1 ?_
  refine w_iload_n (pc' := 37) rfl rfl rfl ?_
  refine w_iload_n (pc' := 38) rfl rfl rfl ?_
  obtain ⟨k1, ek1, bk1, h⟩ := h
  refine w_iastore (pc' := 39) (i := k1) rfl rfl q1.2 ek1 bk1 (by omega) ?_
  replace h := h _ rfl
  generalize xu f 247 k1 x2 = g1 at h ⊢
  refine w_aload_n (pc' := 40) rfl rfl rfl ?_
  have q2 : xR0 246 7 = some 248 ∧ xS0 L 248 = (20, 7) := (kf_8_7 (show xS0 L 246 = (8, 0) from rfl))
  refine w_getR (pc' := 43) rfl rfl rfl rfl (show xS0 L 246 = (8, 0) from rfl) q2.1 ?_
  refine w_iload_n (pc' := 44) rfl rfl rfl ?_
  refine w_iload_n (pc' := 45) rfl rfl rfl ?_
  refine w_iastore (pc' := 46) (i := k1) rfl rfl q2.2 ek1 bk1 (by omega) ?_
  replace h := h _ rfl
  generalize xu g1 248 k1 x3 = g2 at h ⊢
  exact w_return rfl rfl h
theorem t_Ta_noteMatch_0 {L : Nat} {xs : Nat → Int32} {x1 : Int32} {x2 : Int32} {f : Hp} {Q : Hp → Prop}  (h : CI L xs xm_Ta_voicesOf [.ref 246, .int x2] f (fun v1 g1 => (((g1 246 0) = (-1) → CI L xs xm_ji_bitCount [.int v1] g1 (fun v2 g2 => (((g2 246 4) < v2 → ∀ g3, g3 = xu g2 246 0 x1 → ∀ g4, g4 = xu g3 246 1 x2 → Wp L xs xm_Ta_noteMatch 39 [.ref 246, .int x1, .int x2, .int v1, .int 0] [] g4 (QV Q)) ∧ (¬ (g2 246 4) < v2 → Q g2)))) ∧ (¬ (g1 246 0) = (-1) → Q g1)))) : CV L xs xm_Ta_noteMatch [.ref 246, .int x1, .int x2] f Q := by
  show Wp L xs xm_Ta_noteMatch 0 [.ref 246, .int x1, .int x2, .retAddr 0, .retAddr 0] [] f (QV Q)
  refine w_aload_n (pc' := 1) rfl rfl rfl ?_
  refine w_iload_n (pc' := 2) rfl rfl rfl ?_
  refine w_cv (pc' := 5) (cm := xm_Ta_voicesOf) (as := [.int x2]) (a := 246) (rest := []) rfl rfl rfl  (xa_Ta_voicesOf (Nat.le_of_ble_eq_true rfl)) (show xS0 L 246 = (8, 0) from rfl) rfl (CI.k h fun v1 g1 h => ?_)
  show Wp L xs xm_Ta_noteMatch 5 [.ref 246, .int x1, .int x2, .retAddr 0, .retAddr 0] [.int v1] g1 _
  refine w_istore_n (pc' := 6) rfl rfl (xl' := [.ref 246, .int x1, .int x2, .int v1, .retAddr 0]) rfl ?_
  refine w_aload_n (pc' := 7) rfl rfl rfl ?_
  refine w_getI (pc' := 10) rfl rfl rfl rfl rfl (show xS0 L 246 = (8, 0) from rfl) ?_
  refine w_iconst (pc' := 11) rfl rfl (v := (-1)) rfl ?_
  refine w_br2 (pc' := 14) (t := 25) rfl rfl rfl ic_ne (fun hc => ?_) (fun hc => ?_)
  · replace h := h.2 hc
    exact w_return rfl rfl h
  · replace h := h.1 (Classical.not_not.mp hc)
    refine w_iload_n (pc' := 15) rfl rfl rfl ?_
    refine w_cs (pc' := 18) (cm := xm_ji_bitCount) (as := [.int v1]) (rest := []) rfl rfl rfl (Or.inl rfl) (xa_ji_bitCount (Nat.le_of_ble_eq_true rfl)) (CI.k h fun v2 g2 h => ?_)
    show Wp L xs xm_Ta_noteMatch 18 [.ref 246, .int x1, .int x2, .int v1, .retAddr 0] [.int v2] g2 _
    refine w_aload_n (pc' := 19) rfl rfl rfl ?_
    refine w_getI (pc' := 22) rfl rfl rfl rfl rfl (show xS0 L 246 = (8, 0) from rfl) ?_
    refine w_br2 (pc' := 25) (t := 26) rfl rfl rfl ic_gt (fun hc => ?_) (fun hc => ?_)
    · replace h := h.1 hc
      refine w_aload_n (pc' := 27) rfl rfl rfl ?_
      refine w_iload_n (pc' := 28) rfl rfl rfl ?_
      refine w_putI (pc' := 31) rfl rfl rfl rfl (show xS0 L 246 = (8, 0) from rfl) ?_
      replace h := h _ rfl
      generalize xu g2 246 0 x1 = g3 at h ⊢
      refine w_aload_n (pc' := 32) rfl rfl rfl ?_
      refine w_iload_n (pc' := 33) rfl rfl rfl ?_
      refine w_putI (pc' := 36) rfl rfl rfl rfl (show xS0 L 246 = (8, 0) from rfl) ?_
      replace h := h _ rfl
      generalize xu g3 246 1 x2 = g4 at h ⊢
      refine w_iconst (pc' := 37) rfl rfl (v := 0) rfl ?_
      refine w_istore (pc' := 39) rfl rfl (xl' := [.ref 246, .int x1, .int x2, .int v1, .int 0]) rfl ?_
      exact h
    · replace h := h.2 hc
      exact w_return rfl rfl h
theorem t_Ta_noteMatch_39 {L : Nat} {xs : Nat → Int32} {x1 : Int32} {x2 : Int32} {x3 : Int32} {x4 : Int32} {f : Hp} {Q : Hp → Prop}  (h : ((x4 < (f 246 5) → CI L xs xm_TP_hasBit [.int x3, .int x4] f (fun v1 g1 => ((v1 = 0 → Wp L xs xm_Ta_noteMatch 39 [.ref 246, .int x1, .int x2, .int x3, .int (x4 + 1)] [] g1 (QV Q)) ∧ (¬ v1 = 0 → ∃ k1 : Nat, x4 = iN k1 ∧ k1 < 7 ∧ ∀ g2, g2 = xu g1 246 2 (imax (g1 246 2) (g1 247 k1)) → Wp L xs xm_Ta_noteMatch 39 [.ref 246, .int x1, .int x2, .int x3, .int (x4 + 1)] [] g2 (QV Q))))) ∧ (¬ x4 < (f 246 5) → Q f))) : Wp L xs xm_Ta_noteMatch 39 [.ref 246, .int x1, .int x2, .int x3, .int x4] [] f (QV Q) := by
  refine w_iload (pc' := 41) rfl rfl rfl ?_
  refine w_aload_n (pc' := 42) rfl rfl rfl ?_
  refine w_getI (pc' := 45) rfl rfl rfl rfl rfl (show xS0 L 246 = (8, 0) from rfl) ?_
  refine w_br2 (pc' := 48) (t := 81) rfl rfl rfl ic_ge (fun hc => ?_) (fun hc => ?_)
  · replace h := h.2 hc
    exact w_return rfl rfl h
  · replace h := h.1 (Classical.not_not.mp hc)
    refine w_iload_n (pc' := 49) rfl rfl rfl ?_
    refine w_iload (pc' := 51) rfl rfl rfl ?_
    refine w_cs (pc' := 54) (cm := xm_TP_hasBit) (as := [.int x3, .int x4]) (rest := []) rfl rfl rfl (Or.inr rfl) (xa_TP_hasBit (Nat.le_of_ble_eq_true rfl)) (CI.k h fun v1 g1 h => ?_)
    show Wp L xs xm_Ta_noteMatch 54 [.ref 246, .int x1, .int x2, .int x3, .int x4] [.int v1] g1 _
    refine w_br (pc' := 57) (t := 75) rfl rfl rfl ic_eq (fun hc => ?_) (fun hc => ?_)
    · replace h := h.1 hc
      refine w_iinc (pc' := 78) rfl rfl rfl (v := (x4 + 1)) rfl (xl' := [.ref 246, .int x1, .int x2, .int x3, .int (x4 + 1)]) rfl ?_
      refine w_goto (pc' := 39) rfl rfl ?_
      exact h
    · replace h := h.2 hc
      refine w_aload_n (pc' := 58) rfl rfl rfl ?_
      refine w_aload_n (pc' := 59) rfl rfl rfl ?_
      refine w_getI (pc' := 62) rfl rfl rfl rfl rfl (show xS0 L 246 = (8, 0) from rfl) ?_
      refine w_aload_n (pc' := 63) rfl rfl rfl ?_
      have q1 : xR0 246 6 = some 247 ∧ xS0 L 247 = (20, 7) := (kf_8_6 (show xS0 L 246 = (8, 0) from rfl))
      refine w_getR (pc' := 66) rfl rfl rfl rfl (show xS0 L 246 = (8, 0) from rfl) q1.1 ?_
      refine w_iload (pc' := 68) rfl rfl rfl ?_
      obtain ⟨k1, ek1, bk1, h⟩ := h
      refine w_iaload (pc' := 69) (i := k1) rfl rfl q1.2 ek1 bk1 (by omega) ?_
      refine w_max (pc' := 72) rfl rfl rfl (Nat.le_of_ble_eq_true rfl) ?_
      refine w_putI (pc' := 75) rfl rfl rfl rfl (show xS0 L 246 = (8, 0) from rfl) ?_
      replace h := h _ rfl
      generalize xu g1 246 2 (imax (g1 246 2) (g1 247 k1)) = g2 at h ⊢
      refine w_iinc (pc' := 78) rfl rfl rfl (v := (x4 + 1)) rfl (xl' := [.ref 246, .int x1, .int x2, .int x3, .int (x4 + 1)]) rfl ?_
      refine w_goto (pc' := 39) rfl rfl ?_
      exact h
theorem t_Ta_voicesOf_0 {L : Nat} {xs : Nat → Int32} {x1 : Int32} {f : Hp} {Q : Int32 → Hp → Prop}  (h : Wp L xs xm_Ta_voicesOf 4 [.ref 246, .int x1, .int 0, .int 0] [] f (QI Q)) : CI L xs xm_Ta_voicesOf [.ref 246, .int x1] f Q := by
  show Wp L xs xm_Ta_voicesOf 0 [.ref 246, .int x1, .retAddr 0, .retAddr 0] [] f (QI Q)
  refine w_iconst (pc' := 1) rfl rfl (v := 0) rfl ?_
  refine w_istore_n (pc' := 2) rfl rfl (xl' := [.ref 246, .int x1, .int 0, .retAddr 0]) rfl ?_
  refine w_iconst (pc' := 3) rfl rfl (v := 0) rfl ?_
  refine w_istore_n (pc' := 4) rfl rfl (xl' := [.ref 246, .int x1, .int 0, .int 0]) rfl ?_
  exact h
theorem t_Ta_voicesOf_4 {L : Nat} {xs : Nat → Int32} {x1 : Int32} {x2 : Int32} {x3 : Int32} {f : Hp} {Q : Int32 → Hp → Prop}  (h : ((x3 < (f 246 5) → ∃ k1 : Nat, x3 = iN k1 ∧ k1 < 7 ∧ (((f 248 k1) = x1 → Wp L xs xm_Ta_voicesOf 4 [.ref 246, .int x1, .int (x2 ||| (1 <<< (x3 &&& 31))), .int (x3 + 1)] [] f (QI Q)) ∧ (¬ (f 248 k1) = x1 → Wp L xs xm_Ta_voicesOf 4 [.ref 246, .int x1, .int x2, .int (x3 + 1)] [] f (QI Q)))) ∧ (¬ x3 < (f 246 5) → Q x2 f))) : Wp L xs xm_Ta_voicesOf 4 [.ref 246, .int x1, .int x2, .int x3] [] f (QI Q) := by
  refine w_iload_n (pc' := 5) rfl rfl rfl ?_
  refine w_aload_n (pc' := 6) rfl rfl rfl ?_
  refine w_getI (pc' := 9) rfl rfl rfl rfl rfl (show xS0 L 246 = (8, 0) from rfl) ?_
  refine w_br2 (pc' := 12) (t := 34) rfl rfl rfl ic_ge (fun hc => ?_) (fun hc => ?_)
  · replace h := h.2 hc
    refine w_iload_n (pc' := 35) rfl rfl rfl ?_
    exact w_ireturn rfl rfl h
  · replace h := h.1 (Classical.not_not.mp hc)
    refine w_aload_n (pc' := 13) rfl rfl rfl ?_
    have q1 : xR0 246 7 = some 248 ∧ xS0 L 248 = (20, 7) := (kf_8_7 (show xS0 L 246 = (8, 0) from rfl))
    refine w_getR (pc' := 16) rfl rfl rfl rfl (show xS0 L 246 = (8, 0) from rfl) q1.1 ?_
    refine w_iload_n (pc' := 17) rfl rfl rfl ?_
    obtain ⟨k1, ek1, bk1, h⟩ := h
    refine w_iaload (pc' := 18) (i := k1) rfl rfl q1.2 ek1 bk1 (by omega) ?_
    refine w_iload_n (pc' := 19) rfl rfl rfl ?_
    refine w_br2 (pc' := 22) (t := 28) rfl rfl rfl ic_ne (fun hc => ?_) (fun hc => ?_)
    · replace h := h.2 hc
      refine w_iinc (pc' := 31) rfl rfl rfl (v := (x3 + 1)) rfl (xl' := [.ref 246, .int x1, .int x2, .int (x3 + 1)]) rfl ?_
      refine w_goto (pc' := 4) rfl rfl ?_
      exact h
    · replace h := h.1 (Classical.not_not.mp hc)
      refine w_iload_n (pc' := 23) rfl rfl rfl ?_
      refine w_iconst (pc' := 24) rfl rfl (v := 1) rfl ?_
      refine w_iload_n (pc' := 25) rfl rfl rfl ?_
      refine w_ishl (pc' := 26) rfl rfl ?_
      refine w_ior (pc' := 27) rfl rfl ?_
      refine w_istore_n (pc' := 28) rfl rfl (xl' := [.ref 246, .int x1, .int (x2 ||| (1 <<< (x3 &&& 31))), .int x3]) rfl ?_
      refine w_iinc (pc' := 31) rfl rfl rfl (v := (x3 + 1)) rfl (xl' := [.ref 246, .int x1, .int (x2 ||| (1 <<< (x3 &&& 31))), .int (x3 + 1)]) rfl ?_
      refine w_goto (pc' := 4) rfl rfl ?_
      exact h
theorem t_Ta_suspectSets_0 {L : Nat} {xs : Nat → Int32}  {f : Hp} {Q : Int32 → Hp → Prop}  (h : Wp L xs xm_Ta_suspectSets 4 [.ref 246, .int 0, .int 0] [] f (QI Q)) : CI L xs xm_Ta_suspectSets [.ref 246] f Q := by
  show Wp L xs xm_Ta_suspectSets 0 [.ref 246, .retAddr 0, .retAddr 0] [] f (QI Q)
  refine w_iconst (pc' := 1) rfl rfl (v := 0) rfl ?_
  refine w_istore_n (pc' := 2) rfl rfl (xl' := [.ref 246, .int 0, .retAddr 0]) rfl ?_
  refine w_iconst (pc' := 3) rfl rfl (v := 0) rfl ?_
  refine w_istore_n (pc' := 4) rfl rfl (xl' := [.ref 246, .int 0, .int 0]) rfl ?_
  exact h
theorem t_Ta_suspectSets_4 {L : Nat} {xs : Nat → Int32} {x1 : Int32} {x2 : Int32} {f : Hp} {Q : Int32 → Hp → Prop}  (h : ((x2 < (1 <<< ((f 246 5) &&& 31)) → CI L xs xm_Ta_isSuspect [.ref 246, .int x2] f (fun v1 g1 => ((v1 = 0 → Wp L xs xm_Ta_suspectSets 4 [.ref 246, .int x1, .int (x2 + 1)] [] g1 (QI Q)) ∧ (¬ v1 = 0 → Wp L xs xm_Ta_suspectSets 4 [.ref 246, .int (x1 + 1), .int (x2 + 1)] [] g1 (QI Q))))) ∧ (¬ x2 < (1 <<< ((f 246 5) &&& 31)) → Q x1 f))) : Wp L xs xm_Ta_suspectSets 4 [.ref 246, .int x1, .int x2] [] f (QI Q) := by
  refine w_iload_n (pc' := 5) rfl rfl rfl ?_
  refine w_iconst (pc' := 6) rfl rfl (v := 1) rfl ?_
  refine w_aload_n (pc' := 7) rfl rfl rfl ?_
  refine w_getI (pc' := 10) rfl rfl rfl rfl rfl (show xS0 L 246 = (8, 0) from rfl) ?_
  refine w_ishl (pc' := 11) rfl rfl ?_
  refine w_br2 (pc' := 14) (t := 31) rfl rfl rfl ic_ge (fun hc => ?_) (fun hc => ?_)
  · replace h := h.2 hc
    refine w_iload_n (pc' := 32) rfl rfl rfl ?_
    exact w_ireturn rfl rfl h
  · replace h := h.1 (Classical.not_not.mp hc)
    refine w_aload_n (pc' := 15) rfl rfl rfl ?_
    refine w_iload_n (pc' := 16) rfl rfl rfl ?_
    refine w_cv (pc' := 19) (cm := xm_Ta_isSuspect) (as := [.int x2]) (a := 246) (rest := []) rfl rfl rfl  (xa_Ta_isSuspect (Nat.le_of_ble_eq_true rfl)) (show xS0 L 246 = (8, 0) from rfl) rfl (CI.k h fun v1 g1 h => ?_)
    show Wp L xs xm_Ta_suspectSets 19 [.ref 246, .int x1, .int x2] [.int v1] g1 _
    refine w_br (pc' := 22) (t := 25) rfl rfl rfl ic_eq (fun hc => ?_) (fun hc => ?_)
    · replace h := h.1 hc
      refine w_iinc (pc' := 28) rfl rfl rfl (v := (x2 + 1)) rfl (xl' := [.ref 246, .int x1, .int (x2 + 1)]) rfl ?_
      refine w_goto (pc' := 4) rfl rfl ?_
      exact h
    · replace h := h.2 hc
      refine w_iinc (pc' := 25) rfl rfl rfl (v := (x1 + 1)) rfl (xl' := [.ref 246, .int (x1 + 1), .int x2]) rfl ?_
      refine w_iinc (pc' := 28) rfl rfl rfl (v := (x2 + 1)) rfl (xl' := [.ref 246, .int (x1 + 1), .int (x2 + 1)]) rfl ?_
      refine w_goto (pc' := 4) rfl rfl ?_
      exact h
theorem t_Ta_isSuspect_0 {L : Nat} {xs : Nat → Int32} {x1 : Int32} {f : Hp} {Q : Int32 → Hp → Prop}  (h : CI L xs xm_ji_bitCount [.int x1] f (fun v1 g1 => (((g1 246 4) < v1 → Q 0 g1) ∧ (¬ (g1 246 4) < v1 → Wp L xs xm_Ta_isSuspect 17 [.ref 246, .int x1, .int (-1), .int 0] [] g1 (QI Q))))) : CI L xs xm_Ta_isSuspect [.ref 246, .int x1] f Q := by
  show Wp L xs xm_Ta_isSuspect 0 [.ref 246, .int x1, .retAddr 0, .retAddr 0] [] f (QI Q)
  refine w_iload_n (pc' := 1) rfl rfl rfl ?_
  refine w_cs (pc' := 4) (cm := xm_ji_bitCount) (as := [.int x1]) (rest := []) rfl rfl rfl (Or.inl rfl) (xa_ji_bitCount (Nat.le_of_ble_eq_true rfl)) (CI.k h fun v1 g1 h => ?_)
  show Wp L xs xm_Ta_isSuspect 4 [.ref 246, .int x1, .retAddr 0, .retAddr 0] [.int v1] g1 _
  refine w_aload_n (pc' := 5) rfl rfl rfl ?_
  refine w_getI (pc' := 8) rfl rfl rfl rfl rfl (show xS0 L 246 = (8, 0) from rfl) ?_
  refine w_br2 (pc' := 11) (t := 13) rfl rfl rfl ic_le (fun hc => ?_) (fun hc => ?_)
  · replace h := h.2 hc
    refine w_iconst (pc' := 14) rfl rfl (v := (-1)) rfl ?_
    refine w_istore_n (pc' := 15) rfl rfl (xl' := [.ref 246, .int x1, .int (-1), .retAddr 0]) rfl ?_
    refine w_iconst (pc' := 16) rfl rfl (v := 0) rfl ?_
    refine w_istore_n (pc' := 17) rfl rfl (xl' := [.ref 246, .int x1, .int (-1), .int 0]) rfl ?_
    exact h
  · replace h := h.1 (Classical.not_not.mp hc)
    refine w_iconst (pc' := 12) rfl rfl (v := 0) rfl ?_
    exact w_ireturn rfl rfl h
theorem t_Ta_isSuspect_17 {L : Nat} {xs : Nat → Int32} {x1 : Int32} {x2 : Int32} {x3 : Int32} {f : Hp} {Q : Int32 → Hp → Prop}  (h : ((x3 < (f 246 5) → CI L xs xm_TP_hasBit [.int x1, .int x3] f (fun v1 g1 => ((v1 = 0 → ∃ k1 : Nat, x3 = iN k1 ∧ k1 < 7 ∧ (((g1 248 k1) = (-1) → Wp L xs xm_Ta_isSuspect 17 [.ref 246, .int x1, .int x2, .int (x3 + 1)] [] g1 (QI Q)) ∧ (¬ (g1 248 k1) = (-1) → ((x2 = (-1) → Wp L xs xm_Ta_isSuspect 17 [.ref 246, .int x1, .int (g1 248 k1), .int (x3 + 1)] [] g1 (QI Q)) ∧ (¬ x2 = (-1) → ((x2 = (g1 248 k1) → Wp L xs xm_Ta_isSuspect 17 [.ref 246, .int x1, .int (g1 248 k1), .int (x3 + 1)] [] g1 (QI Q)) ∧ (¬ x2 = (g1 248 k1) → Q 0 g1))))))) ∧ (¬ v1 = 0 → Wp L xs xm_Ta_isSuspect 17 [.ref 246, .int x1, .int x2, .int (x3 + 1)] [] g1 (QI Q))))) ∧ (¬ x3 < (f 246 5) → Q 1 f))) : Wp L xs xm_Ta_isSuspect 17 [.ref 246, .int x1, .int x2, .int x3] [] f (QI Q) := by
  refine w_iload_n (pc' := 18) rfl rfl rfl ?_
  refine w_aload_n (pc' := 19) rfl rfl rfl ?_
  refine w_getI (pc' := 22) rfl rfl rfl rfl rfl (show xS0 L 246 = (8, 0) from rfl) ?_
  refine w_br2 (pc' := 25) (t := 76) rfl rfl rfl ic_ge (fun hc => ?_) (fun hc => ?_)
  · replace h := h.2 hc
    refine w_iconst (pc' := 77) rfl rfl (v := 1) rfl ?_
    exact w_ireturn rfl rfl h
  · replace h := h.1 (Classical.not_not.mp hc)
    refine w_iload_n (pc' := 26) rfl rfl rfl ?_
    refine w_iload_n (pc' := 27) rfl rfl rfl ?_
    refine w_cs (pc' := 30) (cm := xm_TP_hasBit) (as := [.int x1, .int x3]) (rest := []) rfl rfl rfl (Or.inr rfl) (xa_TP_hasBit (Nat.le_of_ble_eq_true rfl)) (CI.k h fun v1 g1 h => ?_)
    show Wp L xs xm_Ta_isSuspect 30 [.ref 246, .int x1, .int x2, .int x3] [.int v1] g1 _
    refine w_br (pc' := 33) (t := 70) rfl rfl rfl ic_ne (fun hc => ?_) (fun hc => ?_)
    · replace h := h.2 hc
      refine w_iinc (pc' := 73) rfl rfl rfl (v := (x3 + 1)) rfl (xl' := [.ref 246, .int x1, .int x2, .int (x3 + 1)]) rfl ?_
      refine w_goto (pc' := 17) rfl rfl ?_
      exact h
    · replace h := h.1 (Classical.not_not.mp hc)
      refine w_aload_n (pc' := 34) rfl rfl rfl ?_
      have q1 : xR0 246 7 = some 248 ∧ xS0 L 248 = (20, 7) := (kf_8_7 (show xS0 L 246 = (8, 0) from rfl))
      refine w_getR (pc' := 37) rfl rfl rfl rfl (show xS0 L 246 = (8, 0) from rfl) q1.1 ?_
      refine w_iload_n (pc' := 38) rfl rfl rfl ?_
      obtain ⟨k1, ek1, bk1, h⟩ := h
      refine w_iaload (pc' := 39) (i := k1) rfl rfl q1.2 ek1 bk1 (by omega) ?_
      refine w_iconst (pc' := 40) rfl rfl (v := (-1)) rfl ?_
      refine w_br2 (pc' := 43) (t := 46) rfl rfl rfl ic_ne (fun hc => ?_) (fun hc => ?_)
      · replace h := h.2 hc
        refine w_iload_n (pc' := 47) rfl rfl rfl ?_
        refine w_iconst (pc' := 48) rfl rfl (v := (-1)) rfl ?_
        refine w_br2 (pc' := 51) (t := 63) rfl rfl rfl ic_eq (fun hc => ?_) (fun hc => ?_)
        · replace h := h.1 hc
          refine w_aload_n (pc' := 64) rfl rfl rfl ?_
          have q2 : xR0 246 7 = some 248 ∧ xS0 L 248 = (20, 7) := (kf_8_7 (show xS0 L 246 = (8, 0) from rfl))
          refine w_getR (pc' := 67) rfl rfl rfl rfl (show xS0 L 246 = (8, 0) from rfl) q2.1 ?_
          refine w_iload_n (pc' := 68) rfl rfl rfl ?_
          refine w_iaload (pc' := 69) (i := k1) rfl rfl q2.2 ek1 bk1 (by omega) ?_
          refine w_istore_n (pc' := 70) rfl rfl (xl' := [.ref 246, .int x1, .int (g1 248 k1), .int x3]) rfl ?_
          refine w_iinc (pc' := 73) rfl rfl rfl (v := (x3 + 1)) rfl (xl' := [.ref 246, .int x1, .int (g1 248 k1), .int (x3 + 1)]) rfl ?_
          refine w_goto (pc' := 17) rfl rfl ?_
          exact h
        · replace h := h.2 hc
          refine w_iload_n (pc' := 52) rfl rfl rfl ?_
          refine w_aload_n (pc' := 53) rfl rfl rfl ?_
          have q3 : xR0 246 7 = some 248 ∧ xS0 L 248 = (20, 7) := (kf_8_7 (show xS0 L 246 = (8, 0) from rfl))
          refine w_getR (pc' := 56) rfl rfl rfl rfl (show xS0 L 246 = (8, 0) from rfl) q3.1 ?_
          refine w_iload_n (pc' := 57) rfl rfl rfl ?_
          refine w_iaload (pc' := 58) (i := k1) rfl rfl q3.2 ek1 bk1 (by omega) ?_
          refine w_br2 (pc' := 61) (t := 63) rfl rfl rfl ic_eq (fun hc => ?_) (fun hc => ?_)
          · replace h := h.1 hc
            refine w_aload_n (pc' := 64) rfl rfl rfl ?_
            have q4 : xR0 246 7 = some 248 ∧ xS0 L 248 = (20, 7) := (kf_8_7 (show xS0 L 246 = (8, 0) from rfl))
            refine w_getR (pc' := 67) rfl rfl rfl rfl (show xS0 L 246 = (8, 0) from rfl) q4.1 ?_
            refine w_iload_n (pc' := 68) rfl rfl rfl ?_
            refine w_iaload (pc' := 69) (i := k1) rfl rfl q4.2 ek1 bk1 (by omega) ?_
            refine w_istore_n (pc' := 70) rfl rfl (xl' := [.ref 246, .int x1, .int (g1 248 k1), .int x3]) rfl ?_
            refine w_iinc (pc' := 73) rfl rfl rfl (v := (x3 + 1)) rfl (xl' := [.ref 246, .int x1, .int (g1 248 k1), .int (x3 + 1)]) rfl ?_
            refine w_goto (pc' := 17) rfl rfl ?_
            exact h
          · replace h := h.2 hc
            refine w_iconst (pc' := 62) rfl rfl (v := 0) rfl ?_
            exact w_ireturn rfl rfl h
      · replace h := h.1 (Classical.not_not.mp hc)
        refine w_goto (pc' := 70) rfl rfl ?_
        refine w_iinc (pc' := 73) rfl rfl rfl (v := (x3 + 1)) rfl (xl' := [.ref 246, .int x1, .int x2, .int (x3 + 1)]) rfl ?_
        refine w_goto (pc' := 17) rfl rfl ?_
        exact h
theorem t_Ta_suspectsInAll_0 {L : Nat} {xs : Nat → Int32}  {f : Hp} {Q : Int32 → Hp → Prop}  (h : Wp L xs xm_Ta_suspectsInAll 4 [.ref 246, .int (-1), .int 0] [] f (QI Q)) : CI L xs xm_Ta_suspectsInAll [.ref 246] f Q := by
  show Wp L xs xm_Ta_suspectsInAll 0 [.ref 246, .retAddr 0, .retAddr 0] [] f (QI Q)
  refine w_iconst (pc' := 1) rfl rfl (v := (-1)) rfl ?_
  refine w_istore_n (pc' := 2) rfl rfl (xl' := [.ref 246, .int (-1), .retAddr 0]) rfl ?_
  refine w_iconst (pc' := 3) rfl rfl (v := 0) rfl ?_
  refine w_istore_n (pc' := 4) rfl rfl (xl' := [.ref 246, .int (-1), .int 0]) rfl ?_
  exact h
theorem t_Ta_suspectsInAll_4 {L : Nat} {xs : Nat → Int32} {x1 : Int32} {x2 : Int32} {f : Hp} {Q : Int32 → Hp → Prop}  (h : ((x2 < (1 <<< ((f 246 5) &&& 31)) → CI L xs xm_Ta_isSuspect [.ref 246, .int x2] f (fun v1 g1 => ((v1 = 0 → Wp L xs xm_Ta_suspectsInAll 4 [.ref 246, .int x1, .int (x2 + 1)] [] g1 (QI Q)) ∧ (¬ v1 = 0 → Wp L xs xm_Ta_suspectsInAll 4 [.ref 246, .int (x1 &&& x2), .int (x2 + 1)] [] g1 (QI Q))))) ∧ (¬ x2 < (1 <<< ((f 246 5) &&& 31)) → ((x1 = (-1) → Q 0 f) ∧ (¬ x1 = (-1) → Q x1 f))))) : Wp L xs xm_Ta_suspectsInAll 4 [.ref 246, .int x1, .int x2] [] f (QI Q) := by
  refine w_iload_n (pc' := 5) rfl rfl rfl ?_
  refine w_iconst (pc' := 6) rfl rfl (v := 1) rfl ?_
  refine w_aload_n (pc' := 7) rfl rfl rfl ?_
  refine w_getI (pc' := 10) rfl rfl rfl rfl rfl (show xS0 L 246 = (8, 0) from rfl) ?_
  refine w_ishl (pc' := 11) rfl rfl ?_
  refine w_br2 (pc' := 14) (t := 32) rfl rfl rfl ic_ge (fun hc => ?_) (fun hc => ?_)
  · replace h := h.2 hc
    refine w_iload_n (pc' := 33) rfl rfl rfl ?_
    refine w_iconst (pc' := 34) rfl rfl (v := (-1)) rfl ?_
    refine w_br2 (pc' := 37) (t := 41) rfl rfl rfl ic_ne (fun hc => ?_) (fun hc => ?_)
    · replace h := h.2 hc
      refine w_iload_n (pc' := 42) rfl rfl rfl ?_
      exact w_ireturn rfl rfl h
    · replace h := h.1 (Classical.not_not.mp hc)
      refine w_iconst (pc' := 38) rfl rfl (v := 0) rfl ?_
      refine w_goto (pc' := 42) rfl rfl ?_
      exact w_ireturn rfl rfl h
  · replace h := h.1 (Classical.not_not.mp hc)
    refine w_aload_n (pc' := 15) rfl rfl rfl ?_
    refine w_iload_n (pc' := 16) rfl rfl rfl ?_
    refine w_cv (pc' := 19) (cm := xm_Ta_isSuspect) (as := [.int x2]) (a := 246) (rest := []) rfl rfl rfl  (xa_Ta_isSuspect (Nat.le_of_ble_eq_true rfl)) (show xS0 L 246 = (8, 0) from rfl) rfl (CI.k h fun v1 g1 h => ?_)
    show Wp L xs xm_Ta_suspectsInAll 19 [.ref 246, .int x1, .int x2] [.int v1] g1 _
    refine w_br (pc' := 22) (t := 26) rfl rfl rfl ic_eq (fun hc => ?_) (fun hc => ?_)
    · replace h := h.1 hc
      refine w_iinc (pc' := 29) rfl rfl rfl (v := (x2 + 1)) rfl (xl' := [.ref 246, .int x1, .int (x2 + 1)]) rfl ?_
      refine w_goto (pc' := 4) rfl rfl ?_
      exact h
    · replace h := h.2 hc
      refine w_iload_n (pc' := 23) rfl rfl rfl ?_
      refine w_iload_n (pc' := 24) rfl rfl rfl ?_
      refine w_iand (pc' := 25) rfl rfl ?_
      refine w_istore_n (pc' := 26) rfl rfl (xl' := [.ref 246, .int (x1 &&& x2), .int x2]) rfl ?_
      refine w_iinc (pc' := 29) rfl rfl rfl (v := (x2 + 1)) rfl (xl' := [.ref 246, .int (x1 &&& x2), .int (x2 + 1)]) rfl ?_
      refine w_goto (pc' := 4) rfl rfl ?_
      exact h
theorem t_Ta_suspectSet_0 {L : Nat} {xs : Nat → Int32} {x1 : Int32} {f : Hp} {Q : Int32 → Hp → Prop}  (h : Wp L xs xm_Ta_suspectSet 4 [.ref 246, .int x1, .int 0, .int 0] [] f (QI Q)) : CI L xs xm_Ta_suspectSet [.ref 246, .int x1] f Q := by
  show Wp L xs xm_Ta_suspectSet 0 [.ref 246, .int x1, .retAddr 0, .retAddr 0] [] f (QI Q)
  refine w_iconst (pc' := 1) rfl rfl (v := 0) rfl ?_
  refine w_istore_n (pc' := 2) rfl rfl (xl' := [.ref 246, .int x1, .int 0, .retAddr 0]) rfl ?_
  refine w_iconst (pc' := 3) rfl rfl (v := 0) rfl ?_
  refine w_istore_n (pc' := 4) rfl rfl (xl' := [.ref 246, .int x1, .int 0, .int 0]) rfl ?_
  exact h
theorem t_Ta_suspectSet_4 {L : Nat} {xs : Nat → Int32} {x1 : Int32} {x2 : Int32} {x3 : Int32} {f : Hp} {Q : Int32 → Hp → Prop}  (h : ((x3 < (1 <<< ((f 246 5) &&& 31)) → CI L xs xm_Ta_isSuspect [.ref 246, .int x3] f (fun v1 g1 => ((v1 = 0 → Wp L xs xm_Ta_suspectSet 4 [.ref 246, .int x1, .int x2, .int (x3 + 1)] [] g1 (QI Q)) ∧ (¬ v1 = 0 → ((x2 = x1 → Q x3 g1) ∧ (¬ x2 = x1 → Wp L xs xm_Ta_suspectSet 4 [.ref 246, .int x1, .int (x2 + 1), .int (x3 + 1)] [] g1 (QI Q))))))) ∧ (¬ x3 < (1 <<< ((f 246 5) &&& 31)) → Q (-2) f))) : Wp L xs xm_Ta_suspectSet 4 [.ref 246, .int x1, .int x2, .int x3] [] f (QI Q) := by
  refine w_iload_n (pc' := 5) rfl rfl rfl ?_
  refine w_iconst (pc' := 6) rfl rfl (v := 1) rfl ?_
  refine w_aload_n (pc' := 7) rfl rfl rfl ?_
  refine w_getI (pc' := 10) rfl rfl rfl rfl rfl (show xS0 L 246 = (8, 0) from rfl) ?_
  refine w_ishl (pc' := 11) rfl rfl ?_
  refine w_br2 (pc' := 14) (t := 41) rfl rfl rfl ic_ge (fun hc => ?_) (fun hc => ?_)
  · replace h := h.2 hc
    refine w_bipush (pc' := 43) rfl rfl (v := (-2)) rfl ?_
    exact w_ireturn rfl rfl h
  · replace h := h.1 (Classical.not_not.mp hc)
    refine w_aload_n (pc' := 15) rfl rfl rfl ?_
    refine w_iload_n (pc' := 16) rfl rfl rfl ?_
    refine w_cv (pc' := 19) (cm := xm_Ta_isSuspect) (as := [.int x3]) (a := 246) (rest := []) rfl rfl rfl  (xa_Ta_isSuspect (Nat.le_of_ble_eq_true rfl)) (show xS0 L 246 = (8, 0) from rfl) rfl (CI.k h fun v1 g1 h => ?_)
    show Wp L xs xm_Ta_suspectSet 19 [.ref 246, .int x1, .int x2, .int x3] [.int v1] g1 _
    refine w_br (pc' := 22) (t := 25) rfl rfl rfl ic_ne (fun hc => ?_) (fun hc => ?_)
    · replace h := h.2 hc
      refine w_iload_n (pc' := 26) rfl rfl rfl ?_
      refine w_iload_n (pc' := 27) rfl rfl rfl ?_
      refine w_br2 (pc' := 30) (t := 32) rfl rfl rfl ic_ne (fun hc => ?_) (fun hc => ?_)
      · replace h := h.2 hc
        refine w_iinc (pc' := 35) rfl rfl rfl (v := (x2 + 1)) rfl (xl' := [.ref 246, .int x1, .int (x2 + 1), .int x3]) rfl ?_
        refine w_iinc (pc' := 38) rfl rfl rfl (v := (x3 + 1)) rfl (xl' := [.ref 246, .int x1, .int (x2 + 1), .int (x3 + 1)]) rfl ?_
        refine w_goto (pc' := 4) rfl rfl ?_
        exact h
      · replace h := h.1 (Classical.not_not.mp hc)
        refine w_iload_n (pc' := 31) rfl rfl rfl ?_
        exact w_ireturn rfl rfl h
    · replace h := h.1 (Classical.not_not.mp hc)
      refine w_goto (pc' := 35) rfl rfl ?_
      refine w_iinc (pc' := 38) rfl rfl rfl (v := (x3 + 1)) rfl (xl' := [.ref 246, .int x1, .int x2, .int (x3 + 1)]) rfl ?_
      refine w_goto (pc' := 4) rfl rfl ?_
      exact h
theorem t_Su_unlikeNodes_0 {L : Nat} {xs : Nat → Int32} {x0 : Nat} {x1 : Nat} {nx1 : Nat} {x2 : Nat} {nx2 : Nat} {f : Hp} {Q : Int32 → Hp → Prop} (qx0 : xS0 L x0 = (7, 0)) (qx1 : xS0 L x1 = (20, nx1)) (qx2 : xS0 L x2 = (20, nx2)) (h : CV L xs xm_Su_build [.ref x1, .ref (x0 + 1)] f (fun g1 => CV L xs xm_Su_build [.ref x2, .ref (x0 + 2)] g1 (fun g2 => Wp L xs xm_Su_unlikeNodes 21 [.ref x0, .ref x1, .ref x2, .int 0, .int 1] [] g2 (QI Q)))) : CI L xs xm_Su_unlikeNodes [.ref x0, .ref x1, .ref x2] f Q := by
  show Wp L xs xm_Su_unlikeNodes 0 [.ref x0, .ref x1, .ref x2, .retAddr 0, .retAddr 0] [] f (QI Q)
  refine w_aload_n (pc' := 1) rfl rfl rfl ?_
  refine w_aload_n (pc' := 2) rfl rfl rfl ?_
  have q1 : xR0 x0 0 = some (x0 + 1) ∧ xS0 L (x0 + 1) = (20, 16) := (kf_7_0 qx0)
  refine w_getR (pc' := 5) rfl rfl rfl rfl qx0 q1.1 ?_
  refine w_cs (pc' := 8) (cm := xm_Su_build) (as := [.ref x1, .ref (x0 + 1)]) (rest := []) rfl rfl rfl (Or.inl rfl) (xa_Su_build (Nat.le_of_ble_eq_true rfl)) (CV.k h fun g1 h => ?_)
  show Wp L xs xm_Su_unlikeNodes 8 [.ref x0, .ref x1, .ref x2, .retAddr 0, .retAddr 0] [] g1 _
  refine w_aload_n (pc' := 9) rfl rfl rfl ?_
  refine w_aload_n (pc' := 10) rfl rfl rfl ?_
  have q2 : xR0 x0 1 = some (x0 + 2) ∧ xS0 L (x0 + 2) = (20, 16) := (kf_7_1 qx0)
  refine w_getR (pc' := 13) rfl rfl rfl rfl qx0 q2.1 ?_
  refine w_cs (pc' := 16) (cm := xm_Su_build) (as := [.ref x2, .ref (x0 + 2)]) (rest := []) rfl rfl rfl (Or.inl rfl) (xa_Su_build (Nat.le_of_ble_eq_true rfl)) (CV.k h fun g2 h => ?_)
  show Wp L xs xm_Su_unlikeNodes 16 [.ref x0, .ref x1, .ref x2, .retAddr 0, .retAddr 0] [] g2 _
  refine w_iconst (pc' := 17) rfl rfl (v := 0) rfl ?_
  refine w_istore_n (pc' := 18) rfl rfl (xl' := [.ref x0, .ref x1, .ref x2, .int 0, .retAddr 0]) rfl ?_
  refine w_iconst (pc' := 19) rfl rfl (v := 1) rfl ?_
  refine w_istore (pc' := 21) rfl rfl (xl' := [.ref x0, .ref x1, .ref x2, .int 0, .int 1]) rfl ?_
  exact h
theorem t_Su_unlikeNodes_21 {L : Nat} {xs : Nat → Int32} {x0 : Nat} {x1 : Nat} {nx1 : Nat} {x2 : Nat} {nx2 : Nat} {x3 : Int32} {x4 : Int32} {f : Hp} {Q : Int32 → Hp → Prop} (qx0 : xS0 L x0 = (7, 0)) (qx1 : xS0 L x1 = (20, nx1)) (qx2 : xS0 L x2 = (20, nx2)) (h : ((x4 < 16 → ∃ k1 : Nat, x4 = iN k1 ∧ k1 < 16 ∧ (((f (x0 + 1) k1) = (f (x0 + 2) k1) → Wp L xs xm_Su_unlikeNodes 21 [.ref x0, .ref x1, .ref x2, .int x3, .int (x4 + 1)] [] f (QI Q)) ∧ (¬ (f (x0 + 1) k1) = (f (x0 + 2) k1) → Wp L xs xm_Su_unlikeNodes 21 [.ref x0, .ref x1, .ref x2, .int (x3 + 1), .int (x4 + 1)] [] f (QI Q)))) ∧ (¬ x4 < 16 → Q x3 f))) : Wp L xs xm_Su_unlikeNodes 21 [.ref x0, .ref x1, .ref x2, .int x3, .int x4] [] f (QI Q) := by
  refine w_iload (pc' := 23) rfl rfl rfl ?_
  refine w_bipush (pc' := 25) rfl rfl (v := 16) rfl ?_
  refine w_br2 (pc' := 28) (t := 54) rfl rfl rfl ic_ge (fun hc => ?_) (fun hc => ?_)
  · replace h := h.2 hc
    refine w_iload_n (pc' := 55) rfl rfl rfl ?_
    exact w_ireturn rfl rfl h
  · replace h := h.1 (Classical.not_not.mp hc)
    refine w_aload_n (pc' := 29) rfl rfl rfl ?_
    have q1 : xR0 x0 0 = some (x0 + 1) ∧ xS0 L (x0 + 1) = (20, 16) := (kf_7_0 qx0)
    refine w_getR (pc' := 32) rfl rfl rfl rfl qx0 q1.1 ?_
    refine w_iload (pc' := 34) rfl rfl rfl ?_
    obtain ⟨k1, ek1, bk1, h⟩ := h
    refine w_iaload (pc' := 35) (i := k1) rfl rfl q1.2 ek1 bk1 (by omega) ?_
    refine w_aload_n (pc' := 36) rfl rfl rfl ?_
    have q2 : xR0 x0 1 = some (x0 + 2) ∧ xS0 L (x0 + 2) = (20, 16) := (kf_7_1 qx0)
    refine w_getR (pc' := 39) rfl rfl rfl rfl qx0 q2.1 ?_
    refine w_iload (pc' := 41) rfl rfl rfl ?_
    refine w_iaload (pc' := 42) (i := k1) rfl rfl q2.2 ek1 bk1 (by omega) ?_
    refine w_br2 (pc' := 45) (t := 48) rfl rfl rfl ic_eq (fun hc => ?_) (fun hc => ?_)
    · replace h := h.1 hc
      refine w_iinc (pc' := 51) rfl rfl rfl (v := (x4 + 1)) rfl (xl' := [.ref x0, .ref x1, .ref x2, .int x3, .int (x4 + 1)]) rfl ?_
      refine w_goto (pc' := 21) rfl rfl ?_
      exact h
    · replace h := h.2 hc
      refine w_iinc (pc' := 48) rfl rfl rfl (v := (x3 + 1)) rfl (xl' := [.ref x0, .ref x1, .ref x2, .int (x3 + 1), .int x4]) rfl ?_
      refine w_iinc (pc' := 51) rfl rfl rfl (v := (x4 + 1)) rfl (xl' := [.ref x0, .ref x1, .ref x2, .int (x3 + 1), .int (x4 + 1)]) rfl ?_
      refine w_goto (pc' := 21) rfl rfl ?_
      exact h
theorem t_Ta_lacking_0 {L : Nat} {xs : Nat → Int32}  {f : Hp} {Q : Int32 → Hp → Prop}  (h : Wp L xs xm_Ta_lacking 4 [.ref 246, .int 0, .int 0] [] f (QI Q)) : CI L xs xm_Ta_lacking [.ref 246] f Q := by
  show Wp L xs xm_Ta_lacking 0 [.ref 246, .retAddr 0, .retAddr 0] [] f (QI Q)
  refine w_iconst (pc' := 1) rfl rfl (v := 0) rfl ?_
  refine w_istore_n (pc' := 2) rfl rfl (xl' := [.ref 246, .int 0, .retAddr 0]) rfl ?_
  refine w_iconst (pc' := 3) rfl rfl (v := 0) rfl ?_
  refine w_istore_n (pc' := 4) rfl rfl (xl' := [.ref 246, .int 0, .int 0]) rfl ?_
  exact h
theorem t_Ta_lacking_4 {L : Nat} {xs : Nat → Int32} {x1 : Int32} {x2 : Int32} {f : Hp} {Q : Int32 → Hp → Prop}  (h : ((x2 < (f 246 5) → ∃ k1 : Nat, x2 = iN k1 ∧ k1 < 7 ∧ (((f 248 k1) = (-1) → Wp L xs xm_Ta_lacking 4 [.ref 246, .int x1, .int (x2 + 1)] [] f (QI Q)) ∧ (¬ (f 248 k1) = (-1) → CI L xs xm_Ta_voicesOf [.ref 246, .int (f 248 k1)] f (fun v1 g1 => CI L xs xm_ji_bitCount [.int v1] g1 (fun v2 g2 => Wp L xs xm_Ta_lacking 4 [.ref 246, .int (imax x1 v2), .int (x2 + 1)] [] g2 (QI Q)))))) ∧ (¬ x2 < (f 246 5) → Q (imax 0 (((f 246 4) + 1) - x1)) f))) : Wp L xs xm_Ta_lacking 4 [.ref 246, .int x1, .int x2] [] f (QI Q) := by
  refine w_iload_n (pc' := 5) rfl rfl rfl ?_
  refine w_aload_n (pc' := 6) rfl rfl rfl ?_
  refine w_getI (pc' := 9) rfl rfl rfl rfl rfl (show xS0 L 246 = (8, 0) from rfl) ?_
  refine w_br2 (pc' := 12) (t := 46) rfl rfl rfl ic_ge (fun hc => ?_) (fun hc => ?_)
  · replace h := h.2 hc
    refine w_iconst (pc' := 47) rfl rfl (v := 0) rfl ?_
    refine w_aload_n (pc' := 48) rfl rfl rfl ?_
    refine w_getI (pc' := 51) rfl rfl rfl rfl rfl (show xS0 L 246 = (8, 0) from rfl) ?_
    refine w_iconst (pc' := 52) rfl rfl (v := 1) rfl ?_
    refine w_iadd (pc' := 53) rfl rfl ?_
    refine w_iload_n (pc' := 54) rfl rfl rfl ?_
    refine w_isub (pc' := 55) rfl rfl ?_
    refine w_max (pc' := 58) rfl rfl rfl (Nat.le_of_ble_eq_true rfl) ?_
    exact w_ireturn rfl rfl h
  · replace h := h.1 (Classical.not_not.mp hc)
    refine w_aload_n (pc' := 13) rfl rfl rfl ?_
    have q1 : xR0 246 7 = some 248 ∧ xS0 L 248 = (20, 7) := (kf_8_7 (show xS0 L 246 = (8, 0) from rfl))
    refine w_getR (pc' := 16) rfl rfl rfl rfl (show xS0 L 246 = (8, 0) from rfl) q1.1 ?_
    refine w_iload_n (pc' := 17) rfl rfl rfl ?_
    obtain ⟨k1, ek1, bk1, h⟩ := h
    refine w_iaload (pc' := 18) (i := k1) rfl rfl q1.2 ek1 bk1 (by omega) ?_
    refine w_iconst (pc' := 19) rfl rfl (v := (-1)) rfl ?_
    refine w_br2 (pc' := 22) (t := 40) rfl rfl rfl ic_eq (fun hc => ?_) (fun hc => ?_)
    · replace h := h.1 hc
      refine w_iinc (pc' := 43) rfl rfl rfl (v := (x2 + 1)) rfl (xl' := [.ref 246, .int x1, .int (x2 + 1)]) rfl ?_
      refine w_goto (pc' := 4) rfl rfl ?_
      exact h
    · replace h := h.2 hc
      refine w_iload_n (pc' := 23) rfl rfl rfl ?_
      refine w_aload_n (pc' := 24) rfl rfl rfl ?_
      refine w_aload_n (pc' := 25) rfl rfl rfl ?_
      have q2 : xR0 246 7 = some 248 ∧ xS0 L 248 = (20, 7) := (kf_8_7 (show xS0 L 246 = (8, 0) from rfl))
      refine w_getR (pc' := 28) rfl rfl rfl rfl (show xS0 L 246 = (8, 0) from rfl) q2.1 ?_
      refine w_iload_n (pc' := 29) rfl rfl rfl ?_
      refine w_iaload (pc' := 30) (i := k1) rfl rfl q2.2 ek1 bk1 (by omega) ?_
      refine w_cv (pc' := 33) (cm := xm_Ta_voicesOf) (as := [.int (f 248 k1)]) (a := 246) (rest := [.int x1]) rfl rfl rfl  (xa_Ta_voicesOf (Nat.le_of_ble_eq_true rfl)) (show xS0 L 246 = (8, 0) from rfl) rfl (CI.k h fun v1 g1 h => ?_)
      show Wp L xs xm_Ta_lacking 33 [.ref 246, .int x1, .int x2] [.int v1, .int x1] g1 _
      refine w_cs (pc' := 36) (cm := xm_ji_bitCount) (as := [.int v1]) (rest := [.int x1]) rfl rfl rfl (Or.inl rfl) (xa_ji_bitCount (Nat.le_of_ble_eq_true rfl)) (CI.k h fun v2 g2 h => ?_)
      show Wp L xs xm_Ta_lacking 36 [.ref 246, .int x1, .int x2] [.int v2, .int x1] g2 _
      refine w_max (pc' := 39) rfl rfl rfl (Nat.le_of_ble_eq_true rfl) ?_
      refine w_istore_n (pc' := 40) rfl rfl (xl' := [.ref 246, .int (imax x1 v2), .int x2]) rfl ?_
      refine w_iinc (pc' := 43) rfl rfl rfl (v := (x2 + 1)) rfl (xl' := [.ref 246, .int (imax x1 v2), .int (x2 + 1)]) rfl ?_
      refine w_goto (pc' := 4) rfl rfl ?_
      exact h
theorem t_Ta_unlikeResults_0 {L : Nat} {xs : Nat → Int32}  {f : Hp} {Q : Int32 → Hp → Prop}  (h : Wp L xs xm_Ta_unlikeResults 4 [.ref 246, .int 0, .int 0] [] f (QI Q)) : CI L xs xm_Ta_unlikeResults [.ref 246] f Q := by
  show Wp L xs xm_Ta_unlikeResults 0 [.ref 246, .retAddr 0, .retAddr 0] [] f (QI Q)
  refine w_iconst (pc' := 1) rfl rfl (v := 0) rfl ?_
  refine w_istore_n (pc' := 2) rfl rfl (xl' := [.ref 246, .int 0, .retAddr 0]) rfl ?_
  refine w_iconst (pc' := 3) rfl rfl (v := 0) rfl ?_
  refine w_istore_n (pc' := 4) rfl rfl (xl' := [.ref 246, .int 0, .int 0]) rfl ?_
  exact h
theorem t_Ta_unlikeResults_4 {L : Nat} {xs : Nat → Int32} {x1 : Int32} {x2 : Int32} {f : Hp} {Q : Int32 → Hp → Prop}  (h : ((x2 < (f 246 5) → ∃ k1 : Nat, x2 = iN k1 ∧ k1 < 7 ∧ (((f 248 k1) = (-1) → Wp L xs xm_Ta_unlikeResults 4 [.ref 246, .int x1, .int (x2 + 1)] [] f (QI Q)) ∧ (¬ (f 248 k1) = (-1) → CI L xs xm_Ta_voicesOf [.ref 246, .int (f 248 k1)] f (fun v1 g1 => (((v1 &&& ((1 <<< (x2 &&& 31)) - 1)) = 0 → Wp L xs xm_Ta_unlikeResults 4 [.ref 246, .int (x1 + 1), .int (x2 + 1)] [] g1 (QI Q)) ∧ (¬ (v1 &&& ((1 <<< (x2 &&& 31)) - 1)) = 0 → Wp L xs xm_Ta_unlikeResults 4 [.ref 246, .int x1, .int (x2 + 1)] [] g1 (QI Q))))))) ∧ (¬ x2 < (f 246 5) → Q x1 f))) : Wp L xs xm_Ta_unlikeResults 4 [.ref 246, .int x1, .int x2] [] f (QI Q) := by
  refine w_iload_n (pc' := 5) rfl rfl rfl ?_
  refine w_aload_n (pc' := 6) rfl rfl rfl ?_
  refine w_getI (pc' := 9) rfl rfl rfl rfl rfl (show xS0 L 246 = (8, 0) from rfl) ?_
  refine w_br2 (pc' := 12) (t := 50) rfl rfl rfl ic_ge (fun hc => ?_) (fun hc => ?_)
  · replace h := h.2 hc
    refine w_iload_n (pc' := 51) rfl rfl rfl ?_
    exact w_ireturn rfl rfl h
  · replace h := h.1 (Classical.not_not.mp hc)
    refine w_aload_n (pc' := 13) rfl rfl rfl ?_
    have q1 : xR0 246 7 = some 248 ∧ xS0 L 248 = (20, 7) := (kf_8_7 (show xS0 L 246 = (8, 0) from rfl))
    refine w_getR (pc' := 16) rfl rfl rfl rfl (show xS0 L 246 = (8, 0) from rfl) q1.1 ?_
    refine w_iload_n (pc' := 17) rfl rfl rfl ?_
    obtain ⟨k1, ek1, bk1, h⟩ := h
    refine w_iaload (pc' := 18) (i := k1) rfl rfl q1.2 ek1 bk1 (by omega) ?_
    refine w_iconst (pc' := 19) rfl rfl (v := (-1)) rfl ?_
    refine w_br2 (pc' := 22) (t := 44) rfl rfl rfl ic_eq (fun hc => ?_) (fun hc => ?_)
    · replace h := h.1 hc
      refine w_iinc (pc' := 47) rfl rfl rfl (v := (x2 + 1)) rfl (xl' := [.ref 246, .int x1, .int (x2 + 1)]) rfl ?_
      refine w_goto (pc' := 4) rfl rfl ?_
      exact h
    · replace h := h.2 hc
      refine w_aload_n (pc' := 23) rfl rfl rfl ?_
      refine w_aload_n (pc' := 24) rfl rfl rfl ?_
      have q2 : xR0 246 7 = some 248 ∧ xS0 L 248 = (20, 7) := (kf_8_7 (show xS0 L 246 = (8, 0) from rfl))
      refine w_getR (pc' := 27) rfl rfl rfl rfl (show xS0 L 246 = (8, 0) from rfl) q2.1 ?_
      refine w_iload_n (pc' := 28) rfl rfl rfl ?_
      refine w_iaload (pc' := 29) (i := k1) rfl rfl q2.2 ek1 bk1 (by omega) ?_
      refine w_cv (pc' := 32) (cm := xm_Ta_voicesOf) (as := [.int (f 248 k1)]) (a := 246) (rest := []) rfl rfl rfl  (xa_Ta_voicesOf (Nat.le_of_ble_eq_true rfl)) (show xS0 L 246 = (8, 0) from rfl) rfl (CI.k h fun v1 g1 h => ?_)
      show Wp L xs xm_Ta_unlikeResults 32 [.ref 246, .int x1, .int x2] [.int v1] g1 _
      refine w_iconst (pc' := 33) rfl rfl (v := 1) rfl ?_
      refine w_iload_n (pc' := 34) rfl rfl rfl ?_
      refine w_ishl (pc' := 35) rfl rfl ?_
      refine w_iconst (pc' := 36) rfl rfl (v := 1) rfl ?_
      refine w_isub (pc' := 37) rfl rfl ?_
      refine w_iand (pc' := 38) rfl rfl ?_
      refine w_br (pc' := 41) (t := 44) rfl rfl rfl ic_ne (fun hc => ?_) (fun hc => ?_)
      · replace h := h.2 hc
        refine w_iinc (pc' := 47) rfl rfl rfl (v := (x2 + 1)) rfl (xl' := [.ref 246, .int x1, .int (x2 + 1)]) rfl ?_
        refine w_goto (pc' := 4) rfl rfl ?_
        exact h
      · replace h := h.1 (Classical.not_not.mp hc)
        refine w_iinc (pc' := 44) rfl rfl rfl (v := (x1 + 1)) rfl (xl' := [.ref 246, .int (x1 + 1), .int x2]) rfl ?_
        refine w_iinc (pc' := 47) rfl rfl rfl (v := (x2 + 1)) rfl (xl' := [.ref 246, .int (x1 + 1), .int (x2 + 1)]) rfl ?_
        refine w_goto (pc' := 4) rfl rfl ?_
        exact h
