/-! TREES (printed by wip/whole/gen7.py): what must hold at a label of a method -/
theorem t_To_write_0 {L : Nat} {xs : Nat → Int32} {x0 : Nat} {x1 : Int32} {f : Hp} {Q : Hp → Prop} (qx0 : xS0 L x0 = (10, 0)) (h : Wp L xs xm_To_write 3 [.ref x0, .int x1, .int 24] [] f (QV Q)) : CV L xs xm_To_write [.ref x0, .int x1] f Q := by
  show Wp L xs xm_To_write 0 [.ref x0, .int x1, .retAddr 0] [] f (QV Q)
  refine w_bipush (pc' := 2) rfl rfl (v := 24) rfl ?_
  refine w_istore_n (pc' := 3) rfl rfl (xl' := [.ref x0, .int x1, .int 24]) rfl ?_
  exact h
theorem t_To_write_3 {L : Nat} {xs : Nat → Int32} {x0 : Nat} {x1 : Int32} {x2 : Int32} {f : Hp} {Q : Hp → Prop} (qx0 : xS0 L x0 = (10, 0)) (h : ((x2 < 0 → Q f) ∧ (¬ x2 < 0 → (((f x0 1) < 600 → ∃ k1 : Nat, (f x0 1) = iN k1 ∧ k1 < 600 ∧ ∀ g1, g1 = xu f (x0 + 1) k1 (((x1 >>> (x2 &&& 31))).toInt8.toInt32).toInt8.toInt32 → ∀ g2, g2 = xu g1 x0 1 ((g1 x0 1) + 1) → Wp L xs xm_To_write 3 [.ref x0, .int x1, .int (x2 + (-8))] [] g2 (QV Q)) ∧ (¬ (f x0 1) < 600 → Q f))))) : Wp L xs xm_To_write 3 [.ref x0, .int x1, .int x2] [] f (QV Q) := by
  refine w_iload_n (pc' := 4) rfl rfl rfl ?_
  refine w_br (pc' := 7) (t := 46) rfl rfl rfl ic_lt (fun hc => ?_) (fun hc => ?_)
  · replace h := h.1 hc
    exact w_return rfl rfl h
  · replace h := h.2 hc
    refine w_aload_n (pc' := 8) rfl rfl rfl ?_
    refine w_getI (pc' := 11) rfl rfl rfl rfl rfl qx0 ?_
    refine w_sipush (pc' := 14) rfl rfl (v := 600) rfl ?_
    refine w_br2 (pc' := 17) (t := 46) rfl rfl rfl ic_ge (fun hc => ?_) (fun hc => ?_)
    · replace h := h.2 hc
      exact w_return rfl rfl h
    · replace h := h.1 (Classical.not_not.mp hc)
      refine w_aload_n (pc' := 18) rfl rfl rfl ?_
      have q1 : xR0 x0 0 = some (x0 + 1) ∧ xS0 L (x0 + 1) = (21, 600) := (kf_10_0 qx0)
      refine w_getR (pc' := 21) rfl rfl rfl rfl qx0 q1.1 ?_
      refine w_aload_n (pc' := 22) rfl rfl rfl ?_
      refine w_getI (pc' := 25) rfl rfl rfl rfl rfl qx0 ?_
      refine w_iload_n (pc' := 26) rfl rfl rfl ?_
      refine w_iload_n (pc' := 27) rfl rfl rfl ?_
      refine w_ishr (pc' := 28) rfl rfl ?_
      refine w_i2b (pc' := 29) rfl rfl ?_
      obtain ⟨k1, ek1, bk1, h⟩ := h
      refine w_bastore1 (pc' := 30) (i := k1) rfl rfl q1.2 ek1 bk1 (by omega) ?_
      replace h := h _ rfl
      generalize xu f (x0 + 1) k1 (((x1 >>> (x2 &&& 31))).toInt8.toInt32).toInt8.toInt32 = g1 at h ⊢
      refine w_aload_n (pc' := 31) rfl rfl rfl ?_
      refine w_dupA (pc' := 32) rfl rfl ?_
      refine w_getI (pc' := 35) rfl rfl rfl rfl rfl qx0 ?_
      refine w_iconst (pc' := 36) rfl rfl (v := 1) rfl ?_
      refine w_iadd (pc' := 37) rfl rfl ?_
      refine w_putI (pc' := 40) rfl rfl rfl rfl qx0 ?_
      replace h := h _ rfl
      generalize xu g1 x0 1 ((g1 x0 1) + 1) = g2 at h ⊢
      refine w_iinc (pc' := 43) rfl rfl rfl (v := (x2 + (-8))) rfl (xl' := [.ref x0, .int x1, .int (x2 + (-8))]) rfl ?_
      refine w_goto (pc' := 3) rfl rfl ?_
      exact h
theorem t_To_has_0 {L : Nat} {xs : Nat → Int32} {x0 : Nat} {x1 : Int32} {x2 : Int32} {f : Hp} {Q : Int32 → Hp → Prop} (qx0 : xS0 L x0 = (10, 0)) (h : ((x1 < 0 → Q 0 f) ∧ (¬ x1 < 0 → ((x1 < 3 → ((x2 < 0 → Q 0 f) ∧ (¬ x2 < 0 → ((x2 < 2 → ∃ k1 : Nat, x1 = iN k1 ∧ k1 < 3 ∧ ((x2 < (f (x0 + 2) k1) → Q 1 f) ∧ (¬ x2 < (f (x0 + 2) k1) → Q 0 f))) ∧ (¬ x2 < 2 → Q 0 f))))) ∧ (¬ x1 < 3 → Q 0 f))))) : CI L xs xm_To_has [.ref x0, .int x1, .int x2] f Q := by
  show Wp L xs xm_To_has 0 [.ref x0, .int x1, .int x2] [] f (QI Q)
  refine w_iload_n (pc' := 1) rfl rfl rfl ?_
  refine w_br (pc' := 4) (t := 32) rfl rfl rfl ic_lt (fun hc => ?_) (fun hc => ?_)
  · replace h := h.1 hc
    refine w_iconst (pc' := 33) rfl rfl (v := 0) rfl ?_
    exact w_ireturn rfl rfl h
  · replace h := h.2 hc
    refine w_iload_n (pc' := 5) rfl rfl rfl ?_
    refine w_iconst (pc' := 6) rfl rfl (v := 3) rfl ?_
    refine w_br2 (pc' := 9) (t := 32) rfl rfl rfl ic_ge (fun hc => ?_) (fun hc => ?_)
    · replace h := h.2 hc
      refine w_iconst (pc' := 33) rfl rfl (v := 0) rfl ?_
      exact w_ireturn rfl rfl h
    · replace h := h.1 (Classical.not_not.mp hc)
      refine w_iload_n (pc' := 10) rfl rfl rfl ?_
      refine w_br (pc' := 13) (t := 32) rfl rfl rfl ic_lt (fun hc => ?_) (fun hc => ?_)
      · replace h := h.1 hc
        refine w_iconst (pc' := 33) rfl rfl (v := 0) rfl ?_
        exact w_ireturn rfl rfl h
      · replace h := h.2 hc
        refine w_iload_n (pc' := 14) rfl rfl rfl ?_
        refine w_iconst (pc' := 15) rfl rfl (v := 2) rfl ?_
        refine w_br2 (pc' := 18) (t := 32) rfl rfl rfl ic_ge (fun hc => ?_) (fun hc => ?_)
        · replace h := h.2 hc
          refine w_iconst (pc' := 33) rfl rfl (v := 0) rfl ?_
          exact w_ireturn rfl rfl h
        · replace h := h.1 (Classical.not_not.mp hc)
          refine w_iload_n (pc' := 19) rfl rfl rfl ?_
          refine w_aload_n (pc' := 20) rfl rfl rfl ?_
          have q1 : xR0 x0 4 = some (x0 + 2) ∧ xS0 L (x0 + 2) = (20, 3) := (kf_10_4 qx0)
          refine w_getR (pc' := 23) rfl rfl rfl rfl qx0 q1.1 ?_
          refine w_iload_n (pc' := 24) rfl rfl rfl ?_
          obtain ⟨k1, ek1, bk1, h⟩ := h
          refine w_iaload (pc' := 25) (i := k1) rfl rfl q1.2 ek1 bk1 (by omega) ?_
          refine w_br2 (pc' := 28) (t := 32) rfl rfl rfl ic_ge (fun hc => ?_) (fun hc => ?_)
          · replace h := h.2 hc
            refine w_iconst (pc' := 33) rfl rfl (v := 0) rfl ?_
            exact w_ireturn rfl rfl h
          · replace h := h.1 (Classical.not_not.mp hc)
            refine w_iconst (pc' := 29) rfl rfl (v := 1) rfl ?_
            refine w_goto (pc' := 33) rfl rfl ?_
            exact w_ireturn rfl rfl h
theorem t_Co_clear_0 {L : Nat} {xs : Nat → Int32} {x0 : Nat} {f : Hp} {Q : Hp → Prop} (qx0 : xS0 L x0 = (1, 0)) (h : ∀ g1, g1 = xu f x0 0 1 → ∀ g2, g2 = xu g1 x0 1 4 → ∀ g3, g3 = xu g2 x0 2 2 → ∀ g4, g4 = xu g3 x0 3 0 → ∀ g5, g5 = xu g4 x0 4 0 → CV L xs xm_ja_fill [.ref (x0 + 1), .int 0] g5 (fun g6 => Wp L xs xm_Co_clear 35 [.ref x0, .int 0] [] g6 (QV Q))) : CV L xs xm_Co_clear [.ref x0] f Q := by
  show Wp L xs xm_Co_clear 0 [.ref x0, .retAddr 0] [] f (QV Q)
  refine w_aload_n (pc' := 1) rfl rfl rfl ?_
  refine w_iconst (pc' := 2) rfl rfl (v := 1) rfl ?_
  refine w_putI (pc' := 5) rfl rfl rfl rfl qx0 ?_
  replace h := h _ rfl
  generalize xu f x0 0 1 = g1 at h ⊢
  refine w_aload_n (pc' := 6) rfl rfl rfl ?_
  refine w_iconst (pc' := 7) rfl rfl (v := 4) rfl ?_
  refine w_putI (pc' := 10) rfl rfl rfl rfl qx0 ?_
  replace h := h _ rfl
  generalize xu g1 x0 1 4 = g2 at h ⊢
  refine w_aload_n (pc' := 11) rfl rfl rfl ?_
  refine w_iconst (pc' := 12) rfl rfl (v := 2) rfl ?_
  refine w_putI (pc' := 15) rfl rfl rfl rfl qx0 ?_
  replace h := h _ rfl
  generalize xu g2 x0 2 2 = g3 at h ⊢
  refine w_aload_n (pc' := 16) rfl rfl rfl ?_
  refine w_iconst (pc' := 17) rfl rfl (v := 0) rfl ?_
  refine w_putI (pc' := 20) rfl rfl rfl rfl qx0 ?_
  replace h := h _ rfl
  generalize xu g3 x0 3 0 = g4 at h ⊢
  refine w_aload_n (pc' := 21) rfl rfl rfl ?_
  refine w_iconst (pc' := 22) rfl rfl (v := 0) rfl ?_
  refine w_putI (pc' := 25) rfl rfl rfl rfl qx0 ?_
  replace h := h _ rfl
  generalize xu g4 x0 4 0 = g5 at h ⊢
  refine w_aload_n (pc' := 26) rfl rfl rfl ?_
  have q1 : xR0 x0 5 = some (x0 + 1) ∧ xS0 L (x0 + 1) = (20, 8) := (kf_1_5 qx0)
  refine w_getR (pc' := 29) rfl rfl rfl rfl qx0 q1.1 ?_
  refine w_iconst (pc' := 30) rfl rfl (v := 0) rfl ?_
  refine w_cs (pc' := 33) (cm := xm_ja_fill) (as := [.ref (x0 + 1), .int 0]) (rest := []) rfl rfl rfl (Or.inl rfl) (xa_ja_fill (Nat.le_of_ble_eq_true rfl)) (CV.k h fun g6 h => ?_)
  show Wp L xs xm_Co_clear 33 [.ref x0, .retAddr 0] [] g6 _
  refine w_iconst (pc' := 34) rfl rfl (v := 0) rfl ?_
  refine w_istore_n (pc' := 35) rfl rfl (xl' := [.ref x0, .int 0]) rfl ?_
  exact h
theorem t_Co_clear_35 {L : Nat} {xs : Nat → Int32} {x0 : Nat} {x1 : Int32} {f : Hp} {Q : Hp → Prop} (qx0 : xS0 L x0 = (1, 0)) (h : ((x1 < 7 → ∃ k1 : Nat, x1 = iN k1 ∧ k1 < 7 ∧ CV L xs xm_ja_fill [.ref (x0 + 5 + k1), .int 1] f (fun g1 => Wp L xs xm_Co_clear 35 [.ref x0, .int (x1 + 1)] [] g1 (QV Q))) ∧ (¬ x1 < 7 → Q f))) : Wp L xs xm_Co_clear 35 [.ref x0, .int x1] [] f (QV Q) := by
  refine w_iload_n (pc' := 36) rfl rfl rfl ?_
  refine w_bipush (pc' := 38) rfl rfl (v := 7) rfl ?_
  refine w_br2 (pc' := 41) (t := 57) rfl rfl rfl ic_ge (fun hc => ?_) (fun hc => ?_)
  · replace h := h.2 hc
    exact w_return rfl rfl h
  · replace h := h.1 (Classical.not_not.mp hc)
    refine w_aload_n (pc' := 42) rfl rfl rfl ?_
    have q1 : xR0 x0 8 = some (x0 + 4) ∧ kG L (x0 + 4) 7 := (kf_1_8 qx0)
    refine w_getR (pc' := 45) rfl rfl rfl rfl qx0 q1.1 ?_
    refine w_iload_n (pc' := 46) rfl rfl rfl ?_
    obtain ⟨k1, ek1, bk1, h⟩ := h
    have q2 : xR0 (x0 + 4) k1 = some (x0 + 5 + k1) ∧ xS0 L (x0 + 5 + k1) = (20, 7) := q1.2.2 k1 bk1
    refine w_aaload (pc' := 47) (i := k1) rfl rfl q1.2.1 (by omega) ek1 bk1 (by omega) q2.1 ?_
    refine w_iconst (pc' := 48) rfl rfl (v := 1) rfl ?_
    refine w_cs (pc' := 51) (cm := xm_ja_fill) (as := [.ref (x0 + 5 + k1), .int 1]) (rest := []) rfl rfl rfl (Or.inl rfl) (xa_ja_fill (Nat.le_of_ble_eq_true rfl)) (CV.k h fun g1 h => ?_)
    show Wp L xs xm_Co_clear 51 [.ref x0, .int x1] [] g1 _
    refine w_iinc (pc' := 54) rfl rfl rfl (v := (x1 + 1)) rfl (xl' := [.ref x0, .int (x1 + 1)]) rfl ?_
    refine w_goto (pc' := 35) rfl rfl ?_
    exact h
theorem t_ja_fill_0 {L : Nat} {xs : Nat → Int32} {x0 : Nat} {nx0 : Nat} {x1 : Int32} {f : Hp} {Q : Hp → Prop} (qx0 : xS0 L x0 = (20, nx0)) (h : Wp L xs xm_ja_fill 5 [.ref x0, .int x1, .int 0, .int (iN nx0)] [] f (QV Q)) : CV L xs xm_ja_fill [.ref x0, .int x1] f Q := by
  show Wp L xs xm_ja_fill 0 [.ref x0, .int x1, .retAddr 0, .retAddr 0] [] f (QV Q)
  refine w_iconst (pc' := 1) rfl rfl (v := 0) rfl ?_
  refine w_istore_n (pc' := 2) rfl rfl (xl' := [.ref x0, .int x1, .int 0, .retAddr 0]) rfl ?_
  refine w_aload_n (pc' := 3) rfl rfl rfl ?_
  refine w_alen (pc' := 4) rfl rfl qx0 rfl ?_
  refine w_istore_n (pc' := 5) rfl rfl (xl' := [.ref x0, .int x1, .int 0, .int (iN nx0)]) rfl ?_
  exact h
theorem t_ja_fill_5 {L : Nat} {xs : Nat → Int32} {x0 : Nat} {nx0 : Nat} {x1 : Int32} {x2 : Int32} {x3 : Int32} {f : Hp} {Q : Hp → Prop} (qx0 : xS0 L x0 = (20, nx0)) (h : ((x2 < x3 → ∃ k1 : Nat, x2 = iN k1 ∧ k1 < nx0 ∧ ∀ g1, g1 = xu f x0 k1 x1 → Wp L xs xm_ja_fill 5 [.ref x0, .int x1, .int (x2 + 1), .int x3] [] g1 (QV Q)) ∧ (¬ x2 < x3 → Q f))) : Wp L xs xm_ja_fill 5 [.ref x0, .int x1, .int x2, .int x3] [] f (QV Q) := by
  refine w_iload_n (pc' := 6) rfl rfl rfl ?_
  refine w_iload_n (pc' := 7) rfl rfl rfl ?_
  refine w_br2 (pc' := 10) (t := 20) rfl rfl rfl ic_ge (fun hc => ?_) (fun hc => ?_)
  · replace h := h.2 hc
    exact w_return rfl rfl h
  · replace h := h.1 (Classical.not_not.mp hc)
    refine w_aload_n (pc' := 11) rfl rfl rfl ?_
    refine w_iload_n (pc' := 12) rfl rfl rfl ?_
    refine w_iload_n (pc' := 13) rfl rfl rfl ?_
    obtain ⟨k1, ek1, bk1, h⟩ := h
    refine w_iastore (pc' := 14) (i := k1) rfl rfl qx0 ek1 bk1 (k_len qx0 rfl) ?_
    replace h := h _ rfl
    generalize xu f x0 k1 x1 = g1 at h ⊢
    refine w_iinc (pc' := 17) rfl rfl rfl (v := (x2 + 1)) rfl (xl' := [.ref x0, .int x1, .int (x2 + 1), .int x3]) rfl ?_
    refine w_goto (pc' := 5) rfl rfl ?_
    exact h
theorem t_Rp_add_0 {L : Nat} {xs : Nat → Int32} {x0 : Nat} {x1 : Int32} {x2 : Int32} {x3 : Int32} {f : Hp} {Q : Hp → Prop} (qx0 : xS0 L x0 = (5, 0)) (h : (((f x0 0) < 12 → ∃ k1 : Nat, (f x0 0) = iN k1 ∧ k1 < 12 ∧ ∀ g1, g1 = xu f (x0 + 1) k1 x1 → ∃ k2 : Nat, (g1 x0 0) = iN k2 ∧ k2 < 12 ∧ ∀ g2, g2 = xu g1 (x0 + 2) k2 x2 → ∃ k3 : Nat, (g2 x0 0) = iN k3 ∧ k3 < 12 ∧ ∀ g3, g3 = xu g2 (x0 + 3) k3 x3 → ∀ g4, g4 = xu g3 x0 0 ((g3 x0 0) + 1) → Q g4) ∧ (¬ (f x0 0) < 12 → Q f))) : CV L xs xm_Rp_add [.ref x0, .int x1, .int x2, .int x3] f Q := by
  show Wp L xs xm_Rp_add 0 [.ref x0, .int x1, .int x2, .int x3] [] f (QV Q)
  refine w_aload_n (pc' := 1) rfl rfl rfl ?_
  refine w_getI (pc' := 4) rfl rfl rfl rfl rfl qx0 ?_
  refine w_bipush (pc' := 6) rfl rfl (v := 12) rfl ?_
  refine w_br2 (pc' := 9) (t := 49) rfl rfl rfl ic_ge (fun hc => ?_) (fun hc => ?_)
  · replace h := h.2 hc
    exact w_return rfl rfl h
  · replace h := h.1 (Classical.not_not.mp hc)
    refine w_aload_n (pc' := 10) rfl rfl rfl ?_
    have q1 : xR0 x0 1 = some (x0 + 1) ∧ xS0 L (x0 + 1) = (20, 12) := (kf_5_1 qx0)
    refine w_getR (pc' := 13) rfl rfl rfl rfl qx0 q1.1 ?_
    refine w_aload_n (pc' := 14) rfl rfl rfl ?_
    refine w_getI (pc' := 17) rfl rfl rfl rfl rfl qx0 ?_
    refine w_iload_n (pc' := 18) rfl rfl rfl ?_
    obtain ⟨k1, ek1, bk1, h⟩ := h
    refine w_iastore (pc' := 19) (i := k1) rfl rfl q1.2 ek1 bk1 (by omega) ?_
    replace h := h _ rfl
    generalize xu f (x0 + 1) k1 x1 = g1 at h ⊢
    refine w_aload_n (pc' := 20) rfl rfl rfl ?_
    have q2 : xR0 x0 2 = some (x0 + 2) ∧ xS0 L (x0 + 2) = (20, 12) := (kf_5_2 qx0)
    refine w_getR (pc' := 23) rfl rfl rfl rfl qx0 q2.1 ?_
    refine w_aload_n (pc' := 24) rfl rfl rfl ?_
    refine w_getI (pc' := 27) rfl rfl rfl rfl rfl qx0 ?_
    refine w_iload_n (pc' := 28) rfl rfl rfl ?_
    obtain ⟨k2, ek2, bk2, h⟩ := h
    refine w_iastore (pc' := 29) (i := k2) rfl rfl q2.2 ek2 bk2 (by omega) ?_
    replace h := h _ rfl
    generalize xu g1 (x0 + 2) k2 x2 = g2 at h ⊢
    refine w_aload_n (pc' := 30) rfl rfl rfl ?_
    have q3 : xR0 x0 3 = some (x0 + 3) ∧ xS0 L (x0 + 3) = (20, 12) := (kf_5_3 qx0)
    refine w_getR (pc' := 33) rfl rfl rfl rfl qx0 q3.1 ?_
    refine w_aload_n (pc' := 34) rfl rfl rfl ?_
    refine w_getI (pc' := 37) rfl rfl rfl rfl rfl qx0 ?_
    refine w_iload_n (pc' := 38) rfl rfl rfl ?_
    obtain ⟨k3, ek3, bk3, h⟩ := h
    refine w_iastore (pc' := 39) (i := k3) rfl rfl q3.2 ek3 bk3 (by omega) ?_
    replace h := h _ rfl
    generalize xu g2 (x0 + 3) k3 x3 = g3 at h ⊢
    refine w_aload_n (pc' := 40) rfl rfl rfl ?_
    refine w_dupA (pc' := 41) rfl rfl ?_
    refine w_getI (pc' := 44) rfl rfl rfl rfl rfl qx0 ?_
    refine w_iconst (pc' := 45) rfl rfl (v := 1) rfl ?_
    refine w_iadd (pc' := 46) rfl rfl ?_
    refine w_putI (pc' := 49) rfl rfl rfl rfl qx0 ?_
    replace h := h _ rfl
    generalize xu g3 x0 0 ((g3 x0 0) + 1) = g4 at h ⊢
    exact w_return rfl rfl h
theorem t_Co_addOrder_0 {L : Nat} {xs : Nat → Int32} {x0 : Nat} {x1 : Int32} {x2 : Int32} {f : Hp} {Q : Hp → Prop} (qx0 : xS0 L x0 = (1, 0)) (h : (((f x0 4) < 10 → ∃ k1 : Nat, (f x0 4) = iN k1 ∧ k1 < 10 ∧ ∀ g1, g1 = xu f (x0 + 2) k1 x1 → ∃ k2 : Nat, (g1 x0 4) = iN k2 ∧ k2 < 10 ∧ ∀ g2, g2 = xu g1 (x0 + 3) k2 x2 → ∀ g3, g3 = xu g2 x0 4 ((g2 x0 4) + 1) → Q g3) ∧ (¬ (f x0 4) < 10 → Q f))) : CV L xs xm_Co_addOrder [.ref x0, .int x1, .int x2] f Q := by
  show Wp L xs xm_Co_addOrder 0 [.ref x0, .int x1, .int x2] [] f (QV Q)
  refine w_aload_n (pc' := 1) rfl rfl rfl ?_
  refine w_getI (pc' := 4) rfl rfl rfl rfl rfl qx0 ?_
  refine w_bipush (pc' := 6) rfl rfl (v := 10) rfl ?_
  refine w_br2 (pc' := 9) (t := 39) rfl rfl rfl ic_ge (fun hc => ?_) (fun hc => ?_)
  · replace h := h.2 hc
    exact w_return rfl rfl h
  · replace h := h.1 (Classical.not_not.mp hc)
    refine w_aload_n (pc' := 10) rfl rfl rfl ?_
    have q1 : xR0 x0 6 = some (x0 + 2) ∧ xS0 L (x0 + 2) = (20, 10) := (kf_1_6 qx0)
    refine w_getR (pc' := 13) rfl rfl rfl rfl qx0 q1.1 ?_
    refine w_aload_n (pc' := 14) rfl rfl rfl ?_
    refine w_getI (pc' := 17) rfl rfl rfl rfl rfl qx0 ?_
    refine w_iload_n (pc' := 18) rfl rfl rfl ?_
    obtain ⟨k1, ek1, bk1, h⟩ := h
    refine w_iastore (pc' := 19) (i := k1) rfl rfl q1.2 ek1 bk1 (by omega) ?_
    replace h := h _ rfl
    generalize xu f (x0 + 2) k1 x1 = g1 at h ⊢
    refine w_aload_n (pc' := 20) rfl rfl rfl ?_
    have q2 : xR0 x0 7 = some (x0 + 3) ∧ xS0 L (x0 + 3) = (20, 10) := (kf_1_7 qx0)
    refine w_getR (pc' := 23) rfl rfl rfl rfl qx0 q2.1 ?_
    refine w_aload_n (pc' := 24) rfl rfl rfl ?_
    refine w_getI (pc' := 27) rfl rfl rfl rfl rfl qx0 ?_
    refine w_iload_n (pc' := 28) rfl rfl rfl ?_
    obtain ⟨k2, ek2, bk2, h⟩ := h
    refine w_iastore (pc' := 29) (i := k2) rfl rfl q2.2 ek2 bk2 (by omega) ?_
    replace h := h _ rfl
    generalize xu g1 (x0 + 3) k2 x2 = g2 at h ⊢
    refine w_aload_n (pc' := 30) rfl rfl rfl ?_
    refine w_dupA (pc' := 31) rfl rfl ?_
    refine w_getI (pc' := 34) rfl rfl rfl rfl rfl qx0 ?_
    refine w_iconst (pc' := 35) rfl rfl (v := 1) rfl ?_
    refine w_iadd (pc' := 36) rfl rfl ?_
    refine w_putI (pc' := 39) rfl rfl rfl rfl qx0 ?_
    replace h := h _ rfl
    generalize xu g2 x0 4 ((g2 x0 4) + 1) = g3 at h ⊢
    exact w_return rfl rfl h
theorem t_Ru_add_0 {L : Nat} {xs : Nat → Int32} {x0 : Nat} {x1 : Int32} {x2 : Int32} {x3 : Int32} {x4 : Int32} {f : Hp} {Q : Hp → Prop} (qx0 : xS0 L x0 = (6, 0)) (h : (((f x0 0) < 40 → ∃ k1 : Nat, (f x0 0) = iN k1 ∧ k1 < 40 ∧ ∀ g1, g1 = xu f (x0 + 1) k1 x1 → ∃ k2 : Nat, (g1 x0 0) = iN k2 ∧ k2 < 40 ∧ ∀ g2, g2 = xu g1 (x0 + 2) k2 x2 → ∃ k3 : Nat, (g2 x0 0) = iN k3 ∧ k3 < 40 ∧ ∀ g3, g3 = xu g2 (x0 + 3) k3 x3 → ∃ k4 : Nat, (g3 x0 0) = iN k4 ∧ k4 < 40 ∧ ∀ g4, g4 = xu g3 (x0 + 4) k4 x4 → ∀ g5, g5 = xu g4 x0 0 ((g4 x0 0) + 1) → Q g5) ∧ (¬ (f x0 0) < 40 → Q f))) : CV L xs xm_Ru_add [.ref x0, .int x1, .int x2, .int x3, .int x4] f Q := by
  show Wp L xs xm_Ru_add 0 [.ref x0, .int x1, .int x2, .int x3, .int x4] [] f (QV Q)
  refine w_aload_n (pc' := 1) rfl rfl rfl ?_
  refine w_getI (pc' := 4) rfl rfl rfl rfl rfl qx0 ?_
  refine w_bipush (pc' := 6) rfl rfl (v := 40) rfl ?_
  refine w_br2 (pc' := 9) (t := 60) rfl rfl rfl ic_ge (fun hc => ?_) (fun hc => ?_)
  · replace h := h.2 hc
    exact w_return rfl rfl h
  · replace h := h.1 (Classical.not_not.mp hc)
    refine w_aload_n (pc' := 10) rfl rfl rfl ?_
    have q1 : xR0 x0 1 = some (x0 + 1) ∧ xS0 L (x0 + 1) = (20, 40) := (kf_6_1 qx0)
    refine w_getR (pc' := 13) rfl rfl rfl rfl qx0 q1.1 ?_
    refine w_aload_n (pc' := 14) rfl rfl rfl ?_
    refine w_getI (pc' := 17) rfl rfl rfl rfl rfl qx0 ?_
    refine w_iload_n (pc' := 18) rfl rfl rfl ?_
    obtain ⟨k1, ek1, bk1, h⟩ := h
    refine w_iastore (pc' := 19) (i := k1) rfl rfl q1.2 ek1 bk1 (by omega) ?_
    replace h := h _ rfl
    generalize xu f (x0 + 1) k1 x1 = g1 at h ⊢
    refine w_aload_n (pc' := 20) rfl rfl rfl ?_
    have q2 : xR0 x0 2 = some (x0 + 2) ∧ xS0 L (x0 + 2) = (20, 40) := (kf_6_2 qx0)
    refine w_getR (pc' := 23) rfl rfl rfl rfl qx0 q2.1 ?_
    refine w_aload_n (pc' := 24) rfl rfl rfl ?_
    refine w_getI (pc' := 27) rfl rfl rfl rfl rfl qx0 ?_
    refine w_iload_n (pc' := 28) rfl rfl rfl ?_
    obtain ⟨k2, ek2, bk2, h⟩ := h
    refine w_iastore (pc' := 29) (i := k2) rfl rfl q2.2 ek2 bk2 (by omega) ?_
    replace h := h _ rfl
    generalize xu g1 (x0 + 2) k2 x2 = g2 at h ⊢
    refine w_aload_n (pc' := 30) rfl rfl rfl ?_
    have q3 : xR0 x0 3 = some (x0 + 3) ∧ xS0 L (x0 + 3) = (20, 40) := (kf_6_3 qx0)
    refine w_getR (pc' := 33) rfl rfl rfl rfl qx0 q3.1 ?_
    refine w_aload_n (pc' := 34) rfl rfl rfl ?_
    refine w_getI (pc' := 37) rfl rfl rfl rfl rfl qx0 ?_
    refine w_iload_n (pc' := 38) rfl rfl rfl ?_
    obtain ⟨k3, ek3, bk3, h⟩ := h
    refine w_iastore (pc' := 39) (i := k3) rfl rfl q3.2 ek3 bk3 (by omega) ?_
    replace h := h _ rfl
    generalize xu g2 (x0 + 3) k3 x3 = g3 at h ⊢
    refine w_aload_n (pc' := 40) rfl rfl rfl ?_
    have q4 : xR0 x0 4 = some (x0 + 4) ∧ xS0 L (x0 + 4) = (20, 40) := (kf_6_4 qx0)
    refine w_getR (pc' := 43) rfl rfl rfl rfl qx0 q4.1 ?_
    refine w_aload_n (pc' := 44) rfl rfl rfl ?_
    refine w_getI (pc' := 47) rfl rfl rfl rfl rfl qx0 ?_
    refine w_iload (pc' := 49) rfl rfl rfl ?_
    obtain ⟨k4, ek4, bk4, h⟩ := h
    refine w_iastore (pc' := 50) (i := k4) rfl rfl q4.2 ek4 bk4 (by omega) ?_
    replace h := h _ rfl
    generalize xu g3 (x0 + 4) k4 x4 = g4 at h ⊢
    refine w_aload_n (pc' := 51) rfl rfl rfl ?_
    refine w_dupA (pc' := 52) rfl rfl ?_
    refine w_getI (pc' := 55) rfl rfl rfl rfl rfl qx0 ?_
    refine w_iconst (pc' := 56) rfl rfl (v := 1) rfl ?_
    refine w_iadd (pc' := 57) rfl rfl ?_
    refine w_putI (pc' := 60) rfl rfl rfl rfl qx0 ?_
    replace h := h _ rfl
    generalize xu g4 x0 0 ((g4 x0 0) + 1) = g5 at h ⊢
    exact w_return rfl rfl h
theorem t_Co_members_0 {L : Nat} {xs : Nat → Int32} {x0 : Nat} {f : Hp} {Q : Int32 → Hp → Prop} (qx0 : xS0 L x0 = (1, 0)) (h : Q ((3 * (f x0 0)) + 1) f) : CI L xs xm_Co_members [.ref x0] f Q := by
  show Wp L xs xm_Co_members 0 [.ref x0] [] f (QI Q)
  refine w_iconst (pc' := 1) rfl rfl (v := 3) rfl ?_
  refine w_aload_n (pc' := 2) rfl rfl rfl ?_
  refine w_getI (pc' := 5) rfl rfl rfl rfl rfl qx0 ?_
  refine w_imul (pc' := 6) rfl rfl ?_
  refine w_iconst (pc' := 7) rfl rfl (v := 1) rfl ?_
  refine w_iadd (pc' := 8) rfl rfl ?_
  exact w_ireturn rfl rfl h
theorem t_To_put_0 {L : Nat} {xs : Nat → Int32} {x0 : Nat} {x1 : Int32} {x2 : Int32} {f : Hp} {Q : Hp → Prop} (qx0 : xS0 L x0 = (10, 0)) (h : ((x1 < 0 → Q f) ∧ (¬ x1 < 0 → ((x1 < 3 → ((x2 < 0 → Q f) ∧ (¬ x2 < 0 → ((x2 < 2 → ((x1 = 0 → ∃ k3 : Nat, x2 = iN k3 ∧ k3 < 2 ∧ CV L xs xm_Co_take [.ref (x0 + 6 + 21 * k3), .ref 52] f (fun g3 => Wp L xs xm_To_put 73 [.ref x0, .int x1, .int x2, .ref 51] [] g3 (QV Q))) ∧ (¬ x1 = 0 → ((x1 = 1 → ∃ k2 : Nat, x2 = iN k2 ∧ k2 < 2 ∧ CV L xs xm_Ru_take [.ref (x0 + 18 + 21 * k2), .ref 64] f (fun g2 => Wp L xs xm_To_put 73 [.ref x0, .int x1, .int x2, .ref 51] [] g2 (QV Q))) ∧ (¬ x1 = 1 → ∃ k1 : Nat, x2 = iN k1 ∧ k1 < 2 ∧ CV L xs xm_Rp_take [.ref (x0 + 23 + 21 * k1), .ref 69] f (fun g1 => Wp L xs xm_To_put 73 [.ref x0, .int x1, .int x2, .ref 51] [] g1 (QV Q))))))) ∧ (¬ x2 < 2 → Q f))))) ∧ (¬ x1 < 3 → Q f))))) : CV L xs xm_To_put [.ref x0, .int x1, .int x2, .ref 51] f Q := by
  show Wp L xs xm_To_put 0 [.ref x0, .int x1, .int x2, .ref 51] [] f (QV Q)
  refine w_iload_n (pc' := 1) rfl rfl rfl ?_
  refine w_br (pc' := 4) (t := 18) rfl rfl rfl ic_lt (fun hc => ?_) (fun hc => ?_)
  · replace h := h.1 hc
    exact w_return rfl rfl h
  · replace h := h.2 hc
    refine w_iload_n (pc' := 5) rfl rfl rfl ?_
    refine w_iconst (pc' := 6) rfl rfl (v := 3) rfl ?_
    refine w_br2 (pc' := 9) (t := 18) rfl rfl rfl ic_ge (fun hc => ?_) (fun hc => ?_)
    · replace h := h.2 hc
      exact w_return rfl rfl h
    · replace h := h.1 (Classical.not_not.mp hc)
      refine w_iload_n (pc' := 10) rfl rfl rfl ?_
      refine w_br (pc' := 13) (t := 18) rfl rfl rfl ic_lt (fun hc => ?_) (fun hc => ?_)
      · replace h := h.1 hc
        exact w_return rfl rfl h
      · replace h := h.2 hc
        refine w_iload_n (pc' := 14) rfl rfl rfl ?_
        refine w_iconst (pc' := 15) rfl rfl (v := 2) rfl ?_
        refine w_br2 (pc' := 18) (t := 19) rfl rfl rfl ic_lt (fun hc => ?_) (fun hc => ?_)
        · replace h := h.1 hc
          refine w_iload_n (pc' := 20) rfl rfl rfl ?_
          refine w_br (pc' := 23) (t := 39) rfl rfl rfl ic_ne (fun hc => ?_) (fun hc => ?_)
          · replace h := h.2 hc
            refine w_iload_n (pc' := 40) rfl rfl rfl ?_
            refine w_iconst (pc' := 41) rfl rfl (v := 1) rfl ?_
            refine w_br2 (pc' := 44) (t := 60) rfl rfl rfl ic_ne (fun hc => ?_) (fun hc => ?_)
            · replace h := h.2 hc
              refine w_aload_n (pc' := 61) rfl rfl rfl ?_
              have q1 : xR0 x0 7 = some (x0 + 5) ∧ xS0 L (x0 + 5) = (28, 2) := (kf_10_7 qx0)
              refine w_getR (pc' := 64) rfl rfl rfl rfl qx0 q1.1 ?_
              refine w_iload_n (pc' := 65) rfl rfl rfl ?_
              obtain ⟨k1, ek1, bk1, h⟩ := h
              have q2 : xR0 (x0 + 5) k1 = some (x0 + 23 + 21 * k1) ∧ xS0 L (x0 + 23 + 21 * k1) = (5, 0) := ke_28 q1.2 bk1
              refine w_aaload (pc' := 66) (i := k1) rfl rfl q1.2 (by omega) ek1 bk1 (by omega) q2.1 ?_
              refine w_aload_n (pc' := 67) rfl rfl rfl ?_
              have q3 : xR0 51 2 = some 69 ∧ xS0 L 69 = (5, 0) := (kf_4_2 (show xS0 L 51 = (4, 0) from rfl))
              refine w_getR (pc' := 70) rfl rfl rfl rfl (show xS0 L 51 = (4, 0) from rfl) q3.1 ?_
              refine w_cv (pc' := 73) (cm := xm_Rp_take) (as := [.ref 69]) (a := (x0 + 23 + 21 * k1)) (rest := []) rfl rfl rfl  (xa_Rp_take (Nat.le_of_ble_eq_true rfl)) q2.2 rfl (CV.k h fun g1 h => ?_)
              show Wp L xs xm_To_put 73 [.ref x0, .int x1, .int x2, .ref 51] [] g1 _
              exact h
            · replace h := h.1 (Classical.not_not.mp hc)
              refine w_aload_n (pc' := 45) rfl rfl rfl ?_
              have q4 : xR0 x0 6 = some (x0 + 4) ∧ xS0 L (x0 + 4) = (27, 2) := (kf_10_6 qx0)
              refine w_getR (pc' := 48) rfl rfl rfl rfl qx0 q4.1 ?_
              refine w_iload_n (pc' := 49) rfl rfl rfl ?_
              obtain ⟨k2, ek2, bk2, h⟩ := h
              have q5 : xR0 (x0 + 4) k2 = some (x0 + 18 + 21 * k2) ∧ xS0 L (x0 + 18 + 21 * k2) = (6, 0) := ke_27 q4.2 bk2
              refine w_aaload (pc' := 50) (i := k2) rfl rfl q4.2 (by omega) ek2 bk2 (by omega) q5.1 ?_
              refine w_aload_n (pc' := 51) rfl rfl rfl ?_
              have q6 : xR0 51 1 = some 64 ∧ xS0 L 64 = (6, 0) := (kf_4_1 (show xS0 L 51 = (4, 0) from rfl))
              refine w_getR (pc' := 54) rfl rfl rfl rfl (show xS0 L 51 = (4, 0) from rfl) q6.1 ?_
              refine w_cv (pc' := 57) (cm := xm_Ru_take) (as := [.ref 64]) (a := (x0 + 18 + 21 * k2)) (rest := []) rfl rfl rfl  (xa_Ru_take (Nat.le_of_ble_eq_true rfl)) q5.2 rfl (CV.k h fun g2 h => ?_)
              show Wp L xs xm_To_put 57 [.ref x0, .int x1, .int x2, .ref 51] [] g2 _
              refine w_goto (pc' := 73) rfl rfl ?_
              exact h
          · replace h := h.1 (Classical.not_not.mp hc)
            refine w_aload_n (pc' := 24) rfl rfl rfl ?_
            have q7 : xR0 x0 5 = some (x0 + 3) ∧ xS0 L (x0 + 3) = (26, 2) := (kf_10_5 qx0)
            refine w_getR (pc' := 27) rfl rfl rfl rfl qx0 q7.1 ?_
            refine w_iload_n (pc' := 28) rfl rfl rfl ?_
            obtain ⟨k3, ek3, bk3, h⟩ := h
            have q8 : xR0 (x0 + 3) k3 = some (x0 + 6 + 21 * k3) ∧ xS0 L (x0 + 6 + 21 * k3) = (1, 0) := ke_26 q7.2 bk3
            refine w_aaload (pc' := 29) (i := k3) rfl rfl q7.2 (by omega) ek3 bk3 (by omega) q8.1 ?_
            refine w_aload_n (pc' := 30) rfl rfl rfl ?_
            have q9 : xR0 51 0 = some 52 ∧ xS0 L 52 = (1, 0) := (kf_4_0 (show xS0 L 51 = (4, 0) from rfl))
            refine w_getR (pc' := 33) rfl rfl rfl rfl (show xS0 L 51 = (4, 0) from rfl) q9.1 ?_
            refine w_cv (pc' := 36) (cm := xm_Co_take) (as := [.ref 52]) (a := (x0 + 6 + 21 * k3)) (rest := []) rfl rfl rfl  (xa_Co_take (Nat.le_of_ble_eq_true rfl)) q8.2 rfl (CV.k h fun g3 h => ?_)
            show Wp L xs xm_To_put 36 [.ref x0, .int x1, .int x2, .ref 51] [] g3 _
            refine w_goto (pc' := 73) rfl rfl ?_
            exact h
        · replace h := h.2 hc
          exact w_return rfl rfl h
theorem t_To_put_73 {L : Nat} {xs : Nat → Int32} {x0 : Nat} {x1 : Int32} {x2 : Int32} {f : Hp} {Q : Hp → Prop} (qx0 : xS0 L x0 = (10, 0)) (h : ∃ k1 : Nat, x1 = iN k1 ∧ k1 < 3 ∧ ((x2 = (f (x0 + 2) k1) → ∀ g1, g1 = xu f (x0 + 2) k1 ((f (x0 + 2) k1) + 1) → Q g1) ∧ (¬ x2 = (f (x0 + 2) k1) → Q f))) : Wp L xs xm_To_put 73 [.ref x0, .int x1, .int x2, .ref 51] [] f (QV Q) := by
  refine w_iload_n (pc' := 74) rfl rfl rfl ?_
  refine w_aload_n (pc' := 75) rfl rfl rfl ?_
  have q1 : xR0 x0 4 = some (x0 + 2) ∧ xS0 L (x0 + 2) = (20, 3) := (kf_10_4 qx0)
  refine w_getR (pc' := 78) rfl rfl rfl rfl qx0 q1.1 ?_
  refine w_iload_n (pc' := 79) rfl rfl rfl ?_
  obtain ⟨k1, ek1, bk1, h⟩ := h
  refine w_iaload (pc' := 80) (i := k1) rfl rfl q1.2 ek1 bk1 (by omega) ?_
  refine w_br2 (pc' := 83) (t := 93) rfl rfl rfl ic_ne (fun hc => ?_) (fun hc => ?_)
  · replace h := h.2 hc
    exact w_return rfl rfl h
  · replace h := h.1 (Classical.not_not.mp hc)
    refine w_aload_n (pc' := 84) rfl rfl rfl ?_
    have q2 : xR0 x0 4 = some (x0 + 2) ∧ xS0 L (x0 + 2) = (20, 3) := (kf_10_4 qx0)
    refine w_getR (pc' := 87) rfl rfl rfl rfl qx0 q2.1 ?_
    refine w_iload_n (pc' := 88) rfl rfl rfl ?_
    refine w_dup2 (pc' := 89) rfl rfl ?_
    refine w_iaload (pc' := 90) (i := k1) rfl rfl q2.2 ek1 bk1 (by omega) ?_
    refine w_iconst (pc' := 91) rfl rfl (v := 1) rfl ?_
    refine w_iadd (pc' := 92) rfl rfl ?_
    refine w_iastore (pc' := 93) (i := k1) rfl rfl q2.2 ek1 bk1 (by omega) ?_
    replace h := h _ rfl
    generalize xu f (x0 + 2) k1 ((f (x0 + 2) k1) + 1) = g1 at h ⊢
    exact w_return rfl rfl h
theorem t_Co_take_0 {L : Nat} {xs : Nat → Int32} {x0 : Nat} {x1 : Nat} {f : Hp} {Q : Hp → Prop} (qx0 : xS0 L x0 = (1, 0)) (qx1 : xS0 L x1 = (1, 0)) (h : ∀ g1, g1 = xu f x0 0 (f x1 0) → ∀ g2, g2 = xu g1 x0 1 (g1 x1 1) → ∀ g3, g3 = xu g2 x0 2 (g2 x1 2) → ∀ g4, g4 = xu g3 x0 3 (g3 x1 3) → ∀ g5, g5 = xu g4 x0 4 (g4 x1 4) → CV L xs xm_TP_copyAccounts [.ref (x1 + 1), .ref (x0 + 1)] g5 (fun g6 => ∀ g7, g7 = xuc g6 (x0 + 2) (va_cpy (g6 (x1 + 2)) (g6 (x0 + 2)) 0 0 10) → ∀ g8, g8 = xuc g7 (x0 + 3) (va_cpy (g7 (x1 + 3)) (g7 (x0 + 3)) 0 0 10) → Wp L xs xm_Co_take 83 [.ref x0, .ref x1, .int 0] [] g8 (QV Q))) : CV L xs xm_Co_take [.ref x0, .ref x1] f Q := by
  show Wp L xs xm_Co_take 0 [.ref x0, .ref x1, .retAddr 0] [] f (QV Q)
  refine w_aload_n (pc' := 1) rfl rfl rfl ?_
  refine w_aload_n (pc' := 2) rfl rfl rfl ?_
  refine w_getI (pc' := 5) rfl rfl rfl rfl rfl qx1 ?_
  refine w_putI (pc' := 8) rfl rfl rfl rfl qx0 ?_
  replace h := h _ rfl
  generalize xu f x0 0 (f x1 0) = g1 at h ⊢
  refine w_aload_n (pc' := 9) rfl rfl rfl ?_
  refine w_aload_n (pc' := 10) rfl rfl rfl ?_
  refine w_getI (pc' := 13) rfl rfl rfl rfl rfl qx1 ?_
  refine w_putI (pc' := 16) rfl rfl rfl rfl qx0 ?_
  replace h := h _ rfl
  generalize xu g1 x0 1 (g1 x1 1) = g2 at h ⊢
  refine w_aload_n (pc' := 17) rfl rfl rfl ?_
  refine w_aload_n (pc' := 18) rfl rfl rfl ?_
  refine w_getI (pc' := 21) rfl rfl rfl rfl rfl qx1 ?_
  refine w_putI (pc' := 24) rfl rfl rfl rfl qx0 ?_
  replace h := h _ rfl
  generalize xu g2 x0 2 (g2 x1 2) = g3 at h ⊢
  refine w_aload_n (pc' := 25) rfl rfl rfl ?_
  refine w_aload_n (pc' := 26) rfl rfl rfl ?_
  refine w_getI (pc' := 29) rfl rfl rfl rfl rfl qx1 ?_
  refine w_putI (pc' := 32) rfl rfl rfl rfl qx0 ?_
  replace h := h _ rfl
  generalize xu g3 x0 3 (g3 x1 3) = g4 at h ⊢
  refine w_aload_n (pc' := 33) rfl rfl rfl ?_
  refine w_aload_n (pc' := 34) rfl rfl rfl ?_
  refine w_getI (pc' := 37) rfl rfl rfl rfl rfl qx1 ?_
  refine w_putI (pc' := 40) rfl rfl rfl rfl qx0 ?_
  replace h := h _ rfl
  generalize xu g4 x0 4 (g4 x1 4) = g5 at h ⊢
  refine w_aload_n (pc' := 41) rfl rfl rfl ?_
  have q1 : xR0 x1 5 = some (x1 + 1) ∧ xS0 L (x1 + 1) = (20, 8) := (kf_1_5 qx1)
  refine w_getR (pc' := 44) rfl rfl rfl rfl qx1 q1.1 ?_
  refine w_aload_n (pc' := 45) rfl rfl rfl ?_
  have q2 : xR0 x0 5 = some (x0 + 1) ∧ xS0 L (x0 + 1) = (20, 8) := (kf_1_5 qx0)
  refine w_getR (pc' := 48) rfl rfl rfl rfl qx0 q2.1 ?_
  refine w_cs (pc' := 51) (cm := xm_TP_copyAccounts) (as := [.ref (x1 + 1), .ref (x0 + 1)]) (rest := []) rfl rfl rfl (Or.inr rfl) (xa_TP_copyAccounts (Nat.le_of_ble_eq_true rfl)) (CV.k h fun g6 h => ?_)
  show Wp L xs xm_Co_take 51 [.ref x0, .ref x1, .retAddr 0] [] g6 _
  refine w_aload_n (pc' := 52) rfl rfl rfl ?_
  have q3 : xR0 x1 6 = some (x1 + 2) ∧ xS0 L (x1 + 2) = (20, 10) := (kf_1_6 qx1)
  refine w_getR (pc' := 55) rfl rfl rfl rfl qx1 q3.1 ?_
  refine w_iconst (pc' := 56) rfl rfl (v := 0) rfl ?_
  refine w_aload_n (pc' := 57) rfl rfl rfl ?_
  have q4 : xR0 x0 6 = some (x0 + 2) ∧ xS0 L (x0 + 2) = (20, 10) := (kf_1_6 qx0)
  refine w_getR (pc' := 60) rfl rfl rfl rfl qx0 q4.1 ?_
  refine w_iconst (pc' := 61) rfl rfl (v := 0) rfl ?_
  refine w_bipush (pc' := 63) rfl rfl (v := 10) rfl ?_
  refine w_copy (pc' := 66) rfl rfl rfl q3.2 q4.2 (Or.inl rfl) (sp := 0) (dp := 0) (c := 10) rfl rfl rfl (by omega) (by omega) (by omega) (by omega) (Nat.le_of_ble_eq_true rfl) ?_
  replace h := h _ rfl
  generalize xuc g6 (x0 + 2) (va_cpy (g6 (x1 + 2)) (g6 (x0 + 2)) 0 0 10) = g7 at h ⊢
  refine w_aload_n (pc' := 67) rfl rfl rfl ?_
  have q5 : xR0 x1 7 = some (x1 + 3) ∧ xS0 L (x1 + 3) = (20, 10) := (kf_1_7 qx1)
  refine w_getR (pc' := 70) rfl rfl rfl rfl qx1 q5.1 ?_
  refine w_iconst (pc' := 71) rfl rfl (v := 0) rfl ?_
  refine w_aload_n (pc' := 72) rfl rfl rfl ?_
  have q6 : xR0 x0 7 = some (x0 + 3) ∧ xS0 L (x0 + 3) = (20, 10) := (kf_1_7 qx0)
  refine w_getR (pc' := 75) rfl rfl rfl rfl qx0 q6.1 ?_
  refine w_iconst (pc' := 76) rfl rfl (v := 0) rfl ?_
  refine w_bipush (pc' := 78) rfl rfl (v := 10) rfl ?_
  refine w_copy (pc' := 81) rfl rfl rfl q5.2 q6.2 (Or.inl rfl) (sp := 0) (dp := 0) (c := 10) rfl rfl rfl (by omega) (by omega) (by omega) (by omega) (Nat.le_of_ble_eq_true rfl) ?_
  replace h := h _ rfl
  generalize xuc g7 (x0 + 3) (va_cpy (g7 (x1 + 3)) (g7 (x0 + 3)) 0 0 10) = g8 at h ⊢
  refine w_iconst (pc' := 82) rfl rfl (v := 0) rfl ?_
  refine w_istore_n (pc' := 83) rfl rfl (xl' := [.ref x0, .ref x1, .int 0]) rfl ?_
  exact h
theorem t_Co_take_83 {L : Nat} {xs : Nat → Int32} {x0 : Nat} {x1 : Nat} {x2 : Int32} {f : Hp} {Q : Hp → Prop} (qx0 : xS0 L x0 = (1, 0)) (qx1 : xS0 L x1 = (1, 0)) (h : ((x2 < 7 → ∃ k1 : Nat, x2 = iN k1 ∧ k1 < 7 ∧ ∀ g1, g1 = xuc f (x0 + 5 + k1) (va_cpy (f (x1 + 5 + k1)) (f (x0 + 5 + k1)) 0 0 7) → Wp L xs xm_Co_take 83 [.ref x0, .ref x1, .int (x2 + 1)] [] g1 (QV Q)) ∧ (¬ x2 < 7 → Q f))) : Wp L xs xm_Co_take 83 [.ref x0, .ref x1, .int x2] [] f (QV Q) := by
  refine w_iload_n (pc' := 84) rfl rfl rfl ?_
  refine w_bipush (pc' := 86) rfl rfl (v := 7) rfl ?_
  refine w_br2 (pc' := 89) (t := 114) rfl rfl rfl ic_ge (fun hc => ?_) (fun hc => ?_)
  · replace h := h.2 hc
    exact w_return rfl rfl h
  · replace h := h.1 (Classical.not_not.mp hc)
    refine w_aload_n (pc' := 90) rfl rfl rfl ?_
    have q1 : xR0 x1 8 = some (x1 + 4) ∧ kG L (x1 + 4) 7 := (kf_1_8 qx1)
    refine w_getR (pc' := 93) rfl rfl rfl rfl qx1 q1.1 ?_
    refine w_iload_n (pc' := 94) rfl rfl rfl ?_
    obtain ⟨k1, ek1, bk1, h⟩ := h
    have q2 : xR0 (x1 + 4) k1 = some (x1 + 5 + k1) ∧ xS0 L (x1 + 5 + k1) = (20, 7) := q1.2.2 k1 bk1
    refine w_aaload (pc' := 95) (i := k1) rfl rfl q1.2.1 (by omega) ek1 bk1 (by omega) q2.1 ?_
    refine w_iconst (pc' := 96) rfl rfl (v := 0) rfl ?_
    refine w_aload_n (pc' := 97) rfl rfl rfl ?_
    have q3 : xR0 x0 8 = some (x0 + 4) ∧ kG L (x0 + 4) 7 := (kf_1_8 qx0)
    refine w_getR (pc' := 100) rfl rfl rfl rfl qx0 q3.1 ?_
    refine w_iload_n (pc' := 101) rfl rfl rfl ?_
    have q4 : xR0 (x0 + 4) k1 = some (x0 + 5 + k1) ∧ xS0 L (x0 + 5 + k1) = (20, 7) := q3.2.2 k1 bk1
    refine w_aaload (pc' := 102) (i := k1) rfl rfl q3.2.1 (by omega) ek1 bk1 (by omega) q4.1 ?_
    refine w_iconst (pc' := 103) rfl rfl (v := 0) rfl ?_
    refine w_bipush (pc' := 105) rfl rfl (v := 7) rfl ?_
    refine w_copy (pc' := 108) rfl rfl rfl q2.2 q4.2 (Or.inl rfl) (sp := 0) (dp := 0) (c := 7) rfl rfl rfl (by omega) (by omega) (by omega) (by omega) (Nat.le_of_ble_eq_true rfl) ?_
    replace h := h _ rfl
    generalize xuc f (x0 + 5 + k1) (va_cpy (f (x1 + 5 + k1)) (f (x0 + 5 + k1)) 0 0 7) = g1 at h ⊢
    refine w_iinc (pc' := 111) rfl rfl rfl (v := (x2 + 1)) rfl (xl' := [.ref x0, .ref x1, .int (x2 + 1)]) rfl ?_
    refine w_goto (pc' := 83) rfl rfl ?_
    exact h
theorem t_Ru_take_0 {L : Nat} {xs : Nat → Int32} {x0 : Nat} {x1 : Nat} {f : Hp} {Q : Hp → Prop} (qx0 : xS0 L x0 = (6, 0)) (qx1 : xS0 L x1 = (6, 0)) (h : ∀ g1, g1 = xu f x0 0 (f x1 0) → ∀ g2, g2 = xuc g1 (x0 + 1) (va_cpy (g1 (x1 + 1)) (g1 (x0 + 1)) 0 0 40) → ∀ g3, g3 = xuc g2 (x0 + 2) (va_cpy (g2 (x1 + 2)) (g2 (x0 + 2)) 0 0 40) → ∀ g4, g4 = xuc g3 (x0 + 3) (va_cpy (g3 (x1 + 3)) (g3 (x0 + 3)) 0 0 40) → ∀ g5, g5 = xuc g4 (x0 + 4) (va_cpy (g4 (x1 + 4)) (g4 (x0 + 4)) 0 0 40) → Q g5) : CV L xs xm_Ru_take [.ref x0, .ref x1] f Q := by
  show Wp L xs xm_Ru_take 0 [.ref x0, .ref x1] [] f (QV Q)
  refine w_aload_n (pc' := 1) rfl rfl rfl ?_
  refine w_aload_n (pc' := 2) rfl rfl rfl ?_
  refine w_getI (pc' := 5) rfl rfl rfl rfl rfl qx1 ?_
  refine w_putI (pc' := 8) rfl rfl rfl rfl qx0 ?_
  replace h := h _ rfl
  generalize xu f x0 0 (f x1 0) = g1 at h ⊢
  refine w_aload_n (pc' := 9) rfl rfl rfl ?_
  have q1 : xR0 x1 1 = some (x1 + 1) ∧ xS0 L (x1 + 1) = (20, 40) := (kf_6_1 qx1)
  refine w_getR (pc' := 12) rfl rfl rfl rfl qx1 q1.1 ?_
  refine w_iconst (pc' := 13) rfl rfl (v := 0) rfl ?_
  refine w_aload_n (pc' := 14) rfl rfl rfl ?_
  have q2 : xR0 x0 1 = some (x0 + 1) ∧ xS0 L (x0 + 1) = (20, 40) := (kf_6_1 qx0)
  refine w_getR (pc' := 17) rfl rfl rfl rfl qx0 q2.1 ?_
  refine w_iconst (pc' := 18) rfl rfl (v := 0) rfl ?_
  refine w_bipush (pc' := 20) rfl rfl (v := 40) rfl ?_
  refine w_copy (pc' := 23) rfl rfl rfl q1.2 q2.2 (Or.inl rfl) (sp := 0) (dp := 0) (c := 40) rfl rfl rfl (by omega) (by omega) (by omega) (by omega) (Nat.le_of_ble_eq_true rfl) ?_
  replace h := h _ rfl
  generalize xuc g1 (x0 + 1) (va_cpy (g1 (x1 + 1)) (g1 (x0 + 1)) 0 0 40) = g2 at h ⊢
  refine w_aload_n (pc' := 24) rfl rfl rfl ?_
  have q3 : xR0 x1 2 = some (x1 + 2) ∧ xS0 L (x1 + 2) = (20, 40) := (kf_6_2 qx1)
  refine w_getR (pc' := 27) rfl rfl rfl rfl qx1 q3.1 ?_
  refine w_iconst (pc' := 28) rfl rfl (v := 0) rfl ?_
  refine w_aload_n (pc' := 29) rfl rfl rfl ?_
  have q4 : xR0 x0 2 = some (x0 + 2) ∧ xS0 L (x0 + 2) = (20, 40) := (kf_6_2 qx0)
  refine w_getR (pc' := 32) rfl rfl rfl rfl qx0 q4.1 ?_
  refine w_iconst (pc' := 33) rfl rfl (v := 0) rfl ?_
  refine w_bipush (pc' := 35) rfl rfl (v := 40) rfl ?_
  refine w_copy (pc' := 38) rfl rfl rfl q3.2 q4.2 (Or.inl rfl) (sp := 0) (dp := 0) (c := 40) rfl rfl rfl (by omega) (by omega) (by omega) (by omega) (Nat.le_of_ble_eq_true rfl) ?_
  replace h := h _ rfl
  generalize xuc g2 (x0 + 2) (va_cpy (g2 (x1 + 2)) (g2 (x0 + 2)) 0 0 40) = g3 at h ⊢
  refine w_aload_n (pc' := 39) rfl rfl rfl ?_
  have q5 : xR0 x1 3 = some (x1 + 3) ∧ xS0 L (x1 + 3) = (20, 40) := (kf_6_3 qx1)
  refine w_getR (pc' := 42) rfl rfl rfl rfl qx1 q5.1 ?_
  refine w_iconst (pc' := 43) rfl rfl (v := 0) rfl ?_
  refine w_aload_n (pc' := 44) rfl rfl rfl ?_
  have q6 : xR0 x0 3 = some (x0 + 3) ∧ xS0 L (x0 + 3) = (20, 40) := (kf_6_3 qx0)
  refine w_getR (pc' := 47) rfl rfl rfl rfl qx0 q6.1 ?_
  refine w_iconst (pc' := 48) rfl rfl (v := 0) rfl ?_
  refine w_bipush (pc' := 50) rfl rfl (v := 40) rfl ?_
  refine w_copy (pc' := 53) rfl rfl rfl q5.2 q6.2 (Or.inl rfl) (sp := 0) (dp := 0) (c := 40) rfl rfl rfl (by omega) (by omega) (by omega) (by omega) (Nat.le_of_ble_eq_true rfl) ?_
  replace h := h _ rfl
  generalize xuc g3 (x0 + 3) (va_cpy (g3 (x1 + 3)) (g3 (x0 + 3)) 0 0 40) = g4 at h ⊢
  refine w_aload_n (pc' := 54) rfl rfl rfl ?_
  have q7 : xR0 x1 4 = some (x1 + 4) ∧ xS0 L (x1 + 4) = (20, 40) := (kf_6_4 qx1)
  refine w_getR (pc' := 57) rfl rfl rfl rfl qx1 q7.1 ?_
  refine w_iconst (pc' := 58) rfl rfl (v := 0) rfl ?_
  refine w_aload_n (pc' := 59) rfl rfl rfl ?_
  have q8 : xR0 x0 4 = some (x0 + 4) ∧ xS0 L (x0 + 4) = (20, 40) := (kf_6_4 qx0)
  refine w_getR (pc' := 62) rfl rfl rfl rfl qx0 q8.1 ?_
  refine w_iconst (pc' := 63) rfl rfl (v := 0) rfl ?_
  refine w_bipush (pc' := 65) rfl rfl (v := 40) rfl ?_
  refine w_copy (pc' := 68) rfl rfl rfl q7.2 q8.2 (Or.inl rfl) (sp := 0) (dp := 0) (c := 40) rfl rfl rfl (by omega) (by omega) (by omega) (by omega) (Nat.le_of_ble_eq_true rfl) ?_
  replace h := h _ rfl
  generalize xuc g4 (x0 + 4) (va_cpy (g4 (x1 + 4)) (g4 (x0 + 4)) 0 0 40) = g5 at h ⊢
  exact w_return rfl rfl h
theorem t_Rp_take_0 {L : Nat} {xs : Nat → Int32} {x0 : Nat} {x1 : Nat} {f : Hp} {Q : Hp → Prop} (qx0 : xS0 L x0 = (5, 0)) (qx1 : xS0 L x1 = (5, 0)) (h : ∀ g1, g1 = xu f x0 0 (f x1 0) → ∀ g2, g2 = xuc g1 (x0 + 1) (va_cpy (g1 (x1 + 1)) (g1 (x0 + 1)) 0 0 12) → ∀ g3, g3 = xuc g2 (x0 + 2) (va_cpy (g2 (x1 + 2)) (g2 (x0 + 2)) 0 0 12) → ∀ g4, g4 = xuc g3 (x0 + 3) (va_cpy (g3 (x1 + 3)) (g3 (x0 + 3)) 0 0 12) → Q g4) : CV L xs xm_Rp_take [.ref x0, .ref x1] f Q := by
  show Wp L xs xm_Rp_take 0 [.ref x0, .ref x1] [] f (QV Q)
  refine w_aload_n (pc' := 1) rfl rfl rfl ?_
  refine w_aload_n (pc' := 2) rfl rfl rfl ?_
  refine w_getI (pc' := 5) rfl rfl rfl rfl rfl qx1 ?_
  refine w_putI (pc' := 8) rfl rfl rfl rfl qx0 ?_
  replace h := h _ rfl
  generalize xu f x0 0 (f x1 0) = g1 at h ⊢
  refine w_aload_n (pc' := 9) rfl rfl rfl ?_
  have q1 : xR0 x1 1 = some (x1 + 1) ∧ xS0 L (x1 + 1) = (20, 12) := (kf_5_1 qx1)
  refine w_getR (pc' := 12) rfl rfl rfl rfl qx1 q1.1 ?_
  refine w_iconst (pc' := 13) rfl rfl (v := 0) rfl ?_
  refine w_aload_n (pc' := 14) rfl rfl rfl ?_
  have q2 : xR0 x0 1 = some (x0 + 1) ∧ xS0 L (x0 + 1) = (20, 12) := (kf_5_1 qx0)
  refine w_getR (pc' := 17) rfl rfl rfl rfl qx0 q2.1 ?_
  refine w_iconst (pc' := 18) rfl rfl (v := 0) rfl ?_
  refine w_bipush (pc' := 20) rfl rfl (v := 12) rfl ?_
  refine w_copy (pc' := 23) rfl rfl rfl q1.2 q2.2 (Or.inl rfl) (sp := 0) (dp := 0) (c := 12) rfl rfl rfl (by omega) (by omega) (by omega) (by omega) (Nat.le_of_ble_eq_true rfl) ?_
  replace h := h _ rfl
  generalize xuc g1 (x0 + 1) (va_cpy (g1 (x1 + 1)) (g1 (x0 + 1)) 0 0 12) = g2 at h ⊢
  refine w_aload_n (pc' := 24) rfl rfl rfl ?_
  have q3 : xR0 x1 2 = some (x1 + 2) ∧ xS0 L (x1 + 2) = (20, 12) := (kf_5_2 qx1)
  refine w_getR (pc' := 27) rfl rfl rfl rfl qx1 q3.1 ?_
  refine w_iconst (pc' := 28) rfl rfl (v := 0) rfl ?_
  refine w_aload_n (pc' := 29) rfl rfl rfl ?_
  have q4 : xR0 x0 2 = some (x0 + 2) ∧ xS0 L (x0 + 2) = (20, 12) := (kf_5_2 qx0)
  refine w_getR (pc' := 32) rfl rfl rfl rfl qx0 q4.1 ?_
  refine w_iconst (pc' := 33) rfl rfl (v := 0) rfl ?_
  refine w_bipush (pc' := 35) rfl rfl (v := 12) rfl ?_
  refine w_copy (pc' := 38) rfl rfl rfl q3.2 q4.2 (Or.inl rfl) (sp := 0) (dp := 0) (c := 12) rfl rfl rfl (by omega) (by omega) (by omega) (by omega) (Nat.le_of_ble_eq_true rfl) ?_
  replace h := h _ rfl
  generalize xuc g2 (x0 + 2) (va_cpy (g2 (x1 + 2)) (g2 (x0 + 2)) 0 0 12) = g3 at h ⊢
  refine w_aload_n (pc' := 39) rfl rfl rfl ?_
  have q5 : xR0 x1 3 = some (x1 + 3) ∧ xS0 L (x1 + 3) = (20, 12) := (kf_5_3 qx1)
  refine w_getR (pc' := 42) rfl rfl rfl rfl qx1 q5.1 ?_
  refine w_iconst (pc' := 43) rfl rfl (v := 0) rfl ?_
  refine w_aload_n (pc' := 44) rfl rfl rfl ?_
  have q6 : xR0 x0 3 = some (x0 + 3) ∧ xS0 L (x0 + 3) = (20, 12) := (kf_5_3 qx0)
  refine w_getR (pc' := 47) rfl rfl rfl rfl qx0 q6.1 ?_
  refine w_iconst (pc' := 48) rfl rfl (v := 0) rfl ?_
  refine w_bipush (pc' := 50) rfl rfl (v := 12) rfl ?_
  refine w_copy (pc' := 53) rfl rfl rfl q5.2 q6.2 (Or.inl rfl) (sp := 0) (dp := 0) (c := 12) rfl rfl rfl (by omega) (by omega) (by omega) (by omega) (Nat.le_of_ble_eq_true rfl) ?_
  replace h := h _ rfl
  generalize xuc g3 (x0 + 3) (va_cpy (g3 (x1 + 3)) (g3 (x0 + 3)) 0 0 12) = g4 at h ⊢
  exact w_return rfl rfl h
theorem t_Co_detail_0 {L : Nat} {xs : Nat → Int32} {x0 : Nat} {x1 : Int32} {f : Hp} {Q : Int32 → Hp → Prop} (qx0 : xS0 L x0 = (1, 0)) (h : ((x1 < 10 → Wp L xs xm_Co_detail 22 [.ref x0, .int x1, .retAddr 0, .retAddr 0] [] f (QI Q)) ∧ (¬ x1 < 10 → ((x1 < 18 → ∃ k1 : Nat, (x1 - 10) = iN k1 ∧ k1 < 8 ∧ Q (f (x0 + 1) k1) f) ∧ (¬ x1 < 18 → Wp L xs xm_Co_detail 22 [.ref x0, .int x1, .retAddr 0, .retAddr 0] [] f (QI Q)))))) : CI L xs xm_Co_detail [.ref x0, .int x1] f Q := by
  show Wp L xs xm_Co_detail 0 [.ref x0, .int x1, .retAddr 0, .retAddr 0] [] f (QI Q)
  refine w_iload_n (pc' := 1) rfl rfl rfl ?_
  refine w_bipush (pc' := 3) rfl rfl (v := 10) rfl ?_
  refine w_br2 (pc' := 6) (t := 22) rfl rfl rfl ic_lt (fun hc => ?_) (fun hc => ?_)
  · replace h := h.1 hc
    exact h
  · replace h := h.2 hc
    refine w_iload_n (pc' := 7) rfl rfl rfl ?_
    refine w_bipush (pc' := 9) rfl rfl (v := 18) rfl ?_
    refine w_br2 (pc' := 12) (t := 22) rfl rfl rfl ic_ge (fun hc => ?_) (fun hc => ?_)
    · replace h := h.2 hc
      exact h
    · replace h := h.1 (Classical.not_not.mp hc)
      refine w_aload_n (pc' := 13) rfl rfl rfl ?_
      have q1 : xR0 x0 5 = some (x0 + 1) ∧ xS0 L (x0 + 1) = (20, 8) := (kf_1_5 qx0)
      refine w_getR (pc' := 16) rfl rfl rfl rfl qx0 q1.1 ?_
      refine w_iload_n (pc' := 17) rfl rfl rfl ?_
      refine w_bipush (pc' := 19) rfl rfl (v := 10) rfl ?_
      refine w_isub (pc' := 20) rfl rfl ?_
      obtain ⟨k1, ek1, bk1, h⟩ := h
      refine w_iaload (pc' := 21) (i := k1) rfl rfl q1.2 ek1 bk1 (by omega) ?_
      exact w_ireturn rfl rfl h
theorem t_Co_detail_22 {L : Nat} {xs : Nat → Int32} {x0 : Nat} {x1 : Int32} {f : Hp} {Q : Int32 → Hp → Prop} (qx0 : xS0 L x0 = (1, 0)) (h : ((x1 < 20 → Wp L xs xm_Co_detail 49 [.ref x0, .int x1, .retAddr 0, .retAddr 0] [] f (QI Q)) ∧ (¬ x1 < 20 → ((x1 < (20 + (f x0 4)) → ∃ k1 : Nat, (x1 - 20) = iN k1 ∧ k1 < 10 ∧ Q (f (x0 + 2) k1) f) ∧ (¬ x1 < (20 + (f x0 4)) → Wp L xs xm_Co_detail 49 [.ref x0, .int x1, .retAddr 0, .retAddr 0] [] f (QI Q)))))) : Wp L xs xm_Co_detail 22 [.ref x0, .int x1, .retAddr 0, .retAddr 0] [] f (QI Q) := by
  refine w_iload_n (pc' := 23) rfl rfl rfl ?_
  refine w_bipush (pc' := 25) rfl rfl (v := 20) rfl ?_
  refine w_br2 (pc' := 28) (t := 49) rfl rfl rfl ic_lt (fun hc => ?_) (fun hc => ?_)
  · replace h := h.1 hc
    exact h
  · replace h := h.2 hc
    refine w_iload_n (pc' := 29) rfl rfl rfl ?_
    refine w_bipush (pc' := 31) rfl rfl (v := 20) rfl ?_
    refine w_aload_n (pc' := 32) rfl rfl rfl ?_
    refine w_getI (pc' := 35) rfl rfl rfl rfl rfl qx0 ?_
    refine w_iadd (pc' := 36) rfl rfl ?_
    refine w_br2 (pc' := 39) (t := 49) rfl rfl rfl ic_ge (fun hc => ?_) (fun hc => ?_)
    · replace h := h.2 hc
      exact h
    · replace h := h.1 (Classical.not_not.mp hc)
      refine w_aload_n (pc' := 40) rfl rfl rfl ?_
      have q1 : xR0 x0 6 = some (x0 + 2) ∧ xS0 L (x0 + 2) = (20, 10) := (kf_1_6 qx0)
      refine w_getR (pc' := 43) rfl rfl rfl rfl qx0 q1.1 ?_
      refine w_iload_n (pc' := 44) rfl rfl rfl ?_
      refine w_bipush (pc' := 46) rfl rfl (v := 20) rfl ?_
      refine w_isub (pc' := 47) rfl rfl ?_
      obtain ⟨k1, ek1, bk1, h⟩ := h
      refine w_iaload (pc' := 48) (i := k1) rfl rfl q1.2 ek1 bk1 (by omega) ?_
      exact w_ireturn rfl rfl h
theorem t_Co_detail_49 {L : Nat} {xs : Nat → Int32} {x0 : Nat} {x1 : Int32} {f : Hp} {Q : Int32 → Hp → Prop} (qx0 : xS0 L x0 = (1, 0)) (h : ((x1 < 30 → Wp L xs xm_Co_detail 76 [.ref x0, .int x1, .retAddr 0, .retAddr 0] [] f (QI Q)) ∧ (¬ x1 < 30 → ((x1 < (30 + (f x0 4)) → ∃ k1 : Nat, (x1 - 30) = iN k1 ∧ k1 < 10 ∧ Q (f (x0 + 3) k1) f) ∧ (¬ x1 < (30 + (f x0 4)) → Wp L xs xm_Co_detail 76 [.ref x0, .int x1, .retAddr 0, .retAddr 0] [] f (QI Q)))))) : Wp L xs xm_Co_detail 49 [.ref x0, .int x1, .retAddr 0, .retAddr 0] [] f (QI Q) := by
  refine w_iload_n (pc' := 50) rfl rfl rfl ?_
  refine w_bipush (pc' := 52) rfl rfl (v := 30) rfl ?_
  refine w_br2 (pc' := 55) (t := 76) rfl rfl rfl ic_lt (fun hc => ?_) (fun hc => ?_)
  · replace h := h.1 hc
    exact h
  · replace h := h.2 hc
    refine w_iload_n (pc' := 56) rfl rfl rfl ?_
    refine w_bipush (pc' := 58) rfl rfl (v := 30) rfl ?_
    refine w_aload_n (pc' := 59) rfl rfl rfl ?_
    refine w_getI (pc' := 62) rfl rfl rfl rfl rfl qx0 ?_
    refine w_iadd (pc' := 63) rfl rfl ?_
    refine w_br2 (pc' := 66) (t := 76) rfl rfl rfl ic_ge (fun hc => ?_) (fun hc => ?_)
    · replace h := h.2 hc
      exact h
    · replace h := h.1 (Classical.not_not.mp hc)
      refine w_aload_n (pc' := 67) rfl rfl rfl ?_
      have q1 : xR0 x0 7 = some (x0 + 3) ∧ xS0 L (x0 + 3) = (20, 10) := (kf_1_7 qx0)
      refine w_getR (pc' := 70) rfl rfl rfl rfl qx0 q1.1 ?_
      refine w_iload_n (pc' := 71) rfl rfl rfl ?_
      refine w_bipush (pc' := 73) rfl rfl (v := 30) rfl ?_
      refine w_isub (pc' := 74) rfl rfl ?_
      obtain ⟨k1, ek1, bk1, h⟩ := h
      refine w_iaload (pc' := 75) (i := k1) rfl rfl q1.2 ek1 bk1 (by omega) ?_
      exact w_ireturn rfl rfl h
theorem t_Co_detail_76 {L : Nat} {xs : Nat → Int32} {x0 : Nat} {x1 : Int32} {f : Hp} {Q : Int32 → Hp → Prop} (qx0 : xS0 L x0 = (1, 0)) (h : ((x1 < 100 → Q (-1) f) ∧ (¬ x1 < 100 → ((x1 < 200 → ((((x1 - 100) / 10) = (jrem (x1 - 100) 10) → Q (-1) f) ∧ (¬ ((x1 - 100) / 10) = (jrem (x1 - 100) 10) → CI L xs xm_Co_has [.ref x0, .int ((x1 - 100) / 10)] f (fun v1 g1 => ((v1 = 0 → Q (-1) g1) ∧ (¬ v1 = 0 → CI L xs xm_Co_has [.ref x0, .int (jrem (x1 - 100) 10)] g1 (fun v2 g2 => ((v2 = 0 → Q (-1) g2) ∧ (¬ v2 = 0 → ∃ k1 : Nat, ((x1 - 100) / 10) = iN k1 ∧ k1 < 7 ∧ ∃ k2 : Nat, (jrem (x1 - 100) 10) = iN k2 ∧ k2 < 7 ∧ Q (g2 (x0 + 5 + k1) k2) g2))))))))) ∧ (¬ x1 < 200 → Q (-1) f))))) : Wp L xs xm_Co_detail 76 [.ref x0, .int x1, .retAddr 0, .retAddr 0] [] f (QI Q) := by
  refine w_iload_n (pc' := 77) rfl rfl rfl ?_
  refine w_bipush (pc' := 79) rfl rfl (v := 100) rfl ?_
  refine w_br2 (pc' := 82) (t := 89) rfl rfl rfl ic_lt (fun hc => ?_) (fun hc => ?_)
  · replace h := h.1 hc
    refine w_iconst (pc' := 90) rfl rfl (v := (-1)) rfl ?_
    exact w_ireturn rfl rfl h
  · replace h := h.2 hc
    refine w_iload_n (pc' := 83) rfl rfl rfl ?_
    refine w_sipush (pc' := 86) rfl rfl (v := 200) rfl ?_
    refine w_br2 (pc' := 89) (t := 91) rfl rfl rfl ic_lt (fun hc => ?_) (fun hc => ?_)
    · replace h := h.1 hc
      refine w_iload_n (pc' := 92) rfl rfl rfl ?_
      refine w_bipush (pc' := 94) rfl rfl (v := 100) rfl ?_
      refine w_isub (pc' := 95) rfl rfl ?_
      refine w_bipush (pc' := 97) rfl rfl (v := 10) rfl ?_
      refine w_idiv (pc' := 98) rfl rfl (by decide) ?_
      refine w_istore_n (pc' := 99) rfl rfl (xl' := [.ref x0, .int x1, .int ((x1 - 100) / 10), .retAddr 0]) rfl ?_
      refine w_iload_n (pc' := 100) rfl rfl rfl ?_
      refine w_bipush (pc' := 102) rfl rfl (v := 100) rfl ?_
      refine w_isub (pc' := 103) rfl rfl ?_
      refine w_bipush (pc' := 105) rfl rfl (v := 10) rfl ?_
      refine w_irem (pc' := 106) rfl rfl (by decide) ?_
      refine w_istore_n (pc' := 107) rfl rfl (xl' := [.ref x0, .int x1, .int ((x1 - 100) / 10), .int (jrem (x1 - 100) 10)]) rfl ?_
      refine w_iload_n (pc' := 108) rfl rfl rfl ?_
      refine w_iload_n (pc' := 109) rfl rfl rfl ?_
      refine w_br2 (pc' := 112) (t := 139) rfl rfl rfl ic_eq (fun hc => ?_) (fun hc => ?_)
      · replace h := h.1 hc
        refine w_iconst (pc' := 140) rfl rfl (v := (-1)) rfl ?_
        exact w_ireturn rfl rfl h
      · replace h := h.2 hc
        refine w_aload_n (pc' := 113) rfl rfl rfl ?_
        refine w_iload_n (pc' := 114) rfl rfl rfl ?_
        refine w_cv (pc' := 117) (cm := xm_Co_has) (as := [.int ((x1 - 100) / 10)]) (a := x0) (rest := []) rfl rfl rfl  (xa_Co_has (Nat.le_of_ble_eq_true rfl)) qx0 rfl (CI.k h fun v1 g1 h => ?_)
        show Wp L xs xm_Co_detail 117 [.ref x0, .int x1, .int ((x1 - 100) / 10), .int (jrem (x1 - 100) 10)] [.int v1] g1 _
        refine w_br (pc' := 120) (t := 139) rfl rfl rfl ic_eq (fun hc => ?_) (fun hc => ?_)
        · replace h := h.1 hc
          refine w_iconst (pc' := 140) rfl rfl (v := (-1)) rfl ?_
          exact w_ireturn rfl rfl h
        · replace h := h.2 hc
          refine w_aload_n (pc' := 121) rfl rfl rfl ?_
          refine w_iload_n (pc' := 122) rfl rfl rfl ?_
          refine w_cv (pc' := 125) (cm := xm_Co_has) (as := [.int (jrem (x1 - 100) 10)]) (a := x0) (rest := []) rfl rfl rfl  (xa_Co_has (Nat.le_of_ble_eq_true rfl)) qx0 rfl (CI.k h fun v2 g2 h => ?_)
          show Wp L xs xm_Co_detail 125 [.ref x0, .int x1, .int ((x1 - 100) / 10), .int (jrem (x1 - 100) 10)] [.int v2] g2 _
          refine w_br (pc' := 128) (t := 139) rfl rfl rfl ic_eq (fun hc => ?_) (fun hc => ?_)
          · replace h := h.1 hc
            refine w_iconst (pc' := 140) rfl rfl (v := (-1)) rfl ?_
            exact w_ireturn rfl rfl h
          · replace h := h.2 hc
            refine w_aload_n (pc' := 129) rfl rfl rfl ?_
            have q1 : xR0 x0 8 = some (x0 + 4) ∧ kG L (x0 + 4) 7 := (kf_1_8 qx0)
            refine w_getR (pc' := 132) rfl rfl rfl rfl qx0 q1.1 ?_
            refine w_iload_n (pc' := 133) rfl rfl rfl ?_
            obtain ⟨k1, ek1, bk1, h⟩ := h
            have q2 : xR0 (x0 + 4) k1 = some (x0 + 5 + k1) ∧ xS0 L (x0 + 5 + k1) = (20, 7) := q1.2.2 k1 bk1
            refine w_aaload (pc' := 134) (i := k1) rfl rfl q1.2.1 (by omega) ek1 bk1 (by omega) q2.1 ?_
            refine w_iload_n (pc' := 135) rfl rfl rfl ?_
            obtain ⟨k2, ek2, bk2, h⟩ := h
            refine w_iaload (pc' := 136) (i := k2) rfl rfl q2.2 ek2 bk2 (by omega) ?_
            refine w_goto (pc' := 140) rfl rfl ?_
            exact w_ireturn rfl rfl h
    · replace h := h.2 hc
      refine w_iconst (pc' := 90) rfl rfl (v := (-1)) rfl ?_
      exact w_ireturn rfl rfl h
theorem t_Co_has_0 {L : Nat} {xs : Nat → Int32} {x0 : Nat} {x1 : Int32} {f : Hp} {Q : Int32 → Hp → Prop} (qx0 : xS0 L x0 = (1, 0)) (h : ((x1 < 0 → Q 0 f) ∧ (¬ x1 < 0 → CI L xs xm_Co_members [.ref x0] f (fun v1 g1 => ((x1 < v1 → Q 1 g1) ∧ (¬ x1 < v1 → Q 0 g1)))))) : CI L xs xm_Co_has [.ref x0, .int x1] f Q := by
  show Wp L xs xm_Co_has 0 [.ref x0, .int x1] [] f (QI Q)
  refine w_iload_n (pc' := 1) rfl rfl rfl ?_
  refine w_br (pc' := 4) (t := 16) rfl rfl rfl ic_lt (fun hc => ?_) (fun hc => ?_)
  · replace h := h.1 hc
    refine w_iconst (pc' := 17) rfl rfl (v := 0) rfl ?_
    exact w_ireturn rfl rfl h
  · replace h := h.2 hc
    refine w_iload_n (pc' := 5) rfl rfl rfl ?_
    refine w_aload_n (pc' := 6) rfl rfl rfl ?_
    refine w_cv (pc' := 9) (cm := xm_Co_members) (as := []) (a := x0) (rest := [.int x1]) rfl rfl rfl  (xa_Co_members (Nat.le_of_ble_eq_true rfl)) qx0 rfl (CI.k h fun v1 g1 h => ?_)
    show Wp L xs xm_Co_has 9 [.ref x0, .int x1] [.int v1, .int x1] g1 _
    refine w_br2 (pc' := 12) (t := 16) rfl rfl rfl ic_ge (fun hc => ?_) (fun hc => ?_)
    · replace h := h.2 hc
      refine w_iconst (pc' := 17) rfl rfl (v := 0) rfl ?_
      exact w_ireturn rfl rfl h
    · replace h := h.1 (Classical.not_not.mp hc)
      refine w_iconst (pc' := 13) rfl rfl (v := 1) rfl ?_
      refine w_goto (pc' := 17) rfl rfl ?_
      exact w_ireturn rfl rfl h
theorem t_Ru_tell_0 {L : Nat} {xs : Nat → Int32} {x0 : Nat} {x1 : Int32} {x2 : Int32} {f : Hp} {Q : Int32 → Hp → Prop} (qx0 : xS0 L x0 = (6, 0)) (h : ((x1 < 0 → Q (-2) f) ∧ (¬ x1 < 0 → ((x1 < (f x0 0) → ((x2 = 0 → ∃ k1 : Nat, x1 = iN k1 ∧ k1 < 40 ∧ Q (f (x0 + 1) k1) f) ∧ (¬ x2 = 0 → ((x2 = 1 → ∃ k2 : Nat, x1 = iN k2 ∧ k2 < 40 ∧ Q (f (x0 + 2) k2) f) ∧ (¬ x2 = 1 → ((x2 = 2 → ∃ k3 : Nat, x1 = iN k3 ∧ k3 < 40 ∧ Q (f (x0 + 3) k3) f) ∧ (¬ x2 = 2 → ((x2 = 3 → ∃ k4 : Nat, x1 = iN k4 ∧ k4 < 40 ∧ Q (f (x0 + 4) k4) f) ∧ (¬ x2 = 3 → Q (-2) f))))))))) ∧ (¬ x1 < (f x0 0) → Q (-2) f))))) : CI L xs xm_Ru_tell [.ref x0, .int x1, .int x2] f Q := by
  show Wp L xs xm_Ru_tell 0 [.ref x0, .int x1, .int x2] [] f (QI Q)
  refine w_iload_n (pc' := 1) rfl rfl rfl ?_
  refine w_br (pc' := 4) (t := 12) rfl rfl rfl ic_lt (fun hc => ?_) (fun hc => ?_)
  · replace h := h.1 hc
    refine w_bipush (pc' := 14) rfl rfl (v := (-2)) rfl ?_
    exact w_ireturn rfl rfl h
  · replace h := h.2 hc
    refine w_iload_n (pc' := 5) rfl rfl rfl ?_
    refine w_aload_n (pc' := 6) rfl rfl rfl ?_
    refine w_getI (pc' := 9) rfl rfl rfl rfl rfl qx0 ?_
    refine w_br2 (pc' := 12) (t := 15) rfl rfl rfl ic_lt (fun hc => ?_) (fun hc => ?_)
    · replace h := h.1 hc
      refine w_iload_n (pc' := 16) rfl rfl rfl ?_
      by_cases hs0 : x2 = 0
      · replace h := h.1 hs0
        refine w_ts (o := 32) (t := 48) rfl (by rw [hs0]; decide) (by rw [hs0]; rfl) rfl ?_
        refine w_aload_n (pc' := 49) rfl rfl rfl ?_
        have q1 : xR0 x0 1 = some (x0 + 1) ∧ xS0 L (x0 + 1) = (20, 40) := (kf_6_1 qx0)
        refine w_getR (pc' := 52) rfl rfl rfl rfl qx0 q1.1 ?_
        refine w_iload_n (pc' := 53) rfl rfl rfl ?_
        obtain ⟨k1, ek1, bk1, h⟩ := h
        refine w_iaload (pc' := 54) (i := k1) rfl rfl q1.2 ek1 bk1 (by omega) ?_
        exact w_ireturn rfl rfl h
      replace h := h.2 hs0
      by_cases hs1 : x2 = 1
      · replace h := h.1 hs1
        refine w_ts (o := 39) (t := 55) rfl (by rw [hs1]; decide) (by rw [hs1]; rfl) rfl ?_
        refine w_aload_n (pc' := 56) rfl rfl rfl ?_
        have q2 : xR0 x0 2 = some (x0 + 2) ∧ xS0 L (x0 + 2) = (20, 40) := (kf_6_2 qx0)
        refine w_getR (pc' := 59) rfl rfl rfl rfl qx0 q2.1 ?_
        refine w_iload_n (pc' := 60) rfl rfl rfl ?_
        obtain ⟨k2, ek2, bk2, h⟩ := h
        refine w_iaload (pc' := 61) (i := k2) rfl rfl q2.2 ek2 bk2 (by omega) ?_
        exact w_ireturn rfl rfl h
      replace h := h.2 hs1
      by_cases hs2 : x2 = 2
      · replace h := h.1 hs2
        refine w_ts (o := 46) (t := 62) rfl (by rw [hs2]; decide) (by rw [hs2]; rfl) rfl ?_
        refine w_aload_n (pc' := 63) rfl rfl rfl ?_
        have q3 : xR0 x0 3 = some (x0 + 3) ∧ xS0 L (x0 + 3) = (20, 40) := (kf_6_3 qx0)
        refine w_getR (pc' := 66) rfl rfl rfl rfl qx0 q3.1 ?_
        refine w_iload_n (pc' := 67) rfl rfl rfl ?_
        obtain ⟨k3, ek3, bk3, h⟩ := h
        refine w_iaload (pc' := 68) (i := k3) rfl rfl q3.2 ek3 bk3 (by omega) ?_
        exact w_ireturn rfl rfl h
      replace h := h.2 hs2
      by_cases hs3 : x2 = 3
      · replace h := h.1 hs3
        refine w_ts (o := 53) (t := 69) rfl (by rw [hs3]; decide) (by rw [hs3]; rfl) rfl ?_
        refine w_aload_n (pc' := 70) rfl rfl rfl ?_
        have q4 : xR0 x0 4 = some (x0 + 4) ∧ xS0 L (x0 + 4) = (20, 40) := (kf_6_4 qx0)
        refine w_getR (pc' := 73) rfl rfl rfl rfl qx0 q4.1 ?_
        refine w_iload_n (pc' := 74) rfl rfl rfl ?_
        obtain ⟨k4, ek4, bk4, h⟩ := h
        refine w_iaload (pc' := 75) (i := k4) rfl rfl q4.2 ek4 bk4 (by omega) ?_
        exact w_ireturn rfl rfl h
      replace h := h.2 hs3
      refine w_tsd (t := 76) rfl ?_ rfl ?_
      · have z0 : (x2).toInt ≠ 0 := fun e => hs0 (Int32.toInt_inj.mp e); have z1 : (x2).toInt ≠ 1 := fun e => hs1 (Int32.toInt_inj.mp e); have z2 : (x2).toInt ≠ 2 := fun e => hs2 (Int32.toInt_inj.mp e); have z3 : (x2).toInt ≠ 3 := fun e => hs3 (Int32.toInt_inj.mp e); omega
      refine w_bipush (pc' := 78) rfl rfl (v := (-2)) rfl ?_
      exact w_ireturn rfl rfl h
    · replace h := h.2 hc
      refine w_bipush (pc' := 14) rfl rfl (v := (-2)) rfl ?_
      exact w_ireturn rfl rfl h
theorem t_Co_quorumSize_0 {L : Nat} {xs : Nat → Int32} {x0 : Nat} {f : Hp} {Q : Int32 → Hp → Prop} (qx0 : xS0 L x0 = (1, 0)) (h : Q ((2 * (f x0 0)) + 1) f) : CI L xs xm_Co_quorumSize [.ref x0] f Q := by
  show Wp L xs xm_Co_quorumSize 0 [.ref x0] [] f (QI Q)
  refine w_iconst (pc' := 1) rfl rfl (v := 2) rfl ?_
  refine w_aload_n (pc' := 2) rfl rfl rfl ?_
  refine w_getI (pc' := 5) rfl rfl rfl rfl rfl qx0 ?_
  refine w_imul (pc' := 6) rfl rfl ?_
  refine w_iconst (pc' := 7) rfl rfl (v := 1) rfl ?_
  refine w_iadd (pc' := 8) rfl rfl ?_
  exact w_ireturn rfl rfl h
theorem t_ji_bitCount_0 {L : Nat} {xs : Nat → Int32} {x0 : Int32} {f : Hp} {Q : Int32 → Hp → Prop}  (h : Q ((((((((x0 - ((jushr x0 1) &&& 1431655765)) &&& 858993459) + ((jushr (x0 - ((jushr x0 1) &&& 1431655765)) 2) &&& 858993459)) + (jushr (((x0 - ((jushr x0 1) &&& 1431655765)) &&& 858993459) + ((jushr (x0 - ((jushr x0 1) &&& 1431655765)) 2) &&& 858993459)) 4)) &&& 252645135) + (jushr (((((x0 - ((jushr x0 1) &&& 1431655765)) &&& 858993459) + ((jushr (x0 - ((jushr x0 1) &&& 1431655765)) 2) &&& 858993459)) + (jushr (((x0 - ((jushr x0 1) &&& 1431655765)) &&& 858993459) + ((jushr (x0 - ((jushr x0 1) &&& 1431655765)) 2) &&& 858993459)) 4)) &&& 252645135) 8)) + (jushr ((((((x0 - ((jushr x0 1) &&& 1431655765)) &&& 858993459) + ((jushr (x0 - ((jushr x0 1) &&& 1431655765)) 2) &&& 858993459)) + (jushr (((x0 - ((jushr x0 1) &&& 1431655765)) &&& 858993459) + ((jushr (x0 - ((jushr x0 1) &&& 1431655765)) 2) &&& 858993459)) 4)) &&& 252645135) + (jushr (((((x0 - ((jushr x0 1) &&& 1431655765)) &&& 858993459) + ((jushr (x0 - ((jushr x0 1) &&& 1431655765)) 2) &&& 858993459)) + (jushr (((x0 - ((jushr x0 1) &&& 1431655765)) &&& 858993459) + ((jushr (x0 - ((jushr x0 1) &&& 1431655765)) 2) &&& 858993459)) 4)) &&& 252645135) 8)) 16)) &&& 63) f) : CI L xs xm_ji_bitCount [.int x0] f Q := by
  show Wp L xs xm_ji_bitCount 0 [.int x0] [] f (QI Q)
  refine w_iload_n (pc' := 1) rfl rfl rfl ?_
  refine w_iload_n (pc' := 2) rfl rfl rfl ?_
  refine w_iconst (pc' := 3) rfl rfl (v := 1) rfl ?_
  refine w_iushr (pc' := 4) rfl rfl ?_
  refine w_ldcw (pc' := 7) rfl rfl (v := 1431655765) rfl ?_
  refine w_iand (pc' := 8) rfl rfl ?_
  refine w_isub (pc' := 9) rfl rfl ?_
  refine w_istore_n (pc' := 10) rfl rfl (xl' := [.int (x0 - ((jushr x0 1) &&& 1431655765))]) rfl ?_
  refine w_iload_n (pc' := 11) rfl rfl rfl ?_
  refine w_ldcw (pc' := 14) rfl rfl (v := 858993459) rfl ?_
  refine w_iand (pc' := 15) rfl rfl ?_
  refine w_iload_n (pc' := 16) rfl rfl rfl ?_
  refine w_iconst (pc' := 17) rfl rfl (v := 2) rfl ?_
  refine w_iushr (pc' := 18) rfl rfl ?_
  refine w_ldcw (pc' := 21) rfl rfl (v := 858993459) rfl ?_
  refine w_iand (pc' := 22) rfl rfl ?_
  refine w_iadd (pc' := 23) rfl rfl ?_
  refine w_istore_n (pc' := 24) rfl rfl (xl' := [.int (((x0 - ((jushr x0 1) &&& 1431655765)) &&& 858993459) + ((jushr (x0 - ((jushr x0 1) &&& 1431655765)) 2) &&& 858993459))]) rfl ?_
  refine w_iload_n (pc' := 25) rfl rfl rfl ?_
  refine w_iload_n (pc' := 26) rfl rfl rfl ?_
  refine w_iconst (pc' := 27) rfl rfl (v := 4) rfl ?_
  refine w_iushr (pc' := 28) rfl rfl ?_
  refine w_iadd (pc' := 29) rfl rfl ?_
  refine w_ldcw (pc' := 32) rfl rfl (v := 252645135) rfl ?_
  refine w_iand (pc' := 33) rfl rfl ?_
  refine w_istore_n (pc' := 34) rfl rfl (xl' := [.int (((((x0 - ((jushr x0 1) &&& 1431655765)) &&& 858993459) + ((jushr (x0 - ((jushr x0 1) &&& 1431655765)) 2) &&& 858993459)) + (jushr (((x0 - ((jushr x0 1) &&& 1431655765)) &&& 858993459) + ((jushr (x0 - ((jushr x0 1) &&& 1431655765)) 2) &&& 858993459)) 4)) &&& 252645135)]) rfl ?_
  refine w_iload_n (pc' := 35) rfl rfl rfl ?_
  refine w_iload_n (pc' := 36) rfl rfl rfl ?_
  refine w_bipush (pc' := 38) rfl rfl (v := 8) rfl ?_
  refine w_iushr (pc' := 39) rfl rfl ?_
  refine w_iadd (pc' := 40) rfl rfl ?_
  refine w_istore_n (pc' := 41) rfl rfl (xl' := [.int ((((((x0 - ((jushr x0 1) &&& 1431655765)) &&& 858993459) + ((jushr (x0 - ((jushr x0 1) &&& 1431655765)) 2) &&& 858993459)) + (jushr (((x0 - ((jushr x0 1) &&& 1431655765)) &&& 858993459) + ((jushr (x0 - ((jushr x0 1) &&& 1431655765)) 2) &&& 858993459)) 4)) &&& 252645135) + (jushr (((((x0 - ((jushr x0 1) &&& 1431655765)) &&& 858993459) + ((jushr (x0 - ((jushr x0 1) &&& 1431655765)) 2) &&& 858993459)) + (jushr (((x0 - ((jushr x0 1) &&& 1431655765)) &&& 858993459) + ((jushr (x0 - ((jushr x0 1) &&& 1431655765)) 2) &&& 858993459)) 4)) &&& 252645135) 8))]) rfl ?_
  refine w_iload_n (pc' := 42) rfl rfl rfl ?_
  refine w_iload_n (pc' := 43) rfl rfl rfl ?_
  refine w_bipush (pc' := 45) rfl rfl (v := 16) rfl ?_
  refine w_iushr (pc' := 46) rfl rfl ?_
  refine w_iadd (pc' := 47) rfl rfl ?_
  refine w_istore_n (pc' := 48) rfl rfl (xl' := [.int (((((((x0 - ((jushr x0 1) &&& 1431655765)) &&& 858993459) + ((jushr (x0 - ((jushr x0 1) &&& 1431655765)) 2) &&& 858993459)) + (jushr (((x0 - ((jushr x0 1) &&& 1431655765)) &&& 858993459) + ((jushr (x0 - ((jushr x0 1) &&& 1431655765)) 2) &&& 858993459)) 4)) &&& 252645135) + (jushr (((((x0 - ((jushr x0 1) &&& 1431655765)) &&& 858993459) + ((jushr (x0 - ((jushr x0 1) &&& 1431655765)) 2) &&& 858993459)) + (jushr (((x0 - ((jushr x0 1) &&& 1431655765)) &&& 858993459) + ((jushr (x0 - ((jushr x0 1) &&& 1431655765)) 2) &&& 858993459)) 4)) &&& 252645135) 8)) + (jushr ((((((x0 - ((jushr x0 1) &&& 1431655765)) &&& 858993459) + ((jushr (x0 - ((jushr x0 1) &&& 1431655765)) 2) &&& 858993459)) + (jushr (((x0 - ((jushr x0 1) &&& 1431655765)) &&& 858993459) + ((jushr (x0 - ((jushr x0 1) &&& 1431655765)) 2) &&& 858993459)) 4)) &&& 252645135) + (jushr (((((x0 - ((jushr x0 1) &&& 1431655765)) &&& 858993459) + ((jushr (x0 - ((jushr x0 1) &&& 1431655765)) 2) &&& 858993459)) + (jushr (((x0 - ((jushr x0 1) &&& 1431655765)) &&& 858993459) + ((jushr (x0 - ((jushr x0 1) &&& 1431655765)) 2) &&& 858993459)) 4)) &&& 252645135) 8)) 16))]) rfl ?_
  refine w_iload_n (pc' := 49) rfl rfl rfl ?_
  refine w_bipush (pc' := 51) rfl rfl (v := 63) rfl ?_
  refine w_iand (pc' := 52) rfl rfl ?_
  exact w_ireturn rfl rfl h
theorem t_Co_runOrder_0 {L : Nat} {xs : Nat → Int32} {x0 : Nat} {x1 : Int32} {x2 : Nat} {nx2 : Nat} {f : Hp} {Q : Hp → Prop} (qx0 : xS0 L x0 = (1, 0)) (qx2 : xS0 L x2 = (20, nx2)) (h : ((x1 < 0 → Q f) ∧ (¬ x1 < 0 → ((x1 < (f x0 4) → ((x1 < 10 → ∃ k1 : Nat, x1 = iN k1 ∧ k1 < 10 ∧ ∃ k2 : Nat, (f (x0 + 2) k1) = iN k2 ∧ k2 < nx2 ∧ ∀ g1, g1 = xu f x2 k2 (jrem ((f x2 k2) + (f (x0 + 3) k1)) 100) → Q g1) ∧ (¬ x1 < 10 → Q f))) ∧ (¬ x1 < (f x0 4) → Q f))))) : CV L xs xm_Co_runOrder [.ref x0, .int x1, .ref x2] f Q := by
  show Wp L xs xm_Co_runOrder 0 [.ref x0, .int x1, .ref x2, .retAddr 0] [] f (QV Q)
  refine w_iload_n (pc' := 1) rfl rfl rfl ?_
  refine w_br (pc' := 4) (t := 41) rfl rfl rfl ic_lt (fun hc => ?_) (fun hc => ?_)
  · replace h := h.1 hc
    exact w_return rfl rfl h
  · replace h := h.2 hc
    refine w_iload_n (pc' := 5) rfl rfl rfl ?_
    refine w_aload_n (pc' := 6) rfl rfl rfl ?_
    refine w_getI (pc' := 9) rfl rfl rfl rfl rfl qx0 ?_
    refine w_br2 (pc' := 12) (t := 41) rfl rfl rfl ic_ge (fun hc => ?_) (fun hc => ?_)
    · replace h := h.2 hc
      exact w_return rfl rfl h
    · replace h := h.1 (Classical.not_not.mp hc)
      refine w_iload_n (pc' := 13) rfl rfl rfl ?_
      refine w_bipush (pc' := 15) rfl rfl (v := 10) rfl ?_
      refine w_br2 (pc' := 18) (t := 41) rfl rfl rfl ic_ge (fun hc => ?_) (fun hc => ?_)
      · replace h := h.2 hc
        exact w_return rfl rfl h
      · replace h := h.1 (Classical.not_not.mp hc)
        refine w_aload_n (pc' := 19) rfl rfl rfl ?_
        have q1 : xR0 x0 6 = some (x0 + 2) ∧ xS0 L (x0 + 2) = (20, 10) := (kf_1_6 qx0)
        refine w_getR (pc' := 22) rfl rfl rfl rfl qx0 q1.1 ?_
        refine w_iload_n (pc' := 23) rfl rfl rfl ?_
        obtain ⟨k1, ek1, bk1, h⟩ := h
        refine w_iaload (pc' := 24) (i := k1) rfl rfl q1.2 ek1 bk1 (by omega) ?_
        refine w_istore_n (pc' := 25) rfl rfl (xl' := [.ref x0, .int x1, .ref x2, .int (f (x0 + 2) k1)]) rfl ?_
        refine w_aload_n (pc' := 26) rfl rfl rfl ?_
        refine w_iload_n (pc' := 27) rfl rfl rfl ?_
        refine w_aload_n (pc' := 28) rfl rfl rfl ?_
        refine w_iload_n (pc' := 29) rfl rfl rfl ?_
        obtain ⟨k2, ek2, bk2, h⟩ := h
        refine w_iaload (pc' := 30) (i := k2) rfl rfl qx2 ek2 bk2 (k_len qx2 rfl) ?_
        refine w_aload_n (pc' := 31) rfl rfl rfl ?_
        have q2 : xR0 x0 7 = some (x0 + 3) ∧ xS0 L (x0 + 3) = (20, 10) := (kf_1_7 qx0)
        refine w_getR (pc' := 34) rfl rfl rfl rfl qx0 q2.1 ?_
        refine w_iload_n (pc' := 35) rfl rfl rfl ?_
        refine w_iaload (pc' := 36) (i := k1) rfl rfl q2.2 ek1 bk1 (by omega) ?_
        refine w_iadd (pc' := 37) rfl rfl ?_
        refine w_bipush (pc' := 39) rfl rfl (v := 100) rfl ?_
        refine w_irem (pc' := 40) rfl rfl (by decide) ?_
        refine w_iastore (pc' := 41) (i := k2) rfl rfl qx2 ek2 bk2 (k_len qx2 rfl) ?_
        replace h := h _ rfl
        generalize xu f x2 k2 (jrem ((f x2 k2) + (f (x0 + 3) k1)) 100) = g1 at h ⊢
        exact w_return rfl rfl h
theorem t_Co_quorums_0 {L : Nat} {xs : Nat → Int32} {x0 : Nat} {f : Hp} {Q : Int32 → Hp → Prop} (qx0 : xS0 L x0 = (1, 0)) (h : Wp L xs xm_Co_quorums 4 [.ref x0, .int 0, .int 0] [] f (QI Q)) : CI L xs xm_Co_quorums [.ref x0] f Q := by
  show Wp L xs xm_Co_quorums 0 [.ref x0, .retAddr 0, .retAddr 0] [] f (QI Q)
  refine w_iconst (pc' := 1) rfl rfl (v := 0) rfl ?_
  refine w_istore_n (pc' := 2) rfl rfl (xl' := [.ref x0, .int 0, .retAddr 0]) rfl ?_
  refine w_iconst (pc' := 3) rfl rfl (v := 0) rfl ?_
  refine w_istore_n (pc' := 4) rfl rfl (xl' := [.ref x0, .int 0, .int 0]) rfl ?_
  exact h
theorem t_Co_quorums_4 {L : Nat} {xs : Nat → Int32} {x0 : Nat} {x1 : Int32} {x2 : Int32} {f : Hp} {Q : Int32 → Hp → Prop} (qx0 : xS0 L x0 = (1, 0)) (h : CI L xs xm_Co_members [.ref x0] f (fun v1 g1 => ((x2 < (1 <<< (v1 &&& 31)) → CI L xs xm_Co_isQuorumSet [.ref x0, .int x2] g1 (fun v2 g2 => ((v2 = 0 → Wp L xs xm_Co_quorums 4 [.ref x0, .int x1, .int (x2 + 1)] [] g2 (QI Q)) ∧ (¬ v2 = 0 → Wp L xs xm_Co_quorums 4 [.ref x0, .int (x1 + 1), .int (x2 + 1)] [] g2 (QI Q))))) ∧ (¬ x2 < (1 <<< (v1 &&& 31)) → Q x1 g1)))) : Wp L xs xm_Co_quorums 4 [.ref x0, .int x1, .int x2] [] f (QI Q) := by
  refine w_iload_n (pc' := 5) rfl rfl rfl ?_
  refine w_iconst (pc' := 6) rfl rfl (v := 1) rfl ?_
  refine w_aload_n (pc' := 7) rfl rfl rfl ?_
  refine w_cv (pc' := 10) (cm := xm_Co_members) (as := []) (a := x0) (rest := [.int 1, .int x2]) rfl rfl rfl  (xa_Co_members (Nat.le_of_ble_eq_true rfl)) qx0 rfl (CI.k h fun v1 g1 h => ?_)
  show Wp L xs xm_Co_quorums 10 [.ref x0, .int x1, .int x2] [.int v1, .int 1, .int x2] g1 _
  refine w_ishl (pc' := 11) rfl rfl ?_
  refine w_br2 (pc' := 14) (t := 31) rfl rfl rfl ic_ge (fun hc => ?_) (fun hc => ?_)
  · replace h := h.2 hc
    refine w_iload_n (pc' := 32) rfl rfl rfl ?_
    exact w_ireturn rfl rfl h
  · replace h := h.1 (Classical.not_not.mp hc)
    refine w_aload_n (pc' := 15) rfl rfl rfl ?_
    refine w_iload_n (pc' := 16) rfl rfl rfl ?_
    refine w_cv (pc' := 19) (cm := xm_Co_isQuorumSet) (as := [.int x2]) (a := x0) (rest := []) rfl rfl rfl  (xa_Co_isQuorumSet (Nat.le_of_ble_eq_true rfl)) qx0 rfl (CI.k h fun v2 g2 h => ?_)
    show Wp L xs xm_Co_quorums 19 [.ref x0, .int x1, .int x2] [.int v2] g2 _
    refine w_br (pc' := 22) (t := 25) rfl rfl rfl ic_eq (fun hc => ?_) (fun hc => ?_)
    · replace h := h.1 hc
      refine w_iinc (pc' := 28) rfl rfl rfl (v := (x2 + 1)) rfl (xl' := [.ref x0, .int x1, .int (x2 + 1)]) rfl ?_
      refine w_goto (pc' := 4) rfl rfl ?_
      exact h
    · replace h := h.2 hc
      refine w_iinc (pc' := 25) rfl rfl rfl (v := (x1 + 1)) rfl (xl' := [.ref x0, .int (x1 + 1), .int x2]) rfl ?_
      refine w_iinc (pc' := 28) rfl rfl rfl (v := (x2 + 1)) rfl (xl' := [.ref x0, .int (x1 + 1), .int (x2 + 1)]) rfl ?_
      refine w_goto (pc' := 4) rfl rfl ?_
      exact h
theorem t_Co_isQuorumSet_0 {L : Nat} {xs : Nat → Int32} {x0 : Nat} {x1 : Int32} {f : Hp} {Q : Int32 → Hp → Prop} (qx0 : xS0 L x0 = (1, 0)) (h : CI L xs xm_ji_bitCount [.int x1] f (fun v1 g1 => CI L xs xm_Co_quorumSize [.ref x0] g1 (fun v2 g2 => ((v1 = v2 → Q 1 g2) ∧ (¬ v1 = v2 → Q 0 g2))))) : CI L xs xm_Co_isQuorumSet [.ref x0, .int x1] f Q := by
  show Wp L xs xm_Co_isQuorumSet 0 [.ref x0, .int x1] [] f (QI Q)
  refine w_iload_n (pc' := 1) rfl rfl rfl ?_
  refine w_cs (pc' := 4) (cm := xm_ji_bitCount) (as := [.int x1]) (rest := []) rfl rfl rfl (Or.inl rfl) (xa_ji_bitCount (Nat.le_of_ble_eq_true rfl)) (CI.k h fun v1 g1 h => ?_)
  show Wp L xs xm_Co_isQuorumSet 4 [.ref x0, .int x1] [.int v1] g1 _
  refine w_aload_n (pc' := 5) rfl rfl rfl ?_
  refine w_cv (pc' := 8) (cm := xm_Co_quorumSize) (as := []) (a := x0) (rest := [.int v1]) rfl rfl rfl  (xa_Co_quorumSize (Nat.le_of_ble_eq_true rfl)) qx0 rfl (CI.k h fun v2 g2 h => ?_)
  show Wp L xs xm_Co_isQuorumSet 8 [.ref x0, .int x1] [.int v2, .int v1] g2 _
  refine w_br2 (pc' := 11) (t := 15) rfl rfl rfl ic_ne (fun hc => ?_) (fun hc => ?_)
  · replace h := h.2 hc
    refine w_iconst (pc' := 16) rfl rfl (v := 0) rfl ?_
    exact w_ireturn rfl rfl h
  · replace h := h.1 (Classical.not_not.mp hc)
    refine w_iconst (pc' := 12) rfl rfl (v := 1) rfl ?_
    refine w_goto (pc' := 16) rfl rfl ?_
    exact w_ireturn rfl rfl h
theorem t_Co_clashes_0 {L : Nat} {xs : Nat → Int32} {x0 : Nat} {f : Hp} {Q : Int32 → Hp → Prop} (qx0 : xS0 L x0 = (1, 0)) (h : Wp L xs xm_Co_clashes 4 [.ref x0, .int 0, .int 0, .retAddr 0] [] f (QI Q)) : CI L xs xm_Co_clashes [.ref x0] f Q := by
  show Wp L xs xm_Co_clashes 0 [.ref x0, .retAddr 0, .retAddr 0, .retAddr 0] [] f (QI Q)
  refine w_iconst (pc' := 1) rfl rfl (v := 0) rfl ?_
  refine w_istore_n (pc' := 2) rfl rfl (xl' := [.ref x0, .int 0, .retAddr 0, .retAddr 0]) rfl ?_
  refine w_iconst (pc' := 3) rfl rfl (v := 0) rfl ?_
  refine w_istore_n (pc' := 4) rfl rfl (xl' := [.ref x0, .int 0, .int 0, .retAddr 0]) rfl ?_
  exact h
theorem t_Co_clashes_4 {L : Nat} {xs : Nat → Int32} {x0 : Nat} {x1 : Int32} {x2 : Int32} {x3 : Value} {f : Hp} {Q : Int32 → Hp → Prop} (qx0 : xS0 L x0 = (1, 0)) (cx3 : (x3.category != 2) = true) (h : CI L xs xm_Co_members [.ref x0] f (fun v1 g1 => ((x2 < (1 <<< (v1 &&& 31)) → Wp L xs xm_Co_clashes 16 [.ref x0, .int x1, .int x2, .int 0] [] g1 (QI Q)) ∧ (¬ x2 < (1 <<< (v1 &&& 31)) → Q x1 g1)))) : Wp L xs xm_Co_clashes 4 [.ref x0, .int x1, .int x2, x3] [] f (QI Q) := by
  refine w_iload_n (pc' := 5) rfl rfl rfl ?_
  refine w_iconst (pc' := 6) rfl rfl (v := 1) rfl ?_
  refine w_aload_n (pc' := 7) rfl rfl rfl ?_
  refine w_cv (pc' := 10) (cm := xm_Co_members) (as := []) (a := x0) (rest := [.int 1, .int x2]) rfl rfl rfl  (xa_Co_members (Nat.le_of_ble_eq_true rfl)) qx0 rfl (CI.k h fun v1 g1 h => ?_)
  show Wp L xs xm_Co_clashes 10 [.ref x0, .int x1, .int x2, x3] [.int v1, .int 1, .int x2] g1 _
  refine w_ishl (pc' := 11) rfl rfl ?_
  refine w_br2 (pc' := 14) (t := 65) rfl rfl rfl ic_ge (fun hc => ?_) (fun hc => ?_)
  · replace h := h.2 hc
    refine w_iload_n (pc' := 66) rfl rfl rfl ?_
    exact w_ireturn rfl rfl h
  · replace h := h.1 (Classical.not_not.mp hc)
    refine w_iconst (pc' := 15) rfl rfl (v := 0) rfl ?_
    refine w_istore_n (pc' := 16) rfl rfl (xl' := [.ref x0, .int x1, .int x2, .int 0]) rfl ?_
    exact h
theorem t_Co_clashes_16 {L : Nat} {xs : Nat → Int32} {x0 : Nat} {x1 : Int32} {x2 : Int32} {x3 : Int32} {f : Hp} {Q : Int32 → Hp → Prop} (qx0 : xS0 L x0 = (1, 0)) (h : ((x3 < x2 → CI L xs xm_Co_isQuorumSet [.ref x0, .int x2] f (fun v1 g1 => ((v1 = 0 → Wp L xs xm_Co_clashes 4 [.ref x0, .int x1, .int (x2 + 1), .int x3] [] g1 (QI Q)) ∧ (¬ v1 = 0 → CI L xs xm_Co_isQuorumSet [.ref x0, .int x3] g1 (fun v2 g2 => ((v2 = 0 → Wp L xs xm_Co_clashes 16 [.ref x0, .int x1, .int x2, .int (x3 + 1)] [] g2 (QI Q)) ∧ (¬ v2 = 0 → ((((x2 &&& x3) &&& ((g2 x0 3) ^^^ (-1))) = 0 → Wp L xs xm_Co_clashes 16 [.ref x0, .int (x1 + 1), .int x2, .int (x3 + 1)] [] g2 (QI Q)) ∧ (¬ ((x2 &&& x3) &&& ((g2 x0 3) ^^^ (-1))) = 0 → Wp L xs xm_Co_clashes 16 [.ref x0, .int x1, .int x2, .int (x3 + 1)] [] g2 (QI Q)))))))))) ∧ (¬ x3 < x2 → Wp L xs xm_Co_clashes 4 [.ref x0, .int x1, .int (x2 + 1), .int x3] [] f (QI Q)))) : Wp L xs xm_Co_clashes 16 [.ref x0, .int x1, .int x2, .int x3] [] f (QI Q) := by
  refine w_iload_n (pc' := 17) rfl rfl rfl ?_
  refine w_iload_n (pc' := 18) rfl rfl rfl ?_
  refine w_br2 (pc' := 21) (t := 59) rfl rfl rfl ic_ge (fun hc => ?_) (fun hc => ?_)
  · replace h := h.2 hc
    refine w_iinc (pc' := 62) rfl rfl rfl (v := (x2 + 1)) rfl (xl' := [.ref x0, .int x1, .int (x2 + 1), .int x3]) rfl ?_
    refine w_goto (pc' := 4) rfl rfl ?_
    exact h
  · replace h := h.1 (Classical.not_not.mp hc)
    refine w_aload_n (pc' := 22) rfl rfl rfl ?_
    refine w_iload_n (pc' := 23) rfl rfl rfl ?_
    refine w_cv (pc' := 26) (cm := xm_Co_isQuorumSet) (as := [.int x2]) (a := x0) (rest := []) rfl rfl rfl  (xa_Co_isQuorumSet (Nat.le_of_ble_eq_true rfl)) qx0 rfl (CI.k h fun v1 g1 h => ?_)
    show Wp L xs xm_Co_clashes 26 [.ref x0, .int x1, .int x2, .int x3] [.int v1] g1 _
    refine w_br (pc' := 29) (t := 59) rfl rfl rfl ic_eq (fun hc => ?_) (fun hc => ?_)
    · replace h := h.1 hc
      refine w_iinc (pc' := 62) rfl rfl rfl (v := (x2 + 1)) rfl (xl' := [.ref x0, .int x1, .int (x2 + 1), .int x3]) rfl ?_
      refine w_goto (pc' := 4) rfl rfl ?_
      exact h
    · replace h := h.2 hc
      refine w_aload_n (pc' := 30) rfl rfl rfl ?_
      refine w_iload_n (pc' := 31) rfl rfl rfl ?_
      refine w_cv (pc' := 34) (cm := xm_Co_isQuorumSet) (as := [.int x3]) (a := x0) (rest := []) rfl rfl rfl  (xa_Co_isQuorumSet (Nat.le_of_ble_eq_true rfl)) qx0 rfl (CI.k h fun v2 g2 h => ?_)
      show Wp L xs xm_Co_clashes 34 [.ref x0, .int x1, .int x2, .int x3] [.int v2] g2 _
      refine w_br (pc' := 37) (t := 53) rfl rfl rfl ic_eq (fun hc => ?_) (fun hc => ?_)
      · replace h := h.1 hc
        refine w_iinc (pc' := 56) rfl rfl rfl (v := (x3 + 1)) rfl (xl' := [.ref x0, .int x1, .int x2, .int (x3 + 1)]) rfl ?_
        refine w_goto (pc' := 16) rfl rfl ?_
        exact h
      · replace h := h.2 hc
        refine w_iload_n (pc' := 38) rfl rfl rfl ?_
        refine w_iload_n (pc' := 39) rfl rfl rfl ?_
        refine w_iand (pc' := 40) rfl rfl ?_
        refine w_aload_n (pc' := 41) rfl rfl rfl ?_
        refine w_getI (pc' := 44) rfl rfl rfl rfl rfl qx0 ?_
        refine w_iconst (pc' := 45) rfl rfl (v := (-1)) rfl ?_
        refine w_ixor (pc' := 46) rfl rfl ?_
        refine w_iand (pc' := 47) rfl rfl ?_
        refine w_br (pc' := 50) (t := 53) rfl rfl rfl ic_ne (fun hc => ?_) (fun hc => ?_)
        · replace h := h.2 hc
          refine w_iinc (pc' := 56) rfl rfl rfl (v := (x3 + 1)) rfl (xl' := [.ref x0, .int x1, .int x2, .int (x3 + 1)]) rfl ?_
          refine w_goto (pc' := 16) rfl rfl ?_
          exact h
        · replace h := h.1 (Classical.not_not.mp hc)
          refine w_iinc (pc' := 53) rfl rfl rfl (v := (x1 + 1)) rfl (xl' := [.ref x0, .int (x1 + 1), .int x2, .int x3]) rfl ?_
          refine w_iinc (pc' := 56) rfl rfl rfl (v := (x3 + 1)) rfl (xl' := [.ref x0, .int (x1 + 1), .int x2, .int (x3 + 1)]) rfl ?_
          refine w_goto (pc' := 16) rfl rfl ?_
          exact h
theorem t_Co_isHonest_0 {L : Nat} {xs : Nat → Int32} {x0 : Nat} {x1 : Int32} {f : Hp} {Q : Int32 → Hp → Prop} (qx0 : xS0 L x0 = (1, 0)) (h : CI L xs xm_Co_has [.ref x0, .int x1] f (fun v1 g1 => ((v1 = 0 → Q 0 g1) ∧ (¬ v1 = 0 → CI L xs xm_TP_hasBit [.int (g1 x0 3), .int x1] g1 (fun v2 g2 => ((v2 = 0 → Q 1 g2) ∧ (¬ v2 = 0 → Q 0 g2))))))) : CI L xs xm_Co_isHonest [.ref x0, .int x1] f Q := by
  show Wp L xs xm_Co_isHonest 0 [.ref x0, .int x1] [] f (QI Q)
  refine w_aload_n (pc' := 1) rfl rfl rfl ?_
  refine w_iload_n (pc' := 2) rfl rfl rfl ?_
  refine w_cv (pc' := 5) (cm := xm_Co_has) (as := [.int x1]) (a := x0) (rest := []) rfl rfl rfl  (xa_Co_has (Nat.le_of_ble_eq_true rfl)) qx0 rfl (CI.k h fun v1 g1 h => ?_)
  show Wp L xs xm_Co_isHonest 5 [.ref x0, .int x1] [.int v1] g1 _
  refine w_br (pc' := 8) (t := 23) rfl rfl rfl ic_eq (fun hc => ?_) (fun hc => ?_)
  · replace h := h.1 hc
    refine w_iconst (pc' := 24) rfl rfl (v := 0) rfl ?_
    exact w_ireturn rfl rfl h
  · replace h := h.2 hc
    refine w_aload_n (pc' := 9) rfl rfl rfl ?_
    refine w_getI (pc' := 12) rfl rfl rfl rfl rfl qx0 ?_
    refine w_iload_n (pc' := 13) rfl rfl rfl ?_
    refine w_cs (pc' := 16) (cm := xm_TP_hasBit) (as := [.int (g1 x0 3), .int x1]) (rest := []) rfl rfl rfl (Or.inr rfl) (xa_TP_hasBit (Nat.le_of_ble_eq_true rfl)) (CI.k h fun v2 g2 h => ?_)
    show Wp L xs xm_Co_isHonest 16 [.ref x0, .int x1] [.int v2] g2 _
    refine w_br (pc' := 19) (t := 23) rfl rfl rfl ic_ne (fun hc => ?_) (fun hc => ?_)
    · replace h := h.2 hc
      refine w_iconst (pc' := 24) rfl rfl (v := 0) rfl ?_
      exact w_ireturn rfl rfl h
    · replace h := h.1 (Classical.not_not.mp hc)
      refine w_iconst (pc' := 20) rfl rfl (v := 1) rfl ?_
      refine w_goto (pc' := 24) rfl rfl ?_
      exact w_ireturn rfl rfl h
theorem t_Rp_tell_0 {L : Nat} {xs : Nat → Int32} {x0 : Nat} {x1 : Int32} {x2 : Int32} {f : Hp} {Q : Int32 → Hp → Prop} (qx0 : xS0 L x0 = (5, 0)) (h : ((x1 < 0 → Q (-2) f) ∧ (¬ x1 < 0 → ((x1 < (f x0 0) → ((x2 = 0 → ∃ k1 : Nat, x1 = iN k1 ∧ k1 < 12 ∧ Q (f (x0 + 1) k1) f) ∧ (¬ x2 = 0 → ((x2 = 1 → ∃ k2 : Nat, x1 = iN k2 ∧ k2 < 12 ∧ Q (f (x0 + 2) k2) f) ∧ (¬ x2 = 1 → ((x2 = 2 → ∃ k3 : Nat, x1 = iN k3 ∧ k3 < 12 ∧ Q (f (x0 + 3) k3) f) ∧ (¬ x2 = 2 → Q (-2) f))))))) ∧ (¬ x1 < (f x0 0) → Q (-2) f))))) : CI L xs xm_Rp_tell [.ref x0, .int x1, .int x2] f Q := by
  show Wp L xs xm_Rp_tell 0 [.ref x0, .int x1, .int x2] [] f (QI Q)
  refine w_iload_n (pc' := 1) rfl rfl rfl ?_
  refine w_br (pc' := 4) (t := 12) rfl rfl rfl ic_lt (fun hc => ?_) (fun hc => ?_)
  · replace h := h.1 hc
    refine w_bipush (pc' := 14) rfl rfl (v := (-2)) rfl ?_
    exact w_ireturn rfl rfl h
  · replace h := h.2 hc
    refine w_iload_n (pc' := 5) rfl rfl rfl ?_
    refine w_aload_n (pc' := 6) rfl rfl rfl ?_
    refine w_getI (pc' := 9) rfl rfl rfl rfl rfl qx0 ?_
    refine w_br2 (pc' := 12) (t := 15) rfl rfl rfl ic_lt (fun hc => ?_) (fun hc => ?_)
    · replace h := h.1 hc
      refine w_iload_n (pc' := 16) rfl rfl rfl ?_
      by_cases hs0 : x2 = 0
      · replace h := h.1 hs0
        refine w_ts (o := 28) (t := 44) rfl (by rw [hs0]; decide) (by rw [hs0]; rfl) rfl ?_
        refine w_aload_n (pc' := 45) rfl rfl rfl ?_
        have q1 : xR0 x0 1 = some (x0 + 1) ∧ xS0 L (x0 + 1) = (20, 12) := (kf_5_1 qx0)
        refine w_getR (pc' := 48) rfl rfl rfl rfl qx0 q1.1 ?_
        refine w_iload_n (pc' := 49) rfl rfl rfl ?_
        obtain ⟨k1, ek1, bk1, h⟩ := h
        refine w_iaload (pc' := 50) (i := k1) rfl rfl q1.2 ek1 bk1 (by omega) ?_
        exact w_ireturn rfl rfl h
      replace h := h.2 hs0
      by_cases hs1 : x2 = 1
      · replace h := h.1 hs1
        refine w_ts (o := 35) (t := 51) rfl (by rw [hs1]; decide) (by rw [hs1]; rfl) rfl ?_
        refine w_aload_n (pc' := 52) rfl rfl rfl ?_
        have q2 : xR0 x0 2 = some (x0 + 2) ∧ xS0 L (x0 + 2) = (20, 12) := (kf_5_2 qx0)
        refine w_getR (pc' := 55) rfl rfl rfl rfl qx0 q2.1 ?_
        refine w_iload_n (pc' := 56) rfl rfl rfl ?_
        obtain ⟨k2, ek2, bk2, h⟩ := h
        refine w_iaload (pc' := 57) (i := k2) rfl rfl q2.2 ek2 bk2 (by omega) ?_
        exact w_ireturn rfl rfl h
      replace h := h.2 hs1
      by_cases hs2 : x2 = 2
      · replace h := h.1 hs2
        refine w_ts (o := 42) (t := 58) rfl (by rw [hs2]; decide) (by rw [hs2]; rfl) rfl ?_
        refine w_aload_n (pc' := 59) rfl rfl rfl ?_
        have q3 : xR0 x0 3 = some (x0 + 3) ∧ xS0 L (x0 + 3) = (20, 12) := (kf_5_3 qx0)
        refine w_getR (pc' := 62) rfl rfl rfl rfl qx0 q3.1 ?_
        refine w_iload_n (pc' := 63) rfl rfl rfl ?_
        obtain ⟨k3, ek3, bk3, h⟩ := h
        refine w_iaload (pc' := 64) (i := k3) rfl rfl q3.2 ek3 bk3 (by omega) ?_
        exact w_ireturn rfl rfl h
      replace h := h.2 hs2
      refine w_tsd (t := 65) rfl ?_ rfl ?_
      · have z0 : (x2).toInt ≠ 0 := fun e => hs0 (Int32.toInt_inj.mp e); have z1 : (x2).toInt ≠ 1 := fun e => hs1 (Int32.toInt_inj.mp e); have z2 : (x2).toInt ≠ 2 := fun e => hs2 (Int32.toInt_inj.mp e); omega
      refine w_bipush (pc' := 67) rfl rfl (v := (-2)) rfl ?_
      exact w_ireturn rfl rfl h
    · replace h := h.2 hc
      refine w_bipush (pc' := 14) rfl rfl (v := (-2)) rfl ?_
      exact w_ireturn rfl rfl h
theorem t_Co_runFirst_0 {L : Nat} {xs : Nat → Int32} {x0 : Nat} {x1 : Int32} {x2 : Nat} {nx2 : Nat} {f : Hp} {Q : Hp → Prop} (qx0 : xS0 L x0 = (1, 0)) (qx2 : xS0 L x2 = (20, nx2)) (h : CV L xs xm_TP_copyAccounts [.ref (x0 + 1), .ref x2] f (fun g1 => Wp L xs xm_Co_runFirst 10 [.ref x0, .int x1, .ref x2, .int 0] [] g1 (QV Q))) : CV L xs xm_Co_runFirst [.ref x0, .int x1, .ref x2] f Q := by
  show Wp L xs xm_Co_runFirst 0 [.ref x0, .int x1, .ref x2, .retAddr 0] [] f (QV Q)
  refine w_aload_n (pc' := 1) rfl rfl rfl ?_
  have q1 : xR0 x0 5 = some (x0 + 1) ∧ xS0 L (x0 + 1) = (20, 8) := (kf_1_5 qx0)
  refine w_getR (pc' := 4) rfl rfl rfl rfl qx0 q1.1 ?_
  refine w_aload_n (pc' := 5) rfl rfl rfl ?_
  refine w_cs (pc' := 8) (cm := xm_TP_copyAccounts) (as := [.ref (x0 + 1), .ref x2]) (rest := []) rfl rfl rfl (Or.inr rfl) (xa_TP_copyAccounts (Nat.le_of_ble_eq_true rfl)) (CV.k h fun g1 h => ?_)
  show Wp L xs xm_Co_runFirst 8 [.ref x0, .int x1, .ref x2, .retAddr 0] [] g1 _
  refine w_iconst (pc' := 9) rfl rfl (v := 0) rfl ?_
  refine w_istore_n (pc' := 10) rfl rfl (xl' := [.ref x0, .int x1, .ref x2, .int 0]) rfl ?_
  exact h
theorem t_Co_runFirst_10 {L : Nat} {xs : Nat → Int32} {x0 : Nat} {x1 : Int32} {x2 : Nat} {nx2 : Nat} {x3 : Int32} {f : Hp} {Q : Hp → Prop} (qx0 : xS0 L x0 = (1, 0)) (qx2 : xS0 L x2 = (20, nx2)) (h : ((x3 < x1 → ((x3 < (f x0 4) → CV L xs xm_Co_runOrder [.ref x0, .int x3, .ref x2] f (fun g1 => Wp L xs xm_Co_runFirst 10 [.ref x0, .int x1, .ref x2, .int (x3 + 1)] [] g1 (QV Q))) ∧ (¬ x3 < (f x0 4) → Q f))) ∧ (¬ x3 < x1 → Q f))) : Wp L xs xm_Co_runFirst 10 [.ref x0, .int x1, .ref x2, .int x3] [] f (QV Q) := by
  refine w_iload_n (pc' := 11) rfl rfl rfl ?_
  refine w_iload_n (pc' := 12) rfl rfl rfl ?_
  refine w_br2 (pc' := 15) (t := 35) rfl rfl rfl ic_ge (fun hc => ?_) (fun hc => ?_)
  · replace h := h.2 hc
    exact w_return rfl rfl h
  · replace h := h.1 (Classical.not_not.mp hc)
    refine w_iload_n (pc' := 16) rfl rfl rfl ?_
    refine w_aload_n (pc' := 17) rfl rfl rfl ?_
    refine w_getI (pc' := 20) rfl rfl rfl rfl rfl qx0 ?_
    refine w_br2 (pc' := 23) (t := 35) rfl rfl rfl ic_ge (fun hc => ?_) (fun hc => ?_)
    · replace h := h.2 hc
      exact w_return rfl rfl h
    · replace h := h.1 (Classical.not_not.mp hc)
      refine w_aload_n (pc' := 24) rfl rfl rfl ?_
      refine w_iload_n (pc' := 25) rfl rfl rfl ?_
      refine w_aload_n (pc' := 26) rfl rfl rfl ?_
      refine w_cv (pc' := 29) (cm := xm_Co_runOrder) (as := [.int x3, .ref x2]) (a := x0) (rest := []) rfl rfl rfl  (xa_Co_runOrder (Nat.le_of_ble_eq_true rfl)) qx0 rfl (CV.k h fun g1 h => ?_)
      show Wp L xs xm_Co_runFirst 29 [.ref x0, .int x1, .ref x2, .int x3] [] g1 _
      refine w_iinc (pc' := 32) rfl rfl rfl (v := (x3 + 1)) rfl (xl' := [.ref x0, .int x1, .ref x2, .int (x3 + 1)]) rfl ?_
      refine w_goto (pc' := 10) rfl rfl ?_
      exact h
theorem t_To_take_0 {L : Nat} {xs : Nat → Int32} {x0 : Nat} {x1 : Nat} {f : Hp} {Q : Hp → Prop} (qx0 : xS0 L x0 = (10, 0)) (qx1 : xS0 L x1 = (10, 0)) (h : ∀ g1, g1 = xuc f (x0 + 1) (va_cpy (f (x1 + 1)) (f (x0 + 1)) 0 0 600) → ∀ g2, g2 = xu g1 x0 1 (g1 x1 1) → ∀ g3, g3 = xu g2 x0 2 (g2 x1 2) → ∀ g4, g4 = xu g3 x0 3 (g3 x1 3) → ∀ g5, g5 = xuc g4 (x0 + 2) (va_cpy (g4 (x1 + 2)) (g4 (x0 + 2)) 0 0 3) → Wp L xs xm_To_take 56 [.ref x0, .ref x1, .int 0] [] g5 (QV Q)) : CV L xs xm_To_take [.ref x0, .ref x1] f Q := by
  show Wp L xs xm_To_take 0 [.ref x0, .ref x1, .retAddr 0] [] f (QV Q)
  refine w_aload_n (pc' := 1) rfl rfl rfl ?_
  have q1 : xR0 x1 0 = some (x1 + 1) ∧ xS0 L (x1 + 1) = (21, 600) := (kf_10_0 qx1)
  refine w_getR (pc' := 4) rfl rfl rfl rfl qx1 q1.1 ?_
  refine w_iconst (pc' := 5) rfl rfl (v := 0) rfl ?_
  refine w_aload_n (pc' := 6) rfl rfl rfl ?_
  have q2 : xR0 x0 0 = some (x0 + 1) ∧ xS0 L (x0 + 1) = (21, 600) := (kf_10_0 qx0)
  refine w_getR (pc' := 9) rfl rfl rfl rfl qx0 q2.1 ?_
  refine w_iconst (pc' := 10) rfl rfl (v := 0) rfl ?_
  refine w_sipush (pc' := 13) rfl rfl (v := 600) rfl ?_
  refine w_copy (pc' := 16) rfl rfl rfl q1.2 q2.2 (Or.inr rfl) (sp := 0) (dp := 0) (c := 600) rfl rfl rfl (by omega) (by omega) (by omega) (by omega) (Nat.le_of_ble_eq_true rfl) ?_
  replace h := h _ rfl
  generalize xuc f (x0 + 1) (va_cpy (f (x1 + 1)) (f (x0 + 1)) 0 0 600) = g1 at h ⊢
  refine w_aload_n (pc' := 17) rfl rfl rfl ?_
  refine w_aload_n (pc' := 18) rfl rfl rfl ?_
  refine w_getI (pc' := 21) rfl rfl rfl rfl rfl qx1 ?_
  refine w_putI (pc' := 24) rfl rfl rfl rfl qx0 ?_
  replace h := h _ rfl
  generalize xu g1 x0 1 (g1 x1 1) = g2 at h ⊢
  refine w_aload_n (pc' := 25) rfl rfl rfl ?_
  refine w_aload_n (pc' := 26) rfl rfl rfl ?_
  refine w_getI (pc' := 29) rfl rfl rfl rfl rfl qx1 ?_
  refine w_putI (pc' := 32) rfl rfl rfl rfl qx0 ?_
  replace h := h _ rfl
  generalize xu g2 x0 2 (g2 x1 2) = g3 at h ⊢
  refine w_aload_n (pc' := 33) rfl rfl rfl ?_
  refine w_aload_n (pc' := 34) rfl rfl rfl ?_
  refine w_getI (pc' := 37) rfl rfl rfl rfl rfl qx1 ?_
  refine w_putI (pc' := 40) rfl rfl rfl rfl qx0 ?_
  replace h := h _ rfl
  generalize xu g3 x0 3 (g3 x1 3) = g4 at h ⊢
  refine w_aload_n (pc' := 41) rfl rfl rfl ?_
  have q3 : xR0 x1 4 = some (x1 + 2) ∧ xS0 L (x1 + 2) = (20, 3) := (kf_10_4 qx1)
  refine w_getR (pc' := 44) rfl rfl rfl rfl qx1 q3.1 ?_
  refine w_iconst (pc' := 45) rfl rfl (v := 0) rfl ?_
  refine w_aload_n (pc' := 46) rfl rfl rfl ?_
  have q4 : xR0 x0 4 = some (x0 + 2) ∧ xS0 L (x0 + 2) = (20, 3) := (kf_10_4 qx0)
  refine w_getR (pc' := 49) rfl rfl rfl rfl qx0 q4.1 ?_
  refine w_iconst (pc' := 50) rfl rfl (v := 0) rfl ?_
  refine w_iconst (pc' := 51) rfl rfl (v := 3) rfl ?_
  refine w_copy (pc' := 54) rfl rfl rfl q3.2 q4.2 (Or.inl rfl) (sp := 0) (dp := 0) (c := 3) rfl rfl rfl (by omega) (by omega) (by omega) (by omega) (Nat.le_of_ble_eq_true rfl) ?_
  replace h := h _ rfl
  generalize xuc g4 (x0 + 2) (va_cpy (g4 (x1 + 2)) (g4 (x0 + 2)) 0 0 3) = g5 at h ⊢
  refine w_iconst (pc' := 55) rfl rfl (v := 0) rfl ?_
  refine w_istore_n (pc' := 56) rfl rfl (xl' := [.ref x0, .ref x1, .int 0]) rfl ?_
  exact h
theorem t_To_take_56 {L : Nat} {xs : Nat → Int32} {x0 : Nat} {x1 : Nat} {x2 : Int32} {f : Hp} {Q : Hp → Prop} (qx0 : xS0 L x0 = (10, 0)) (qx1 : xS0 L x1 = (10, 0)) (h : ((x2 < 2 → ∃ k1 : Nat, x2 = iN k1 ∧ k1 < 2 ∧ CV L xs xm_Co_take [.ref (x0 + 6 + 21 * k1), .ref (x1 + 6 + 21 * k1)] f (fun g1 => CV L xs xm_Ru_take [.ref (x0 + 18 + 21 * k1), .ref (x1 + 18 + 21 * k1)] g1 (fun g2 => CV L xs xm_Rp_take [.ref (x0 + 23 + 21 * k1), .ref (x1 + 23 + 21 * k1)] g2 (fun g3 => Wp L xs xm_To_take 56 [.ref x0, .ref x1, .int (x2 + 1)] [] g3 (QV Q))))) ∧ (¬ x2 < 2 → Q f))) : Wp L xs xm_To_take 56 [.ref x0, .ref x1, .int x2] [] f (QV Q) := by
  refine w_iload_n (pc' := 57) rfl rfl rfl ?_
  refine w_iconst (pc' := 58) rfl rfl (v := 2) rfl ?_
  refine w_br2 (pc' := 61) (t := 112) rfl rfl rfl ic_ge (fun hc => ?_) (fun hc => ?_)
  · replace h := h.2 hc
    exact w_return rfl rfl h
  · replace h := h.1 (Classical.not_not.mp hc)
    refine w_aload_n (pc' := 62) rfl rfl rfl ?_
    have q1 : xR0 x0 5 = some (x0 + 3) ∧ xS0 L (x0 + 3) = (26, 2) := (kf_10_5 qx0)
    refine w_getR (pc' := 65) rfl rfl rfl rfl qx0 q1.1 ?_
    refine w_iload_n (pc' := 66) rfl rfl rfl ?_
    obtain ⟨k1, ek1, bk1, h⟩ := h
    have q2 : xR0 (x0 + 3) k1 = some (x0 + 6 + 21 * k1) ∧ xS0 L (x0 + 6 + 21 * k1) = (1, 0) := ke_26 q1.2 bk1
    refine w_aaload (pc' := 67) (i := k1) rfl rfl q1.2 (by omega) ek1 bk1 (by omega) q2.1 ?_
    refine w_aload_n (pc' := 68) rfl rfl rfl ?_
    have q3 : xR0 x1 5 = some (x1 + 3) ∧ xS0 L (x1 + 3) = (26, 2) := (kf_10_5 qx1)
    refine w_getR (pc' := 71) rfl rfl rfl rfl qx1 q3.1 ?_
    refine w_iload_n (pc' := 72) rfl rfl rfl ?_
    have q4 : xR0 (x1 + 3) k1 = some (x1 + 6 + 21 * k1) ∧ xS0 L (x1 + 6 + 21 * k1) = (1, 0) := ke_26 q3.2 bk1
    refine w_aaload (pc' := 73) (i := k1) rfl rfl q3.2 (by omega) ek1 bk1 (by omega) q4.1 ?_
    refine w_cv (pc' := 76) (cm := xm_Co_take) (as := [.ref (x1 + 6 + 21 * k1)]) (a := (x0 + 6 + 21 * k1)) (rest := []) rfl rfl rfl  (xa_Co_take (Nat.le_of_ble_eq_true rfl)) q2.2 rfl (CV.k h fun g1 h => ?_)
    show Wp L xs xm_To_take 76 [.ref x0, .ref x1, .int x2] [] g1 _
    refine w_aload_n (pc' := 77) rfl rfl rfl ?_
    have q5 : xR0 x0 6 = some (x0 + 4) ∧ xS0 L (x0 + 4) = (27, 2) := (kf_10_6 qx0)
    refine w_getR (pc' := 80) rfl rfl rfl rfl qx0 q5.1 ?_
    refine w_iload_n (pc' := 81) rfl rfl rfl ?_
    have q6 : xR0 (x0 + 4) k1 = some (x0 + 18 + 21 * k1) ∧ xS0 L (x0 + 18 + 21 * k1) = (6, 0) := ke_27 q5.2 bk1
    refine w_aaload (pc' := 82) (i := k1) rfl rfl q5.2 (by omega) ek1 bk1 (by omega) q6.1 ?_
    refine w_aload_n (pc' := 83) rfl rfl rfl ?_
    have q7 : xR0 x1 6 = some (x1 + 4) ∧ xS0 L (x1 + 4) = (27, 2) := (kf_10_6 qx1)
    refine w_getR (pc' := 86) rfl rfl rfl rfl qx1 q7.1 ?_
    refine w_iload_n (pc' := 87) rfl rfl rfl ?_
    have q8 : xR0 (x1 + 4) k1 = some (x1 + 18 + 21 * k1) ∧ xS0 L (x1 + 18 + 21 * k1) = (6, 0) := ke_27 q7.2 bk1
    refine w_aaload (pc' := 88) (i := k1) rfl rfl q7.2 (by omega) ek1 bk1 (by omega) q8.1 ?_
    refine w_cv (pc' := 91) (cm := xm_Ru_take) (as := [.ref (x1 + 18 + 21 * k1)]) (a := (x0 + 18 + 21 * k1)) (rest := []) rfl rfl rfl  (xa_Ru_take (Nat.le_of_ble_eq_true rfl)) q6.2 rfl (CV.k h fun g2 h => ?_)
    show Wp L xs xm_To_take 91 [.ref x0, .ref x1, .int x2] [] g2 _
    refine w_aload_n (pc' := 92) rfl rfl rfl ?_
    have q9 : xR0 x0 7 = some (x0 + 5) ∧ xS0 L (x0 + 5) = (28, 2) := (kf_10_7 qx0)
    refine w_getR (pc' := 95) rfl rfl rfl rfl qx0 q9.1 ?_
    refine w_iload_n (pc' := 96) rfl rfl rfl ?_
    have q10 : xR0 (x0 + 5) k1 = some (x0 + 23 + 21 * k1) ∧ xS0 L (x0 + 23 + 21 * k1) = (5, 0) := ke_28 q9.2 bk1
    refine w_aaload (pc' := 97) (i := k1) rfl rfl q9.2 (by omega) ek1 bk1 (by omega) q10.1 ?_
    refine w_aload_n (pc' := 98) rfl rfl rfl ?_
    have q11 : xR0 x1 7 = some (x1 + 5) ∧ xS0 L (x1 + 5) = (28, 2) := (kf_10_7 qx1)
    refine w_getR (pc' := 101) rfl rfl rfl rfl qx1 q11.1 ?_
    refine w_iload_n (pc' := 102) rfl rfl rfl ?_
    have q12 : xR0 (x1 + 5) k1 = some (x1 + 23 + 21 * k1) ∧ xS0 L (x1 + 23 + 21 * k1) = (5, 0) := ke_28 q11.2 bk1
    refine w_aaload (pc' := 103) (i := k1) rfl rfl q11.2 (by omega) ek1 bk1 (by omega) q12.1 ?_
    refine w_cv (pc' := 106) (cm := xm_Rp_take) (as := [.ref (x1 + 23 + 21 * k1)]) (a := (x0 + 23 + 21 * k1)) (rest := []) rfl rfl rfl  (xa_Rp_take (Nat.le_of_ble_eq_true rfl)) q10.2 rfl (CV.k h fun g3 h => ?_)
    show Wp L xs xm_To_take 106 [.ref x0, .ref x1, .int x2] [] g3 _
    refine w_iinc (pc' := 109) rfl rfl rfl (v := (x2 + 1)) rfl (xl' := [.ref x0, .ref x1, .int (x2 + 1)]) rfl ?_
    refine w_goto (pc' := 56) rfl rfl ?_
    exact h
