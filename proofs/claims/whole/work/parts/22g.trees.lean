/-! TREES (printed by wip/whole/gen7.py): what must hold at a label of a method -/
theorem t_Mo_feed_0 {L : Nat} {xs : Nat → Int32} {x1 : Int32} {x2 : Int32} {x3 : Int32} {x4 : Int32} {x5 : Int32} {f : Hp} {Q : Int32 → Hp → Prop}  (h : ((600 < ((f 401 4) + 20) → Q (-1) f) ∧ (¬ 600 < ((f 401 4) + 20) → Wp L xs xm_Mo_feed 20 [.ref 400, .int x1, .int x2, .int x3, .int x4, .int x5, .int 0, .retAddr 0] [] f (QI Q)))) : CI L xs xm_Mo_feed [.ref 400, .int x1, .int x2, .int x3, .int x4, .int x5] f Q := by
  show Wp L xs xm_Mo_feed 0 [.ref 400, .int x1, .int x2, .int x3, .int x4, .int x5, .retAddr 0, .retAddr 0] [] f (QI Q)
  refine w_aload_n (pc' := 1) rfl rfl rfl ?_
  have q1 : xR0 400 0 = some 401 ∧ xS0 L 401 = (20, 4680) := (kf_12_0 (show xS0 L 400 = (12, 0) from rfl))
  refine w_getR (pc' := 4) rfl rfl rfl rfl (show xS0 L 400 = (12, 0) from rfl) q1.1 ?_
  refine w_iconst (pc' := 5) rfl rfl (v := 4) rfl ?_
  refine w_iaload (pc' := 6) (i := 4) rfl rfl q1.2 rfl (by omega) (by omega) ?_
  refine w_bipush (pc' := 8) rfl rfl (v := 20) rfl ?_
  refine w_iadd (pc' := 9) rfl rfl ?_
  refine w_sipush (pc' := 12) rfl rfl (v := 600) rfl ?_
  refine w_br2 (pc' := 15) (t := 17) rfl rfl rfl ic_le (fun hc => ?_) (fun hc => ?_)
  · replace h := h.2 hc
    refine w_iconst (pc' := 18) rfl rfl (v := 0) rfl ?_
    refine w_istore (pc' := 20) rfl rfl (xl' := [.ref 400, .int x1, .int x2, .int x3, .int x4, .int x5, .int 0, .retAddr 0]) rfl ?_
    exact h
  · replace h := h.1 (Classical.not_not.mp hc)
    refine w_iconst (pc' := 16) rfl rfl (v := (-1)) rfl ?_
    exact w_ireturn rfl rfl h
theorem t_Mo_feed_20 {L : Nat} {xs : Nat → Int32} {x1 : Int32} {x2 : Int32} {x3 : Int32} {x4 : Int32} {x5 : Int32} {x6 : Int32} {x7 : Value} {f : Hp} {Q : Int32 → Hp → Prop} (cx7 : (x7.category != 2) = true) (h : ((x6 < 20 → ((x6 < 4 → Wp L xs xm_Mo_feed 73 [.ref 400, .int x1, .int x2, .int x3, .int x4, .int x5, .int x6, x7] [.int x1] f (QI Q)) ∧ (¬ x6 < 4 → ((x6 < 8 → Wp L xs xm_Mo_feed 73 [.ref 400, .int x1, .int x2, .int x3, .int x4, .int x5, .int x6, x7] [.int x2] f (QI Q)) ∧ (¬ x6 < 8 → ((x6 < 12 → Wp L xs xm_Mo_feed 73 [.ref 400, .int x1, .int x2, .int x3, .int x4, .int x5, .int x6, x7] [.int x3] f (QI Q)) ∧ (¬ x6 < 12 → ((x6 < 16 → Wp L xs xm_Mo_feed 73 [.ref 400, .int x1, .int x2, .int x3, .int x4, .int x5, .int x6, x7] [.int x4] f (QI Q)) ∧ (¬ x6 < 16 → Wp L xs xm_Mo_feed 73 [.ref 400, .int x1, .int x2, .int x3, .int x4, .int x5, .int x6, x7] [.int x5] f (QI Q)))))))))) ∧ (¬ x6 < 20 → Q (f 401 4) f))) : Wp L xs xm_Mo_feed 20 [.ref 400, .int x1, .int x2, .int x3, .int x4, .int x5, .int x6, x7] [] f (QI Q) := by
  refine w_iload (pc' := 22) rfl rfl rfl ?_
  refine w_bipush (pc' := 24) rfl rfl (v := 20) rfl ?_
  refine w_br2 (pc' := 27) (t := 122) rfl rfl rfl ic_ge (fun hc => ?_) (fun hc => ?_)
  · replace h := h.2 hc
    refine w_aload_n (pc' := 123) rfl rfl rfl ?_
    have q1 : xR0 400 0 = some 401 ∧ xS0 L 401 = (20, 4680) := (kf_12_0 (show xS0 L 400 = (12, 0) from rfl))
    refine w_getR (pc' := 126) rfl rfl rfl rfl (show xS0 L 400 = (12, 0) from rfl) q1.1 ?_
    refine w_iconst (pc' := 127) rfl rfl (v := 4) rfl ?_
    refine w_iaload (pc' := 128) (i := 4) rfl rfl q1.2 rfl (by omega) (by omega) ?_
    exact w_ireturn rfl rfl h
  · replace h := h.1 (Classical.not_not.mp hc)
    refine w_iload (pc' := 29) rfl rfl rfl ?_
    refine w_iconst (pc' := 30) rfl rfl (v := 4) rfl ?_
    refine w_br2 (pc' := 33) (t := 37) rfl rfl rfl ic_ge (fun hc => ?_) (fun hc => ?_)
    · replace h := h.2 hc
      refine w_iload (pc' := 39) rfl rfl rfl ?_
      refine w_bipush (pc' := 41) rfl rfl (v := 8) rfl ?_
      refine w_br2 (pc' := 44) (t := 48) rfl rfl rfl ic_ge (fun hc => ?_) (fun hc => ?_)
      · replace h := h.2 hc
        refine w_iload (pc' := 50) rfl rfl rfl ?_
        refine w_bipush (pc' := 52) rfl rfl (v := 12) rfl ?_
        refine w_br2 (pc' := 55) (t := 59) rfl rfl rfl ic_ge (fun hc => ?_) (fun hc => ?_)
        · replace h := h.2 hc
          refine w_iload (pc' := 61) rfl rfl rfl ?_
          refine w_bipush (pc' := 63) rfl rfl (v := 16) rfl ?_
          refine w_br2 (pc' := 66) (t := 71) rfl rfl rfl ic_ge (fun hc => ?_) (fun hc => ?_)
          · replace h := h.2 hc
            refine w_iload (pc' := 73) rfl rfl rfl ?_
            exact h
          · replace h := h.1 (Classical.not_not.mp hc)
            refine w_iload (pc' := 68) rfl rfl rfl ?_
            refine w_goto (pc' := 73) rfl rfl ?_
            exact h
        · replace h := h.1 (Classical.not_not.mp hc)
          refine w_iload_n (pc' := 56) rfl rfl rfl ?_
          refine w_goto (pc' := 73) rfl rfl ?_
          exact h
      · replace h := h.1 (Classical.not_not.mp hc)
        refine w_iload_n (pc' := 45) rfl rfl rfl ?_
        refine w_goto (pc' := 73) rfl rfl ?_
        exact h
    · replace h := h.1 (Classical.not_not.mp hc)
      refine w_iload_n (pc' := 34) rfl rfl rfl ?_
      refine w_goto (pc' := 73) rfl rfl ?_
      exact h
theorem t_Mo_feed_73 {L : Nat} {xs : Nat → Int32} {x1 : Int32} {x2 : Int32} {x3 : Int32} {x4 : Int32} {x5 : Int32} {x6 : Int32} {x7 : Value} {s0 : Int32} {f : Hp} {Q : Int32 → Hp → Prop} (cx7 : (x7.category != 2) = true) (h : ∃ k1 : Nat, (10 + (f 401 4)) = iN k1 ∧ k1 < 4680 ∧ ∀ g1, g1 = xu f 401 k1 ((s0 >>> ((24 - (8 * (jrem x6 4))) &&& 31)) &&& 255) → ∀ g2, g2 = xu g1 401 4 ((g1 401 4) + 1) → Wp L xs xm_Mo_feed 20 [.ref 400, .int x1, .int x2, .int x3, .int x4, .int x5, .int (x6 + 1), .int s0] [] g2 (QI Q)) : Wp L xs xm_Mo_feed 73 [.ref 400, .int x1, .int x2, .int x3, .int x4, .int x5, .int x6, x7] [.int s0] f (QI Q) := by
  refine w_istore (pc' := 75) rfl rfl (xl' := [.ref 400, .int x1, .int x2, .int x3, .int x4, .int x5, .int x6, .int s0]) rfl ?_
  refine w_aload_n (pc' := 76) rfl rfl rfl ?_
  have q1 : xR0 400 0 = some 401 ∧ xS0 L 401 = (20, 4680) := (kf_12_0 (show xS0 L 400 = (12, 0) from rfl))
  refine w_getR (pc' := 79) rfl rfl rfl rfl (show xS0 L 400 = (12, 0) from rfl) q1.1 ?_
  refine w_bipush (pc' := 81) rfl rfl (v := 10) rfl ?_
  refine w_aload_n (pc' := 82) rfl rfl rfl ?_
  have q2 : xR0 400 0 = some 401 ∧ xS0 L 401 = (20, 4680) := (kf_12_0 (show xS0 L 400 = (12, 0) from rfl))
  refine w_getR (pc' := 85) rfl rfl rfl rfl (show xS0 L 400 = (12, 0) from rfl) q2.1 ?_
  refine w_iconst (pc' := 86) rfl rfl (v := 4) rfl ?_
  refine w_iaload (pc' := 87) (i := 4) rfl rfl q2.2 rfl (by omega) (by omega) ?_
  refine w_iadd (pc' := 88) rfl rfl ?_
  refine w_iload (pc' := 90) rfl rfl rfl ?_
  refine w_bipush (pc' := 92) rfl rfl (v := 24) rfl ?_
  refine w_bipush (pc' := 94) rfl rfl (v := 8) rfl ?_
  refine w_iload (pc' := 96) rfl rfl rfl ?_
  refine w_iconst (pc' := 97) rfl rfl (v := 4) rfl ?_
  refine w_irem (pc' := 98) rfl rfl (by decide) ?_
  refine w_imul (pc' := 99) rfl rfl ?_
  refine w_isub (pc' := 100) rfl rfl ?_
  refine w_ishr (pc' := 101) rfl rfl ?_
  refine w_sipush (pc' := 104) rfl rfl (v := 255) rfl ?_
  refine w_iand (pc' := 105) rfl rfl ?_
  obtain ⟨k1, ek1, bk1, h⟩ := h
  refine w_iastore (pc' := 106) (i := k1) rfl rfl q1.2 ek1 bk1 (by omega) ?_
  replace h := h _ rfl
  generalize xu f 401 k1 ((s0 >>> ((24 - (8 * (jrem x6 4))) &&& 31)) &&& 255) = g1 at h ⊢
  refine w_aload_n (pc' := 107) rfl rfl rfl ?_
  have q3 : xR0 400 0 = some 401 ∧ xS0 L 401 = (20, 4680) := (kf_12_0 (show xS0 L 400 = (12, 0) from rfl))
  refine w_getR (pc' := 110) rfl rfl rfl rfl (show xS0 L 400 = (12, 0) from rfl) q3.1 ?_
  refine w_iconst (pc' := 111) rfl rfl (v := 4) rfl ?_
  refine w_dup2 (pc' := 112) rfl rfl ?_
  refine w_iaload (pc' := 113) (i := 4) rfl rfl q3.2 rfl (by omega) (by omega) ?_
  refine w_iconst (pc' := 114) rfl rfl (v := 1) rfl ?_
  refine w_iadd (pc' := 115) rfl rfl ?_
  refine w_iastore (pc' := 116) (i := 4) rfl rfl q3.2 rfl (by omega) (by omega) ?_
  replace h := h _ rfl
  generalize xu g1 401 4 ((g1 401 4) + 1) = g2 at h ⊢
  refine w_iinc (pc' := 119) rfl rfl rfl (v := (x6 + 1)) rfl (xl' := [.ref 400, .int x1, .int x2, .int x3, .int x4, .int x5, .int (x6 + 1), .int s0]) rfl ?_
  refine w_goto (pc' := 20) rfl rfl ?_
  exact h
theorem t_Mo_end_0 {L : Nat} {xs : Nat → Int32} {x1 : Int32} {f : Hp} {Q : Int32 → Hp → Prop}  (h : ((x1 < 0 → Q (-1) f) ∧ (¬ x1 < 0 → (((f 401 4) < x1 → Q (-1) f) ∧ (¬ (f 401 4) < x1 → ∀ g1, g1 = xu f 401 4 x1 → Q x1 g1))))) : CI L xs xm_Mo_end [.ref 400, .int x1] f Q := by
  show Wp L xs xm_Mo_end 0 [.ref 400, .int x1] [] f (QI Q)
  refine w_iload_n (pc' := 1) rfl rfl rfl ?_
  refine w_br (pc' := 4) (t := 14) rfl rfl rfl ic_lt (fun hc => ?_) (fun hc => ?_)
  · replace h := h.1 hc
    refine w_iconst (pc' := 15) rfl rfl (v := (-1)) rfl ?_
    exact w_ireturn rfl rfl h
  · replace h := h.2 hc
    refine w_iload_n (pc' := 5) rfl rfl rfl ?_
    refine w_aload_n (pc' := 6) rfl rfl rfl ?_
    have q1 : xR0 400 0 = some 401 ∧ xS0 L 401 = (20, 4680) := (kf_12_0 (show xS0 L 400 = (12, 0) from rfl))
    refine w_getR (pc' := 9) rfl rfl rfl rfl (show xS0 L 400 = (12, 0) from rfl) q1.1 ?_
    refine w_iconst (pc' := 10) rfl rfl (v := 4) rfl ?_
    refine w_iaload (pc' := 11) (i := 4) rfl rfl q1.2 rfl (by omega) (by omega) ?_
    refine w_br2 (pc' := 14) (t := 16) rfl rfl rfl ic_le (fun hc => ?_) (fun hc => ?_)
    · replace h := h.2 hc
      refine w_aload_n (pc' := 17) rfl rfl rfl ?_
      have q2 : xR0 400 0 = some 401 ∧ xS0 L 401 = (20, 4680) := (kf_12_0 (show xS0 L 400 = (12, 0) from rfl))
      refine w_getR (pc' := 20) rfl rfl rfl rfl (show xS0 L 400 = (12, 0) from rfl) q2.1 ?_
      refine w_iconst (pc' := 21) rfl rfl (v := 4) rfl ?_
      refine w_iload_n (pc' := 22) rfl rfl rfl ?_
      refine w_iastore (pc' := 23) (i := 4) rfl rfl q2.2 rfl (by omega) (by omega) ?_
      replace h := h _ rfl
      generalize xu f 401 4 x1 = g1 at h ⊢
      refine w_iload_n (pc' := 24) rfl rfl rfl ?_
      exact w_ireturn rfl rfl h
    · replace h := h.1 (Classical.not_not.mp hc)
      refine w_iconst (pc' := 15) rfl rfl (v := (-1)) rfl ?_
      exact w_ireturn rfl rfl h
theorem t_Mo_text_0 {L : Nat} {xs : Nat → Int32} {x1 : Int32} {x2 : Int32} {f : Hp} {Q : Int32 → Hp → Prop}  (h : ∀ g1, g1 = xu f 400 2 (f 401 4) → ∀ g2, g2 = xu g1 401 4 0 → ∀ g3, g3 = xu g2 401 5 0 → ∀ g4, g4 = xu g3 401 6 (-1) → CI L xs xm_Mo_isIn [.int x1, .int 0, .int 2] g4 (fun v1 g5 => ((v1 = 0 → Q (-2) g5) ∧ (¬ v1 = 0 → ((x2 = (-1) → ∃ k1 : Nat, x1 = iN k1 ∧ k1 < 4680 ∧ (((g5 401 k1) < 2 → Wp L xs xm_Mo_text 71 [.ref 400, .int x1, .int x2, .retAddr 0, .retAddr 0] [] g5 (QI Q)) ∧ (¬ (g5 401 k1) < 2 → Q (-2) g5))) ∧ (¬ x2 = (-1) → CI L xs xm_Mo_isOf [.ref 400, .int x1, .int x2] g5 (fun v2 g6 => ((v2 = 0 → Q (-2) g6) ∧ (¬ v2 = 0 → Wp L xs xm_Mo_text 71 [.ref 400, .int x1, .int x2, .retAddr 0, .retAddr 0] [] g6 (QI Q)))))))))) : CI L xs xm_Mo_text [.ref 400, .int x1, .int x2] f Q := by
  show Wp L xs xm_Mo_text 0 [.ref 400, .int x1, .int x2, .retAddr 0, .retAddr 0] [] f (QI Q)
  refine w_aload_n (pc' := 1) rfl rfl rfl ?_
  refine w_aload_n (pc' := 2) rfl rfl rfl ?_
  have q1 : xR0 400 0 = some 401 ∧ xS0 L 401 = (20, 4680) := (kf_12_0 (show xS0 L 400 = (12, 0) from rfl))
  refine w_getR (pc' := 5) rfl rfl rfl rfl (show xS0 L 400 = (12, 0) from rfl) q1.1 ?_
  refine w_iconst (pc' := 6) rfl rfl (v := 4) rfl ?_
  refine w_iaload (pc' := 7) (i := 4) rfl rfl q1.2 rfl (by omega) (by omega) ?_
  refine w_putI (pc' := 10) rfl rfl rfl rfl (show xS0 L 400 = (12, 0) from rfl) ?_
  replace h := h _ rfl
  generalize xu f 400 2 (f 401 4) = g1 at h ⊢
  refine w_aload_n (pc' := 11) rfl rfl rfl ?_
  have q2 : xR0 400 0 = some 401 ∧ xS0 L 401 = (20, 4680) := (kf_12_0 (show xS0 L 400 = (12, 0) from rfl))
  refine w_getR (pc' := 14) rfl rfl rfl rfl (show xS0 L 400 = (12, 0) from rfl) q2.1 ?_
  refine w_iconst (pc' := 15) rfl rfl (v := 4) rfl ?_
  refine w_iconst (pc' := 16) rfl rfl (v := 0) rfl ?_
  refine w_iastore (pc' := 17) (i := 4) rfl rfl q2.2 rfl (by omega) (by omega) ?_
  replace h := h _ rfl
  generalize xu g1 401 4 0 = g2 at h ⊢
  refine w_aload_n (pc' := 18) rfl rfl rfl ?_
  have q3 : xR0 400 0 = some 401 ∧ xS0 L 401 = (20, 4680) := (kf_12_0 (show xS0 L 400 = (12, 0) from rfl))
  refine w_getR (pc' := 21) rfl rfl rfl rfl (show xS0 L 400 = (12, 0) from rfl) q3.1 ?_
  refine w_iconst (pc' := 22) rfl rfl (v := 5) rfl ?_
  refine w_iconst (pc' := 23) rfl rfl (v := 0) rfl ?_
  refine w_iastore (pc' := 24) (i := 5) rfl rfl q3.2 rfl (by omega) (by omega) ?_
  replace h := h _ rfl
  generalize xu g2 401 5 0 = g3 at h ⊢
  refine w_aload_n (pc' := 25) rfl rfl rfl ?_
  have q4 : xR0 400 0 = some 401 ∧ xS0 L 401 = (20, 4680) := (kf_12_0 (show xS0 L 400 = (12, 0) from rfl))
  refine w_getR (pc' := 28) rfl rfl rfl rfl (show xS0 L 400 = (12, 0) from rfl) q4.1 ?_
  refine w_bipush (pc' := 30) rfl rfl (v := 6) rfl ?_
  refine w_iconst (pc' := 31) rfl rfl (v := (-1)) rfl ?_
  refine w_iastore (pc' := 32) (i := 6) rfl rfl q4.2 rfl (by omega) (by omega) ?_
  replace h := h _ rfl
  generalize xu g3 401 6 (-1) = g4 at h ⊢
  refine w_iload_n (pc' := 33) rfl rfl rfl ?_
  refine w_iconst (pc' := 34) rfl rfl (v := 0) rfl ?_
  refine w_iconst (pc' := 35) rfl rfl (v := 2) rfl ?_
  refine w_cs (pc' := 38) (cm := xm_Mo_isIn) (as := [.int x1, .int 0, .int 2]) (rest := []) rfl rfl rfl (Or.inl rfl) (xa_Mo_isIn (Nat.le_of_ble_eq_true rfl)) (CI.k h fun v1 g5 h => ?_)
  show Wp L xs xm_Mo_text 38 [.ref 400, .int x1, .int x2, .retAddr 0, .retAddr 0] [.int v1] g5 _
  refine w_br (pc' := 41) (t := 68) rfl rfl rfl ic_eq (fun hc => ?_) (fun hc => ?_)
  · replace h := h.1 hc
    refine w_bipush (pc' := 70) rfl rfl (v := (-2)) rfl ?_
    exact w_ireturn rfl rfl h
  · replace h := h.2 hc
    refine w_iload_n (pc' := 42) rfl rfl rfl ?_
    refine w_iconst (pc' := 43) rfl rfl (v := (-1)) rfl ?_
    refine w_br2 (pc' := 46) (t := 59) rfl rfl rfl ic_ne (fun hc => ?_) (fun hc => ?_)
    · replace h := h.2 hc
      refine w_aload_n (pc' := 60) rfl rfl rfl ?_
      refine w_iload_n (pc' := 61) rfl rfl rfl ?_
      refine w_iload_n (pc' := 62) rfl rfl rfl ?_
      refine w_cv (pc' := 65) (cm := xm_Mo_isOf) (as := [.int x1, .int x2]) (a := 400) (rest := []) rfl rfl rfl  (xa_Mo_isOf (Nat.le_of_ble_eq_true rfl)) (show xS0 L 400 = (12, 0) from rfl) rfl (CI.k h fun v2 g6 h => ?_)
      show Wp L xs xm_Mo_text 65 [.ref 400, .int x1, .int x2, .retAddr 0, .retAddr 0] [.int v2] g6 _
      refine w_br (pc' := 68) (t := 71) rfl rfl rfl ic_ne (fun hc => ?_) (fun hc => ?_)
      · replace h := h.2 hc
        exact h
      · replace h := h.1 (Classical.not_not.mp hc)
        refine w_bipush (pc' := 70) rfl rfl (v := (-2)) rfl ?_
        exact w_ireturn rfl rfl h
    · replace h := h.1 (Classical.not_not.mp hc)
      refine w_aload_n (pc' := 47) rfl rfl rfl ?_
      have q5 : xR0 400 0 = some 401 ∧ xS0 L 401 = (20, 4680) := (kf_12_0 (show xS0 L 400 = (12, 0) from rfl))
      refine w_getR (pc' := 50) rfl rfl rfl rfl (show xS0 L 400 = (12, 0) from rfl) q5.1 ?_
      refine w_iload_n (pc' := 51) rfl rfl rfl ?_
      obtain ⟨k1, ek1, bk1, h⟩ := h
      refine w_iaload (pc' := 52) (i := k1) rfl rfl q5.2 ek1 bk1 (by omega) ?_
      refine w_iconst (pc' := 53) rfl rfl (v := 2) rfl ?_
      refine w_br2 (pc' := 56) (t := 71) rfl rfl rfl ic_lt (fun hc => ?_) (fun hc => ?_)
      · replace h := h.1 hc
        exact h
      · replace h := h.2 hc
        refine w_goto (pc' := 68) rfl rfl ?_
        refine w_bipush (pc' := 70) rfl rfl (v := (-2)) rfl ?_
        exact w_ireturn rfl rfl h
theorem t_Mo_text_71 {L : Nat} {xs : Nat → Int32} {x1 : Int32} {x2 : Int32} {f : Hp} {Q : Int32 → Hp → Prop}  (h : ∀ g1, g1 = xu f 400 3 0 → ∀ g2, g2 = xu g1 400 8 0 → ∀ g3, g3 = xu g2 400 9 (-1) → Wp L xs xm_Mo_text 88 [.ref 400, .int x1, .int x2, .int 0, .retAddr 0] [] g3 (QI Q)) : Wp L xs xm_Mo_text 71 [.ref 400, .int x1, .int x2, .retAddr 0, .retAddr 0] [] f (QI Q) := by
  refine w_aload_n (pc' := 72) rfl rfl rfl ?_
  refine w_iconst (pc' := 73) rfl rfl (v := 0) rfl ?_
  refine w_putI (pc' := 76) rfl rfl rfl rfl (show xS0 L 400 = (12, 0) from rfl) ?_
  replace h := h _ rfl
  generalize xu f 400 3 0 = g1 at h ⊢
  refine w_aload_n (pc' := 77) rfl rfl rfl ?_
  refine w_iconst (pc' := 78) rfl rfl (v := 0) rfl ?_
  refine w_putB (pc' := 81) rfl rfl rfl rfl (show xS0 L 400 = (12, 0) from rfl) (by decide) ?_
  replace h := h _ rfl
  generalize xu g1 400 8 0 = g2 at h ⊢
  refine w_aload_n (pc' := 82) rfl rfl rfl ?_
  refine w_iconst (pc' := 83) rfl rfl (v := (-1)) rfl ?_
  refine w_putI (pc' := 86) rfl rfl rfl rfl (show xS0 L 400 = (12, 0) from rfl) ?_
  replace h := h _ rfl
  generalize xu g2 400 9 (-1) = g3 at h ⊢
  refine w_iconst (pc' := 87) rfl rfl (v := 0) rfl ?_
  refine w_istore_n (pc' := 88) rfl rfl (xl' := [.ref 400, .int x1, .int x2, .int 0, .retAddr 0]) rfl ?_
  exact h
theorem t_Mo_text_88 {L : Nat} {xs : Nat → Int32} {x1 : Int32} {x2 : Int32} {x3 : Int32} {f : Hp} {Q : Int32 → Hp → Prop}  (h : ((x3 < 161 → ∃ k1 : Nat, x3 = iN k1 ∧ k1 < 161 ∧ ∀ g5, g5 = xu f 403 k1 0 → Wp L xs xm_Mo_text 88 [.ref 400, .int x1, .int x2, .int (x3 + 1), .retAddr 0] [] g5 (QI Q)) ∧ (¬ x3 < 161 → ((x1 = 0 → ∀ g2, g2 = xu f 403 0 1 → ∀ g3, g3 = xu g2 403 1 4 → ∀ g4, g4 = xu g3 403 2 2 → Wp L xs xm_Mo_text 135 [.ref 400, .int x1, .int x2, .int 0, .retAddr 0] [] g4 (QI Q)) ∧ (¬ x1 = 0 → CV L xs xm_Mo_advance [.ref 400] f (fun g1 => Wp L xs xm_Mo_text 161 [.ref 400, .int x1, .int x2, .int x3, .retAddr 0] [] g1 (QI Q))))))) : Wp L xs xm_Mo_text 88 [.ref 400, .int x1, .int x2, .int x3, .retAddr 0] [] f (QI Q) := by
  refine w_iload_n (pc' := 89) rfl rfl rfl ?_
  refine w_sipush (pc' := 92) rfl rfl (v := 161) rfl ?_
  refine w_br2 (pc' := 95) (t := 108) rfl rfl rfl ic_ge (fun hc => ?_) (fun hc => ?_)
  · replace h := h.2 hc
    refine w_iload_n (pc' := 109) rfl rfl rfl ?_
    refine w_br (pc' := 112) (t := 157) rfl rfl rfl ic_ne (fun hc => ?_) (fun hc => ?_)
    · replace h := h.2 hc
      refine w_aload_n (pc' := 158) rfl rfl rfl ?_
      refine w_cv (pc' := 161) (cm := xm_Mo_advance) (as := []) (a := 400) (rest := []) rfl rfl rfl  (xa_Mo_advance (Nat.le_of_ble_eq_true rfl)) (show xS0 L 400 = (12, 0) from rfl) rfl (CV.k h fun g1 h => ?_)
      show Wp L xs xm_Mo_text 161 [.ref 400, .int x1, .int x2, .int x3, .retAddr 0] [] g1 _
      exact h
    · replace h := h.1 (Classical.not_not.mp hc)
      refine w_aload_n (pc' := 113) rfl rfl rfl ?_
      have q1 : xR0 400 10 = some 403 ∧ xS0 L 403 = (20, 161) := (kf_12_10 (show xS0 L 400 = (12, 0) from rfl))
      refine w_getR (pc' := 116) rfl rfl rfl rfl (show xS0 L 400 = (12, 0) from rfl) q1.1 ?_
      refine w_iconst (pc' := 117) rfl rfl (v := 0) rfl ?_
      refine w_iconst (pc' := 118) rfl rfl (v := 1) rfl ?_
      refine w_iastore (pc' := 119) (i := 0) rfl rfl q1.2 rfl (by omega) (by omega) ?_
      replace h := h _ rfl
      generalize xu f 403 0 1 = g2 at h ⊢
      refine w_aload_n (pc' := 120) rfl rfl rfl ?_
      have q2 : xR0 400 10 = some 403 ∧ xS0 L 403 = (20, 161) := (kf_12_10 (show xS0 L 400 = (12, 0) from rfl))
      refine w_getR (pc' := 123) rfl rfl rfl rfl (show xS0 L 400 = (12, 0) from rfl) q2.1 ?_
      refine w_iconst (pc' := 124) rfl rfl (v := 1) rfl ?_
      refine w_iconst (pc' := 125) rfl rfl (v := 4) rfl ?_
      refine w_iastore (pc' := 126) (i := 1) rfl rfl q2.2 rfl (by omega) (by omega) ?_
      replace h := h _ rfl
      generalize xu g2 403 1 4 = g3 at h ⊢
      refine w_aload_n (pc' := 127) rfl rfl rfl ?_
      have q3 : xR0 400 10 = some 403 ∧ xS0 L 403 = (20, 161) := (kf_12_10 (show xS0 L 400 = (12, 0) from rfl))
      refine w_getR (pc' := 130) rfl rfl rfl rfl (show xS0 L 400 = (12, 0) from rfl) q3.1 ?_
      refine w_iconst (pc' := 131) rfl rfl (v := 2) rfl ?_
      refine w_iconst (pc' := 132) rfl rfl (v := 2) rfl ?_
      refine w_iastore (pc' := 133) (i := 2) rfl rfl q3.2 rfl (by omega) (by omega) ?_
      replace h := h _ rfl
      generalize xu g3 403 2 2 = g4 at h ⊢
      refine w_iconst (pc' := 134) rfl rfl (v := 0) rfl ?_
      refine w_istore_n (pc' := 135) rfl rfl (xl' := [.ref 400, .int x1, .int x2, .int 0, .retAddr 0]) rfl ?_
      exact h
  · replace h := h.1 (Classical.not_not.mp hc)
    refine w_aload_n (pc' := 96) rfl rfl rfl ?_
    have q4 : xR0 400 10 = some 403 ∧ xS0 L 403 = (20, 161) := (kf_12_10 (show xS0 L 400 = (12, 0) from rfl))
    refine w_getR (pc' := 99) rfl rfl rfl rfl (show xS0 L 400 = (12, 0) from rfl) q4.1 ?_
    refine w_iload_n (pc' := 100) rfl rfl rfl ?_
    refine w_iconst (pc' := 101) rfl rfl (v := 0) rfl ?_
    obtain ⟨k1, ek1, bk1, h⟩ := h
    refine w_iastore (pc' := 102) (i := k1) rfl rfl q4.2 ek1 bk1 (by omega) ?_
    replace h := h _ rfl
    generalize xu f 403 k1 0 = g5 at h ⊢
    refine w_iinc (pc' := 105) rfl rfl rfl (v := (x3 + 1)) rfl (xl' := [.ref 400, .int x1, .int x2, .int (x3 + 1), .retAddr 0]) rfl ?_
    refine w_goto (pc' := 88) rfl rfl ?_
    exact h
theorem t_Mo_text_135 {L : Nat} {xs : Nat → Int32} {x1 : Int32} {x2 : Int32} {x3 : Int32} {f : Hp} {Q : Int32 → Hp → Prop}  (h : ((x3 < 49 → ∃ k1 : Nat, (33 + x3) = iN k1 ∧ k1 < 161 ∧ ∀ g2, g2 = xu f 403 k1 1 → Wp L xs xm_Mo_text 135 [.ref 400, .int x1, .int x2, .int (x3 + 1), .retAddr 0] [] g2 (QI Q)) ∧ (¬ x3 < 49 → CV L xs xm_Mo_advance [.ref 400] f (fun g1 => Wp L xs xm_Mo_text 161 [.ref 400, .int x1, .int x2, .int x3, .retAddr 0] [] g1 (QI Q))))) : Wp L xs xm_Mo_text 135 [.ref 400, .int x1, .int x2, .int x3, .retAddr 0] [] f (QI Q) := by
  refine w_iload_n (pc' := 136) rfl rfl rfl ?_
  refine w_bipush (pc' := 138) rfl rfl (v := 49) rfl ?_
  refine w_br2 (pc' := 141) (t := 157) rfl rfl rfl ic_ge (fun hc => ?_) (fun hc => ?_)
  · replace h := h.2 hc
    refine w_aload_n (pc' := 158) rfl rfl rfl ?_
    refine w_cv (pc' := 161) (cm := xm_Mo_advance) (as := []) (a := 400) (rest := []) rfl rfl rfl  (xa_Mo_advance (Nat.le_of_ble_eq_true rfl)) (show xS0 L 400 = (12, 0) from rfl) rfl (CV.k h fun g1 h => ?_)
    show Wp L xs xm_Mo_text 161 [.ref 400, .int x1, .int x2, .int x3, .retAddr 0] [] g1 _
    exact h
  · replace h := h.1 (Classical.not_not.mp hc)
    refine w_aload_n (pc' := 142) rfl rfl rfl ?_
    have q1 : xR0 400 10 = some 403 ∧ xS0 L 403 = (20, 161) := (kf_12_10 (show xS0 L 400 = (12, 0) from rfl))
    refine w_getR (pc' := 145) rfl rfl rfl rfl (show xS0 L 400 = (12, 0) from rfl) q1.1 ?_
    refine w_bipush (pc' := 147) rfl rfl (v := 33) rfl ?_
    refine w_iload_n (pc' := 148) rfl rfl rfl ?_
    refine w_iadd (pc' := 149) rfl rfl ?_
    refine w_iconst (pc' := 150) rfl rfl (v := 1) rfl ?_
    obtain ⟨k1, ek1, bk1, h⟩ := h
    refine w_iastore (pc' := 151) (i := k1) rfl rfl q1.2 ek1 bk1 (by omega) ?_
    replace h := h _ rfl
    generalize xu f 403 k1 1 = g2 at h ⊢
    refine w_iinc (pc' := 154) rfl rfl rfl (v := (x3 + 1)) rfl (xl' := [.ref 400, .int x1, .int x2, .int (x3 + 1), .retAddr 0]) rfl ?_
    refine w_goto (pc' := 135) rfl rfl ?_
    exact h
theorem t_Mo_text_161 {L : Nat} {xs : Nat → Int32} {x1 : Int32} {x2 : Int32} {x3 : Int32} {f : Hp} {Q : Int32 → Hp → Prop}  (h : (((f 400 8) = 0 → (((f 400 5) = 0 → Wp L xs xm_Mo_text 225 [.ref 400, .int x1, .int x2, .int x3, .retAddr 0] [] f (QI Q)) ∧ (¬ (f 400 5) = 0 → ((x1 = 0 → CV L xs xm_Mo_councilLine [.ref 400] f (fun g1 => Wp L xs xm_Mo_text 161 [.ref 400, .int x1, .int x2, .int x3, .retAddr 0] [] g1 (QI Q))) ∧ (¬ x1 = 0 → ((x1 = 1 → CV L xs xm_Mo_runLine [.ref 400] f (fun g2 => Wp L xs xm_Mo_text 161 [.ref 400, .int x1, .int x2, .int x3, .retAddr 0] [] g2 (QI Q))) ∧ (¬ x1 = 1 → CV L xs xm_Mo_repliesLine [.ref 400] f (fun g3 => Wp L xs xm_Mo_text 161 [.ref 400, .int x1, .int x2, .int x3, .retAddr 0] [] g3 (QI Q))))))))) ∧ (¬ (f 400 8) = 0 → Wp L xs xm_Mo_text 225 [.ref 400, .int x1, .int x2, .int x3, .retAddr 0] [] f (QI Q)))) : Wp L xs xm_Mo_text 161 [.ref 400, .int x1, .int x2, .int x3, .retAddr 0] [] f (QI Q) := by
  refine w_aload_n (pc' := 162) rfl rfl rfl ?_
  refine w_getI (pc' := 165) rfl rfl rfl rfl rfl (show xS0 L 400 = (12, 0) from rfl) ?_
  refine w_br (pc' := 168) (t := 225) rfl rfl rfl ic_ne (fun hc => ?_) (fun hc => ?_)
  · replace h := h.2 hc
    exact h
  · replace h := h.1 (Classical.not_not.mp hc)
    refine w_aload_n (pc' := 169) rfl rfl rfl ?_
    refine w_getI (pc' := 172) rfl rfl rfl rfl rfl (show xS0 L 400 = (12, 0) from rfl) ?_
    refine w_br (pc' := 175) (t := 225) rfl rfl rfl ic_eq (fun hc => ?_) (fun hc => ?_)
    · replace h := h.1 hc
      exact h
    · replace h := h.2 hc
      refine w_iload_n (pc' := 176) rfl rfl rfl ?_
      by_cases hs0 : x1 = 0
      · replace h := h.1 hs0
        refine w_ls (o := 28) (t := 204) rfl rfl (by rw [hs0]; rfl) rfl ?_
        refine w_aload_n (pc' := 205) rfl rfl rfl ?_
        refine w_cv (pc' := 208) (cm := xm_Mo_councilLine) (as := []) (a := 400) (rest := []) rfl rfl rfl  (xa_Mo_councilLine (Nat.le_of_ble_eq_true rfl)) (show xS0 L 400 = (12, 0) from rfl) rfl (CV.k h fun g1 h => ?_)
        show Wp L xs xm_Mo_text 208 [.ref 400, .int x1, .int x2, .int x3, .retAddr 0] [] g1 _
        refine w_goto (pc' := 161) rfl rfl ?_
        exact h
      replace h := h.2 hs0
      by_cases hs1 : x1 = 1
      · replace h := h.1 hs1
        refine w_ls (o := 35) (t := 211) rfl rfl (by rw [hs1]; rfl) rfl ?_
        refine w_aload_n (pc' := 212) rfl rfl rfl ?_
        refine w_cv (pc' := 215) (cm := xm_Mo_runLine) (as := []) (a := 400) (rest := []) rfl rfl rfl  (xa_Mo_runLine (Nat.le_of_ble_eq_true rfl)) (show xS0 L 400 = (12, 0) from rfl) rfl (CV.k h fun g2 h => ?_)
        show Wp L xs xm_Mo_text 215 [.ref 400, .int x1, .int x2, .int x3, .retAddr 0] [] g2 _
        refine w_goto (pc' := 161) rfl rfl ?_
        exact h
      replace h := h.2 hs1
      refine w_ls (o := 42) (t := 218) rfl rfl ?_ rfl ?_
      · have z0 : ¬ (x1).toInt = 0 := fun e => hs0 (Int32.toInt_inj.mp e); have z1 : ¬ (x1).toInt = 1 := fun e => hs1 (Int32.toInt_inj.mp e); simp [Op.lookupswitch.offset, z0, z1]; try omega
      refine w_aload_n (pc' := 219) rfl rfl rfl ?_
      refine w_cv (pc' := 222) (cm := xm_Mo_repliesLine) (as := []) (a := 400) (rest := []) rfl rfl rfl  (xa_Mo_repliesLine (Nat.le_of_ble_eq_true rfl)) (show xS0 L 400 = (12, 0) from rfl) rfl (CV.k h fun g3 h => ?_)
      show Wp L xs xm_Mo_text 222 [.ref 400, .int x1, .int x2, .int x3, .retAddr 0] [] g3 _
      refine w_goto (pc' := 161) rfl rfl ?_
      exact h
theorem t_Mo_text_225 {L : Nat} {xs : Nat → Int32} {x1 : Int32} {x2 : Int32} {x3 : Int32} {f : Hp} {Q : Int32 → Hp → Prop}  (h : ((x1 = 0 → (((f 401 5) = 0 → (((3 * (f 403 0)) < (f 400 9) → CV L xs xm_Mo_also [.ref 400, .int 4, .int (f 400 4)] f (fun g1 => Wp L xs xm_Mo_text 262 [.ref 400, .int x1, .int x2, .int x3, .retAddr 0] [] g1 (QI Q))) ∧ (¬ (3 * (f 403 0)) < (f 400 9) → Wp L xs xm_Mo_text 262 [.ref 400, .int x1, .int x2, .int x3, .retAddr 0] [] f (QI Q)))) ∧ (¬ (f 401 5) = 0 → Wp L xs xm_Mo_text 262 [.ref 400, .int x1, .int x2, .int x3, .retAddr 0] [] f (QI Q)))) ∧ (¬ x1 = 0 → Wp L xs xm_Mo_text 262 [.ref 400, .int x1, .int x2, .int x3, .retAddr 0] [] f (QI Q)))) : Wp L xs xm_Mo_text 225 [.ref 400, .int x1, .int x2, .int x3, .retAddr 0] [] f (QI Q) := by
  refine w_iload_n (pc' := 226) rfl rfl rfl ?_
  refine w_br (pc' := 229) (t := 262) rfl rfl rfl ic_ne (fun hc => ?_) (fun hc => ?_)
  · replace h := h.2 hc
    exact h
  · replace h := h.1 (Classical.not_not.mp hc)
    refine w_aload_n (pc' := 230) rfl rfl rfl ?_
    have q1 : xR0 400 0 = some 401 ∧ xS0 L 401 = (20, 4680) := (kf_12_0 (show xS0 L 400 = (12, 0) from rfl))
    refine w_getR (pc' := 233) rfl rfl rfl rfl (show xS0 L 400 = (12, 0) from rfl) q1.1 ?_
    refine w_iconst (pc' := 234) rfl rfl (v := 5) rfl ?_
    refine w_iaload (pc' := 235) (i := 5) rfl rfl q1.2 rfl (by omega) (by omega) ?_
    refine w_br (pc' := 238) (t := 262) rfl rfl rfl ic_ne (fun hc => ?_) (fun hc => ?_)
    · replace h := h.2 hc
      exact h
    · replace h := h.1 (Classical.not_not.mp hc)
      refine w_aload_n (pc' := 239) rfl rfl rfl ?_
      refine w_getI (pc' := 242) rfl rfl rfl rfl rfl (show xS0 L 400 = (12, 0) from rfl) ?_
      refine w_iconst (pc' := 243) rfl rfl (v := 3) rfl ?_
      refine w_aload_n (pc' := 244) rfl rfl rfl ?_
      have q2 : xR0 400 10 = some 403 ∧ xS0 L 403 = (20, 161) := (kf_12_10 (show xS0 L 400 = (12, 0) from rfl))
      refine w_getR (pc' := 247) rfl rfl rfl rfl (show xS0 L 400 = (12, 0) from rfl) q2.1 ?_
      refine w_iconst (pc' := 248) rfl rfl (v := 0) rfl ?_
      refine w_iaload (pc' := 249) (i := 0) rfl rfl q2.2 rfl (by omega) (by omega) ?_
      refine w_imul (pc' := 250) rfl rfl ?_
      refine w_br2 (pc' := 253) (t := 262) rfl rfl rfl ic_le (fun hc => ?_) (fun hc => ?_)
      · replace h := h.2 hc
        exact h
      · replace h := h.1 (Classical.not_not.mp hc)
        refine w_aload_n (pc' := 254) rfl rfl rfl ?_
        refine w_iconst (pc' := 255) rfl rfl (v := 4) rfl ?_
        refine w_aload_n (pc' := 256) rfl rfl rfl ?_
        refine w_getI (pc' := 259) rfl rfl rfl rfl rfl (show xS0 L 400 = (12, 0) from rfl) ?_
        refine w_cv (pc' := 262) (cm := xm_Mo_also) (as := [.int 4, .int (f 400 4)]) (a := 400) (rest := []) rfl rfl rfl  (xa_Mo_also (Nat.le_of_ble_eq_true rfl)) (show xS0 L 400 = (12, 0) from rfl) rfl (CV.k h fun g1 h => ?_)
        show Wp L xs xm_Mo_text 262 [.ref 400, .int x1, .int x2, .int x3, .retAddr 0] [] g1 _
        exact h
theorem t_Mo_text_262 {L : Nat} {xs : Nat → Int32} {x1 : Int32} {x2 : Int32} {x3 : Int32} {f : Hp} {Q : Int32 → Hp → Prop}  (h : (((f 401 5) = 0 → ((x2 = (-1) → ∃ k1 : Nat, x1 = iN k1 ∧ k1 < 4680 ∧ Wp L xs xm_Mo_text 288 [.ref 400, .int x1, .int x2, .int x3, .retAddr 0] [.int (f 401 k1)] f (QI Q)) ∧ (¬ x2 = (-1) → Wp L xs xm_Mo_text 288 [.ref 400, .int x1, .int x2, .int x3, .retAddr 0] [.int x2] f (QI Q)))) ∧ (¬ (f 401 5) = 0 → Q (-1) f))) : Wp L xs xm_Mo_text 262 [.ref 400, .int x1, .int x2, .int x3, .retAddr 0] [] f (QI Q) := by
  refine w_aload_n (pc' := 263) rfl rfl rfl ?_
  have q1 : xR0 400 0 = some 401 ∧ xS0 L 401 = (20, 4680) := (kf_12_0 (show xS0 L 400 = (12, 0) from rfl))
  refine w_getR (pc' := 266) rfl rfl rfl rfl (show xS0 L 400 = (12, 0) from rfl) q1.1 ?_
  refine w_iconst (pc' := 267) rfl rfl (v := 5) rfl ?_
  refine w_iaload (pc' := 268) (i := 5) rfl rfl q1.2 rfl (by omega) (by omega) ?_
  refine w_br (pc' := 271) (t := 273) rfl rfl rfl ic_eq (fun hc => ?_) (fun hc => ?_)
  · replace h := h.1 hc
    refine w_iload_n (pc' := 274) rfl rfl rfl ?_
    refine w_iconst (pc' := 275) rfl rfl (v := (-1)) rfl ?_
    refine w_br2 (pc' := 278) (t := 287) rfl rfl rfl ic_ne (fun hc => ?_) (fun hc => ?_)
    · replace h := h.2 hc
      refine w_iload_n (pc' := 288) rfl rfl rfl ?_
      exact h
    · replace h := h.1 (Classical.not_not.mp hc)
      refine w_aload_n (pc' := 279) rfl rfl rfl ?_
      have q2 : xR0 400 0 = some 401 ∧ xS0 L 401 = (20, 4680) := (kf_12_0 (show xS0 L 400 = (12, 0) from rfl))
      refine w_getR (pc' := 282) rfl rfl rfl rfl (show xS0 L 400 = (12, 0) from rfl) q2.1 ?_
      refine w_iload_n (pc' := 283) rfl rfl rfl ?_
      obtain ⟨k1, ek1, bk1, h⟩ := h
      refine w_iaload (pc' := 284) (i := k1) rfl rfl q2.2 ek1 bk1 (by omega) ?_
      refine w_goto (pc' := 288) rfl rfl ?_
      exact h
  · replace h := h.2 hc
    refine w_iconst (pc' := 272) rfl rfl (v := (-1)) rfl ?_
    exact w_ireturn rfl rfl h
theorem t_Mo_text_288 {L : Nat} {xs : Nat → Int32} {x1 : Int32} {x2 : Int32} {x3 : Int32} {s0 : Int32} {f : Hp} {Q : Int32 → Hp → Prop}  (h : ((x2 = (-1) → ∃ k1 : Nat, x1 = iN k1 ∧ k1 < 4680 ∧ ∀ g1, g1 = xu f 401 k1 ((f 401 k1) + 1) → Wp L xs xm_Mo_text 307 [.ref 400, .int x1, .int x2, .int s0, .int 0] [] g1 (QI Q)) ∧ (¬ x2 = (-1) → Wp L xs xm_Mo_text 307 [.ref 400, .int x1, .int x2, .int s0, .int 0] [] f (QI Q)))) : Wp L xs xm_Mo_text 288 [.ref 400, .int x1, .int x2, .int x3, .retAddr 0] [.int s0] f (QI Q) := by
  refine w_istore_n (pc' := 289) rfl rfl (xl' := [.ref 400, .int x1, .int x2, .int s0, .retAddr 0]) rfl ?_
  refine w_iload_n (pc' := 290) rfl rfl rfl ?_
  refine w_iconst (pc' := 291) rfl rfl (v := (-1)) rfl ?_
  refine w_br2 (pc' := 294) (t := 304) rfl rfl rfl ic_ne (fun hc => ?_) (fun hc => ?_)
  · replace h := h.2 hc
    refine w_iconst (pc' := 305) rfl rfl (v := 0) rfl ?_
    refine w_istore (pc' := 307) rfl rfl (xl' := [.ref 400, .int x1, .int x2, .int s0, .int 0]) rfl ?_
    exact h
  · replace h := h.1 (Classical.not_not.mp hc)
    refine w_aload_n (pc' := 295) rfl rfl rfl ?_
    have q1 : xR0 400 0 = some 401 ∧ xS0 L 401 = (20, 4680) := (kf_12_0 (show xS0 L 400 = (12, 0) from rfl))
    refine w_getR (pc' := 298) rfl rfl rfl rfl (show xS0 L 400 = (12, 0) from rfl) q1.1 ?_
    refine w_iload_n (pc' := 299) rfl rfl rfl ?_
    refine w_dup2 (pc' := 300) rfl rfl ?_
    obtain ⟨k1, ek1, bk1, h⟩ := h
    refine w_iaload (pc' := 301) (i := k1) rfl rfl q1.2 ek1 bk1 (by omega) ?_
    refine w_iconst (pc' := 302) rfl rfl (v := 1) rfl ?_
    refine w_iadd (pc' := 303) rfl rfl ?_
    refine w_iastore (pc' := 304) (i := k1) rfl rfl q1.2 ek1 bk1 (by omega) ?_
    replace h := h _ rfl
    generalize xu f 401 k1 ((f 401 k1) + 1) = g1 at h ⊢
    refine w_iconst (pc' := 305) rfl rfl (v := 0) rfl ?_
    refine w_istore (pc' := 307) rfl rfl (xl' := [.ref 400, .int x1, .int x2, .int s0, .int 0]) rfl ?_
    exact h
theorem t_Mo_text_307 {L : Nat} {xs : Nat → Int32} {x1 : Int32} {x2 : Int32} {x3 : Int32} {x4 : Int32} {f : Hp} {Q : Int32 → Hp → Prop}  (h : CI L xs xm_Mo_sizeOf [.int x1] f (fun v1 g1 => ((x4 < v1 → CI L xs xm_Mo_placeOf [.int x1, .int x3] g1 (fun v2 g2 => ∃ k1 : Nat, x4 = iN k1 ∧ k1 < 161 ∧ ∃ k2 : Nat, (v2 + x4) = iN k2 ∧ k2 < 4680 ∧ ∀ g3, g3 = xu g2 401 k2 (g2 403 k1) → Wp L xs xm_Mo_text 307 [.ref 400, .int x1, .int x2, .int x3, .int (x4 + 1)] [] g3 (QI Q))) ∧ (¬ x4 < v1 → Q x3 g1)))) : Wp L xs xm_Mo_text 307 [.ref 400, .int x1, .int x2, .int x3, .int x4] [] f (QI Q) := by
  refine w_iload (pc' := 309) rfl rfl rfl ?_
  refine w_iload_n (pc' := 310) rfl rfl rfl ?_
  refine w_cs (pc' := 313) (cm := xm_Mo_sizeOf) (as := [.int x1]) (rest := [.int x4]) rfl rfl rfl (Or.inl rfl) (xa_Mo_sizeOf (Nat.le_of_ble_eq_true rfl)) (CI.k h fun v1 g1 h => ?_)
  show Wp L xs xm_Mo_text 313 [.ref 400, .int x1, .int x2, .int x3, .int x4] [.int v1, .int x4] g1 _
  refine w_br2 (pc' := 316) (t := 342) rfl rfl rfl ic_ge (fun hc => ?_) (fun hc => ?_)
  · replace h := h.2 hc
    refine w_iload_n (pc' := 343) rfl rfl rfl ?_
    exact w_ireturn rfl rfl h
  · replace h := h.1 (Classical.not_not.mp hc)
    refine w_aload_n (pc' := 317) rfl rfl rfl ?_
    have q1 : xR0 400 0 = some 401 ∧ xS0 L 401 = (20, 4680) := (kf_12_0 (show xS0 L 400 = (12, 0) from rfl))
    refine w_getR (pc' := 320) rfl rfl rfl rfl (show xS0 L 400 = (12, 0) from rfl) q1.1 ?_
    refine w_iload_n (pc' := 321) rfl rfl rfl ?_
    refine w_iload_n (pc' := 322) rfl rfl rfl ?_
    refine w_cs (pc' := 325) (cm := xm_Mo_placeOf) (as := [.int x1, .int x3]) (rest := [.ref 401]) rfl rfl rfl (Or.inl rfl) (xa_Mo_placeOf (Nat.le_of_ble_eq_true rfl)) (CI.k h fun v2 g2 h => ?_)
    show Wp L xs xm_Mo_text 325 [.ref 400, .int x1, .int x2, .int x3, .int x4] [.int v2, .ref 401] g2 _
    refine w_iload (pc' := 327) rfl rfl rfl ?_
    refine w_iadd (pc' := 328) rfl rfl ?_
    refine w_aload_n (pc' := 329) rfl rfl rfl ?_
    have q2 : xR0 400 10 = some 403 ∧ xS0 L 403 = (20, 161) := (kf_12_10 (show xS0 L 400 = (12, 0) from rfl))
    refine w_getR (pc' := 332) rfl rfl rfl rfl (show xS0 L 400 = (12, 0) from rfl) q2.1 ?_
    refine w_iload (pc' := 334) rfl rfl rfl ?_
    obtain ⟨k1, ek1, bk1, h⟩ := h
    refine w_iaload (pc' := 335) (i := k1) rfl rfl q2.2 ek1 bk1 (by omega) ?_
    obtain ⟨k2, ek2, bk2, h⟩ := h
    refine w_iastore (pc' := 336) (i := k2) rfl rfl q1.2 ek2 bk2 (by omega) ?_
    replace h := h _ rfl
    generalize xu g2 401 k2 (g2 403 k1) = g3 at h ⊢
    refine w_iinc (pc' := 339) rfl rfl rfl (v := (x4 + 1)) rfl (xl' := [.ref 400, .int x1, .int x2, .int x3, .int (x4 + 1)]) rfl ?_
    refine w_goto (pc' := 307) rfl rfl ?_
    exact h
theorem t_Mo_isIn_0 {L : Nat} {xs : Nat → Int32} {x0 : Int32} {x1 : Int32} {x2 : Int32} {f : Hp} {Q : Int32 → Hp → Prop}  (h : ((x0 < x1 → Q 0 f) ∧ (¬ x0 < x1 → ((x2 < x0 → Q 0 f) ∧ (¬ x2 < x0 → Q 1 f))))) : CI L xs xm_Mo_isIn [.int x0, .int x1, .int x2] f Q := by
  show Wp L xs xm_Mo_isIn 0 [.int x0, .int x1, .int x2] [] f (QI Q)
  refine w_iload_n (pc' := 1) rfl rfl rfl ?_
  refine w_iload_n (pc' := 2) rfl rfl rfl ?_
  refine w_br2 (pc' := 5) (t := 14) rfl rfl rfl ic_lt (fun hc => ?_) (fun hc => ?_)
  · replace h := h.1 hc
    refine w_iconst (pc' := 15) rfl rfl (v := 0) rfl ?_
    exact w_ireturn rfl rfl h
  · replace h := h.2 hc
    refine w_iload_n (pc' := 6) rfl rfl rfl ?_
    refine w_iload_n (pc' := 7) rfl rfl rfl ?_
    refine w_br2 (pc' := 10) (t := 14) rfl rfl rfl ic_gt (fun hc => ?_) (fun hc => ?_)
    · replace h := h.1 hc
      refine w_iconst (pc' := 15) rfl rfl (v := 0) rfl ?_
      exact w_ireturn rfl rfl h
    · replace h := h.2 hc
      refine w_iconst (pc' := 11) rfl rfl (v := 1) rfl ?_
      refine w_goto (pc' := 15) rfl rfl ?_
      exact w_ireturn rfl rfl h
theorem t_Mo_isOf_0 {L : Nat} {xs : Nat → Int32} {x1 : Int32} {x2 : Int32} {f : Hp} {Q : Int32 → Hp → Prop}  (h : ∃ k1 : Nat, x1 = iN k1 ∧ k1 < 4680 ∧ CI L xs xm_Mo_isIn [.int x2, .int 0, .int ((f 401 k1) - 1)] f (fun v1 g1 => (v1 = 0 ∨ v1 = 1) ∧ Q v1 g1)) : CI L xs xm_Mo_isOf [.ref 400, .int x1, .int x2] f Q := by
  show Wp L xs xm_Mo_isOf 0 [.ref 400, .int x1, .int x2] [] f (QI Q)
  refine w_iload_n (pc' := 1) rfl rfl rfl ?_
  refine w_iconst (pc' := 2) rfl rfl (v := 0) rfl ?_
  refine w_aload_n (pc' := 3) rfl rfl rfl ?_
  have q1 : xR0 400 0 = some 401 ∧ xS0 L 401 = (20, 4680) := (kf_12_0 (show xS0 L 400 = (12, 0) from rfl))
  refine w_getR (pc' := 6) rfl rfl rfl rfl (show xS0 L 400 = (12, 0) from rfl) q1.1 ?_
  refine w_iload_n (pc' := 7) rfl rfl rfl ?_
  obtain ⟨k1, ek1, bk1, h⟩ := h
  refine w_iaload (pc' := 8) (i := k1) rfl rfl q1.2 ek1 bk1 (by omega) ?_
  refine w_iconst (pc' := 9) rfl rfl (v := 1) rfl ?_
  refine w_isub (pc' := 10) rfl rfl ?_
  refine w_cs (pc' := 13) (cm := xm_Mo_isIn) (as := [.int x2, .int 0, .int ((f 401 k1) - 1)]) (rest := []) rfl rfl rfl (Or.inl rfl) (xa_Mo_isIn (Nat.le_of_ble_eq_true rfl)) (CI.k h fun v1 g1 h => ?_)
  show Wp L xs xm_Mo_isOf 13 [.ref 400, .int x1, .int x2] [.int v1] g1 _
  obtain ⟨q2, h⟩ := h
  exact w_ireturn rfl (xr_bool rfl q2) h
theorem t_Mo_advance_0 {L : Nat} {xs : Nat → Int32}  {f : Hp} {Q : Hp → Prop}  (h : CI L xs xm_Mo_byteAt [.ref 400, .int (f 400 3)] f (fun v1 g1 => ((v1 = 10 → ∀ g2, g2 = xu g1 400 3 ((g1 400 3) + 1) → Wp L xs xm_Mo_advance 0 [.ref 400, .retAddr 0, .retAddr 0, .retAddr 0] [] g2 (QV Q)) ∧ (¬ v1 = 10 → CI L xs xm_Mo_byteAt [.ref 400, .int (g1 400 3)] g1 (fun v2 g3 => ((v2 = 32 → ∀ g13, g13 = xu g3 400 3 ((g3 400 3) + 1) → Wp L xs xm_Mo_advance 0 [.ref 400, .retAddr 0, .retAddr 0, .retAddr 0] [] g13 (QV Q)) ∧ (¬ v2 = 32 → ∀ g4, g4 = xu g3 400 4 (g3 400 3) → CI L xs xm_Mo_byteAt [.ref 400, .int (g4 400 3)] g4 (fun v3 g5 => ((v3 < 0 → ∀ g12, g12 = xu g5 400 5 0 → Q g12) ∧ (¬ v3 < 0 → CI L xs xm_Mo_isLetter [.int v3] g5 (fun v4 g6 => ((v4 = 0 → CI L xs xm_Mo_isDigit [.int v3] g6 (fun v5 g7 => ((v5 = 0 → ∀ g8, g8 = xu g7 400 3 ((g7 400 3) + 1) → ((v3 = 59 → ∀ g10, g10 = xu g8 400 5 2 → Q g10) ∧ (¬ v3 = 59 → ∀ g9, g9 = xu g8 400 5 4 → Q g9))) ∧ (¬ v5 = 0 → ∀ g11, g11 = xu g7 400 6 0 → Wp L xs xm_Mo_advance 198 [.ref 400, .int v3, .retAddr 0, .retAddr 0] [] g11 (QV Q))))) ∧ (¬ v4 = 0 → Wp L xs xm_Mo_advance 77 [.ref 400, .int v3, .long 0, .retAddr 0] [] g6 (QV Q)))))))))))))) : CV L xs xm_Mo_advance [.ref 400] f Q := by
  show Wp L xs xm_Mo_advance 0 [.ref 400, .retAddr 0, .retAddr 0, .retAddr 0] [] f (QV Q)
  refine w_aload_n (pc' := 1) rfl rfl rfl ?_
  refine w_aload_n (pc' := 2) rfl rfl rfl ?_
  refine w_getI (pc' := 5) rfl rfl rfl rfl rfl (show xS0 L 400 = (12, 0) from rfl) ?_
  refine w_cv (pc' := 8) (cm := xm_Mo_byteAt) (as := [.int (f 400 3)]) (a := 400) (rest := []) rfl rfl rfl  (xa_Mo_byteAt (Nat.le_of_ble_eq_true rfl)) (show xS0 L 400 = (12, 0) from rfl) rfl (CI.k h fun v1 g1 h => ?_)
  show Wp L xs xm_Mo_advance 8 [.ref 400, .retAddr 0, .retAddr 0, .retAddr 0] [.int v1] g1 _
  refine w_bipush (pc' := 10) rfl rfl (v := 10) rfl ?_
  refine w_br2 (pc' := 13) (t := 26) rfl rfl rfl ic_eq (fun hc => ?_) (fun hc => ?_)
  · replace h := h.1 hc
    refine w_aload_n (pc' := 27) rfl rfl rfl ?_
    refine w_dupA (pc' := 28) rfl rfl ?_
    refine w_getI (pc' := 31) rfl rfl rfl rfl rfl (show xS0 L 400 = (12, 0) from rfl) ?_
    refine w_iconst (pc' := 32) rfl rfl (v := 1) rfl ?_
    refine w_iadd (pc' := 33) rfl rfl ?_
    refine w_putI (pc' := 36) rfl rfl rfl rfl (show xS0 L 400 = (12, 0) from rfl) ?_
    replace h := h _ rfl
    generalize xu g1 400 3 ((g1 400 3) + 1) = g2 at h ⊢
    refine w_goto (pc' := 0) rfl rfl ?_
    exact h
  · replace h := h.2 hc
    refine w_aload_n (pc' := 14) rfl rfl rfl ?_
    refine w_aload_n (pc' := 15) rfl rfl rfl ?_
    refine w_getI (pc' := 18) rfl rfl rfl rfl rfl (show xS0 L 400 = (12, 0) from rfl) ?_
    refine w_cv (pc' := 21) (cm := xm_Mo_byteAt) (as := [.int (g1 400 3)]) (a := 400) (rest := []) rfl rfl rfl  (xa_Mo_byteAt (Nat.le_of_ble_eq_true rfl)) (show xS0 L 400 = (12, 0) from rfl) rfl (CI.k h fun v2 g3 h => ?_)
    show Wp L xs xm_Mo_advance 21 [.ref 400, .retAddr 0, .retAddr 0, .retAddr 0] [.int v2] g3 _
    refine w_bipush (pc' := 23) rfl rfl (v := 32) rfl ?_
    refine w_br2 (pc' := 26) (t := 39) rfl rfl rfl ic_ne (fun hc => ?_) (fun hc => ?_)
    · replace h := h.2 hc
      refine w_aload_n (pc' := 40) rfl rfl rfl ?_
      refine w_aload_n (pc' := 41) rfl rfl rfl ?_
      refine w_getI (pc' := 44) rfl rfl rfl rfl rfl (show xS0 L 400 = (12, 0) from rfl) ?_
      refine w_putI (pc' := 47) rfl rfl rfl rfl (show xS0 L 400 = (12, 0) from rfl) ?_
      replace h := h _ rfl
      generalize xu g3 400 4 (g3 400 3) = g4 at h ⊢
      refine w_aload_n (pc' := 48) rfl rfl rfl ?_
      refine w_aload_n (pc' := 49) rfl rfl rfl ?_
      refine w_getI (pc' := 52) rfl rfl rfl rfl rfl (show xS0 L 400 = (12, 0) from rfl) ?_
      refine w_cv (pc' := 55) (cm := xm_Mo_byteAt) (as := [.int (g4 400 3)]) (a := 400) (rest := []) rfl rfl rfl  (xa_Mo_byteAt (Nat.le_of_ble_eq_true rfl)) (show xS0 L 400 = (12, 0) from rfl) rfl (CI.k h fun v3 g5 h => ?_)
      show Wp L xs xm_Mo_advance 55 [.ref 400, .retAddr 0, .retAddr 0, .retAddr 0] [.int v3] g5 _
      refine w_istore_n (pc' := 56) rfl rfl (xl' := [.ref 400, .int v3, .retAddr 0, .retAddr 0]) rfl ?_
      refine w_iload_n (pc' := 57) rfl rfl rfl ?_
      refine w_br (pc' := 60) (t := 68) rfl rfl rfl ic_ge (fun hc => ?_) (fun hc => ?_)
      · replace h := h.2 hc
        refine w_iload_n (pc' := 69) rfl rfl rfl ?_
        refine w_cs (pc' := 72) (cm := xm_Mo_isLetter) (as := [.int v3]) (rest := []) rfl rfl rfl (Or.inl rfl) (xa_Mo_isLetter (Nat.le_of_ble_eq_true rfl)) (CI.k h fun v4 g6 h => ?_)
        show Wp L xs xm_Mo_advance 72 [.ref 400, .int v3, .retAddr 0, .retAddr 0] [.int v4] g6 _
        refine w_br (pc' := 75) (t := 186) rfl rfl rfl ic_eq (fun hc => ?_) (fun hc => ?_)
        · replace h := h.1 hc
          refine w_iload_n (pc' := 187) rfl rfl rfl ?_
          refine w_cs (pc' := 190) (cm := xm_Mo_isDigit) (as := [.int v3]) (rest := []) rfl rfl rfl (Or.inl rfl) (xa_Mo_isDigit (Nat.le_of_ble_eq_true rfl)) (CI.k h fun v5 g7 h => ?_)
          show Wp L xs xm_Mo_advance 190 [.ref 400, .int v3, .retAddr 0, .retAddr 0] [.int v5] g7 _
          refine w_br (pc' := 193) (t := 286) rfl rfl rfl ic_eq (fun hc => ?_) (fun hc => ?_)
          · replace h := h.1 hc
            refine w_aload_n (pc' := 287) rfl rfl rfl ?_
            refine w_dupA (pc' := 288) rfl rfl ?_
            refine w_getI (pc' := 291) rfl rfl rfl rfl rfl (show xS0 L 400 = (12, 0) from rfl) ?_
            refine w_iconst (pc' := 292) rfl rfl (v := 1) rfl ?_
            refine w_iadd (pc' := 293) rfl rfl ?_
            refine w_putI (pc' := 296) rfl rfl rfl rfl (show xS0 L 400 = (12, 0) from rfl) ?_
            replace h := h _ rfl
            generalize xu g7 400 3 ((g7 400 3) + 1) = g8 at h ⊢
            refine w_aload_n (pc' := 297) rfl rfl rfl ?_
            refine w_iload_n (pc' := 298) rfl rfl rfl ?_
            refine w_bipush (pc' := 300) rfl rfl (v := 59) rfl ?_
            refine w_br2 (pc' := 303) (t := 307) rfl rfl rfl ic_ne (fun hc => ?_) (fun hc => ?_)
            · replace h := h.2 hc
              refine w_iconst (pc' := 308) rfl rfl (v := 4) rfl ?_
              refine w_putI (pc' := 311) rfl rfl rfl rfl (show xS0 L 400 = (12, 0) from rfl) ?_
              replace h := h _ rfl
              generalize xu g8 400 5 4 = g9 at h ⊢
              exact w_return rfl rfl h
            · replace h := h.1 (Classical.not_not.mp hc)
              refine w_iconst (pc' := 304) rfl rfl (v := 2) rfl ?_
              refine w_goto (pc' := 308) rfl rfl ?_
              refine w_putI (pc' := 311) rfl rfl rfl rfl (show xS0 L 400 = (12, 0) from rfl) ?_
              replace h := h _ rfl
              generalize xu g8 400 5 2 = g10 at h ⊢
              exact w_return rfl rfl h
          · replace h := h.2 hc
            refine w_aload_n (pc' := 194) rfl rfl rfl ?_
            refine w_iconst (pc' := 195) rfl rfl (v := 0) rfl ?_
            refine w_putI (pc' := 198) rfl rfl rfl rfl (show xS0 L 400 = (12, 0) from rfl) ?_
            replace h := h _ rfl
            generalize xu g7 400 6 0 = g11 at h ⊢
            exact h
        · replace h := h.2 hc
          refine w_lconst (pc' := 76) rfl rfl (v := 0) rfl ?_
          refine w_lstore_n (pc' := 77) rfl rfl (xl' := [.ref 400, .int v3, .long 0, .retAddr 0]) rfl ?_
          exact h
      · replace h := h.1 (Classical.not_not.mp hc)
        refine w_aload_n (pc' := 61) rfl rfl rfl ?_
        refine w_iconst (pc' := 62) rfl rfl (v := 0) rfl ?_
        refine w_putI (pc' := 65) rfl rfl rfl rfl (show xS0 L 400 = (12, 0) from rfl) ?_
        replace h := h _ rfl
        generalize xu g5 400 5 0 = g12 at h ⊢
        refine w_goto (pc' := 311) rfl rfl ?_
        exact w_return rfl rfl h
    · replace h := h.1 (Classical.not_not.mp hc)
      refine w_aload_n (pc' := 27) rfl rfl rfl ?_
      refine w_dupA (pc' := 28) rfl rfl ?_
      refine w_getI (pc' := 31) rfl rfl rfl rfl rfl (show xS0 L 400 = (12, 0) from rfl) ?_
      refine w_iconst (pc' := 32) rfl rfl (v := 1) rfl ?_
      refine w_iadd (pc' := 33) rfl rfl ?_
      refine w_putI (pc' := 36) rfl rfl rfl rfl (show xS0 L 400 = (12, 0) from rfl) ?_
      replace h := h _ rfl
      generalize xu g3 400 3 ((g3 400 3) + 1) = g13 at h ⊢
      refine w_goto (pc' := 0) rfl rfl ?_
      exact h
theorem t_Mo_advance_77 {L : Nat} {xs : Nat → Int32} {x1 : Int32} {x2 : Int64} {f : Hp} {Q : Hp → Prop}  (h : CI L xs xm_Mo_byteAt [.ref 400, .int (f 400 3)] f (fun v1 g1 => CI L xs xm_Mo_isLetter [.int v1] g1 (fun v2 g2 => ((v2 = 0 → ((8 < ((g2 400 3) - (g2 400 4)) → Wp L xs xm_Mo_advance 162 [.ref 400, .int x1, .long x2, .retAddr 0] [.int 99, .ref 400] g2 (QV Q)) ∧ (¬ 8 < ((g2 400 3) - (g2 400 4)) → CI L xs xm_Mo_wordOf [.long x2] g2 (fun v3 g3 => Wp L xs xm_Mo_advance 162 [.ref 400, .int x1, .long x2, .retAddr 0] [.int v3, .ref 400] g3 (QV Q))))) ∧ (¬ v2 = 0 → ((((g2 400 3) - (g2 400 4)) < 8 → CI L xs xm_Mo_byteAt [.ref 400, .int (g2 400 3)] g2 (fun v4 g5 => ∀ g6, g6 = xu g5 400 3 ((g5 400 3) + 1) → Wp L xs xm_Mo_advance 77 [.ref 400, .int x1, .long (((32 * x2) + v4.toInt64) - 96), .retAddr 0] [] g6 (QV Q))) ∧ (¬ ((g2 400 3) - (g2 400 4)) < 8 → ∀ g4, g4 = xu g2 400 3 ((g2 400 3) + 1) → Wp L xs xm_Mo_advance 77 [.ref 400, .int x1, .long x2, .retAddr 0] [] g4 (QV Q)))))))) : Wp L xs xm_Mo_advance 77 [.ref 400, .int x1, .long x2, .retAddr 0] [] f (QV Q) := by
  refine w_aload_n (pc' := 78) rfl rfl rfl ?_
  refine w_aload_n (pc' := 79) rfl rfl rfl ?_
  refine w_getI (pc' := 82) rfl rfl rfl rfl rfl (show xS0 L 400 = (12, 0) from rfl) ?_
  refine w_cv (pc' := 85) (cm := xm_Mo_byteAt) (as := [.int (f 400 3)]) (a := 400) (rest := []) rfl rfl rfl  (xa_Mo_byteAt (Nat.le_of_ble_eq_true rfl)) (show xS0 L 400 = (12, 0) from rfl) rfl (CI.k h fun v1 g1 h => ?_)
  show Wp L xs xm_Mo_advance 85 [.ref 400, .int x1, .long x2, .retAddr 0] [.int v1] g1 _
  refine w_cs (pc' := 88) (cm := xm_Mo_isLetter) (as := [.int v1]) (rest := []) rfl rfl rfl (Or.inl rfl) (xa_Mo_isLetter (Nat.le_of_ble_eq_true rfl)) (CI.k h fun v2 g2 h => ?_)
  show Wp L xs xm_Mo_advance 88 [.ref 400, .int x1, .long x2, .retAddr 0] [.int v2] g2 _
  refine w_br (pc' := 91) (t := 138) rfl rfl rfl ic_eq (fun hc => ?_) (fun hc => ?_)
  · replace h := h.1 hc
    refine w_aload_n (pc' := 139) rfl rfl rfl ?_
    refine w_aload_n (pc' := 140) rfl rfl rfl ?_
    refine w_getI (pc' := 143) rfl rfl rfl rfl rfl (show xS0 L 400 = (12, 0) from rfl) ?_
    refine w_aload_n (pc' := 144) rfl rfl rfl ?_
    refine w_getI (pc' := 147) rfl rfl rfl rfl rfl (show xS0 L 400 = (12, 0) from rfl) ?_
    refine w_isub (pc' := 148) rfl rfl ?_
    refine w_bipush (pc' := 150) rfl rfl (v := 8) rfl ?_
    refine w_br2 (pc' := 153) (t := 158) rfl rfl rfl ic_le (fun hc => ?_) (fun hc => ?_)
    · replace h := h.2 hc
      refine w_lload_n (pc' := 159) rfl rfl rfl ?_
      refine w_cs (pc' := 162) (cm := xm_Mo_wordOf) (as := [.long x2]) (rest := [.ref 400]) rfl rfl rfl (Or.inl rfl) (xa_Mo_wordOf (Nat.le_of_ble_eq_true rfl)) (CI.k h fun v3 g3 h => ?_)
      show Wp L xs xm_Mo_advance 162 [.ref 400, .int x1, .long x2, .retAddr 0] [.int v3, .ref 400] g3 _
      exact h
    · replace h := h.1 (Classical.not_not.mp hc)
      refine w_bipush (pc' := 155) rfl rfl (v := 99) rfl ?_
      refine w_goto (pc' := 162) rfl rfl ?_
      exact h
  · replace h := h.2 hc
    refine w_aload_n (pc' := 92) rfl rfl rfl ?_
    refine w_getI (pc' := 95) rfl rfl rfl rfl rfl (show xS0 L 400 = (12, 0) from rfl) ?_
    refine w_aload_n (pc' := 96) rfl rfl rfl ?_
    refine w_getI (pc' := 99) rfl rfl rfl rfl rfl (show xS0 L 400 = (12, 0) from rfl) ?_
    refine w_isub (pc' := 100) rfl rfl ?_
    refine w_bipush (pc' := 102) rfl rfl (v := 8) rfl ?_
    refine w_br2 (pc' := 105) (t := 125) rfl rfl rfl ic_ge (fun hc => ?_) (fun hc => ?_)
    · replace h := h.2 hc
      refine w_aload_n (pc' := 126) rfl rfl rfl ?_
      refine w_dupA (pc' := 127) rfl rfl ?_
      refine w_getI (pc' := 130) rfl rfl rfl rfl rfl (show xS0 L 400 = (12, 0) from rfl) ?_
      refine w_iconst (pc' := 131) rfl rfl (v := 1) rfl ?_
      refine w_iadd (pc' := 132) rfl rfl ?_
      refine w_putI (pc' := 135) rfl rfl rfl rfl (show xS0 L 400 = (12, 0) from rfl) ?_
      replace h := h _ rfl
      generalize xu g2 400 3 ((g2 400 3) + 1) = g4 at h ⊢
      refine w_goto (pc' := 77) rfl rfl ?_
      exact h
    · replace h := h.1 (Classical.not_not.mp hc)
      refine w_ldc2 (pc' := 108) rfl rfl (v := 32) rfl ?_
      refine w_lload_n (pc' := 109) rfl rfl rfl ?_
      refine w_lmul (pc' := 110) rfl rfl ?_
      refine w_aload_n (pc' := 111) rfl rfl rfl ?_
      refine w_aload_n (pc' := 112) rfl rfl rfl ?_
      refine w_getI (pc' := 115) rfl rfl rfl rfl rfl (show xS0 L 400 = (12, 0) from rfl) ?_
      refine w_cv (pc' := 118) (cm := xm_Mo_byteAt) (as := [.int (g2 400 3)]) (a := 400) (rest := [.long (32 * x2)]) rfl rfl rfl  (xa_Mo_byteAt (Nat.le_of_ble_eq_true rfl)) (show xS0 L 400 = (12, 0) from rfl) rfl (CI.k h fun v4 g5 h => ?_)
      show Wp L xs xm_Mo_advance 118 [.ref 400, .int x1, .long x2, .retAddr 0] [.int v4, .long (32 * x2)] g5 _
      refine w_i2l (pc' := 119) rfl rfl ?_
      refine w_ladd (pc' := 120) rfl rfl ?_
      refine w_ldc2 (pc' := 123) rfl rfl (v := 96) rfl ?_
      refine w_lsub (pc' := 124) rfl rfl ?_
      refine w_lstore_n (pc' := 125) rfl rfl (xl' := [.ref 400, .int x1, .long (((32 * x2) + v4.toInt64) - 96), .retAddr 0]) rfl ?_
      refine w_aload_n (pc' := 126) rfl rfl rfl ?_
      refine w_dupA (pc' := 127) rfl rfl ?_
      refine w_getI (pc' := 130) rfl rfl rfl rfl rfl (show xS0 L 400 = (12, 0) from rfl) ?_
      refine w_iconst (pc' := 131) rfl rfl (v := 1) rfl ?_
      refine w_iadd (pc' := 132) rfl rfl ?_
      refine w_putI (pc' := 135) rfl rfl rfl rfl (show xS0 L 400 = (12, 0) from rfl) ?_
      replace h := h _ rfl
      generalize xu g5 400 3 ((g5 400 3) + 1) = g6 at h ⊢
      refine w_goto (pc' := 77) rfl rfl ?_
      exact h
theorem t_Mo_advance_162 {L : Nat} {xs : Nat → Int32} {x1 : Int32} {x2 : Int64} {s0 : Int32} {f : Hp} {Q : Hp → Prop}  (h : ∀ g1, g1 = xu f 400 7 s0 → (((g1 400 7) = 99 → ∀ g3, g3 = xu g1 400 5 4 → Q g3) ∧ (¬ (g1 400 7) = 99 → ∀ g2, g2 = xu g1 400 5 3 → Q g2))) : Wp L xs xm_Mo_advance 162 [.ref 400, .int x1, .long x2, .retAddr 0] [.int s0, .ref 400] f (QV Q) := by
  refine w_putI (pc' := 165) rfl rfl rfl rfl (show xS0 L 400 = (12, 0) from rfl) ?_
  replace h := h _ rfl
  generalize xu f 400 7 s0 = g1 at h ⊢
  refine w_aload_n (pc' := 166) rfl rfl rfl ?_
  refine w_aload_n (pc' := 167) rfl rfl rfl ?_
  refine w_getI (pc' := 170) rfl rfl rfl rfl rfl (show xS0 L 400 = (12, 0) from rfl) ?_
  refine w_bipush (pc' := 172) rfl rfl (v := 99) rfl ?_
  refine w_br2 (pc' := 175) (t := 179) rfl rfl rfl ic_ne (fun hc => ?_) (fun hc => ?_)
  · replace h := h.2 hc
    refine w_iconst (pc' := 180) rfl rfl (v := 3) rfl ?_
    refine w_putI (pc' := 183) rfl rfl rfl rfl (show xS0 L 400 = (12, 0) from rfl) ?_
    replace h := h _ rfl
    generalize xu g1 400 5 3 = g2 at h ⊢
    refine w_goto (pc' := 311) rfl rfl ?_
    exact w_return rfl rfl h
  · replace h := h.1 (Classical.not_not.mp hc)
    refine w_iconst (pc' := 176) rfl rfl (v := 4) rfl ?_
    refine w_goto (pc' := 180) rfl rfl ?_
    refine w_putI (pc' := 183) rfl rfl rfl rfl (show xS0 L 400 = (12, 0) from rfl) ?_
    replace h := h _ rfl
    generalize xu g1 400 5 4 = g3 at h ⊢
    refine w_goto (pc' := 311) rfl rfl ?_
    exact w_return rfl rfl h
theorem t_Mo_advance_198 {L : Nat} {xs : Nat → Int32} {x1 : Int32} {f : Hp} {Q : Hp → Prop}  (h : CI L xs xm_Mo_byteAt [.ref 400, .int (f 400 3)] f (fun v1 g1 => CI L xs xm_Mo_isDigit [.int v1] g1 (fun v2 g2 => ((v2 = 0 → ((2 < ((g2 400 3) - (g2 400 4)) → ∀ g4, g4 = xu g2 400 5 4 → Q g4) ∧ (¬ 2 < ((g2 400 3) - (g2 400 4)) → ∀ g3, g3 = xu g2 400 5 1 → Q g3))) ∧ (¬ v2 = 0 → ((((g2 400 3) - (g2 400 4)) < 2 → CI L xs xm_Mo_byteAt [.ref 400, .int (g2 400 3)] g2 (fun v3 g6 => ∀ g7, g7 = xu g6 400 6 (((10 * (g2 400 6)) + v3) - 48) → ∀ g8, g8 = xu g7 400 3 ((g7 400 3) + 1) → Wp L xs xm_Mo_advance 198 [.ref 400, .int x1, .retAddr 0, .retAddr 0] [] g8 (QV Q))) ∧ (¬ ((g2 400 3) - (g2 400 4)) < 2 → ∀ g5, g5 = xu g2 400 3 ((g2 400 3) + 1) → Wp L xs xm_Mo_advance 198 [.ref 400, .int x1, .retAddr 0, .retAddr 0] [] g5 (QV Q)))))))) : Wp L xs xm_Mo_advance 198 [.ref 400, .int x1, .retAddr 0, .retAddr 0] [] f (QV Q) := by
  refine w_aload_n (pc' := 199) rfl rfl rfl ?_
  refine w_aload_n (pc' := 200) rfl rfl rfl ?_
  refine w_getI (pc' := 203) rfl rfl rfl rfl rfl (show xS0 L 400 = (12, 0) from rfl) ?_
  refine w_cv (pc' := 206) (cm := xm_Mo_byteAt) (as := [.int (f 400 3)]) (a := 400) (rest := []) rfl rfl rfl  (xa_Mo_byteAt (Nat.le_of_ble_eq_true rfl)) (show xS0 L 400 = (12, 0) from rfl) rfl (CI.k h fun v1 g1 h => ?_)
  show Wp L xs xm_Mo_advance 206 [.ref 400, .int x1, .retAddr 0, .retAddr 0] [.int v1] g1 _
  refine w_cs (pc' := 209) (cm := xm_Mo_isDigit) (as := [.int v1]) (rest := []) rfl rfl rfl (Or.inl rfl) (xa_Mo_isDigit (Nat.le_of_ble_eq_true rfl)) (CI.k h fun v2 g2 h => ?_)
  show Wp L xs xm_Mo_advance 209 [.ref 400, .int x1, .retAddr 0, .retAddr 0] [.int v2] g2 _
  refine w_br (pc' := 212) (t := 261) rfl rfl rfl ic_eq (fun hc => ?_) (fun hc => ?_)
  · replace h := h.1 hc
    refine w_aload_n (pc' := 262) rfl rfl rfl ?_
    refine w_aload_n (pc' := 263) rfl rfl rfl ?_
    refine w_getI (pc' := 266) rfl rfl rfl rfl rfl (show xS0 L 400 = (12, 0) from rfl) ?_
    refine w_aload_n (pc' := 267) rfl rfl rfl ?_
    refine w_getI (pc' := 270) rfl rfl rfl rfl rfl (show xS0 L 400 = (12, 0) from rfl) ?_
    refine w_isub (pc' := 271) rfl rfl ?_
    refine w_iconst (pc' := 272) rfl rfl (v := 2) rfl ?_
    refine w_br2 (pc' := 275) (t := 279) rfl rfl rfl ic_le (fun hc => ?_) (fun hc => ?_)
    · replace h := h.2 hc
      refine w_iconst (pc' := 280) rfl rfl (v := 1) rfl ?_
      refine w_putI (pc' := 283) rfl rfl rfl rfl (show xS0 L 400 = (12, 0) from rfl) ?_
      replace h := h _ rfl
      generalize xu g2 400 5 1 = g3 at h ⊢
      refine w_goto (pc' := 311) rfl rfl ?_
      exact w_return rfl rfl h
    · replace h := h.1 (Classical.not_not.mp hc)
      refine w_iconst (pc' := 276) rfl rfl (v := 4) rfl ?_
      refine w_goto (pc' := 280) rfl rfl ?_
      refine w_putI (pc' := 283) rfl rfl rfl rfl (show xS0 L 400 = (12, 0) from rfl) ?_
      replace h := h _ rfl
      generalize xu g2 400 5 4 = g4 at h ⊢
      refine w_goto (pc' := 311) rfl rfl ?_
      exact w_return rfl rfl h
  · replace h := h.2 hc
    refine w_aload_n (pc' := 213) rfl rfl rfl ?_
    refine w_getI (pc' := 216) rfl rfl rfl rfl rfl (show xS0 L 400 = (12, 0) from rfl) ?_
    refine w_aload_n (pc' := 217) rfl rfl rfl ?_
    refine w_getI (pc' := 220) rfl rfl rfl rfl rfl (show xS0 L 400 = (12, 0) from rfl) ?_
    refine w_isub (pc' := 221) rfl rfl ?_
    refine w_iconst (pc' := 222) rfl rfl (v := 2) rfl ?_
    refine w_br2 (pc' := 225) (t := 248) rfl rfl rfl ic_ge (fun hc => ?_) (fun hc => ?_)
    · replace h := h.2 hc
      refine w_aload_n (pc' := 249) rfl rfl rfl ?_
      refine w_dupA (pc' := 250) rfl rfl ?_
      refine w_getI (pc' := 253) rfl rfl rfl rfl rfl (show xS0 L 400 = (12, 0) from rfl) ?_
      refine w_iconst (pc' := 254) rfl rfl (v := 1) rfl ?_
      refine w_iadd (pc' := 255) rfl rfl ?_
      refine w_putI (pc' := 258) rfl rfl rfl rfl (show xS0 L 400 = (12, 0) from rfl) ?_
      replace h := h _ rfl
      generalize xu g2 400 3 ((g2 400 3) + 1) = g5 at h ⊢
      refine w_goto (pc' := 198) rfl rfl ?_
      exact h
    · replace h := h.1 (Classical.not_not.mp hc)
      refine w_aload_n (pc' := 226) rfl rfl rfl ?_
      refine w_bipush (pc' := 228) rfl rfl (v := 10) rfl ?_
      refine w_aload_n (pc' := 229) rfl rfl rfl ?_
      refine w_getI (pc' := 232) rfl rfl rfl rfl rfl (show xS0 L 400 = (12, 0) from rfl) ?_
      refine w_imul (pc' := 233) rfl rfl ?_
      refine w_aload_n (pc' := 234) rfl rfl rfl ?_
      refine w_aload_n (pc' := 235) rfl rfl rfl ?_
      refine w_getI (pc' := 238) rfl rfl rfl rfl rfl (show xS0 L 400 = (12, 0) from rfl) ?_
      refine w_cv (pc' := 241) (cm := xm_Mo_byteAt) (as := [.int (g2 400 3)]) (a := 400) (rest := [.int (10 * (g2 400 6)), .ref 400]) rfl rfl rfl  (xa_Mo_byteAt (Nat.le_of_ble_eq_true rfl)) (show xS0 L 400 = (12, 0) from rfl) rfl (CI.k h fun v3 g6 h => ?_)
      show Wp L xs xm_Mo_advance 241 [.ref 400, .int x1, .retAddr 0, .retAddr 0] [.int v3, .int (10 * (g2 400 6)), .ref 400] g6 _
      refine w_iadd (pc' := 242) rfl rfl ?_
      refine w_bipush (pc' := 244) rfl rfl (v := 48) rfl ?_
      refine w_isub (pc' := 245) rfl rfl ?_
      refine w_putI (pc' := 248) rfl rfl rfl rfl (show xS0 L 400 = (12, 0) from rfl) ?_
      replace h := h _ rfl
      generalize xu g6 400 6 (((10 * (g2 400 6)) + v3) - 48) = g7 at h ⊢
      refine w_aload_n (pc' := 249) rfl rfl rfl ?_
      refine w_dupA (pc' := 250) rfl rfl ?_
      refine w_getI (pc' := 253) rfl rfl rfl rfl rfl (show xS0 L 400 = (12, 0) from rfl) ?_
      refine w_iconst (pc' := 254) rfl rfl (v := 1) rfl ?_
      refine w_iadd (pc' := 255) rfl rfl ?_
      refine w_putI (pc' := 258) rfl rfl rfl rfl (show xS0 L 400 = (12, 0) from rfl) ?_
      replace h := h _ rfl
      generalize xu g7 400 3 ((g7 400 3) + 1) = g8 at h ⊢
      refine w_goto (pc' := 198) rfl rfl ?_
      exact h
theorem t_Mo_byteAt_0 {L : Nat} {xs : Nat → Int32} {x1 : Int32} {f : Hp} {Q : Int32 → Hp → Prop}  (h : ((x1 < (f 400 2) → ∃ k1 : Nat, (10 + x1) = iN k1 ∧ k1 < 4680 ∧ Q (f 401 k1) f) ∧ (¬ x1 < (f 400 2) → Q (-1) f))) : CI L xs xm_Mo_byteAt [.ref 400, .int x1] f Q := by
  show Wp L xs xm_Mo_byteAt 0 [.ref 400, .int x1] [] f (QI Q)
  refine w_iload_n (pc' := 1) rfl rfl rfl ?_
  refine w_aload_n (pc' := 2) rfl rfl rfl ?_
  refine w_getI (pc' := 5) rfl rfl rfl rfl rfl (show xS0 L 400 = (12, 0) from rfl) ?_
  refine w_br2 (pc' := 8) (t := 20) rfl rfl rfl ic_ge (fun hc => ?_) (fun hc => ?_)
  · replace h := h.2 hc
    refine w_iconst (pc' := 21) rfl rfl (v := (-1)) rfl ?_
    exact w_ireturn rfl rfl h
  · replace h := h.1 (Classical.not_not.mp hc)
    refine w_aload_n (pc' := 9) rfl rfl rfl ?_
    have q1 : xR0 400 0 = some 401 ∧ xS0 L 401 = (20, 4680) := (kf_12_0 (show xS0 L 400 = (12, 0) from rfl))
    refine w_getR (pc' := 12) rfl rfl rfl rfl (show xS0 L 400 = (12, 0) from rfl) q1.1 ?_
    refine w_bipush (pc' := 14) rfl rfl (v := 10) rfl ?_
    refine w_iload_n (pc' := 15) rfl rfl rfl ?_
    refine w_iadd (pc' := 16) rfl rfl ?_
    obtain ⟨k1, ek1, bk1, h⟩ := h
    refine w_iaload (pc' := 17) (i := k1) rfl rfl q1.2 ek1 bk1 (by omega) ?_
    refine w_goto (pc' := 21) rfl rfl ?_
    exact w_ireturn rfl rfl h
theorem t_Mo_isLetter_0 {L : Nat} {xs : Nat → Int32} {x0 : Int32} {f : Hp} {Q : Int32 → Hp → Prop}  (h : ((x0 < 97 → Q 0 f) ∧ (¬ x0 < 97 → ((122 < x0 → Q 0 f) ∧ (¬ 122 < x0 → Q 1 f))))) : CI L xs xm_Mo_isLetter [.int x0] f Q := by
  show Wp L xs xm_Mo_isLetter 0 [.int x0] [] f (QI Q)
  refine w_iload_n (pc' := 1) rfl rfl rfl ?_
  refine w_bipush (pc' := 3) rfl rfl (v := 97) rfl ?_
  refine w_br2 (pc' := 6) (t := 16) rfl rfl rfl ic_lt (fun hc => ?_) (fun hc => ?_)
  · replace h := h.1 hc
    refine w_iconst (pc' := 17) rfl rfl (v := 0) rfl ?_
    exact w_ireturn rfl rfl h
  · replace h := h.2 hc
    refine w_iload_n (pc' := 7) rfl rfl rfl ?_
    refine w_bipush (pc' := 9) rfl rfl (v := 122) rfl ?_
    refine w_br2 (pc' := 12) (t := 16) rfl rfl rfl ic_gt (fun hc => ?_) (fun hc => ?_)
    · replace h := h.1 hc
      refine w_iconst (pc' := 17) rfl rfl (v := 0) rfl ?_
      exact w_ireturn rfl rfl h
    · replace h := h.2 hc
      refine w_iconst (pc' := 13) rfl rfl (v := 1) rfl ?_
      refine w_goto (pc' := 17) rfl rfl ?_
      exact w_ireturn rfl rfl h
theorem t_Mo_wordOf_0 {L : Nat} {xs : Nat → Int32} {x0 : Int64} {f : Hp} {Q : Int32 → Hp → Prop}  (h : CL L xs xm_Mo_eight [.int 0, .int 0, .int 6, .int 1, .int 21, .int 12, .int 20, .int 19] f (fun v1 g1 => (((lg_cmp x0 v1) = 0 → Q 1 g1) ∧ (¬ (lg_cmp x0 v1) = 0 → CL L xs xm_Mo_eight [.int 0, .int 0, .int 23, .int 9, .int 14, .int 4, .int 15, .int 23] g1 (fun v2 g2 => (((lg_cmp x0 v2) = 0 → Q 2 g2) ∧ (¬ (lg_cmp x0 v2) = 0 → CL L xs xm_Mo_four [.int 19, .int 20, .int 5, .int 16] g2 (fun v3 g3 => (((lg_cmp x0 v3) = 0 → Q 3 g3) ∧ (¬ (lg_cmp x0 v3) = 0 → CL L xs xm_Mo_four [.int 12, .int 9, .int 1, .int 18] g3 (fun v4 g4 => (((lg_cmp x0 v4) = 0 → Q 4 g4) ∧ (¬ (lg_cmp x0 v4) = 0 → CL L xs xm_Mo_eight [.int 0, .int 1, .int 3, .int 3, .int 15, .int 21, .int 14, .int 20] g4 (fun v5 g5 => (((lg_cmp x0 v5) = 0 → Q 5 g5) ∧ (¬ (lg_cmp x0 v5) = 0 → CL L xs xm_Mo_eight [.int 0, .int 0, .int 0, .int 15, .int 18, .int 4, .int 5, .int 18] g5 (fun v6 g6 => (((lg_cmp x0 v6) = 0 → Q 6 g6) ∧ (¬ (lg_cmp x0 v6) = 0 → CL L xs xm_Mo_eight [.int 0, .int 0, .int 0, .int 4, .int 5, .int 12, .int 1, .int 25] g6 (fun v7 g7 => (((lg_cmp x0 v7) = 0 → Q 7 g7) ∧ (¬ (lg_cmp x0 v7) = 0 → CL L xs xm_Mo_eight [.int 0, .int 16, .int 18, .int 15, .int 16, .int 15, .int 19, .int 5] g7 (fun v8 g8 => (((lg_cmp x0 v8) = 0 → Q 8 g8) ∧ (¬ (lg_cmp x0 v8) = 0 → CL L xs xm_Mo_eight [.int 0, .int 16, .int 18, .int 5, .int 16, .int 1, .int 18, .int 5] g8 (fun v9 g9 => (((lg_cmp x0 v9) = 0 → Q 9 g9) ∧ (¬ (lg_cmp x0 v9) = 0 → CL L xs xm_Mo_eight [.int 0, .int 0, .int 3, .int 15, .int 13, .int 13, .int 9, .int 20] g9 (fun v10 g10 => (((lg_cmp x0 v10) = 0 → Q 10 g10) ∧ (¬ (lg_cmp x0 v10) = 0 → CL L xs xm_Mo_four [.int 0, .int 18, .int 21, .int 14] g10 (fun v11 g11 => (((lg_cmp x0 v11) = 0 → Q 11 g11) ∧ (¬ (lg_cmp x0 v11) = 0 → CL L xs xm_Mo_four [.int 13, .int 1, .int 18, .int 11] g11 (fun v12 g12 => (((lg_cmp x0 v12) = 0 → Q 12 g12) ∧ (¬ (lg_cmp x0 v12) = 0 → CL L xs xm_Mo_eight [.int 0, .int 0, .int 0, .int 6, .int 5, .int 20, .int 3, .int 8] g12 (fun v13 g13 => (((lg_cmp x0 v13) = 0 → Q 13 g13) ∧ (¬ (lg_cmp x0 v13) = 0 → CL L xs xm_Mo_eight [.int 0, .int 0, .int 0, .int 4, .int 15, .int 21, .int 2, .int 20] g13 (fun v14 g14 => (((lg_cmp x0 v14) = 0 → Q 14 g14) ∧ (¬ (lg_cmp x0 v14) = 0 → CL L xs xm_Mo_four [.int 22, .int 9, .int 5, .int 23] g14 (fun v15 g15 => (((lg_cmp x0 v15) = 0 → Q 15 g15) ∧ (¬ (lg_cmp x0 v15) = 0 → CL L xs xm_Mo_eight [.int 0, .int 0, .int 0, .int 5, .int 14, .int 20, .int 5, .int 18] g15 (fun v16 g16 => (((lg_cmp x0 v16) = 0 → Q 16 g16) ∧ (¬ (lg_cmp x0 v16) = 0 → CL L xs xm_Mo_eight [.int 0, .int 0, .int 0, .int 18, .int 5, .int 16, .int 12, .int 25] g16 (fun v17 g17 => (((lg_cmp x0 v17) = 0 → Q 17 g17) ∧ (¬ (lg_cmp x0 v17) = 0 → Q 99 g17)))))))))))))))))))))))))))))))))))))))))))))))))))) : CI L xs xm_Mo_wordOf [.long x0] f Q := by
  show Wp L xs xm_Mo_wordOf 0 [.long x0, .retAddr 0] [] f (QI Q)
  refine w_lload_n (pc' := 1) rfl rfl rfl ?_
  refine w_iconst (pc' := 2) rfl rfl (v := 0) rfl ?_
  refine w_iconst (pc' := 3) rfl rfl (v := 0) rfl ?_
  refine w_bipush (pc' := 5) rfl rfl (v := 6) rfl ?_
  refine w_iconst (pc' := 6) rfl rfl (v := 1) rfl ?_
  refine w_bipush (pc' := 8) rfl rfl (v := 21) rfl ?_
  refine w_bipush (pc' := 10) rfl rfl (v := 12) rfl ?_
  refine w_bipush (pc' := 12) rfl rfl (v := 20) rfl ?_
  refine w_bipush (pc' := 14) rfl rfl (v := 19) rfl ?_
  refine w_cs (pc' := 17) (cm := xm_Mo_eight) (as := [.int 0, .int 0, .int 6, .int 1, .int 21, .int 12, .int 20, .int 19]) (rest := [.long x0]) rfl rfl rfl (Or.inl rfl) (xa_Mo_eight (Nat.le_of_ble_eq_true rfl)) (CL.k h fun v1 g1 h => ?_)
  show Wp L xs xm_Mo_wordOf 17 [.long x0, .retAddr 0] [.long v1, .long x0] g1 _
  refine w_lcmp (pc' := 18) rfl rfl ?_
  refine w_br (pc' := 21) (t := 23) rfl rfl rfl ic_ne (fun hc => ?_) (fun hc => ?_)
  · replace h := h.2 hc
    refine w_lload_n (pc' := 24) rfl rfl rfl ?_
    refine w_iconst (pc' := 25) rfl rfl (v := 0) rfl ?_
    refine w_iconst (pc' := 26) rfl rfl (v := 0) rfl ?_
    refine w_bipush (pc' := 28) rfl rfl (v := 23) rfl ?_
    refine w_bipush (pc' := 30) rfl rfl (v := 9) rfl ?_
    refine w_bipush (pc' := 32) rfl rfl (v := 14) rfl ?_
    refine w_iconst (pc' := 33) rfl rfl (v := 4) rfl ?_
    refine w_bipush (pc' := 35) rfl rfl (v := 15) rfl ?_
    refine w_bipush (pc' := 37) rfl rfl (v := 23) rfl ?_
    refine w_cs (pc' := 40) (cm := xm_Mo_eight) (as := [.int 0, .int 0, .int 23, .int 9, .int 14, .int 4, .int 15, .int 23]) (rest := [.long x0]) rfl rfl rfl (Or.inl rfl) (xa_Mo_eight (Nat.le_of_ble_eq_true rfl)) (CL.k h fun v2 g2 h => ?_)
    show Wp L xs xm_Mo_wordOf 40 [.long x0, .retAddr 0] [.long v2, .long x0] g2 _
    refine w_lcmp (pc' := 41) rfl rfl ?_
    refine w_br (pc' := 44) (t := 46) rfl rfl rfl ic_ne (fun hc => ?_) (fun hc => ?_)
    · replace h := h.2 hc
      refine w_lload_n (pc' := 47) rfl rfl rfl ?_
      refine w_bipush (pc' := 49) rfl rfl (v := 19) rfl ?_
      refine w_bipush (pc' := 51) rfl rfl (v := 20) rfl ?_
      refine w_iconst (pc' := 52) rfl rfl (v := 5) rfl ?_
      refine w_bipush (pc' := 54) rfl rfl (v := 16) rfl ?_
      refine w_cs (pc' := 57) (cm := xm_Mo_four) (as := [.int 19, .int 20, .int 5, .int 16]) (rest := [.long x0]) rfl rfl rfl (Or.inl rfl) (xa_Mo_four (Nat.le_of_ble_eq_true rfl)) (CL.k h fun v3 g3 h => ?_)
      show Wp L xs xm_Mo_wordOf 57 [.long x0, .retAddr 0] [.long v3, .long x0] g3 _
      refine w_lcmp (pc' := 58) rfl rfl ?_
      refine w_br (pc' := 61) (t := 63) rfl rfl rfl ic_ne (fun hc => ?_) (fun hc => ?_)
      · replace h := h.2 hc
        refine w_lload_n (pc' := 64) rfl rfl rfl ?_
        refine w_bipush (pc' := 66) rfl rfl (v := 12) rfl ?_
        refine w_bipush (pc' := 68) rfl rfl (v := 9) rfl ?_
        refine w_iconst (pc' := 69) rfl rfl (v := 1) rfl ?_
        refine w_bipush (pc' := 71) rfl rfl (v := 18) rfl ?_
        refine w_cs (pc' := 74) (cm := xm_Mo_four) (as := [.int 12, .int 9, .int 1, .int 18]) (rest := [.long x0]) rfl rfl rfl (Or.inl rfl) (xa_Mo_four (Nat.le_of_ble_eq_true rfl)) (CL.k h fun v4 g4 h => ?_)
        show Wp L xs xm_Mo_wordOf 74 [.long x0, .retAddr 0] [.long v4, .long x0] g4 _
        refine w_lcmp (pc' := 75) rfl rfl ?_
        refine w_br (pc' := 78) (t := 80) rfl rfl rfl ic_ne (fun hc => ?_) (fun hc => ?_)
        · replace h := h.2 hc
          refine w_lload_n (pc' := 81) rfl rfl rfl ?_
          refine w_iconst (pc' := 82) rfl rfl (v := 0) rfl ?_
          refine w_iconst (pc' := 83) rfl rfl (v := 1) rfl ?_
          refine w_iconst (pc' := 84) rfl rfl (v := 3) rfl ?_
          refine w_iconst (pc' := 85) rfl rfl (v := 3) rfl ?_
          refine w_bipush (pc' := 87) rfl rfl (v := 15) rfl ?_
          refine w_bipush (pc' := 89) rfl rfl (v := 21) rfl ?_
          refine w_bipush (pc' := 91) rfl rfl (v := 14) rfl ?_
          refine w_bipush (pc' := 93) rfl rfl (v := 20) rfl ?_
          refine w_cs (pc' := 96) (cm := xm_Mo_eight) (as := [.int 0, .int 1, .int 3, .int 3, .int 15, .int 21, .int 14, .int 20]) (rest := [.long x0]) rfl rfl rfl (Or.inl rfl) (xa_Mo_eight (Nat.le_of_ble_eq_true rfl)) (CL.k h fun v5 g5 h => ?_)
          show Wp L xs xm_Mo_wordOf 96 [.long x0, .retAddr 0] [.long v5, .long x0] g5 _
          refine w_lcmp (pc' := 97) rfl rfl ?_
          refine w_br (pc' := 100) (t := 102) rfl rfl rfl ic_ne (fun hc => ?_) (fun hc => ?_)
          · replace h := h.2 hc
            refine w_lload_n (pc' := 103) rfl rfl rfl ?_
            refine w_iconst (pc' := 104) rfl rfl (v := 0) rfl ?_
            refine w_iconst (pc' := 105) rfl rfl (v := 0) rfl ?_
            refine w_iconst (pc' := 106) rfl rfl (v := 0) rfl ?_
            refine w_bipush (pc' := 108) rfl rfl (v := 15) rfl ?_
            refine w_bipush (pc' := 110) rfl rfl (v := 18) rfl ?_
            refine w_iconst (pc' := 111) rfl rfl (v := 4) rfl ?_
            refine w_iconst (pc' := 112) rfl rfl (v := 5) rfl ?_
            refine w_bipush (pc' := 114) rfl rfl (v := 18) rfl ?_
            refine w_cs (pc' := 117) (cm := xm_Mo_eight) (as := [.int 0, .int 0, .int 0, .int 15, .int 18, .int 4, .int 5, .int 18]) (rest := [.long x0]) rfl rfl rfl (Or.inl rfl) (xa_Mo_eight (Nat.le_of_ble_eq_true rfl)) (CL.k h fun v6 g6 h => ?_)
            show Wp L xs xm_Mo_wordOf 117 [.long x0, .retAddr 0] [.long v6, .long x0] g6 _
            refine w_lcmp (pc' := 118) rfl rfl ?_
            refine w_br (pc' := 121) (t := 124) rfl rfl rfl ic_ne (fun hc => ?_) (fun hc => ?_)
            · replace h := h.2 hc
              refine w_lload_n (pc' := 125) rfl rfl rfl ?_
              refine w_iconst (pc' := 126) rfl rfl (v := 0) rfl ?_
              refine w_iconst (pc' := 127) rfl rfl (v := 0) rfl ?_
              refine w_iconst (pc' := 128) rfl rfl (v := 0) rfl ?_
              refine w_iconst (pc' := 129) rfl rfl (v := 4) rfl ?_
              refine w_iconst (pc' := 130) rfl rfl (v := 5) rfl ?_
              refine w_bipush (pc' := 132) rfl rfl (v := 12) rfl ?_
              refine w_iconst (pc' := 133) rfl rfl (v := 1) rfl ?_
              refine w_bipush (pc' := 135) rfl rfl (v := 25) rfl ?_
              refine w_cs (pc' := 138) (cm := xm_Mo_eight) (as := [.int 0, .int 0, .int 0, .int 4, .int 5, .int 12, .int 1, .int 25]) (rest := [.long x0]) rfl rfl rfl (Or.inl rfl) (xa_Mo_eight (Nat.le_of_ble_eq_true rfl)) (CL.k h fun v7 g7 h => ?_)
              show Wp L xs xm_Mo_wordOf 138 [.long x0, .retAddr 0] [.long v7, .long x0] g7 _
              refine w_lcmp (pc' := 139) rfl rfl ?_
              refine w_br (pc' := 142) (t := 145) rfl rfl rfl ic_ne (fun hc => ?_) (fun hc => ?_)
              · replace h := h.2 hc
                refine w_lload_n (pc' := 146) rfl rfl rfl ?_
                refine w_iconst (pc' := 147) rfl rfl (v := 0) rfl ?_
                refine w_bipush (pc' := 149) rfl rfl (v := 16) rfl ?_
                refine w_bipush (pc' := 151) rfl rfl (v := 18) rfl ?_
                refine w_bipush (pc' := 153) rfl rfl (v := 15) rfl ?_
                refine w_bipush (pc' := 155) rfl rfl (v := 16) rfl ?_
                refine w_bipush (pc' := 157) rfl rfl (v := 15) rfl ?_
                refine w_bipush (pc' := 159) rfl rfl (v := 19) rfl ?_
                refine w_iconst (pc' := 160) rfl rfl (v := 5) rfl ?_
                refine w_cs (pc' := 163) (cm := xm_Mo_eight) (as := [.int 0, .int 16, .int 18, .int 15, .int 16, .int 15, .int 19, .int 5]) (rest := [.long x0]) rfl rfl rfl (Or.inl rfl) (xa_Mo_eight (Nat.le_of_ble_eq_true rfl)) (CL.k h fun v8 g8 h => ?_)
                show Wp L xs xm_Mo_wordOf 163 [.long x0, .retAddr 0] [.long v8, .long x0] g8 _
                refine w_lcmp (pc' := 164) rfl rfl ?_
                refine w_br (pc' := 167) (t := 170) rfl rfl rfl ic_ne (fun hc => ?_) (fun hc => ?_)
                · replace h := h.2 hc
                  refine w_lload_n (pc' := 171) rfl rfl rfl ?_
                  refine w_iconst (pc' := 172) rfl rfl (v := 0) rfl ?_
                  refine w_bipush (pc' := 174) rfl rfl (v := 16) rfl ?_
                  refine w_bipush (pc' := 176) rfl rfl (v := 18) rfl ?_
                  refine w_iconst (pc' := 177) rfl rfl (v := 5) rfl ?_
                  refine w_bipush (pc' := 179) rfl rfl (v := 16) rfl ?_
                  refine w_iconst (pc' := 180) rfl rfl (v := 1) rfl ?_
                  refine w_bipush (pc' := 182) rfl rfl (v := 18) rfl ?_
                  refine w_iconst (pc' := 183) rfl rfl (v := 5) rfl ?_
                  refine w_cs (pc' := 186) (cm := xm_Mo_eight) (as := [.int 0, .int 16, .int 18, .int 5, .int 16, .int 1, .int 18, .int 5]) (rest := [.long x0]) rfl rfl rfl (Or.inl rfl) (xa_Mo_eight (Nat.le_of_ble_eq_true rfl)) (CL.k h fun v9 g9 h => ?_)
                  show Wp L xs xm_Mo_wordOf 186 [.long x0, .retAddr 0] [.long v9, .long x0] g9 _
                  refine w_lcmp (pc' := 187) rfl rfl ?_
                  refine w_br (pc' := 190) (t := 193) rfl rfl rfl ic_ne (fun hc => ?_) (fun hc => ?_)
                  · replace h := h.2 hc
                    refine w_lload_n (pc' := 194) rfl rfl rfl ?_
                    refine w_iconst (pc' := 195) rfl rfl (v := 0) rfl ?_
                    refine w_iconst (pc' := 196) rfl rfl (v := 0) rfl ?_
                    refine w_iconst (pc' := 197) rfl rfl (v := 3) rfl ?_
                    refine w_bipush (pc' := 199) rfl rfl (v := 15) rfl ?_
                    refine w_bipush (pc' := 201) rfl rfl (v := 13) rfl ?_
                    refine w_bipush (pc' := 203) rfl rfl (v := 13) rfl ?_
                    refine w_bipush (pc' := 205) rfl rfl (v := 9) rfl ?_
                    refine w_bipush (pc' := 207) rfl rfl (v := 20) rfl ?_
                    refine w_cs (pc' := 210) (cm := xm_Mo_eight) (as := [.int 0, .int 0, .int 3, .int 15, .int 13, .int 13, .int 9, .int 20]) (rest := [.long x0]) rfl rfl rfl (Or.inl rfl) (xa_Mo_eight (Nat.le_of_ble_eq_true rfl)) (CL.k h fun v10 g10 h => ?_)
                    show Wp L xs xm_Mo_wordOf 210 [.long x0, .retAddr 0] [.long v10, .long x0] g10 _
                    refine w_lcmp (pc' := 211) rfl rfl ?_
                    refine w_br (pc' := 214) (t := 217) rfl rfl rfl ic_ne (fun hc => ?_) (fun hc => ?_)
                    · replace h := h.2 hc
                      refine w_lload_n (pc' := 218) rfl rfl rfl ?_
                      refine w_iconst (pc' := 219) rfl rfl (v := 0) rfl ?_
                      refine w_bipush (pc' := 221) rfl rfl (v := 18) rfl ?_
                      refine w_bipush (pc' := 223) rfl rfl (v := 21) rfl ?_
                      refine w_bipush (pc' := 225) rfl rfl (v := 14) rfl ?_
                      refine w_cs (pc' := 228) (cm := xm_Mo_four) (as := [.int 0, .int 18, .int 21, .int 14]) (rest := [.long x0]) rfl rfl rfl (Or.inl rfl) (xa_Mo_four (Nat.le_of_ble_eq_true rfl)) (CL.k h fun v11 g11 h => ?_)
                      show Wp L xs xm_Mo_wordOf 228 [.long x0, .retAddr 0] [.long v11, .long x0] g11 _
                      refine w_lcmp (pc' := 229) rfl rfl ?_
                      refine w_br (pc' := 232) (t := 235) rfl rfl rfl ic_ne (fun hc => ?_) (fun hc => ?_)
                      · replace h := h.2 hc
                        refine w_lload_n (pc' := 236) rfl rfl rfl ?_
                        refine w_bipush (pc' := 238) rfl rfl (v := 13) rfl ?_
                        refine w_iconst (pc' := 239) rfl rfl (v := 1) rfl ?_
                        refine w_bipush (pc' := 241) rfl rfl (v := 18) rfl ?_
                        refine w_bipush (pc' := 243) rfl rfl (v := 11) rfl ?_
                        refine w_cs (pc' := 246) (cm := xm_Mo_four) (as := [.int 13, .int 1, .int 18, .int 11]) (rest := [.long x0]) rfl rfl rfl (Or.inl rfl) (xa_Mo_four (Nat.le_of_ble_eq_true rfl)) (CL.k h fun v12 g12 h => ?_)
                        show Wp L xs xm_Mo_wordOf 246 [.long x0, .retAddr 0] [.long v12, .long x0] g12 _
                        refine w_lcmp (pc' := 247) rfl rfl ?_
                        refine w_br (pc' := 250) (t := 253) rfl rfl rfl ic_ne (fun hc => ?_) (fun hc => ?_)
                        · replace h := h.2 hc
                          refine w_lload_n (pc' := 254) rfl rfl rfl ?_
                          refine w_iconst (pc' := 255) rfl rfl (v := 0) rfl ?_
                          refine w_iconst (pc' := 256) rfl rfl (v := 0) rfl ?_
                          refine w_iconst (pc' := 257) rfl rfl (v := 0) rfl ?_
                          refine w_bipush (pc' := 259) rfl rfl (v := 6) rfl ?_
                          refine w_iconst (pc' := 260) rfl rfl (v := 5) rfl ?_
                          refine w_bipush (pc' := 262) rfl rfl (v := 20) rfl ?_
                          refine w_iconst (pc' := 263) rfl rfl (v := 3) rfl ?_
                          refine w_bipush (pc' := 265) rfl rfl (v := 8) rfl ?_
                          refine w_cs (pc' := 268) (cm := xm_Mo_eight) (as := [.int 0, .int 0, .int 0, .int 6, .int 5, .int 20, .int 3, .int 8]) (rest := [.long x0]) rfl rfl rfl (Or.inl rfl) (xa_Mo_eight (Nat.le_of_ble_eq_true rfl)) (CL.k h fun v13 g13 h => ?_)
                          show Wp L xs xm_Mo_wordOf 268 [.long x0, .retAddr 0] [.long v13, .long x0] g13 _
                          refine w_lcmp (pc' := 269) rfl rfl ?_
                          refine w_br (pc' := 272) (t := 275) rfl rfl rfl ic_ne (fun hc => ?_) (fun hc => ?_)
                          · replace h := h.2 hc
                            refine w_lload_n (pc' := 276) rfl rfl rfl ?_
                            refine w_iconst (pc' := 277) rfl rfl (v := 0) rfl ?_
                            refine w_iconst (pc' := 278) rfl rfl (v := 0) rfl ?_
                            refine w_iconst (pc' := 279) rfl rfl (v := 0) rfl ?_
                            refine w_iconst (pc' := 280) rfl rfl (v := 4) rfl ?_
                            refine w_bipush (pc' := 282) rfl rfl (v := 15) rfl ?_
                            refine w_bipush (pc' := 284) rfl rfl (v := 21) rfl ?_
                            refine w_iconst (pc' := 285) rfl rfl (v := 2) rfl ?_
                            refine w_bipush (pc' := 287) rfl rfl (v := 20) rfl ?_
                            refine w_cs (pc' := 290) (cm := xm_Mo_eight) (as := [.int 0, .int 0, .int 0, .int 4, .int 15, .int 21, .int 2, .int 20]) (rest := [.long x0]) rfl rfl rfl (Or.inl rfl) (xa_Mo_eight (Nat.le_of_ble_eq_true rfl)) (CL.k h fun v14 g14 h => ?_)
                            show Wp L xs xm_Mo_wordOf 290 [.long x0, .retAddr 0] [.long v14, .long x0] g14 _
                            refine w_lcmp (pc' := 291) rfl rfl ?_
                            refine w_br (pc' := 294) (t := 297) rfl rfl rfl ic_ne (fun hc => ?_) (fun hc => ?_)
                            · replace h := h.2 hc
                              refine w_lload_n (pc' := 298) rfl rfl rfl ?_
                              refine w_bipush (pc' := 300) rfl rfl (v := 22) rfl ?_
                              refine w_bipush (pc' := 302) rfl rfl (v := 9) rfl ?_
                              refine w_iconst (pc' := 303) rfl rfl (v := 5) rfl ?_
                              refine w_bipush (pc' := 305) rfl rfl (v := 23) rfl ?_
                              refine w_cs (pc' := 308) (cm := xm_Mo_four) (as := [.int 22, .int 9, .int 5, .int 23]) (rest := [.long x0]) rfl rfl rfl (Or.inl rfl) (xa_Mo_four (Nat.le_of_ble_eq_true rfl)) (CL.k h fun v15 g15 h => ?_)
                              show Wp L xs xm_Mo_wordOf 308 [.long x0, .retAddr 0] [.long v15, .long x0] g15 _
                              refine w_lcmp (pc' := 309) rfl rfl ?_
                              refine w_br (pc' := 312) (t := 315) rfl rfl rfl ic_ne (fun hc => ?_) (fun hc => ?_)
                              · replace h := h.2 hc
                                refine w_lload_n (pc' := 316) rfl rfl rfl ?_
                                refine w_iconst (pc' := 317) rfl rfl (v := 0) rfl ?_
                                refine w_iconst (pc' := 318) rfl rfl (v := 0) rfl ?_
                                refine w_iconst (pc' := 319) rfl rfl (v := 0) rfl ?_
                                refine w_iconst (pc' := 320) rfl rfl (v := 5) rfl ?_
                                refine w_bipush (pc' := 322) rfl rfl (v := 14) rfl ?_
                                refine w_bipush (pc' := 324) rfl rfl (v := 20) rfl ?_
                                refine w_iconst (pc' := 325) rfl rfl (v := 5) rfl ?_
                                refine w_bipush (pc' := 327) rfl rfl (v := 18) rfl ?_
                                refine w_cs (pc' := 330) (cm := xm_Mo_eight) (as := [.int 0, .int 0, .int 0, .int 5, .int 14, .int 20, .int 5, .int 18]) (rest := [.long x0]) rfl rfl rfl (Or.inl rfl) (xa_Mo_eight (Nat.le_of_ble_eq_true rfl)) (CL.k h fun v16 g16 h => ?_)
                                show Wp L xs xm_Mo_wordOf 330 [.long x0, .retAddr 0] [.long v16, .long x0] g16 _
                                refine w_lcmp (pc' := 331) rfl rfl ?_
                                refine w_br (pc' := 334) (t := 337) rfl rfl rfl ic_ne (fun hc => ?_) (fun hc => ?_)
                                · replace h := h.2 hc
                                  refine w_lload_n (pc' := 338) rfl rfl rfl ?_
                                  refine w_iconst (pc' := 339) rfl rfl (v := 0) rfl ?_
                                  refine w_iconst (pc' := 340) rfl rfl (v := 0) rfl ?_
                                  refine w_iconst (pc' := 341) rfl rfl (v := 0) rfl ?_
                                  refine w_bipush (pc' := 343) rfl rfl (v := 18) rfl ?_
                                  refine w_iconst (pc' := 344) rfl rfl (v := 5) rfl ?_
                                  refine w_bipush (pc' := 346) rfl rfl (v := 16) rfl ?_
                                  refine w_bipush (pc' := 348) rfl rfl (v := 12) rfl ?_
                                  refine w_bipush (pc' := 350) rfl rfl (v := 25) rfl ?_
                                  refine w_cs (pc' := 353) (cm := xm_Mo_eight) (as := [.int 0, .int 0, .int 0, .int 18, .int 5, .int 16, .int 12, .int 25]) (rest := [.long x0]) rfl rfl rfl (Or.inl rfl) (xa_Mo_eight (Nat.le_of_ble_eq_true rfl)) (CL.k h fun v17 g17 h => ?_)
                                  show Wp L xs xm_Mo_wordOf 353 [.long x0, .retAddr 0] [.long v17, .long x0] g17 _
                                  refine w_lcmp (pc' := 354) rfl rfl ?_
                                  refine w_br (pc' := 357) (t := 362) rfl rfl rfl ic_ne (fun hc => ?_) (fun hc => ?_)
                                  · replace h := h.2 hc
                                    refine w_bipush (pc' := 364) rfl rfl (v := 99) rfl ?_
                                    exact w_ireturn rfl rfl h
                                  · replace h := h.1 (Classical.not_not.mp hc)
                                    refine w_bipush (pc' := 359) rfl rfl (v := 17) rfl ?_
                                    refine w_goto (pc' := 364) rfl rfl ?_
                                    exact w_ireturn rfl rfl h
                                · replace h := h.1 (Classical.not_not.mp hc)
                                  refine w_bipush (pc' := 336) rfl rfl (v := 16) rfl ?_
                                  exact w_ireturn rfl rfl h
                              · replace h := h.1 (Classical.not_not.mp hc)
                                refine w_bipush (pc' := 314) rfl rfl (v := 15) rfl ?_
                                exact w_ireturn rfl rfl h
                            · replace h := h.1 (Classical.not_not.mp hc)
                              refine w_bipush (pc' := 296) rfl rfl (v := 14) rfl ?_
                              exact w_ireturn rfl rfl h
                          · replace h := h.1 (Classical.not_not.mp hc)
                            refine w_bipush (pc' := 274) rfl rfl (v := 13) rfl ?_
                            exact w_ireturn rfl rfl h
                        · replace h := h.1 (Classical.not_not.mp hc)
                          refine w_bipush (pc' := 252) rfl rfl (v := 12) rfl ?_
                          exact w_ireturn rfl rfl h
                      · replace h := h.1 (Classical.not_not.mp hc)
                        refine w_bipush (pc' := 234) rfl rfl (v := 11) rfl ?_
                        exact w_ireturn rfl rfl h
                    · replace h := h.1 (Classical.not_not.mp hc)
                      refine w_bipush (pc' := 216) rfl rfl (v := 10) rfl ?_
                      exact w_ireturn rfl rfl h
                  · replace h := h.1 (Classical.not_not.mp hc)
                    refine w_bipush (pc' := 192) rfl rfl (v := 9) rfl ?_
                    exact w_ireturn rfl rfl h
                · replace h := h.1 (Classical.not_not.mp hc)
                  refine w_bipush (pc' := 169) rfl rfl (v := 8) rfl ?_
                  exact w_ireturn rfl rfl h
              · replace h := h.1 (Classical.not_not.mp hc)
                refine w_bipush (pc' := 144) rfl rfl (v := 7) rfl ?_
                exact w_ireturn rfl rfl h
            · replace h := h.1 (Classical.not_not.mp hc)
              refine w_bipush (pc' := 123) rfl rfl (v := 6) rfl ?_
              exact w_ireturn rfl rfl h
          · replace h := h.1 (Classical.not_not.mp hc)
            refine w_iconst (pc' := 101) rfl rfl (v := 5) rfl ?_
            exact w_ireturn rfl rfl h
        · replace h := h.1 (Classical.not_not.mp hc)
          refine w_iconst (pc' := 79) rfl rfl (v := 4) rfl ?_
          exact w_ireturn rfl rfl h
      · replace h := h.1 (Classical.not_not.mp hc)
        refine w_iconst (pc' := 62) rfl rfl (v := 3) rfl ?_
        exact w_ireturn rfl rfl h
    · replace h := h.1 (Classical.not_not.mp hc)
      refine w_iconst (pc' := 45) rfl rfl (v := 2) rfl ?_
      exact w_ireturn rfl rfl h
  · replace h := h.1 (Classical.not_not.mp hc)
    refine w_iconst (pc' := 22) rfl rfl (v := 1) rfl ?_
    exact w_ireturn rfl rfl h
theorem t_Mo_eight_0 {L : Nat} {xs : Nat → Int32} {x0 : Int32} {x1 : Int32} {x2 : Int32} {x3 : Int32} {x4 : Int32} {x5 : Int32} {x6 : Int32} {x7 : Int32} {f : Hp} {Q : Int64 → Hp → Prop}  (h : CL L xs xm_Mo_four [.int x0, .int x1, .int x2, .int x3] f (fun v1 g1 => CL L xs xm_Mo_four [.int x4, .int x5, .int x6, .int x7] g1 (fun v2 g2 => Q ((v1 * 1048576) + v2) g2))) : CL L xs xm_Mo_eight [.int x0, .int x1, .int x2, .int x3, .int x4, .int x5, .int x6, .int x7] f Q := by
  show Wp L xs xm_Mo_eight 0 [.int x0, .int x1, .int x2, .int x3, .int x4, .int x5, .int x6, .int x7] [] f (QL Q)
  refine w_iload_n (pc' := 1) rfl rfl rfl ?_
  refine w_iload_n (pc' := 2) rfl rfl rfl ?_
  refine w_iload_n (pc' := 3) rfl rfl rfl ?_
  refine w_iload_n (pc' := 4) rfl rfl rfl ?_
  refine w_cs (pc' := 7) (cm := xm_Mo_four) (as := [.int x0, .int x1, .int x2, .int x3]) (rest := []) rfl rfl rfl (Or.inl rfl) (xa_Mo_four (Nat.le_of_ble_eq_true rfl)) (CL.k h fun v1 g1 h => ?_)
  show Wp L xs xm_Mo_eight 7 [.int x0, .int x1, .int x2, .int x3, .int x4, .int x5, .int x6, .int x7] [.long v1] g1 _
  refine w_ldc2 (pc' := 10) rfl rfl (v := 1048576) rfl ?_
  refine w_lmul (pc' := 11) rfl rfl ?_
  refine w_iload (pc' := 13) rfl rfl rfl ?_
  refine w_iload (pc' := 15) rfl rfl rfl ?_
  refine w_iload (pc' := 17) rfl rfl rfl ?_
  refine w_iload (pc' := 19) rfl rfl rfl ?_
  refine w_cs (pc' := 22) (cm := xm_Mo_four) (as := [.int x4, .int x5, .int x6, .int x7]) (rest := [.long (v1 * 1048576)]) rfl rfl rfl (Or.inl rfl) (xa_Mo_four (Nat.le_of_ble_eq_true rfl)) (CL.k h fun v2 g2 h => ?_)
  show Wp L xs xm_Mo_eight 22 [.int x0, .int x1, .int x2, .int x3, .int x4, .int x5, .int x6, .int x7] [.long v2, .long (v1 * 1048576)] g2 _
  refine w_ladd (pc' := 23) rfl rfl ?_
  exact w_lreturn rfl rfl h
theorem t_Mo_four_0 {L : Nat} {xs : Nat → Int32} {x0 : Int32} {x1 : Int32} {x2 : Int32} {x3 : Int32} {f : Hp} {Q : Int64 → Hp → Prop}  (h : Q (((((((x0 * 32) + x1) * 32) + x2) * 32) + x3)).toInt64 f) : CL L xs xm_Mo_four [.int x0, .int x1, .int x2, .int x3] f Q := by
  show Wp L xs xm_Mo_four 0 [.int x0, .int x1, .int x2, .int x3] [] f (QL Q)
  refine w_iload_n (pc' := 1) rfl rfl rfl ?_
  refine w_bipush (pc' := 3) rfl rfl (v := 32) rfl ?_
  refine w_imul (pc' := 4) rfl rfl ?_
  refine w_iload_n (pc' := 5) rfl rfl rfl ?_
  refine w_iadd (pc' := 6) rfl rfl ?_
  refine w_bipush (pc' := 8) rfl rfl (v := 32) rfl ?_
  refine w_imul (pc' := 9) rfl rfl ?_
  refine w_iload_n (pc' := 10) rfl rfl rfl ?_
  refine w_iadd (pc' := 11) rfl rfl ?_
  refine w_bipush (pc' := 13) rfl rfl (v := 32) rfl ?_
  refine w_imul (pc' := 14) rfl rfl ?_
  refine w_iload_n (pc' := 15) rfl rfl rfl ?_
  refine w_iadd (pc' := 16) rfl rfl ?_
  refine w_i2l (pc' := 17) rfl rfl ?_
  exact w_lreturn rfl rfl h
theorem t_Mo_isDigit_0 {L : Nat} {xs : Nat → Int32} {x0 : Int32} {f : Hp} {Q : Int32 → Hp → Prop}  (h : ((x0 < 48 → Q 0 f) ∧ (¬ x0 < 48 → ((57 < x0 → Q 0 f) ∧ (¬ 57 < x0 → Q 1 f))))) : CI L xs xm_Mo_isDigit [.int x0] f Q := by
  show Wp L xs xm_Mo_isDigit 0 [.int x0] [] f (QI Q)
  refine w_iload_n (pc' := 1) rfl rfl rfl ?_
  refine w_bipush (pc' := 3) rfl rfl (v := 48) rfl ?_
  refine w_br2 (pc' := 6) (t := 16) rfl rfl rfl ic_lt (fun hc => ?_) (fun hc => ?_)
  · replace h := h.1 hc
    refine w_iconst (pc' := 17) rfl rfl (v := 0) rfl ?_
    exact w_ireturn rfl rfl h
  · replace h := h.2 hc
    refine w_iload_n (pc' := 7) rfl rfl rfl ?_
    refine w_bipush (pc' := 9) rfl rfl (v := 57) rfl ?_
    refine w_br2 (pc' := 12) (t := 16) rfl rfl rfl ic_gt (fun hc => ?_) (fun hc => ?_)
    · replace h := h.1 hc
      refine w_iconst (pc' := 17) rfl rfl (v := 0) rfl ?_
      exact w_ireturn rfl rfl h
    · replace h := h.2 hc
      refine w_iconst (pc' := 13) rfl rfl (v := 1) rfl ?_
      refine w_goto (pc' := 17) rfl rfl ?_
      exact w_ireturn rfl rfl h
theorem t_Mo_councilLine_0 {L : Nat} {xs : Nat → Int32}  {f : Hp} {Q : Hp → Prop}  (h : CI L xs xm_Mo_wordIn [.ref 400, .int 1, .int 7] f (fun v1 g1 => (((g1 400 8) = 0 → Wp L xs xm_Mo_councilLine 25 [.ref 400, .int (f 400 4), .int v1, .retAddr 0] [.int v1] g1 (QV Q)) ∧ (¬ (g1 400 8) = 0 → Wp L xs xm_Mo_councilLine 25 [.ref 400, .int (f 400 4), .int v1, .retAddr 0] [.int 0] g1 (QV Q))))) : CV L xs xm_Mo_councilLine [.ref 400] f Q := by
  show Wp L xs xm_Mo_councilLine 0 [.ref 400, .retAddr 0, .retAddr 0, .retAddr 0] [] f (QV Q)
  refine w_aload_n (pc' := 1) rfl rfl rfl ?_
  refine w_getI (pc' := 4) rfl rfl rfl rfl rfl (show xS0 L 400 = (12, 0) from rfl) ?_
  refine w_istore_n (pc' := 5) rfl rfl (xl' := [.ref 400, .int (f 400 4), .retAddr 0, .retAddr 0]) rfl ?_
  refine w_aload_n (pc' := 6) rfl rfl rfl ?_
  refine w_iconst (pc' := 7) rfl rfl (v := 1) rfl ?_
  refine w_bipush (pc' := 9) rfl rfl (v := 7) rfl ?_
  refine w_cv (pc' := 12) (cm := xm_Mo_wordIn) (as := [.int 1, .int 7]) (a := 400) (rest := []) rfl rfl rfl  (xa_Mo_wordIn (Nat.le_of_ble_eq_true rfl)) (show xS0 L 400 = (12, 0) from rfl) rfl (CI.k h fun v1 g1 h => ?_)
  show Wp L xs xm_Mo_councilLine 12 [.ref 400, .int (f 400 4), .retAddr 0, .retAddr 0] [.int v1] g1 _
  refine w_istore_n (pc' := 13) rfl rfl (xl' := [.ref 400, .int (f 400 4), .int v1, .retAddr 0]) rfl ?_
  refine w_aload_n (pc' := 14) rfl rfl rfl ?_
  refine w_getI (pc' := 17) rfl rfl rfl rfl rfl (show xS0 L 400 = (12, 0) from rfl) ?_
  refine w_br (pc' := 20) (t := 24) rfl rfl rfl ic_eq (fun hc => ?_) (fun hc => ?_)
  · replace h := h.1 hc
    refine w_iload_n (pc' := 25) rfl rfl rfl ?_
    exact h
  · replace h := h.2 hc
    refine w_iconst (pc' := 21) rfl rfl (v := 0) rfl ?_
    refine w_goto (pc' := 25) rfl rfl ?_
    exact h
theorem t_Mo_councilLine_25 {L : Nat} {xs : Nat → Int32} {x1 : Int32} {x2 : Int32} {s0 : Int32} {f : Hp} {Q : Hp → Prop}  (h : ((s0 = 1 → CI L xs xm_Mo_numbered [.ref 400, .int 0, .int 2] f (fun v1 g1 => ∀ g2, g2 = xu g1 403 0 v1 → CV L xs xm_Mo_endsLine [.ref 400] g2 (fun g3 => Q g3))) ∧ (¬ s0 = 1 → ((s0 = 2 → CI L xs xm_Mo_numbered [.ref 400, .int 1, .int 9] f (fun v2 g4 => ∀ g5, g5 = xu g4 403 1 v2 → CV L xs xm_Mo_endsLine [.ref 400] g5 (fun g6 => Q g6))) ∧ (¬ s0 = 2 → ((s0 = 3 → CI L xs xm_Mo_numbered [.ref 400, .int 1, .int 4] f (fun v3 g7 => ∀ g8, g8 = xu g7 403 2 v3 → CV L xs xm_Mo_endsLine [.ref 400] g8 (fun g9 => Q g9))) ∧ (¬ s0 = 3 → ((s0 = 4 → CI L xs xm_Mo_memberTold [.ref 400] f (fun v4 g10 => ∀ g11, g11 = xu g10 403 3 ((f 403 3) ||| (1 <<< (v4 &&& 31))) → CV L xs xm_Mo_endsLine [.ref 400] g11 (fun g12 => Q g12))) ∧ (¬ s0 = 4 → ((s0 = 5 → CI L xs xm_Mo_numbered [.ref 400, .int 0, .int 7] f (fun v5 g13 => CI L xs xm_Mo_numbered [.ref 400, .int 0, .int 99] g13 (fun v6 g14 => ∃ k1 : Nat, (5 + v5) = iN k1 ∧ k1 < 161 ∧ ∀ g15, g15 = xu g14 403 k1 v6 → CV L xs xm_Mo_endsLine [.ref 400] g15 (fun g16 => Q g16)))) ∧ (¬ s0 = 5 → ((s0 = 6 → CV L xs xm_Mo_orderTold [.ref 400, .int x1] f (fun g17 => CV L xs xm_Mo_endsLine [.ref 400] g17 (fun g18 => Q g18))) ∧ (¬ s0 = 6 → ((s0 = 7 → CV L xs xm_Mo_delayTold [.ref 400] f (fun g19 => CV L xs xm_Mo_endsLine [.ref 400] g19 (fun g20 => Q g20))) ∧ (¬ s0 = 7 → CV L xs xm_Mo_endsLine [.ref 400] f (fun g21 => Q g21)))))))))))))))) : Wp L xs xm_Mo_councilLine 25 [.ref 400, .int x1, .int x2, .retAddr 0] [.int s0] f (QV Q) := by
  by_cases hs1 : s0 = 1
  · replace h := h.1 hs1
    refine w_ts (o := 43) (t := 68) rfl (by rw [hs1]; decide) (by rw [hs1]; rfl) rfl ?_
    refine w_aload_n (pc' := 69) rfl rfl rfl ?_
    have q1 : xR0 400 10 = some 403 ∧ xS0 L 403 = (20, 161) := (kf_12_10 (show xS0 L 400 = (12, 0) from rfl))
    refine w_getR (pc' := 72) rfl rfl rfl rfl (show xS0 L 400 = (12, 0) from rfl) q1.1 ?_
    refine w_iconst (pc' := 73) rfl rfl (v := 0) rfl ?_
    refine w_aload_n (pc' := 74) rfl rfl rfl ?_
    refine w_iconst (pc' := 75) rfl rfl (v := 0) rfl ?_
    refine w_iconst (pc' := 76) rfl rfl (v := 2) rfl ?_
    refine w_cv (pc' := 79) (cm := xm_Mo_numbered) (as := [.int 0, .int 2]) (a := 400) (rest := [.int 0, .ref 403]) rfl rfl rfl  (xa_Mo_numbered (Nat.le_of_ble_eq_true rfl)) (show xS0 L 400 = (12, 0) from rfl) rfl (CI.k h fun v1 g1 h => ?_)
    show Wp L xs xm_Mo_councilLine 79 [.ref 400, .int x1, .int x2, .retAddr 0] [.int v1, .int 0, .ref 403] g1 _
    refine w_iastore (pc' := 80) (i := 0) rfl rfl q1.2 rfl (by omega) (by omega) ?_
    replace h := h _ rfl
    generalize xu g1 403 0 v1 = g2 at h ⊢
    refine w_goto (pc' := 173) rfl rfl ?_
    refine w_aload_n (pc' := 174) rfl rfl rfl ?_
    refine w_cv (pc' := 177) (cm := xm_Mo_endsLine) (as := []) (a := 400) (rest := []) rfl rfl rfl  (xa_Mo_endsLine (Nat.le_of_ble_eq_true rfl)) (show xS0 L 400 = (12, 0) from rfl) rfl (CV.k h fun g3 h => ?_)
    show Wp L xs xm_Mo_councilLine 177 [.ref 400, .int x1, .int x2, .retAddr 0] [] g3 _
    exact w_return rfl rfl h
  replace h := h.2 hs1
  by_cases hs2 : s0 = 2
  · replace h := h.1 hs2
    refine w_ts (o := 58) (t := 83) rfl (by rw [hs2]; decide) (by rw [hs2]; rfl) rfl ?_
    refine w_aload_n (pc' := 84) rfl rfl rfl ?_
    have q2 : xR0 400 10 = some 403 ∧ xS0 L 403 = (20, 161) := (kf_12_10 (show xS0 L 400 = (12, 0) from rfl))
    refine w_getR (pc' := 87) rfl rfl rfl rfl (show xS0 L 400 = (12, 0) from rfl) q2.1 ?_
    refine w_iconst (pc' := 88) rfl rfl (v := 1) rfl ?_
    refine w_aload_n (pc' := 89) rfl rfl rfl ?_
    refine w_iconst (pc' := 90) rfl rfl (v := 1) rfl ?_
    refine w_bipush (pc' := 92) rfl rfl (v := 9) rfl ?_
    refine w_cv (pc' := 95) (cm := xm_Mo_numbered) (as := [.int 1, .int 9]) (a := 400) (rest := [.int 1, .ref 403]) rfl rfl rfl  (xa_Mo_numbered (Nat.le_of_ble_eq_true rfl)) (show xS0 L 400 = (12, 0) from rfl) rfl (CI.k h fun v2 g4 h => ?_)
    show Wp L xs xm_Mo_councilLine 95 [.ref 400, .int x1, .int x2, .retAddr 0] [.int v2, .int 1, .ref 403] g4 _
    refine w_iastore (pc' := 96) (i := 1) rfl rfl q2.2 rfl (by omega) (by omega) ?_
    replace h := h _ rfl
    generalize xu g4 403 1 v2 = g5 at h ⊢
    refine w_goto (pc' := 173) rfl rfl ?_
    refine w_aload_n (pc' := 174) rfl rfl rfl ?_
    refine w_cv (pc' := 177) (cm := xm_Mo_endsLine) (as := []) (a := 400) (rest := []) rfl rfl rfl  (xa_Mo_endsLine (Nat.le_of_ble_eq_true rfl)) (show xS0 L 400 = (12, 0) from rfl) rfl (CV.k h fun g6 h => ?_)
    show Wp L xs xm_Mo_councilLine 177 [.ref 400, .int x1, .int x2, .retAddr 0] [] g6 _
    exact w_return rfl rfl h
  replace h := h.2 hs2
  by_cases hs3 : s0 = 3
  · replace h := h.1 hs3
    refine w_ts (o := 74) (t := 99) rfl (by rw [hs3]; decide) (by rw [hs3]; rfl) rfl ?_
    refine w_aload_n (pc' := 100) rfl rfl rfl ?_
    have q3 : xR0 400 10 = some 403 ∧ xS0 L 403 = (20, 161) := (kf_12_10 (show xS0 L 400 = (12, 0) from rfl))
    refine w_getR (pc' := 103) rfl rfl rfl rfl (show xS0 L 400 = (12, 0) from rfl) q3.1 ?_
    refine w_iconst (pc' := 104) rfl rfl (v := 2) rfl ?_
    refine w_aload_n (pc' := 105) rfl rfl rfl ?_
    refine w_iconst (pc' := 106) rfl rfl (v := 1) rfl ?_
    refine w_iconst (pc' := 107) rfl rfl (v := 4) rfl ?_
    refine w_cv (pc' := 110) (cm := xm_Mo_numbered) (as := [.int 1, .int 4]) (a := 400) (rest := [.int 2, .ref 403]) rfl rfl rfl  (xa_Mo_numbered (Nat.le_of_ble_eq_true rfl)) (show xS0 L 400 = (12, 0) from rfl) rfl (CI.k h fun v3 g7 h => ?_)
    show Wp L xs xm_Mo_councilLine 110 [.ref 400, .int x1, .int x2, .retAddr 0] [.int v3, .int 2, .ref 403] g7 _
    refine w_iastore (pc' := 111) (i := 2) rfl rfl q3.2 rfl (by omega) (by omega) ?_
    replace h := h _ rfl
    generalize xu g7 403 2 v3 = g8 at h ⊢
    refine w_goto (pc' := 173) rfl rfl ?_
    refine w_aload_n (pc' := 174) rfl rfl rfl ?_
    refine w_cv (pc' := 177) (cm := xm_Mo_endsLine) (as := []) (a := 400) (rest := []) rfl rfl rfl  (xa_Mo_endsLine (Nat.le_of_ble_eq_true rfl)) (show xS0 L 400 = (12, 0) from rfl) rfl (CV.k h fun g9 h => ?_)
    show Wp L xs xm_Mo_councilLine 177 [.ref 400, .int x1, .int x2, .retAddr 0] [] g9 _
    exact w_return rfl rfl h
  replace h := h.2 hs3
  by_cases hs4 : s0 = 4
  · replace h := h.1 hs4
    refine w_ts (o := 89) (t := 114) rfl (by rw [hs4]; decide) (by rw [hs4]; rfl) rfl ?_
    refine w_aload_n (pc' := 115) rfl rfl rfl ?_
    have q4 : xR0 400 10 = some 403 ∧ xS0 L 403 = (20, 161) := (kf_12_10 (show xS0 L 400 = (12, 0) from rfl))
    refine w_getR (pc' := 118) rfl rfl rfl rfl (show xS0 L 400 = (12, 0) from rfl) q4.1 ?_
    refine w_iconst (pc' := 119) rfl rfl (v := 3) rfl ?_
    refine w_dup2 (pc' := 120) rfl rfl ?_
    refine w_iaload (pc' := 121) (i := 3) rfl rfl q4.2 rfl (by omega) (by omega) ?_
    refine w_iconst (pc' := 122) rfl rfl (v := 1) rfl ?_
    refine w_aload_n (pc' := 123) rfl rfl rfl ?_
    refine w_cv (pc' := 126) (cm := xm_Mo_memberTold) (as := []) (a := 400) (rest := [.int 1, .int (f 403 3), .int 3, .ref 403]) rfl rfl rfl  (xa_Mo_memberTold (Nat.le_of_ble_eq_true rfl)) (show xS0 L 400 = (12, 0) from rfl) rfl (CI.k h fun v4 g10 h => ?_)
    show Wp L xs xm_Mo_councilLine 126 [.ref 400, .int x1, .int x2, .retAddr 0] [.int v4, .int 1, .int (f 403 3), .int 3, .ref 403] g10 _
    refine w_ishl (pc' := 127) rfl rfl ?_
    refine w_ior (pc' := 128) rfl rfl ?_
    refine w_iastore (pc' := 129) (i := 3) rfl rfl q4.2 rfl (by omega) (by omega) ?_
    replace h := h _ rfl
    generalize xu g10 403 3 ((f 403 3) ||| (1 <<< (v4 &&& 31))) = g11 at h ⊢
    refine w_goto (pc' := 173) rfl rfl ?_
    refine w_aload_n (pc' := 174) rfl rfl rfl ?_
    refine w_cv (pc' := 177) (cm := xm_Mo_endsLine) (as := []) (a := 400) (rest := []) rfl rfl rfl  (xa_Mo_endsLine (Nat.le_of_ble_eq_true rfl)) (show xS0 L 400 = (12, 0) from rfl) rfl (CV.k h fun g12 h => ?_)
    show Wp L xs xm_Mo_councilLine 177 [.ref 400, .int x1, .int x2, .retAddr 0] [] g12 _
    exact w_return rfl rfl h
  replace h := h.2 hs4
  by_cases hs5 : s0 = 5
  · replace h := h.1 hs5
    refine w_ts (o := 107) (t := 132) rfl (by rw [hs5]; decide) (by rw [hs5]; rfl) rfl ?_
    refine w_aload_n (pc' := 133) rfl rfl rfl ?_
    refine w_iconst (pc' := 134) rfl rfl (v := 0) rfl ?_
    refine w_bipush (pc' := 136) rfl rfl (v := 7) rfl ?_
    refine w_cv (pc' := 139) (cm := xm_Mo_numbered) (as := [.int 0, .int 7]) (a := 400) (rest := []) rfl rfl rfl  (xa_Mo_numbered (Nat.le_of_ble_eq_true rfl)) (show xS0 L 400 = (12, 0) from rfl) rfl (CI.k h fun v5 g13 h => ?_)
    show Wp L xs xm_Mo_councilLine 139 [.ref 400, .int x1, .int x2, .retAddr 0] [.int v5] g13 _
    refine w_istore_n (pc' := 140) rfl rfl (xl' := [.ref 400, .int x1, .int x2, .int v5]) rfl ?_
    refine w_aload_n (pc' := 141) rfl rfl rfl ?_
    have q5 : xR0 400 10 = some 403 ∧ xS0 L 403 = (20, 161) := (kf_12_10 (show xS0 L 400 = (12, 0) from rfl))
    refine w_getR (pc' := 144) rfl rfl rfl rfl (show xS0 L 400 = (12, 0) from rfl) q5.1 ?_
    refine w_iconst (pc' := 145) rfl rfl (v := 5) rfl ?_
    refine w_iload_n (pc' := 146) rfl rfl rfl ?_
    refine w_iadd (pc' := 147) rfl rfl ?_
    refine w_aload_n (pc' := 148) rfl rfl rfl ?_
    refine w_iconst (pc' := 149) rfl rfl (v := 0) rfl ?_
    refine w_bipush (pc' := 151) rfl rfl (v := 99) rfl ?_
    refine w_cv (pc' := 154) (cm := xm_Mo_numbered) (as := [.int 0, .int 99]) (a := 400) (rest := [.int (5 + v5), .ref 403]) rfl rfl rfl  (xa_Mo_numbered (Nat.le_of_ble_eq_true rfl)) (show xS0 L 400 = (12, 0) from rfl) rfl (CI.k h fun v6 g14 h => ?_)
    show Wp L xs xm_Mo_councilLine 154 [.ref 400, .int x1, .int x2, .int v5] [.int v6, .int (5 + v5), .ref 403] g14 _
    obtain ⟨k1, ek1, bk1, h⟩ := h
    refine w_iastore (pc' := 155) (i := k1) rfl rfl q5.2 ek1 bk1 (by omega) ?_
    replace h := h _ rfl
    generalize xu g14 403 k1 v6 = g15 at h ⊢
    refine w_goto (pc' := 173) rfl rfl ?_
    refine w_aload_n (pc' := 174) rfl rfl rfl ?_
    refine w_cv (pc' := 177) (cm := xm_Mo_endsLine) (as := []) (a := 400) (rest := []) rfl rfl rfl  (xa_Mo_endsLine (Nat.le_of_ble_eq_true rfl)) (show xS0 L 400 = (12, 0) from rfl) rfl (CV.k h fun g16 h => ?_)
    show Wp L xs xm_Mo_councilLine 177 [.ref 400, .int x1, .int x2, .int v5] [] g16 _
    exact w_return rfl rfl h
  replace h := h.2 hs5
  by_cases hs6 : s0 = 6
  · replace h := h.1 hs6
    refine w_ts (o := 133) (t := 158) rfl (by rw [hs6]; decide) (by rw [hs6]; rfl) rfl ?_
    refine w_aload_n (pc' := 159) rfl rfl rfl ?_
    refine w_iload_n (pc' := 160) rfl rfl rfl ?_
    refine w_cv (pc' := 163) (cm := xm_Mo_orderTold) (as := [.int x1]) (a := 400) (rest := []) rfl rfl rfl  (xa_Mo_orderTold (Nat.le_of_ble_eq_true rfl)) (show xS0 L 400 = (12, 0) from rfl) rfl (CV.k h fun g17 h => ?_)
    show Wp L xs xm_Mo_councilLine 163 [.ref 400, .int x1, .int x2, .retAddr 0] [] g17 _
    refine w_goto (pc' := 173) rfl rfl ?_
    refine w_aload_n (pc' := 174) rfl rfl rfl ?_
    refine w_cv (pc' := 177) (cm := xm_Mo_endsLine) (as := []) (a := 400) (rest := []) rfl rfl rfl  (xa_Mo_endsLine (Nat.le_of_ble_eq_true rfl)) (show xS0 L 400 = (12, 0) from rfl) rfl (CV.k h fun g18 h => ?_)
    show Wp L xs xm_Mo_councilLine 177 [.ref 400, .int x1, .int x2, .retAddr 0] [] g18 _
    exact w_return rfl rfl h
  replace h := h.2 hs6
  by_cases hs7 : s0 = 7
  · replace h := h.1 hs7
    refine w_ts (o := 141) (t := 166) rfl (by rw [hs7]; decide) (by rw [hs7]; rfl) rfl ?_
    refine w_aload_n (pc' := 167) rfl rfl rfl ?_
    refine w_cv (pc' := 170) (cm := xm_Mo_delayTold) (as := []) (a := 400) (rest := []) rfl rfl rfl  (xa_Mo_delayTold (Nat.le_of_ble_eq_true rfl)) (show xS0 L 400 = (12, 0) from rfl) rfl (CV.k h fun g19 h => ?_)
    show Wp L xs xm_Mo_councilLine 170 [.ref 400, .int x1, .int x2, .retAddr 0] [] g19 _
    refine w_goto (pc' := 173) rfl rfl ?_
    refine w_aload_n (pc' := 174) rfl rfl rfl ?_
    refine w_cv (pc' := 177) (cm := xm_Mo_endsLine) (as := []) (a := 400) (rest := []) rfl rfl rfl  (xa_Mo_endsLine (Nat.le_of_ble_eq_true rfl)) (show xS0 L 400 = (12, 0) from rfl) rfl (CV.k h fun g20 h => ?_)
    show Wp L xs xm_Mo_councilLine 177 [.ref 400, .int x1, .int x2, .retAddr 0] [] g20 _
    exact w_return rfl rfl h
  replace h := h.2 hs7
  refine w_tsd (t := 173) rfl ?_ rfl ?_
  · have z1 : (s0).toInt ≠ 1 := fun e => hs1 (Int32.toInt_inj.mp e); have z2 : (s0).toInt ≠ 2 := fun e => hs2 (Int32.toInt_inj.mp e); have z3 : (s0).toInt ≠ 3 := fun e => hs3 (Int32.toInt_inj.mp e); have z4 : (s0).toInt ≠ 4 := fun e => hs4 (Int32.toInt_inj.mp e); have z5 : (s0).toInt ≠ 5 := fun e => hs5 (Int32.toInt_inj.mp e); have z6 : (s0).toInt ≠ 6 := fun e => hs6 (Int32.toInt_inj.mp e); have z7 : (s0).toInt ≠ 7 := fun e => hs7 (Int32.toInt_inj.mp e); omega
  refine w_aload_n (pc' := 174) rfl rfl rfl ?_
  refine w_cv (pc' := 177) (cm := xm_Mo_endsLine) (as := []) (a := 400) (rest := []) rfl rfl rfl  (xa_Mo_endsLine (Nat.le_of_ble_eq_true rfl)) (show xS0 L 400 = (12, 0) from rfl) rfl (CV.k h fun g21 h => ?_)
  show Wp L xs xm_Mo_councilLine 177 [.ref 400, .int x1, .int x2, .retAddr 0] [] g21 _
  exact w_return rfl rfl h
theorem t_Mo_wordIn_0 {L : Nat} {xs : Nat → Int32} {x1 : Int32} {x2 : Int32} {f : Hp} {Q : Int32 → Hp → Prop}  (h : (((f 400 8) = 0 → (((f 400 5) = 3 → CI L xs xm_Mo_isIn [.int (f 400 7), .int x1, .int x2] f (fun v1 g3 => ((v1 = 0 → CV L xs xm_Mo_ends [.ref 400] g3 (fun g5 => Q 0 g5)) ∧ (¬ v1 = 0 → CV L xs xm_Mo_advance [.ref 400] g3 (fun g4 => Q (g3 400 7) g4))))) ∧ (¬ (f 400 5) = 3 → CV L xs xm_Mo_ends [.ref 400] f (fun g2 => Q 0 g2)))) ∧ (¬ (f 400 8) = 0 → CV L xs xm_Mo_ends [.ref 400] f (fun g1 => Q 0 g1)))) : CI L xs xm_Mo_wordIn [.ref 400, .int x1, .int x2] f Q := by
  show Wp L xs xm_Mo_wordIn 0 [.ref 400, .int x1, .int x2, .retAddr 0] [] f (QI Q)
  refine w_aload_n (pc' := 1) rfl rfl rfl ?_
  refine w_getI (pc' := 4) rfl rfl rfl rfl rfl (show xS0 L 400 = (12, 0) from rfl) ?_
  refine w_br (pc' := 7) (t := 27) rfl rfl rfl ic_ne (fun hc => ?_) (fun hc => ?_)
  · replace h := h.2 hc
    refine w_aload_n (pc' := 28) rfl rfl rfl ?_
    refine w_cv (pc' := 31) (cm := xm_Mo_ends) (as := []) (a := 400) (rest := []) rfl rfl rfl  (xa_Mo_ends (Nat.le_of_ble_eq_true rfl)) (show xS0 L 400 = (12, 0) from rfl) rfl (CV.k h fun g1 h => ?_)
    show Wp L xs xm_Mo_wordIn 31 [.ref 400, .int x1, .int x2, .retAddr 0] [] g1 _
    refine w_iconst (pc' := 32) rfl rfl (v := 0) rfl ?_
    exact w_ireturn rfl rfl h
  · replace h := h.1 (Classical.not_not.mp hc)
    refine w_aload_n (pc' := 8) rfl rfl rfl ?_
    refine w_getI (pc' := 11) rfl rfl rfl rfl rfl (show xS0 L 400 = (12, 0) from rfl) ?_
    refine w_iconst (pc' := 12) rfl rfl (v := 3) rfl ?_
    refine w_br2 (pc' := 15) (t := 27) rfl rfl rfl ic_ne (fun hc => ?_) (fun hc => ?_)
    · replace h := h.2 hc
      refine w_aload_n (pc' := 28) rfl rfl rfl ?_
      refine w_cv (pc' := 31) (cm := xm_Mo_ends) (as := []) (a := 400) (rest := []) rfl rfl rfl  (xa_Mo_ends (Nat.le_of_ble_eq_true rfl)) (show xS0 L 400 = (12, 0) from rfl) rfl (CV.k h fun g2 h => ?_)
      show Wp L xs xm_Mo_wordIn 31 [.ref 400, .int x1, .int x2, .retAddr 0] [] g2 _
      refine w_iconst (pc' := 32) rfl rfl (v := 0) rfl ?_
      exact w_ireturn rfl rfl h
    · replace h := h.1 (Classical.not_not.mp hc)
      refine w_aload_n (pc' := 16) rfl rfl rfl ?_
      refine w_getI (pc' := 19) rfl rfl rfl rfl rfl (show xS0 L 400 = (12, 0) from rfl) ?_
      refine w_iload_n (pc' := 20) rfl rfl rfl ?_
      refine w_iload_n (pc' := 21) rfl rfl rfl ?_
      refine w_cs (pc' := 24) (cm := xm_Mo_isIn) (as := [.int (f 400 7), .int x1, .int x2]) (rest := []) rfl rfl rfl (Or.inl rfl) (xa_Mo_isIn (Nat.le_of_ble_eq_true rfl)) (CI.k h fun v1 g3 h => ?_)
      show Wp L xs xm_Mo_wordIn 24 [.ref 400, .int x1, .int x2, .retAddr 0] [.int v1] g3 _
      refine w_br (pc' := 27) (t := 33) rfl rfl rfl ic_ne (fun hc => ?_) (fun hc => ?_)
      · replace h := h.2 hc
        refine w_aload_n (pc' := 34) rfl rfl rfl ?_
        refine w_getI (pc' := 37) rfl rfl rfl rfl rfl (show xS0 L 400 = (12, 0) from rfl) ?_
        refine w_istore_n (pc' := 38) rfl rfl (xl' := [.ref 400, .int x1, .int x2, .int (g3 400 7)]) rfl ?_
        refine w_aload_n (pc' := 39) rfl rfl rfl ?_
        refine w_cv (pc' := 42) (cm := xm_Mo_advance) (as := []) (a := 400) (rest := []) rfl rfl rfl  (xa_Mo_advance (Nat.le_of_ble_eq_true rfl)) (show xS0 L 400 = (12, 0) from rfl) rfl (CV.k h fun g4 h => ?_)
        show Wp L xs xm_Mo_wordIn 42 [.ref 400, .int x1, .int x2, .int (g3 400 7)] [] g4 _
        refine w_iload_n (pc' := 43) rfl rfl rfl ?_
        exact w_ireturn rfl rfl h
      · replace h := h.1 (Classical.not_not.mp hc)
        refine w_aload_n (pc' := 28) rfl rfl rfl ?_
        refine w_cv (pc' := 31) (cm := xm_Mo_ends) (as := []) (a := 400) (rest := []) rfl rfl rfl  (xa_Mo_ends (Nat.le_of_ble_eq_true rfl)) (show xS0 L 400 = (12, 0) from rfl) rfl (CV.k h fun g5 h => ?_)
        show Wp L xs xm_Mo_wordIn 31 [.ref 400, .int x1, .int x2, .retAddr 0] [] g5 _
        refine w_iconst (pc' := 32) rfl rfl (v := 0) rfl ?_
        exact w_ireturn rfl rfl h
theorem t_Mo_ends_0 {L : Nat} {xs : Nat → Int32}  {f : Hp} {Q : Hp → Prop}  (h : (((f 400 8) = 0 → ∀ g1, g1 = xu f 400 8 1 → ∀ g2, g2 = xu g1 401 5 1 → ∀ g3, g3 = xu g2 401 6 (g2 400 4) → Q g3) ∧ (¬ (f 400 8) = 0 → Q f))) : CV L xs xm_Mo_ends [.ref 400] f Q := by
  show Wp L xs xm_Mo_ends 0 [.ref 400] [] f (QV Q)
  refine w_aload_n (pc' := 1) rfl rfl rfl ?_
  refine w_getI (pc' := 4) rfl rfl rfl rfl rfl (show xS0 L 400 = (12, 0) from rfl) ?_
  refine w_br (pc' := 7) (t := 8) rfl rfl rfl ic_eq (fun hc => ?_) (fun hc => ?_)
  · replace h := h.1 hc
    refine w_aload_n (pc' := 9) rfl rfl rfl ?_
    refine w_iconst (pc' := 10) rfl rfl (v := 1) rfl ?_
    refine w_putB (pc' := 13) rfl rfl rfl rfl (show xS0 L 400 = (12, 0) from rfl) (by decide) ?_
    replace h := h _ rfl
    generalize xu f 400 8 1 = g1 at h ⊢
    refine w_aload_n (pc' := 14) rfl rfl rfl ?_
    have q1 : xR0 400 0 = some 401 ∧ xS0 L 401 = (20, 4680) := (kf_12_0 (show xS0 L 400 = (12, 0) from rfl))
    refine w_getR (pc' := 17) rfl rfl rfl rfl (show xS0 L 400 = (12, 0) from rfl) q1.1 ?_
    refine w_iconst (pc' := 18) rfl rfl (v := 5) rfl ?_
    refine w_iconst (pc' := 19) rfl rfl (v := 1) rfl ?_
    refine w_iastore (pc' := 20) (i := 5) rfl rfl q1.2 rfl (by omega) (by omega) ?_
    replace h := h _ rfl
    generalize xu g1 401 5 1 = g2 at h ⊢
    refine w_aload_n (pc' := 21) rfl rfl rfl ?_
    have q2 : xR0 400 0 = some 401 ∧ xS0 L 401 = (20, 4680) := (kf_12_0 (show xS0 L 400 = (12, 0) from rfl))
    refine w_getR (pc' := 24) rfl rfl rfl rfl (show xS0 L 400 = (12, 0) from rfl) q2.1 ?_
    refine w_bipush (pc' := 26) rfl rfl (v := 6) rfl ?_
    refine w_aload_n (pc' := 27) rfl rfl rfl ?_
    refine w_getI (pc' := 30) rfl rfl rfl rfl rfl (show xS0 L 400 = (12, 0) from rfl) ?_
    refine w_iastore (pc' := 31) (i := 6) rfl rfl q2.2 rfl (by omega) (by omega) ?_
    replace h := h _ rfl
    generalize xu g2 401 6 (g2 400 4) = g3 at h ⊢
    exact w_return rfl rfl h
  · replace h := h.2 hc
    exact w_return rfl rfl h
theorem t_Mo_numbered_0 {L : Nat} {xs : Nat → Int32} {x1 : Int32} {x2 : Int32} {f : Hp} {Q : Int32 → Hp → Prop}  (h : (((f 400 8) = 0 → (((f 400 5) = 1 → CI L xs xm_Mo_isIn [.int (f 400 6), .int x1, .int x2] f (fun v1 g2 => ((v1 = 0 → CV L xs xm_Mo_also [.ref 400, .int 2, .int (g2 400 4)] g2 (fun g3 => Wp L xs xm_Mo_numbered 44 [.ref 400, .int x1, .int x2, .int (f 400 6)] [] g3 (QI Q))) ∧ (¬ v1 = 0 → Wp L xs xm_Mo_numbered 44 [.ref 400, .int x1, .int x2, .int (f 400 6)] [] g2 (QI Q))))) ∧ (¬ (f 400 5) = 1 → CV L xs xm_Mo_ends [.ref 400] f (fun g4 => Q x1 g4)))) ∧ (¬ (f 400 8) = 0 → CV L xs xm_Mo_ends [.ref 400] f (fun g1 => Q x1 g1)))) : CI L xs xm_Mo_numbered [.ref 400, .int x1, .int x2] f Q := by
  show Wp L xs xm_Mo_numbered 0 [.ref 400, .int x1, .int x2, .retAddr 0] [] f (QI Q)
  refine w_aload_n (pc' := 1) rfl rfl rfl ?_
  refine w_getI (pc' := 4) rfl rfl rfl rfl rfl (show xS0 L 400 = (12, 0) from rfl) ?_
  refine w_br (pc' := 7) (t := 15) rfl rfl rfl ic_ne (fun hc => ?_) (fun hc => ?_)
  · replace h := h.2 hc
    refine w_aload_n (pc' := 16) rfl rfl rfl ?_
    refine w_cv (pc' := 19) (cm := xm_Mo_ends) (as := []) (a := 400) (rest := []) rfl rfl rfl  (xa_Mo_ends (Nat.le_of_ble_eq_true rfl)) (show xS0 L 400 = (12, 0) from rfl) rfl (CV.k h fun g1 h => ?_)
    show Wp L xs xm_Mo_numbered 19 [.ref 400, .int x1, .int x2, .retAddr 0] [] g1 _
    refine w_iload_n (pc' := 20) rfl rfl rfl ?_
    exact w_ireturn rfl rfl h
  · replace h := h.1 (Classical.not_not.mp hc)
    refine w_aload_n (pc' := 8) rfl rfl rfl ?_
    refine w_getI (pc' := 11) rfl rfl rfl rfl rfl (show xS0 L 400 = (12, 0) from rfl) ?_
    refine w_iconst (pc' := 12) rfl rfl (v := 1) rfl ?_
    refine w_br2 (pc' := 15) (t := 21) rfl rfl rfl ic_eq (fun hc => ?_) (fun hc => ?_)
    · replace h := h.1 hc
      refine w_aload_n (pc' := 22) rfl rfl rfl ?_
      refine w_getI (pc' := 25) rfl rfl rfl rfl rfl (show xS0 L 400 = (12, 0) from rfl) ?_
      refine w_istore_n (pc' := 26) rfl rfl (xl' := [.ref 400, .int x1, .int x2, .int (f 400 6)]) rfl ?_
      refine w_iload_n (pc' := 27) rfl rfl rfl ?_
      refine w_iload_n (pc' := 28) rfl rfl rfl ?_
      refine w_iload_n (pc' := 29) rfl rfl rfl ?_
      refine w_cs (pc' := 32) (cm := xm_Mo_isIn) (as := [.int (f 400 6), .int x1, .int x2]) (rest := []) rfl rfl rfl (Or.inl rfl) (xa_Mo_isIn (Nat.le_of_ble_eq_true rfl)) (CI.k h fun v1 g2 h => ?_)
      show Wp L xs xm_Mo_numbered 32 [.ref 400, .int x1, .int x2, .int (f 400 6)] [.int v1] g2 _
      refine w_br (pc' := 35) (t := 44) rfl rfl rfl ic_ne (fun hc => ?_) (fun hc => ?_)
      · replace h := h.2 hc
        exact h
      · replace h := h.1 (Classical.not_not.mp hc)
        refine w_aload_n (pc' := 36) rfl rfl rfl ?_
        refine w_iconst (pc' := 37) rfl rfl (v := 2) rfl ?_
        refine w_aload_n (pc' := 38) rfl rfl rfl ?_
        refine w_getI (pc' := 41) rfl rfl rfl rfl rfl (show xS0 L 400 = (12, 0) from rfl) ?_
        refine w_cv (pc' := 44) (cm := xm_Mo_also) (as := [.int 2, .int (g2 400 4)]) (a := 400) (rest := []) rfl rfl rfl  (xa_Mo_also (Nat.le_of_ble_eq_true rfl)) (show xS0 L 400 = (12, 0) from rfl) rfl (CV.k h fun g3 h => ?_)
        show Wp L xs xm_Mo_numbered 44 [.ref 400, .int x1, .int x2, .int (f 400 6)] [] g3 _
        exact h
    · replace h := h.2 hc
      refine w_aload_n (pc' := 16) rfl rfl rfl ?_
      refine w_cv (pc' := 19) (cm := xm_Mo_ends) (as := []) (a := 400) (rest := []) rfl rfl rfl  (xa_Mo_ends (Nat.le_of_ble_eq_true rfl)) (show xS0 L 400 = (12, 0) from rfl) rfl (CV.k h fun g4 h => ?_)
      show Wp L xs xm_Mo_numbered 19 [.ref 400, .int x1, .int x2, .retAddr 0] [] g4 _
      refine w_iload_n (pc' := 20) rfl rfl rfl ?_
      exact w_ireturn rfl rfl h
theorem t_Mo_numbered_44 {L : Nat} {xs : Nat → Int32} {x1 : Int32} {x2 : Int32} {x3 : Int32} {f : Hp} {Q : Int32 → Hp → Prop}  (h : CV L xs xm_Mo_advance [.ref 400] f (fun g1 => CI L xs xm_Mo_isIn [.int x3, .int x1, .int x2] g1 (fun v1 g2 => ((v1 = 0 → Q x1 g2) ∧ (¬ v1 = 0 → Q x3 g2))))) : Wp L xs xm_Mo_numbered 44 [.ref 400, .int x1, .int x2, .int x3] [] f (QI Q) := by
  refine w_aload_n (pc' := 45) rfl rfl rfl ?_
  refine w_cv (pc' := 48) (cm := xm_Mo_advance) (as := []) (a := 400) (rest := []) rfl rfl rfl  (xa_Mo_advance (Nat.le_of_ble_eq_true rfl)) (show xS0 L 400 = (12, 0) from rfl) rfl (CV.k h fun g1 h => ?_)
  show Wp L xs xm_Mo_numbered 48 [.ref 400, .int x1, .int x2, .int x3] [] g1 _
  refine w_iload_n (pc' := 49) rfl rfl rfl ?_
  refine w_iload_n (pc' := 50) rfl rfl rfl ?_
  refine w_iload_n (pc' := 51) rfl rfl rfl ?_
  refine w_cs (pc' := 54) (cm := xm_Mo_isIn) (as := [.int x3, .int x1, .int x2]) (rest := []) rfl rfl rfl (Or.inl rfl) (xa_Mo_isIn (Nat.le_of_ble_eq_true rfl)) (CI.k h fun v1 g2 h => ?_)
  show Wp L xs xm_Mo_numbered 54 [.ref 400, .int x1, .int x2, .int x3] [.int v1] g2 _
  refine w_br (pc' := 57) (t := 61) rfl rfl rfl ic_eq (fun hc => ?_) (fun hc => ?_)
  · replace h := h.1 hc
    refine w_iload_n (pc' := 62) rfl rfl rfl ?_
    exact w_ireturn rfl rfl h
  · replace h := h.2 hc
    refine w_iload_n (pc' := 58) rfl rfl rfl ?_
    refine w_goto (pc' := 62) rfl rfl ?_
    exact w_ireturn rfl rfl h
theorem t_Mo_also_0 {L : Nat} {xs : Nat → Int32} {x1 : Int32} {x2 : Int32} {f : Hp} {Q : Hp → Prop}  (h : (((f 400 8) = 0 → (((f 401 5) = 0 → Wp L xs xm_Mo_also 49 [.ref 400, .int x1, .int x2] [] f (QV Q)) ∧ (¬ (f 401 5) = 0 → (((f 401 6) < x2 → Q f) ∧ (¬ (f 401 6) < x2 → (((f 401 6) = x2 → ((x1 < (f 401 5) → Wp L xs xm_Mo_also 49 [.ref 400, .int x1, .int x2] [] f (QV Q)) ∧ (¬ x1 < (f 401 5) → Q f))) ∧ (¬ (f 401 6) = x2 → Wp L xs xm_Mo_also 49 [.ref 400, .int x1, .int x2] [] f (QV Q)))))))) ∧ (¬ (f 400 8) = 0 → Q f))) : CV L xs xm_Mo_also [.ref 400, .int x1, .int x2] f Q := by
  show Wp L xs xm_Mo_also 0 [.ref 400, .int x1, .int x2] [] f (QV Q)
  refine w_aload_n (pc' := 1) rfl rfl rfl ?_
  refine w_getI (pc' := 4) rfl rfl rfl rfl rfl (show xS0 L 400 = (12, 0) from rfl) ?_
  refine w_br (pc' := 7) (t := 48) rfl rfl rfl ic_ne (fun hc => ?_) (fun hc => ?_)
  · replace h := h.2 hc
    exact w_return rfl rfl h
  · replace h := h.1 (Classical.not_not.mp hc)
    refine w_aload_n (pc' := 8) rfl rfl rfl ?_
    have q1 : xR0 400 0 = some 401 ∧ xS0 L 401 = (20, 4680) := (kf_12_0 (show xS0 L 400 = (12, 0) from rfl))
    refine w_getR (pc' := 11) rfl rfl rfl rfl (show xS0 L 400 = (12, 0) from rfl) q1.1 ?_
    refine w_iconst (pc' := 12) rfl rfl (v := 5) rfl ?_
    refine w_iaload (pc' := 13) (i := 5) rfl rfl q1.2 rfl (by omega) (by omega) ?_
    refine w_br (pc' := 16) (t := 49) rfl rfl rfl ic_eq (fun hc => ?_) (fun hc => ?_)
    · replace h := h.1 hc
      exact h
    · replace h := h.2 hc
      refine w_aload_n (pc' := 17) rfl rfl rfl ?_
      have q2 : xR0 400 0 = some 401 ∧ xS0 L 401 = (20, 4680) := (kf_12_0 (show xS0 L 400 = (12, 0) from rfl))
      refine w_getR (pc' := 20) rfl rfl rfl rfl (show xS0 L 400 = (12, 0) from rfl) q2.1 ?_
      refine w_bipush (pc' := 22) rfl rfl (v := 6) rfl ?_
      refine w_iaload (pc' := 23) (i := 6) rfl rfl q2.2 rfl (by omega) (by omega) ?_
      refine w_iload_n (pc' := 24) rfl rfl rfl ?_
      refine w_br2 (pc' := 27) (t := 48) rfl rfl rfl ic_lt (fun hc => ?_) (fun hc => ?_)
      · replace h := h.1 hc
        exact w_return rfl rfl h
      · replace h := h.2 hc
        refine w_aload_n (pc' := 28) rfl rfl rfl ?_
        have q3 : xR0 400 0 = some 401 ∧ xS0 L 401 = (20, 4680) := (kf_12_0 (show xS0 L 400 = (12, 0) from rfl))
        refine w_getR (pc' := 31) rfl rfl rfl rfl (show xS0 L 400 = (12, 0) from rfl) q3.1 ?_
        refine w_bipush (pc' := 33) rfl rfl (v := 6) rfl ?_
        refine w_iaload (pc' := 34) (i := 6) rfl rfl q3.2 rfl (by omega) (by omega) ?_
        refine w_iload_n (pc' := 35) rfl rfl rfl ?_
        refine w_br2 (pc' := 38) (t := 49) rfl rfl rfl ic_ne (fun hc => ?_) (fun hc => ?_)
        · replace h := h.2 hc
          exact h
        · replace h := h.1 (Classical.not_not.mp hc)
          refine w_aload_n (pc' := 39) rfl rfl rfl ?_
          have q4 : xR0 400 0 = some 401 ∧ xS0 L 401 = (20, 4680) := (kf_12_0 (show xS0 L 400 = (12, 0) from rfl))
          refine w_getR (pc' := 42) rfl rfl rfl rfl (show xS0 L 400 = (12, 0) from rfl) q4.1 ?_
          refine w_iconst (pc' := 43) rfl rfl (v := 5) rfl ?_
          refine w_iaload (pc' := 44) (i := 5) rfl rfl q4.2 rfl (by omega) (by omega) ?_
          refine w_iload_n (pc' := 45) rfl rfl rfl ?_
          refine w_br2 (pc' := 48) (t := 49) rfl rfl rfl ic_gt (fun hc => ?_) (fun hc => ?_)
          · replace h := h.1 hc
            exact h
          · replace h := h.2 hc
            exact w_return rfl rfl h
theorem t_Mo_also_49 {L : Nat} {xs : Nat → Int32} {x1 : Int32} {x2 : Int32} {f : Hp} {Q : Hp → Prop}  (h : ∀ g1, g1 = xu f 401 5 x1 → ∀ g2, g2 = xu g1 401 6 x2 → Q g2) : Wp L xs xm_Mo_also 49 [.ref 400, .int x1, .int x2] [] f (QV Q) := by
  refine w_aload_n (pc' := 50) rfl rfl rfl ?_
  have q1 : xR0 400 0 = some 401 ∧ xS0 L 401 = (20, 4680) := (kf_12_0 (show xS0 L 400 = (12, 0) from rfl))
  refine w_getR (pc' := 53) rfl rfl rfl rfl (show xS0 L 400 = (12, 0) from rfl) q1.1 ?_
  refine w_iconst (pc' := 54) rfl rfl (v := 5) rfl ?_
  refine w_iload_n (pc' := 55) rfl rfl rfl ?_
  refine w_iastore (pc' := 56) (i := 5) rfl rfl q1.2 rfl (by omega) (by omega) ?_
  replace h := h _ rfl
  generalize xu f 401 5 x1 = g1 at h ⊢
  refine w_aload_n (pc' := 57) rfl rfl rfl ?_
  have q2 : xR0 400 0 = some 401 ∧ xS0 L 401 = (20, 4680) := (kf_12_0 (show xS0 L 400 = (12, 0) from rfl))
  refine w_getR (pc' := 60) rfl rfl rfl rfl (show xS0 L 400 = (12, 0) from rfl) q2.1 ?_
  refine w_bipush (pc' := 62) rfl rfl (v := 6) rfl ?_
  refine w_iload_n (pc' := 63) rfl rfl rfl ?_
  refine w_iastore (pc' := 64) (i := 6) rfl rfl q2.2 rfl (by omega) (by omega) ?_
  replace h := h _ rfl
  generalize xu g1 401 6 x2 = g2 at h ⊢
  exact w_return rfl rfl h
theorem t_Mo_memberTold_0 {L : Nat} {xs : Nat → Int32}  {f : Hp} {Q : Int32 → Hp → Prop}  (h : CI L xs xm_Mo_numbered [.ref 400, .int 0, .int 6] f (fun v1 g1 => (((g1 400 9) < v1 → ∀ g3, g3 = xu g1 400 9 v1 → Q v1 g3) ∧ (¬ (g1 400 9) < v1 → ∀ g2, g2 = xu g1 400 9 (g1 400 9) → Q v1 g2)))) : CI L xs xm_Mo_memberTold [.ref 400] f Q := by
  show Wp L xs xm_Mo_memberTold 0 [.ref 400, .retAddr 0] [] f (QI Q)
  refine w_aload_n (pc' := 1) rfl rfl rfl ?_
  refine w_iconst (pc' := 2) rfl rfl (v := 0) rfl ?_
  refine w_bipush (pc' := 4) rfl rfl (v := 6) rfl ?_
  refine w_cv (pc' := 7) (cm := xm_Mo_numbered) (as := [.int 0, .int 6]) (a := 400) (rest := []) rfl rfl rfl  (xa_Mo_numbered (Nat.le_of_ble_eq_true rfl)) (show xS0 L 400 = (12, 0) from rfl) rfl (CI.k h fun v1 g1 h => ?_)
  show Wp L xs xm_Mo_memberTold 7 [.ref 400, .retAddr 0] [.int v1] g1 _
  refine w_istore_n (pc' := 8) rfl rfl (xl' := [.ref 400, .int v1]) rfl ?_
  refine w_aload_n (pc' := 9) rfl rfl rfl ?_
  refine w_iload_n (pc' := 10) rfl rfl rfl ?_
  refine w_aload_n (pc' := 11) rfl rfl rfl ?_
  refine w_getI (pc' := 14) rfl rfl rfl rfl rfl (show xS0 L 400 = (12, 0) from rfl) ?_
  refine w_br2 (pc' := 17) (t := 21) rfl rfl rfl ic_le (fun hc => ?_) (fun hc => ?_)
  · replace h := h.2 hc
    refine w_aload_n (pc' := 22) rfl rfl rfl ?_
    refine w_getI (pc' := 25) rfl rfl rfl rfl rfl (show xS0 L 400 = (12, 0) from rfl) ?_
    refine w_putI (pc' := 28) rfl rfl rfl rfl (show xS0 L 400 = (12, 0) from rfl) ?_
    replace h := h _ rfl
    generalize xu g1 400 9 (g1 400 9) = g2 at h ⊢
    refine w_iload_n (pc' := 29) rfl rfl rfl ?_
    exact w_ireturn rfl rfl h
  · replace h := h.1 (Classical.not_not.mp hc)
    refine w_iload_n (pc' := 18) rfl rfl rfl ?_
    refine w_goto (pc' := 25) rfl rfl ?_
    refine w_putI (pc' := 28) rfl rfl rfl rfl (show xS0 L 400 = (12, 0) from rfl) ?_
    replace h := h _ rfl
    generalize xu g1 400 9 v1 = g3 at h ⊢
    refine w_iload_n (pc' := 29) rfl rfl rfl ?_
    exact w_ireturn rfl rfl h
theorem t_Mo_orderTold_0 {L : Nat} {xs : Nat → Int32} {x1 : Int32} {f : Hp} {Q : Hp → Prop}  (h : (((f 403 4) < 10 → Wp L xs xm_Mo_orderTold 17 [.ref 400, .int x1, .retAddr 0, .retAddr 0] [] f (QV Q)) ∧ (¬ (f 403 4) < 10 → CV L xs xm_Mo_also [.ref 400, .int 3, .int x1] f (fun g1 => Wp L xs xm_Mo_orderTold 17 [.ref 400, .int x1, .retAddr 0, .retAddr 0] [] g1 (QV Q))))) : CV L xs xm_Mo_orderTold [.ref 400, .int x1] f Q := by
  show Wp L xs xm_Mo_orderTold 0 [.ref 400, .int x1, .retAddr 0, .retAddr 0] [] f (QV Q)
  refine w_aload_n (pc' := 1) rfl rfl rfl ?_
  have q1 : xR0 400 10 = some 403 ∧ xS0 L 403 = (20, 161) := (kf_12_10 (show xS0 L 400 = (12, 0) from rfl))
  refine w_getR (pc' := 4) rfl rfl rfl rfl (show xS0 L 400 = (12, 0) from rfl) q1.1 ?_
  refine w_iconst (pc' := 5) rfl rfl (v := 4) rfl ?_
  refine w_iaload (pc' := 6) (i := 4) rfl rfl q1.2 rfl (by omega) (by omega) ?_
  refine w_bipush (pc' := 8) rfl rfl (v := 10) rfl ?_
  refine w_br2 (pc' := 11) (t := 17) rfl rfl rfl ic_lt (fun hc => ?_) (fun hc => ?_)
  · replace h := h.1 hc
    exact h
  · replace h := h.2 hc
    refine w_aload_n (pc' := 12) rfl rfl rfl ?_
    refine w_iconst (pc' := 13) rfl rfl (v := 3) rfl ?_
    refine w_iload_n (pc' := 14) rfl rfl rfl ?_
    refine w_cv (pc' := 17) (cm := xm_Mo_also) (as := [.int 3, .int x1]) (a := 400) (rest := []) rfl rfl rfl  (xa_Mo_also (Nat.le_of_ble_eq_true rfl)) (show xS0 L 400 = (12, 0) from rfl) rfl (CV.k h fun g1 h => ?_)
    show Wp L xs xm_Mo_orderTold 17 [.ref 400, .int x1, .retAddr 0, .retAddr 0] [] g1 _
    exact h
theorem t_Mo_orderTold_17 {L : Nat} {xs : Nat → Int32} {x1 : Int32} {f : Hp} {Q : Hp → Prop}  (h : CI L xs xm_Mo_numbered [.ref 400, .int 0, .int 7] f (fun v1 g1 => CI L xs xm_Mo_numbered [.ref 400, .int 0, .int 99] g1 (fun v2 g2 => (((g2 403 4) < 10 → ∃ k1 : Nat, (13 + (2 * (g2 403 4))) = iN k1 ∧ k1 < 161 ∧ ∀ g3, g3 = xu g2 403 k1 v1 → ∃ k2 : Nat, (14 + (2 * (g3 403 4))) = iN k2 ∧ k2 < 161 ∧ ∀ g4, g4 = xu g3 403 k2 v2 → ∀ g5, g5 = xu g4 403 4 ((g4 403 4) + 1) → Q g5) ∧ (¬ (g2 403 4) < 10 → Q g2))))) : Wp L xs xm_Mo_orderTold 17 [.ref 400, .int x1, .retAddr 0, .retAddr 0] [] f (QV Q) := by
  refine w_aload_n (pc' := 18) rfl rfl rfl ?_
  refine w_iconst (pc' := 19) rfl rfl (v := 0) rfl ?_
  refine w_bipush (pc' := 21) rfl rfl (v := 7) rfl ?_
  refine w_cv (pc' := 24) (cm := xm_Mo_numbered) (as := [.int 0, .int 7]) (a := 400) (rest := []) rfl rfl rfl  (xa_Mo_numbered (Nat.le_of_ble_eq_true rfl)) (show xS0 L 400 = (12, 0) from rfl) rfl (CI.k h fun v1 g1 h => ?_)
  show Wp L xs xm_Mo_orderTold 24 [.ref 400, .int x1, .retAddr 0, .retAddr 0] [.int v1] g1 _
  refine w_istore_n (pc' := 25) rfl rfl (xl' := [.ref 400, .int x1, .int v1, .retAddr 0]) rfl ?_
  refine w_aload_n (pc' := 26) rfl rfl rfl ?_
  refine w_iconst (pc' := 27) rfl rfl (v := 0) rfl ?_
  refine w_bipush (pc' := 29) rfl rfl (v := 99) rfl ?_
  refine w_cv (pc' := 32) (cm := xm_Mo_numbered) (as := [.int 0, .int 99]) (a := 400) (rest := []) rfl rfl rfl  (xa_Mo_numbered (Nat.le_of_ble_eq_true rfl)) (show xS0 L 400 = (12, 0) from rfl) rfl (CI.k h fun v2 g2 h => ?_)
  show Wp L xs xm_Mo_orderTold 32 [.ref 400, .int x1, .int v1, .retAddr 0] [.int v2] g2 _
  refine w_istore_n (pc' := 33) rfl rfl (xl' := [.ref 400, .int x1, .int v1, .int v2]) rfl ?_
  refine w_aload_n (pc' := 34) rfl rfl rfl ?_
  have q1 : xR0 400 10 = some 403 ∧ xS0 L 403 = (20, 161) := (kf_12_10 (show xS0 L 400 = (12, 0) from rfl))
  refine w_getR (pc' := 37) rfl rfl rfl rfl (show xS0 L 400 = (12, 0) from rfl) q1.1 ?_
  refine w_iconst (pc' := 38) rfl rfl (v := 4) rfl ?_
  refine w_iaload (pc' := 39) (i := 4) rfl rfl q1.2 rfl (by omega) (by omega) ?_
  refine w_bipush (pc' := 41) rfl rfl (v := 10) rfl ?_
  refine w_br2 (pc' := 44) (t := 45) rfl rfl rfl ic_lt (fun hc => ?_) (fun hc => ?_)
  · replace h := h.1 hc
    refine w_aload_n (pc' := 46) rfl rfl rfl ?_
    have q2 : xR0 400 10 = some 403 ∧ xS0 L 403 = (20, 161) := (kf_12_10 (show xS0 L 400 = (12, 0) from rfl))
    refine w_getR (pc' := 49) rfl rfl rfl rfl (show xS0 L 400 = (12, 0) from rfl) q2.1 ?_
    refine w_bipush (pc' := 51) rfl rfl (v := 13) rfl ?_
    refine w_iconst (pc' := 52) rfl rfl (v := 2) rfl ?_
    refine w_aload_n (pc' := 53) rfl rfl rfl ?_
    have q3 : xR0 400 10 = some 403 ∧ xS0 L 403 = (20, 161) := (kf_12_10 (show xS0 L 400 = (12, 0) from rfl))
    refine w_getR (pc' := 56) rfl rfl rfl rfl (show xS0 L 400 = (12, 0) from rfl) q3.1 ?_
    refine w_iconst (pc' := 57) rfl rfl (v := 4) rfl ?_
    refine w_iaload (pc' := 58) (i := 4) rfl rfl q3.2 rfl (by omega) (by omega) ?_
    refine w_imul (pc' := 59) rfl rfl ?_
    refine w_iadd (pc' := 60) rfl rfl ?_
    refine w_iload_n (pc' := 61) rfl rfl rfl ?_
    obtain ⟨k1, ek1, bk1, h⟩ := h
    refine w_iastore (pc' := 62) (i := k1) rfl rfl q2.2 ek1 bk1 (by omega) ?_
    replace h := h _ rfl
    generalize xu g2 403 k1 v1 = g3 at h ⊢
    refine w_aload_n (pc' := 63) rfl rfl rfl ?_
    have q4 : xR0 400 10 = some 403 ∧ xS0 L 403 = (20, 161) := (kf_12_10 (show xS0 L 400 = (12, 0) from rfl))
    refine w_getR (pc' := 66) rfl rfl rfl rfl (show xS0 L 400 = (12, 0) from rfl) q4.1 ?_
    refine w_bipush (pc' := 68) rfl rfl (v := 14) rfl ?_
    refine w_iconst (pc' := 69) rfl rfl (v := 2) rfl ?_
    refine w_aload_n (pc' := 70) rfl rfl rfl ?_
    have q5 : xR0 400 10 = some 403 ∧ xS0 L 403 = (20, 161) := (kf_12_10 (show xS0 L 400 = (12, 0) from rfl))
    refine w_getR (pc' := 73) rfl rfl rfl rfl (show xS0 L 400 = (12, 0) from rfl) q5.1 ?_
    refine w_iconst (pc' := 74) rfl rfl (v := 4) rfl ?_
    refine w_iaload (pc' := 75) (i := 4) rfl rfl q5.2 rfl (by omega) (by omega) ?_
    refine w_imul (pc' := 76) rfl rfl ?_
    refine w_iadd (pc' := 77) rfl rfl ?_
    refine w_iload_n (pc' := 78) rfl rfl rfl ?_
    obtain ⟨k2, ek2, bk2, h⟩ := h
    refine w_iastore (pc' := 79) (i := k2) rfl rfl q4.2 ek2 bk2 (by omega) ?_
    replace h := h _ rfl
    generalize xu g3 403 k2 v2 = g4 at h ⊢
    refine w_aload_n (pc' := 80) rfl rfl rfl ?_
    have q6 : xR0 400 10 = some 403 ∧ xS0 L 403 = (20, 161) := (kf_12_10 (show xS0 L 400 = (12, 0) from rfl))
    refine w_getR (pc' := 83) rfl rfl rfl rfl (show xS0 L 400 = (12, 0) from rfl) q6.1 ?_
    refine w_iconst (pc' := 84) rfl rfl (v := 4) rfl ?_
    refine w_dup2 (pc' := 85) rfl rfl ?_
    refine w_iaload (pc' := 86) (i := 4) rfl rfl q6.2 rfl (by omega) (by omega) ?_
    refine w_iconst (pc' := 87) rfl rfl (v := 1) rfl ?_
    refine w_iadd (pc' := 88) rfl rfl ?_
    refine w_iastore (pc' := 89) (i := 4) rfl rfl q6.2 rfl (by omega) (by omega) ?_
    replace h := h _ rfl
    generalize xu g4 403 4 ((g4 403 4) + 1) = g5 at h ⊢
    exact w_return rfl rfl h
  · replace h := h.2 hc
    exact w_return rfl rfl h
theorem t_Mo_delayTold_0 {L : Nat} {xs : Nat → Int32}  {f : Hp} {Q : Hp → Prop}  (h : CI L xs xm_Mo_memberTold [.ref 400] f (fun v1 g1 => CI L xs xm_Mo_otherTold [.ref 400, .int v1] g1 (fun v2 g2 => CI L xs xm_Mo_numbered [.ref 400, .int 1, .int 9] g2 (fun v3 g3 => ∃ k1 : Nat, ((33 + (7 * v1)) + v2) = iN k1 ∧ k1 < 161 ∧ ∀ g4, g4 = xu g3 403 k1 v3 → ∃ k2 : Nat, ((33 + (7 * v2)) + v1) = iN k2 ∧ k2 < 161 ∧ ∀ g5, g5 = xu g4 403 k2 v3 → Q g5)))) : CV L xs xm_Mo_delayTold [.ref 400] f Q := by
  show Wp L xs xm_Mo_delayTold 0 [.ref 400, .retAddr 0, .retAddr 0, .retAddr 0] [] f (QV Q)
  refine w_aload_n (pc' := 1) rfl rfl rfl ?_
  refine w_cv (pc' := 4) (cm := xm_Mo_memberTold) (as := []) (a := 400) (rest := []) rfl rfl rfl  (xa_Mo_memberTold (Nat.le_of_ble_eq_true rfl)) (show xS0 L 400 = (12, 0) from rfl) rfl (CI.k h fun v1 g1 h => ?_)
  show Wp L xs xm_Mo_delayTold 4 [.ref 400, .retAddr 0, .retAddr 0, .retAddr 0] [.int v1] g1 _
  refine w_istore_n (pc' := 5) rfl rfl (xl' := [.ref 400, .int v1, .retAddr 0, .retAddr 0]) rfl ?_
  refine w_aload_n (pc' := 6) rfl rfl rfl ?_
  refine w_iload_n (pc' := 7) rfl rfl rfl ?_
  refine w_cv (pc' := 10) (cm := xm_Mo_otherTold) (as := [.int v1]) (a := 400) (rest := []) rfl rfl rfl  (xa_Mo_otherTold (Nat.le_of_ble_eq_true rfl)) (show xS0 L 400 = (12, 0) from rfl) rfl (CI.k h fun v2 g2 h => ?_)
  show Wp L xs xm_Mo_delayTold 10 [.ref 400, .int v1, .retAddr 0, .retAddr 0] [.int v2] g2 _
  refine w_istore_n (pc' := 11) rfl rfl (xl' := [.ref 400, .int v1, .int v2, .retAddr 0]) rfl ?_
  refine w_aload_n (pc' := 12) rfl rfl rfl ?_
  refine w_iconst (pc' := 13) rfl rfl (v := 1) rfl ?_
  refine w_bipush (pc' := 15) rfl rfl (v := 9) rfl ?_
  refine w_cv (pc' := 18) (cm := xm_Mo_numbered) (as := [.int 1, .int 9]) (a := 400) (rest := []) rfl rfl rfl  (xa_Mo_numbered (Nat.le_of_ble_eq_true rfl)) (show xS0 L 400 = (12, 0) from rfl) rfl (CI.k h fun v3 g3 h => ?_)
  show Wp L xs xm_Mo_delayTold 18 [.ref 400, .int v1, .int v2, .retAddr 0] [.int v3] g3 _
  refine w_istore_n (pc' := 19) rfl rfl (xl' := [.ref 400, .int v1, .int v2, .int v3]) rfl ?_
  refine w_aload_n (pc' := 20) rfl rfl rfl ?_
  have q1 : xR0 400 10 = some 403 ∧ xS0 L 403 = (20, 161) := (kf_12_10 (show xS0 L 400 = (12, 0) from rfl))
  refine w_getR (pc' := 23) rfl rfl rfl rfl (show xS0 L 400 = (12, 0) from rfl) q1.1 ?_
  refine w_bipush (pc' := 25) rfl rfl (v := 33) rfl ?_
  refine w_bipush (pc' := 27) rfl rfl (v := 7) rfl ?_
  refine w_iload_n (pc' := 28) rfl rfl rfl ?_
  refine w_imul (pc' := 29) rfl rfl ?_
  refine w_iadd (pc' := 30) rfl rfl ?_
  refine w_iload_n (pc' := 31) rfl rfl rfl ?_
  refine w_iadd (pc' := 32) rfl rfl ?_
  refine w_iload_n (pc' := 33) rfl rfl rfl ?_
  obtain ⟨k1, ek1, bk1, h⟩ := h
  refine w_iastore (pc' := 34) (i := k1) rfl rfl q1.2 ek1 bk1 (by omega) ?_
  replace h := h _ rfl
  generalize xu g3 403 k1 v3 = g4 at h ⊢
  refine w_aload_n (pc' := 35) rfl rfl rfl ?_
  have q2 : xR0 400 10 = some 403 ∧ xS0 L 403 = (20, 161) := (kf_12_10 (show xS0 L 400 = (12, 0) from rfl))
  refine w_getR (pc' := 38) rfl rfl rfl rfl (show xS0 L 400 = (12, 0) from rfl) q2.1 ?_
  refine w_bipush (pc' := 40) rfl rfl (v := 33) rfl ?_
  refine w_bipush (pc' := 42) rfl rfl (v := 7) rfl ?_
  refine w_iload_n (pc' := 43) rfl rfl rfl ?_
  refine w_imul (pc' := 44) rfl rfl ?_
  refine w_iadd (pc' := 45) rfl rfl ?_
  refine w_iload_n (pc' := 46) rfl rfl rfl ?_
  refine w_iadd (pc' := 47) rfl rfl ?_
  refine w_iload_n (pc' := 48) rfl rfl rfl ?_
  obtain ⟨k2, ek2, bk2, h⟩ := h
  refine w_iastore (pc' := 49) (i := k2) rfl rfl q2.2 ek2 bk2 (by omega) ?_
  replace h := h _ rfl
  generalize xu g4 403 k2 v3 = g5 at h ⊢
  exact w_return rfl rfl h
theorem t_Mo_otherTold_0 {L : Nat} {xs : Nat → Int32} {x1 : Int32} {f : Hp} {Q : Int32 → Hp → Prop}  (h : (((f 400 8) = 0 → (((f 400 5) = 1 → (((f 400 6) = x1 → CV L xs xm_Mo_also [.ref 400, .int 2, .int (f 400 4)] f (fun g4 => CI L xs xm_Mo_memberTold [.ref 400] g4 (fun v4 g5 => Q v4 g5))) ∧ (¬ (f 400 6) = x1 → CI L xs xm_Mo_memberTold [.ref 400] f (fun v3 g3 => Q v3 g3)))) ∧ (¬ (f 400 5) = 1 → CI L xs xm_Mo_memberTold [.ref 400] f (fun v2 g2 => Q v2 g2)))) ∧ (¬ (f 400 8) = 0 → CI L xs xm_Mo_memberTold [.ref 400] f (fun v1 g1 => Q v1 g1)))) : CI L xs xm_Mo_otherTold [.ref 400, .int x1] f Q := by
  show Wp L xs xm_Mo_otherTold 0 [.ref 400, .int x1] [] f (QI Q)
  refine w_aload_n (pc' := 1) rfl rfl rfl ?_
  refine w_getI (pc' := 4) rfl rfl rfl rfl rfl (show xS0 L 400 = (12, 0) from rfl) ?_
  refine w_br (pc' := 7) (t := 32) rfl rfl rfl ic_ne (fun hc => ?_) (fun hc => ?_)
  · replace h := h.2 hc
    refine w_aload_n (pc' := 33) rfl rfl rfl ?_
    refine w_cv (pc' := 36) (cm := xm_Mo_memberTold) (as := []) (a := 400) (rest := []) rfl rfl rfl  (xa_Mo_memberTold (Nat.le_of_ble_eq_true rfl)) (show xS0 L 400 = (12, 0) from rfl) rfl (CI.k h fun v1 g1 h => ?_)
    show Wp L xs xm_Mo_otherTold 36 [.ref 400, .int x1] [.int v1] g1 _
    exact w_ireturn rfl rfl h
  · replace h := h.1 (Classical.not_not.mp hc)
    refine w_aload_n (pc' := 8) rfl rfl rfl ?_
    refine w_getI (pc' := 11) rfl rfl rfl rfl rfl (show xS0 L 400 = (12, 0) from rfl) ?_
    refine w_iconst (pc' := 12) rfl rfl (v := 1) rfl ?_
    refine w_br2 (pc' := 15) (t := 32) rfl rfl rfl ic_ne (fun hc => ?_) (fun hc => ?_)
    · replace h := h.2 hc
      refine w_aload_n (pc' := 33) rfl rfl rfl ?_
      refine w_cv (pc' := 36) (cm := xm_Mo_memberTold) (as := []) (a := 400) (rest := []) rfl rfl rfl  (xa_Mo_memberTold (Nat.le_of_ble_eq_true rfl)) (show xS0 L 400 = (12, 0) from rfl) rfl (CI.k h fun v2 g2 h => ?_)
      show Wp L xs xm_Mo_otherTold 36 [.ref 400, .int x1] [.int v2] g2 _
      exact w_ireturn rfl rfl h
    · replace h := h.1 (Classical.not_not.mp hc)
      refine w_aload_n (pc' := 16) rfl rfl rfl ?_
      refine w_getI (pc' := 19) rfl rfl rfl rfl rfl (show xS0 L 400 = (12, 0) from rfl) ?_
      refine w_iload_n (pc' := 20) rfl rfl rfl ?_
      refine w_br2 (pc' := 23) (t := 32) rfl rfl rfl ic_ne (fun hc => ?_) (fun hc => ?_)
      · replace h := h.2 hc
        refine w_aload_n (pc' := 33) rfl rfl rfl ?_
        refine w_cv (pc' := 36) (cm := xm_Mo_memberTold) (as := []) (a := 400) (rest := []) rfl rfl rfl  (xa_Mo_memberTold (Nat.le_of_ble_eq_true rfl)) (show xS0 L 400 = (12, 0) from rfl) rfl (CI.k h fun v3 g3 h => ?_)
        show Wp L xs xm_Mo_otherTold 36 [.ref 400, .int x1] [.int v3] g3 _
        exact w_ireturn rfl rfl h
      · replace h := h.1 (Classical.not_not.mp hc)
        refine w_aload_n (pc' := 24) rfl rfl rfl ?_
        refine w_iconst (pc' := 25) rfl rfl (v := 2) rfl ?_
        refine w_aload_n (pc' := 26) rfl rfl rfl ?_
        refine w_getI (pc' := 29) rfl rfl rfl rfl rfl (show xS0 L 400 = (12, 0) from rfl) ?_
        refine w_cv (pc' := 32) (cm := xm_Mo_also) (as := [.int 2, .int (f 400 4)]) (a := 400) (rest := []) rfl rfl rfl  (xa_Mo_also (Nat.le_of_ble_eq_true rfl)) (show xS0 L 400 = (12, 0) from rfl) rfl (CV.k h fun g4 h => ?_)
        show Wp L xs xm_Mo_otherTold 32 [.ref 400, .int x1] [] g4 _
        refine w_aload_n (pc' := 33) rfl rfl rfl ?_
        refine w_cv (pc' := 36) (cm := xm_Mo_memberTold) (as := []) (a := 400) (rest := []) rfl rfl rfl  (xa_Mo_memberTold (Nat.le_of_ble_eq_true rfl)) (show xS0 L 400 = (12, 0) from rfl) rfl (CI.k h fun v4 g5 h => ?_)
        show Wp L xs xm_Mo_otherTold 36 [.ref 400, .int x1] [.int v4] g5 _
        exact w_ireturn rfl rfl h
theorem t_Mo_endsLine_0 {L : Nat} {xs : Nat → Int32}  {f : Hp} {Q : Hp → Prop}  (h : (((f 400 8) = 0 → (((f 400 5) = 2 → CV L xs xm_Mo_advance [.ref 400] f (fun g3 => Q g3)) ∧ (¬ (f 400 5) = 2 → CV L xs xm_Mo_ends [.ref 400] f (fun g2 => Q g2)))) ∧ (¬ (f 400 8) = 0 → CV L xs xm_Mo_ends [.ref 400] f (fun g1 => Q g1)))) : CV L xs xm_Mo_endsLine [.ref 400] f Q := by
  show Wp L xs xm_Mo_endsLine 0 [.ref 400] [] f (QV Q)
  refine w_aload_n (pc' := 1) rfl rfl rfl ?_
  refine w_getI (pc' := 4) rfl rfl rfl rfl rfl (show xS0 L 400 = (12, 0) from rfl) ?_
  refine w_br (pc' := 7) (t := 22) rfl rfl rfl ic_ne (fun hc => ?_) (fun hc => ?_)
  · replace h := h.2 hc
    refine w_aload_n (pc' := 23) rfl rfl rfl ?_
    refine w_cv (pc' := 26) (cm := xm_Mo_ends) (as := []) (a := 400) (rest := []) rfl rfl rfl  (xa_Mo_ends (Nat.le_of_ble_eq_true rfl)) (show xS0 L 400 = (12, 0) from rfl) rfl (CV.k h fun g1 h => ?_)
    show Wp L xs xm_Mo_endsLine 26 [.ref 400] [] g1 _
    exact w_return rfl rfl h
  · replace h := h.1 (Classical.not_not.mp hc)
    refine w_aload_n (pc' := 8) rfl rfl rfl ?_
    refine w_getI (pc' := 11) rfl rfl rfl rfl rfl (show xS0 L 400 = (12, 0) from rfl) ?_
    refine w_iconst (pc' := 12) rfl rfl (v := 2) rfl ?_
    refine w_br2 (pc' := 15) (t := 22) rfl rfl rfl ic_ne (fun hc => ?_) (fun hc => ?_)
    · replace h := h.2 hc
      refine w_aload_n (pc' := 23) rfl rfl rfl ?_
      refine w_cv (pc' := 26) (cm := xm_Mo_ends) (as := []) (a := 400) (rest := []) rfl rfl rfl  (xa_Mo_ends (Nat.le_of_ble_eq_true rfl)) (show xS0 L 400 = (12, 0) from rfl) rfl (CV.k h fun g2 h => ?_)
      show Wp L xs xm_Mo_endsLine 26 [.ref 400] [] g2 _
      exact w_return rfl rfl h
    · replace h := h.1 (Classical.not_not.mp hc)
      refine w_aload_n (pc' := 16) rfl rfl rfl ?_
      refine w_cv (pc' := 19) (cm := xm_Mo_advance) (as := []) (a := 400) (rest := []) rfl rfl rfl  (xa_Mo_advance (Nat.le_of_ble_eq_true rfl)) (show xS0 L 400 = (12, 0) from rfl) rfl (CV.k h fun g3 h => ?_)
      show Wp L xs xm_Mo_endsLine 19 [.ref 400] [] g3 _
      refine w_goto (pc' := 26) rfl rfl ?_
      exact w_return rfl rfl h
theorem t_Mo_runLine_0 {L : Nat} {xs : Nat → Int32}  {f : Hp} {Q : Hp → Prop}  (h : CI L xs xm_Mo_wordIn [.ref 400, .int 8, .int 16] f (fun v1 g1 => (((g1 400 8) = 0 → (((g1 403 0) < 40 → Wp L xs xm_Mo_runLine 41 [.ref 400, .int (f 400 4), .int (v1 - 8), .retAddr 0, .retAddr 0, .retAddr 0, .retAddr 0] [] g1 (QV Q)) ∧ (¬ (g1 403 0) < 40 → CV L xs xm_Mo_also [.ref 400, .int 3, .int (f 400 4)] g1 (fun g2 => Wp L xs xm_Mo_runLine 41 [.ref 400, .int (f 400 4), .int (v1 - 8), .retAddr 0, .retAddr 0, .retAddr 0, .retAddr 0] [] g2 (QV Q))))) ∧ (¬ (g1 400 8) = 0 → Wp L xs xm_Mo_runLine 41 [.ref 400, .int (f 400 4), .int (v1 - 8), .retAddr 0, .retAddr 0, .retAddr 0, .retAddr 0] [] g1 (QV Q))))) : CV L xs xm_Mo_runLine [.ref 400] f Q := by
  show Wp L xs xm_Mo_runLine 0 [.ref 400, .retAddr 0, .retAddr 0, .retAddr 0, .retAddr 0, .retAddr 0, .retAddr 0] [] f (QV Q)
  refine w_aload_n (pc' := 1) rfl rfl rfl ?_
  refine w_getI (pc' := 4) rfl rfl rfl rfl rfl (show xS0 L 400 = (12, 0) from rfl) ?_
  refine w_istore_n (pc' := 5) rfl rfl (xl' := [.ref 400, .int (f 400 4), .retAddr 0, .retAddr 0, .retAddr 0, .retAddr 0, .retAddr 0]) rfl ?_
  refine w_aload_n (pc' := 6) rfl rfl rfl ?_
  refine w_bipush (pc' := 8) rfl rfl (v := 8) rfl ?_
  refine w_bipush (pc' := 10) rfl rfl (v := 16) rfl ?_
  refine w_cv (pc' := 13) (cm := xm_Mo_wordIn) (as := [.int 8, .int 16]) (a := 400) (rest := []) rfl rfl rfl  (xa_Mo_wordIn (Nat.le_of_ble_eq_true rfl)) (show xS0 L 400 = (12, 0) from rfl) rfl (CI.k h fun v1 g1 h => ?_)
  show Wp L xs xm_Mo_runLine 13 [.ref 400, .int (f 400 4), .retAddr 0, .retAddr 0, .retAddr 0, .retAddr 0, .retAddr 0] [.int v1] g1 _
  refine w_bipush (pc' := 15) rfl rfl (v := 8) rfl ?_
  refine w_isub (pc' := 16) rfl rfl ?_
  refine w_istore_n (pc' := 17) rfl rfl (xl' := [.ref 400, .int (f 400 4), .int (v1 - 8), .retAddr 0, .retAddr 0, .retAddr 0, .retAddr 0]) rfl ?_
  refine w_aload_n (pc' := 18) rfl rfl rfl ?_
  refine w_getI (pc' := 21) rfl rfl rfl rfl rfl (show xS0 L 400 = (12, 0) from rfl) ?_
  refine w_br (pc' := 24) (t := 41) rfl rfl rfl ic_ne (fun hc => ?_) (fun hc => ?_)
  · replace h := h.2 hc
    exact h
  · replace h := h.1 (Classical.not_not.mp hc)
    refine w_aload_n (pc' := 25) rfl rfl rfl ?_
    have q1 : xR0 400 10 = some 403 ∧ xS0 L 403 = (20, 161) := (kf_12_10 (show xS0 L 400 = (12, 0) from rfl))
    refine w_getR (pc' := 28) rfl rfl rfl rfl (show xS0 L 400 = (12, 0) from rfl) q1.1 ?_
    refine w_iconst (pc' := 29) rfl rfl (v := 0) rfl ?_
    refine w_iaload (pc' := 30) (i := 0) rfl rfl q1.2 rfl (by omega) (by omega) ?_
    refine w_bipush (pc' := 32) rfl rfl (v := 40) rfl ?_
    refine w_br2 (pc' := 35) (t := 41) rfl rfl rfl ic_lt (fun hc => ?_) (fun hc => ?_)
    · replace h := h.1 hc
      exact h
    · replace h := h.2 hc
      refine w_aload_n (pc' := 36) rfl rfl rfl ?_
      refine w_iconst (pc' := 37) rfl rfl (v := 3) rfl ?_
      refine w_iload_n (pc' := 38) rfl rfl rfl ?_
      refine w_cv (pc' := 41) (cm := xm_Mo_also) (as := [.int 3, .int (f 400 4)]) (a := 400) (rest := []) rfl rfl rfl  (xa_Mo_also (Nat.le_of_ble_eq_true rfl)) (show xS0 L 400 = (12, 0) from rfl) rfl (CV.k h fun g2 h => ?_)
      show Wp L xs xm_Mo_runLine 41 [.ref 400, .int (f 400 4), .int (v1 - 8), .retAddr 0, .retAddr 0, .retAddr 0, .retAddr 0] [] g2 _
      exact h
theorem t_Mo_runLine_41 {L : Nat} {xs : Nat → Int32} {x1 : Int32} {x2 : Int32} {f : Hp} {Q : Hp → Prop}  (h : CI L xs xm_Mo_numbered [.ref 400, .int 0, .int 6] f (fun v1 g1 => ((x2 = 0 → CI L xs xm_Mo_numbered [.ref 400, .int 1, .int 12] g1 (fun v6 g6 => Wp L xs xm_Mo_runLine 92 [.ref 400, .int x1, .int x2, .int v1, .retAddr 0, .retAddr 0, .retAddr 0] [.int v6] g6 (QV Q))) ∧ (¬ x2 = 0 → ((x2 = 1 → CI L xs xm_Mo_otherTold [.ref 400, .int v1] g1 (fun v2 g2 => Wp L xs xm_Mo_runLine 92 [.ref 400, .int x1, .int x2, .int v1, .retAddr 0, .retAddr 0, .retAddr 0] [.int v2] g2 (QV Q))) ∧ (¬ x2 = 1 → ((x2 = 2 → CI L xs xm_Mo_otherTold [.ref 400, .int v1] g1 (fun v3 g3 => Wp L xs xm_Mo_runLine 92 [.ref 400, .int x1, .int x2, .int v1, .retAddr 0, .retAddr 0, .retAddr 0] [.int v3] g3 (QV Q))) ∧ (¬ x2 = 2 → ((x2 = 4 → CI L xs xm_Mo_otherTold [.ref 400, .int v1] g1 (fun v4 g4 => Wp L xs xm_Mo_runLine 92 [.ref 400, .int x1, .int x2, .int v1, .retAddr 0, .retAddr 0, .retAddr 0] [.int v4] g4 (QV Q))) ∧ (¬ x2 = 4 → ((x2 = 5 → CI L xs xm_Mo_otherTold [.ref 400, .int v1] g1 (fun v5 g5 => Wp L xs xm_Mo_runLine 92 [.ref 400, .int x1, .int x2, .int v1, .retAddr 0, .retAddr 0, .retAddr 0] [.int v5] g5 (QV Q))) ∧ (¬ x2 = 5 → Wp L xs xm_Mo_runLine 92 [.ref 400, .int x1, .int x2, .int v1, .retAddr 0, .retAddr 0, .retAddr 0] [.int (-1)] g1 (QV Q))))))))))))) : Wp L xs xm_Mo_runLine 41 [.ref 400, .int x1, .int x2, .retAddr 0, .retAddr 0, .retAddr 0, .retAddr 0] [] f (QV Q) := by
  refine w_aload_n (pc' := 42) rfl rfl rfl ?_
  refine w_iconst (pc' := 43) rfl rfl (v := 0) rfl ?_
  refine w_bipush (pc' := 45) rfl rfl (v := 6) rfl ?_
  refine w_cv (pc' := 48) (cm := xm_Mo_numbered) (as := [.int 0, .int 6]) (a := 400) (rest := []) rfl rfl rfl  (xa_Mo_numbered (Nat.le_of_ble_eq_true rfl)) (show xS0 L 400 = (12, 0) from rfl) rfl (CI.k h fun v1 g1 h => ?_)
  show Wp L xs xm_Mo_runLine 48 [.ref 400, .int x1, .int x2, .retAddr 0, .retAddr 0, .retAddr 0, .retAddr 0] [.int v1] g1 _
  refine w_istore_n (pc' := 49) rfl rfl (xl' := [.ref 400, .int x1, .int x2, .int v1, .retAddr 0, .retAddr 0, .retAddr 0]) rfl ?_
  refine w_iload_n (pc' := 50) rfl rfl rfl ?_
  refine w_br (pc' := 53) (t := 63) rfl rfl rfl ic_ne (fun hc => ?_) (fun hc => ?_)
  · replace h := h.2 hc
    refine w_iload_n (pc' := 64) rfl rfl rfl ?_
    refine w_iconst (pc' := 65) rfl rfl (v := 1) rfl ?_
    refine w_br2 (pc' := 68) (t := 83) rfl rfl rfl ic_eq (fun hc => ?_) (fun hc => ?_)
    · replace h := h.1 hc
      refine w_aload_n (pc' := 84) rfl rfl rfl ?_
      refine w_iload_n (pc' := 85) rfl rfl rfl ?_
      refine w_cv (pc' := 88) (cm := xm_Mo_otherTold) (as := [.int v1]) (a := 400) (rest := []) rfl rfl rfl  (xa_Mo_otherTold (Nat.le_of_ble_eq_true rfl)) (show xS0 L 400 = (12, 0) from rfl) rfl (CI.k h fun v2 g2 h => ?_)
      show Wp L xs xm_Mo_runLine 88 [.ref 400, .int x1, .int x2, .int v1, .retAddr 0, .retAddr 0, .retAddr 0] [.int v2] g2 _
      refine w_goto (pc' := 92) rfl rfl ?_
      exact h
    · replace h := h.2 hc
      refine w_iload_n (pc' := 69) rfl rfl rfl ?_
      refine w_iconst (pc' := 70) rfl rfl (v := 2) rfl ?_
      refine w_br2 (pc' := 73) (t := 83) rfl rfl rfl ic_eq (fun hc => ?_) (fun hc => ?_)
      · replace h := h.1 hc
        refine w_aload_n (pc' := 84) rfl rfl rfl ?_
        refine w_iload_n (pc' := 85) rfl rfl rfl ?_
        refine w_cv (pc' := 88) (cm := xm_Mo_otherTold) (as := [.int v1]) (a := 400) (rest := []) rfl rfl rfl  (xa_Mo_otherTold (Nat.le_of_ble_eq_true rfl)) (show xS0 L 400 = (12, 0) from rfl) rfl (CI.k h fun v3 g3 h => ?_)
        show Wp L xs xm_Mo_runLine 88 [.ref 400, .int x1, .int x2, .int v1, .retAddr 0, .retAddr 0, .retAddr 0] [.int v3] g3 _
        refine w_goto (pc' := 92) rfl rfl ?_
        exact h
      · replace h := h.2 hc
        refine w_iload_n (pc' := 74) rfl rfl rfl ?_
        refine w_iconst (pc' := 75) rfl rfl (v := 4) rfl ?_
        refine w_br2 (pc' := 78) (t := 83) rfl rfl rfl ic_eq (fun hc => ?_) (fun hc => ?_)
        · replace h := h.1 hc
          refine w_aload_n (pc' := 84) rfl rfl rfl ?_
          refine w_iload_n (pc' := 85) rfl rfl rfl ?_
          refine w_cv (pc' := 88) (cm := xm_Mo_otherTold) (as := [.int v1]) (a := 400) (rest := []) rfl rfl rfl  (xa_Mo_otherTold (Nat.le_of_ble_eq_true rfl)) (show xS0 L 400 = (12, 0) from rfl) rfl (CI.k h fun v4 g4 h => ?_)
          show Wp L xs xm_Mo_runLine 88 [.ref 400, .int x1, .int x2, .int v1, .retAddr 0, .retAddr 0, .retAddr 0] [.int v4] g4 _
          refine w_goto (pc' := 92) rfl rfl ?_
          exact h
        · replace h := h.2 hc
          refine w_iload_n (pc' := 79) rfl rfl rfl ?_
          refine w_iconst (pc' := 80) rfl rfl (v := 5) rfl ?_
          refine w_br2 (pc' := 83) (t := 91) rfl rfl rfl ic_ne (fun hc => ?_) (fun hc => ?_)
          · replace h := h.2 hc
            refine w_iconst (pc' := 92) rfl rfl (v := (-1)) rfl ?_
            exact h
          · replace h := h.1 (Classical.not_not.mp hc)
            refine w_aload_n (pc' := 84) rfl rfl rfl ?_
            refine w_iload_n (pc' := 85) rfl rfl rfl ?_
            refine w_cv (pc' := 88) (cm := xm_Mo_otherTold) (as := [.int v1]) (a := 400) (rest := []) rfl rfl rfl  (xa_Mo_otherTold (Nat.le_of_ble_eq_true rfl)) (show xS0 L 400 = (12, 0) from rfl) rfl (CI.k h fun v5 g5 h => ?_)
            show Wp L xs xm_Mo_runLine 88 [.ref 400, .int x1, .int x2, .int v1, .retAddr 0, .retAddr 0, .retAddr 0] [.int v5] g5 _
            refine w_goto (pc' := 92) rfl rfl ?_
            exact h
  · replace h := h.1 (Classical.not_not.mp hc)
    refine w_aload_n (pc' := 54) rfl rfl rfl ?_
    refine w_iconst (pc' := 55) rfl rfl (v := 1) rfl ?_
    refine w_bipush (pc' := 57) rfl rfl (v := 12) rfl ?_
    refine w_cv (pc' := 60) (cm := xm_Mo_numbered) (as := [.int 1, .int 12]) (a := 400) (rest := []) rfl rfl rfl  (xa_Mo_numbered (Nat.le_of_ble_eq_true rfl)) (show xS0 L 400 = (12, 0) from rfl) rfl (CI.k h fun v6 g6 h => ?_)
    show Wp L xs xm_Mo_runLine 60 [.ref 400, .int x1, .int x2, .int v1, .retAddr 0, .retAddr 0, .retAddr 0] [.int v6] g6 _
    refine w_goto (pc' := 92) rfl rfl ?_
    exact h
theorem t_Mo_runLine_92 {L : Nat} {xs : Nat → Int32} {x1 : Int32} {x2 : Int32} {x3 : Int32} {s0 : Int32} {f : Hp} {Q : Hp → Prop}  (h : ((x2 = 0 → CI L xs xm_Mo_numbered [.ref 400, .int 0, .int 9] f (fun v3 g3 => Wp L xs xm_Mo_runLine 129 [.ref 400, .int x1, .int x2, .int x3, .int s0, .retAddr 0, .retAddr 0] [.int v3] g3 (QV Q))) ∧ (¬ x2 = 0 → ((x2 = 1 → CI L xs xm_Mo_numbered [.ref 400, .int 1, .int 12] f (fun v1 g1 => Wp L xs xm_Mo_runLine 129 [.ref 400, .int x1, .int x2, .int x3, .int s0, .retAddr 0, .retAddr 0] [.int v1] g1 (QV Q))) ∧ (¬ x2 = 1 → ((x2 = 2 → CI L xs xm_Mo_numbered [.ref 400, .int 1, .int 12] f (fun v2 g2 => Wp L xs xm_Mo_runLine 129 [.ref 400, .int x1, .int x2, .int x3, .int s0, .retAddr 0, .retAddr 0] [.int v2] g2 (QV Q))) ∧ (¬ x2 = 2 → Wp L xs xm_Mo_runLine 129 [.ref 400, .int x1, .int x2, .int x3, .int s0, .retAddr 0, .retAddr 0] [.int (-1)] f (QV Q)))))))) : Wp L xs xm_Mo_runLine 92 [.ref 400, .int x1, .int x2, .int x3, .retAddr 0, .retAddr 0, .retAddr 0] [.int s0] f (QV Q) := by
  refine w_istore (pc' := 94) rfl rfl (xl' := [.ref 400, .int x1, .int x2, .int x3, .int s0, .retAddr 0, .retAddr 0]) rfl ?_
  refine w_iload_n (pc' := 95) rfl rfl rfl ?_
  refine w_br (pc' := 98) (t := 108) rfl rfl rfl ic_ne (fun hc => ?_) (fun hc => ?_)
  · replace h := h.2 hc
    refine w_iload_n (pc' := 109) rfl rfl rfl ?_
    refine w_iconst (pc' := 110) rfl rfl (v := 1) rfl ?_
    refine w_br2 (pc' := 113) (t := 118) rfl rfl rfl ic_eq (fun hc => ?_) (fun hc => ?_)
    · replace h := h.1 hc
      refine w_aload_n (pc' := 119) rfl rfl rfl ?_
      refine w_iconst (pc' := 120) rfl rfl (v := 1) rfl ?_
      refine w_bipush (pc' := 122) rfl rfl (v := 12) rfl ?_
      refine w_cv (pc' := 125) (cm := xm_Mo_numbered) (as := [.int 1, .int 12]) (a := 400) (rest := []) rfl rfl rfl  (xa_Mo_numbered (Nat.le_of_ble_eq_true rfl)) (show xS0 L 400 = (12, 0) from rfl) rfl (CI.k h fun v1 g1 h => ?_)
      show Wp L xs xm_Mo_runLine 125 [.ref 400, .int x1, .int x2, .int x3, .int s0, .retAddr 0, .retAddr 0] [.int v1] g1 _
      refine w_goto (pc' := 129) rfl rfl ?_
      exact h
    · replace h := h.2 hc
      refine w_iload_n (pc' := 114) rfl rfl rfl ?_
      refine w_iconst (pc' := 115) rfl rfl (v := 2) rfl ?_
      refine w_br2 (pc' := 118) (t := 128) rfl rfl rfl ic_ne (fun hc => ?_) (fun hc => ?_)
      · replace h := h.2 hc
        refine w_iconst (pc' := 129) rfl rfl (v := (-1)) rfl ?_
        exact h
      · replace h := h.1 (Classical.not_not.mp hc)
        refine w_aload_n (pc' := 119) rfl rfl rfl ?_
        refine w_iconst (pc' := 120) rfl rfl (v := 1) rfl ?_
        refine w_bipush (pc' := 122) rfl rfl (v := 12) rfl ?_
        refine w_cv (pc' := 125) (cm := xm_Mo_numbered) (as := [.int 1, .int 12]) (a := 400) (rest := []) rfl rfl rfl  (xa_Mo_numbered (Nat.le_of_ble_eq_true rfl)) (show xS0 L 400 = (12, 0) from rfl) rfl (CI.k h fun v2 g2 h => ?_)
        show Wp L xs xm_Mo_runLine 125 [.ref 400, .int x1, .int x2, .int x3, .int s0, .retAddr 0, .retAddr 0] [.int v2] g2 _
        refine w_goto (pc' := 129) rfl rfl ?_
        exact h
  · replace h := h.1 (Classical.not_not.mp hc)
    refine w_aload_n (pc' := 99) rfl rfl rfl ?_
    refine w_iconst (pc' := 100) rfl rfl (v := 0) rfl ?_
    refine w_bipush (pc' := 102) rfl rfl (v := 9) rfl ?_
    refine w_cv (pc' := 105) (cm := xm_Mo_numbered) (as := [.int 0, .int 9]) (a := 400) (rest := []) rfl rfl rfl  (xa_Mo_numbered (Nat.le_of_ble_eq_true rfl)) (show xS0 L 400 = (12, 0) from rfl) rfl (CI.k h fun v3 g3 h => ?_)
    show Wp L xs xm_Mo_runLine 105 [.ref 400, .int x1, .int x2, .int x3, .int s0, .retAddr 0, .retAddr 0] [.int v3] g3 _
    refine w_goto (pc' := 129) rfl rfl ?_
    exact h
theorem t_Mo_runLine_129 {L : Nat} {xs : Nat → Int32} {x1 : Int32} {x2 : Int32} {x3 : Int32} {x4 : Int32} {s0 : Int32} {f : Hp} {Q : Hp → Prop}  (h : (((f 403 0) < 40 → ∃ k1 : Nat, (1 + (4 * (f 403 0))) = iN k1 ∧ k1 < 161 ∧ ∀ g2, g2 = xu f 403 k1 x2 → ∃ k2 : Nat, ((1 + (4 * (f 403 0))) + 1) = iN k2 ∧ k2 < 161 ∧ ∀ g3, g3 = xu g2 403 k2 x3 → ∃ k3 : Nat, ((1 + (4 * (f 403 0))) + 2) = iN k3 ∧ k3 < 161 ∧ ∀ g4, g4 = xu g3 403 k3 x4 → ∃ k4 : Nat, ((1 + (4 * (f 403 0))) + 3) = iN k4 ∧ k4 < 161 ∧ ∀ g5, g5 = xu g4 403 k4 s0 → ∀ g6, g6 = xu g5 403 0 ((g5 403 0) + 1) → CV L xs xm_Mo_endsLine [.ref 400] g6 (fun g7 => Q g7)) ∧ (¬ (f 403 0) < 40 → CV L xs xm_Mo_endsLine [.ref 400] f (fun g1 => Q g1)))) : Wp L xs xm_Mo_runLine 129 [.ref 400, .int x1, .int x2, .int x3, .int x4, .retAddr 0, .retAddr 0] [.int s0] f (QV Q) := by
  refine w_istore (pc' := 131) rfl rfl (xl' := [.ref 400, .int x1, .int x2, .int x3, .int x4, .int s0, .retAddr 0]) rfl ?_
  refine w_aload_n (pc' := 132) rfl rfl rfl ?_
  have q1 : xR0 400 10 = some 403 ∧ xS0 L 403 = (20, 161) := (kf_12_10 (show xS0 L 400 = (12, 0) from rfl))
  refine w_getR (pc' := 135) rfl rfl rfl rfl (show xS0 L 400 = (12, 0) from rfl) q1.1 ?_
  refine w_iconst (pc' := 136) rfl rfl (v := 0) rfl ?_
  refine w_iaload (pc' := 137) (i := 0) rfl rfl q1.2 rfl (by omega) (by omega) ?_
  refine w_bipush (pc' := 139) rfl rfl (v := 40) rfl ?_
  refine w_br2 (pc' := 142) (t := 204) rfl rfl rfl ic_ge (fun hc => ?_) (fun hc => ?_)
  · replace h := h.2 hc
    refine w_aload_n (pc' := 205) rfl rfl rfl ?_
    refine w_cv (pc' := 208) (cm := xm_Mo_endsLine) (as := []) (a := 400) (rest := []) rfl rfl rfl  (xa_Mo_endsLine (Nat.le_of_ble_eq_true rfl)) (show xS0 L 400 = (12, 0) from rfl) rfl (CV.k h fun g1 h => ?_)
    show Wp L xs xm_Mo_runLine 208 [.ref 400, .int x1, .int x2, .int x3, .int x4, .int s0, .retAddr 0] [] g1 _
    exact w_return rfl rfl h
  · replace h := h.1 (Classical.not_not.mp hc)
    refine w_iconst (pc' := 143) rfl rfl (v := 1) rfl ?_
    refine w_iconst (pc' := 144) rfl rfl (v := 4) rfl ?_
    refine w_aload_n (pc' := 145) rfl rfl rfl ?_
    have q2 : xR0 400 10 = some 403 ∧ xS0 L 403 = (20, 161) := (kf_12_10 (show xS0 L 400 = (12, 0) from rfl))
    refine w_getR (pc' := 148) rfl rfl rfl rfl (show xS0 L 400 = (12, 0) from rfl) q2.1 ?_
    refine w_iconst (pc' := 149) rfl rfl (v := 0) rfl ?_
    refine w_iaload (pc' := 150) (i := 0) rfl rfl q2.2 rfl (by omega) (by omega) ?_
    refine w_imul (pc' := 151) rfl rfl ?_
    refine w_iadd (pc' := 152) rfl rfl ?_
    refine w_istore (pc' := 154) rfl rfl (xl' := [.ref 400, .int x1, .int x2, .int x3, .int x4, .int s0, .int (1 + (4 * (f 403 0)))]) rfl ?_
    refine w_aload_n (pc' := 155) rfl rfl rfl ?_
    have q3 : xR0 400 10 = some 403 ∧ xS0 L 403 = (20, 161) := (kf_12_10 (show xS0 L 400 = (12, 0) from rfl))
    refine w_getR (pc' := 158) rfl rfl rfl rfl (show xS0 L 400 = (12, 0) from rfl) q3.1 ?_
    refine w_iload (pc' := 160) rfl rfl rfl ?_
    refine w_iload_n (pc' := 161) rfl rfl rfl ?_
    obtain ⟨k1, ek1, bk1, h⟩ := h
    refine w_iastore (pc' := 162) (i := k1) rfl rfl q3.2 ek1 bk1 (by omega) ?_
    replace h := h _ rfl
    generalize xu f 403 k1 x2 = g2 at h ⊢
    refine w_aload_n (pc' := 163) rfl rfl rfl ?_
    have q4 : xR0 400 10 = some 403 ∧ xS0 L 403 = (20, 161) := (kf_12_10 (show xS0 L 400 = (12, 0) from rfl))
    refine w_getR (pc' := 166) rfl rfl rfl rfl (show xS0 L 400 = (12, 0) from rfl) q4.1 ?_
    refine w_iload (pc' := 168) rfl rfl rfl ?_
    refine w_iconst (pc' := 169) rfl rfl (v := 1) rfl ?_
    refine w_iadd (pc' := 170) rfl rfl ?_
    refine w_iload_n (pc' := 171) rfl rfl rfl ?_
    obtain ⟨k2, ek2, bk2, h⟩ := h
    refine w_iastore (pc' := 172) (i := k2) rfl rfl q4.2 ek2 bk2 (by omega) ?_
    replace h := h _ rfl
    generalize xu g2 403 k2 x3 = g3 at h ⊢
    refine w_aload_n (pc' := 173) rfl rfl rfl ?_
    have q5 : xR0 400 10 = some 403 ∧ xS0 L 403 = (20, 161) := (kf_12_10 (show xS0 L 400 = (12, 0) from rfl))
    refine w_getR (pc' := 176) rfl rfl rfl rfl (show xS0 L 400 = (12, 0) from rfl) q5.1 ?_
    refine w_iload (pc' := 178) rfl rfl rfl ?_
    refine w_iconst (pc' := 179) rfl rfl (v := 2) rfl ?_
    refine w_iadd (pc' := 180) rfl rfl ?_
    refine w_iload (pc' := 182) rfl rfl rfl ?_
    obtain ⟨k3, ek3, bk3, h⟩ := h
    refine w_iastore (pc' := 183) (i := k3) rfl rfl q5.2 ek3 bk3 (by omega) ?_
    replace h := h _ rfl
    generalize xu g3 403 k3 x4 = g4 at h ⊢
    refine w_aload_n (pc' := 184) rfl rfl rfl ?_
    have q6 : xR0 400 10 = some 403 ∧ xS0 L 403 = (20, 161) := (kf_12_10 (show xS0 L 400 = (12, 0) from rfl))
    refine w_getR (pc' := 187) rfl rfl rfl rfl (show xS0 L 400 = (12, 0) from rfl) q6.1 ?_
    refine w_iload (pc' := 189) rfl rfl rfl ?_
    refine w_iconst (pc' := 190) rfl rfl (v := 3) rfl ?_
    refine w_iadd (pc' := 191) rfl rfl ?_
    refine w_iload (pc' := 193) rfl rfl rfl ?_
    obtain ⟨k4, ek4, bk4, h⟩ := h
    refine w_iastore (pc' := 194) (i := k4) rfl rfl q6.2 ek4 bk4 (by omega) ?_
    replace h := h _ rfl
    generalize xu g4 403 k4 s0 = g5 at h ⊢
    refine w_aload_n (pc' := 195) rfl rfl rfl ?_
    have q7 : xR0 400 10 = some 403 ∧ xS0 L 403 = (20, 161) := (kf_12_10 (show xS0 L 400 = (12, 0) from rfl))
    refine w_getR (pc' := 198) rfl rfl rfl rfl (show xS0 L 400 = (12, 0) from rfl) q7.1 ?_
    refine w_iconst (pc' := 199) rfl rfl (v := 0) rfl ?_
    refine w_dup2 (pc' := 200) rfl rfl ?_
    refine w_iaload (pc' := 201) (i := 0) rfl rfl q7.2 rfl (by omega) (by omega) ?_
    refine w_iconst (pc' := 202) rfl rfl (v := 1) rfl ?_
    refine w_iadd (pc' := 203) rfl rfl ?_
    refine w_iastore (pc' := 204) (i := 0) rfl rfl q7.2 rfl (by omega) (by omega) ?_
    replace h := h _ rfl
    generalize xu g5 403 0 ((g5 403 0) + 1) = g6 at h ⊢
    refine w_aload_n (pc' := 205) rfl rfl rfl ?_
    refine w_cv (pc' := 208) (cm := xm_Mo_endsLine) (as := []) (a := 400) (rest := []) rfl rfl rfl  (xa_Mo_endsLine (Nat.le_of_ble_eq_true rfl)) (show xS0 L 400 = (12, 0) from rfl) rfl (CV.k h fun g7 h => ?_)
    show Wp L xs xm_Mo_runLine 208 [.ref 400, .int x1, .int x2, .int x3, .int x4, .int s0, .int (1 + (4 * (f 403 0)))] [] g7 _
    exact w_return rfl rfl h
theorem t_Mo_repliesLine_0 {L : Nat} {xs : Nat → Int32}  {f : Hp} {Q : Hp → Prop}  (h : CI L xs xm_Mo_wordIn [.ref 400, .int 17, .int 17] f (fun v1 g1 => (((g1 400 8) = 0 → (((g1 403 0) < 12 → Wp L xs xm_Mo_repliesLine 38 [.ref 400, .int (f 400 4), .retAddr 0, .retAddr 0, .retAddr 0, .retAddr 0] [] g1 (QV Q)) ∧ (¬ (g1 403 0) < 12 → CV L xs xm_Mo_also [.ref 400, .int 3, .int (f 400 4)] g1 (fun g2 => Wp L xs xm_Mo_repliesLine 38 [.ref 400, .int (f 400 4), .retAddr 0, .retAddr 0, .retAddr 0, .retAddr 0] [] g2 (QV Q))))) ∧ (¬ (g1 400 8) = 0 → Wp L xs xm_Mo_repliesLine 38 [.ref 400, .int (f 400 4), .retAddr 0, .retAddr 0, .retAddr 0, .retAddr 0] [] g1 (QV Q))))) : CV L xs xm_Mo_repliesLine [.ref 400] f Q := by
  show Wp L xs xm_Mo_repliesLine 0 [.ref 400, .retAddr 0, .retAddr 0, .retAddr 0, .retAddr 0, .retAddr 0] [] f (QV Q)
  refine w_aload_n (pc' := 1) rfl rfl rfl ?_
  refine w_getI (pc' := 4) rfl rfl rfl rfl rfl (show xS0 L 400 = (12, 0) from rfl) ?_
  refine w_istore_n (pc' := 5) rfl rfl (xl' := [.ref 400, .int (f 400 4), .retAddr 0, .retAddr 0, .retAddr 0, .retAddr 0]) rfl ?_
  refine w_aload_n (pc' := 6) rfl rfl rfl ?_
  refine w_bipush (pc' := 8) rfl rfl (v := 17) rfl ?_
  refine w_bipush (pc' := 10) rfl rfl (v := 17) rfl ?_
  refine w_cv (pc' := 13) (cm := xm_Mo_wordIn) (as := [.int 17, .int 17]) (a := 400) (rest := []) rfl rfl rfl  (xa_Mo_wordIn (Nat.le_of_ble_eq_true rfl)) (show xS0 L 400 = (12, 0) from rfl) rfl (CI.k h fun v1 g1 h => ?_)
  show Wp L xs xm_Mo_repliesLine 13 [.ref 400, .int (f 400 4), .retAddr 0, .retAddr 0, .retAddr 0, .retAddr 0] [.int v1] g1 _
  refine w_popI (pc' := 14) rfl rfl ?_
  refine w_aload_n (pc' := 15) rfl rfl rfl ?_
  refine w_getI (pc' := 18) rfl rfl rfl rfl rfl (show xS0 L 400 = (12, 0) from rfl) ?_
  refine w_br (pc' := 21) (t := 38) rfl rfl rfl ic_ne (fun hc => ?_) (fun hc => ?_)
  · replace h := h.2 hc
    exact h
  · replace h := h.1 (Classical.not_not.mp hc)
    refine w_aload_n (pc' := 22) rfl rfl rfl ?_
    have q1 : xR0 400 10 = some 403 ∧ xS0 L 403 = (20, 161) := (kf_12_10 (show xS0 L 400 = (12, 0) from rfl))
    refine w_getR (pc' := 25) rfl rfl rfl rfl (show xS0 L 400 = (12, 0) from rfl) q1.1 ?_
    refine w_iconst (pc' := 26) rfl rfl (v := 0) rfl ?_
    refine w_iaload (pc' := 27) (i := 0) rfl rfl q1.2 rfl (by omega) (by omega) ?_
    refine w_bipush (pc' := 29) rfl rfl (v := 12) rfl ?_
    refine w_br2 (pc' := 32) (t := 38) rfl rfl rfl ic_lt (fun hc => ?_) (fun hc => ?_)
    · replace h := h.1 hc
      exact h
    · replace h := h.2 hc
      refine w_aload_n (pc' := 33) rfl rfl rfl ?_
      refine w_iconst (pc' := 34) rfl rfl (v := 3) rfl ?_
      refine w_iload_n (pc' := 35) rfl rfl rfl ?_
      refine w_cv (pc' := 38) (cm := xm_Mo_also) (as := [.int 3, .int (f 400 4)]) (a := 400) (rest := []) rfl rfl rfl  (xa_Mo_also (Nat.le_of_ble_eq_true rfl)) (show xS0 L 400 = (12, 0) from rfl) rfl (CV.k h fun g2 h => ?_)
      show Wp L xs xm_Mo_repliesLine 38 [.ref 400, .int (f 400 4), .retAddr 0, .retAddr 0, .retAddr 0, .retAddr 0] [] g2 _
      exact h
theorem t_Mo_repliesLine_38 {L : Nat} {xs : Nat → Int32} {x1 : Int32} {f : Hp} {Q : Hp → Prop}  (h : CI L xs xm_Mo_numbered [.ref 400, .int 0, .int 6] f (fun v1 g1 => CI L xs xm_Mo_numbered [.ref 400, .int 0, .int 9] g1 (fun v2 g2 => CI L xs xm_Mo_numbered [.ref 400, .int 0, .int 99] g2 (fun v3 g3 => (((g3 403 0) < 12 → ∃ k1 : Nat, (1 + (3 * (g3 403 0))) = iN k1 ∧ k1 < 161 ∧ ∀ g5, g5 = xu g3 403 k1 v1 → ∃ k2 : Nat, ((1 + (3 * (g3 403 0))) + 1) = iN k2 ∧ k2 < 161 ∧ ∀ g6, g6 = xu g5 403 k2 v2 → ∃ k3 : Nat, ((1 + (3 * (g3 403 0))) + 2) = iN k3 ∧ k3 < 161 ∧ ∀ g7, g7 = xu g6 403 k3 v3 → ∀ g8, g8 = xu g7 403 0 ((g7 403 0) + 1) → CV L xs xm_Mo_endsLine [.ref 400] g8 (fun g9 => Q g9)) ∧ (¬ (g3 403 0) < 12 → CV L xs xm_Mo_endsLine [.ref 400] g3 (fun g4 => Q g4))))))) : Wp L xs xm_Mo_repliesLine 38 [.ref 400, .int x1, .retAddr 0, .retAddr 0, .retAddr 0, .retAddr 0] [] f (QV Q) := by
  refine w_aload_n (pc' := 39) rfl rfl rfl ?_
  refine w_iconst (pc' := 40) rfl rfl (v := 0) rfl ?_
  refine w_bipush (pc' := 42) rfl rfl (v := 6) rfl ?_
  refine w_cv (pc' := 45) (cm := xm_Mo_numbered) (as := [.int 0, .int 6]) (a := 400) (rest := []) rfl rfl rfl  (xa_Mo_numbered (Nat.le_of_ble_eq_true rfl)) (show xS0 L 400 = (12, 0) from rfl) rfl (CI.k h fun v1 g1 h => ?_)
  show Wp L xs xm_Mo_repliesLine 45 [.ref 400, .int x1, .retAddr 0, .retAddr 0, .retAddr 0, .retAddr 0] [.int v1] g1 _
  refine w_istore_n (pc' := 46) rfl rfl (xl' := [.ref 400, .int x1, .int v1, .retAddr 0, .retAddr 0, .retAddr 0]) rfl ?_
  refine w_aload_n (pc' := 47) rfl rfl rfl ?_
  refine w_iconst (pc' := 48) rfl rfl (v := 0) rfl ?_
  refine w_bipush (pc' := 50) rfl rfl (v := 9) rfl ?_
  refine w_cv (pc' := 53) (cm := xm_Mo_numbered) (as := [.int 0, .int 9]) (a := 400) (rest := []) rfl rfl rfl  (xa_Mo_numbered (Nat.le_of_ble_eq_true rfl)) (show xS0 L 400 = (12, 0) from rfl) rfl (CI.k h fun v2 g2 h => ?_)
  show Wp L xs xm_Mo_repliesLine 53 [.ref 400, .int x1, .int v1, .retAddr 0, .retAddr 0, .retAddr 0] [.int v2] g2 _
  refine w_istore_n (pc' := 54) rfl rfl (xl' := [.ref 400, .int x1, .int v1, .int v2, .retAddr 0, .retAddr 0]) rfl ?_
  refine w_aload_n (pc' := 55) rfl rfl rfl ?_
  refine w_iconst (pc' := 56) rfl rfl (v := 0) rfl ?_
  refine w_bipush (pc' := 58) rfl rfl (v := 99) rfl ?_
  refine w_cv (pc' := 61) (cm := xm_Mo_numbered) (as := [.int 0, .int 99]) (a := 400) (rest := []) rfl rfl rfl  (xa_Mo_numbered (Nat.le_of_ble_eq_true rfl)) (show xS0 L 400 = (12, 0) from rfl) rfl (CI.k h fun v3 g3 h => ?_)
  show Wp L xs xm_Mo_repliesLine 61 [.ref 400, .int x1, .int v1, .int v2, .retAddr 0, .retAddr 0] [.int v3] g3 _
  refine w_istore (pc' := 63) rfl rfl (xl' := [.ref 400, .int x1, .int v1, .int v2, .int v3, .retAddr 0]) rfl ?_
  refine w_aload_n (pc' := 64) rfl rfl rfl ?_
  have q1 : xR0 400 10 = some 403 ∧ xS0 L 403 = (20, 161) := (kf_12_10 (show xS0 L 400 = (12, 0) from rfl))
  refine w_getR (pc' := 67) rfl rfl rfl rfl (show xS0 L 400 = (12, 0) from rfl) q1.1 ?_
  refine w_iconst (pc' := 68) rfl rfl (v := 0) rfl ?_
  refine w_iaload (pc' := 69) (i := 0) rfl rfl q1.2 rfl (by omega) (by omega) ?_
  refine w_bipush (pc' := 71) rfl rfl (v := 12) rfl ?_
  refine w_br2 (pc' := 74) (t := 125) rfl rfl rfl ic_ge (fun hc => ?_) (fun hc => ?_)
  · replace h := h.2 hc
    refine w_aload_n (pc' := 126) rfl rfl rfl ?_
    refine w_cv (pc' := 129) (cm := xm_Mo_endsLine) (as := []) (a := 400) (rest := []) rfl rfl rfl  (xa_Mo_endsLine (Nat.le_of_ble_eq_true rfl)) (show xS0 L 400 = (12, 0) from rfl) rfl (CV.k h fun g4 h => ?_)
    show Wp L xs xm_Mo_repliesLine 129 [.ref 400, .int x1, .int v1, .int v2, .int v3, .retAddr 0] [] g4 _
    exact w_return rfl rfl h
  · replace h := h.1 (Classical.not_not.mp hc)
    refine w_iconst (pc' := 75) rfl rfl (v := 1) rfl ?_
    refine w_iconst (pc' := 76) rfl rfl (v := 3) rfl ?_
    refine w_aload_n (pc' := 77) rfl rfl rfl ?_
    have q2 : xR0 400 10 = some 403 ∧ xS0 L 403 = (20, 161) := (kf_12_10 (show xS0 L 400 = (12, 0) from rfl))
    refine w_getR (pc' := 80) rfl rfl rfl rfl (show xS0 L 400 = (12, 0) from rfl) q2.1 ?_
    refine w_iconst (pc' := 81) rfl rfl (v := 0) rfl ?_
    refine w_iaload (pc' := 82) (i := 0) rfl rfl q2.2 rfl (by omega) (by omega) ?_
    refine w_imul (pc' := 83) rfl rfl ?_
    refine w_iadd (pc' := 84) rfl rfl ?_
    refine w_istore (pc' := 86) rfl rfl (xl' := [.ref 400, .int x1, .int v1, .int v2, .int v3, .int (1 + (3 * (g3 403 0)))]) rfl ?_
    refine w_aload_n (pc' := 87) rfl rfl rfl ?_
    have q3 : xR0 400 10 = some 403 ∧ xS0 L 403 = (20, 161) := (kf_12_10 (show xS0 L 400 = (12, 0) from rfl))
    refine w_getR (pc' := 90) rfl rfl rfl rfl (show xS0 L 400 = (12, 0) from rfl) q3.1 ?_
    refine w_iload (pc' := 92) rfl rfl rfl ?_
    refine w_iload_n (pc' := 93) rfl rfl rfl ?_
    obtain ⟨k1, ek1, bk1, h⟩ := h
    refine w_iastore (pc' := 94) (i := k1) rfl rfl q3.2 ek1 bk1 (by omega) ?_
    replace h := h _ rfl
    generalize xu g3 403 k1 v1 = g5 at h ⊢
    refine w_aload_n (pc' := 95) rfl rfl rfl ?_
    have q4 : xR0 400 10 = some 403 ∧ xS0 L 403 = (20, 161) := (kf_12_10 (show xS0 L 400 = (12, 0) from rfl))
    refine w_getR (pc' := 98) rfl rfl rfl rfl (show xS0 L 400 = (12, 0) from rfl) q4.1 ?_
    refine w_iload (pc' := 100) rfl rfl rfl ?_
    refine w_iconst (pc' := 101) rfl rfl (v := 1) rfl ?_
    refine w_iadd (pc' := 102) rfl rfl ?_
    refine w_iload_n (pc' := 103) rfl rfl rfl ?_
    obtain ⟨k2, ek2, bk2, h⟩ := h
    refine w_iastore (pc' := 104) (i := k2) rfl rfl q4.2 ek2 bk2 (by omega) ?_
    replace h := h _ rfl
    generalize xu g5 403 k2 v2 = g6 at h ⊢
    refine w_aload_n (pc' := 105) rfl rfl rfl ?_
    have q5 : xR0 400 10 = some 403 ∧ xS0 L 403 = (20, 161) := (kf_12_10 (show xS0 L 400 = (12, 0) from rfl))
    refine w_getR (pc' := 108) rfl rfl rfl rfl (show xS0 L 400 = (12, 0) from rfl) q5.1 ?_
    refine w_iload (pc' := 110) rfl rfl rfl ?_
    refine w_iconst (pc' := 111) rfl rfl (v := 2) rfl ?_
    refine w_iadd (pc' := 112) rfl rfl ?_
    refine w_iload (pc' := 114) rfl rfl rfl ?_
    obtain ⟨k3, ek3, bk3, h⟩ := h
    refine w_iastore (pc' := 115) (i := k3) rfl rfl q5.2 ek3 bk3 (by omega) ?_
    replace h := h _ rfl
    generalize xu g6 403 k3 v3 = g7 at h ⊢
    refine w_aload_n (pc' := 116) rfl rfl rfl ?_
    have q6 : xR0 400 10 = some 403 ∧ xS0 L 403 = (20, 161) := (kf_12_10 (show xS0 L 400 = (12, 0) from rfl))
    refine w_getR (pc' := 119) rfl rfl rfl rfl (show xS0 L 400 = (12, 0) from rfl) q6.1 ?_
    refine w_iconst (pc' := 120) rfl rfl (v := 0) rfl ?_
    refine w_dup2 (pc' := 121) rfl rfl ?_
    refine w_iaload (pc' := 122) (i := 0) rfl rfl q6.2 rfl (by omega) (by omega) ?_
    refine w_iconst (pc' := 123) rfl rfl (v := 1) rfl ?_
    refine w_iadd (pc' := 124) rfl rfl ?_
    refine w_iastore (pc' := 125) (i := 0) rfl rfl q6.2 rfl (by omega) (by omega) ?_
    replace h := h _ rfl
    generalize xu g7 403 0 ((g7 403 0) + 1) = g8 at h ⊢
    refine w_aload_n (pc' := 126) rfl rfl rfl ?_
    refine w_cv (pc' := 129) (cm := xm_Mo_endsLine) (as := []) (a := 400) (rest := []) rfl rfl rfl  (xa_Mo_endsLine (Nat.le_of_ble_eq_true rfl)) (show xS0 L 400 = (12, 0) from rfl) rfl (CV.k h fun g9 h => ?_)
    show Wp L xs xm_Mo_repliesLine 129 [.ref 400, .int x1, .int v1, .int v2, .int v3, .int (1 + (3 * (g3 403 0)))] [] g9 _
    exact w_return rfl rfl h
theorem t_Mo_sizeOf_0 {L : Nat} {xs : Nat → Int32} {x0 : Int32} {f : Hp} {Q : Int32 → Hp → Prop}  (h : ((x0 = 0 → Q 82 f) ∧ (¬ x0 = 0 → ((x0 = 1 → Q 161 f) ∧ (¬ x0 = 1 → Q 37 f))))) : CI L xs xm_Mo_sizeOf [.int x0] f Q := by
  show Wp L xs xm_Mo_sizeOf 0 [.int x0] [] f (QI Q)
  refine w_iload_n (pc' := 1) rfl rfl rfl ?_
  refine w_br (pc' := 4) (t := 9) rfl rfl rfl ic_ne (fun hc => ?_) (fun hc => ?_)
  · replace h := h.2 hc
    refine w_iload_n (pc' := 10) rfl rfl rfl ?_
    refine w_iconst (pc' := 11) rfl rfl (v := 1) rfl ?_
    refine w_br2 (pc' := 14) (t := 20) rfl rfl rfl ic_ne (fun hc => ?_) (fun hc => ?_)
    · replace h := h.2 hc
      refine w_bipush (pc' := 22) rfl rfl (v := 37) rfl ?_
      exact w_ireturn rfl rfl h
    · replace h := h.1 (Classical.not_not.mp hc)
      refine w_sipush (pc' := 17) rfl rfl (v := 161) rfl ?_
      refine w_goto (pc' := 22) rfl rfl ?_
      exact w_ireturn rfl rfl h
  · replace h := h.1 (Classical.not_not.mp hc)
    refine w_bipush (pc' := 6) rfl rfl (v := 82) rfl ?_
    refine w_goto (pc' := 22) rfl rfl ?_
    exact w_ireturn rfl rfl h
theorem t_Mo_placeOf_0 {L : Nat} {xs : Nat → Int32} {x0 : Int32} {x1 : Int32} {f : Hp} {Q : Int32 → Hp → Prop}  (h : ((x0 = 0 → Q (610 + (82 * x1)) f) ∧ (¬ x0 = 0 → ((x0 = 1 → Q (774 + (161 * x1)) f) ∧ (¬ x0 = 1 → Q (1096 + (37 * x1)) f))))) : CI L xs xm_Mo_placeOf [.int x0, .int x1] f Q := by
  show Wp L xs xm_Mo_placeOf 0 [.int x0, .int x1] [] f (QI Q)
  refine w_iload_n (pc' := 1) rfl rfl rfl ?_
  refine w_br (pc' := 4) (t := 15) rfl rfl rfl ic_ne (fun hc => ?_) (fun hc => ?_)
  · replace h := h.2 hc
    refine w_iload_n (pc' := 16) rfl rfl rfl ?_
    refine w_iconst (pc' := 17) rfl rfl (v := 1) rfl ?_
    refine w_br2 (pc' := 20) (t := 32) rfl rfl rfl ic_ne (fun hc => ?_) (fun hc => ?_)
    · replace h := h.2 hc
      refine w_sipush (pc' := 35) rfl rfl (v := 1096) rfl ?_
      refine w_bipush (pc' := 37) rfl rfl (v := 37) rfl ?_
      refine w_iload_n (pc' := 38) rfl rfl rfl ?_
      refine w_imul (pc' := 39) rfl rfl ?_
      refine w_iadd (pc' := 40) rfl rfl ?_
      exact w_ireturn rfl rfl h
    · replace h := h.1 (Classical.not_not.mp hc)
      refine w_sipush (pc' := 23) rfl rfl (v := 774) rfl ?_
      refine w_sipush (pc' := 26) rfl rfl (v := 161) rfl ?_
      refine w_iload_n (pc' := 27) rfl rfl rfl ?_
      refine w_imul (pc' := 28) rfl rfl ?_
      refine w_iadd (pc' := 29) rfl rfl ?_
      refine w_goto (pc' := 40) rfl rfl ?_
      exact w_ireturn rfl rfl h
  · replace h := h.1 (Classical.not_not.mp hc)
    refine w_sipush (pc' := 7) rfl rfl (v := 610) rfl ?_
    refine w_bipush (pc' := 9) rfl rfl (v := 82) rfl ?_
    refine w_iload_n (pc' := 10) rfl rfl rfl ?_
    refine w_imul (pc' := 11) rfl rfl ?_
    refine w_iadd (pc' := 12) rfl rfl ?_
    refine w_goto (pc' := 40) rfl rfl ?_
    exact w_ireturn rfl rfl h
theorem t_Mo_fault_0 {L : Nat} {xs : Nat → Int32} {x1 : Int32} {f : Hp} {Q : Int32 → Hp → Prop}  (h : ((x1 = 0 → Q (f 401 5) f) ∧ (¬ x1 = 0 → ((x1 = 1 → Q (f 401 6) f) ∧ (¬ x1 = 1 → Q (-1) f))))) : CI L xs xm_Mo_fault [.ref 400, .int x1] f Q := by
  show Wp L xs xm_Mo_fault 0 [.ref 400, .int x1] [] f (QI Q)
  refine w_iload_n (pc' := 1) rfl rfl rfl ?_
  refine w_br (pc' := 4) (t := 13) rfl rfl rfl ic_ne (fun hc => ?_) (fun hc => ?_)
  · replace h := h.2 hc
    refine w_iload_n (pc' := 14) rfl rfl rfl ?_
    refine w_iconst (pc' := 15) rfl rfl (v := 1) rfl ?_
    refine w_br2 (pc' := 18) (t := 28) rfl rfl rfl ic_ne (fun hc => ?_) (fun hc => ?_)
    · replace h := h.2 hc
      refine w_iconst (pc' := 29) rfl rfl (v := (-1)) rfl ?_
      exact w_ireturn rfl rfl h
    · replace h := h.1 (Classical.not_not.mp hc)
      refine w_aload_n (pc' := 19) rfl rfl rfl ?_
      have q1 : xR0 400 0 = some 401 ∧ xS0 L 401 = (20, 4680) := (kf_12_0 (show xS0 L 400 = (12, 0) from rfl))
      refine w_getR (pc' := 22) rfl rfl rfl rfl (show xS0 L 400 = (12, 0) from rfl) q1.1 ?_
      refine w_bipush (pc' := 24) rfl rfl (v := 6) rfl ?_
      refine w_iaload (pc' := 25) (i := 6) rfl rfl q1.2 rfl (by omega) (by omega) ?_
      refine w_goto (pc' := 29) rfl rfl ?_
      exact w_ireturn rfl rfl h
  · replace h := h.1 (Classical.not_not.mp hc)
    refine w_aload_n (pc' := 5) rfl rfl rfl ?_
    have q2 : xR0 400 0 = some 401 ∧ xS0 L 401 = (20, 4680) := (kf_12_0 (show xS0 L 400 = (12, 0) from rfl))
    refine w_getR (pc' := 8) rfl rfl rfl rfl (show xS0 L 400 = (12, 0) from rfl) q2.1 ?_
    refine w_iconst (pc' := 9) rfl rfl (v := 5) rfl ?_
    refine w_iaload (pc' := 10) (i := 5) rfl rfl q2.2 rfl (by omega) (by omega) ?_
    refine w_goto (pc' := 29) rfl rfl ?_
    exact w_ireturn rfl rfl h
theorem t_Mo_council_0 {L : Nat} {xs : Nat → Int32} {x1 : Int32} {x2 : Int32} {f : Hp} {Q : Int32 → Hp → Prop}  (h : CI L xs xm_Mo_isCouncil [.ref 400, .int x1] f (fun v1 g1 => ((v1 = 0 → Q (-1) g1) ∧ (¬ v1 = 0 → ((x2 < 0 → Q (-1) g1) ∧ (¬ x2 < 0 → CI L xs xm_Mo_isIn [.int x2, .int 0, .int 4] g1 (fun v2 g2 => ((v2 = 0 → ((x2 < 100 → (((x2 / 10) = 1 → (((jrem x2 10) < 8 → ∃ k1 : Nat, (((g2 400 11) + 5) + (jrem x2 10)) = iN k1 ∧ k1 < 4680 ∧ Q (g2 401 k1) g2) ∧ (¬ (jrem x2 10) < 8 → Q (-1) g2))) ∧ (¬ (x2 / 10) = 1 → (((x2 / 10) = 2 → (((jrem x2 10) < (g2 400 18) → CI L xs xm_Mo_orderAccount [.ref 400, .int (jrem x2 10)] g2 (fun v3 g3 => Q v3 g3)) ∧ (¬ (jrem x2 10) < (g2 400 18) → Q (-1) g2))) ∧ (¬ (x2 / 10) = 2 → (((x2 / 10) = 3 → (((jrem x2 10) < (g2 400 18) → CI L xs xm_Mo_orderPlus [.ref 400, .int (jrem x2 10)] g2 (fun v4 g4 => Q v4 g4)) ∧ (¬ (jrem x2 10) < (g2 400 18) → Q (-1) g2))) ∧ (¬ (x2 / 10) = 3 → Q (-1) g2))))))) ∧ (¬ x2 < 100 → CI L xs xm_Mo_isMember [.ref 400, .int ((x2 - 100) / 10)] g2 (fun v5 g5 => ((v5 = 0 → Q (-1) g5) ∧ (¬ v5 = 0 → CI L xs xm_Mo_isMember [.ref 400, .int (jrem x2 10)] g5 (fun v6 g6 => ((v6 = 0 → Q (-1) g6) ∧ (¬ v6 = 0 → ((((x2 - 100) / 10) = (jrem x2 10) → Q (-1) g6) ∧ (¬ ((x2 - 100) / 10) = (jrem x2 10) → CI L xs xm_Mo_delayOf [.ref 400, .int ((x2 - 100) / 10), .int (jrem x2 10)] g6 (fun v7 g7 => Q v7 g7)))))))))))) ∧ (¬ v2 = 0 → ∃ k2 : Nat, ((g2 400 11) + x2) = iN k2 ∧ k2 < 4680 ∧ Q (g2 401 k2) g2))))))))) : CI L xs xm_Mo_council [.ref 400, .int x1, .int x2] f Q := by
  show Wp L xs xm_Mo_council 0 [.ref 400, .int x1, .int x2, .retAddr 0, .retAddr 0] [] f (QI Q)
  refine w_aload_n (pc' := 1) rfl rfl rfl ?_
  refine w_iload_n (pc' := 2) rfl rfl rfl ?_
  refine w_cv (pc' := 5) (cm := xm_Mo_isCouncil) (as := [.int x1]) (a := 400) (rest := []) rfl rfl rfl  (xa_Mo_isCouncil (Nat.le_of_ble_eq_true rfl)) (show xS0 L 400 = (12, 0) from rfl) rfl (CI.k h fun v1 g1 h => ?_)
  show Wp L xs xm_Mo_council 5 [.ref 400, .int x1, .int x2, .retAddr 0, .retAddr 0] [.int v1] g1 _
  refine w_br (pc' := 8) (t := 12) rfl rfl rfl ic_eq (fun hc => ?_) (fun hc => ?_)
  · replace h := h.1 hc
    refine w_iconst (pc' := 13) rfl rfl (v := (-1)) rfl ?_
    exact w_ireturn rfl rfl h
  · replace h := h.2 hc
    refine w_iload_n (pc' := 9) rfl rfl rfl ?_
    refine w_br (pc' := 12) (t := 14) rfl rfl rfl ic_ge (fun hc => ?_) (fun hc => ?_)
    · replace h := h.2 hc
      refine w_iload_n (pc' := 15) rfl rfl rfl ?_
      refine w_iconst (pc' := 16) rfl rfl (v := 0) rfl ?_
      refine w_iconst (pc' := 17) rfl rfl (v := 4) rfl ?_
      refine w_cs (pc' := 20) (cm := xm_Mo_isIn) (as := [.int x2, .int 0, .int 4]) (rest := []) rfl rfl rfl (Or.inl rfl) (xa_Mo_isIn (Nat.le_of_ble_eq_true rfl)) (CI.k h fun v2 g2 h => ?_)
      show Wp L xs xm_Mo_council 20 [.ref 400, .int x1, .int x2, .retAddr 0, .retAddr 0] [.int v2] g2 _
      refine w_br (pc' := 23) (t := 35) rfl rfl rfl ic_eq (fun hc => ?_) (fun hc => ?_)
      · replace h := h.1 hc
        refine w_iload_n (pc' := 36) rfl rfl rfl ?_
        refine w_bipush (pc' := 38) rfl rfl (v := 100) rfl ?_
        refine w_br2 (pc' := 41) (t := 90) rfl rfl rfl ic_lt (fun hc => ?_) (fun hc => ?_)
        · replace h := h.1 hc
          refine w_iload_n (pc' := 91) rfl rfl rfl ?_
          refine w_bipush (pc' := 93) rfl rfl (v := 10) rfl ?_
          refine w_irem (pc' := 94) rfl rfl (by decide) ?_
          refine w_istore_n (pc' := 95) rfl rfl (xl' := [.ref 400, .int x1, .int x2, .int (jrem x2 10), .retAddr 0]) rfl ?_
          refine w_iload_n (pc' := 96) rfl rfl rfl ?_
          refine w_bipush (pc' := 98) rfl rfl (v := 10) rfl ?_
          refine w_idiv (pc' := 99) rfl rfl (by decide) ?_
          by_cases hs1 : (x2 / 10) = 1
          · replace h := h.1 hs1
            refine w_ts (o := 25) (t := 124) rfl (by rw [hs1]; decide) (by rw [hs1]; rfl) rfl ?_
            refine w_iload_n (pc' := 125) rfl rfl rfl ?_
            refine w_bipush (pc' := 127) rfl rfl (v := 8) rfl ?_
            refine w_br2 (pc' := 130) (t := 146) rfl rfl rfl ic_ge (fun hc => ?_) (fun hc => ?_)
            · replace h := h.2 hc
              refine w_iconst (pc' := 147) rfl rfl (v := (-1)) rfl ?_
              exact w_ireturn rfl rfl h
            · replace h := h.1 (Classical.not_not.mp hc)
              refine w_aload_n (pc' := 131) rfl rfl rfl ?_
              have q1 : xR0 400 0 = some 401 ∧ xS0 L 401 = (20, 4680) := (kf_12_0 (show xS0 L 400 = (12, 0) from rfl))
              refine w_getR (pc' := 134) rfl rfl rfl rfl (show xS0 L 400 = (12, 0) from rfl) q1.1 ?_
              refine w_aload_n (pc' := 135) rfl rfl rfl ?_
              refine w_getI (pc' := 138) rfl rfl rfl rfl rfl (show xS0 L 400 = (12, 0) from rfl) ?_
              refine w_iconst (pc' := 139) rfl rfl (v := 5) rfl ?_
              refine w_iadd (pc' := 140) rfl rfl ?_
              refine w_iload_n (pc' := 141) rfl rfl rfl ?_
              refine w_iadd (pc' := 142) rfl rfl ?_
              obtain ⟨k1, ek1, bk1, h⟩ := h
              refine w_iaload (pc' := 143) (i := k1) rfl rfl q1.2 ek1 bk1 (by omega) ?_
              refine w_goto (pc' := 147) rfl rfl ?_
              exact w_ireturn rfl rfl h
          replace h := h.2 hs1
          by_cases hs2 : (x2 / 10) = 2
          · replace h := h.1 hs2
            refine w_ts (o := 49) (t := 148) rfl (by rw [hs2]; decide) (by rw [hs2]; rfl) rfl ?_
            refine w_iload_n (pc' := 149) rfl rfl rfl ?_
            refine w_aload_n (pc' := 150) rfl rfl rfl ?_
            refine w_getI (pc' := 153) rfl rfl rfl rfl rfl (show xS0 L 400 = (12, 0) from rfl) ?_
            refine w_br2 (pc' := 156) (t := 164) rfl rfl rfl ic_ge (fun hc => ?_) (fun hc => ?_)
            · replace h := h.2 hc
              refine w_iconst (pc' := 165) rfl rfl (v := (-1)) rfl ?_
              exact w_ireturn rfl rfl h
            · replace h := h.1 (Classical.not_not.mp hc)
              refine w_aload_n (pc' := 157) rfl rfl rfl ?_
              refine w_iload_n (pc' := 158) rfl rfl rfl ?_
              refine w_cv (pc' := 161) (cm := xm_Mo_orderAccount) (as := [.int (jrem x2 10)]) (a := 400) (rest := []) rfl rfl rfl  (xa_Mo_orderAccount (Nat.le_of_ble_eq_true rfl)) (show xS0 L 400 = (12, 0) from rfl) rfl (CI.k h fun v3 g3 h => ?_)
              show Wp L xs xm_Mo_council 161 [.ref 400, .int x1, .int x2, .int (jrem x2 10), .retAddr 0] [.int v3] g3 _
              refine w_goto (pc' := 165) rfl rfl ?_
              exact w_ireturn rfl rfl h
          replace h := h.2 hs2
          by_cases hs3 : (x2 / 10) = 3
          · replace h := h.1 hs3
            refine w_ts (o := 67) (t := 166) rfl (by rw [hs3]; decide) (by rw [hs3]; rfl) rfl ?_
            refine w_iload_n (pc' := 167) rfl rfl rfl ?_
            refine w_aload_n (pc' := 168) rfl rfl rfl ?_
            refine w_getI (pc' := 171) rfl rfl rfl rfl rfl (show xS0 L 400 = (12, 0) from rfl) ?_
            refine w_br2 (pc' := 174) (t := 182) rfl rfl rfl ic_ge (fun hc => ?_) (fun hc => ?_)
            · replace h := h.2 hc
              refine w_iconst (pc' := 183) rfl rfl (v := (-1)) rfl ?_
              exact w_ireturn rfl rfl h
            · replace h := h.1 (Classical.not_not.mp hc)
              refine w_aload_n (pc' := 175) rfl rfl rfl ?_
              refine w_iload_n (pc' := 176) rfl rfl rfl ?_
              refine w_cv (pc' := 179) (cm := xm_Mo_orderPlus) (as := [.int (jrem x2 10)]) (a := 400) (rest := []) rfl rfl rfl  (xa_Mo_orderPlus (Nat.le_of_ble_eq_true rfl)) (show xS0 L 400 = (12, 0) from rfl) rfl (CI.k h fun v4 g4 h => ?_)
              show Wp L xs xm_Mo_council 179 [.ref 400, .int x1, .int x2, .int (jrem x2 10), .retAddr 0] [.int v4] g4 _
              refine w_goto (pc' := 183) rfl rfl ?_
              exact w_ireturn rfl rfl h
          replace h := h.2 hs3
          refine w_tsd (t := 184) rfl ?_ rfl ?_
          · have z1 : ((x2 / 10)).toInt ≠ 1 := fun e => hs1 (Int32.toInt_inj.mp e); have z2 : ((x2 / 10)).toInt ≠ 2 := fun e => hs2 (Int32.toInt_inj.mp e); have z3 : ((x2 / 10)).toInt ≠ 3 := fun e => hs3 (Int32.toInt_inj.mp e); omega
          refine w_iconst (pc' := 185) rfl rfl (v := (-1)) rfl ?_
          exact w_ireturn rfl rfl h
        · replace h := h.2 hc
          refine w_iload_n (pc' := 42) rfl rfl rfl ?_
          refine w_bipush (pc' := 44) rfl rfl (v := 100) rfl ?_
          refine w_isub (pc' := 45) rfl rfl ?_
          refine w_bipush (pc' := 47) rfl rfl (v := 10) rfl ?_
          refine w_idiv (pc' := 48) rfl rfl (by decide) ?_
          refine w_istore_n (pc' := 49) rfl rfl (xl' := [.ref 400, .int x1, .int x2, .int ((x2 - 100) / 10), .retAddr 0]) rfl ?_
          refine w_iload_n (pc' := 50) rfl rfl rfl ?_
          refine w_bipush (pc' := 52) rfl rfl (v := 10) rfl ?_
          refine w_irem (pc' := 53) rfl rfl (by decide) ?_
          refine w_istore (pc' := 55) rfl rfl (xl' := [.ref 400, .int x1, .int x2, .int ((x2 - 100) / 10), .int (jrem x2 10)]) rfl ?_
          refine w_aload_n (pc' := 56) rfl rfl rfl ?_
          refine w_iload_n (pc' := 57) rfl rfl rfl ?_
          refine w_cv (pc' := 60) (cm := xm_Mo_isMember) (as := [.int ((x2 - 100) / 10)]) (a := 400) (rest := []) rfl rfl rfl  (xa_Mo_isMember (Nat.le_of_ble_eq_true rfl)) (show xS0 L 400 = (12, 0) from rfl) rfl (CI.k h fun v5 g5 h => ?_)
          show Wp L xs xm_Mo_council 60 [.ref 400, .int x1, .int x2, .int ((x2 - 100) / 10), .int (jrem x2 10)] [.int v5] g5 _
          refine w_br (pc' := 63) (t := 88) rfl rfl rfl ic_eq (fun hc => ?_) (fun hc => ?_)
          · replace h := h.1 hc
            refine w_iconst (pc' := 89) rfl rfl (v := (-1)) rfl ?_
            exact w_ireturn rfl rfl h
          · replace h := h.2 hc
            refine w_aload_n (pc' := 64) rfl rfl rfl ?_
            refine w_iload (pc' := 66) rfl rfl rfl ?_
            refine w_cv (pc' := 69) (cm := xm_Mo_isMember) (as := [.int (jrem x2 10)]) (a := 400) (rest := []) rfl rfl rfl  (xa_Mo_isMember (Nat.le_of_ble_eq_true rfl)) (show xS0 L 400 = (12, 0) from rfl) rfl (CI.k h fun v6 g6 h => ?_)
            show Wp L xs xm_Mo_council 69 [.ref 400, .int x1, .int x2, .int ((x2 - 100) / 10), .int (jrem x2 10)] [.int v6] g6 _
            refine w_br (pc' := 72) (t := 88) rfl rfl rfl ic_eq (fun hc => ?_) (fun hc => ?_)
            · replace h := h.1 hc
              refine w_iconst (pc' := 89) rfl rfl (v := (-1)) rfl ?_
              exact w_ireturn rfl rfl h
            · replace h := h.2 hc
              refine w_iload_n (pc' := 73) rfl rfl rfl ?_
              refine w_iload (pc' := 75) rfl rfl rfl ?_
              refine w_br2 (pc' := 78) (t := 88) rfl rfl rfl ic_eq (fun hc => ?_) (fun hc => ?_)
              · replace h := h.1 hc
                refine w_iconst (pc' := 89) rfl rfl (v := (-1)) rfl ?_
                exact w_ireturn rfl rfl h
              · replace h := h.2 hc
                refine w_aload_n (pc' := 79) rfl rfl rfl ?_
                refine w_iload_n (pc' := 80) rfl rfl rfl ?_
                refine w_iload (pc' := 82) rfl rfl rfl ?_
                refine w_cv (pc' := 85) (cm := xm_Mo_delayOf) (as := [.int ((x2 - 100) / 10), .int (jrem x2 10)]) (a := 400) (rest := []) rfl rfl rfl  (xa_Mo_delayOf (Nat.le_of_ble_eq_true rfl)) (show xS0 L 400 = (12, 0) from rfl) rfl (CI.k h fun v7 g7 h => ?_)
                show Wp L xs xm_Mo_council 85 [.ref 400, .int x1, .int x2, .int ((x2 - 100) / 10), .int (jrem x2 10)] [.int v7] g7 _
                refine w_goto (pc' := 89) rfl rfl ?_
                exact w_ireturn rfl rfl h
      · replace h := h.2 hc
        refine w_aload_n (pc' := 24) rfl rfl rfl ?_
        have q2 : xR0 400 0 = some 401 ∧ xS0 L 401 = (20, 4680) := (kf_12_0 (show xS0 L 400 = (12, 0) from rfl))
        refine w_getR (pc' := 27) rfl rfl rfl rfl (show xS0 L 400 = (12, 0) from rfl) q2.1 ?_
        refine w_aload_n (pc' := 28) rfl rfl rfl ?_
        refine w_getI (pc' := 31) rfl rfl rfl rfl rfl (show xS0 L 400 = (12, 0) from rfl) ?_
        refine w_iload_n (pc' := 32) rfl rfl rfl ?_
        refine w_iadd (pc' := 33) rfl rfl ?_
        obtain ⟨k2, ek2, bk2, h⟩ := h
        refine w_iaload (pc' := 34) (i := k2) rfl rfl q2.2 ek2 bk2 (by omega) ?_
        exact w_ireturn rfl rfl h
    · replace h := h.1 (Classical.not_not.mp hc)
      refine w_iconst (pc' := 13) rfl rfl (v := (-1)) rfl ?_
      exact w_ireturn rfl rfl h
theorem t_Mo_isCouncil_0 {L : Nat} {xs : Nat → Int32} {x1 : Int32} {f : Hp} {Q : Int32 → Hp → Prop}  (h : CI L xs xm_Mo_isOf [.ref 400, .int 0, .int x1] f (fun v1 g1 => ((v1 = 0 → Q 0 g1) ∧ (¬ v1 = 0 → CI L xs xm_Mo_placeOf [.int 0, .int x1] g1 (fun v2 g2 => ∀ g3, g3 = xu g2 400 11 v2 → ∃ k1 : Nat, (g3 400 11) = iN k1 ∧ k1 < 4680 ∧ ∀ g4, g4 = xu g3 400 12 (g3 401 k1) → ∀ g5, g5 = xu g4 400 13 ((3 * (g4 400 12)) + 1) → ∀ g6, g6 = xu g5 400 14 ((2 * (g5 400 12)) + 1) → ∃ k2 : Nat, ((g6 400 11) + 1) = iN k2 ∧ k2 < 4680 ∧ ∀ g7, g7 = xu g6 400 15 (g6 401 k2) → ∃ k3 : Nat, ((g7 400 11) + 2) = iN k3 ∧ k3 < 4680 ∧ ∀ g8, g8 = xu g7 400 16 (g7 401 k3) → ∃ k4 : Nat, ((g8 400 11) + 3) = iN k4 ∧ k4 < 4680 ∧ ∀ g9, g9 = xu g8 400 17 (g8 401 k4) → ∃ k5 : Nat, ((g9 400 11) + 4) = iN k5 ∧ k5 < 4680 ∧ ∀ g10, g10 = xu g9 400 18 (g9 401 k5) → Q 1 g10))))) : CI L xs xm_Mo_isCouncil [.ref 400, .int x1] f Q := by
  show Wp L xs xm_Mo_isCouncil 0 [.ref 400, .int x1] [] f (QI Q)
  refine w_aload_n (pc' := 1) rfl rfl rfl ?_
  refine w_iconst (pc' := 2) rfl rfl (v := 0) rfl ?_
  refine w_iload_n (pc' := 3) rfl rfl rfl ?_
  refine w_cv (pc' := 6) (cm := xm_Mo_isOf) (as := [.int 0, .int x1]) (a := 400) (rest := []) rfl rfl rfl  (xa_Mo_isOf (Nat.le_of_ble_eq_true rfl)) (show xS0 L 400 = (12, 0) from rfl) rfl (CI.k h fun v1 g1 h => ?_)
  show Wp L xs xm_Mo_isCouncil 6 [.ref 400, .int x1] [.int v1] g1 _
  refine w_br (pc' := 9) (t := 11) rfl rfl rfl ic_ne (fun hc => ?_) (fun hc => ?_)
  · replace h := h.2 hc
    refine w_aload_n (pc' := 12) rfl rfl rfl ?_
    refine w_iconst (pc' := 13) rfl rfl (v := 0) rfl ?_
    refine w_iload_n (pc' := 14) rfl rfl rfl ?_
    refine w_cs (pc' := 17) (cm := xm_Mo_placeOf) (as := [.int 0, .int x1]) (rest := [.ref 400]) rfl rfl rfl (Or.inl rfl) (xa_Mo_placeOf (Nat.le_of_ble_eq_true rfl)) (CI.k h fun v2 g2 h => ?_)
    show Wp L xs xm_Mo_isCouncil 17 [.ref 400, .int x1] [.int v2, .ref 400] g2 _
    refine w_putI (pc' := 20) rfl rfl rfl rfl (show xS0 L 400 = (12, 0) from rfl) ?_
    replace h := h _ rfl
    generalize xu g2 400 11 v2 = g3 at h ⊢
    refine w_aload_n (pc' := 21) rfl rfl rfl ?_
    refine w_aload_n (pc' := 22) rfl rfl rfl ?_
    have q1 : xR0 400 0 = some 401 ∧ xS0 L 401 = (20, 4680) := (kf_12_0 (show xS0 L 400 = (12, 0) from rfl))
    refine w_getR (pc' := 25) rfl rfl rfl rfl (show xS0 L 400 = (12, 0) from rfl) q1.1 ?_
    refine w_aload_n (pc' := 26) rfl rfl rfl ?_
    refine w_getI (pc' := 29) rfl rfl rfl rfl rfl (show xS0 L 400 = (12, 0) from rfl) ?_
    obtain ⟨k1, ek1, bk1, h⟩ := h
    refine w_iaload (pc' := 30) (i := k1) rfl rfl q1.2 ek1 bk1 (by omega) ?_
    refine w_putI (pc' := 33) rfl rfl rfl rfl (show xS0 L 400 = (12, 0) from rfl) ?_
    replace h := h _ rfl
    generalize xu g3 400 12 (g3 401 k1) = g4 at h ⊢
    refine w_aload_n (pc' := 34) rfl rfl rfl ?_
    refine w_iconst (pc' := 35) rfl rfl (v := 3) rfl ?_
    refine w_aload_n (pc' := 36) rfl rfl rfl ?_
    refine w_getI (pc' := 39) rfl rfl rfl rfl rfl (show xS0 L 400 = (12, 0) from rfl) ?_
    refine w_imul (pc' := 40) rfl rfl ?_
    refine w_iconst (pc' := 41) rfl rfl (v := 1) rfl ?_
    refine w_iadd (pc' := 42) rfl rfl ?_
    refine w_putI (pc' := 45) rfl rfl rfl rfl (show xS0 L 400 = (12, 0) from rfl) ?_
    replace h := h _ rfl
    generalize xu g4 400 13 ((3 * (g4 400 12)) + 1) = g5 at h ⊢
    refine w_aload_n (pc' := 46) rfl rfl rfl ?_
    refine w_iconst (pc' := 47) rfl rfl (v := 2) rfl ?_
    refine w_aload_n (pc' := 48) rfl rfl rfl ?_
    refine w_getI (pc' := 51) rfl rfl rfl rfl rfl (show xS0 L 400 = (12, 0) from rfl) ?_
    refine w_imul (pc' := 52) rfl rfl ?_
    refine w_iconst (pc' := 53) rfl rfl (v := 1) rfl ?_
    refine w_iadd (pc' := 54) rfl rfl ?_
    refine w_putI (pc' := 57) rfl rfl rfl rfl (show xS0 L 400 = (12, 0) from rfl) ?_
    replace h := h _ rfl
    generalize xu g5 400 14 ((2 * (g5 400 12)) + 1) = g6 at h ⊢
    refine w_aload_n (pc' := 58) rfl rfl rfl ?_
    refine w_aload_n (pc' := 59) rfl rfl rfl ?_
    have q2 : xR0 400 0 = some 401 ∧ xS0 L 401 = (20, 4680) := (kf_12_0 (show xS0 L 400 = (12, 0) from rfl))
    refine w_getR (pc' := 62) rfl rfl rfl rfl (show xS0 L 400 = (12, 0) from rfl) q2.1 ?_
    refine w_aload_n (pc' := 63) rfl rfl rfl ?_
    refine w_getI (pc' := 66) rfl rfl rfl rfl rfl (show xS0 L 400 = (12, 0) from rfl) ?_
    refine w_iconst (pc' := 67) rfl rfl (v := 1) rfl ?_
    refine w_iadd (pc' := 68) rfl rfl ?_
    obtain ⟨k2, ek2, bk2, h⟩ := h
    refine w_iaload (pc' := 69) (i := k2) rfl rfl q2.2 ek2 bk2 (by omega) ?_
    refine w_putI (pc' := 72) rfl rfl rfl rfl (show xS0 L 400 = (12, 0) from rfl) ?_
    replace h := h _ rfl
    generalize xu g6 400 15 (g6 401 k2) = g7 at h ⊢
    refine w_aload_n (pc' := 73) rfl rfl rfl ?_
    refine w_aload_n (pc' := 74) rfl rfl rfl ?_
    have q3 : xR0 400 0 = some 401 ∧ xS0 L 401 = (20, 4680) := (kf_12_0 (show xS0 L 400 = (12, 0) from rfl))
    refine w_getR (pc' := 77) rfl rfl rfl rfl (show xS0 L 400 = (12, 0) from rfl) q3.1 ?_
    refine w_aload_n (pc' := 78) rfl rfl rfl ?_
    refine w_getI (pc' := 81) rfl rfl rfl rfl rfl (show xS0 L 400 = (12, 0) from rfl) ?_
    refine w_iconst (pc' := 82) rfl rfl (v := 2) rfl ?_
    refine w_iadd (pc' := 83) rfl rfl ?_
    obtain ⟨k3, ek3, bk3, h⟩ := h
    refine w_iaload (pc' := 84) (i := k3) rfl rfl q3.2 ek3 bk3 (by omega) ?_
    refine w_putI (pc' := 87) rfl rfl rfl rfl (show xS0 L 400 = (12, 0) from rfl) ?_
    replace h := h _ rfl
    generalize xu g7 400 16 (g7 401 k3) = g8 at h ⊢
    refine w_aload_n (pc' := 88) rfl rfl rfl ?_
    refine w_aload_n (pc' := 89) rfl rfl rfl ?_
    have q4 : xR0 400 0 = some 401 ∧ xS0 L 401 = (20, 4680) := (kf_12_0 (show xS0 L 400 = (12, 0) from rfl))
    refine w_getR (pc' := 92) rfl rfl rfl rfl (show xS0 L 400 = (12, 0) from rfl) q4.1 ?_
    refine w_aload_n (pc' := 93) rfl rfl rfl ?_
    refine w_getI (pc' := 96) rfl rfl rfl rfl rfl (show xS0 L 400 = (12, 0) from rfl) ?_
    refine w_iconst (pc' := 97) rfl rfl (v := 3) rfl ?_
    refine w_iadd (pc' := 98) rfl rfl ?_
    obtain ⟨k4, ek4, bk4, h⟩ := h
    refine w_iaload (pc' := 99) (i := k4) rfl rfl q4.2 ek4 bk4 (by omega) ?_
    refine w_putI (pc' := 102) rfl rfl rfl rfl (show xS0 L 400 = (12, 0) from rfl) ?_
    replace h := h _ rfl
    generalize xu g8 400 17 (g8 401 k4) = g9 at h ⊢
    refine w_aload_n (pc' := 103) rfl rfl rfl ?_
    refine w_aload_n (pc' := 104) rfl rfl rfl ?_
    have q5 : xR0 400 0 = some 401 ∧ xS0 L 401 = (20, 4680) := (kf_12_0 (show xS0 L 400 = (12, 0) from rfl))
    refine w_getR (pc' := 107) rfl rfl rfl rfl (show xS0 L 400 = (12, 0) from rfl) q5.1 ?_
    refine w_aload_n (pc' := 108) rfl rfl rfl ?_
    refine w_getI (pc' := 111) rfl rfl rfl rfl rfl (show xS0 L 400 = (12, 0) from rfl) ?_
    refine w_iconst (pc' := 112) rfl rfl (v := 4) rfl ?_
    refine w_iadd (pc' := 113) rfl rfl ?_
    obtain ⟨k5, ek5, bk5, h⟩ := h
    refine w_iaload (pc' := 114) (i := k5) rfl rfl q5.2 ek5 bk5 (by omega) ?_
    refine w_putI (pc' := 117) rfl rfl rfl rfl (show xS0 L 400 = (12, 0) from rfl) ?_
    replace h := h _ rfl
    generalize xu g9 400 18 (g9 401 k5) = g10 at h ⊢
    refine w_iconst (pc' := 118) rfl rfl (v := 1) rfl ?_
    exact w_ireturn rfl rfl h
  · replace h := h.1 (Classical.not_not.mp hc)
    refine w_iconst (pc' := 10) rfl rfl (v := 0) rfl ?_
    exact w_ireturn rfl rfl h
theorem t_Mo_isMember_0 {L : Nat} {xs : Nat → Int32} {x1 : Int32} {f : Hp} {Q : Int32 → Hp → Prop}  (h : CI L xs xm_Mo_isIn [.int x1, .int 0, .int ((f 400 13) - 1)] f (fun v1 g1 => (v1 = 0 ∨ v1 = 1) ∧ Q v1 g1)) : CI L xs xm_Mo_isMember [.ref 400, .int x1] f Q := by
  show Wp L xs xm_Mo_isMember 0 [.ref 400, .int x1] [] f (QI Q)
  refine w_iload_n (pc' := 1) rfl rfl rfl ?_
  refine w_iconst (pc' := 2) rfl rfl (v := 0) rfl ?_
  refine w_aload_n (pc' := 3) rfl rfl rfl ?_
  refine w_getI (pc' := 6) rfl rfl rfl rfl rfl (show xS0 L 400 = (12, 0) from rfl) ?_
  refine w_iconst (pc' := 7) rfl rfl (v := 1) rfl ?_
  refine w_isub (pc' := 8) rfl rfl ?_
  refine w_cs (pc' := 11) (cm := xm_Mo_isIn) (as := [.int x1, .int 0, .int ((f 400 13) - 1)]) (rest := []) rfl rfl rfl (Or.inl rfl) (xa_Mo_isIn (Nat.le_of_ble_eq_true rfl)) (CI.k h fun v1 g1 h => ?_)
  show Wp L xs xm_Mo_isMember 11 [.ref 400, .int x1] [.int v1] g1 _
  obtain ⟨q1, h⟩ := h
  exact w_ireturn rfl (xr_bool rfl q1) h
theorem t_Mo_delayOf_0 {L : Nat} {xs : Nat → Int32} {x1 : Int32} {x2 : Int32} {f : Hp} {Q : Int32 → Hp → Prop}  (h : ∃ k1 : Nat, ((((f 400 11) + 33) + (7 * x1)) + x2) = iN k1 ∧ k1 < 4680 ∧ Q (f 401 k1) f) : CI L xs xm_Mo_delayOf [.ref 400, .int x1, .int x2] f Q := by
  show Wp L xs xm_Mo_delayOf 0 [.ref 400, .int x1, .int x2] [] f (QI Q)
  refine w_aload_n (pc' := 1) rfl rfl rfl ?_
  have q1 : xR0 400 0 = some 401 ∧ xS0 L 401 = (20, 4680) := (kf_12_0 (show xS0 L 400 = (12, 0) from rfl))
  refine w_getR (pc' := 4) rfl rfl rfl rfl (show xS0 L 400 = (12, 0) from rfl) q1.1 ?_
  refine w_aload_n (pc' := 5) rfl rfl rfl ?_
  refine w_getI (pc' := 8) rfl rfl rfl rfl rfl (show xS0 L 400 = (12, 0) from rfl) ?_
  refine w_bipush (pc' := 10) rfl rfl (v := 33) rfl ?_
  refine w_iadd (pc' := 11) rfl rfl ?_
  refine w_bipush (pc' := 13) rfl rfl (v := 7) rfl ?_
  refine w_iload_n (pc' := 14) rfl rfl rfl ?_
  refine w_imul (pc' := 15) rfl rfl ?_
  refine w_iadd (pc' := 16) rfl rfl ?_
  refine w_iload_n (pc' := 17) rfl rfl rfl ?_
  refine w_iadd (pc' := 18) rfl rfl ?_
  obtain ⟨k1, ek1, bk1, h⟩ := h
  refine w_iaload (pc' := 19) (i := k1) rfl rfl q1.2 ek1 bk1 (by omega) ?_
  exact w_ireturn rfl rfl h
theorem t_Mo_orderAccount_0 {L : Nat} {xs : Nat → Int32} {x1 : Int32} {f : Hp} {Q : Int32 → Hp → Prop}  (h : ∃ k1 : Nat, (((f 400 11) + 13) + (2 * x1)) = iN k1 ∧ k1 < 4680 ∧ Q (f 401 k1) f) : CI L xs xm_Mo_orderAccount [.ref 400, .int x1] f Q := by
  show Wp L xs xm_Mo_orderAccount 0 [.ref 400, .int x1] [] f (QI Q)
  refine w_aload_n (pc' := 1) rfl rfl rfl ?_
  have q1 : xR0 400 0 = some 401 ∧ xS0 L 401 = (20, 4680) := (kf_12_0 (show xS0 L 400 = (12, 0) from rfl))
  refine w_getR (pc' := 4) rfl rfl rfl rfl (show xS0 L 400 = (12, 0) from rfl) q1.1 ?_
  refine w_aload_n (pc' := 5) rfl rfl rfl ?_
  refine w_getI (pc' := 8) rfl rfl rfl rfl rfl (show xS0 L 400 = (12, 0) from rfl) ?_
  refine w_bipush (pc' := 10) rfl rfl (v := 13) rfl ?_
  refine w_iadd (pc' := 11) rfl rfl ?_
  refine w_iconst (pc' := 12) rfl rfl (v := 2) rfl ?_
  refine w_iload_n (pc' := 13) rfl rfl rfl ?_
  refine w_imul (pc' := 14) rfl rfl ?_
  refine w_iadd (pc' := 15) rfl rfl ?_
  obtain ⟨k1, ek1, bk1, h⟩ := h
  refine w_iaload (pc' := 16) (i := k1) rfl rfl q1.2 ek1 bk1 (by omega) ?_
  exact w_ireturn rfl rfl h
theorem t_Mo_orderPlus_0 {L : Nat} {xs : Nat → Int32} {x1 : Int32} {f : Hp} {Q : Int32 → Hp → Prop}  (h : ∃ k1 : Nat, ((((f 400 11) + 13) + 1) + (2 * x1)) = iN k1 ∧ k1 < 4680 ∧ Q (f 401 k1) f) : CI L xs xm_Mo_orderPlus [.ref 400, .int x1] f Q := by
  show Wp L xs xm_Mo_orderPlus 0 [.ref 400, .int x1] [] f (QI Q)
  refine w_aload_n (pc' := 1) rfl rfl rfl ?_
  have q1 : xR0 400 0 = some 401 ∧ xS0 L 401 = (20, 4680) := (kf_12_0 (show xS0 L 400 = (12, 0) from rfl))
  refine w_getR (pc' := 4) rfl rfl rfl rfl (show xS0 L 400 = (12, 0) from rfl) q1.1 ?_
  refine w_aload_n (pc' := 5) rfl rfl rfl ?_
  refine w_getI (pc' := 8) rfl rfl rfl rfl rfl (show xS0 L 400 = (12, 0) from rfl) ?_
  refine w_bipush (pc' := 10) rfl rfl (v := 13) rfl ?_
  refine w_iadd (pc' := 11) rfl rfl ?_
  refine w_iconst (pc' := 12) rfl rfl (v := 1) rfl ?_
  refine w_iadd (pc' := 13) rfl rfl ?_
  refine w_iconst (pc' := 14) rfl rfl (v := 2) rfl ?_
  refine w_iload_n (pc' := 15) rfl rfl rfl ?_
  refine w_imul (pc' := 16) rfl rfl ?_
  refine w_iadd (pc' := 17) rfl rfl ?_
  obtain ⟨k1, ek1, bk1, h⟩ := h
  refine w_iaload (pc' := 18) (i := k1) rfl rfl q1.2 ek1 bk1 (by omega) ?_
  exact w_ireturn rfl rfl h
theorem t_Mo_tree_0 {L : Nat} {xs : Nat → Int32} {x1 : Int32} {x2 : Int32} {f : Hp} {Q : Int32 → Hp → Prop}  (h : CI L xs xm_Mo_isCouncil [.ref 400, .int x1] f (fun v1 g1 => ((v1 = 0 → Q (-1) g1) ∧ (¬ v1 = 0 → CI L xs xm_Mo_isIn [.int x2, .int 1, .int 15] g1 (fun v2 g2 => ((v2 = 0 → Q (-1) g2) ∧ (¬ v2 = 0 → CV L xs xm_Mo_laysSums [.ref 404, .ref 401, .int ((g2 400 11) + 5)] g2 (fun g3 => ∃ k1 : Nat, x2 = iN k1 ∧ k1 < 16 ∧ Q (g3 404 k1) g3)))))))) : CI L xs xm_Mo_tree [.ref 400, .int x1, .int x2] f Q := by
  show Wp L xs xm_Mo_tree 0 [.ref 400, .int x1, .int x2] [] f (QI Q)
  refine w_aload_n (pc' := 1) rfl rfl rfl ?_
  refine w_iload_n (pc' := 2) rfl rfl rfl ?_
  refine w_cv (pc' := 5) (cm := xm_Mo_isCouncil) (as := [.int x1]) (a := 400) (rest := []) rfl rfl rfl  (xa_Mo_isCouncil (Nat.le_of_ble_eq_true rfl)) (show xS0 L 400 = (12, 0) from rfl) rfl (CI.k h fun v1 g1 h => ?_)
  show Wp L xs xm_Mo_tree 5 [.ref 400, .int x1, .int x2] [.int v1] g1 _
  refine w_br (pc' := 8) (t := 18) rfl rfl rfl ic_eq (fun hc => ?_) (fun hc => ?_)
  · replace h := h.1 hc
    refine w_iconst (pc' := 19) rfl rfl (v := (-1)) rfl ?_
    exact w_ireturn rfl rfl h
  · replace h := h.2 hc
    refine w_iload_n (pc' := 9) rfl rfl rfl ?_
    refine w_iconst (pc' := 10) rfl rfl (v := 1) rfl ?_
    refine w_bipush (pc' := 12) rfl rfl (v := 15) rfl ?_
    refine w_cs (pc' := 15) (cm := xm_Mo_isIn) (as := [.int x2, .int 1, .int 15]) (rest := []) rfl rfl rfl (Or.inl rfl) (xa_Mo_isIn (Nat.le_of_ble_eq_true rfl)) (CI.k h fun v2 g2 h => ?_)
    show Wp L xs xm_Mo_tree 15 [.ref 400, .int x1, .int x2] [.int v2] g2 _
    refine w_br (pc' := 18) (t := 20) rfl rfl rfl ic_ne (fun hc => ?_) (fun hc => ?_)
    · replace h := h.2 hc
      refine w_aload_n (pc' := 21) rfl rfl rfl ?_
      have q1 : xR0 400 19 = some 404 ∧ xS0 L 404 = (20, 16) := (kf_12_19 (show xS0 L 400 = (12, 0) from rfl))
      refine w_getR (pc' := 24) rfl rfl rfl rfl (show xS0 L 400 = (12, 0) from rfl) q1.1 ?_
      refine w_aload_n (pc' := 25) rfl rfl rfl ?_
      have q2 : xR0 400 0 = some 401 ∧ xS0 L 401 = (20, 4680) := (kf_12_0 (show xS0 L 400 = (12, 0) from rfl))
      refine w_getR (pc' := 28) rfl rfl rfl rfl (show xS0 L 400 = (12, 0) from rfl) q2.1 ?_
      refine w_aload_n (pc' := 29) rfl rfl rfl ?_
      refine w_getI (pc' := 32) rfl rfl rfl rfl rfl (show xS0 L 400 = (12, 0) from rfl) ?_
      refine w_iconst (pc' := 33) rfl rfl (v := 5) rfl ?_
      refine w_iadd (pc' := 34) rfl rfl ?_
      refine w_cs (pc' := 37) (cm := xm_Mo_laysSums) (as := [.ref 404, .ref 401, .int ((g2 400 11) + 5)]) (rest := []) rfl rfl rfl (Or.inl rfl) (xa_Mo_laysSums (Nat.le_of_ble_eq_true rfl)) (CV.k h fun g3 h => ?_)
      show Wp L xs xm_Mo_tree 37 [.ref 400, .int x1, .int x2] [] g3 _
      refine w_aload_n (pc' := 38) rfl rfl rfl ?_
      have q3 : xR0 400 19 = some 404 ∧ xS0 L 404 = (20, 16) := (kf_12_19 (show xS0 L 400 = (12, 0) from rfl))
      refine w_getR (pc' := 41) rfl rfl rfl rfl (show xS0 L 400 = (12, 0) from rfl) q3.1 ?_
      refine w_iload_n (pc' := 42) rfl rfl rfl ?_
      obtain ⟨k1, ek1, bk1, h⟩ := h
      refine w_iaload (pc' := 43) (i := k1) rfl rfl q3.2 ek1 bk1 (by omega) ?_
      exact w_ireturn rfl rfl h
    · replace h := h.1 (Classical.not_not.mp hc)
      refine w_iconst (pc' := 19) rfl rfl (v := (-1)) rfl ?_
      exact w_ireturn rfl rfl h
theorem t_Mo_laysSums_0 {L : Nat} {xs : Nat → Int32} {x0 : Nat} {nx0 : Nat} {x1 : Nat} {nx1 : Nat} {x2 : Int32} {f : Hp} {Q : Hp → Prop} (qx0 : xS0 L x0 = (20, nx0)) (qx1 : xS0 L x1 = (20, nx1)) (h : Wp L xs xm_Mo_laysSums 2 [.ref x0, .ref x1, .int x2, .int 0] [] f (QV Q)) : CV L xs xm_Mo_laysSums [.ref x0, .ref x1, .int x2] f Q := by
  show Wp L xs xm_Mo_laysSums 0 [.ref x0, .ref x1, .int x2, .retAddr 0] [] f (QV Q)
  refine w_iconst (pc' := 1) rfl rfl (v := 0) rfl ?_
  refine w_istore_n (pc' := 2) rfl rfl (xl' := [.ref x0, .ref x1, .int x2, .int 0]) rfl ?_
  exact h
theorem t_Mo_laysSums_2 {L : Nat} {xs : Nat → Int32} {x0 : Nat} {nx0 : Nat} {x1 : Nat} {nx1 : Nat} {x2 : Int32} {x3 : Int32} {f : Hp} {Q : Hp → Prop} (qx0 : xS0 L x0 = (20, nx0)) (qx1 : xS0 L x1 = (20, nx1)) (h : ((x3 < 8 → ∃ k1 : Nat, (x2 + x3) = iN k1 ∧ k1 < nx1 ∧ ∃ k2 : Nat, (8 + x3) = iN k2 ∧ k2 < nx0 ∧ ∀ g1, g1 = xu f x0 k2 (f x1 k1) → Wp L xs xm_Mo_laysSums 2 [.ref x0, .ref x1, .int x2, .int (x3 + 1)] [] g1 (QV Q)) ∧ (¬ x3 < 8 → Wp L xs xm_Mo_laysSums 28 [.ref x0, .ref x1, .int x2, .int 7] [] f (QV Q)))) : Wp L xs xm_Mo_laysSums 2 [.ref x0, .ref x1, .int x2, .int x3] [] f (QV Q) := by
  refine w_iload_n (pc' := 3) rfl rfl rfl ?_
  refine w_bipush (pc' := 5) rfl rfl (v := 8) rfl ?_
  refine w_br2 (pc' := 8) (t := 25) rfl rfl rfl ic_ge (fun hc => ?_) (fun hc => ?_)
  · replace h := h.2 hc
    refine w_bipush (pc' := 27) rfl rfl (v := 7) rfl ?_
    refine w_istore_n (pc' := 28) rfl rfl (xl' := [.ref x0, .ref x1, .int x2, .int 7]) rfl ?_
    exact h
  · replace h := h.1 (Classical.not_not.mp hc)
    refine w_aload_n (pc' := 9) rfl rfl rfl ?_
    refine w_bipush (pc' := 11) rfl rfl (v := 8) rfl ?_
    refine w_iload_n (pc' := 12) rfl rfl rfl ?_
    refine w_iadd (pc' := 13) rfl rfl ?_
    refine w_aload_n (pc' := 14) rfl rfl rfl ?_
    refine w_iload_n (pc' := 15) rfl rfl rfl ?_
    refine w_iload_n (pc' := 16) rfl rfl rfl ?_
    refine w_iadd (pc' := 17) rfl rfl ?_
    obtain ⟨k1, ek1, bk1, h⟩ := h
    refine w_iaload (pc' := 18) (i := k1) rfl rfl qx1 ek1 bk1 (k_len qx1 rfl) ?_
    obtain ⟨k2, ek2, bk2, h⟩ := h
    refine w_iastore (pc' := 19) (i := k2) rfl rfl qx0 ek2 bk2 (k_len qx0 rfl) ?_
    replace h := h _ rfl
    generalize xu f x0 k2 (f x1 k1) = g1 at h ⊢
    refine w_iinc (pc' := 22) rfl rfl rfl (v := (x3 + 1)) rfl (xl' := [.ref x0, .ref x1, .int x2, .int (x3 + 1)]) rfl ?_
    refine w_goto (pc' := 2) rfl rfl ?_
    exact h
theorem t_Mo_laysSums_28 {L : Nat} {xs : Nat → Int32} {x0 : Nat} {nx0 : Nat} {x1 : Nat} {nx1 : Nat} {x2 : Int32} {x3 : Int32} {f : Hp} {Q : Hp → Prop} (qx0 : xS0 L x0 = (20, nx0)) (qx1 : xS0 L x1 = (20, nx1)) (h : ((0 < x3 → ∃ k1 : Nat, (2 * x3) = iN k1 ∧ k1 < nx0 ∧ ∃ k2 : Nat, ((2 * x3) + 1) = iN k2 ∧ k2 < nx0 ∧ ∃ k3 : Nat, x3 = iN k3 ∧ k3 < nx0 ∧ ∀ g1, g1 = xu f x0 k3 (jrem (((31 * (f x0 k1)) + (17 * (f x0 k2))) + 7) 9973) → Wp L xs xm_Mo_laysSums 28 [.ref x0, .ref x1, .int x2, .int (x3 + (-1))] [] g1 (QV Q)) ∧ (¬ 0 < x3 → Q f))) : Wp L xs xm_Mo_laysSums 28 [.ref x0, .ref x1, .int x2, .int x3] [] f (QV Q) := by
  refine w_iload_n (pc' := 29) rfl rfl rfl ?_
  refine w_br (pc' := 32) (t := 67) rfl rfl rfl ic_le (fun hc => ?_) (fun hc => ?_)
  · replace h := h.2 hc
    exact w_return rfl rfl h
  · replace h := h.1 (Classical.not_not.mp hc)
    refine w_aload_n (pc' := 33) rfl rfl rfl ?_
    refine w_iload_n (pc' := 34) rfl rfl rfl ?_
    refine w_bipush (pc' := 36) rfl rfl (v := 31) rfl ?_
    refine w_aload_n (pc' := 37) rfl rfl rfl ?_
    refine w_iconst (pc' := 38) rfl rfl (v := 2) rfl ?_
    refine w_iload_n (pc' := 39) rfl rfl rfl ?_
    refine w_imul (pc' := 40) rfl rfl ?_
    obtain ⟨k1, ek1, bk1, h⟩ := h
    refine w_iaload (pc' := 41) (i := k1) rfl rfl qx0 ek1 bk1 (k_len qx0 rfl) ?_
    refine w_imul (pc' := 42) rfl rfl ?_
    refine w_bipush (pc' := 44) rfl rfl (v := 17) rfl ?_
    refine w_aload_n (pc' := 45) rfl rfl rfl ?_
    refine w_iconst (pc' := 46) rfl rfl (v := 2) rfl ?_
    refine w_iload_n (pc' := 47) rfl rfl rfl ?_
    refine w_imul (pc' := 48) rfl rfl ?_
    refine w_iconst (pc' := 49) rfl rfl (v := 1) rfl ?_
    refine w_iadd (pc' := 50) rfl rfl ?_
    obtain ⟨k2, ek2, bk2, h⟩ := h
    refine w_iaload (pc' := 51) (i := k2) rfl rfl qx0 ek2 bk2 (k_len qx0 rfl) ?_
    refine w_imul (pc' := 52) rfl rfl ?_
    refine w_iadd (pc' := 53) rfl rfl ?_
    refine w_bipush (pc' := 55) rfl rfl (v := 7) rfl ?_
    refine w_iadd (pc' := 56) rfl rfl ?_
    refine w_sipush (pc' := 59) rfl rfl (v := 9973) rfl ?_
    refine w_irem (pc' := 60) rfl rfl (by decide) ?_
    obtain ⟨k3, ek3, bk3, h⟩ := h
    refine w_iastore (pc' := 61) (i := k3) rfl rfl qx0 ek3 bk3 (k_len qx0 rfl) ?_
    replace h := h _ rfl
    generalize xu f x0 k3 (jrem (((31 * (f x0 k1)) + (17 * (f x0 k2))) + 7) 9973) = g1 at h ⊢
    refine w_iinc (pc' := 64) rfl rfl rfl (v := (x3 + (-1))) rfl (xl' := [.ref x0, .ref x1, .int x2, .int (x3 + (-1))]) rfl ?_
    refine w_goto (pc' := 28) rfl rfl ?_
    exact h
theorem t_Mo_differ_0 {L : Nat} {xs : Nat → Int32} {x1 : Int32} {x2 : Int32} {x3 : Int32} {f : Hp} {Q : Int32 → Hp → Prop}  (h : CI L xs xm_Mo_isOf [.ref 400, .int 0, .int x1] f (fun v1 g1 => ((v1 = 0 → Q (-1) g1) ∧ (¬ v1 = 0 → CI L xs xm_Mo_isCouncil [.ref 400, .int x2] g1 (fun v2 g2 => ((v2 = 0 → Q (-1) g2) ∧ (¬ v2 = 0 → CI L xs xm_Mo_isIn [.int x3, .int 0, .int 2] g2 (fun v3 g3 => ((v3 = 0 → Q (-1) g3) ∧ (¬ v3 = 0 → CV L xs xm_Mo_laysSums [.ref 405, .ref 401, .int ((g3 400 11) + 5)] g3 (fun g4 => CI L xs xm_Mo_isCouncil [.ref 400, .int x1] g4 (fun v4 g5 => CV L xs xm_Mo_laysSums [.ref 404, .ref 401, .int ((g5 400 11) + 5)] g5 (fun g6 => CV L xs xm_Mo_seeks [.ref 400] g6 (fun g7 => ((x3 < 2 → ((x3 = 0 → Q (g7 400 21) g7) ∧ (¬ x3 = 0 → Q (g7 400 22) g7))) ∧ (¬ x3 < 2 → Wp L xs xm_Mo_differ 107 [.ref 400, .int x1, .int x2, .int x3, .int ((g4 400 11) + 5), .int 1, .int 0] [] g7 (QI Q))))))))))))))))) : CI L xs xm_Mo_differ [.ref 400, .int x1, .int x2, .int x3] f Q := by
  show Wp L xs xm_Mo_differ 0 [.ref 400, .int x1, .int x2, .int x3, .retAddr 0, .retAddr 0, .retAddr 0] [] f (QI Q)
  refine w_aload_n (pc' := 1) rfl rfl rfl ?_
  refine w_iconst (pc' := 2) rfl rfl (v := 0) rfl ?_
  refine w_iload_n (pc' := 3) rfl rfl rfl ?_
  refine w_cv (pc' := 6) (cm := xm_Mo_isOf) (as := [.int 0, .int x1]) (a := 400) (rest := []) rfl rfl rfl  (xa_Mo_isOf (Nat.le_of_ble_eq_true rfl)) (show xS0 L 400 = (12, 0) from rfl) rfl (CI.k h fun v1 g1 h => ?_)
  show Wp L xs xm_Mo_differ 6 [.ref 400, .int x1, .int x2, .int x3, .retAddr 0, .retAddr 0, .retAddr 0] [.int v1] g1 _
  refine w_br (pc' := 9) (t := 26) rfl rfl rfl ic_eq (fun hc => ?_) (fun hc => ?_)
  · replace h := h.1 hc
    refine w_iconst (pc' := 27) rfl rfl (v := (-1)) rfl ?_
    exact w_ireturn rfl rfl h
  · replace h := h.2 hc
    refine w_aload_n (pc' := 10) rfl rfl rfl ?_
    refine w_iload_n (pc' := 11) rfl rfl rfl ?_
    refine w_cv (pc' := 14) (cm := xm_Mo_isCouncil) (as := [.int x2]) (a := 400) (rest := []) rfl rfl rfl  (xa_Mo_isCouncil (Nat.le_of_ble_eq_true rfl)) (show xS0 L 400 = (12, 0) from rfl) rfl (CI.k h fun v2 g2 h => ?_)
    show Wp L xs xm_Mo_differ 14 [.ref 400, .int x1, .int x2, .int x3, .retAddr 0, .retAddr 0, .retAddr 0] [.int v2] g2 _
    refine w_br (pc' := 17) (t := 26) rfl rfl rfl ic_eq (fun hc => ?_) (fun hc => ?_)
    · replace h := h.1 hc
      refine w_iconst (pc' := 27) rfl rfl (v := (-1)) rfl ?_
      exact w_ireturn rfl rfl h
    · replace h := h.2 hc
      refine w_iload_n (pc' := 18) rfl rfl rfl ?_
      refine w_iconst (pc' := 19) rfl rfl (v := 0) rfl ?_
      refine w_iconst (pc' := 20) rfl rfl (v := 2) rfl ?_
      refine w_cs (pc' := 23) (cm := xm_Mo_isIn) (as := [.int x3, .int 0, .int 2]) (rest := []) rfl rfl rfl (Or.inl rfl) (xa_Mo_isIn (Nat.le_of_ble_eq_true rfl)) (CI.k h fun v3 g3 h => ?_)
      show Wp L xs xm_Mo_differ 23 [.ref 400, .int x1, .int x2, .int x3, .retAddr 0, .retAddr 0, .retAddr 0] [.int v3] g3 _
      refine w_br (pc' := 26) (t := 28) rfl rfl rfl ic_ne (fun hc => ?_) (fun hc => ?_)
      · replace h := h.2 hc
        refine w_aload_n (pc' := 29) rfl rfl rfl ?_
        have q1 : xR0 400 20 = some 405 ∧ xS0 L 405 = (20, 16) := (kf_12_20 (show xS0 L 400 = (12, 0) from rfl))
        refine w_getR (pc' := 32) rfl rfl rfl rfl (show xS0 L 400 = (12, 0) from rfl) q1.1 ?_
        refine w_aload_n (pc' := 33) rfl rfl rfl ?_
        have q2 : xR0 400 0 = some 401 ∧ xS0 L 401 = (20, 4680) := (kf_12_0 (show xS0 L 400 = (12, 0) from rfl))
        refine w_getR (pc' := 36) rfl rfl rfl rfl (show xS0 L 400 = (12, 0) from rfl) q2.1 ?_
        refine w_aload_n (pc' := 37) rfl rfl rfl ?_
        refine w_getI (pc' := 40) rfl rfl rfl rfl rfl (show xS0 L 400 = (12, 0) from rfl) ?_
        refine w_iconst (pc' := 41) rfl rfl (v := 5) rfl ?_
        refine w_iadd (pc' := 42) rfl rfl ?_
        refine w_cs (pc' := 45) (cm := xm_Mo_laysSums) (as := [.ref 405, .ref 401, .int ((g3 400 11) + 5)]) (rest := []) rfl rfl rfl (Or.inl rfl) (xa_Mo_laysSums (Nat.le_of_ble_eq_true rfl)) (CV.k h fun g4 h => ?_)
        show Wp L xs xm_Mo_differ 45 [.ref 400, .int x1, .int x2, .int x3, .retAddr 0, .retAddr 0, .retAddr 0] [] g4 _
        refine w_aload_n (pc' := 46) rfl rfl rfl ?_
        refine w_getI (pc' := 49) rfl rfl rfl rfl rfl (show xS0 L 400 = (12, 0) from rfl) ?_
        refine w_iconst (pc' := 50) rfl rfl (v := 5) rfl ?_
        refine w_iadd (pc' := 51) rfl rfl ?_
        refine w_istore (pc' := 53) rfl rfl (xl' := [.ref 400, .int x1, .int x2, .int x3, .int ((g4 400 11) + 5), .retAddr 0, .retAddr 0]) rfl ?_
        refine w_aload_n (pc' := 54) rfl rfl rfl ?_
        refine w_iload_n (pc' := 55) rfl rfl rfl ?_
        refine w_cv (pc' := 58) (cm := xm_Mo_isCouncil) (as := [.int x1]) (a := 400) (rest := []) rfl rfl rfl  (xa_Mo_isCouncil (Nat.le_of_ble_eq_true rfl)) (show xS0 L 400 = (12, 0) from rfl) rfl (CI.k h fun v4 g5 h => ?_)
        show Wp L xs xm_Mo_differ 58 [.ref 400, .int x1, .int x2, .int x3, .int ((g4 400 11) + 5), .retAddr 0, .retAddr 0] [.int v4] g5 _
        refine w_popI (pc' := 59) rfl rfl ?_
        refine w_aload_n (pc' := 60) rfl rfl rfl ?_
        have q3 : xR0 400 19 = some 404 ∧ xS0 L 404 = (20, 16) := (kf_12_19 (show xS0 L 400 = (12, 0) from rfl))
        refine w_getR (pc' := 63) rfl rfl rfl rfl (show xS0 L 400 = (12, 0) from rfl) q3.1 ?_
        refine w_aload_n (pc' := 64) rfl rfl rfl ?_
        have q4 : xR0 400 0 = some 401 ∧ xS0 L 401 = (20, 4680) := (kf_12_0 (show xS0 L 400 = (12, 0) from rfl))
        refine w_getR (pc' := 67) rfl rfl rfl rfl (show xS0 L 400 = (12, 0) from rfl) q4.1 ?_
        refine w_aload_n (pc' := 68) rfl rfl rfl ?_
        refine w_getI (pc' := 71) rfl rfl rfl rfl rfl (show xS0 L 400 = (12, 0) from rfl) ?_
        refine w_iconst (pc' := 72) rfl rfl (v := 5) rfl ?_
        refine w_iadd (pc' := 73) rfl rfl ?_
        refine w_cs (pc' := 76) (cm := xm_Mo_laysSums) (as := [.ref 404, .ref 401, .int ((g5 400 11) + 5)]) (rest := []) rfl rfl rfl (Or.inl rfl) (xa_Mo_laysSums (Nat.le_of_ble_eq_true rfl)) (CV.k h fun g6 h => ?_)
        show Wp L xs xm_Mo_differ 76 [.ref 400, .int x1, .int x2, .int x3, .int ((g4 400 11) + 5), .retAddr 0, .retAddr 0] [] g6 _
        refine w_aload_n (pc' := 77) rfl rfl rfl ?_
        refine w_cv (pc' := 80) (cm := xm_Mo_seeks) (as := []) (a := 400) (rest := []) rfl rfl rfl  (xa_Mo_seeks (Nat.le_of_ble_eq_true rfl)) (show xS0 L 400 = (12, 0) from rfl) rfl (CV.k h fun g7 h => ?_)
        show Wp L xs xm_Mo_differ 80 [.ref 400, .int x1, .int x2, .int x3, .int ((g4 400 11) + 5), .retAddr 0, .retAddr 0] [] g7 _
        refine w_iload_n (pc' := 81) rfl rfl rfl ?_
        refine w_iconst (pc' := 82) rfl rfl (v := 2) rfl ?_
        refine w_br2 (pc' := 85) (t := 101) rfl rfl rfl ic_ge (fun hc => ?_) (fun hc => ?_)
        · replace h := h.2 hc
          refine w_iconst (pc' := 102) rfl rfl (v := 1) rfl ?_
          refine w_istore (pc' := 104) rfl rfl (xl' := [.ref 400, .int x1, .int x2, .int x3, .int ((g4 400 11) + 5), .int 1, .retAddr 0]) rfl ?_
          refine w_iconst (pc' := 105) rfl rfl (v := 0) rfl ?_
          refine w_istore (pc' := 107) rfl rfl (xl' := [.ref 400, .int x1, .int x2, .int x3, .int ((g4 400 11) + 5), .int 1, .int 0]) rfl ?_
          exact h
        · replace h := h.1 (Classical.not_not.mp hc)
          refine w_iload_n (pc' := 86) rfl rfl rfl ?_
          refine w_br (pc' := 89) (t := 96) rfl rfl rfl ic_ne (fun hc => ?_) (fun hc => ?_)
          · replace h := h.2 hc
            refine w_aload_n (pc' := 97) rfl rfl rfl ?_
            refine w_getI (pc' := 100) rfl rfl rfl rfl rfl (show xS0 L 400 = (12, 0) from rfl) ?_
            exact w_ireturn rfl rfl h
          · replace h := h.1 (Classical.not_not.mp hc)
            refine w_aload_n (pc' := 90) rfl rfl rfl ?_
            refine w_getI (pc' := 93) rfl rfl rfl rfl rfl (show xS0 L 400 = (12, 0) from rfl) ?_
            refine w_goto (pc' := 100) rfl rfl ?_
            exact w_ireturn rfl rfl h
      · replace h := h.1 (Classical.not_not.mp hc)
        refine w_iconst (pc' := 27) rfl rfl (v := (-1)) rfl ?_
        exact w_ireturn rfl rfl h
theorem t_Mo_differ_107 {L : Nat} {xs : Nat → Int32} {x1 : Int32} {x2 : Int32} {x3 : Int32} {x4 : Int32} {x5 : Int32} {x6 : Int32} {f : Hp} {Q : Int32 → Hp → Prop}  (h : ((x6 < 8 → ((x5 = 0 → Wp L xs xm_Mo_differ 107 [.ref 400, .int x1, .int x2, .int x3, .int x4, .int 0, .int (x6 + 1)] [] f (QI Q)) ∧ (¬ x5 = 0 → (((((f 400 22) >>> (x6 &&& 31)) &&& 1) = 1 → Wp L xs xm_Mo_differ 107 [.ref 400, .int x1, .int x2, .int x3, .int x4, .int 1, .int (x6 + 1)] [] f (QI Q)) ∧ (¬ (((f 400 22) >>> (x6 &&& 31)) &&& 1) = 1 → ∃ k1 : Nat, (x4 + x6) = iN k1 ∧ k1 < 4680 ∧ ∃ k2 : Nat, (((f 400 11) + 5) + x6) = iN k2 ∧ k2 < 4680 ∧ (((f 401 k1) = (f 401 k2) → Wp L xs xm_Mo_differ 107 [.ref 400, .int x1, .int x2, .int x3, .int x4, .int 1, .int (x6 + 1)] [] f (QI Q)) ∧ (¬ (f 401 k1) = (f 401 k2) → Wp L xs xm_Mo_differ 107 [.ref 400, .int x1, .int x2, .int x3, .int x4, .int 0, .int (x6 + 1)] [] f (QI Q)))))))) ∧ (¬ x6 < 8 → ((x5 = 0 → Q 0 f) ∧ (¬ x5 = 0 → Q 1 f))))) : Wp L xs xm_Mo_differ 107 [.ref 400, .int x1, .int x2, .int x3, .int x4, .int x5, .int x6] [] f (QI Q) := by
  refine w_iload (pc' := 109) rfl rfl rfl ?_
  refine w_bipush (pc' := 111) rfl rfl (v := 8) rfl ?_
  refine w_br2 (pc' := 114) (t := 172) rfl rfl rfl ic_ge (fun hc => ?_) (fun hc => ?_)
  · replace h := h.2 hc
    refine w_iload (pc' := 174) rfl rfl rfl ?_
    refine w_br (pc' := 177) (t := 181) rfl rfl rfl ic_eq (fun hc => ?_) (fun hc => ?_)
    · replace h := h.1 hc
      refine w_iconst (pc' := 182) rfl rfl (v := 0) rfl ?_
      exact w_ireturn rfl rfl h
    · replace h := h.2 hc
      refine w_iconst (pc' := 178) rfl rfl (v := 1) rfl ?_
      refine w_goto (pc' := 182) rfl rfl ?_
      exact w_ireturn rfl rfl h
  · replace h := h.1 (Classical.not_not.mp hc)
    refine w_iload (pc' := 116) rfl rfl rfl ?_
    refine w_br (pc' := 119) (t := 163) rfl rfl rfl ic_eq (fun hc => ?_) (fun hc => ?_)
    · replace h := h.1 hc
      refine w_iconst (pc' := 164) rfl rfl (v := 0) rfl ?_
      refine w_istore (pc' := 166) rfl rfl (xl' := [.ref 400, .int x1, .int x2, .int x3, .int x4, .int 0, .int x6]) rfl ?_
      refine w_iinc (pc' := 169) rfl rfl rfl (v := (x6 + 1)) rfl (xl' := [.ref 400, .int x1, .int x2, .int x3, .int x4, .int 0, .int (x6 + 1)]) rfl ?_
      refine w_goto (pc' := 107) rfl rfl ?_
      exact h
    · replace h := h.2 hc
      refine w_aload_n (pc' := 120) rfl rfl rfl ?_
      refine w_getI (pc' := 123) rfl rfl rfl rfl rfl (show xS0 L 400 = (12, 0) from rfl) ?_
      refine w_iload (pc' := 125) rfl rfl rfl ?_
      refine w_ishr (pc' := 126) rfl rfl ?_
      refine w_iconst (pc' := 127) rfl rfl (v := 1) rfl ?_
      refine w_iand (pc' := 128) rfl rfl ?_
      refine w_iconst (pc' := 129) rfl rfl (v := 1) rfl ?_
      refine w_br2 (pc' := 132) (t := 159) rfl rfl rfl ic_eq (fun hc => ?_) (fun hc => ?_)
      · replace h := h.1 hc
        refine w_iconst (pc' := 160) rfl rfl (v := 1) rfl ?_
        refine w_goto (pc' := 164) rfl rfl ?_
        refine w_istore (pc' := 166) rfl rfl (xl' := [.ref 400, .int x1, .int x2, .int x3, .int x4, .int 1, .int x6]) rfl ?_
        refine w_iinc (pc' := 169) rfl rfl rfl (v := (x6 + 1)) rfl (xl' := [.ref 400, .int x1, .int x2, .int x3, .int x4, .int 1, .int (x6 + 1)]) rfl ?_
        refine w_goto (pc' := 107) rfl rfl ?_
        exact h
      · replace h := h.2 hc
        refine w_aload_n (pc' := 133) rfl rfl rfl ?_
        have q1 : xR0 400 0 = some 401 ∧ xS0 L 401 = (20, 4680) := (kf_12_0 (show xS0 L 400 = (12, 0) from rfl))
        refine w_getR (pc' := 136) rfl rfl rfl rfl (show xS0 L 400 = (12, 0) from rfl) q1.1 ?_
        refine w_iload (pc' := 138) rfl rfl rfl ?_
        refine w_iload (pc' := 140) rfl rfl rfl ?_
        refine w_iadd (pc' := 141) rfl rfl ?_
        obtain ⟨k1, ek1, bk1, h⟩ := h
        refine w_iaload (pc' := 142) (i := k1) rfl rfl q1.2 ek1 bk1 (by omega) ?_
        refine w_aload_n (pc' := 143) rfl rfl rfl ?_
        have q2 : xR0 400 0 = some 401 ∧ xS0 L 401 = (20, 4680) := (kf_12_0 (show xS0 L 400 = (12, 0) from rfl))
        refine w_getR (pc' := 146) rfl rfl rfl rfl (show xS0 L 400 = (12, 0) from rfl) q2.1 ?_
        refine w_aload_n (pc' := 147) rfl rfl rfl ?_
        refine w_getI (pc' := 150) rfl rfl rfl rfl rfl (show xS0 L 400 = (12, 0) from rfl) ?_
        refine w_iconst (pc' := 151) rfl rfl (v := 5) rfl ?_
        refine w_iadd (pc' := 152) rfl rfl ?_
        refine w_iload (pc' := 154) rfl rfl rfl ?_
        refine w_iadd (pc' := 155) rfl rfl ?_
        obtain ⟨k2, ek2, bk2, h⟩ := h
        refine w_iaload (pc' := 156) (i := k2) rfl rfl q2.2 ek2 bk2 (by omega) ?_
        refine w_br2 (pc' := 159) (t := 163) rfl rfl rfl ic_ne (fun hc => ?_) (fun hc => ?_)
        · replace h := h.2 hc
          refine w_iconst (pc' := 164) rfl rfl (v := 0) rfl ?_
          refine w_istore (pc' := 166) rfl rfl (xl' := [.ref 400, .int x1, .int x2, .int x3, .int x4, .int 0, .int x6]) rfl ?_
          refine w_iinc (pc' := 169) rfl rfl rfl (v := (x6 + 1)) rfl (xl' := [.ref 400, .int x1, .int x2, .int x3, .int x4, .int 0, .int (x6 + 1)]) rfl ?_
          refine w_goto (pc' := 107) rfl rfl ?_
          exact h
        · replace h := h.1 (Classical.not_not.mp hc)
          refine w_iconst (pc' := 160) rfl rfl (v := 1) rfl ?_
          refine w_goto (pc' := 164) rfl rfl ?_
          refine w_istore (pc' := 166) rfl rfl (xl' := [.ref 400, .int x1, .int x2, .int x3, .int x4, .int 1, .int x6]) rfl ?_
          refine w_iinc (pc' := 169) rfl rfl rfl (v := (x6 + 1)) rfl (xl' := [.ref 400, .int x1, .int x2, .int x3, .int x4, .int 1, .int (x6 + 1)]) rfl ?_
          refine w_goto (pc' := 107) rfl rfl ?_
          exact h
theorem t_Mo_seeks_0 {L : Nat} {xs : Nat → Int32}  {f : Hp} {Q : Hp → Prop}  (h : ∀ g1, g1 = xu f 400 21 1 → ∀ g2, g2 = xu g1 400 22 0 → (((g2 404 1) = (g2 405 1) → Wp L xs xm_Mo_seeks 33 [.ref 400, .int 0, .int 1, .retAddr 0] [] g2 (QV Q)) ∧ (¬ (g2 404 1) = (g2 405 1) → Wp L xs xm_Mo_seeks 33 [.ref 400, .int 2, .int 1, .retAddr 0] [] g2 (QV Q)))) : CV L xs xm_Mo_seeks [.ref 400] f Q := by
  show Wp L xs xm_Mo_seeks 0 [.ref 400, .retAddr 0, .retAddr 0, .retAddr 0] [] f (QV Q)
  refine w_aload_n (pc' := 1) rfl rfl rfl ?_
  refine w_iconst (pc' := 2) rfl rfl (v := 1) rfl ?_
  refine w_putI (pc' := 5) rfl rfl rfl rfl (show xS0 L 400 = (12, 0) from rfl) ?_
  replace h := h _ rfl
  generalize xu f 400 21 1 = g1 at h ⊢
  refine w_aload_n (pc' := 6) rfl rfl rfl ?_
  refine w_iconst (pc' := 7) rfl rfl (v := 0) rfl ?_
  refine w_putI (pc' := 10) rfl rfl rfl rfl (show xS0 L 400 = (12, 0) from rfl) ?_
  replace h := h _ rfl
  generalize xu g1 400 22 0 = g2 at h ⊢
  refine w_aload_n (pc' := 11) rfl rfl rfl ?_
  have q1 : xR0 400 19 = some 404 ∧ xS0 L 404 = (20, 16) := (kf_12_19 (show xS0 L 400 = (12, 0) from rfl))
  refine w_getR (pc' := 14) rfl rfl rfl rfl (show xS0 L 400 = (12, 0) from rfl) q1.1 ?_
  refine w_iconst (pc' := 15) rfl rfl (v := 1) rfl ?_
  refine w_iaload (pc' := 16) (i := 1) rfl rfl q1.2 rfl (by omega) (by omega) ?_
  refine w_aload_n (pc' := 17) rfl rfl rfl ?_
  have q2 : xR0 400 20 = some 405 ∧ xS0 L 405 = (20, 16) := (kf_12_20 (show xS0 L 400 = (12, 0) from rfl))
  refine w_getR (pc' := 20) rfl rfl rfl rfl (show xS0 L 400 = (12, 0) from rfl) q2.1 ?_
  refine w_iconst (pc' := 21) rfl rfl (v := 1) rfl ?_
  refine w_iaload (pc' := 22) (i := 1) rfl rfl q2.2 rfl (by omega) (by omega) ?_
  refine w_br2 (pc' := 25) (t := 29) rfl rfl rfl ic_ne (fun hc => ?_) (fun hc => ?_)
  · replace h := h.2 hc
    refine w_iconst (pc' := 30) rfl rfl (v := 2) rfl ?_
    refine w_istore_n (pc' := 31) rfl rfl (xl' := [.ref 400, .int 2, .retAddr 0, .retAddr 0]) rfl ?_
    refine w_iconst (pc' := 32) rfl rfl (v := 1) rfl ?_
    refine w_istore_n (pc' := 33) rfl rfl (xl' := [.ref 400, .int 2, .int 1, .retAddr 0]) rfl ?_
    exact h
  · replace h := h.1 (Classical.not_not.mp hc)
    refine w_iconst (pc' := 26) rfl rfl (v := 0) rfl ?_
    refine w_goto (pc' := 30) rfl rfl ?_
    refine w_istore_n (pc' := 31) rfl rfl (xl' := [.ref 400, .int 0, .retAddr 0, .retAddr 0]) rfl ?_
    refine w_iconst (pc' := 32) rfl rfl (v := 1) rfl ?_
    refine w_istore_n (pc' := 33) rfl rfl (xl' := [.ref 400, .int 0, .int 1, .retAddr 0]) rfl ?_
    exact h
theorem t_Mo_seeks_33 {L : Nat} {xs : Nat → Int32} {x1 : Int32} {x2 : Int32} {x3 : Value} {f : Hp} {Q : Hp → Prop} (cx3 : (x3.category != 2) = true) (h : ((x2 < 8 → ((((x1 >>> (x2 &&& 31)) &&& 1) = 0 → Wp L xs xm_Mo_seeks 33 [.ref 400, .int x1, .int (x2 + 1), x3] [] f (QV Q)) ∧ (¬ ((x1 >>> (x2 &&& 31)) &&& 1) = 0 → ∀ g1, g1 = xu f 400 21 ((f 400 21) + 2) → Wp L xs xm_Mo_seeks 64 [.ref 400, .int x1, .int x2, .int (2 * x2)] [] g1 (QV Q)))) ∧ (¬ x2 < 8 → Wp L xs xm_Mo_seeks 112 [.ref 400, .int x1, .int 0, x3] [] f (QV Q)))) : Wp L xs xm_Mo_seeks 33 [.ref 400, .int x1, .int x2, x3] [] f (QV Q) := by
  refine w_iload_n (pc' := 34) rfl rfl rfl ?_
  refine w_bipush (pc' := 36) rfl rfl (v := 8) rfl ?_
  refine w_br2 (pc' := 39) (t := 110) rfl rfl rfl ic_ge (fun hc => ?_) (fun hc => ?_)
  · replace h := h.2 hc
    refine w_iconst (pc' := 111) rfl rfl (v := 0) rfl ?_
    refine w_istore_n (pc' := 112) rfl rfl (xl' := [.ref 400, .int x1, .int 0, x3]) rfl ?_
    exact h
  · replace h := h.1 (Classical.not_not.mp hc)
    refine w_iload_n (pc' := 40) rfl rfl rfl ?_
    refine w_iload_n (pc' := 41) rfl rfl rfl ?_
    refine w_ishr (pc' := 42) rfl rfl ?_
    refine w_iconst (pc' := 43) rfl rfl (v := 1) rfl ?_
    refine w_iand (pc' := 44) rfl rfl ?_
    refine w_br (pc' := 47) (t := 50) rfl rfl rfl ic_ne (fun hc => ?_) (fun hc => ?_)
    · replace h := h.2 hc
      refine w_aload_n (pc' := 51) rfl rfl rfl ?_
      refine w_dupA (pc' := 52) rfl rfl ?_
      refine w_getI (pc' := 55) rfl rfl rfl rfl rfl (show xS0 L 400 = (12, 0) from rfl) ?_
      refine w_iconst (pc' := 56) rfl rfl (v := 2) rfl ?_
      refine w_iadd (pc' := 57) rfl rfl ?_
      refine w_putI (pc' := 60) rfl rfl rfl rfl (show xS0 L 400 = (12, 0) from rfl) ?_
      replace h := h _ rfl
      generalize xu f 400 21 ((f 400 21) + 2) = g1 at h ⊢
      refine w_iconst (pc' := 61) rfl rfl (v := 2) rfl ?_
      refine w_iload_n (pc' := 62) rfl rfl rfl ?_
      refine w_imul (pc' := 63) rfl rfl ?_
      refine w_istore_n (pc' := 64) rfl rfl (xl' := [.ref 400, .int x1, .int x2, .int (2 * x2)]) rfl ?_
      exact h
    · replace h := h.1 (Classical.not_not.mp hc)
      refine w_goto (pc' := 104) rfl rfl ?_
      refine w_iinc (pc' := 107) rfl rfl rfl (v := (x2 + 1)) rfl (xl' := [.ref 400, .int x1, .int (x2 + 1), x3]) rfl ?_
      refine w_goto (pc' := 33) rfl rfl ?_
      exact h
theorem t_Mo_seeks_64 {L : Nat} {xs : Nat → Int32} {x1 : Int32} {x2 : Int32} {x3 : Int32} {f : Hp} {Q : Hp → Prop}  (h : ((((2 * x2) + 1) < x3 → Wp L xs xm_Mo_seeks 33 [.ref 400, .int x1, .int (x2 + 1), .int x3] [] f (QV Q)) ∧ (¬ ((2 * x2) + 1) < x3 → ∃ k1 : Nat, x3 = iN k1 ∧ k1 < 16 ∧ (((f 404 k1) = (f 405 k1) → Wp L xs xm_Mo_seeks 64 [.ref 400, .int (x1 ||| 0), .int x2, .int (x3 + 1)] [] f (QV Q)) ∧ (¬ (f 404 k1) = (f 405 k1) → Wp L xs xm_Mo_seeks 64 [.ref 400, .int (x1 ||| (1 <<< (x3 &&& 31))), .int x2, .int (x3 + 1)] [] f (QV Q)))))) : Wp L xs xm_Mo_seeks 64 [.ref 400, .int x1, .int x2, .int x3] [] f (QV Q) := by
  refine w_iload_n (pc' := 65) rfl rfl rfl ?_
  refine w_iconst (pc' := 66) rfl rfl (v := 2) rfl ?_
  refine w_iload_n (pc' := 67) rfl rfl rfl ?_
  refine w_imul (pc' := 68) rfl rfl ?_
  refine w_iconst (pc' := 69) rfl rfl (v := 1) rfl ?_
  refine w_iadd (pc' := 70) rfl rfl ?_
  refine w_br2 (pc' := 73) (t := 104) rfl rfl rfl ic_gt (fun hc => ?_) (fun hc => ?_)
  · replace h := h.1 hc
    refine w_iinc (pc' := 107) rfl rfl rfl (v := (x2 + 1)) rfl (xl' := [.ref 400, .int x1, .int (x2 + 1), .int x3]) rfl ?_
    refine w_goto (pc' := 33) rfl rfl ?_
    exact h
  · replace h := h.2 hc
    refine w_iload_n (pc' := 74) rfl rfl rfl ?_
    refine w_aload_n (pc' := 75) rfl rfl rfl ?_
    have q1 : xR0 400 19 = some 404 ∧ xS0 L 404 = (20, 16) := (kf_12_19 (show xS0 L 400 = (12, 0) from rfl))
    refine w_getR (pc' := 78) rfl rfl rfl rfl (show xS0 L 400 = (12, 0) from rfl) q1.1 ?_
    refine w_iload_n (pc' := 79) rfl rfl rfl ?_
    obtain ⟨k1, ek1, bk1, h⟩ := h
    refine w_iaload (pc' := 80) (i := k1) rfl rfl q1.2 ek1 bk1 (by omega) ?_
    refine w_aload_n (pc' := 81) rfl rfl rfl ?_
    have q2 : xR0 400 20 = some 405 ∧ xS0 L 405 = (20, 16) := (kf_12_20 (show xS0 L 400 = (12, 0) from rfl))
    refine w_getR (pc' := 84) rfl rfl rfl rfl (show xS0 L 400 = (12, 0) from rfl) q2.1 ?_
    refine w_iload_n (pc' := 85) rfl rfl rfl ?_
    refine w_iaload (pc' := 86) (i := k1) rfl rfl q2.2 ek1 bk1 (by omega) ?_
    refine w_br2 (pc' := 89) (t := 93) rfl rfl rfl ic_ne (fun hc => ?_) (fun hc => ?_)
    · replace h := h.2 hc
      refine w_iconst (pc' := 94) rfl rfl (v := 1) rfl ?_
      refine w_iload_n (pc' := 95) rfl rfl rfl ?_
      refine w_ishl (pc' := 96) rfl rfl ?_
      refine w_ior (pc' := 97) rfl rfl ?_
      refine w_istore_n (pc' := 98) rfl rfl (xl' := [.ref 400, .int (x1 ||| (1 <<< (x3 &&& 31))), .int x2, .int x3]) rfl ?_
      refine w_iinc (pc' := 101) rfl rfl rfl (v := (x3 + 1)) rfl (xl' := [.ref 400, .int (x1 ||| (1 <<< (x3 &&& 31))), .int x2, .int (x3 + 1)]) rfl ?_
      refine w_goto (pc' := 64) rfl rfl ?_
      exact h
    · replace h := h.1 (Classical.not_not.mp hc)
      refine w_iconst (pc' := 90) rfl rfl (v := 0) rfl ?_
      refine w_goto (pc' := 96) rfl rfl ?_
      refine w_ior (pc' := 97) rfl rfl ?_
      refine w_istore_n (pc' := 98) rfl rfl (xl' := [.ref 400, .int (x1 ||| 0), .int x2, .int x3]) rfl ?_
      refine w_iinc (pc' := 101) rfl rfl rfl (v := (x3 + 1)) rfl (xl' := [.ref 400, .int (x1 ||| 0), .int x2, .int (x3 + 1)]) rfl ?_
      refine w_goto (pc' := 64) rfl rfl ?_
      exact h
theorem t_Mo_seeks_112 {L : Nat} {xs : Nat → Int32} {x1 : Int32} {x2 : Int32} {x3 : Value} {f : Hp} {Q : Hp → Prop} (cx3 : (x3.category != 2) = true) (h : ((x2 < 8 → ∀ g1, g1 = xu f 400 22 ((f 400 22) ||| (((x1 >>> ((8 + x2) &&& 31)) &&& 1) <<< (x2 &&& 31))) → Wp L xs xm_Mo_seeks 112 [.ref 400, .int x1, .int (x2 + 1), x3] [] g1 (QV Q)) ∧ (¬ x2 < 8 → Q f))) : Wp L xs xm_Mo_seeks 112 [.ref 400, .int x1, .int x2, x3] [] f (QV Q) := by
  refine w_iload_n (pc' := 113) rfl rfl rfl ?_
  refine w_bipush (pc' := 115) rfl rfl (v := 8) rfl ?_
  refine w_br2 (pc' := 118) (t := 143) rfl rfl rfl ic_ge (fun hc => ?_) (fun hc => ?_)
  · replace h := h.2 hc
    exact w_return rfl rfl h
  · replace h := h.1 (Classical.not_not.mp hc)
    refine w_aload_n (pc' := 119) rfl rfl rfl ?_
    refine w_dupA (pc' := 120) rfl rfl ?_
    refine w_getI (pc' := 123) rfl rfl rfl rfl rfl (show xS0 L 400 = (12, 0) from rfl) ?_
    refine w_iload_n (pc' := 124) rfl rfl rfl ?_
    refine w_bipush (pc' := 126) rfl rfl (v := 8) rfl ?_
    refine w_iload_n (pc' := 127) rfl rfl rfl ?_
    refine w_iadd (pc' := 128) rfl rfl ?_
    refine w_ishr (pc' := 129) rfl rfl ?_
    refine w_iconst (pc' := 130) rfl rfl (v := 1) rfl ?_
    refine w_iand (pc' := 131) rfl rfl ?_
    refine w_iload_n (pc' := 132) rfl rfl rfl ?_
    refine w_ishl (pc' := 133) rfl rfl ?_
    refine w_ior (pc' := 134) rfl rfl ?_
    refine w_putI (pc' := 137) rfl rfl rfl rfl (show xS0 L 400 = (12, 0) from rfl) ?_
    replace h := h _ rfl
    generalize xu f 400 22 ((f 400 22) ||| (((x1 >>> ((8 + x2) &&& 31)) &&& 1) <<< (x2 &&& 31))) = g1 at h ⊢
    refine w_iinc (pc' := 140) rfl rfl rfl (v := (x2 + 1)) rfl (xl' := [.ref 400, .int x1, .int (x2 + 1), x3]) rfl ?_
    refine w_goto (pc' := 112) rfl rfl ?_
    exact h
theorem t_Mo_quorum_0 {L : Nat} {xs : Nat → Int32} {x1 : Int32} {x2 : Int32} {f : Hp} {Q : Int32 → Hp → Prop}  (h : CI L xs xm_Mo_isCouncil [.ref 400, .int x1] f (fun v1 g1 => ((v1 = 0 → Q (-2) g1) ∧ (¬ v1 = 0 → Wp L xs xm_Mo_quorum 16 [.ref 400, .int x1, .int x2, .int 0, .int 0, .retAddr 0, .retAddr 0, .retAddr 0] [] g1 (QI Q))))) : CI L xs xm_Mo_quorum [.ref 400, .int x1, .int x2] f Q := by
  show Wp L xs xm_Mo_quorum 0 [.ref 400, .int x1, .int x2, .retAddr 0, .retAddr 0, .retAddr 0, .retAddr 0, .retAddr 0] [] f (QI Q)
  refine w_aload_n (pc' := 1) rfl rfl rfl ?_
  refine w_iload_n (pc' := 2) rfl rfl rfl ?_
  refine w_cv (pc' := 5) (cm := xm_Mo_isCouncil) (as := [.int x1]) (a := 400) (rest := []) rfl rfl rfl  (xa_Mo_isCouncil (Nat.le_of_ble_eq_true rfl)) (show xS0 L 400 = (12, 0) from rfl) rfl (CI.k h fun v1 g1 h => ?_)
  show Wp L xs xm_Mo_quorum 5 [.ref 400, .int x1, .int x2, .retAddr 0, .retAddr 0, .retAddr 0, .retAddr 0, .retAddr 0] [.int v1] g1 _
  refine w_br (pc' := 8) (t := 11) rfl rfl rfl ic_ne (fun hc => ?_) (fun hc => ?_)
  · replace h := h.2 hc
    refine w_iconst (pc' := 12) rfl rfl (v := 0) rfl ?_
    refine w_istore_n (pc' := 13) rfl rfl (xl' := [.ref 400, .int x1, .int x2, .int 0, .retAddr 0, .retAddr 0, .retAddr 0, .retAddr 0]) rfl ?_
    refine w_iconst (pc' := 14) rfl rfl (v := 0) rfl ?_
    refine w_istore (pc' := 16) rfl rfl (xl' := [.ref 400, .int x1, .int x2, .int 0, .int 0, .retAddr 0, .retAddr 0, .retAddr 0]) rfl ?_
    exact h
  · replace h := h.1 (Classical.not_not.mp hc)
    refine w_bipush (pc' := 10) rfl rfl (v := (-2)) rfl ?_
    exact w_ireturn rfl rfl h
theorem t_Mo_quorum_16 {L : Nat} {xs : Nat → Int32} {x1 : Int32} {x2 : Int32} {x3 : Int32} {x4 : Int32} {f : Hp} {Q : Int32 → Hp → Prop}  (h : ((x4 < (f 400 13) → CI L xs xm_Mo_isLiar [.ref 400, .int x4] f (fun v1 g1 => ((v1 = 0 → Wp L xs xm_Mo_quorum 16 [.ref 400, .int x1, .int x2, .int (x3 + 1), .int (x4 + 1), .retAddr 0, .retAddr 0, .retAddr 0] [] g1 (QI Q)) ∧ (¬ v1 = 0 → Wp L xs xm_Mo_quorum 16 [.ref 400, .int x1, .int x2, .int (x3 + 0), .int (x4 + 1), .retAddr 0, .retAddr 0, .retAddr 0] [] g1 (QI Q))))) ∧ (¬ x4 < (f 400 13) → Wp L xs xm_Mo_quorum 57 [.ref 400, .int x1, .int x2, .int x3, .int 0, .int 0, .int 0, .retAddr 0] [] f (QI Q)))) : Wp L xs xm_Mo_quorum 16 [.ref 400, .int x1, .int x2, .int x3, .int x4, .retAddr 0, .retAddr 0, .retAddr 0] [] f (QI Q) := by
  refine w_iload (pc' := 18) rfl rfl rfl ?_
  refine w_aload_n (pc' := 19) rfl rfl rfl ?_
  refine w_getI (pc' := 22) rfl rfl rfl rfl rfl (show xS0 L 400 = (12, 0) from rfl) ?_
  refine w_br2 (pc' := 25) (t := 48) rfl rfl rfl ic_ge (fun hc => ?_) (fun hc => ?_)
  · replace h := h.2 hc
    refine w_iconst (pc' := 49) rfl rfl (v := 0) rfl ?_
    refine w_istore (pc' := 51) rfl rfl (xl' := [.ref 400, .int x1, .int x2, .int x3, .int 0, .retAddr 0, .retAddr 0, .retAddr 0]) rfl ?_
    refine w_iconst (pc' := 52) rfl rfl (v := 0) rfl ?_
    refine w_istore (pc' := 54) rfl rfl (xl' := [.ref 400, .int x1, .int x2, .int x3, .int 0, .int 0, .retAddr 0, .retAddr 0]) rfl ?_
    refine w_iconst (pc' := 55) rfl rfl (v := 0) rfl ?_
    refine w_istore (pc' := 57) rfl rfl (xl' := [.ref 400, .int x1, .int x2, .int x3, .int 0, .int 0, .int 0, .retAddr 0]) rfl ?_
    exact h
  · replace h := h.1 (Classical.not_not.mp hc)
    refine w_iload_n (pc' := 26) rfl rfl rfl ?_
    refine w_aload_n (pc' := 27) rfl rfl rfl ?_
    refine w_iload (pc' := 29) rfl rfl rfl ?_
    refine w_cv (pc' := 32) (cm := xm_Mo_isLiar) (as := [.int x4]) (a := 400) (rest := [.int x3]) rfl rfl rfl  (xa_Mo_isLiar (Nat.le_of_ble_eq_true rfl)) (show xS0 L 400 = (12, 0) from rfl) rfl (CI.k h fun v1 g1 h => ?_)
    show Wp L xs xm_Mo_quorum 32 [.ref 400, .int x1, .int x2, .int x3, .int x4, .retAddr 0, .retAddr 0, .retAddr 0] [.int v1, .int x3] g1 _
    refine w_br (pc' := 35) (t := 39) rfl rfl rfl ic_eq (fun hc => ?_) (fun hc => ?_)
    · replace h := h.1 hc
      refine w_iconst (pc' := 40) rfl rfl (v := 1) rfl ?_
      refine w_iadd (pc' := 41) rfl rfl ?_
      refine w_istore_n (pc' := 42) rfl rfl (xl' := [.ref 400, .int x1, .int x2, .int (x3 + 1), .int x4, .retAddr 0, .retAddr 0, .retAddr 0]) rfl ?_
      refine w_iinc (pc' := 45) rfl rfl rfl (v := (x4 + 1)) rfl (xl' := [.ref 400, .int x1, .int x2, .int (x3 + 1), .int (x4 + 1), .retAddr 0, .retAddr 0, .retAddr 0]) rfl ?_
      refine w_goto (pc' := 16) rfl rfl ?_
      exact h
    · replace h := h.2 hc
      refine w_iconst (pc' := 36) rfl rfl (v := 0) rfl ?_
      refine w_goto (pc' := 40) rfl rfl ?_
      refine w_iadd (pc' := 41) rfl rfl ?_
      refine w_istore_n (pc' := 42) rfl rfl (xl' := [.ref 400, .int x1, .int x2, .int (x3 + 0), .int x4, .retAddr 0, .retAddr 0, .retAddr 0]) rfl ?_
      refine w_iinc (pc' := 45) rfl rfl rfl (v := (x4 + 1)) rfl (xl' := [.ref 400, .int x1, .int x2, .int (x3 + 0), .int (x4 + 1), .retAddr 0, .retAddr 0, .retAddr 0]) rfl ?_
      refine w_goto (pc' := 16) rfl rfl ?_
      exact h
theorem t_Mo_quorum_57 {L : Nat} {xs : Nat → Int32} {x1 : Int32} {x2 : Int32} {x3 : Int32} {x4 : Int32} {x5 : Int32} {x6 : Int32} {x7 : Value} {f : Hp} {Q : Int32 → Hp → Prop} (cx7 : (x7.category != 2) = true) (h : ((x6 < (1 <<< ((f 400 13) &&& 31)) → CI L xs xm_Mo_bitsOf [.int x6] f (fun v1 g1 => ((v1 = (g1 400 14) → Wp L xs xm_Mo_quorum 89 [.ref 400, .int x1, .int x2, .int x3, .int (x4 + 1), .int x5, .int x6, .int 0] [] g1 (QI Q)) ∧ (¬ v1 = (g1 400 14) → Wp L xs xm_Mo_quorum 57 [.ref 400, .int x1, .int x2, .int x3, .int x4, .int x5, .int (x6 + 1), x7] [] g1 (QI Q))))) ∧ (¬ x6 < (1 <<< ((f 400 13) &&& 31)) → ((x2 = 0 → Q (f 400 14) f) ∧ (¬ x2 = 0 → ((x2 = 1 → Q x4 f) ∧ (¬ x2 = 1 → ((x2 = 2 → Q x5 f) ∧ (¬ x2 = 2 → ((x2 = 3 → Q x3 f) ∧ (¬ x2 = 3 → Q (-2) f))))))))))) : Wp L xs xm_Mo_quorum 57 [.ref 400, .int x1, .int x2, .int x3, .int x4, .int x5, .int x6, x7] [] f (QI Q) := by
  refine w_iload (pc' := 59) rfl rfl rfl ?_
  refine w_iconst (pc' := 60) rfl rfl (v := 1) rfl ?_
  refine w_aload_n (pc' := 61) rfl rfl rfl ?_
  refine w_getI (pc' := 64) rfl rfl rfl rfl rfl (show xS0 L 400 = (12, 0) from rfl) ?_
  refine w_ishl (pc' := 65) rfl rfl ?_
  refine w_br2 (pc' := 68) (t := 145) rfl rfl rfl ic_ge (fun hc => ?_) (fun hc => ?_)
  · replace h := h.2 hc
    refine w_iload_n (pc' := 146) rfl rfl rfl ?_
    by_cases hs0 : x2 = 0
    · replace h := h.1 hs0
      refine w_ts (o := 30) (t := 176) rfl (by rw [hs0]; decide) (by rw [hs0]; rfl) rfl ?_
      refine w_aload_n (pc' := 177) rfl rfl rfl ?_
      refine w_getI (pc' := 180) rfl rfl rfl rfl rfl (show xS0 L 400 = (12, 0) from rfl) ?_
      exact w_ireturn rfl rfl h
    replace h := h.2 hs0
    by_cases hs1 : x2 = 1
    · replace h := h.1 hs1
      refine w_ts (o := 35) (t := 181) rfl (by rw [hs1]; decide) (by rw [hs1]; rfl) rfl ?_
      refine w_iload (pc' := 183) rfl rfl rfl ?_
      exact w_ireturn rfl rfl h
    replace h := h.2 hs1
    by_cases hs2 : x2 = 2
    · replace h := h.1 hs2
      refine w_ts (o := 38) (t := 184) rfl (by rw [hs2]; decide) (by rw [hs2]; rfl) rfl ?_
      refine w_iload (pc' := 186) rfl rfl rfl ?_
      exact w_ireturn rfl rfl h
    replace h := h.2 hs2
    by_cases hs3 : x2 = 3
    · replace h := h.1 hs3
      refine w_ts (o := 41) (t := 187) rfl (by rw [hs3]; decide) (by rw [hs3]; rfl) rfl ?_
      refine w_iload_n (pc' := 188) rfl rfl rfl ?_
      exact w_ireturn rfl rfl h
    replace h := h.2 hs3
    refine w_tsd (t := 189) rfl ?_ rfl ?_
    · have z0 : (x2).toInt ≠ 0 := fun e => hs0 (Int32.toInt_inj.mp e); have z1 : (x2).toInt ≠ 1 := fun e => hs1 (Int32.toInt_inj.mp e); have z2 : (x2).toInt ≠ 2 := fun e => hs2 (Int32.toInt_inj.mp e); have z3 : (x2).toInt ≠ 3 := fun e => hs3 (Int32.toInt_inj.mp e); omega
    refine w_bipush (pc' := 191) rfl rfl (v := (-2)) rfl ?_
    exact w_ireturn rfl rfl h
  · replace h := h.1 (Classical.not_not.mp hc)
    refine w_iload (pc' := 70) rfl rfl rfl ?_
    refine w_cs (pc' := 73) (cm := xm_Mo_bitsOf) (as := [.int x6]) (rest := []) rfl rfl rfl (Or.inl rfl) (xa_Mo_bitsOf (Nat.le_of_ble_eq_true rfl)) (CI.k h fun v1 g1 h => ?_)
    show Wp L xs xm_Mo_quorum 73 [.ref 400, .int x1, .int x2, .int x3, .int x4, .int x5, .int x6, x7] [.int v1] g1 _
    refine w_aload_n (pc' := 74) rfl rfl rfl ?_
    refine w_getI (pc' := 77) rfl rfl rfl rfl rfl (show xS0 L 400 = (12, 0) from rfl) ?_
    refine w_br2 (pc' := 80) (t := 83) rfl rfl rfl ic_eq (fun hc => ?_) (fun hc => ?_)
    · replace h := h.1 hc
      refine w_iinc (pc' := 86) rfl rfl rfl (v := (x4 + 1)) rfl (xl' := [.ref 400, .int x1, .int x2, .int x3, .int (x4 + 1), .int x5, .int x6, x7]) rfl ?_
      refine w_iconst (pc' := 87) rfl rfl (v := 0) rfl ?_
      refine w_istore (pc' := 89) rfl rfl (xl' := [.ref 400, .int x1, .int x2, .int x3, .int (x4 + 1), .int x5, .int x6, .int 0]) rfl ?_
      exact h
    · replace h := h.2 hc
      refine w_goto (pc' := 139) rfl rfl ?_
      refine w_iinc (pc' := 142) rfl rfl rfl (v := (x6 + 1)) rfl (xl' := [.ref 400, .int x1, .int x2, .int x3, .int x4, .int x5, .int (x6 + 1), x7]) rfl ?_
      refine w_goto (pc' := 57) rfl rfl ?_
      exact h
theorem t_Mo_quorum_89 {L : Nat} {xs : Nat → Int32} {x1 : Int32} {x2 : Int32} {x3 : Int32} {x4 : Int32} {x5 : Int32} {x6 : Int32} {x7 : Int32} {f : Hp} {Q : Int32 → Hp → Prop}  (h : ((x7 < x6 → CI L xs xm_Mo_bitsOf [.int x7] f (fun v1 g1 => ((v1 = (g1 400 14) → ((((x6 &&& x7) &&& ((g1 400 17) ^^^ (-1))) = 0 → Wp L xs xm_Mo_quorum 89 [.ref 400, .int x1, .int x2, .int x3, .int x4, .int (x5 + 1), .int x6, .int (x7 + 1)] [] g1 (QI Q)) ∧ (¬ ((x6 &&& x7) &&& ((g1 400 17) ^^^ (-1))) = 0 → Wp L xs xm_Mo_quorum 89 [.ref 400, .int x1, .int x2, .int x3, .int x4, .int (x5 + 0), .int x6, .int (x7 + 1)] [] g1 (QI Q)))) ∧ (¬ v1 = (g1 400 14) → Wp L xs xm_Mo_quorum 89 [.ref 400, .int x1, .int x2, .int x3, .int x4, .int (x5 + 0), .int x6, .int (x7 + 1)] [] g1 (QI Q))))) ∧ (¬ x7 < x6 → Wp L xs xm_Mo_quorum 57 [.ref 400, .int x1, .int x2, .int x3, .int x4, .int x5, .int (x6 + 1), .int x7] [] f (QI Q)))) : Wp L xs xm_Mo_quorum 89 [.ref 400, .int x1, .int x2, .int x3, .int x4, .int x5, .int x6, .int x7] [] f (QI Q) := by
  refine w_iload (pc' := 91) rfl rfl rfl ?_
  refine w_iload (pc' := 93) rfl rfl rfl ?_
  refine w_br2 (pc' := 96) (t := 139) rfl rfl rfl ic_ge (fun hc => ?_) (fun hc => ?_)
  · replace h := h.2 hc
    refine w_iinc (pc' := 142) rfl rfl rfl (v := (x6 + 1)) rfl (xl' := [.ref 400, .int x1, .int x2, .int x3, .int x4, .int x5, .int (x6 + 1), .int x7]) rfl ?_
    refine w_goto (pc' := 57) rfl rfl ?_
    exact h
  · replace h := h.1 (Classical.not_not.mp hc)
    refine w_iload (pc' := 98) rfl rfl rfl ?_
    refine w_iload (pc' := 100) rfl rfl rfl ?_
    refine w_cs (pc' := 103) (cm := xm_Mo_bitsOf) (as := [.int x7]) (rest := [.int x5]) rfl rfl rfl (Or.inl rfl) (xa_Mo_bitsOf (Nat.le_of_ble_eq_true rfl)) (CI.k h fun v1 g1 h => ?_)
    show Wp L xs xm_Mo_quorum 103 [.ref 400, .int x1, .int x2, .int x3, .int x4, .int x5, .int x6, .int x7] [.int v1, .int x5] g1 _
    refine w_aload_n (pc' := 104) rfl rfl rfl ?_
    refine w_getI (pc' := 107) rfl rfl rfl rfl rfl (show xS0 L 400 = (12, 0) from rfl) ?_
    refine w_br2 (pc' := 110) (t := 129) rfl rfl rfl ic_ne (fun hc => ?_) (fun hc => ?_)
    · replace h := h.2 hc
      refine w_iconst (pc' := 130) rfl rfl (v := 0) rfl ?_
      refine w_iadd (pc' := 131) rfl rfl ?_
      refine w_istore (pc' := 133) rfl rfl (xl' := [.ref 400, .int x1, .int x2, .int x3, .int x4, .int (x5 + 0), .int x6, .int x7]) rfl ?_
      refine w_iinc (pc' := 136) rfl rfl rfl (v := (x7 + 1)) rfl (xl' := [.ref 400, .int x1, .int x2, .int x3, .int x4, .int (x5 + 0), .int x6, .int (x7 + 1)]) rfl ?_
      refine w_goto (pc' := 89) rfl rfl ?_
      exact h
    · replace h := h.1 (Classical.not_not.mp hc)
      refine w_iload (pc' := 112) rfl rfl rfl ?_
      refine w_iload (pc' := 114) rfl rfl rfl ?_
      refine w_iand (pc' := 115) rfl rfl ?_
      refine w_aload_n (pc' := 116) rfl rfl rfl ?_
      refine w_getI (pc' := 119) rfl rfl rfl rfl rfl (show xS0 L 400 = (12, 0) from rfl) ?_
      refine w_iconst (pc' := 120) rfl rfl (v := (-1)) rfl ?_
      refine w_ixor (pc' := 121) rfl rfl ?_
      refine w_iand (pc' := 122) rfl rfl ?_
      refine w_br (pc' := 125) (t := 129) rfl rfl rfl ic_ne (fun hc => ?_) (fun hc => ?_)
      · replace h := h.2 hc
        refine w_iconst (pc' := 130) rfl rfl (v := 0) rfl ?_
        refine w_iadd (pc' := 131) rfl rfl ?_
        refine w_istore (pc' := 133) rfl rfl (xl' := [.ref 400, .int x1, .int x2, .int x3, .int x4, .int (x5 + 0), .int x6, .int x7]) rfl ?_
        refine w_iinc (pc' := 136) rfl rfl rfl (v := (x7 + 1)) rfl (xl' := [.ref 400, .int x1, .int x2, .int x3, .int x4, .int (x5 + 0), .int x6, .int (x7 + 1)]) rfl ?_
        refine w_goto (pc' := 89) rfl rfl ?_
        exact h
      · replace h := h.1 (Classical.not_not.mp hc)
        refine w_iconst (pc' := 126) rfl rfl (v := 1) rfl ?_
        refine w_goto (pc' := 130) rfl rfl ?_
        refine w_iadd (pc' := 131) rfl rfl ?_
        refine w_istore (pc' := 133) rfl rfl (xl' := [.ref 400, .int x1, .int x2, .int x3, .int x4, .int (x5 + 1), .int x6, .int x7]) rfl ?_
        refine w_iinc (pc' := 136) rfl rfl rfl (v := (x7 + 1)) rfl (xl' := [.ref 400, .int x1, .int x2, .int x3, .int x4, .int (x5 + 1), .int x6, .int (x7 + 1)]) rfl ?_
        refine w_goto (pc' := 89) rfl rfl ?_
        exact h
theorem t_Mo_isLiar_0 {L : Nat} {xs : Nat → Int32} {x1 : Int32} {f : Hp} {Q : Int32 → Hp → Prop}  (h : (((((f 400 17) >>> (x1 &&& 31)) &&& 1) = 1 → Q 1 f) ∧ (¬ (((f 400 17) >>> (x1 &&& 31)) &&& 1) = 1 → Q 0 f))) : CI L xs xm_Mo_isLiar [.ref 400, .int x1] f Q := by
  show Wp L xs xm_Mo_isLiar 0 [.ref 400, .int x1] [] f (QI Q)
  refine w_aload_n (pc' := 1) rfl rfl rfl ?_
  refine w_getI (pc' := 4) rfl rfl rfl rfl rfl (show xS0 L 400 = (12, 0) from rfl) ?_
  refine w_iload_n (pc' := 5) rfl rfl rfl ?_
  refine w_ishr (pc' := 6) rfl rfl ?_
  refine w_iconst (pc' := 7) rfl rfl (v := 1) rfl ?_
  refine w_iand (pc' := 8) rfl rfl ?_
  refine w_iconst (pc' := 9) rfl rfl (v := 1) rfl ?_
  refine w_br2 (pc' := 12) (t := 16) rfl rfl rfl ic_ne (fun hc => ?_) (fun hc => ?_)
  · replace h := h.2 hc
    refine w_iconst (pc' := 17) rfl rfl (v := 0) rfl ?_
    exact w_ireturn rfl rfl h
  · replace h := h.1 (Classical.not_not.mp hc)
    refine w_iconst (pc' := 13) rfl rfl (v := 1) rfl ?_
    refine w_goto (pc' := 17) rfl rfl ?_
    exact w_ireturn rfl rfl h
theorem t_Mo_bitsOf_0 {L : Nat} {xs : Nat → Int32} {x0 : Int32} {f : Hp} {Q : Int32 → Hp → Prop}  (h : Wp L xs xm_Mo_bitsOf 4 [.int x0, .int 0, .int 0] [] f (QI Q)) : CI L xs xm_Mo_bitsOf [.int x0] f Q := by
  show Wp L xs xm_Mo_bitsOf 0 [.int x0, .retAddr 0, .retAddr 0] [] f (QI Q)
  refine w_iconst (pc' := 1) rfl rfl (v := 0) rfl ?_
  refine w_istore_n (pc' := 2) rfl rfl (xl' := [.int x0, .int 0, .retAddr 0]) rfl ?_
  refine w_iconst (pc' := 3) rfl rfl (v := 0) rfl ?_
  refine w_istore_n (pc' := 4) rfl rfl (xl' := [.int x0, .int 0, .int 0]) rfl ?_
  exact h
theorem t_Mo_bitsOf_4 {L : Nat} {xs : Nat → Int32} {x0 : Int32} {x1 : Int32} {x2 : Int32} {f : Hp} {Q : Int32 → Hp → Prop}  (h : ((x2 < 14 → Wp L xs xm_Mo_bitsOf 4 [.int x0, .int (x1 + ((x0 >>> (x2 &&& 31)) &&& 1)), .int (x2 + 1)] [] f (QI Q)) ∧ (¬ x2 < 14 → Q x1 f))) : Wp L xs xm_Mo_bitsOf 4 [.int x0, .int x1, .int x2] [] f (QI Q) := by
  refine w_iload_n (pc' := 5) rfl rfl rfl ?_
  refine w_bipush (pc' := 7) rfl rfl (v := 14) rfl ?_
  refine w_br2 (pc' := 10) (t := 24) rfl rfl rfl ic_ge (fun hc => ?_) (fun hc => ?_)
  · replace h := h.2 hc
    refine w_iload_n (pc' := 25) rfl rfl rfl ?_
    exact w_ireturn rfl rfl h
  · replace h := h.1 (Classical.not_not.mp hc)
    refine w_iload_n (pc' := 11) rfl rfl rfl ?_
    refine w_iload_n (pc' := 12) rfl rfl rfl ?_
    refine w_iload_n (pc' := 13) rfl rfl rfl ?_
    refine w_ishr (pc' := 14) rfl rfl ?_
    refine w_iconst (pc' := 15) rfl rfl (v := 1) rfl ?_
    refine w_iand (pc' := 16) rfl rfl ?_
    refine w_iadd (pc' := 17) rfl rfl ?_
    refine w_istore_n (pc' := 18) rfl rfl (xl' := [.int x0, .int (x1 + ((x0 >>> (x2 &&& 31)) &&& 1)), .int x2]) rfl ?_
    refine w_iinc (pc' := 21) rfl rfl rfl (v := (x2 + 1)) rfl (xl' := [.int x0, .int (x1 + ((x0 >>> (x2 &&& 31)) &&& 1)), .int (x2 + 1)]) rfl ?_
    refine w_goto (pc' := 4) rfl rfl ?_
    exact h
theorem t_Mo_deed_0 {L : Nat} {xs : Nat → Int32} {x1 : Int32} {x2 : Int32} {x3 : Int32} {f : Hp} {Q : Int32 → Hp → Prop}  (h : CI L xs xm_Mo_isRun [.ref 400, .int x1] f (fun v1 g1 => ((v1 = 0 → Q (-2) g1) ∧ (¬ v1 = 0 → ((x2 = (-1) → ((x3 = 0 → ∃ k3 : Nat, (g1 400 47) = iN k3 ∧ k3 < 4680 ∧ Q (g1 401 k3) g1) ∧ (¬ x3 = 0 → Q (-2) g1))) ∧ (¬ x2 = (-1) → ∃ k1 : Nat, (g1 400 47) = iN k1 ∧ k1 < 4680 ∧ CI L xs xm_Mo_isIn [.int x2, .int 0, .int ((g1 401 k1) - 1)] g1 (fun v2 g2 => ((v2 = 0 → Q (-2) g2) ∧ (¬ v2 = 0 → CI L xs xm_Mo_isIn [.int x3, .int 0, .int 3] g2 (fun v3 g3 => ((v3 = 0 → Q (-2) g3) ∧ (¬ v3 = 0 → ∃ k2 : Nat, ((((g3 400 47) + 1) + (4 * x2)) + x3) = iN k2 ∧ k2 < 4680 ∧ Q (g3 401 k2) g3)))))))))))) : CI L xs xm_Mo_deed [.ref 400, .int x1, .int x2, .int x3] f Q := by
  show Wp L xs xm_Mo_deed 0 [.ref 400, .int x1, .int x2, .int x3] [] f (QI Q)
  refine w_aload_n (pc' := 1) rfl rfl rfl ?_
  refine w_iload_n (pc' := 2) rfl rfl rfl ?_
  refine w_cv (pc' := 5) (cm := xm_Mo_isRun) (as := [.int x1]) (a := 400) (rest := []) rfl rfl rfl  (xa_Mo_isRun (Nat.le_of_ble_eq_true rfl)) (show xS0 L 400 = (12, 0) from rfl) rfl (CI.k h fun v1 g1 h => ?_)
  show Wp L xs xm_Mo_deed 5 [.ref 400, .int x1, .int x2, .int x3] [.int v1] g1 _
  refine w_br (pc' := 8) (t := 11) rfl rfl rfl ic_ne (fun hc => ?_) (fun hc => ?_)
  · replace h := h.2 hc
    refine w_iload_n (pc' := 12) rfl rfl rfl ?_
    refine w_iconst (pc' := 13) rfl rfl (v := (-1)) rfl ?_
    refine w_br2 (pc' := 16) (t := 35) rfl rfl rfl ic_ne (fun hc => ?_) (fun hc => ?_)
    · replace h := h.2 hc
      refine w_iload_n (pc' := 36) rfl rfl rfl ?_
      refine w_iconst (pc' := 37) rfl rfl (v := 0) rfl ?_
      refine w_aload_n (pc' := 38) rfl rfl rfl ?_
      have q1 : xR0 400 0 = some 401 ∧ xS0 L 401 = (20, 4680) := (kf_12_0 (show xS0 L 400 = (12, 0) from rfl))
      refine w_getR (pc' := 41) rfl rfl rfl rfl (show xS0 L 400 = (12, 0) from rfl) q1.1 ?_
      refine w_aload_n (pc' := 42) rfl rfl rfl ?_
      refine w_getI (pc' := 45) rfl rfl rfl rfl rfl (show xS0 L 400 = (12, 0) from rfl) ?_
      obtain ⟨k1, ek1, bk1, h⟩ := h
      refine w_iaload (pc' := 46) (i := k1) rfl rfl q1.2 ek1 bk1 (by omega) ?_
      refine w_iconst (pc' := 47) rfl rfl (v := 1) rfl ?_
      refine w_isub (pc' := 48) rfl rfl ?_
      refine w_cs (pc' := 51) (cm := xm_Mo_isIn) (as := [.int x2, .int 0, .int ((g1 401 k1) - 1)]) (rest := []) rfl rfl rfl (Or.inl rfl) (xa_Mo_isIn (Nat.le_of_ble_eq_true rfl)) (CI.k h fun v2 g2 h => ?_)
      show Wp L xs xm_Mo_deed 51 [.ref 400, .int x1, .int x2, .int x3] [.int v2] g2 _
      refine w_br (pc' := 54) (t := 83) rfl rfl rfl ic_eq (fun hc => ?_) (fun hc => ?_)
      · replace h := h.1 hc
        refine w_bipush (pc' := 85) rfl rfl (v := (-2)) rfl ?_
        exact w_ireturn rfl rfl h
      · replace h := h.2 hc
        refine w_iload_n (pc' := 55) rfl rfl rfl ?_
        refine w_iconst (pc' := 56) rfl rfl (v := 0) rfl ?_
        refine w_iconst (pc' := 57) rfl rfl (v := 3) rfl ?_
        refine w_cs (pc' := 60) (cm := xm_Mo_isIn) (as := [.int x3, .int 0, .int 3]) (rest := []) rfl rfl rfl (Or.inl rfl) (xa_Mo_isIn (Nat.le_of_ble_eq_true rfl)) (CI.k h fun v3 g3 h => ?_)
        show Wp L xs xm_Mo_deed 60 [.ref 400, .int x1, .int x2, .int x3] [.int v3] g3 _
        refine w_br (pc' := 63) (t := 83) rfl rfl rfl ic_eq (fun hc => ?_) (fun hc => ?_)
        · replace h := h.1 hc
          refine w_bipush (pc' := 85) rfl rfl (v := (-2)) rfl ?_
          exact w_ireturn rfl rfl h
        · replace h := h.2 hc
          refine w_aload_n (pc' := 64) rfl rfl rfl ?_
          have q2 : xR0 400 0 = some 401 ∧ xS0 L 401 = (20, 4680) := (kf_12_0 (show xS0 L 400 = (12, 0) from rfl))
          refine w_getR (pc' := 67) rfl rfl rfl rfl (show xS0 L 400 = (12, 0) from rfl) q2.1 ?_
          refine w_aload_n (pc' := 68) rfl rfl rfl ?_
          refine w_getI (pc' := 71) rfl rfl rfl rfl rfl (show xS0 L 400 = (12, 0) from rfl) ?_
          refine w_iconst (pc' := 72) rfl rfl (v := 1) rfl ?_
          refine w_iadd (pc' := 73) rfl rfl ?_
          refine w_iconst (pc' := 74) rfl rfl (v := 4) rfl ?_
          refine w_iload_n (pc' := 75) rfl rfl rfl ?_
          refine w_imul (pc' := 76) rfl rfl ?_
          refine w_iadd (pc' := 77) rfl rfl ?_
          refine w_iload_n (pc' := 78) rfl rfl rfl ?_
          refine w_iadd (pc' := 79) rfl rfl ?_
          obtain ⟨k2, ek2, bk2, h⟩ := h
          refine w_iaload (pc' := 80) (i := k2) rfl rfl q2.2 ek2 bk2 (by omega) ?_
          refine w_goto (pc' := 85) rfl rfl ?_
          exact w_ireturn rfl rfl h
    · replace h := h.1 (Classical.not_not.mp hc)
      refine w_iload_n (pc' := 17) rfl rfl rfl ?_
      refine w_br (pc' := 20) (t := 32) rfl rfl rfl ic_ne (fun hc => ?_) (fun hc => ?_)
      · replace h := h.2 hc
        refine w_bipush (pc' := 34) rfl rfl (v := (-2)) rfl ?_
        exact w_ireturn rfl rfl h
      · replace h := h.1 (Classical.not_not.mp hc)
        refine w_aload_n (pc' := 21) rfl rfl rfl ?_
        have q3 : xR0 400 0 = some 401 ∧ xS0 L 401 = (20, 4680) := (kf_12_0 (show xS0 L 400 = (12, 0) from rfl))
        refine w_getR (pc' := 24) rfl rfl rfl rfl (show xS0 L 400 = (12, 0) from rfl) q3.1 ?_
        refine w_aload_n (pc' := 25) rfl rfl rfl ?_
        refine w_getI (pc' := 28) rfl rfl rfl rfl rfl (show xS0 L 400 = (12, 0) from rfl) ?_
        obtain ⟨k3, ek3, bk3, h⟩ := h
        refine w_iaload (pc' := 29) (i := k3) rfl rfl q3.2 ek3 bk3 (by omega) ?_
        refine w_goto (pc' := 34) rfl rfl ?_
        exact w_ireturn rfl rfl h
  · replace h := h.1 (Classical.not_not.mp hc)
    refine w_bipush (pc' := 10) rfl rfl (v := (-2)) rfl ?_
    exact w_ireturn rfl rfl h
theorem t_Mo_isRun_0 {L : Nat} {xs : Nat → Int32} {x1 : Int32} {f : Hp} {Q : Int32 → Hp → Prop}  (h : CI L xs xm_Mo_isOf [.ref 400, .int 1, .int x1] f (fun v1 g1 => ((v1 = 0 → Q 0 g1) ∧ (¬ v1 = 0 → CI L xs xm_Mo_placeOf [.int 1, .int x1] g1 (fun v2 g2 => ∀ g3, g3 = xu g2 400 47 v2 → Q 1 g3))))) : CI L xs xm_Mo_isRun [.ref 400, .int x1] f Q := by
  show Wp L xs xm_Mo_isRun 0 [.ref 400, .int x1] [] f (QI Q)
  refine w_aload_n (pc' := 1) rfl rfl rfl ?_
  refine w_iconst (pc' := 2) rfl rfl (v := 1) rfl ?_
  refine w_iload_n (pc' := 3) rfl rfl rfl ?_
  refine w_cv (pc' := 6) (cm := xm_Mo_isOf) (as := [.int 1, .int x1]) (a := 400) (rest := []) rfl rfl rfl  (xa_Mo_isOf (Nat.le_of_ble_eq_true rfl)) (show xS0 L 400 = (12, 0) from rfl) rfl (CI.k h fun v1 g1 h => ?_)
  show Wp L xs xm_Mo_isRun 6 [.ref 400, .int x1] [.int v1] g1 _
  refine w_br (pc' := 9) (t := 11) rfl rfl rfl ic_ne (fun hc => ?_) (fun hc => ?_)
  · replace h := h.2 hc
    refine w_aload_n (pc' := 12) rfl rfl rfl ?_
    refine w_iconst (pc' := 13) rfl rfl (v := 1) rfl ?_
    refine w_iload_n (pc' := 14) rfl rfl rfl ?_
    refine w_cs (pc' := 17) (cm := xm_Mo_placeOf) (as := [.int 1, .int x1]) (rest := [.ref 400]) rfl rfl rfl (Or.inl rfl) (xa_Mo_placeOf (Nat.le_of_ble_eq_true rfl)) (CI.k h fun v2 g2 h => ?_)
    show Wp L xs xm_Mo_isRun 17 [.ref 400, .int x1] [.int v2, .ref 400] g2 _
    refine w_putI (pc' := 20) rfl rfl rfl rfl (show xS0 L 400 = (12, 0) from rfl) ?_
    replace h := h _ rfl
    generalize xu g2 400 47 v2 = g3 at h ⊢
    refine w_iconst (pc' := 21) rfl rfl (v := 1) rfl ?_
    exact w_ireturn rfl rfl h
  · replace h := h.1 (Classical.not_not.mp hc)
    refine w_iconst (pc' := 10) rfl rfl (v := 0) rfl ?_
    exact w_ireturn rfl rfl h
theorem t_Mo_stop_0 {L : Nat} {xs : Nat → Int32} {x1 : Int32} {x2 : Int32} {f : Hp} {Q : Int32 → Hp → Prop}  (h : CI L xs xm_Mo_isCouncil [.ref 400, .int x1] f (fun v1 g1 => ((v1 = 0 → Q (-1) g1) ∧ (¬ v1 = 0 → CI L xs xm_Mo_isRun [.ref 400, .int x2] g1 (fun v2 g2 => ((v2 = 0 → Q (-1) g2) ∧ (¬ v2 = 0 → CV L xs xm_Mo_goes [.ref 400, .int 40] g2 (fun g3 => Q (g3 400 43) g3)))))))) : CI L xs xm_Mo_stop [.ref 400, .int x1, .int x2] f Q := by
  show Wp L xs xm_Mo_stop 0 [.ref 400, .int x1, .int x2] [] f (QI Q)
  refine w_aload_n (pc' := 1) rfl rfl rfl ?_
  refine w_iload_n (pc' := 2) rfl rfl rfl ?_
  refine w_cv (pc' := 5) (cm := xm_Mo_isCouncil) (as := [.int x1]) (a := 400) (rest := []) rfl rfl rfl  (xa_Mo_isCouncil (Nat.le_of_ble_eq_true rfl)) (show xS0 L 400 = (12, 0) from rfl) rfl (CI.k h fun v1 g1 h => ?_)
  show Wp L xs xm_Mo_stop 5 [.ref 400, .int x1, .int x2] [.int v1] g1 _
  refine w_br (pc' := 8) (t := 16) rfl rfl rfl ic_eq (fun hc => ?_) (fun hc => ?_)
  · replace h := h.1 hc
    refine w_iconst (pc' := 17) rfl rfl (v := (-1)) rfl ?_
    exact w_ireturn rfl rfl h
  · replace h := h.2 hc
    refine w_aload_n (pc' := 9) rfl rfl rfl ?_
    refine w_iload_n (pc' := 10) rfl rfl rfl ?_
    refine w_cv (pc' := 13) (cm := xm_Mo_isRun) (as := [.int x2]) (a := 400) (rest := []) rfl rfl rfl  (xa_Mo_isRun (Nat.le_of_ble_eq_true rfl)) (show xS0 L 400 = (12, 0) from rfl) rfl (CI.k h fun v2 g2 h => ?_)
    show Wp L xs xm_Mo_stop 13 [.ref 400, .int x1, .int x2] [.int v2] g2 _
    refine w_br (pc' := 16) (t := 18) rfl rfl rfl ic_ne (fun hc => ?_) (fun hc => ?_)
    · replace h := h.2 hc
      refine w_aload_n (pc' := 19) rfl rfl rfl ?_
      refine w_bipush (pc' := 21) rfl rfl (v := 40) rfl ?_
      refine w_cv (pc' := 24) (cm := xm_Mo_goes) (as := [.int 40]) (a := 400) (rest := []) rfl rfl rfl  (xa_Mo_goes (Nat.le_of_ble_eq_true rfl)) (show xS0 L 400 = (12, 0) from rfl) rfl (CV.k h fun g3 h => ?_)
      show Wp L xs xm_Mo_stop 24 [.ref 400, .int x1, .int x2] [] g3 _
      refine w_aload_n (pc' := 25) rfl rfl rfl ?_
      refine w_getI (pc' := 28) rfl rfl rfl rfl rfl (show xS0 L 400 = (12, 0) from rfl) ?_
      exact w_ireturn rfl rfl h
    · replace h := h.1 (Classical.not_not.mp hc)
      refine w_iconst (pc' := 17) rfl rfl (v := (-1)) rfl ?_
      exact w_ireturn rfl rfl h
theorem t_Mo_goes_0 {L : Nat} {xs : Nat → Int32} {x1 : Int32} {f : Hp} {Q : Hp → Prop}  (h : CV L xs xm_Mo_begins [.ref 400] f (fun g1 => Wp L xs xm_Mo_goes 4 [.ref 400, .int x1, .retAddr 0] [] g1 (QV Q))) : CV L xs xm_Mo_goes [.ref 400, .int x1] f Q := by
  show Wp L xs xm_Mo_goes 0 [.ref 400, .int x1, .retAddr 0] [] f (QV Q)
  refine w_aload_n (pc' := 1) rfl rfl rfl ?_
  refine w_cv (pc' := 4) (cm := xm_Mo_begins) (as := []) (a := 400) (rest := []) rfl rfl rfl  (xa_Mo_begins (Nat.le_of_ble_eq_true rfl)) (show xS0 L 400 = (12, 0) from rfl) rfl (CV.k h fun g1 h => ?_)
  show Wp L xs xm_Mo_goes 4 [.ref 400, .int x1, .retAddr 0] [] g1 _
  exact h
theorem t_Mo_goes_4 {L : Nat} {xs : Nat → Int32} {x1 : Int32} {x2 : Value} {f : Hp} {Q : Hp → Prop} (cx2 : (x2.category != 2) = true) (h : (((f 400 43) < x1 → ∃ k1 : Nat, (f 400 47) = iN k1 ∧ k1 < 4680 ∧ (((f 400 43) < (f 401 k1) → ∃ k2 : Nat, (((f 400 47) + 1) + (4 * (f 400 43))) = iN k2 ∧ k2 < 4680 ∧ ∃ k3 : Nat, ((((f 400 47) + 1) + (4 * (f 400 43))) + 1) = iN k3 ∧ k3 < 4680 ∧ ∃ k4 : Nat, ((((f 400 47) + 1) + (4 * (f 400 43))) + 2) = iN k4 ∧ k4 < 4680 ∧ ∃ k5 : Nat, ((((f 400 47) + 1) + (4 * (f 400 43))) + 3) = iN k5 ∧ k5 < 4680 ∧ CI L xs xm_Mo_does [.ref 400, .int (f 401 k2), .int (f 401 k3), .int (f 401 k4), .int (f 401 k5)] f (fun v1 g1 => ((v1 = 0 → Q g1) ∧ (¬ v1 = 0 → ∀ g2, g2 = xu g1 400 43 ((g1 400 43) + 1) → Wp L xs xm_Mo_goes 4 [.ref 400, .int x1, .int (((f 400 47) + 1) + (4 * (f 400 43)))] [] g2 (QV Q))))) ∧ (¬ (f 400 43) < (f 401 k1) → Q f))) ∧ (¬ (f 400 43) < x1 → Q f))) : Wp L xs xm_Mo_goes 4 [.ref 400, .int x1, x2] [] f (QV Q) := by
  refine w_aload_n (pc' := 5) rfl rfl rfl ?_
  refine w_getI (pc' := 8) rfl rfl rfl rfl rfl (show xS0 L 400 = (12, 0) from rfl) ?_
  refine w_iload_n (pc' := 9) rfl rfl rfl ?_
  refine w_br2 (pc' := 12) (t := 93) rfl rfl rfl ic_ge (fun hc => ?_) (fun hc => ?_)
  · replace h := h.2 hc
    exact w_return rfl rfl h
  · replace h := h.1 (Classical.not_not.mp hc)
    refine w_aload_n (pc' := 13) rfl rfl rfl ?_
    refine w_getI (pc' := 16) rfl rfl rfl rfl rfl (show xS0 L 400 = (12, 0) from rfl) ?_
    refine w_aload_n (pc' := 17) rfl rfl rfl ?_
    have q1 : xR0 400 0 = some 401 ∧ xS0 L 401 = (20, 4680) := (kf_12_0 (show xS0 L 400 = (12, 0) from rfl))
    refine w_getR (pc' := 20) rfl rfl rfl rfl (show xS0 L 400 = (12, 0) from rfl) q1.1 ?_
    refine w_aload_n (pc' := 21) rfl rfl rfl ?_
    refine w_getI (pc' := 24) rfl rfl rfl rfl rfl (show xS0 L 400 = (12, 0) from rfl) ?_
    obtain ⟨k1, ek1, bk1, h⟩ := h
    refine w_iaload (pc' := 25) (i := k1) rfl rfl q1.2 ek1 bk1 (by omega) ?_
    refine w_br2 (pc' := 28) (t := 93) rfl rfl rfl ic_ge (fun hc => ?_) (fun hc => ?_)
    · replace h := h.2 hc
      exact w_return rfl rfl h
    · replace h := h.1 (Classical.not_not.mp hc)
      refine w_aload_n (pc' := 29) rfl rfl rfl ?_
      refine w_getI (pc' := 32) rfl rfl rfl rfl rfl (show xS0 L 400 = (12, 0) from rfl) ?_
      refine w_iconst (pc' := 33) rfl rfl (v := 1) rfl ?_
      refine w_iadd (pc' := 34) rfl rfl ?_
      refine w_iconst (pc' := 35) rfl rfl (v := 4) rfl ?_
      refine w_aload_n (pc' := 36) rfl rfl rfl ?_
      refine w_getI (pc' := 39) rfl rfl rfl rfl rfl (show xS0 L 400 = (12, 0) from rfl) ?_
      refine w_imul (pc' := 40) rfl rfl ?_
      refine w_iadd (pc' := 41) rfl rfl ?_
      refine w_istore_n (pc' := 42) rfl rfl (xl' := [.ref 400, .int x1, .int (((f 400 47) + 1) + (4 * (f 400 43)))]) rfl ?_
      refine w_aload_n (pc' := 43) rfl rfl rfl ?_
      refine w_aload_n (pc' := 44) rfl rfl rfl ?_
      have q2 : xR0 400 0 = some 401 ∧ xS0 L 401 = (20, 4680) := (kf_12_0 (show xS0 L 400 = (12, 0) from rfl))
      refine w_getR (pc' := 47) rfl rfl rfl rfl (show xS0 L 400 = (12, 0) from rfl) q2.1 ?_
      refine w_iload_n (pc' := 48) rfl rfl rfl ?_
      obtain ⟨k2, ek2, bk2, h⟩ := h
      refine w_iaload (pc' := 49) (i := k2) rfl rfl q2.2 ek2 bk2 (by omega) ?_
      refine w_aload_n (pc' := 50) rfl rfl rfl ?_
      have q3 : xR0 400 0 = some 401 ∧ xS0 L 401 = (20, 4680) := (kf_12_0 (show xS0 L 400 = (12, 0) from rfl))
      refine w_getR (pc' := 53) rfl rfl rfl rfl (show xS0 L 400 = (12, 0) from rfl) q3.1 ?_
      refine w_iload_n (pc' := 54) rfl rfl rfl ?_
      refine w_iconst (pc' := 55) rfl rfl (v := 1) rfl ?_
      refine w_iadd (pc' := 56) rfl rfl ?_
      obtain ⟨k3, ek3, bk3, h⟩ := h
      refine w_iaload (pc' := 57) (i := k3) rfl rfl q3.2 ek3 bk3 (by omega) ?_
      refine w_aload_n (pc' := 58) rfl rfl rfl ?_
      have q4 : xR0 400 0 = some 401 ∧ xS0 L 401 = (20, 4680) := (kf_12_0 (show xS0 L 400 = (12, 0) from rfl))
      refine w_getR (pc' := 61) rfl rfl rfl rfl (show xS0 L 400 = (12, 0) from rfl) q4.1 ?_
      refine w_iload_n (pc' := 62) rfl rfl rfl ?_
      refine w_iconst (pc' := 63) rfl rfl (v := 2) rfl ?_
      refine w_iadd (pc' := 64) rfl rfl ?_
      obtain ⟨k4, ek4, bk4, h⟩ := h
      refine w_iaload (pc' := 65) (i := k4) rfl rfl q4.2 ek4 bk4 (by omega) ?_
      refine w_aload_n (pc' := 66) rfl rfl rfl ?_
      have q5 : xR0 400 0 = some 401 ∧ xS0 L 401 = (20, 4680) := (kf_12_0 (show xS0 L 400 = (12, 0) from rfl))
      refine w_getR (pc' := 69) rfl rfl rfl rfl (show xS0 L 400 = (12, 0) from rfl) q5.1 ?_
      refine w_iload_n (pc' := 70) rfl rfl rfl ?_
      refine w_iconst (pc' := 71) rfl rfl (v := 3) rfl ?_
      refine w_iadd (pc' := 72) rfl rfl ?_
      obtain ⟨k5, ek5, bk5, h⟩ := h
      refine w_iaload (pc' := 73) (i := k5) rfl rfl q5.2 ek5 bk5 (by omega) ?_
      refine w_cv (pc' := 76) (cm := xm_Mo_does) (as := [.int (f 401 k2), .int (f 401 k3), .int (f 401 k4), .int (f 401 k5)]) (a := 400) (rest := []) rfl rfl rfl  (xa_Mo_does (Nat.le_of_ble_eq_true rfl)) (show xS0 L 400 = (12, 0) from rfl) rfl (CI.k h fun v1 g1 h => ?_)
      show Wp L xs xm_Mo_goes 76 [.ref 400, .int x1, .int (((f 400 47) + 1) + (4 * (f 400 43)))] [.int v1] g1 _
      refine w_br (pc' := 79) (t := 80) rfl rfl rfl ic_ne (fun hc => ?_) (fun hc => ?_)
      · replace h := h.2 hc
        refine w_aload_n (pc' := 81) rfl rfl rfl ?_
        refine w_dupA (pc' := 82) rfl rfl ?_
        refine w_getI (pc' := 85) rfl rfl rfl rfl rfl (show xS0 L 400 = (12, 0) from rfl) ?_
        refine w_iconst (pc' := 86) rfl rfl (v := 1) rfl ?_
        refine w_iadd (pc' := 87) rfl rfl ?_
        refine w_putI (pc' := 90) rfl rfl rfl rfl (show xS0 L 400 = (12, 0) from rfl) ?_
        replace h := h _ rfl
        generalize xu g1 400 43 ((g1 400 43) + 1) = g2 at h ⊢
        refine w_goto (pc' := 4) rfl rfl ?_
        exact h
      · replace h := h.1 (Classical.not_not.mp hc)
        exact w_return rfl rfl h
theorem t_Mo_begins_0 {L : Nat} {xs : Nat → Int32}  {f : Hp} {Q : Hp → Prop}  (h : ∀ g1, g1 = xu f 400 43 0 → Wp L xs xm_Mo_begins 7 [.ref 400, .int 0, .retAddr 0] [] g1 (QV Q)) : CV L xs xm_Mo_begins [.ref 400] f Q := by
  show Wp L xs xm_Mo_begins 0 [.ref 400, .retAddr 0, .retAddr 0] [] f (QV Q)
  refine w_aload_n (pc' := 1) rfl rfl rfl ?_
  refine w_iconst (pc' := 2) rfl rfl (v := 0) rfl ?_
  refine w_putI (pc' := 5) rfl rfl rfl rfl (show xS0 L 400 = (12, 0) from rfl) ?_
  replace h := h _ rfl
  generalize xu f 400 43 0 = g1 at h ⊢
  refine w_iconst (pc' := 6) rfl rfl (v := 0) rfl ?_
  refine w_istore_n (pc' := 7) rfl rfl (xl' := [.ref 400, .int 0, .retAddr 0]) rfl ?_
  exact h
theorem t_Mo_begins_7 {L : Nat} {xs : Nat → Int32} {x1 : Int32} {x2 : Value} {f : Hp} {Q : Hp → Prop} (cx2 : (x2.category != 2) = true) (h : ((x1 < 7 → ∃ k1 : Nat, x1 = iN k1 ∧ k1 < 7 ∧ ∀ g1, g1 = xu f 406 k1 0 → ∀ g2, g2 = xu g1 407 k1 1 → ∀ g3, g3 = xu g2 408 k1 0 → ∀ g4, g4 = xu g3 409 k1 0 → ∀ g5, g5 = xu g4 410 k1 0 → ∀ g6, g6 = xu g5 411 k1 (-1) → Wp L xs xm_Mo_begins 57 [.ref 400, .int x1, .int 0] [] g6 (QV Q)) ∧ (¬ x1 < 7 → Wp L xs xm_Mo_begins 101 [.ref 400, .int 0, x2] [] f (QV Q)))) : Wp L xs xm_Mo_begins 7 [.ref 400, .int x1, x2] [] f (QV Q) := by
  refine w_iload_n (pc' := 8) rfl rfl rfl ?_
  refine w_bipush (pc' := 10) rfl rfl (v := 7) rfl ?_
  refine w_br2 (pc' := 13) (t := 99) rfl rfl rfl ic_ge (fun hc => ?_) (fun hc => ?_)
  · replace h := h.2 hc
    refine w_iconst (pc' := 100) rfl rfl (v := 0) rfl ?_
    refine w_istore_n (pc' := 101) rfl rfl (xl' := [.ref 400, .int 0, x2]) rfl ?_
    exact h
  · replace h := h.1 (Classical.not_not.mp hc)
    refine w_aload_n (pc' := 14) rfl rfl rfl ?_
    have q1 : xR0 400 23 = some 406 ∧ xS0 L 406 = (20, 7) := (kf_12_23 (show xS0 L 400 = (12, 0) from rfl))
    refine w_getR (pc' := 17) rfl rfl rfl rfl (show xS0 L 400 = (12, 0) from rfl) q1.1 ?_
    refine w_iload_n (pc' := 18) rfl rfl rfl ?_
    refine w_iconst (pc' := 19) rfl rfl (v := 0) rfl ?_
    obtain ⟨k1, ek1, bk1, h⟩ := h
    refine w_iastore (pc' := 20) (i := k1) rfl rfl q1.2 ek1 bk1 (by omega) ?_
    replace h := h _ rfl
    generalize xu f 406 k1 0 = g1 at h ⊢
    refine w_aload_n (pc' := 21) rfl rfl rfl ?_
    have q2 : xR0 400 24 = some 407 ∧ xS0 L 407 = (22, 7) := (kf_12_24 (show xS0 L 400 = (12, 0) from rfl))
    refine w_getR (pc' := 24) rfl rfl rfl rfl (show xS0 L 400 = (12, 0) from rfl) q2.1 ?_
    refine w_iload_n (pc' := 25) rfl rfl rfl ?_
    refine w_iconst (pc' := 26) rfl rfl (v := 1) rfl ?_
    refine w_bastore2 (pc' := 27) (i := k1) rfl rfl q2.2 ek1 bk1 (by omega) (by decide) ?_
    replace h := h _ rfl
    generalize xu g1 407 k1 1 = g2 at h ⊢
    refine w_aload_n (pc' := 28) rfl rfl rfl ?_
    have q3 : xR0 400 25 = some 408 ∧ xS0 L 408 = (20, 7) := (kf_12_25 (show xS0 L 400 = (12, 0) from rfl))
    refine w_getR (pc' := 31) rfl rfl rfl rfl (show xS0 L 400 = (12, 0) from rfl) q3.1 ?_
    refine w_iload_n (pc' := 32) rfl rfl rfl ?_
    refine w_iconst (pc' := 33) rfl rfl (v := 0) rfl ?_
    refine w_iastore (pc' := 34) (i := k1) rfl rfl q3.2 ek1 bk1 (by omega) ?_
    replace h := h _ rfl
    generalize xu g2 408 k1 0 = g3 at h ⊢
    refine w_aload_n (pc' := 35) rfl rfl rfl ?_
    have q4 : xR0 400 26 = some 409 ∧ xS0 L 409 = (20, 7) := (kf_12_26 (show xS0 L 400 = (12, 0) from rfl))
    refine w_getR (pc' := 38) rfl rfl rfl rfl (show xS0 L 400 = (12, 0) from rfl) q4.1 ?_
    refine w_iload_n (pc' := 39) rfl rfl rfl ?_
    refine w_iconst (pc' := 40) rfl rfl (v := 0) rfl ?_
    refine w_iastore (pc' := 41) (i := k1) rfl rfl q4.2 ek1 bk1 (by omega) ?_
    replace h := h _ rfl
    generalize xu g3 409 k1 0 = g4 at h ⊢
    refine w_aload_n (pc' := 42) rfl rfl rfl ?_
    have q5 : xR0 400 27 = some 410 ∧ xS0 L 410 = (20, 7) := (kf_12_27 (show xS0 L 400 = (12, 0) from rfl))
    refine w_getR (pc' := 45) rfl rfl rfl rfl (show xS0 L 400 = (12, 0) from rfl) q5.1 ?_
    refine w_iload_n (pc' := 46) rfl rfl rfl ?_
    refine w_iconst (pc' := 47) rfl rfl (v := 0) rfl ?_
    refine w_iastore (pc' := 48) (i := k1) rfl rfl q5.2 ek1 bk1 (by omega) ?_
    replace h := h _ rfl
    generalize xu g4 410 k1 0 = g5 at h ⊢
    refine w_aload_n (pc' := 49) rfl rfl rfl ?_
    have q6 : xR0 400 28 = some 411 ∧ xS0 L 411 = (20, 7) := (kf_12_28 (show xS0 L 400 = (12, 0) from rfl))
    refine w_getR (pc' := 52) rfl rfl rfl rfl (show xS0 L 400 = (12, 0) from rfl) q6.1 ?_
    refine w_iload_n (pc' := 53) rfl rfl rfl ?_
    refine w_iconst (pc' := 54) rfl rfl (v := (-1)) rfl ?_
    refine w_iastore (pc' := 55) (i := k1) rfl rfl q6.2 ek1 bk1 (by omega) ?_
    replace h := h _ rfl
    generalize xu g5 411 k1 (-1) = g6 at h ⊢
    refine w_iconst (pc' := 56) rfl rfl (v := 0) rfl ?_
    refine w_istore_n (pc' := 57) rfl rfl (xl' := [.ref 400, .int x1, .int 0]) rfl ?_
    exact h
theorem t_Mo_begins_57 {L : Nat} {xs : Nat → Int32} {x1 : Int32} {x2 : Int32} {f : Hp} {Q : Hp → Prop}  (h : ((x2 < 8 → ∃ k1 : Nat, (((f 400 11) + 5) + x2) = iN k1 ∧ k1 < 4680 ∧ ∃ k2 : Nat, ((8 * x1) + x2) = iN k2 ∧ k2 < 56 ∧ ∀ g1, g1 = xu f 412 k2 (f 401 k1) → Wp L xs xm_Mo_begins 57 [.ref 400, .int x1, .int (x2 + 1)] [] g1 (QV Q)) ∧ (¬ x2 < 8 → Wp L xs xm_Mo_begins 7 [.ref 400, .int (x1 + 1), .int x2] [] f (QV Q)))) : Wp L xs xm_Mo_begins 57 [.ref 400, .int x1, .int x2] [] f (QV Q) := by
  refine w_iload_n (pc' := 58) rfl rfl rfl ?_
  refine w_bipush (pc' := 60) rfl rfl (v := 8) rfl ?_
  refine w_br2 (pc' := 63) (t := 93) rfl rfl rfl ic_ge (fun hc => ?_) (fun hc => ?_)
  · replace h := h.2 hc
    refine w_iinc (pc' := 96) rfl rfl rfl (v := (x1 + 1)) rfl (xl' := [.ref 400, .int (x1 + 1), .int x2]) rfl ?_
    refine w_goto (pc' := 7) rfl rfl ?_
    exact h
  · replace h := h.1 (Classical.not_not.mp hc)
    refine w_aload_n (pc' := 64) rfl rfl rfl ?_
    have q1 : xR0 400 29 = some 412 ∧ xS0 L 412 = (20, 56) := (kf_12_29 (show xS0 L 400 = (12, 0) from rfl))
    refine w_getR (pc' := 67) rfl rfl rfl rfl (show xS0 L 400 = (12, 0) from rfl) q1.1 ?_
    refine w_bipush (pc' := 69) rfl rfl (v := 8) rfl ?_
    refine w_iload_n (pc' := 70) rfl rfl rfl ?_
    refine w_imul (pc' := 71) rfl rfl ?_
    refine w_iload_n (pc' := 72) rfl rfl rfl ?_
    refine w_iadd (pc' := 73) rfl rfl ?_
    refine w_aload_n (pc' := 74) rfl rfl rfl ?_
    have q2 : xR0 400 0 = some 401 ∧ xS0 L 401 = (20, 4680) := (kf_12_0 (show xS0 L 400 = (12, 0) from rfl))
    refine w_getR (pc' := 77) rfl rfl rfl rfl (show xS0 L 400 = (12, 0) from rfl) q2.1 ?_
    refine w_aload_n (pc' := 78) rfl rfl rfl ?_
    refine w_getI (pc' := 81) rfl rfl rfl rfl rfl (show xS0 L 400 = (12, 0) from rfl) ?_
    refine w_iconst (pc' := 82) rfl rfl (v := 5) rfl ?_
    refine w_iadd (pc' := 83) rfl rfl ?_
    refine w_iload_n (pc' := 84) rfl rfl rfl ?_
    refine w_iadd (pc' := 85) rfl rfl ?_
    obtain ⟨k1, ek1, bk1, h⟩ := h
    refine w_iaload (pc' := 86) (i := k1) rfl rfl q2.2 ek1 bk1 (by omega) ?_
    obtain ⟨k2, ek2, bk2, h⟩ := h
    refine w_iastore (pc' := 87) (i := k2) rfl rfl q1.2 ek2 bk2 (by omega) ?_
    replace h := h _ rfl
    generalize xu f 412 k2 (f 401 k1) = g1 at h ⊢
    refine w_iinc (pc' := 90) rfl rfl rfl (v := (x2 + 1)) rfl (xl' := [.ref 400, .int x1, .int (x2 + 1)]) rfl ?_
    refine w_goto (pc' := 57) rfl rfl ?_
    exact h
theorem t_Mo_begins_101 {L : Nat} {xs : Nat → Int32} {x1 : Int32} {x2 : Value} {f : Hp} {Q : Hp → Prop} (cx2 : (x2.category != 2) = true) (h : ((x1 < 91 → ∃ k1 : Nat, x1 = iN k1 ∧ k1 < 91 ∧ ∀ g1, g1 = xu f 414 k1 (-1) → ∀ g2, g2 = xu g1 415 k1 0 → ∀ g3, g3 = xu g2 416 k1 0 → ∀ g4, g4 = xu g3 417 k1 (-1) → ∀ g5, g5 = xu g4 418 k1 (-1) → ∀ g6, g6 = xu g5 419 k1 (-1) → Wp L xs xm_Mo_begins 101 [.ref 400, .int (x1 + 1), x2] [] g6 (QV Q)) ∧ (¬ x1 < 91 → Wp L xs xm_Mo_begins 157 [.ref 400, .int 0, x2] [] f (QV Q)))) : Wp L xs xm_Mo_begins 101 [.ref 400, .int x1, x2] [] f (QV Q) := by
  refine w_iload_n (pc' := 102) rfl rfl rfl ?_
  refine w_bipush (pc' := 104) rfl rfl (v := 91) rfl ?_
  refine w_br2 (pc' := 107) (t := 155) rfl rfl rfl ic_ge (fun hc => ?_) (fun hc => ?_)
  · replace h := h.2 hc
    refine w_iconst (pc' := 156) rfl rfl (v := 0) rfl ?_
    refine w_istore_n (pc' := 157) rfl rfl (xl' := [.ref 400, .int 0, x2]) rfl ?_
    exact h
  · replace h := h.1 (Classical.not_not.mp hc)
    refine w_aload_n (pc' := 108) rfl rfl rfl ?_
    have q1 : xR0 400 31 = some 414 ∧ xS0 L 414 = (20, 91) := (kf_12_31 (show xS0 L 400 = (12, 0) from rfl))
    refine w_getR (pc' := 111) rfl rfl rfl rfl (show xS0 L 400 = (12, 0) from rfl) q1.1 ?_
    refine w_iload_n (pc' := 112) rfl rfl rfl ?_
    refine w_iconst (pc' := 113) rfl rfl (v := (-1)) rfl ?_
    obtain ⟨k1, ek1, bk1, h⟩ := h
    refine w_iastore (pc' := 114) (i := k1) rfl rfl q1.2 ek1 bk1 (by omega) ?_
    replace h := h _ rfl
    generalize xu f 414 k1 (-1) = g1 at h ⊢
    refine w_aload_n (pc' := 115) rfl rfl rfl ?_
    have q2 : xR0 400 32 = some 415 ∧ xS0 L 415 = (20, 91) := (kf_12_32 (show xS0 L 400 = (12, 0) from rfl))
    refine w_getR (pc' := 118) rfl rfl rfl rfl (show xS0 L 400 = (12, 0) from rfl) q2.1 ?_
    refine w_iload_n (pc' := 119) rfl rfl rfl ?_
    refine w_iconst (pc' := 120) rfl rfl (v := 0) rfl ?_
    refine w_iastore (pc' := 121) (i := k1) rfl rfl q2.2 ek1 bk1 (by omega) ?_
    replace h := h _ rfl
    generalize xu g1 415 k1 0 = g2 at h ⊢
    refine w_aload_n (pc' := 122) rfl rfl rfl ?_
    have q3 : xR0 400 33 = some 416 ∧ xS0 L 416 = (20, 91) := (kf_12_33 (show xS0 L 400 = (12, 0) from rfl))
    refine w_getR (pc' := 125) rfl rfl rfl rfl (show xS0 L 400 = (12, 0) from rfl) q3.1 ?_
    refine w_iload_n (pc' := 126) rfl rfl rfl ?_
    refine w_iconst (pc' := 127) rfl rfl (v := 0) rfl ?_
    refine w_iastore (pc' := 128) (i := k1) rfl rfl q3.2 ek1 bk1 (by omega) ?_
    replace h := h _ rfl
    generalize xu g2 416 k1 0 = g3 at h ⊢
    refine w_aload_n (pc' := 129) rfl rfl rfl ?_
    have q4 : xR0 400 34 = some 417 ∧ xS0 L 417 = (20, 91) := (kf_12_34 (show xS0 L 400 = (12, 0) from rfl))
    refine w_getR (pc' := 132) rfl rfl rfl rfl (show xS0 L 400 = (12, 0) from rfl) q4.1 ?_
    refine w_iload_n (pc' := 133) rfl rfl rfl ?_
    refine w_iconst (pc' := 134) rfl rfl (v := (-1)) rfl ?_
    refine w_iastore (pc' := 135) (i := k1) rfl rfl q4.2 ek1 bk1 (by omega) ?_
    replace h := h _ rfl
    generalize xu g3 417 k1 (-1) = g4 at h ⊢
    refine w_aload_n (pc' := 136) rfl rfl rfl ?_
    have q5 : xR0 400 35 = some 418 ∧ xS0 L 418 = (20, 91) := (kf_12_35 (show xS0 L 400 = (12, 0) from rfl))
    refine w_getR (pc' := 139) rfl rfl rfl rfl (show xS0 L 400 = (12, 0) from rfl) q5.1 ?_
    refine w_iload_n (pc' := 140) rfl rfl rfl ?_
    refine w_iconst (pc' := 141) rfl rfl (v := (-1)) rfl ?_
    refine w_iastore (pc' := 142) (i := k1) rfl rfl q5.2 ek1 bk1 (by omega) ?_
    replace h := h _ rfl
    generalize xu g4 418 k1 (-1) = g5 at h ⊢
    refine w_aload_n (pc' := 143) rfl rfl rfl ?_
    have q6 : xR0 400 36 = some 419 ∧ xS0 L 419 = (20, 91) := (kf_12_36 (show xS0 L 400 = (12, 0) from rfl))
    refine w_getR (pc' := 146) rfl rfl rfl rfl (show xS0 L 400 = (12, 0) from rfl) q6.1 ?_
    refine w_iload_n (pc' := 147) rfl rfl rfl ?_
    refine w_iconst (pc' := 148) rfl rfl (v := (-1)) rfl ?_
    refine w_iastore (pc' := 149) (i := k1) rfl rfl q6.2 ek1 bk1 (by omega) ?_
    replace h := h _ rfl
    generalize xu g5 419 k1 (-1) = g6 at h ⊢
    refine w_iinc (pc' := 152) rfl rfl rfl (v := (x1 + 1)) rfl (xl' := [.ref 400, .int (x1 + 1), x2]) rfl ?_
    refine w_goto (pc' := 101) rfl rfl ?_
    exact h
theorem t_Mo_begins_157 {L : Nat} {xs : Nat → Int32} {x1 : Int32} {x2 : Value} {f : Hp} {Q : Hp → Prop} (cx2 : (x2.category != 2) = true) (h : ((x1 < 49 → ∃ k1 : Nat, x1 = iN k1 ∧ k1 < 49 ∧ ∀ g1, g1 = xu f 420 k1 (-1) → Wp L xs xm_Mo_begins 157 [.ref 400, .int (x1 + 1), x2] [] g1 (QV Q)) ∧ (¬ x1 < 49 → Wp L xs xm_Mo_begins 178 [.ref 400, .int 0, x2] [] f (QV Q)))) : Wp L xs xm_Mo_begins 157 [.ref 400, .int x1, x2] [] f (QV Q) := by
  refine w_iload_n (pc' := 158) rfl rfl rfl ?_
  refine w_bipush (pc' := 160) rfl rfl (v := 49) rfl ?_
  refine w_br2 (pc' := 163) (t := 176) rfl rfl rfl ic_ge (fun hc => ?_) (fun hc => ?_)
  · replace h := h.2 hc
    refine w_iconst (pc' := 177) rfl rfl (v := 0) rfl ?_
    refine w_istore_n (pc' := 178) rfl rfl (xl' := [.ref 400, .int 0, x2]) rfl ?_
    exact h
  · replace h := h.1 (Classical.not_not.mp hc)
    refine w_aload_n (pc' := 164) rfl rfl rfl ?_
    have q1 : xR0 400 37 = some 420 ∧ xS0 L 420 = (20, 49) := (kf_12_37 (show xS0 L 400 = (12, 0) from rfl))
    refine w_getR (pc' := 167) rfl rfl rfl rfl (show xS0 L 400 = (12, 0) from rfl) q1.1 ?_
    refine w_iload_n (pc' := 168) rfl rfl rfl ?_
    refine w_iconst (pc' := 169) rfl rfl (v := (-1)) rfl ?_
    obtain ⟨k1, ek1, bk1, h⟩ := h
    refine w_iastore (pc' := 170) (i := k1) rfl rfl q1.2 ek1 bk1 (by omega) ?_
    replace h := h _ rfl
    generalize xu f 420 k1 (-1) = g1 at h ⊢
    refine w_iinc (pc' := 173) rfl rfl rfl (v := (x1 + 1)) rfl (xl' := [.ref 400, .int (x1 + 1), x2]) rfl ?_
    refine w_goto (pc' := 157) rfl rfl ?_
    exact h
theorem t_Mo_begins_178 {L : Nat} {xs : Nat → Int32} {x1 : Int32} {x2 : Value} {f : Hp} {Q : Hp → Prop} (cx2 : (x2.category != 2) = true) (h : ((x1 < 10 → ∃ k1 : Nat, x1 = iN k1 ∧ k1 < 10 ∧ ∀ g1, g1 = xu f 422 k1 0 → Wp L xs xm_Mo_begins 178 [.ref 400, .int (x1 + 1), x2] [] g1 (QV Q)) ∧ (¬ x1 < 10 → Q f))) : Wp L xs xm_Mo_begins 178 [.ref 400, .int x1, x2] [] f (QV Q) := by
  refine w_iload_n (pc' := 179) rfl rfl rfl ?_
  refine w_bipush (pc' := 181) rfl rfl (v := 10) rfl ?_
  refine w_br2 (pc' := 184) (t := 197) rfl rfl rfl ic_ge (fun hc => ?_) (fun hc => ?_)
  · replace h := h.2 hc
    exact w_return rfl rfl h
  · replace h := h.1 (Classical.not_not.mp hc)
    refine w_aload_n (pc' := 185) rfl rfl rfl ?_
    have q1 : xR0 400 39 = some 422 ∧ xS0 L 422 = (22, 10) := (kf_12_39 (show xS0 L 400 = (12, 0) from rfl))
    refine w_getR (pc' := 188) rfl rfl rfl rfl (show xS0 L 400 = (12, 0) from rfl) q1.1 ?_
    refine w_iload_n (pc' := 189) rfl rfl rfl ?_
    refine w_iconst (pc' := 190) rfl rfl (v := 0) rfl ?_
    obtain ⟨k1, ek1, bk1, h⟩ := h
    refine w_bastore2 (pc' := 191) (i := k1) rfl rfl q1.2 ek1 bk1 (by omega) (by decide) ?_
    replace h := h _ rfl
    generalize xu f 422 k1 0 = g1 at h ⊢
    refine w_iinc (pc' := 194) rfl rfl rfl (v := (x1 + 1)) rfl (xl' := [.ref 400, .int (x1 + 1), x2]) rfl ?_
    refine w_goto (pc' := 178) rfl rfl ?_
    exact h
