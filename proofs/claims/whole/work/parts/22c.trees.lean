/-! TREES (printed by wip/whole/gen7.py): what must hold at a label of a method -/
theorem t_Re_read_0 {L : Nat} {xs : Nat → Int32} {x1 : Nat} {nx1 : Nat} {x2 : Int32} {x3 : Int32} {f : Hp} {Q : Hp → Prop} (qx1 : xS0 L x1 = (21, nx1)) (h : 600 ≤ nx1 ∧ ∀ g1, g1 = xuc f 73 (va_cpy (f x1) (f 73) 0 0 600) → ∀ g2, g2 = xu g1 51 6 (imin x2 600) → ∀ g3, g3 = xu g2 51 3 0 → ∀ g4, g4 = xu g3 51 4 (-1) → ∀ g5, g5 = xu g4 51 11 (-1) → CV L xs xm_Co_clear [.ref 52] g5 (fun g6 => ∀ g7, g7 = xu g6 64 0 0 → ∀ g8, g8 = xu g7 69 0 0 → ∀ g9, g9 = xu g8 51 9 0 → CV L xs xm_Re_next [.ref 51] g9 (fun g10 => Wp L xs xm_Re_read 74 [.ref 51, .ref x1, .int x2, .int x3, .int 0] [] g10 (QV Q)))) : CV L xs xm_Re_read [.ref 51, .ref x1, .int x2, .int x3] f Q := by
  show Wp L xs xm_Re_read 0 [.ref 51, .ref x1, .int x2, .int x3, .retAddr 0] [] f (QV Q)
  refine w_aload_n (pc' := 1) rfl rfl rfl ?_
  refine w_iconst (pc' := 2) rfl rfl (v := 0) rfl ?_
  refine w_aload_n (pc' := 3) rfl rfl rfl ?_
  have q1 : xR0 51 5 = some 73 ∧ xS0 L 73 = (21, 600) := (kf_4_5 (show xS0 L 51 = (4, 0) from rfl))
  refine w_getR (pc' := 6) rfl rfl rfl rfl (show xS0 L 51 = (4, 0) from rfl) q1.1 ?_
  refine w_iconst (pc' := 7) rfl rfl (v := 0) rfl ?_
  refine w_sipush (pc' := 10) rfl rfl (v := 600) rfl ?_
  obtain ⟨q2, h⟩ := h
  refine w_copy (pc' := 13) rfl rfl rfl qx1 q1.2 (Or.inr rfl) (sp := 0) (dp := 0) (c := 600) rfl rfl rfl (by omega) (by omega) (k_len qx1 rfl) (by omega) (Nat.le_of_ble_eq_true rfl) ?_
  replace h := h _ rfl
  generalize xuc f 73 (va_cpy (f x1) (f 73) 0 0 600) = g1 at h ⊢
  refine w_aload_n (pc' := 14) rfl rfl rfl ?_
  refine w_iload_n (pc' := 15) rfl rfl rfl ?_
  refine w_sipush (pc' := 18) rfl rfl (v := 600) rfl ?_
  refine w_min (pc' := 21) rfl rfl rfl (Nat.le_of_ble_eq_true rfl) ?_
  refine w_putI (pc' := 24) rfl rfl rfl rfl (show xS0 L 51 = (4, 0) from rfl) ?_
  replace h := h _ rfl
  generalize xu g1 51 6 (imin x2 600) = g2 at h ⊢
  refine w_aload_n (pc' := 25) rfl rfl rfl ?_
  refine w_iconst (pc' := 26) rfl rfl (v := 0) rfl ?_
  refine w_putI (pc' := 29) rfl rfl rfl rfl (show xS0 L 51 = (4, 0) from rfl) ?_
  replace h := h _ rfl
  generalize xu g2 51 3 0 = g3 at h ⊢
  refine w_aload_n (pc' := 30) rfl rfl rfl ?_
  refine w_iconst (pc' := 31) rfl rfl (v := (-1)) rfl ?_
  refine w_putI (pc' := 34) rfl rfl rfl rfl (show xS0 L 51 = (4, 0) from rfl) ?_
  replace h := h _ rfl
  generalize xu g3 51 4 (-1) = g4 at h ⊢
  refine w_aload_n (pc' := 35) rfl rfl rfl ?_
  refine w_iconst (pc' := 36) rfl rfl (v := (-1)) rfl ?_
  refine w_putI (pc' := 39) rfl rfl rfl rfl (show xS0 L 51 = (4, 0) from rfl) ?_
  replace h := h _ rfl
  generalize xu g4 51 11 (-1) = g5 at h ⊢
  refine w_aload_n (pc' := 40) rfl rfl rfl ?_
  have q3 : xR0 51 0 = some 52 ∧ xS0 L 52 = (1, 0) := (kf_4_0 (show xS0 L 51 = (4, 0) from rfl))
  refine w_getR (pc' := 43) rfl rfl rfl rfl (show xS0 L 51 = (4, 0) from rfl) q3.1 ?_
  refine w_cv (pc' := 46) (cm := xm_Co_clear) (as := []) (a := 52) (rest := []) rfl rfl rfl  (xa_Co_clear (Nat.le_of_ble_eq_true rfl)) q3.2 rfl (CV.k h fun g6 h => ?_)
  show Wp L xs xm_Re_read 46 [.ref 51, .ref x1, .int x2, .int x3, .retAddr 0] [] g6 _
  refine w_aload_n (pc' := 47) rfl rfl rfl ?_
  have q4 : xR0 51 1 = some 64 ∧ xS0 L 64 = (6, 0) := (kf_4_1 (show xS0 L 51 = (4, 0) from rfl))
  refine w_getR (pc' := 50) rfl rfl rfl rfl (show xS0 L 51 = (4, 0) from rfl) q4.1 ?_
  refine w_iconst (pc' := 51) rfl rfl (v := 0) rfl ?_
  refine w_putI (pc' := 54) rfl rfl rfl rfl q4.2 ?_
  replace h := h _ rfl
  generalize xu g6 64 0 0 = g7 at h ⊢
  refine w_aload_n (pc' := 55) rfl rfl rfl ?_
  have q5 : xR0 51 2 = some 69 ∧ xS0 L 69 = (5, 0) := (kf_4_2 (show xS0 L 51 = (4, 0) from rfl))
  refine w_getR (pc' := 58) rfl rfl rfl rfl (show xS0 L 51 = (4, 0) from rfl) q5.1 ?_
  refine w_iconst (pc' := 59) rfl rfl (v := 0) rfl ?_
  refine w_putI (pc' := 62) rfl rfl rfl rfl q5.2 ?_
  replace h := h _ rfl
  generalize xu g7 69 0 0 = g8 at h ⊢
  refine w_aload_n (pc' := 63) rfl rfl rfl ?_
  refine w_iconst (pc' := 64) rfl rfl (v := 0) rfl ?_
  refine w_putI (pc' := 67) rfl rfl rfl rfl (show xS0 L 51 = (4, 0) from rfl) ?_
  replace h := h _ rfl
  generalize xu g8 51 9 0 = g9 at h ⊢
  refine w_aload_n (pc' := 68) rfl rfl rfl ?_
  refine w_cv (pc' := 71) (cm := xm_Re_next) (as := []) (a := 51) (rest := []) rfl rfl rfl  (xa_Re_next (Nat.le_of_ble_eq_true rfl)) (show xS0 L 51 = (4, 0) from rfl) rfl (CV.k h fun g10 h => ?_)
  show Wp L xs xm_Re_read 71 [.ref 51, .ref x1, .int x2, .int x3, .retAddr 0] [] g10 _
  refine w_iconst (pc' := 72) rfl rfl (v := 0) rfl ?_
  refine w_istore (pc' := 74) rfl rfl (xl' := [.ref 51, .ref x1, .int x2, .int x3, .int 0]) rfl ?_
  exact h
theorem t_Re_read_74 {L : Nat} {xs : Nat → Int32} {x1 : Nat} {nx1 : Nat} {x2 : Int32} {x3 : Int32} {x4 : Int32} {f : Hp} {Q : Hp → Prop} (qx1 : xS0 L x1 = (21, nx1)) (h : ((x4 < 600 → (((f 51 7) = 0 → Wp L xs xm_Re_read 117 [.ref 51, .ref x1, .int x2, .int x3, .int x4] [] f (QV Q)) ∧ (¬ (f 51 7) = 0 → CI L xs xm_Re_readLine [.ref 51, .int x3] f (fun v1 g1 => ((v1 = 0 → ∀ g2, g2 = xu g1 51 3 1 → ∀ g3, g3 = xu g2 51 4 (g2 51 8) → Q g3) ∧ (¬ v1 = 0 → Wp L xs xm_Re_read 74 [.ref 51, .ref x1, .int x2, .int x3, .int (x4 + 1)] [] g1 (QV Q))))))) ∧ (¬ x4 < 600 → Wp L xs xm_Re_read 117 [.ref 51, .ref x1, .int x2, .int x3, .int x4] [] f (QV Q)))) : Wp L xs xm_Re_read 74 [.ref 51, .ref x1, .int x2, .int x3, .int x4] [] f (QV Q) := by
  refine w_iload (pc' := 76) rfl rfl rfl ?_
  refine w_sipush (pc' := 79) rfl rfl (v := 600) rfl ?_
  refine w_br2 (pc' := 82) (t := 117) rfl rfl rfl ic_ge (fun hc => ?_) (fun hc => ?_)
  · replace h := h.2 hc
    exact h
  · replace h := h.1 (Classical.not_not.mp hc)
    refine w_aload_n (pc' := 83) rfl rfl rfl ?_
    refine w_getI (pc' := 86) rfl rfl rfl rfl rfl (show xS0 L 51 = (4, 0) from rfl) ?_
    refine w_br (pc' := 89) (t := 117) rfl rfl rfl ic_eq (fun hc => ?_) (fun hc => ?_)
    · replace h := h.1 hc
      exact h
    · replace h := h.2 hc
      refine w_aload_n (pc' := 90) rfl rfl rfl ?_
      refine w_iload_n (pc' := 91) rfl rfl rfl ?_
      refine w_cv (pc' := 94) (cm := xm_Re_readLine) (as := [.int x3]) (a := 51) (rest := []) rfl rfl rfl  (xa_Re_readLine (Nat.le_of_ble_eq_true rfl)) (show xS0 L 51 = (4, 0) from rfl) rfl (CI.k h fun v1 g1 h => ?_)
      show Wp L xs xm_Re_read 94 [.ref 51, .ref x1, .int x2, .int x3, .int x4] [.int v1] g1 _
      refine w_br (pc' := 97) (t := 111) rfl rfl rfl ic_ne (fun hc => ?_) (fun hc => ?_)
      · replace h := h.2 hc
        refine w_iinc (pc' := 114) rfl rfl rfl (v := (x4 + 1)) rfl (xl' := [.ref 51, .ref x1, .int x2, .int x3, .int (x4 + 1)]) rfl ?_
        refine w_goto (pc' := 74) rfl rfl ?_
        exact h
      · replace h := h.1 (Classical.not_not.mp hc)
        refine w_aload_n (pc' := 98) rfl rfl rfl ?_
        refine w_iconst (pc' := 99) rfl rfl (v := 1) rfl ?_
        refine w_putI (pc' := 102) rfl rfl rfl rfl (show xS0 L 51 = (4, 0) from rfl) ?_
        replace h := h _ rfl
        generalize xu g1 51 3 1 = g2 at h ⊢
        refine w_aload_n (pc' := 103) rfl rfl rfl ?_
        refine w_aload_n (pc' := 104) rfl rfl rfl ?_
        refine w_getI (pc' := 107) rfl rfl rfl rfl rfl (show xS0 L 51 = (4, 0) from rfl) ?_
        refine w_putI (pc' := 110) rfl rfl rfl rfl (show xS0 L 51 = (4, 0) from rfl) ?_
        replace h := h _ rfl
        generalize xu g2 51 4 (g2 51 8) = g3 at h ⊢
        exact w_return rfl rfl h
theorem t_Re_read_117 {L : Nat} {xs : Nat → Int32} {x1 : Nat} {nx1 : Nat} {x2 : Int32} {x3 : Int32} {x4 : Int32} {f : Hp} {Q : Hp → Prop} (qx1 : xS0 L x1 = (21, nx1)) (h : CI L xs xm_Co_members [.ref 52] f (fun v1 g1 => (((f 51 11) < v1 → Q g1) ∧ (¬ (f 51 11) < v1 → CV L xs xm_Re_note [.ref 51, .int 4, .int (g1 51 6)] g1 (fun g2 => Q g2))))) : Wp L xs xm_Re_read 117 [.ref 51, .ref x1, .int x2, .int x3, .int x4] [] f (QV Q) := by
  refine w_aload_n (pc' := 118) rfl rfl rfl ?_
  refine w_getI (pc' := 121) rfl rfl rfl rfl rfl (show xS0 L 51 = (4, 0) from rfl) ?_
  refine w_aload_n (pc' := 122) rfl rfl rfl ?_
  have q1 : xR0 51 0 = some 52 ∧ xS0 L 52 = (1, 0) := (kf_4_0 (show xS0 L 51 = (4, 0) from rfl))
  refine w_getR (pc' := 125) rfl rfl rfl rfl (show xS0 L 51 = (4, 0) from rfl) q1.1 ?_
  refine w_cv (pc' := 128) (cm := xm_Co_members) (as := []) (a := 52) (rest := [.int (f 51 11)]) rfl rfl rfl  (xa_Co_members (Nat.le_of_ble_eq_true rfl)) q1.2 rfl (CI.k h fun v1 g1 h => ?_)
  show Wp L xs xm_Re_read 128 [.ref 51, .ref x1, .int x2, .int x3, .int x4] [.int v1, .int (f 51 11)] g1 _
  refine w_br2 (pc' := 131) (t := 140) rfl rfl rfl ic_lt (fun hc => ?_) (fun hc => ?_)
  · replace h := h.1 hc
    exact w_return rfl rfl h
  · replace h := h.2 hc
    refine w_aload_n (pc' := 132) rfl rfl rfl ?_
    refine w_iconst (pc' := 133) rfl rfl (v := 4) rfl ?_
    refine w_aload_n (pc' := 134) rfl rfl rfl ?_
    refine w_getI (pc' := 137) rfl rfl rfl rfl rfl (show xS0 L 51 = (4, 0) from rfl) ?_
    refine w_cv (pc' := 140) (cm := xm_Re_note) (as := [.int 4, .int (g1 51 6)]) (a := 51) (rest := []) rfl rfl rfl  (xa_Re_note (Nat.le_of_ble_eq_true rfl)) (show xS0 L 51 = (4, 0) from rfl) rfl (CV.k h fun g2 h => ?_)
    show Wp L xs xm_Re_read 140 [.ref 51, .ref x1, .int x2, .int x3, .int x4] [] g2 _
    exact w_return rfl rfl h
theorem t_Re_next_0 {L : Nat} {xs : Nat → Int32}  {f : Hp} {Q : Hp → Prop}  (h : Wp L xs xm_Re_next 5 [.ref 51, .int (f 51 9)] [] f (QV Q)) : CV L xs xm_Re_next [.ref 51] f Q := by
  show Wp L xs xm_Re_next 0 [.ref 51, .retAddr 0] [] f (QV Q)
  refine w_aload_n (pc' := 1) rfl rfl rfl ?_
  refine w_getI (pc' := 4) rfl rfl rfl rfl rfl (show xS0 L 51 = (4, 0) from rfl) ?_
  refine w_istore_n (pc' := 5) rfl rfl (xl' := [.ref 51, .int (f 51 9)]) rfl ?_
  exact h
theorem t_Re_next_5 {L : Nat} {xs : Nat → Int32} {x1 : Int32} {f : Hp} {Q : Hp → Prop}  (h : ((x1 < (f 51 6) → ∃ k1 : Nat, x1 = iN k1 ∧ k1 < 600 ∧ (((f 73 k1) = 32 → Wp L xs xm_Re_next 5 [.ref 51, .int (x1 + 1)] [] f (QV Q)) ∧ (¬ (f 73 k1) = 32 → (((f 73 k1) = 10 → Wp L xs xm_Re_next 5 [.ref 51, .int (x1 + 1)] [] f (QV Q)) ∧ (¬ (f 73 k1) = 10 → Wp L xs xm_Re_next 41 [.ref 51, .int x1] [] f (QV Q)))))) ∧ (¬ x1 < (f 51 6) → Wp L xs xm_Re_next 41 [.ref 51, .int x1] [] f (QV Q)))) : Wp L xs xm_Re_next 5 [.ref 51, .int x1] [] f (QV Q) := by
  refine w_iload_n (pc' := 6) rfl rfl rfl ?_
  refine w_aload_n (pc' := 7) rfl rfl rfl ?_
  refine w_getI (pc' := 10) rfl rfl rfl rfl rfl (show xS0 L 51 = (4, 0) from rfl) ?_
  refine w_br2 (pc' := 13) (t := 41) rfl rfl rfl ic_ge (fun hc => ?_) (fun hc => ?_)
  · replace h := h.2 hc
    exact h
  · replace h := h.1 (Classical.not_not.mp hc)
    refine w_aload_n (pc' := 14) rfl rfl rfl ?_
    have q1 : xR0 51 5 = some 73 ∧ xS0 L 73 = (21, 600) := (kf_4_5 (show xS0 L 51 = (4, 0) from rfl))
    refine w_getR (pc' := 17) rfl rfl rfl rfl (show xS0 L 51 = (4, 0) from rfl) q1.1 ?_
    refine w_iload_n (pc' := 18) rfl rfl rfl ?_
    obtain ⟨k1, ek1, bk1, h⟩ := h
    refine w_baload (pc' := 19) (i := k1) rfl rfl q1.2 (Or.inl rfl) ek1 bk1 (by omega) ?_
    refine w_bipush (pc' := 21) rfl rfl (v := 32) rfl ?_
    refine w_br2 (pc' := 24) (t := 35) rfl rfl rfl ic_eq (fun hc => ?_) (fun hc => ?_)
    · replace h := h.1 hc
      refine w_iinc (pc' := 38) rfl rfl rfl (v := (x1 + 1)) rfl (xl' := [.ref 51, .int (x1 + 1)]) rfl ?_
      refine w_goto (pc' := 5) rfl rfl ?_
      exact h
    · replace h := h.2 hc
      refine w_aload_n (pc' := 25) rfl rfl rfl ?_
      have q2 : xR0 51 5 = some 73 ∧ xS0 L 73 = (21, 600) := (kf_4_5 (show xS0 L 51 = (4, 0) from rfl))
      refine w_getR (pc' := 28) rfl rfl rfl rfl (show xS0 L 51 = (4, 0) from rfl) q2.1 ?_
      refine w_iload_n (pc' := 29) rfl rfl rfl ?_
      refine w_baload (pc' := 30) (i := k1) rfl rfl q2.2 (Or.inl rfl) ek1 bk1 (by omega) ?_
      refine w_bipush (pc' := 32) rfl rfl (v := 10) rfl ?_
      refine w_br2 (pc' := 35) (t := 41) rfl rfl rfl ic_ne (fun hc => ?_) (fun hc => ?_)
      · replace h := h.2 hc
        exact h
      · replace h := h.1 (Classical.not_not.mp hc)
        refine w_iinc (pc' := 38) rfl rfl rfl (v := (x1 + 1)) rfl (xl' := [.ref 51, .int (x1 + 1)]) rfl ?_
        refine w_goto (pc' := 5) rfl rfl ?_
        exact h
theorem t_Re_next_41 {L : Nat} {xs : Nat → Int32} {x1 : Int32} {f : Hp} {Q : Hp → Prop}  (h : ∀ g1, g1 = xu f 51 8 x1 → ∀ g2, g2 = xu g1 51 9 x1 → ((x1 < (g2 51 6) → ∃ k1 : Nat, x1 = iN k1 ∧ k1 < 600 ∧ CI L xs xm_Re_isLetter [.int (g2 73 k1)] g2 (fun v1 g3 => ((v1 = 0 → CI L xs xm_Re_isDigit [.int (g3 73 k1)] g3 (fun v2 g4 => ((v2 = 0 → (((g4 73 k1) = 59 → ∀ g7, g7 = xu g4 51 7 3 → ∀ g8, g8 = xu g7 51 9 (x1 + 1) → Q g8) ∧ (¬ (g4 73 k1) = 59 → ∀ g5, g5 = xu g4 51 7 4 → ∀ g6, g6 = xu g5 51 9 (x1 + 1) → Q g6))) ∧ (¬ v2 = 0 → CV L xs xm_Re_readNumber [.ref 51] g4 (fun g9 => Q g9))))) ∧ (¬ v1 = 0 → CV L xs xm_Re_readWord [.ref 51] g3 (fun g10 => Q g10))))) ∧ (¬ x1 < (g2 51 6) → ∀ g11, g11 = xu g2 51 7 0 → Q g11))) : Wp L xs xm_Re_next 41 [.ref 51, .int x1] [] f (QV Q) := by
  refine w_aload_n (pc' := 42) rfl rfl rfl ?_
  refine w_iload_n (pc' := 43) rfl rfl rfl ?_
  refine w_putI (pc' := 46) rfl rfl rfl rfl (show xS0 L 51 = (4, 0) from rfl) ?_
  replace h := h _ rfl
  generalize xu f 51 8 x1 = g1 at h ⊢
  refine w_aload_n (pc' := 47) rfl rfl rfl ?_
  refine w_iload_n (pc' := 48) rfl rfl rfl ?_
  refine w_putI (pc' := 51) rfl rfl rfl rfl (show xS0 L 51 = (4, 0) from rfl) ?_
  replace h := h _ rfl
  generalize xu g1 51 9 x1 = g2 at h ⊢
  refine w_iload_n (pc' := 52) rfl rfl rfl ?_
  refine w_aload_n (pc' := 53) rfl rfl rfl ?_
  refine w_getI (pc' := 56) rfl rfl rfl rfl rfl (show xS0 L 51 = (4, 0) from rfl) ?_
  refine w_br2 (pc' := 59) (t := 67) rfl rfl rfl ic_lt (fun hc => ?_) (fun hc => ?_)
  · replace h := h.1 hc
    refine w_aload_n (pc' := 68) rfl rfl rfl ?_
    have q1 : xR0 51 5 = some 73 ∧ xS0 L 73 = (21, 600) := (kf_4_5 (show xS0 L 51 = (4, 0) from rfl))
    refine w_getR (pc' := 71) rfl rfl rfl rfl (show xS0 L 51 = (4, 0) from rfl) q1.1 ?_
    refine w_iload_n (pc' := 72) rfl rfl rfl ?_
    obtain ⟨k1, ek1, bk1, h⟩ := h
    refine w_baload (pc' := 73) (i := k1) rfl rfl q1.2 (Or.inl rfl) ek1 bk1 (by omega) ?_
    refine w_cs (pc' := 76) (cm := xm_Re_isLetter) (as := [.int (g2 73 k1)]) (rest := []) rfl rfl rfl (Or.inl rfl) (xa_Re_isLetter (Nat.le_of_ble_eq_true rfl)) (CI.k h fun v1 g3 h => ?_)
    show Wp L xs xm_Re_next 76 [.ref 51, .int x1] [.int v1] g3 _
    refine w_br (pc' := 79) (t := 86) rfl rfl rfl ic_eq (fun hc => ?_) (fun hc => ?_)
    · replace h := h.1 hc
      refine w_aload_n (pc' := 87) rfl rfl rfl ?_
      have q2 : xR0 51 5 = some 73 ∧ xS0 L 73 = (21, 600) := (kf_4_5 (show xS0 L 51 = (4, 0) from rfl))
      refine w_getR (pc' := 90) rfl rfl rfl rfl (show xS0 L 51 = (4, 0) from rfl) q2.1 ?_
      refine w_iload_n (pc' := 91) rfl rfl rfl ?_
      refine w_baload (pc' := 92) (i := k1) rfl rfl q2.2 (Or.inl rfl) ek1 bk1 (by omega) ?_
      refine w_cs (pc' := 95) (cm := xm_Re_isDigit) (as := [.int (g3 73 k1)]) (rest := []) rfl rfl rfl (Or.inl rfl) (xa_Re_isDigit (Nat.le_of_ble_eq_true rfl)) (CI.k h fun v2 g4 h => ?_)
      show Wp L xs xm_Re_next 95 [.ref 51, .int x1] [.int v2] g4 _
      refine w_br (pc' := 98) (t := 105) rfl rfl rfl ic_eq (fun hc => ?_) (fun hc => ?_)
      · replace h := h.1 hc
        refine w_aload_n (pc' := 106) rfl rfl rfl ?_
        refine w_aload_n (pc' := 107) rfl rfl rfl ?_
        have q3 : xR0 51 5 = some 73 ∧ xS0 L 73 = (21, 600) := (kf_4_5 (show xS0 L 51 = (4, 0) from rfl))
        refine w_getR (pc' := 110) rfl rfl rfl rfl (show xS0 L 51 = (4, 0) from rfl) q3.1 ?_
        refine w_iload_n (pc' := 111) rfl rfl rfl ?_
        refine w_baload (pc' := 112) (i := k1) rfl rfl q3.2 (Or.inl rfl) ek1 bk1 (by omega) ?_
        refine w_bipush (pc' := 114) rfl rfl (v := 59) rfl ?_
        refine w_br2 (pc' := 117) (t := 121) rfl rfl rfl ic_ne (fun hc => ?_) (fun hc => ?_)
        · replace h := h.2 hc
          refine w_iconst (pc' := 122) rfl rfl (v := 4) rfl ?_
          refine w_putI (pc' := 125) rfl rfl rfl rfl (show xS0 L 51 = (4, 0) from rfl) ?_
          replace h := h _ rfl
          generalize xu g4 51 7 4 = g5 at h ⊢
          refine w_aload_n (pc' := 126) rfl rfl rfl ?_
          refine w_iload_n (pc' := 127) rfl rfl rfl ?_
          refine w_iconst (pc' := 128) rfl rfl (v := 1) rfl ?_
          refine w_iadd (pc' := 129) rfl rfl ?_
          refine w_putI (pc' := 132) rfl rfl rfl rfl (show xS0 L 51 = (4, 0) from rfl) ?_
          replace h := h _ rfl
          generalize xu g5 51 9 (x1 + 1) = g6 at h ⊢
          exact w_return rfl rfl h
        · replace h := h.1 (Classical.not_not.mp hc)
          refine w_iconst (pc' := 118) rfl rfl (v := 3) rfl ?_
          refine w_goto (pc' := 122) rfl rfl ?_
          refine w_putI (pc' := 125) rfl rfl rfl rfl (show xS0 L 51 = (4, 0) from rfl) ?_
          replace h := h _ rfl
          generalize xu g4 51 7 3 = g7 at h ⊢
          refine w_aload_n (pc' := 126) rfl rfl rfl ?_
          refine w_iload_n (pc' := 127) rfl rfl rfl ?_
          refine w_iconst (pc' := 128) rfl rfl (v := 1) rfl ?_
          refine w_iadd (pc' := 129) rfl rfl ?_
          refine w_putI (pc' := 132) rfl rfl rfl rfl (show xS0 L 51 = (4, 0) from rfl) ?_
          replace h := h _ rfl
          generalize xu g7 51 9 (x1 + 1) = g8 at h ⊢
          exact w_return rfl rfl h
      · replace h := h.2 hc
        refine w_aload_n (pc' := 99) rfl rfl rfl ?_
        refine w_cv (pc' := 102) (cm := xm_Re_readNumber) (as := []) (a := 51) (rest := []) rfl rfl rfl  (xa_Re_readNumber (Nat.le_of_ble_eq_true rfl)) (show xS0 L 51 = (4, 0) from rfl) rfl (CV.k h fun g9 h => ?_)
        show Wp L xs xm_Re_next 102 [.ref 51, .int x1] [] g9 _
        refine w_goto (pc' := 132) rfl rfl ?_
        exact w_return rfl rfl h
    · replace h := h.2 hc
      refine w_aload_n (pc' := 80) rfl rfl rfl ?_
      refine w_cv (pc' := 83) (cm := xm_Re_readWord) (as := []) (a := 51) (rest := []) rfl rfl rfl  (xa_Re_readWord (Nat.le_of_ble_eq_true rfl)) (show xS0 L 51 = (4, 0) from rfl) rfl (CV.k h fun g10 h => ?_)
      show Wp L xs xm_Re_next 83 [.ref 51, .int x1] [] g10 _
      refine w_goto (pc' := 132) rfl rfl ?_
      exact w_return rfl rfl h
  · replace h := h.2 hc
    refine w_aload_n (pc' := 60) rfl rfl rfl ?_
    refine w_iconst (pc' := 61) rfl rfl (v := 0) rfl ?_
    refine w_putI (pc' := 64) rfl rfl rfl rfl (show xS0 L 51 = (4, 0) from rfl) ?_
    replace h := h _ rfl
    generalize xu g2 51 7 0 = g11 at h ⊢
    refine w_goto (pc' := 132) rfl rfl ?_
    exact w_return rfl rfl h
theorem t_Re_isLetter_0 {L : Nat} {xs : Nat → Int32} {x0 : Int32} {f : Hp} {Q : Int32 → Hp → Prop}  (h : ((x0 < 97 → Q 0 f) ∧ (¬ x0 < 97 → ((122 < x0 → Q 0 f) ∧ (¬ 122 < x0 → Q 1 f))))) : CI L xs xm_Re_isLetter [.int x0] f Q := by
  show Wp L xs xm_Re_isLetter 0 [.int x0] [] f (QI Q)
  refine w_iload_n (pc' := 1) rfl rfl rfl ?_
  refine w_bipush (pc' := 3) rfl rfl (v := 97) rfl ?_
  refine w_br2 (pc' := 6) (t := 16) rfl rfl rfl ic_lt (fun hc => ?_) (fun hc => ?_)
  · replace h := h.1 hc
    refine w_iconst (pc' := 17) rfl rfl (v := 0) rfl ?_
    exact w_ireturn rfl rfl h
  · replace h := h.2 hc
    refine w_iload_n (pc' := 7) rfl rfl rfl ?_
    refine w_bipush (pc' := 9) rfl rfl (v := 122) rfl ?_
    refine w_br2 (pc' := 12) (t := 16) rfl rfl rfl ic_gt (fun hc => ?_) (fun hc => ?_)
    · replace h := h.1 hc
      refine w_iconst (pc' := 17) rfl rfl (v := 0) rfl ?_
      exact w_ireturn rfl rfl h
    · replace h := h.2 hc
      refine w_iconst (pc' := 13) rfl rfl (v := 1) rfl ?_
      refine w_goto (pc' := 17) rfl rfl ?_
      exact w_ireturn rfl rfl h
theorem t_Re_readWord_0 {L : Nat} {xs : Nat → Int32}  {f : Hp} {Q : Hp → Prop}  (h : (((f 51 9) < (f 51 6) → ∃ k1 : Nat, (f 51 9) = iN k1 ∧ k1 < 600 ∧ CI L xs xm_Re_isLetter [.int (f 73 k1)] f (fun v1 g2 => ((v1 = 0 → ∀ g3, g3 = xu g2 51 7 1 → Q g3) ∧ (¬ v1 = 0 → ∀ g4, g4 = xu g2 51 9 ((g2 51 9) + 1) → Wp L xs xm_Re_readWord 0 [.ref 51] [] g4 (QV Q))))) ∧ (¬ (f 51 9) < (f 51 6) → ∀ g1, g1 = xu f 51 7 1 → Q g1))) : CV L xs xm_Re_readWord [.ref 51] f Q := by
  show Wp L xs xm_Re_readWord 0 [.ref 51] [] f (QV Q)
  refine w_aload_n (pc' := 1) rfl rfl rfl ?_
  refine w_getI (pc' := 4) rfl rfl rfl rfl rfl (show xS0 L 51 = (4, 0) from rfl) ?_
  refine w_aload_n (pc' := 5) rfl rfl rfl ?_
  refine w_getI (pc' := 8) rfl rfl rfl rfl rfl (show xS0 L 51 = (4, 0) from rfl) ?_
  refine w_br2 (pc' := 11) (t := 39) rfl rfl rfl ic_ge (fun hc => ?_) (fun hc => ?_)
  · replace h := h.2 hc
    refine w_aload_n (pc' := 40) rfl rfl rfl ?_
    refine w_iconst (pc' := 41) rfl rfl (v := 1) rfl ?_
    refine w_putI (pc' := 44) rfl rfl rfl rfl (show xS0 L 51 = (4, 0) from rfl) ?_
    replace h := h _ rfl
    generalize xu f 51 7 1 = g1 at h ⊢
    exact w_return rfl rfl h
  · replace h := h.1 (Classical.not_not.mp hc)
    refine w_aload_n (pc' := 12) rfl rfl rfl ?_
    have q1 : xR0 51 5 = some 73 ∧ xS0 L 73 = (21, 600) := (kf_4_5 (show xS0 L 51 = (4, 0) from rfl))
    refine w_getR (pc' := 15) rfl rfl rfl rfl (show xS0 L 51 = (4, 0) from rfl) q1.1 ?_
    refine w_aload_n (pc' := 16) rfl rfl rfl ?_
    refine w_getI (pc' := 19) rfl rfl rfl rfl rfl (show xS0 L 51 = (4, 0) from rfl) ?_
    obtain ⟨k1, ek1, bk1, h⟩ := h
    refine w_baload (pc' := 20) (i := k1) rfl rfl q1.2 (Or.inl rfl) ek1 bk1 (by omega) ?_
    refine w_cs (pc' := 23) (cm := xm_Re_isLetter) (as := [.int (f 73 k1)]) (rest := []) rfl rfl rfl (Or.inl rfl) (xa_Re_isLetter (Nat.le_of_ble_eq_true rfl)) (CI.k h fun v1 g2 h => ?_)
    show Wp L xs xm_Re_readWord 23 [.ref 51] [.int v1] g2 _
    refine w_br (pc' := 26) (t := 39) rfl rfl rfl ic_eq (fun hc => ?_) (fun hc => ?_)
    · replace h := h.1 hc
      refine w_aload_n (pc' := 40) rfl rfl rfl ?_
      refine w_iconst (pc' := 41) rfl rfl (v := 1) rfl ?_
      refine w_putI (pc' := 44) rfl rfl rfl rfl (show xS0 L 51 = (4, 0) from rfl) ?_
      replace h := h _ rfl
      generalize xu g2 51 7 1 = g3 at h ⊢
      exact w_return rfl rfl h
    · replace h := h.2 hc
      refine w_aload_n (pc' := 27) rfl rfl rfl ?_
      refine w_dupA (pc' := 28) rfl rfl ?_
      refine w_getI (pc' := 31) rfl rfl rfl rfl rfl (show xS0 L 51 = (4, 0) from rfl) ?_
      refine w_iconst (pc' := 32) rfl rfl (v := 1) rfl ?_
      refine w_iadd (pc' := 33) rfl rfl ?_
      refine w_putI (pc' := 36) rfl rfl rfl rfl (show xS0 L 51 = (4, 0) from rfl) ?_
      replace h := h _ rfl
      generalize xu g2 51 9 ((g2 51 9) + 1) = g4 at h ⊢
      refine w_goto (pc' := 0) rfl rfl ?_
      exact h
theorem t_Re_isDigit_0 {L : Nat} {xs : Nat → Int32} {x0 : Int32} {f : Hp} {Q : Int32 → Hp → Prop}  (h : ((x0 < 48 → Q 0 f) ∧ (¬ x0 < 48 → ((57 < x0 → Q 0 f) ∧ (¬ 57 < x0 → Q 1 f))))) : CI L xs xm_Re_isDigit [.int x0] f Q := by
  show Wp L xs xm_Re_isDigit 0 [.int x0] [] f (QI Q)
  refine w_iload_n (pc' := 1) rfl rfl rfl ?_
  refine w_bipush (pc' := 3) rfl rfl (v := 48) rfl ?_
  refine w_br2 (pc' := 6) (t := 16) rfl rfl rfl ic_lt (fun hc => ?_) (fun hc => ?_)
  · replace h := h.1 hc
    refine w_iconst (pc' := 17) rfl rfl (v := 0) rfl ?_
    exact w_ireturn rfl rfl h
  · replace h := h.2 hc
    refine w_iload_n (pc' := 7) rfl rfl rfl ?_
    refine w_bipush (pc' := 9) rfl rfl (v := 57) rfl ?_
    refine w_br2 (pc' := 12) (t := 16) rfl rfl rfl ic_gt (fun hc => ?_) (fun hc => ?_)
    · replace h := h.1 hc
      refine w_iconst (pc' := 17) rfl rfl (v := 0) rfl ?_
      exact w_ireturn rfl rfl h
    · replace h := h.2 hc
      refine w_iconst (pc' := 13) rfl rfl (v := 1) rfl ?_
      refine w_goto (pc' := 17) rfl rfl ?_
      exact w_ireturn rfl rfl h
theorem t_Re_readNumber_0 {L : Nat} {xs : Nat → Int32}  {f : Hp} {Q : Hp → Prop}  (h : ∀ g1, g1 = xu f 51 10 0 → Wp L xs xm_Re_readNumber 5 [.ref 51] [] g1 (QV Q)) : CV L xs xm_Re_readNumber [.ref 51] f Q := by
  show Wp L xs xm_Re_readNumber 0 [.ref 51] [] f (QV Q)
  refine w_aload_n (pc' := 1) rfl rfl rfl ?_
  refine w_iconst (pc' := 2) rfl rfl (v := 0) rfl ?_
  refine w_putI (pc' := 5) rfl rfl rfl rfl (show xS0 L 51 = (4, 0) from rfl) ?_
  replace h := h _ rfl
  generalize xu f 51 10 0 = g1 at h ⊢
  exact h
theorem t_Re_readNumber_5 {L : Nat} {xs : Nat → Int32}  {f : Hp} {Q : Hp → Prop}  (h : (((f 51 9) < (f 51 6) → ∃ k1 : Nat, (f 51 9) = iN k1 ∧ k1 < 600 ∧ CI L xs xm_Re_isDigit [.int (f 73 k1)] f (fun v1 g1 => ((v1 = 0 → Wp L xs xm_Re_readNumber 72 [.ref 51] [] g1 (QV Q)) ∧ (¬ v1 = 0 → ∃ k2 : Nat, (g1 51 9) = iN k2 ∧ k2 < 600 ∧ ∀ g2, g2 = xu g1 51 10 (jrem ((((g1 51 10) * 10) + (g1 73 k2)) - 48) 1000) → ∀ g3, g3 = xu g2 51 9 ((g2 51 9) + 1) → Wp L xs xm_Re_readNumber 5 [.ref 51] [] g3 (QV Q))))) ∧ (¬ (f 51 9) < (f 51 6) → Wp L xs xm_Re_readNumber 72 [.ref 51] [] f (QV Q)))) : Wp L xs xm_Re_readNumber 5 [.ref 51] [] f (QV Q) := by
  refine w_aload_n (pc' := 6) rfl rfl rfl ?_
  refine w_getI (pc' := 9) rfl rfl rfl rfl rfl (show xS0 L 51 = (4, 0) from rfl) ?_
  refine w_aload_n (pc' := 10) rfl rfl rfl ?_
  refine w_getI (pc' := 13) rfl rfl rfl rfl rfl (show xS0 L 51 = (4, 0) from rfl) ?_
  refine w_br2 (pc' := 16) (t := 72) rfl rfl rfl ic_ge (fun hc => ?_) (fun hc => ?_)
  · replace h := h.2 hc
    exact h
  · replace h := h.1 (Classical.not_not.mp hc)
    refine w_aload_n (pc' := 17) rfl rfl rfl ?_
    have q1 : xR0 51 5 = some 73 ∧ xS0 L 73 = (21, 600) := (kf_4_5 (show xS0 L 51 = (4, 0) from rfl))
    refine w_getR (pc' := 20) rfl rfl rfl rfl (show xS0 L 51 = (4, 0) from rfl) q1.1 ?_
    refine w_aload_n (pc' := 21) rfl rfl rfl ?_
    refine w_getI (pc' := 24) rfl rfl rfl rfl rfl (show xS0 L 51 = (4, 0) from rfl) ?_
    obtain ⟨k1, ek1, bk1, h⟩ := h
    refine w_baload (pc' := 25) (i := k1) rfl rfl q1.2 (Or.inl rfl) ek1 bk1 (by omega) ?_
    refine w_cs (pc' := 28) (cm := xm_Re_isDigit) (as := [.int (f 73 k1)]) (rest := []) rfl rfl rfl (Or.inl rfl) (xa_Re_isDigit (Nat.le_of_ble_eq_true rfl)) (CI.k h fun v1 g1 h => ?_)
    show Wp L xs xm_Re_readNumber 28 [.ref 51] [.int v1] g1 _
    refine w_br (pc' := 31) (t := 72) rfl rfl rfl ic_eq (fun hc => ?_) (fun hc => ?_)
    · replace h := h.1 hc
      exact h
    · replace h := h.2 hc
      refine w_aload_n (pc' := 32) rfl rfl rfl ?_
      refine w_aload_n (pc' := 33) rfl rfl rfl ?_
      refine w_getI (pc' := 36) rfl rfl rfl rfl rfl (show xS0 L 51 = (4, 0) from rfl) ?_
      refine w_bipush (pc' := 38) rfl rfl (v := 10) rfl ?_
      refine w_imul (pc' := 39) rfl rfl ?_
      refine w_aload_n (pc' := 40) rfl rfl rfl ?_
      have q2 : xR0 51 5 = some 73 ∧ xS0 L 73 = (21, 600) := (kf_4_5 (show xS0 L 51 = (4, 0) from rfl))
      refine w_getR (pc' := 43) rfl rfl rfl rfl (show xS0 L 51 = (4, 0) from rfl) q2.1 ?_
      refine w_aload_n (pc' := 44) rfl rfl rfl ?_
      refine w_getI (pc' := 47) rfl rfl rfl rfl rfl (show xS0 L 51 = (4, 0) from rfl) ?_
      obtain ⟨k2, ek2, bk2, h⟩ := h
      refine w_baload (pc' := 48) (i := k2) rfl rfl q2.2 (Or.inl rfl) ek2 bk2 (by omega) ?_
      refine w_iadd (pc' := 49) rfl rfl ?_
      refine w_bipush (pc' := 51) rfl rfl (v := 48) rfl ?_
      refine w_isub (pc' := 52) rfl rfl ?_
      refine w_sipush (pc' := 55) rfl rfl (v := 1000) rfl ?_
      refine w_irem (pc' := 56) rfl rfl (by decide) ?_
      refine w_putI (pc' := 59) rfl rfl rfl rfl (show xS0 L 51 = (4, 0) from rfl) ?_
      replace h := h _ rfl
      generalize xu g1 51 10 (jrem ((((g1 51 10) * 10) + (g1 73 k2)) - 48) 1000) = g2 at h ⊢
      refine w_aload_n (pc' := 60) rfl rfl rfl ?_
      refine w_dupA (pc' := 61) rfl rfl ?_
      refine w_getI (pc' := 64) rfl rfl rfl rfl rfl (show xS0 L 51 = (4, 0) from rfl) ?_
      refine w_iconst (pc' := 65) rfl rfl (v := 1) rfl ?_
      refine w_iadd (pc' := 66) rfl rfl ?_
      refine w_putI (pc' := 69) rfl rfl rfl rfl (show xS0 L 51 = (4, 0) from rfl) ?_
      replace h := h _ rfl
      generalize xu g2 51 9 ((g2 51 9) + 1) = g3 at h ⊢
      refine w_goto (pc' := 5) rfl rfl ?_
      exact h
theorem t_Re_readNumber_72 {L : Nat} {xs : Nat → Int32}  {f : Hp} {Q : Hp → Prop}  (h : ((2 < ((f 51 9) - (f 51 8)) → ∀ g2, g2 = xu f 51 7 4 → Q g2) ∧ (¬ 2 < ((f 51 9) - (f 51 8)) → ∀ g1, g1 = xu f 51 7 2 → Q g1))) : Wp L xs xm_Re_readNumber 72 [.ref 51] [] f (QV Q) := by
  refine w_aload_n (pc' := 73) rfl rfl rfl ?_
  refine w_aload_n (pc' := 74) rfl rfl rfl ?_
  refine w_getI (pc' := 77) rfl rfl rfl rfl rfl (show xS0 L 51 = (4, 0) from rfl) ?_
  refine w_aload_n (pc' := 78) rfl rfl rfl ?_
  refine w_getI (pc' := 81) rfl rfl rfl rfl rfl (show xS0 L 51 = (4, 0) from rfl) ?_
  refine w_isub (pc' := 82) rfl rfl ?_
  refine w_iconst (pc' := 83) rfl rfl (v := 2) rfl ?_
  refine w_br2 (pc' := 86) (t := 90) rfl rfl rfl ic_le (fun hc => ?_) (fun hc => ?_)
  · replace h := h.2 hc
    refine w_iconst (pc' := 91) rfl rfl (v := 2) rfl ?_
    refine w_putI (pc' := 94) rfl rfl rfl rfl (show xS0 L 51 = (4, 0) from rfl) ?_
    replace h := h _ rfl
    generalize xu f 51 7 2 = g1 at h ⊢
    exact w_return rfl rfl h
  · replace h := h.1 (Classical.not_not.mp hc)
    refine w_iconst (pc' := 87) rfl rfl (v := 4) rfl ?_
    refine w_goto (pc' := 91) rfl rfl ?_
    refine w_putI (pc' := 94) rfl rfl rfl rfl (show xS0 L 51 = (4, 0) from rfl) ?_
    replace h := h _ rfl
    generalize xu f 51 7 4 = g2 at h ⊢
    exact w_return rfl rfl h
theorem t_Re_readLine_0 {L : Nat} {xs : Nat → Int32} {x1 : Int32} {f : Hp} {Q : Int32 → Hp → Prop}  (h : CI L xs xm_Re_lineOf [.ref 51, .int x1] f (fun v1 g1 => ((v1 = (-1) → Q 0 g1) ∧ (¬ v1 = (-1) → CI L xs xm_Re_isFull [.ref 51, .int v1] g1 (fun v2 g2 => ((v2 = 0 → CV L xs xm_Re_next [.ref 51] g2 (fun g3 => CV L xs xm_ja_fill [.ref 74, .int (-1)] g3 (fun g4 => Wp L xs xm_Re_readLine 44 [.ref 51, .int x1, .int v1, .int 0] [] g4 (QI Q)))) ∧ (¬ v2 = 0 → CV L xs xm_Re_note [.ref 51, .int 3, .int (g2 51 8)] g2 (fun g5 => CV L xs xm_Re_next [.ref 51] g5 (fun g6 => CV L xs xm_ja_fill [.ref 74, .int (-1)] g6 (fun g7 => Wp L xs xm_Re_readLine 44 [.ref 51, .int x1, .int v1, .int 0] [] g7 (QI Q))))))))))) : CI L xs xm_Re_readLine [.ref 51, .int x1] f Q := by
  show Wp L xs xm_Re_readLine 0 [.ref 51, .int x1, .retAddr 0, .retAddr 0] [] f (QI Q)
  refine w_aload_n (pc' := 1) rfl rfl rfl ?_
  refine w_iload_n (pc' := 2) rfl rfl rfl ?_
  refine w_cv (pc' := 5) (cm := xm_Re_lineOf) (as := [.int x1]) (a := 51) (rest := []) rfl rfl rfl  (xa_Re_lineOf (Nat.le_of_ble_eq_true rfl)) (show xS0 L 51 = (4, 0) from rfl) rfl (CI.k h fun v1 g1 h => ?_)
  show Wp L xs xm_Re_readLine 5 [.ref 51, .int x1, .retAddr 0, .retAddr 0] [.int v1] g1 _
  refine w_istore_n (pc' := 6) rfl rfl (xl' := [.ref 51, .int x1, .int v1, .retAddr 0]) rfl ?_
  refine w_iload_n (pc' := 7) rfl rfl rfl ?_
  refine w_iconst (pc' := 8) rfl rfl (v := (-1)) rfl ?_
  refine w_br2 (pc' := 11) (t := 13) rfl rfl rfl ic_ne (fun hc => ?_) (fun hc => ?_)
  · replace h := h.2 hc
    refine w_aload_n (pc' := 14) rfl rfl rfl ?_
    refine w_iload_n (pc' := 15) rfl rfl rfl ?_
    refine w_cv (pc' := 18) (cm := xm_Re_isFull) (as := [.int v1]) (a := 51) (rest := []) rfl rfl rfl  (xa_Re_isFull (Nat.le_of_ble_eq_true rfl)) (show xS0 L 51 = (4, 0) from rfl) rfl (CI.k h fun v2 g2 h => ?_)
    show Wp L xs xm_Re_readLine 18 [.ref 51, .int x1, .int v1, .retAddr 0] [.int v2] g2 _
    refine w_br (pc' := 21) (t := 30) rfl rfl rfl ic_eq (fun hc => ?_) (fun hc => ?_)
    · replace h := h.1 hc
      refine w_aload_n (pc' := 31) rfl rfl rfl ?_
      refine w_cv (pc' := 34) (cm := xm_Re_next) (as := []) (a := 51) (rest := []) rfl rfl rfl  (xa_Re_next (Nat.le_of_ble_eq_true rfl)) (show xS0 L 51 = (4, 0) from rfl) rfl (CV.k h fun g3 h => ?_)
      show Wp L xs xm_Re_readLine 34 [.ref 51, .int x1, .int v1, .retAddr 0] [] g3 _
      refine w_aload_n (pc' := 35) rfl rfl rfl ?_
      have q1 : xR0 51 12 = some 74 ∧ xS0 L 74 = (20, 3) := (kf_4_12 (show xS0 L 51 = (4, 0) from rfl))
      refine w_getR (pc' := 38) rfl rfl rfl rfl (show xS0 L 51 = (4, 0) from rfl) q1.1 ?_
      refine w_iconst (pc' := 39) rfl rfl (v := (-1)) rfl ?_
      refine w_cs (pc' := 42) (cm := xm_ja_fill) (as := [.ref 74, .int (-1)]) (rest := []) rfl rfl rfl (Or.inl rfl) (xa_ja_fill (Nat.le_of_ble_eq_true rfl)) (CV.k h fun g4 h => ?_)
      show Wp L xs xm_Re_readLine 42 [.ref 51, .int x1, .int v1, .retAddr 0] [] g4 _
      refine w_iconst (pc' := 43) rfl rfl (v := 0) rfl ?_
      refine w_istore_n (pc' := 44) rfl rfl (xl' := [.ref 51, .int x1, .int v1, .int 0]) rfl ?_
      exact h
    · replace h := h.2 hc
      refine w_aload_n (pc' := 22) rfl rfl rfl ?_
      refine w_iconst (pc' := 23) rfl rfl (v := 3) rfl ?_
      refine w_aload_n (pc' := 24) rfl rfl rfl ?_
      refine w_getI (pc' := 27) rfl rfl rfl rfl rfl (show xS0 L 51 = (4, 0) from rfl) ?_
      refine w_cv (pc' := 30) (cm := xm_Re_note) (as := [.int 3, .int (g2 51 8)]) (a := 51) (rest := []) rfl rfl rfl  (xa_Re_note (Nat.le_of_ble_eq_true rfl)) (show xS0 L 51 = (4, 0) from rfl) rfl (CV.k h fun g5 h => ?_)
      show Wp L xs xm_Re_readLine 30 [.ref 51, .int x1, .int v1, .retAddr 0] [] g5 _
      refine w_aload_n (pc' := 31) rfl rfl rfl ?_
      refine w_cv (pc' := 34) (cm := xm_Re_next) (as := []) (a := 51) (rest := []) rfl rfl rfl  (xa_Re_next (Nat.le_of_ble_eq_true rfl)) (show xS0 L 51 = (4, 0) from rfl) rfl (CV.k h fun g6 h => ?_)
      show Wp L xs xm_Re_readLine 34 [.ref 51, .int x1, .int v1, .retAddr 0] [] g6 _
      refine w_aload_n (pc' := 35) rfl rfl rfl ?_
      have q2 : xR0 51 12 = some 74 ∧ xS0 L 74 = (20, 3) := (kf_4_12 (show xS0 L 51 = (4, 0) from rfl))
      refine w_getR (pc' := 38) rfl rfl rfl rfl (show xS0 L 51 = (4, 0) from rfl) q2.1 ?_
      refine w_iconst (pc' := 39) rfl rfl (v := (-1)) rfl ?_
      refine w_cs (pc' := 42) (cm := xm_ja_fill) (as := [.ref 74, .int (-1)]) (rest := []) rfl rfl rfl (Or.inl rfl) (xa_ja_fill (Nat.le_of_ble_eq_true rfl)) (CV.k h fun g7 h => ?_)
      show Wp L xs xm_Re_readLine 42 [.ref 51, .int x1, .int v1, .retAddr 0] [] g7 _
      refine w_iconst (pc' := 43) rfl rfl (v := 0) rfl ?_
      refine w_istore_n (pc' := 44) rfl rfl (xl' := [.ref 51, .int x1, .int v1, .int 0]) rfl ?_
      exact h
  · replace h := h.1 (Classical.not_not.mp hc)
    refine w_iconst (pc' := 12) rfl rfl (v := 0) rfl ?_
    exact w_ireturn rfl rfl h
theorem t_Re_readLine_44 {L : Nat} {xs : Nat → Int32} {x1 : Int32} {x2 : Int32} {x3 : Int32} {f : Hp} {Q : Int32 → Hp → Prop}  (h : ∃ k1 : Nat, x2 = iN k1 ∧ k1 < 17 ∧ ((x3 < (xoI xs 1000002 k1) → (((f 51 7) = 2 → ∃ k2 : Nat, x3 = iN k2 ∧ k2 < 3 ∧ ∀ g4, g4 = xu f 74 k2 (f 51 10) → CI L xs xm_Re_mayBe [.ref 51, .int x2, .int x3] g4 (fun v1 g5 => ((v1 = 0 → CV L xs xm_Re_note [.ref 51, .int 2, .int (g5 51 8)] g5 (fun g7 => CV L xs xm_Re_next [.ref 51] g7 (fun g8 => Wp L xs xm_Re_readLine 44 [.ref 51, .int x1, .int x2, .int (x3 + 1)] [] g8 (QI Q)))) ∧ (¬ v1 = 0 → CV L xs xm_Re_next [.ref 51] g5 (fun g6 => Wp L xs xm_Re_readLine 44 [.ref 51, .int x1, .int x2, .int (x3 + 1)] [] g6 (QI Q)))))) ∧ (¬ (f 51 7) = 2 → Q 0 f))) ∧ (¬ x3 < (xoI xs 1000002 k1) → (((f 51 7) = 3 → (((f 51 3) = 0 → CV L xs xm_Re_keep [.ref 51, .int x2] f (fun g2 => CV L xs xm_Re_next [.ref 51] g2 (fun g3 => Q 1 g3))) ∧ (¬ (f 51 3) = 0 → CV L xs xm_Re_next [.ref 51] f (fun g1 => Q 1 g1)))) ∧ (¬ (f 51 7) = 3 → Q 0 f))))) : Wp L xs xm_Re_readLine 44 [.ref 51, .int x1, .int x2, .int x3] [] f (QI Q) := by
  refine w_iload_n (pc' := 45) rfl rfl rfl ?_
  refine w_gst (pc' := 48) rfl rfl rfl (by omega) ?_
  show Wp L xs xm_Re_readLine 48 [.ref 51, .int x1, .int x2, .int x3] [.ref 1000002, .int x3] f _
  refine w_iload_n (pc' := 49) rfl rfl rfl ?_
  obtain ⟨k1, ek1, bk1, h⟩ := h
  refine w_iaload4 (pc' := 50) (i := k1) rfl rfl (show xS0 L 1000002 = (40, 17) from rfl) (by omega) ek1 bk1 (by omega) ?_
  refine w_br2 (pc' := 53) (t := 101) rfl rfl rfl ic_ge (fun hc => ?_) (fun hc => ?_)
  · replace h := h.2 hc
    refine w_aload_n (pc' := 102) rfl rfl rfl ?_
    refine w_getI (pc' := 105) rfl rfl rfl rfl rfl (show xS0 L 51 = (4, 0) from rfl) ?_
    refine w_iconst (pc' := 106) rfl rfl (v := 3) rfl ?_
    refine w_br2 (pc' := 109) (t := 111) rfl rfl rfl ic_eq (fun hc => ?_) (fun hc => ?_)
    · replace h := h.1 hc
      refine w_aload_n (pc' := 112) rfl rfl rfl ?_
      refine w_getI (pc' := 115) rfl rfl rfl rfl rfl (show xS0 L 51 = (4, 0) from rfl) ?_
      refine w_br (pc' := 118) (t := 123) rfl rfl rfl ic_ne (fun hc => ?_) (fun hc => ?_)
      · replace h := h.2 hc
        refine w_aload_n (pc' := 124) rfl rfl rfl ?_
        refine w_cv (pc' := 127) (cm := xm_Re_next) (as := []) (a := 51) (rest := []) rfl rfl rfl  (xa_Re_next (Nat.le_of_ble_eq_true rfl)) (show xS0 L 51 = (4, 0) from rfl) rfl (CV.k h fun g1 h => ?_)
        show Wp L xs xm_Re_readLine 127 [.ref 51, .int x1, .int x2, .int x3] [] g1 _
        refine w_iconst (pc' := 128) rfl rfl (v := 1) rfl ?_
        exact w_ireturn rfl rfl h
      · replace h := h.1 (Classical.not_not.mp hc)
        refine w_aload_n (pc' := 119) rfl rfl rfl ?_
        refine w_iload_n (pc' := 120) rfl rfl rfl ?_
        refine w_cv (pc' := 123) (cm := xm_Re_keep) (as := [.int x2]) (a := 51) (rest := []) rfl rfl rfl  (xa_Re_keep (Nat.le_of_ble_eq_true rfl)) (show xS0 L 51 = (4, 0) from rfl) rfl (CV.k h fun g2 h => ?_)
        show Wp L xs xm_Re_readLine 123 [.ref 51, .int x1, .int x2, .int x3] [] g2 _
        refine w_aload_n (pc' := 124) rfl rfl rfl ?_
        refine w_cv (pc' := 127) (cm := xm_Re_next) (as := []) (a := 51) (rest := []) rfl rfl rfl  (xa_Re_next (Nat.le_of_ble_eq_true rfl)) (show xS0 L 51 = (4, 0) from rfl) rfl (CV.k h fun g3 h => ?_)
        show Wp L xs xm_Re_readLine 127 [.ref 51, .int x1, .int x2, .int x3] [] g3 _
        refine w_iconst (pc' := 128) rfl rfl (v := 1) rfl ?_
        exact w_ireturn rfl rfl h
    · replace h := h.2 hc
      refine w_iconst (pc' := 110) rfl rfl (v := 0) rfl ?_
      exact w_ireturn rfl rfl h
  · replace h := h.1 (Classical.not_not.mp hc)
    refine w_aload_n (pc' := 54) rfl rfl rfl ?_
    refine w_getI (pc' := 57) rfl rfl rfl rfl rfl (show xS0 L 51 = (4, 0) from rfl) ?_
    refine w_iconst (pc' := 58) rfl rfl (v := 2) rfl ?_
    refine w_br2 (pc' := 61) (t := 63) rfl rfl rfl ic_eq (fun hc => ?_) (fun hc => ?_)
    · replace h := h.1 hc
      refine w_aload_n (pc' := 64) rfl rfl rfl ?_
      have q1 : xR0 51 12 = some 74 ∧ xS0 L 74 = (20, 3) := (kf_4_12 (show xS0 L 51 = (4, 0) from rfl))
      refine w_getR (pc' := 67) rfl rfl rfl rfl (show xS0 L 51 = (4, 0) from rfl) q1.1 ?_
      refine w_iload_n (pc' := 68) rfl rfl rfl ?_
      refine w_aload_n (pc' := 69) rfl rfl rfl ?_
      refine w_getI (pc' := 72) rfl rfl rfl rfl rfl (show xS0 L 51 = (4, 0) from rfl) ?_
      obtain ⟨k2, ek2, bk2, h⟩ := h
      refine w_iastore (pc' := 73) (i := k2) rfl rfl q1.2 ek2 bk2 (by omega) ?_
      replace h := h _ rfl
      generalize xu f 74 k2 (f 51 10) = g4 at h ⊢
      refine w_aload_n (pc' := 74) rfl rfl rfl ?_
      refine w_iload_n (pc' := 75) rfl rfl rfl ?_
      refine w_iload_n (pc' := 76) rfl rfl rfl ?_
      refine w_cv (pc' := 79) (cm := xm_Re_mayBe) (as := [.int x2, .int x3]) (a := 51) (rest := []) rfl rfl rfl  (xa_Re_mayBe (Nat.le_of_ble_eq_true rfl)) (show xS0 L 51 = (4, 0) from rfl) rfl (CI.k h fun v1 g5 h => ?_)
      show Wp L xs xm_Re_readLine 79 [.ref 51, .int x1, .int x2, .int x3] [.int v1] g5 _
      refine w_br (pc' := 82) (t := 91) rfl rfl rfl ic_ne (fun hc => ?_) (fun hc => ?_)
      · replace h := h.2 hc
        refine w_aload_n (pc' := 92) rfl rfl rfl ?_
        refine w_cv (pc' := 95) (cm := xm_Re_next) (as := []) (a := 51) (rest := []) rfl rfl rfl  (xa_Re_next (Nat.le_of_ble_eq_true rfl)) (show xS0 L 51 = (4, 0) from rfl) rfl (CV.k h fun g6 h => ?_)
        show Wp L xs xm_Re_readLine 95 [.ref 51, .int x1, .int x2, .int x3] [] g6 _
        refine w_iinc (pc' := 98) rfl rfl rfl (v := (x3 + 1)) rfl (xl' := [.ref 51, .int x1, .int x2, .int (x3 + 1)]) rfl ?_
        refine w_goto (pc' := 44) rfl rfl ?_
        exact h
      · replace h := h.1 (Classical.not_not.mp hc)
        refine w_aload_n (pc' := 83) rfl rfl rfl ?_
        refine w_iconst (pc' := 84) rfl rfl (v := 2) rfl ?_
        refine w_aload_n (pc' := 85) rfl rfl rfl ?_
        refine w_getI (pc' := 88) rfl rfl rfl rfl rfl (show xS0 L 51 = (4, 0) from rfl) ?_
        refine w_cv (pc' := 91) (cm := xm_Re_note) (as := [.int 2, .int (g5 51 8)]) (a := 51) (rest := []) rfl rfl rfl  (xa_Re_note (Nat.le_of_ble_eq_true rfl)) (show xS0 L 51 = (4, 0) from rfl) rfl (CV.k h fun g7 h => ?_)
        show Wp L xs xm_Re_readLine 91 [.ref 51, .int x1, .int x2, .int x3] [] g7 _
        refine w_aload_n (pc' := 92) rfl rfl rfl ?_
        refine w_cv (pc' := 95) (cm := xm_Re_next) (as := []) (a := 51) (rest := []) rfl rfl rfl  (xa_Re_next (Nat.le_of_ble_eq_true rfl)) (show xS0 L 51 = (4, 0) from rfl) rfl (CV.k h fun g8 h => ?_)
        show Wp L xs xm_Re_readLine 95 [.ref 51, .int x1, .int x2, .int x3] [] g8 _
        refine w_iinc (pc' := 98) rfl rfl rfl (v := (x3 + 1)) rfl (xl' := [.ref 51, .int x1, .int x2, .int (x3 + 1)]) rfl ?_
        refine w_goto (pc' := 44) rfl rfl ?_
        exact h
    · replace h := h.2 hc
      refine w_iconst (pc' := 62) rfl rfl (v := 0) rfl ?_
      exact w_ireturn rfl rfl h
theorem t_Re_lineOf_0 {L : Nat} {xs : Nat → Int32} {x1 : Int32} {f : Hp} {Q : Int32 → Hp → Prop}  (h : (((f 51 7) = 1 → ((x1 < 0 → Q (-1) f) ∧ (¬ x1 < 0 → ((x1 < 3 → ∃ k1 : Nat, x1 = iN k1 ∧ k1 < 4 ∧ Wp L xs xm_Re_lineOf 23 [.ref 51, .int x1, .int (xoI xs 1000001 k1)] [] f (QI Q)) ∧ (¬ x1 < 3 → Q (-1) f))))) ∧ (¬ (f 51 7) = 1 → Q (-1) f))) : CI L xs xm_Re_lineOf [.ref 51, .int x1] f Q := by
  show Wp L xs xm_Re_lineOf 0 [.ref 51, .int x1, .retAddr 0] [] f (QI Q)
  refine w_aload_n (pc' := 1) rfl rfl rfl ?_
  refine w_getI (pc' := 4) rfl rfl rfl rfl rfl (show xS0 L 51 = (4, 0) from rfl) ?_
  refine w_iconst (pc' := 5) rfl rfl (v := 1) rfl ?_
  refine w_br2 (pc' := 8) (t := 53) rfl rfl rfl ic_ne (fun hc => ?_) (fun hc => ?_)
  · replace h := h.2 hc
    refine w_iconst (pc' := 54) rfl rfl (v := (-1)) rfl ?_
    exact w_ireturn rfl rfl h
  · replace h := h.1 (Classical.not_not.mp hc)
    refine w_iload_n (pc' := 9) rfl rfl rfl ?_
    refine w_br (pc' := 12) (t := 53) rfl rfl rfl ic_lt (fun hc => ?_) (fun hc => ?_)
    · replace h := h.1 hc
      refine w_iconst (pc' := 54) rfl rfl (v := (-1)) rfl ?_
      exact w_ireturn rfl rfl h
    · replace h := h.2 hc
      refine w_iload_n (pc' := 13) rfl rfl rfl ?_
      refine w_iconst (pc' := 14) rfl rfl (v := 3) rfl ?_
      refine w_br2 (pc' := 17) (t := 53) rfl rfl rfl ic_ge (fun hc => ?_) (fun hc => ?_)
      · replace h := h.2 hc
        refine w_iconst (pc' := 54) rfl rfl (v := (-1)) rfl ?_
        exact w_ireturn rfl rfl h
      · replace h := h.1 (Classical.not_not.mp hc)
        refine w_gst (pc' := 20) rfl rfl rfl (by omega) ?_
        show Wp L xs xm_Re_lineOf 20 [.ref 51, .int x1, .retAddr 0] [.ref 1000001] f _
        refine w_iload_n (pc' := 21) rfl rfl rfl ?_
        obtain ⟨k1, ek1, bk1, h⟩ := h
        refine w_iaload4 (pc' := 22) (i := k1) rfl rfl (show xS0 L 1000001 = (40, 4) from rfl) (by omega) ek1 bk1 (by omega) ?_
        refine w_istore_n (pc' := 23) rfl rfl (xl' := [.ref 51, .int x1, .int (xoI xs 1000001 k1)]) rfl ?_
        exact h
theorem t_Re_lineOf_23 {L : Nat} {xs : Nat → Int32} {x1 : Int32} {x2 : Int32} {f : Hp} {Q : Int32 → Hp → Prop}  (h : ∃ k1 : Nat, (x1 + 1) = iN k1 ∧ k1 < 4 ∧ ((x2 < (xoI xs 1000001 k1) → CR L xs xm_Re_wordOf [.int x2] f (fun v1 g1 => ∃ nq1, xS0 L v1 = (42, nq1) ∧ CI L xs xm_Re_isWord [.ref 51, .ref v1] g1 (fun v2 g2 => ((v2 = 0 → Wp L xs xm_Re_lineOf 23 [.ref 51, .int x1, .int (x2 + 1)] [] g2 (QI Q)) ∧ (¬ v2 = 0 → Q x2 g2))))) ∧ (¬ x2 < (xoI xs 1000001 k1) → Q (-1) f))) : Wp L xs xm_Re_lineOf 23 [.ref 51, .int x1, .int x2] [] f (QI Q) := by
  refine w_iload_n (pc' := 24) rfl rfl rfl ?_
  refine w_gst (pc' := 27) rfl rfl rfl (by omega) ?_
  show Wp L xs xm_Re_lineOf 27 [.ref 51, .int x1, .int x2] [.ref 1000001, .int x2] f _
  refine w_iload_n (pc' := 28) rfl rfl rfl ?_
  refine w_iconst (pc' := 29) rfl rfl (v := 1) rfl ?_
  refine w_iadd (pc' := 30) rfl rfl ?_
  obtain ⟨k1, ek1, bk1, h⟩ := h
  refine w_iaload4 (pc' := 31) (i := k1) rfl rfl (show xS0 L 1000001 = (40, 4) from rfl) (by omega) ek1 bk1 (by omega) ?_
  refine w_br2 (pc' := 34) (t := 53) rfl rfl rfl ic_ge (fun hc => ?_) (fun hc => ?_)
  · replace h := h.2 hc
    refine w_iconst (pc' := 54) rfl rfl (v := (-1)) rfl ?_
    exact w_ireturn rfl rfl h
  · replace h := h.1 (Classical.not_not.mp hc)
    refine w_aload_n (pc' := 35) rfl rfl rfl ?_
    refine w_iload_n (pc' := 36) rfl rfl rfl ?_
    refine w_cs (pc' := 39) (cm := xm_Re_wordOf) (as := [.int x2]) (rest := [.ref 51]) rfl rfl rfl (Or.inl rfl) (xa_Re_wordOf (Nat.le_of_ble_eq_true rfl)) (CR.k h fun v1 g1 h => ?_)
    show Wp L xs xm_Re_lineOf 39 [.ref 51, .int x1, .int x2] [.ref v1, .ref 51] g1 _
    obtain ⟨nq1, q1, h⟩ := h
    refine w_cv (pc' := 42) (cm := xm_Re_isWord) (as := [.ref v1]) (a := 51) (rest := []) rfl rfl rfl  (xa_Re_isWord (Nat.le_of_ble_eq_true rfl)) (show xS0 L 51 = (4, 0) from rfl) rfl (CI.k h fun v2 g2 h => ?_)
    show Wp L xs xm_Re_lineOf 42 [.ref 51, .int x1, .int x2] [.int v2] g2 _
    refine w_br (pc' := 45) (t := 47) rfl rfl rfl ic_eq (fun hc => ?_) (fun hc => ?_)
    · replace h := h.1 hc
      refine w_iinc (pc' := 50) rfl rfl rfl (v := (x2 + 1)) rfl (xl' := [.ref 51, .int x1, .int (x2 + 1)]) rfl ?_
      refine w_goto (pc' := 23) rfl rfl ?_
      exact h
    · replace h := h.2 hc
      refine w_iload_n (pc' := 46) rfl rfl rfl ?_
      exact w_ireturn rfl rfl h
theorem t_Re_wordOf_0 {L : Nat} {xs : Nat → Int32} {x0 : Int32} {f : Hp} {Q : Nat → Hp → Prop}  (h : ((x0 = 0 → Q 1000010 f) ∧ (¬ x0 = 0 → ((x0 = 1 → Q 1000011 f) ∧ (¬ x0 = 1 → ((x0 = 2 → Q 1000012 f) ∧ (¬ x0 = 2 → ((x0 = 3 → Q 1000013 f) ∧ (¬ x0 = 3 → ((x0 = 4 → Q 1000014 f) ∧ (¬ x0 = 4 → ((x0 = 5 → Q 1000015 f) ∧ (¬ x0 = 5 → ((x0 = 6 → Q 1000016 f) ∧ (¬ x0 = 6 → ((x0 = 7 → Q 1000017 f) ∧ (¬ x0 = 7 → ((x0 = 8 → Q 1000018 f) ∧ (¬ x0 = 8 → ((x0 = 9 → Q 1000019 f) ∧ (¬ x0 = 9 → ((x0 = 10 → Q 1000020 f) ∧ (¬ x0 = 10 → ((x0 = 11 → Q 1000021 f) ∧ (¬ x0 = 11 → ((x0 = 12 → Q 1000022 f) ∧ (¬ x0 = 12 → ((x0 = 13 → Q 1000023 f) ∧ (¬ x0 = 13 → ((x0 = 14 → Q 1000024 f) ∧ (¬ x0 = 14 → ((x0 = 15 → Q 1000025 f) ∧ (¬ x0 = 15 → Q 1000026 f))))))))))))))))))))))))))))))))) : CR L xs xm_Re_wordOf [.int x0] f Q := by
  show Wp L xs xm_Re_wordOf 0 [.int x0] [] f (QR Q)
  refine w_iload_n (pc' := 1) rfl rfl rfl ?_
  by_cases hs0 : x0 = 0
  · replace h := h.1 hs0
    refine w_ts (o := 79) (t := 80) rfl (by rw [hs0]; decide) (by rw [hs0]; rfl) rfl ?_
    refine w_ldcT (pc' := 82) rfl rfl (i := 0) rfl rfl ?_
    show Wp L xs xm_Re_wordOf 82 [.int x0] [.ref 1000010] f _
    exact w_areturn rfl rfl h
  replace h := h.2 hs0
  by_cases hs1 : x0 = 1
  · replace h := h.1 hs1
    refine w_ts (o := 82) (t := 83) rfl (by rw [hs1]; decide) (by rw [hs1]; rfl) rfl ?_
    refine w_ldcT (pc' := 85) rfl rfl (i := 1) rfl rfl ?_
    show Wp L xs xm_Re_wordOf 85 [.int x0] [.ref 1000011] f _
    exact w_areturn rfl rfl h
  replace h := h.2 hs1
  by_cases hs2 : x0 = 2
  · replace h := h.1 hs2
    refine w_ts (o := 85) (t := 86) rfl (by rw [hs2]; decide) (by rw [hs2]; rfl) rfl ?_
    refine w_ldcT (pc' := 88) rfl rfl (i := 2) rfl rfl ?_
    show Wp L xs xm_Re_wordOf 88 [.int x0] [.ref 1000012] f _
    exact w_areturn rfl rfl h
  replace h := h.2 hs2
  by_cases hs3 : x0 = 3
  · replace h := h.1 hs3
    refine w_ts (o := 88) (t := 89) rfl (by rw [hs3]; decide) (by rw [hs3]; rfl) rfl ?_
    refine w_ldcT (pc' := 91) rfl rfl (i := 3) rfl rfl ?_
    show Wp L xs xm_Re_wordOf 91 [.int x0] [.ref 1000013] f _
    exact w_areturn rfl rfl h
  replace h := h.2 hs3
  by_cases hs4 : x0 = 4
  · replace h := h.1 hs4
    refine w_ts (o := 91) (t := 92) rfl (by rw [hs4]; decide) (by rw [hs4]; rfl) rfl ?_
    refine w_ldcT (pc' := 94) rfl rfl (i := 4) rfl rfl ?_
    show Wp L xs xm_Re_wordOf 94 [.int x0] [.ref 1000014] f _
    exact w_areturn rfl rfl h
  replace h := h.2 hs4
  by_cases hs5 : x0 = 5
  · replace h := h.1 hs5
    refine w_ts (o := 94) (t := 95) rfl (by rw [hs5]; decide) (by rw [hs5]; rfl) rfl ?_
    refine w_ldcT (pc' := 97) rfl rfl (i := 5) rfl rfl ?_
    show Wp L xs xm_Re_wordOf 97 [.int x0] [.ref 1000015] f _
    exact w_areturn rfl rfl h
  replace h := h.2 hs5
  by_cases hs6 : x0 = 6
  · replace h := h.1 hs6
    refine w_ts (o := 97) (t := 98) rfl (by rw [hs6]; decide) (by rw [hs6]; rfl) rfl ?_
    refine w_ldcT (pc' := 100) rfl rfl (i := 6) rfl rfl ?_
    show Wp L xs xm_Re_wordOf 100 [.int x0] [.ref 1000016] f _
    exact w_areturn rfl rfl h
  replace h := h.2 hs6
  by_cases hs7 : x0 = 7
  · replace h := h.1 hs7
    refine w_ts (o := 100) (t := 101) rfl (by rw [hs7]; decide) (by rw [hs7]; rfl) rfl ?_
    refine w_ldcT (pc' := 103) rfl rfl (i := 7) rfl rfl ?_
    show Wp L xs xm_Re_wordOf 103 [.int x0] [.ref 1000017] f _
    exact w_areturn rfl rfl h
  replace h := h.2 hs7
  by_cases hs8 : x0 = 8
  · replace h := h.1 hs8
    refine w_ts (o := 103) (t := 104) rfl (by rw [hs8]; decide) (by rw [hs8]; rfl) rfl ?_
    refine w_ldcT (pc' := 106) rfl rfl (i := 8) rfl rfl ?_
    show Wp L xs xm_Re_wordOf 106 [.int x0] [.ref 1000018] f _
    exact w_areturn rfl rfl h
  replace h := h.2 hs8
  by_cases hs9 : x0 = 9
  · replace h := h.1 hs9
    refine w_ts (o := 106) (t := 107) rfl (by rw [hs9]; decide) (by rw [hs9]; rfl) rfl ?_
    refine w_ldcT (pc' := 109) rfl rfl (i := 9) rfl rfl ?_
    show Wp L xs xm_Re_wordOf 109 [.int x0] [.ref 1000019] f _
    exact w_areturn rfl rfl h
  replace h := h.2 hs9
  by_cases hs10 : x0 = 10
  · replace h := h.1 hs10
    refine w_ts (o := 109) (t := 110) rfl (by rw [hs10]; decide) (by rw [hs10]; rfl) rfl ?_
    refine w_ldcT (pc' := 112) rfl rfl (i := 10) rfl rfl ?_
    show Wp L xs xm_Re_wordOf 112 [.int x0] [.ref 1000020] f _
    exact w_areturn rfl rfl h
  replace h := h.2 hs10
  by_cases hs11 : x0 = 11
  · replace h := h.1 hs11
    refine w_ts (o := 112) (t := 113) rfl (by rw [hs11]; decide) (by rw [hs11]; rfl) rfl ?_
    refine w_ldcT (pc' := 115) rfl rfl (i := 11) rfl rfl ?_
    show Wp L xs xm_Re_wordOf 115 [.int x0] [.ref 1000021] f _
    exact w_areturn rfl rfl h
  replace h := h.2 hs11
  by_cases hs12 : x0 = 12
  · replace h := h.1 hs12
    refine w_ts (o := 115) (t := 116) rfl (by rw [hs12]; decide) (by rw [hs12]; rfl) rfl ?_
    refine w_ldcT (pc' := 118) rfl rfl (i := 12) rfl rfl ?_
    show Wp L xs xm_Re_wordOf 118 [.int x0] [.ref 1000022] f _
    exact w_areturn rfl rfl h
  replace h := h.2 hs12
  by_cases hs13 : x0 = 13
  · replace h := h.1 hs13
    refine w_ts (o := 118) (t := 119) rfl (by rw [hs13]; decide) (by rw [hs13]; rfl) rfl ?_
    refine w_ldcT (pc' := 121) rfl rfl (i := 13) rfl rfl ?_
    show Wp L xs xm_Re_wordOf 121 [.int x0] [.ref 1000023] f _
    exact w_areturn rfl rfl h
  replace h := h.2 hs13
  by_cases hs14 : x0 = 14
  · replace h := h.1 hs14
    refine w_ts (o := 121) (t := 122) rfl (by rw [hs14]; decide) (by rw [hs14]; rfl) rfl ?_
    refine w_ldcT (pc' := 124) rfl rfl (i := 14) rfl rfl ?_
    show Wp L xs xm_Re_wordOf 124 [.int x0] [.ref 1000024] f _
    exact w_areturn rfl rfl h
  replace h := h.2 hs14
  by_cases hs15 : x0 = 15
  · replace h := h.1 hs15
    refine w_ts (o := 124) (t := 125) rfl (by rw [hs15]; decide) (by rw [hs15]; rfl) rfl ?_
    refine w_ldcT (pc' := 127) rfl rfl (i := 15) rfl rfl ?_
    show Wp L xs xm_Re_wordOf 127 [.int x0] [.ref 1000025] f _
    exact w_areturn rfl rfl h
  replace h := h.2 hs15
  refine w_tsd (t := 128) rfl ?_ rfl ?_
  · have z0 : (x0).toInt ≠ 0 := fun e => hs0 (Int32.toInt_inj.mp e); have z1 : (x0).toInt ≠ 1 := fun e => hs1 (Int32.toInt_inj.mp e); have z2 : (x0).toInt ≠ 2 := fun e => hs2 (Int32.toInt_inj.mp e); have z3 : (x0).toInt ≠ 3 := fun e => hs3 (Int32.toInt_inj.mp e); have z4 : (x0).toInt ≠ 4 := fun e => hs4 (Int32.toInt_inj.mp e); have z5 : (x0).toInt ≠ 5 := fun e => hs5 (Int32.toInt_inj.mp e); have z6 : (x0).toInt ≠ 6 := fun e => hs6 (Int32.toInt_inj.mp e); have z7 : (x0).toInt ≠ 7 := fun e => hs7 (Int32.toInt_inj.mp e); have z8 : (x0).toInt ≠ 8 := fun e => hs8 (Int32.toInt_inj.mp e); have z9 : (x0).toInt ≠ 9 := fun e => hs9 (Int32.toInt_inj.mp e); have z10 : (x0).toInt ≠ 10 := fun e => hs10 (Int32.toInt_inj.mp e); have z11 : (x0).toInt ≠ 11 := fun e => hs11 (Int32.toInt_inj.mp e); have z12 : (x0).toInt ≠ 12 := fun e => hs12 (Int32.toInt_inj.mp e); have z13 : (x0).toInt ≠ 13 := fun e => hs13 (Int32.toInt_inj.mp e); have z14 : (x0).toInt ≠ 14 := fun e => hs14 (Int32.toInt_inj.mp e); have z15 : (x0).toInt ≠ 15 := fun e => hs15 (Int32.toInt_inj.mp e); omega
  refine w_ldcT (pc' := 130) rfl rfl (i := 16) rfl rfl ?_
  show Wp L xs xm_Re_wordOf 130 [.int x0] [.ref 1000026] f _
  exact w_areturn rfl rfl h
theorem t_Re_isWord_0 {L : Nat} {xs : Nat → Int32} {x1 : Nat} {nx1 : Nat} {f : Hp} {Q : Int32 → Hp → Prop} (qx1 : xS0 L x1 = (42, nx1)) (h : CI L xs xm_js_length [.ref x1] f (fun v1 g1 => ((v1 = ((g1 51 9) - (g1 51 8)) → Wp L xs xm_Re_isWord 20 [.ref 51, .ref x1, .int 0] [] g1 (QI Q)) ∧ (¬ v1 = ((g1 51 9) - (g1 51 8)) → Q 0 g1)))) : CI L xs xm_Re_isWord [.ref 51, .ref x1] f Q := by
  show Wp L xs xm_Re_isWord 0 [.ref 51, .ref x1, .retAddr 0] [] f (QI Q)
  refine w_aload_n (pc' := 1) rfl rfl rfl ?_
  refine w_cv (pc' := 4) (cm := xm_js_length) (as := []) (a := x1) (rest := []) rfl rfl rfl  (xa_js_length (Nat.le_of_ble_eq_true rfl)) qx1 rfl (CI.k h fun v1 g1 h => ?_)
  show Wp L xs xm_Re_isWord 4 [.ref 51, .ref x1, .retAddr 0] [.int v1] g1 _
  refine w_aload_n (pc' := 5) rfl rfl rfl ?_
  refine w_getI (pc' := 8) rfl rfl rfl rfl rfl (show xS0 L 51 = (4, 0) from rfl) ?_
  refine w_aload_n (pc' := 9) rfl rfl rfl ?_
  refine w_getI (pc' := 12) rfl rfl rfl rfl rfl (show xS0 L 51 = (4, 0) from rfl) ?_
  refine w_isub (pc' := 13) rfl rfl ?_
  refine w_br2 (pc' := 16) (t := 18) rfl rfl rfl ic_eq (fun hc => ?_) (fun hc => ?_)
  · replace h := h.1 hc
    refine w_iconst (pc' := 19) rfl rfl (v := 0) rfl ?_
    refine w_istore_n (pc' := 20) rfl rfl (xl' := [.ref 51, .ref x1, .int 0]) rfl ?_
    exact h
  · replace h := h.2 hc
    refine w_iconst (pc' := 17) rfl rfl (v := 0) rfl ?_
    exact w_ireturn rfl rfl h
theorem t_Re_isWord_20 {L : Nat} {xs : Nat → Int32} {x1 : Nat} {nx1 : Nat} {x2 : Int32} {f : Hp} {Q : Int32 → Hp → Prop} (qx1 : xS0 L x1 = (42, nx1)) (h : CI L xs xm_js_length [.ref x1] f (fun v1 g1 => ((x2 < v1 → ∃ k1 : Nat, ((g1 51 8) + x2) = iN k1 ∧ k1 < 600 ∧ CI L xs xm_js_charAt [.ref x1, .int x2] g1 (fun v2 g2 => (((g1 73 k1) = v2 → Wp L xs xm_Re_isWord 20 [.ref 51, .ref x1, .int (x2 + 1)] [] g2 (QI Q)) ∧ (¬ (g1 73 k1) = v2 → Q 0 g2)))) ∧ (¬ x2 < v1 → Q 1 g1)))) : Wp L xs xm_Re_isWord 20 [.ref 51, .ref x1, .int x2] [] f (QI Q) := by
  refine w_iload_n (pc' := 21) rfl rfl rfl ?_
  refine w_aload_n (pc' := 22) rfl rfl rfl ?_
  refine w_cv (pc' := 25) (cm := xm_js_length) (as := []) (a := x1) (rest := [.int x2]) rfl rfl rfl  (xa_js_length (Nat.le_of_ble_eq_true rfl)) qx1 rfl (CI.k h fun v1 g1 h => ?_)
  show Wp L xs xm_Re_isWord 25 [.ref 51, .ref x1, .int x2] [.int v1, .int x2] g1 _
  refine w_br2 (pc' := 28) (t := 55) rfl rfl rfl ic_ge (fun hc => ?_) (fun hc => ?_)
  · replace h := h.2 hc
    refine w_iconst (pc' := 56) rfl rfl (v := 1) rfl ?_
    exact w_ireturn rfl rfl h
  · replace h := h.1 (Classical.not_not.mp hc)
    refine w_aload_n (pc' := 29) rfl rfl rfl ?_
    have q1 : xR0 51 5 = some 73 ∧ xS0 L 73 = (21, 600) := (kf_4_5 (show xS0 L 51 = (4, 0) from rfl))
    refine w_getR (pc' := 32) rfl rfl rfl rfl (show xS0 L 51 = (4, 0) from rfl) q1.1 ?_
    refine w_aload_n (pc' := 33) rfl rfl rfl ?_
    refine w_getI (pc' := 36) rfl rfl rfl rfl rfl (show xS0 L 51 = (4, 0) from rfl) ?_
    refine w_iload_n (pc' := 37) rfl rfl rfl ?_
    refine w_iadd (pc' := 38) rfl rfl ?_
    obtain ⟨k1, ek1, bk1, h⟩ := h
    refine w_baload (pc' := 39) (i := k1) rfl rfl q1.2 (Or.inl rfl) ek1 bk1 (by omega) ?_
    refine w_aload_n (pc' := 40) rfl rfl rfl ?_
    refine w_iload_n (pc' := 41) rfl rfl rfl ?_
    refine w_cv (pc' := 44) (cm := xm_js_charAt) (as := [.int x2]) (a := x1) (rest := [.int (g1 73 k1)]) rfl rfl rfl  (xa_js_charAt (Nat.le_of_ble_eq_true rfl)) qx1 rfl (CI.k h fun v2 g2 h => ?_)
    show Wp L xs xm_Re_isWord 44 [.ref 51, .ref x1, .int x2] [.int v2, .int (g1 73 k1)] g2 _
    refine w_br2 (pc' := 47) (t := 49) rfl rfl rfl ic_eq (fun hc => ?_) (fun hc => ?_)
    · replace h := h.1 hc
      refine w_iinc (pc' := 52) rfl rfl rfl (v := (x2 + 1)) rfl (xl' := [.ref 51, .ref x1, .int (x2 + 1)]) rfl ?_
      refine w_goto (pc' := 20) rfl rfl ?_
      exact h
    · replace h := h.2 hc
      refine w_iconst (pc' := 48) rfl rfl (v := 0) rfl ?_
      exact w_ireturn rfl rfl h
theorem t_Re_isFull_0 {L : Nat} {xs : Nat → Int32} {x1 : Int32} {f : Hp} {Q : Int32 → Hp → Prop}  (h : ((x1 = 5 → (((f 52 4) = 10 → Q 1 f) ∧ (¬ (f 52 4) = 10 → Q 0 f))) ∧ (¬ x1 = 5 → ((x1 = 16 → (((f 69 0) = 12 → Q 1 f) ∧ (¬ (f 69 0) = 12 → Q 0 f))) ∧ (¬ x1 = 16 → ((x1 < 7 → Q 0 f) ∧ (¬ x1 < 7 → (((f 64 0) = 40 → Q 1 f) ∧ (¬ (f 64 0) = 40 → Q 0 f))))))))) : CI L xs xm_Re_isFull [.ref 51, .int x1] f Q := by
  show Wp L xs xm_Re_isFull 0 [.ref 51, .int x1] [] f (QI Q)
  refine w_iload_n (pc' := 1) rfl rfl rfl ?_
  refine w_iconst (pc' := 2) rfl rfl (v := 5) rfl ?_
  refine w_br2 (pc' := 5) (t := 23) rfl rfl rfl ic_ne (fun hc => ?_) (fun hc => ?_)
  · replace h := h.2 hc
    refine w_iload_n (pc' := 24) rfl rfl rfl ?_
    refine w_bipush (pc' := 26) rfl rfl (v := 16) rfl ?_
    refine w_br2 (pc' := 29) (t := 47) rfl rfl rfl ic_ne (fun hc => ?_) (fun hc => ?_)
    · replace h := h.2 hc
      refine w_iload_n (pc' := 48) rfl rfl rfl ?_
      refine w_bipush (pc' := 50) rfl rfl (v := 7) rfl ?_
      refine w_br2 (pc' := 53) (t := 69) rfl rfl rfl ic_lt (fun hc => ?_) (fun hc => ?_)
      · replace h := h.1 hc
        refine w_iconst (pc' := 70) rfl rfl (v := 0) rfl ?_
        exact w_ireturn rfl rfl h
      · replace h := h.2 hc
        refine w_aload_n (pc' := 54) rfl rfl rfl ?_
        have q1 : xR0 51 1 = some 64 ∧ xS0 L 64 = (6, 0) := (kf_4_1 (show xS0 L 51 = (4, 0) from rfl))
        refine w_getR (pc' := 57) rfl rfl rfl rfl (show xS0 L 51 = (4, 0) from rfl) q1.1 ?_
        refine w_getI (pc' := 60) rfl rfl rfl rfl rfl q1.2 ?_
        refine w_bipush (pc' := 62) rfl rfl (v := 40) rfl ?_
        refine w_br2 (pc' := 65) (t := 69) rfl rfl rfl ic_ne (fun hc => ?_) (fun hc => ?_)
        · replace h := h.2 hc
          refine w_iconst (pc' := 70) rfl rfl (v := 0) rfl ?_
          exact w_ireturn rfl rfl h
        · replace h := h.1 (Classical.not_not.mp hc)
          refine w_iconst (pc' := 66) rfl rfl (v := 1) rfl ?_
          refine w_goto (pc' := 70) rfl rfl ?_
          exact w_ireturn rfl rfl h
    · replace h := h.1 (Classical.not_not.mp hc)
      refine w_aload_n (pc' := 30) rfl rfl rfl ?_
      have q2 : xR0 51 2 = some 69 ∧ xS0 L 69 = (5, 0) := (kf_4_2 (show xS0 L 51 = (4, 0) from rfl))
      refine w_getR (pc' := 33) rfl rfl rfl rfl (show xS0 L 51 = (4, 0) from rfl) q2.1 ?_
      refine w_getI (pc' := 36) rfl rfl rfl rfl rfl q2.2 ?_
      refine w_bipush (pc' := 38) rfl rfl (v := 12) rfl ?_
      refine w_br2 (pc' := 41) (t := 45) rfl rfl rfl ic_ne (fun hc => ?_) (fun hc => ?_)
      · replace h := h.2 hc
        refine w_iconst (pc' := 46) rfl rfl (v := 0) rfl ?_
        exact w_ireturn rfl rfl h
      · replace h := h.1 (Classical.not_not.mp hc)
        refine w_iconst (pc' := 42) rfl rfl (v := 1) rfl ?_
        refine w_goto (pc' := 46) rfl rfl ?_
        exact w_ireturn rfl rfl h
  · replace h := h.1 (Classical.not_not.mp hc)
    refine w_aload_n (pc' := 6) rfl rfl rfl ?_
    have q3 : xR0 51 0 = some 52 ∧ xS0 L 52 = (1, 0) := (kf_4_0 (show xS0 L 51 = (4, 0) from rfl))
    refine w_getR (pc' := 9) rfl rfl rfl rfl (show xS0 L 51 = (4, 0) from rfl) q3.1 ?_
    refine w_getI (pc' := 12) rfl rfl rfl rfl rfl q3.2 ?_
    refine w_bipush (pc' := 14) rfl rfl (v := 10) rfl ?_
    refine w_br2 (pc' := 17) (t := 21) rfl rfl rfl ic_ne (fun hc => ?_) (fun hc => ?_)
    · replace h := h.2 hc
      refine w_iconst (pc' := 22) rfl rfl (v := 0) rfl ?_
      exact w_ireturn rfl rfl h
    · replace h := h.1 (Classical.not_not.mp hc)
      refine w_iconst (pc' := 18) rfl rfl (v := 1) rfl ?_
      refine w_goto (pc' := 22) rfl rfl ?_
      exact w_ireturn rfl rfl h
theorem t_Re_note_0 {L : Nat} {xs : Nat → Int32} {x1 : Int32} {x2 : Int32} {f : Hp} {Q : Hp → Prop}  (h : (((f 51 3) = 0 → ∀ g1, g1 = xu f 51 3 x1 → ∀ g2, g2 = xu g1 51 4 x2 → Q g2) ∧ (¬ (f 51 3) = 0 → Q f))) : CV L xs xm_Re_note [.ref 51, .int x1, .int x2] f Q := by
  show Wp L xs xm_Re_note 0 [.ref 51, .int x1, .int x2] [] f (QV Q)
  refine w_aload_n (pc' := 1) rfl rfl rfl ?_
  refine w_getI (pc' := 4) rfl rfl rfl rfl rfl (show xS0 L 51 = (4, 0) from rfl) ?_
  refine w_br (pc' := 7) (t := 17) rfl rfl rfl ic_ne (fun hc => ?_) (fun hc => ?_)
  · replace h := h.2 hc
    exact w_return rfl rfl h
  · replace h := h.1 (Classical.not_not.mp hc)
    refine w_aload_n (pc' := 8) rfl rfl rfl ?_
    refine w_iload_n (pc' := 9) rfl rfl rfl ?_
    refine w_putI (pc' := 12) rfl rfl rfl rfl (show xS0 L 51 = (4, 0) from rfl) ?_
    replace h := h _ rfl
    generalize xu f 51 3 x1 = g1 at h ⊢
    refine w_aload_n (pc' := 13) rfl rfl rfl ?_
    refine w_iload_n (pc' := 14) rfl rfl rfl ?_
    refine w_putI (pc' := 17) rfl rfl rfl rfl (show xS0 L 51 = (4, 0) from rfl) ?_
    replace h := h _ rfl
    generalize xu g1 51 4 x2 = g2 at h ⊢
    exact w_return rfl rfl h
theorem t_Re_mayBe_0 {L : Nat} {xs : Nat → Int32} {x1 : Int32} {x2 : Int32} {f : Hp} {Q : Int32 → Hp → Prop}  (h : ∃ k1 : Nat, x2 = iN k1 ∧ k1 < 3 ∧ ∃ k2 : Nat, ((3 * x1) + x2) = iN k2 ∧ k2 < 51 ∧ (((f 74 k1) < (xoI xs 1000003 k2) → Q 0 f) ∧ (¬ (f 74 k1) < (xoI xs 1000003 k2) → (((xoI xs 1000004 k2) < (f 74 k1) → Q 0 f) ∧ (¬ (xoI xs 1000004 k2) < (f 74 k1) → ((x2 = 1 → CI L xs xm_Re_tellsTwoMembers [.int x1] f (fun v1 g1 => ((v1 = 0 → Q 1 g1) ∧ (¬ v1 = 0 → (((f 74 k1) = (g1 74 0) → Q 0 g1) ∧ (¬ (f 74 k1) = (g1 74 0) → Q 1 g1)))))) ∧ (¬ x2 = 1 → Q 1 f))))))) : CI L xs xm_Re_mayBe [.ref 51, .int x1, .int x2] f Q := by
  show Wp L xs xm_Re_mayBe 0 [.ref 51, .int x1, .int x2, .retAddr 0] [] f (QI Q)
  refine w_aload_n (pc' := 1) rfl rfl rfl ?_
  have q1 : xR0 51 12 = some 74 ∧ xS0 L 74 = (20, 3) := (kf_4_12 (show xS0 L 51 = (4, 0) from rfl))
  refine w_getR (pc' := 4) rfl rfl rfl rfl (show xS0 L 51 = (4, 0) from rfl) q1.1 ?_
  refine w_iload_n (pc' := 5) rfl rfl rfl ?_
  obtain ⟨k1, ek1, bk1, h⟩ := h
  refine w_iaload (pc' := 6) (i := k1) rfl rfl q1.2 ek1 bk1 (by omega) ?_
  refine w_istore_n (pc' := 7) rfl rfl (xl' := [.ref 51, .int x1, .int x2, .int (f 74 k1)]) rfl ?_
  refine w_iload_n (pc' := 8) rfl rfl rfl ?_
  refine w_gst (pc' := 11) rfl rfl rfl (by omega) ?_
  show Wp L xs xm_Re_mayBe 11 [.ref 51, .int x1, .int x2, .int (f 74 k1)] [.ref 1000003, .int (f 74 k1)] f _
  refine w_iconst (pc' := 12) rfl rfl (v := 3) rfl ?_
  refine w_iload_n (pc' := 13) rfl rfl rfl ?_
  refine w_imul (pc' := 14) rfl rfl ?_
  refine w_iload_n (pc' := 15) rfl rfl rfl ?_
  refine w_iadd (pc' := 16) rfl rfl ?_
  obtain ⟨k2, ek2, bk2, h⟩ := h
  refine w_iaload4 (pc' := 17) (i := k2) rfl rfl (show xS0 L 1000003 = (40, 51) from rfl) (by omega) ek2 bk2 (by omega) ?_
  refine w_br2 (pc' := 20) (t := 33) rfl rfl rfl ic_lt (fun hc => ?_) (fun hc => ?_)
  · replace h := h.1 hc
    refine w_iconst (pc' := 34) rfl rfl (v := 0) rfl ?_
    exact w_ireturn rfl rfl h
  · replace h := h.2 hc
    refine w_iload_n (pc' := 21) rfl rfl rfl ?_
    refine w_gst (pc' := 24) rfl rfl rfl (by omega) ?_
    show Wp L xs xm_Re_mayBe 24 [.ref 51, .int x1, .int x2, .int (f 74 k1)] [.ref 1000004, .int (f 74 k1)] f _
    refine w_iconst (pc' := 25) rfl rfl (v := 3) rfl ?_
    refine w_iload_n (pc' := 26) rfl rfl rfl ?_
    refine w_imul (pc' := 27) rfl rfl ?_
    refine w_iload_n (pc' := 28) rfl rfl rfl ?_
    refine w_iadd (pc' := 29) rfl rfl ?_
    refine w_iaload4 (pc' := 30) (i := k2) rfl rfl (show xS0 L 1000004 = (40, 51) from rfl) (by omega) ek2 bk2 (by omega) ?_
    refine w_br2 (pc' := 33) (t := 35) rfl rfl rfl ic_le (fun hc => ?_) (fun hc => ?_)
    · replace h := h.2 hc
      refine w_iload_n (pc' := 36) rfl rfl rfl ?_
      refine w_iconst (pc' := 37) rfl rfl (v := 1) rfl ?_
      refine w_br2 (pc' := 40) (t := 57) rfl rfl rfl ic_ne (fun hc => ?_) (fun hc => ?_)
      · replace h := h.2 hc
        refine w_iconst (pc' := 58) rfl rfl (v := 1) rfl ?_
        refine w_goto (pc' := 62) rfl rfl ?_
        exact w_ireturn rfl rfl h
      · replace h := h.1 (Classical.not_not.mp hc)
        refine w_iload_n (pc' := 41) rfl rfl rfl ?_
        refine w_cs (pc' := 44) (cm := xm_Re_tellsTwoMembers) (as := [.int x1]) (rest := []) rfl rfl rfl (Or.inl rfl) (xa_Re_tellsTwoMembers (Nat.le_of_ble_eq_true rfl)) (CI.k h fun v1 g1 h => ?_)
        show Wp L xs xm_Re_mayBe 44 [.ref 51, .int x1, .int x2, .int (f 74 k1)] [.int v1] g1 _
        refine w_br (pc' := 47) (t := 57) rfl rfl rfl ic_eq (fun hc => ?_) (fun hc => ?_)
        · replace h := h.1 hc
          refine w_iconst (pc' := 58) rfl rfl (v := 1) rfl ?_
          refine w_goto (pc' := 62) rfl rfl ?_
          exact w_ireturn rfl rfl h
        · replace h := h.2 hc
          refine w_iload_n (pc' := 48) rfl rfl rfl ?_
          refine w_aload_n (pc' := 49) rfl rfl rfl ?_
          have q2 : xR0 51 12 = some 74 ∧ xS0 L 74 = (20, 3) := (kf_4_12 (show xS0 L 51 = (4, 0) from rfl))
          refine w_getR (pc' := 52) rfl rfl rfl rfl (show xS0 L 51 = (4, 0) from rfl) q2.1 ?_
          refine w_iconst (pc' := 53) rfl rfl (v := 0) rfl ?_
          refine w_iaload (pc' := 54) (i := 0) rfl rfl q2.2 rfl (by omega) (by omega) ?_
          refine w_br2 (pc' := 57) (t := 61) rfl rfl rfl ic_eq (fun hc => ?_) (fun hc => ?_)
          · replace h := h.1 hc
            refine w_iconst (pc' := 62) rfl rfl (v := 0) rfl ?_
            exact w_ireturn rfl rfl h
          · replace h := h.2 hc
            refine w_iconst (pc' := 58) rfl rfl (v := 1) rfl ?_
            refine w_goto (pc' := 62) rfl rfl ?_
            exact w_ireturn rfl rfl h
    · replace h := h.1 (Classical.not_not.mp hc)
      refine w_iconst (pc' := 34) rfl rfl (v := 0) rfl ?_
      exact w_ireturn rfl rfl h
theorem t_Re_tellsTwoMembers_0 {L : Nat} {xs : Nat → Int32} {x0 : Int32} {f : Hp} {Q : Int32 → Hp → Prop}  (h : ((x0 = 6 → Q 1 f) ∧ (¬ x0 = 6 → ((x0 = 7 → Q 0 f) ∧ (¬ x0 = 7 → ((x0 = 8 → Q 1 f) ∧ (¬ x0 = 8 → ((x0 = 9 → Q 1 f) ∧ (¬ x0 = 9 → ((x0 = 10 → Q 0 f) ∧ (¬ x0 = 10 → ((x0 = 11 → Q 1 f) ∧ (¬ x0 = 11 → ((x0 = 12 → Q 1 f) ∧ (¬ x0 = 12 → Q 0 f))))))))))))))) : CI L xs xm_Re_tellsTwoMembers [.int x0] f Q := by
  show Wp L xs xm_Re_tellsTwoMembers 0 [.int x0] [] f (QI Q)
  refine w_iload_n (pc' := 1) rfl rfl rfl ?_
  by_cases hs6 : x0 = 6
  · replace h := h.1 hs6
    refine w_ts (o := 43) (t := 44) rfl (by rw [hs6]; decide) (by rw [hs6]; rfl) rfl ?_
    refine w_iconst (pc' := 45) rfl rfl (v := 1) rfl ?_
    exact w_ireturn rfl rfl h
  replace h := h.2 hs6
  by_cases hs7 : x0 = 7
  · replace h := h.1 hs7
    refine w_ts (o := 45) (t := 46) rfl (by rw [hs7]; decide) (by rw [hs7]; rfl) rfl ?_
    refine w_iconst (pc' := 47) rfl rfl (v := 0) rfl ?_
    exact w_ireturn rfl rfl h
  replace h := h.2 hs7
  by_cases hs8 : x0 = 8
  · replace h := h.1 hs8
    refine w_ts (o := 43) (t := 44) rfl (by rw [hs8]; decide) (by rw [hs8]; rfl) rfl ?_
    refine w_iconst (pc' := 45) rfl rfl (v := 1) rfl ?_
    exact w_ireturn rfl rfl h
  replace h := h.2 hs8
  by_cases hs9 : x0 = 9
  · replace h := h.1 hs9
    refine w_ts (o := 43) (t := 44) rfl (by rw [hs9]; decide) (by rw [hs9]; rfl) rfl ?_
    refine w_iconst (pc' := 45) rfl rfl (v := 1) rfl ?_
    exact w_ireturn rfl rfl h
  replace h := h.2 hs9
  by_cases hs10 : x0 = 10
  · replace h := h.1 hs10
    refine w_ts (o := 45) (t := 46) rfl (by rw [hs10]; decide) (by rw [hs10]; rfl) rfl ?_
    refine w_iconst (pc' := 47) rfl rfl (v := 0) rfl ?_
    exact w_ireturn rfl rfl h
  replace h := h.2 hs10
  by_cases hs11 : x0 = 11
  · replace h := h.1 hs11
    refine w_ts (o := 43) (t := 44) rfl (by rw [hs11]; decide) (by rw [hs11]; rfl) rfl ?_
    refine w_iconst (pc' := 45) rfl rfl (v := 1) rfl ?_
    exact w_ireturn rfl rfl h
  replace h := h.2 hs11
  by_cases hs12 : x0 = 12
  · replace h := h.1 hs12
    refine w_ts (o := 43) (t := 44) rfl (by rw [hs12]; decide) (by rw [hs12]; rfl) rfl ?_
    refine w_iconst (pc' := 45) rfl rfl (v := 1) rfl ?_
    exact w_ireturn rfl rfl h
  replace h := h.2 hs12
  refine w_tsd (t := 46) rfl ?_ rfl ?_
  · have z6 : (x0).toInt ≠ 6 := fun e => hs6 (Int32.toInt_inj.mp e); have z7 : (x0).toInt ≠ 7 := fun e => hs7 (Int32.toInt_inj.mp e); have z8 : (x0).toInt ≠ 8 := fun e => hs8 (Int32.toInt_inj.mp e); have z9 : (x0).toInt ≠ 9 := fun e => hs9 (Int32.toInt_inj.mp e); have z10 : (x0).toInt ≠ 10 := fun e => hs10 (Int32.toInt_inj.mp e); have z11 : (x0).toInt ≠ 11 := fun e => hs11 (Int32.toInt_inj.mp e); have z12 : (x0).toInt ≠ 12 := fun e => hs12 (Int32.toInt_inj.mp e); omega
  refine w_iconst (pc' := 47) rfl rfl (v := 0) rfl ?_
  exact w_ireturn rfl rfl h
theorem t_Re_keep_0 {L : Nat} {xs : Nat → Int32} {x1 : Int32} {f : Hp} {Q : Hp → Prop}  (h : ((x1 = 16 → CV L xs xm_Rp_add [.ref 69, .int (f 74 0), .int (f 74 1), .int (f 74 2)] f (fun g12 => Q g12)) ∧ (¬ x1 = 16 → ((x1 = 0 → ∀ g1, g1 = xu f 52 0 (f 74 0) → Q g1) ∧ (¬ x1 = 0 → ((x1 = 1 → ∀ g2, g2 = xu f 52 1 (f 74 0) → Q g2) ∧ (¬ x1 = 1 → ((x1 = 2 → ∀ g3, g3 = xu f 52 2 (f 74 0) → Q g3) ∧ (¬ x1 = 2 → ((x1 = 3 → ∀ g4, g4 = xu f 52 3 ((f 52 3) ||| (1 <<< ((f 74 0) &&& 31))) → ∀ g5, g5 = xu g4 51 11 (imax (g4 51 11) (f 74 0)) → Q g5) ∧ (¬ x1 = 3 → ((x1 = 4 → ∃ k1 : Nat, (f 74 0) = iN k1 ∧ k1 < 8 ∧ ∀ g6, g6 = xu f 53 k1 (f 74 1) → Q g6) ∧ (¬ x1 = 4 → ((x1 = 5 → CV L xs xm_Co_addOrder [.ref 52, .int (f 74 0), .int (f 74 1)] f (fun g7 => Q g7)) ∧ (¬ x1 = 5 → ((x1 = 6 → ∃ k2 : Nat, (f 74 0) = iN k2 ∧ k2 < 7 ∧ ∃ k3 : Nat, (f 74 1) = iN k3 ∧ k3 < 7 ∧ ∀ g8, g8 = xu f (57 + k2) k3 (f 74 2) → ∀ g9, g9 = xu g8 (57 + k3) k2 (f 74 2) → ∀ g10, g10 = xu g9 51 11 (imax (g9 51 11) (imax (f 74 0) (f 74 1))) → Q g10) ∧ (¬ x1 = 6 → CV L xs xm_Ru_add [.ref 64, .int (x1 - 7), .int (f 74 0), .int (f 74 1), .int (f 74 2)] f (fun g11 => Q g11)))))))))))))))))) : CV L xs xm_Re_keep [.ref 51, .int x1] f Q := by
  show Wp L xs xm_Re_keep 0 [.ref 51, .int x1, .retAddr 0, .retAddr 0, .retAddr 0] [] f (QV Q)
  refine w_aload_n (pc' := 1) rfl rfl rfl ?_
  have q1 : xR0 51 12 = some 74 ∧ xS0 L 74 = (20, 3) := (kf_4_12 (show xS0 L 51 = (4, 0) from rfl))
  refine w_getR (pc' := 4) rfl rfl rfl rfl (show xS0 L 51 = (4, 0) from rfl) q1.1 ?_
  refine w_iconst (pc' := 5) rfl rfl (v := 0) rfl ?_
  refine w_iaload (pc' := 6) (i := 0) rfl rfl q1.2 rfl (by omega) (by omega) ?_
  refine w_istore_n (pc' := 7) rfl rfl (xl' := [.ref 51, .int x1, .int (f 74 0), .retAddr 0, .retAddr 0]) rfl ?_
  refine w_aload_n (pc' := 8) rfl rfl rfl ?_
  have q2 : xR0 51 12 = some 74 ∧ xS0 L 74 = (20, 3) := (kf_4_12 (show xS0 L 51 = (4, 0) from rfl))
  refine w_getR (pc' := 11) rfl rfl rfl rfl (show xS0 L 51 = (4, 0) from rfl) q2.1 ?_
  refine w_iconst (pc' := 12) rfl rfl (v := 1) rfl ?_
  refine w_iaload (pc' := 13) (i := 1) rfl rfl q2.2 rfl (by omega) (by omega) ?_
  refine w_istore_n (pc' := 14) rfl rfl (xl' := [.ref 51, .int x1, .int (f 74 0), .int (f 74 1), .retAddr 0]) rfl ?_
  refine w_aload_n (pc' := 15) rfl rfl rfl ?_
  have q3 : xR0 51 12 = some 74 ∧ xS0 L 74 = (20, 3) := (kf_4_12 (show xS0 L 51 = (4, 0) from rfl))
  refine w_getR (pc' := 18) rfl rfl rfl rfl (show xS0 L 51 = (4, 0) from rfl) q3.1 ?_
  refine w_iconst (pc' := 19) rfl rfl (v := 2) rfl ?_
  refine w_iaload (pc' := 20) (i := 2) rfl rfl q3.2 rfl (by omega) (by omega) ?_
  refine w_istore (pc' := 22) rfl rfl (xl' := [.ref 51, .int x1, .int (f 74 0), .int (f 74 1), .int (f 74 2)]) rfl ?_
  refine w_iload_n (pc' := 23) rfl rfl rfl ?_
  refine w_bipush (pc' := 25) rfl rfl (v := 16) rfl ?_
  refine w_br2 (pc' := 28) (t := 40) rfl rfl rfl ic_ne (fun hc => ?_) (fun hc => ?_)
  · replace h := h.2 hc
    refine w_iload_n (pc' := 41) rfl rfl rfl ?_
    by_cases hs0 : x1 = 0
    · replace h := h.1 hs0
      refine w_ts (o := 43) (t := 84) rfl (by rw [hs0]; decide) (by rw [hs0]; rfl) rfl ?_
      refine w_aload_n (pc' := 85) rfl rfl rfl ?_
      have q4 : xR0 51 0 = some 52 ∧ xS0 L 52 = (1, 0) := (kf_4_0 (show xS0 L 51 = (4, 0) from rfl))
      refine w_getR (pc' := 88) rfl rfl rfl rfl (show xS0 L 51 = (4, 0) from rfl) q4.1 ?_
      refine w_iload_n (pc' := 89) rfl rfl rfl ?_
      refine w_putI (pc' := 92) rfl rfl rfl rfl q4.2 ?_
      replace h := h _ rfl
      generalize xu f 52 0 (f 74 0) = g1 at h ⊢
      refine w_goto (pc' := 232) rfl rfl ?_
      exact w_return rfl rfl h
    replace h := h.2 hs0
    by_cases hs1 : x1 = 1
    · replace h := h.1 hs1
      refine w_ts (o := 54) (t := 95) rfl (by rw [hs1]; decide) (by rw [hs1]; rfl) rfl ?_
      refine w_aload_n (pc' := 96) rfl rfl rfl ?_
      have q5 : xR0 51 0 = some 52 ∧ xS0 L 52 = (1, 0) := (kf_4_0 (show xS0 L 51 = (4, 0) from rfl))
      refine w_getR (pc' := 99) rfl rfl rfl rfl (show xS0 L 51 = (4, 0) from rfl) q5.1 ?_
      refine w_iload_n (pc' := 100) rfl rfl rfl ?_
      refine w_putI (pc' := 103) rfl rfl rfl rfl q5.2 ?_
      replace h := h _ rfl
      generalize xu f 52 1 (f 74 0) = g2 at h ⊢
      refine w_goto (pc' := 232) rfl rfl ?_
      exact w_return rfl rfl h
    replace h := h.2 hs1
    by_cases hs2 : x1 = 2
    · replace h := h.1 hs2
      refine w_ts (o := 65) (t := 106) rfl (by rw [hs2]; decide) (by rw [hs2]; rfl) rfl ?_
      refine w_aload_n (pc' := 107) rfl rfl rfl ?_
      have q6 : xR0 51 0 = some 52 ∧ xS0 L 52 = (1, 0) := (kf_4_0 (show xS0 L 51 = (4, 0) from rfl))
      refine w_getR (pc' := 110) rfl rfl rfl rfl (show xS0 L 51 = (4, 0) from rfl) q6.1 ?_
      refine w_iload_n (pc' := 111) rfl rfl rfl ?_
      refine w_putI (pc' := 114) rfl rfl rfl rfl q6.2 ?_
      replace h := h _ rfl
      generalize xu f 52 2 (f 74 0) = g3 at h ⊢
      refine w_goto (pc' := 232) rfl rfl ?_
      exact w_return rfl rfl h
    replace h := h.2 hs2
    by_cases hs3 : x1 = 3
    · replace h := h.1 hs3
      refine w_ts (o := 76) (t := 117) rfl (by rw [hs3]; decide) (by rw [hs3]; rfl) rfl ?_
      refine w_aload_n (pc' := 118) rfl rfl rfl ?_
      have q7 : xR0 51 0 = some 52 ∧ xS0 L 52 = (1, 0) := (kf_4_0 (show xS0 L 51 = (4, 0) from rfl))
      refine w_getR (pc' := 121) rfl rfl rfl rfl (show xS0 L 51 = (4, 0) from rfl) q7.1 ?_
      refine w_dupA (pc' := 122) rfl rfl ?_
      refine w_getI (pc' := 125) rfl rfl rfl rfl rfl q7.2 ?_
      refine w_iconst (pc' := 126) rfl rfl (v := 1) rfl ?_
      refine w_iload_n (pc' := 127) rfl rfl rfl ?_
      refine w_ishl (pc' := 128) rfl rfl ?_
      refine w_ior (pc' := 129) rfl rfl ?_
      refine w_putI (pc' := 132) rfl rfl rfl rfl q7.2 ?_
      replace h := h _ rfl
      generalize xu f 52 3 ((f 52 3) ||| (1 <<< ((f 74 0) &&& 31))) = g4 at h ⊢
      refine w_aload_n (pc' := 133) rfl rfl rfl ?_
      refine w_aload_n (pc' := 134) rfl rfl rfl ?_
      refine w_getI (pc' := 137) rfl rfl rfl rfl rfl (show xS0 L 51 = (4, 0) from rfl) ?_
      refine w_iload_n (pc' := 138) rfl rfl rfl ?_
      refine w_max (pc' := 141) rfl rfl rfl (Nat.le_of_ble_eq_true rfl) ?_
      refine w_putI (pc' := 144) rfl rfl rfl rfl (show xS0 L 51 = (4, 0) from rfl) ?_
      replace h := h _ rfl
      generalize xu g4 51 11 (imax (g4 51 11) (f 74 0)) = g5 at h ⊢
      refine w_goto (pc' := 232) rfl rfl ?_
      exact w_return rfl rfl h
    replace h := h.2 hs3
    by_cases hs4 : x1 = 4
    · replace h := h.1 hs4
      refine w_ts (o := 106) (t := 147) rfl (by rw [hs4]; decide) (by rw [hs4]; rfl) rfl ?_
      refine w_aload_n (pc' := 148) rfl rfl rfl ?_
      have q8 : xR0 51 0 = some 52 ∧ xS0 L 52 = (1, 0) := (kf_4_0 (show xS0 L 51 = (4, 0) from rfl))
      refine w_getR (pc' := 151) rfl rfl rfl rfl (show xS0 L 51 = (4, 0) from rfl) q8.1 ?_
      have q9 : xR0 52 5 = some 53 ∧ xS0 L 53 = (20, 8) := (kf_1_5 q8.2)
      refine w_getR (pc' := 154) rfl rfl rfl rfl q8.2 q9.1 ?_
      refine w_iload_n (pc' := 155) rfl rfl rfl ?_
      refine w_iload_n (pc' := 156) rfl rfl rfl ?_
      obtain ⟨k1, ek1, bk1, h⟩ := h
      refine w_iastore (pc' := 157) (i := k1) rfl rfl q9.2 ek1 bk1 (by omega) ?_
      replace h := h _ rfl
      generalize xu f 53 k1 (f 74 1) = g6 at h ⊢
      refine w_goto (pc' := 232) rfl rfl ?_
      exact w_return rfl rfl h
    replace h := h.2 hs4
    by_cases hs5 : x1 = 5
    · replace h := h.1 hs5
      refine w_ts (o := 119) (t := 160) rfl (by rw [hs5]; decide) (by rw [hs5]; rfl) rfl ?_
      refine w_aload_n (pc' := 161) rfl rfl rfl ?_
      have q10 : xR0 51 0 = some 52 ∧ xS0 L 52 = (1, 0) := (kf_4_0 (show xS0 L 51 = (4, 0) from rfl))
      refine w_getR (pc' := 164) rfl rfl rfl rfl (show xS0 L 51 = (4, 0) from rfl) q10.1 ?_
      refine w_iload_n (pc' := 165) rfl rfl rfl ?_
      refine w_iload_n (pc' := 166) rfl rfl rfl ?_
      refine w_cv (pc' := 169) (cm := xm_Co_addOrder) (as := [.int (f 74 0), .int (f 74 1)]) (a := 52) (rest := []) rfl rfl rfl  (xa_Co_addOrder (Nat.le_of_ble_eq_true rfl)) q10.2 rfl (CV.k h fun g7 h => ?_)
      show Wp L xs xm_Re_keep 169 [.ref 51, .int x1, .int (f 74 0), .int (f 74 1), .int (f 74 2)] [] g7 _
      refine w_goto (pc' := 232) rfl rfl ?_
      exact w_return rfl rfl h
    replace h := h.2 hs5
    by_cases hs6 : x1 = 6
    · replace h := h.1 hs6
      refine w_ts (o := 131) (t := 172) rfl (by rw [hs6]; decide) (by rw [hs6]; rfl) rfl ?_
      refine w_aload_n (pc' := 173) rfl rfl rfl ?_
      have q11 : xR0 51 0 = some 52 ∧ xS0 L 52 = (1, 0) := (kf_4_0 (show xS0 L 51 = (4, 0) from rfl))
      refine w_getR (pc' := 176) rfl rfl rfl rfl (show xS0 L 51 = (4, 0) from rfl) q11.1 ?_
      have q12 : xR0 52 8 = some 56 ∧ kG L 56 7 := (kf_1_8 q11.2)
      refine w_getR (pc' := 179) rfl rfl rfl rfl q11.2 q12.1 ?_
      refine w_iload_n (pc' := 180) rfl rfl rfl ?_
      obtain ⟨k2, ek2, bk2, h⟩ := h
      have q13 : xR0 56 k2 = some (57 + k2) ∧ xS0 L (57 + k2) = (20, 7) := q12.2.2 k2 bk2
      refine w_aaload (pc' := 181) (i := k2) rfl rfl q12.2.1 (by omega) ek2 bk2 (by omega) q13.1 ?_
      refine w_iload_n (pc' := 182) rfl rfl rfl ?_
      refine w_iload (pc' := 184) rfl rfl rfl ?_
      obtain ⟨k3, ek3, bk3, h⟩ := h
      refine w_iastore (pc' := 185) (i := k3) rfl rfl q13.2 ek3 bk3 (by omega) ?_
      replace h := h _ rfl
      generalize xu f (57 + k2) k3 (f 74 2) = g8 at h ⊢
      refine w_aload_n (pc' := 186) rfl rfl rfl ?_
      have q14 : xR0 51 0 = some 52 ∧ xS0 L 52 = (1, 0) := (kf_4_0 (show xS0 L 51 = (4, 0) from rfl))
      refine w_getR (pc' := 189) rfl rfl rfl rfl (show xS0 L 51 = (4, 0) from rfl) q14.1 ?_
      have q15 : xR0 52 8 = some 56 ∧ kG L 56 7 := (kf_1_8 q14.2)
      refine w_getR (pc' := 192) rfl rfl rfl rfl q14.2 q15.1 ?_
      refine w_iload_n (pc' := 193) rfl rfl rfl ?_
      have q16 : xR0 56 k3 = some (57 + k3) ∧ xS0 L (57 + k3) = (20, 7) := q15.2.2 k3 bk3
      refine w_aaload (pc' := 194) (i := k3) rfl rfl q15.2.1 (by omega) ek3 bk3 (by omega) q16.1 ?_
      refine w_iload_n (pc' := 195) rfl rfl rfl ?_
      refine w_iload (pc' := 197) rfl rfl rfl ?_
      refine w_iastore (pc' := 198) (i := k2) rfl rfl q16.2 ek2 bk2 (by omega) ?_
      replace h := h _ rfl
      generalize xu g8 (57 + k3) k2 (f 74 2) = g9 at h ⊢
      refine w_aload_n (pc' := 199) rfl rfl rfl ?_
      refine w_aload_n (pc' := 200) rfl rfl rfl ?_
      refine w_getI (pc' := 203) rfl rfl rfl rfl rfl (show xS0 L 51 = (4, 0) from rfl) ?_
      refine w_iload_n (pc' := 204) rfl rfl rfl ?_
      refine w_iload_n (pc' := 205) rfl rfl rfl ?_
      refine w_max (pc' := 208) rfl rfl rfl (Nat.le_of_ble_eq_true rfl) ?_
      refine w_max (pc' := 211) rfl rfl rfl (Nat.le_of_ble_eq_true rfl) ?_
      refine w_putI (pc' := 214) rfl rfl rfl rfl (show xS0 L 51 = (4, 0) from rfl) ?_
      replace h := h _ rfl
      generalize xu g9 51 11 (imax (g9 51 11) (imax (f 74 0) (f 74 1))) = g10 at h ⊢
      refine w_goto (pc' := 232) rfl rfl ?_
      exact w_return rfl rfl h
    replace h := h.2 hs6
    refine w_tsd (t := 217) rfl ?_ rfl ?_
    · have z0 : (x1).toInt ≠ 0 := fun e => hs0 (Int32.toInt_inj.mp e); have z1 : (x1).toInt ≠ 1 := fun e => hs1 (Int32.toInt_inj.mp e); have z2 : (x1).toInt ≠ 2 := fun e => hs2 (Int32.toInt_inj.mp e); have z3 : (x1).toInt ≠ 3 := fun e => hs3 (Int32.toInt_inj.mp e); have z4 : (x1).toInt ≠ 4 := fun e => hs4 (Int32.toInt_inj.mp e); have z5 : (x1).toInt ≠ 5 := fun e => hs5 (Int32.toInt_inj.mp e); have z6 : (x1).toInt ≠ 6 := fun e => hs6 (Int32.toInt_inj.mp e); omega
    refine w_aload_n (pc' := 218) rfl rfl rfl ?_
    have q17 : xR0 51 1 = some 64 ∧ xS0 L 64 = (6, 0) := (kf_4_1 (show xS0 L 51 = (4, 0) from rfl))
    refine w_getR (pc' := 221) rfl rfl rfl rfl (show xS0 L 51 = (4, 0) from rfl) q17.1 ?_
    refine w_iload_n (pc' := 222) rfl rfl rfl ?_
    refine w_bipush (pc' := 224) rfl rfl (v := 7) rfl ?_
    refine w_isub (pc' := 225) rfl rfl ?_
    refine w_iload_n (pc' := 226) rfl rfl rfl ?_
    refine w_iload_n (pc' := 227) rfl rfl rfl ?_
    refine w_iload (pc' := 229) rfl rfl rfl ?_
    refine w_cv (pc' := 232) (cm := xm_Ru_add) (as := [.int (x1 - 7), .int (f 74 0), .int (f 74 1), .int (f 74 2)]) (a := 64) (rest := []) rfl rfl rfl  (xa_Ru_add (Nat.le_of_ble_eq_true rfl)) q17.2 rfl (CV.k h fun g11 h => ?_)
    show Wp L xs xm_Re_keep 232 [.ref 51, .int x1, .int (f 74 0), .int (f 74 1), .int (f 74 2)] [] g11 _
    exact w_return rfl rfl h
  · replace h := h.1 (Classical.not_not.mp hc)
    refine w_aload_n (pc' := 29) rfl rfl rfl ?_
    have q18 : xR0 51 2 = some 69 ∧ xS0 L 69 = (5, 0) := (kf_4_2 (show xS0 L 51 = (4, 0) from rfl))
    refine w_getR (pc' := 32) rfl rfl rfl rfl (show xS0 L 51 = (4, 0) from rfl) q18.1 ?_
    refine w_iload_n (pc' := 33) rfl rfl rfl ?_
    refine w_iload_n (pc' := 34) rfl rfl rfl ?_
    refine w_iload (pc' := 36) rfl rfl rfl ?_
    refine w_cv (pc' := 39) (cm := xm_Rp_add) (as := [.int (f 74 0), .int (f 74 1), .int (f 74 2)]) (a := 69) (rest := []) rfl rfl rfl  (xa_Rp_add (Nat.le_of_ble_eq_true rfl)) q18.2 rfl (CV.k h fun g12 h => ?_)
    show Wp L xs xm_Re_keep 39 [.ref 51, .int x1, .int (f 74 0), .int (f 74 1), .int (f 74 2)] [] g12 _
    exact w_return rfl rfl h
