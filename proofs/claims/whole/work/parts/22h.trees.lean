/-! TREES (printed by wip/whole/gen7.py): what must hold at a label of a method -/
theorem t_Mo_does_0 {L : Nat} {xs : Nat → Int32} {x1 : Int32} {x2 : Int32} {x3 : Int32} {x4 : Int32} {f : Hp} {Q : Int32 → Hp → Prop}  (h : CI L xs xm_Mo_isMember [.ref 400, .int x2] f (fun v1 g1 => ((v1 = 0 → Q 0 g1) ∧ (¬ v1 = 0 → ((x1 = 1 → Wp L xs xm_Mo_does 35 [.ref 400, .int x1, .int x2, .int x3, .int x4, .retAddr 0] [.int 1] g1 (QI Q)) ∧ (¬ x1 = 1 → ((x1 = 2 → Wp L xs xm_Mo_does 35 [.ref 400, .int x1, .int x2, .int x3, .int x4, .retAddr 0] [.int 1] g1 (QI Q)) ∧ (¬ x1 = 2 → ((x1 = 4 → Wp L xs xm_Mo_does 35 [.ref 400, .int x1, .int x2, .int x3, .int x4, .retAddr 0] [.int 1] g1 (QI Q)) ∧ (¬ x1 = 4 → ((x1 = 5 → Wp L xs xm_Mo_does 35 [.ref 400, .int x1, .int x2, .int x3, .int x4, .retAddr 0] [.int 1] g1 (QI Q)) ∧ (¬ x1 = 5 → Wp L xs xm_Mo_does 35 [.ref 400, .int x1, .int x2, .int x3, .int x4, .retAddr 0] [.int 0] g1 (QI Q))))))))))))) : CI L xs xm_Mo_does [.ref 400, .int x1, .int x2, .int x3, .int x4] f Q := by
  show Wp L xs xm_Mo_does 0 [.ref 400, .int x1, .int x2, .int x3, .int x4, .retAddr 0] [] f (QI Q)
  refine w_aload_n (pc' := 1) rfl rfl rfl ?_
  refine w_iload_n (pc' := 2) rfl rfl rfl ?_
  refine w_cv (pc' := 5) (cm := xm_Mo_isMember) (as := [.int x2]) (a := 400) (rest := []) rfl rfl rfl  (xa_Mo_isMember (Nat.le_of_ble_eq_true rfl)) (show xS0 L 400 = (12, 0) from rfl) rfl (CI.k h fun v1 g1 h => ?_)
  show Wp L xs xm_Mo_does 5 [.ref 400, .int x1, .int x2, .int x3, .int x4, .retAddr 0] [.int v1] g1 _
  refine w_br (pc' := 8) (t := 10) rfl rfl rfl ic_ne (fun hc => ?_) (fun hc => ?_)
  · replace h := h.2 hc
    refine w_iload_n (pc' := 11) rfl rfl rfl ?_
    refine w_iconst (pc' := 12) rfl rfl (v := 1) rfl ?_
    refine w_br2 (pc' := 15) (t := 30) rfl rfl rfl ic_eq (fun hc => ?_) (fun hc => ?_)
    · replace h := h.1 hc
      refine w_iconst (pc' := 31) rfl rfl (v := 1) rfl ?_
      refine w_goto (pc' := 35) rfl rfl ?_
      exact h
    · replace h := h.2 hc
      refine w_iload_n (pc' := 16) rfl rfl rfl ?_
      refine w_iconst (pc' := 17) rfl rfl (v := 2) rfl ?_
      refine w_br2 (pc' := 20) (t := 30) rfl rfl rfl ic_eq (fun hc => ?_) (fun hc => ?_)
      · replace h := h.1 hc
        refine w_iconst (pc' := 31) rfl rfl (v := 1) rfl ?_
        refine w_goto (pc' := 35) rfl rfl ?_
        exact h
      · replace h := h.2 hc
        refine w_iload_n (pc' := 21) rfl rfl rfl ?_
        refine w_iconst (pc' := 22) rfl rfl (v := 4) rfl ?_
        refine w_br2 (pc' := 25) (t := 30) rfl rfl rfl ic_eq (fun hc => ?_) (fun hc => ?_)
        · replace h := h.1 hc
          refine w_iconst (pc' := 31) rfl rfl (v := 1) rfl ?_
          refine w_goto (pc' := 35) rfl rfl ?_
          exact h
        · replace h := h.2 hc
          refine w_iload_n (pc' := 26) rfl rfl rfl ?_
          refine w_iconst (pc' := 27) rfl rfl (v := 5) rfl ?_
          refine w_br2 (pc' := 30) (t := 34) rfl rfl rfl ic_ne (fun hc => ?_) (fun hc => ?_)
          · replace h := h.2 hc
            refine w_iconst (pc' := 35) rfl rfl (v := 0) rfl ?_
            exact h
          · replace h := h.1 (Classical.not_not.mp hc)
            refine w_iconst (pc' := 31) rfl rfl (v := 1) rfl ?_
            refine w_goto (pc' := 35) rfl rfl ?_
            exact h
  · replace h := h.1 (Classical.not_not.mp hc)
    refine w_iconst (pc' := 9) rfl rfl (v := 0) rfl ?_
    exact w_ireturn rfl rfl h
theorem t_Mo_does_35 {L : Nat} {xs : Nat → Int32} {x1 : Int32} {x2 : Int32} {x3 : Int32} {x4 : Int32} {s0 : Int32} {f : Hp} {Q : Int32 → Hp → Prop}  (h : ((s0 = 0 → Wp L xs xm_Mo_does 57 [.ref 400, .int x1, .int x2, .int x3, .int x4, .int s0] [] f (QI Q)) ∧ (¬ s0 = 0 → CI L xs xm_Mo_isMember [.ref 400, .int x3] f (fun v1 g1 => ((v1 = 0 → Q 0 g1) ∧ (¬ v1 = 0 → ((x2 = x3 → Q 0 g1) ∧ (¬ x2 = x3 → Wp L xs xm_Mo_does 57 [.ref 400, .int x1, .int x2, .int x3, .int x4, .int s0] [] g1 (QI Q))))))))) : Wp L xs xm_Mo_does 35 [.ref 400, .int x1, .int x2, .int x3, .int x4, .retAddr 0] [.int s0] f (QI Q) := by
  refine w_istore (pc' := 37) rfl rfl (xl' := [.ref 400, .int x1, .int x2, .int x3, .int x4, .int s0]) rfl ?_
  refine w_iload (pc' := 39) rfl rfl rfl ?_
  refine w_br (pc' := 42) (t := 57) rfl rfl rfl ic_eq (fun hc => ?_) (fun hc => ?_)
  · replace h := h.1 hc
    exact h
  · replace h := h.2 hc
    refine w_aload_n (pc' := 43) rfl rfl rfl ?_
    refine w_iload_n (pc' := 44) rfl rfl rfl ?_
    refine w_cv (pc' := 47) (cm := xm_Mo_isMember) (as := [.int x3]) (a := 400) (rest := []) rfl rfl rfl  (xa_Mo_isMember (Nat.le_of_ble_eq_true rfl)) (show xS0 L 400 = (12, 0) from rfl) rfl (CI.k h fun v1 g1 h => ?_)
    show Wp L xs xm_Mo_does 47 [.ref 400, .int x1, .int x2, .int x3, .int x4, .int s0] [.int v1] g1 _
    refine w_br (pc' := 50) (t := 55) rfl rfl rfl ic_eq (fun hc => ?_) (fun hc => ?_)
    · replace h := h.1 hc
      refine w_iconst (pc' := 56) rfl rfl (v := 0) rfl ?_
      exact w_ireturn rfl rfl h
    · replace h := h.2 hc
      refine w_iload_n (pc' := 51) rfl rfl rfl ?_
      refine w_iload_n (pc' := 52) rfl rfl rfl ?_
      refine w_br2 (pc' := 55) (t := 57) rfl rfl rfl ic_ne (fun hc => ?_) (fun hc => ?_)
      · replace h := h.2 hc
        exact h
      · replace h := h.1 (Classical.not_not.mp hc)
        refine w_iconst (pc' := 56) rfl rfl (v := 0) rfl ?_
        exact w_ireturn rfl rfl h
theorem t_Mo_does_57 {L : Nat} {xs : Nat → Int32} {x1 : Int32} {x2 : Int32} {x3 : Int32} {x4 : Int32} {x5 : Int32} {f : Hp} {Q : Int32 → Hp → Prop}  (h : ((x1 = 0 → CI L xs xm_Mo_proposes [.ref 400, .int x2, .int x3, .int x4] f (fun v1 g1 => (v1 = 0 ∨ v1 = 1) ∧ Q v1 g1)) ∧ (¬ x1 = 0 → ((x1 = 1 → ((x1 = 2 → CI L xs xm_Mo_words [.ref 400, .int x2, .int x3, .int x4, .int 1] f (fun v3 g3 => (v3 = 0 ∨ v3 = 1) ∧ Q v3 g3)) ∧ (¬ x1 = 2 → CI L xs xm_Mo_words [.ref 400, .int x2, .int x3, .int x4, .int 0] f (fun v2 g2 => (v2 = 0 ∨ v2 = 1) ∧ Q v2 g2)))) ∧ (¬ x1 = 1 → ((x1 = 2 → ((x1 = 2 → CI L xs xm_Mo_words [.ref 400, .int x2, .int x3, .int x4, .int 1] f (fun v5 g5 => (v5 = 0 ∨ v5 = 1) ∧ Q v5 g5)) ∧ (¬ x1 = 2 → CI L xs xm_Mo_words [.ref 400, .int x2, .int x3, .int x4, .int 0] f (fun v4 g4 => (v4 = 0 ∨ v4 = 1) ∧ Q v4 g4)))) ∧ (¬ x1 = 2 → ((x1 = 3 → CI L xs xm_Mo_runsOn [.ref 400, .int x2] f (fun v6 g6 => (v6 = 0 ∨ v6 = 1) ∧ Q v6 g6)) ∧ (¬ x1 = 3 → ((x1 = 4 → CI L xs xm_Mo_marks [.ref 400, .int x2, .int x3] f (fun v7 g7 => (v7 = 0 ∨ v7 = 1) ∧ Q v7 g7)) ∧ (¬ x1 = 4 → ((x1 = 5 → CI L xs xm_Mo_fetches [.ref 400, .int x2, .int x3] f (fun v8 g8 => (v8 = 0 ∨ v8 = 1) ∧ Q v8 g8)) ∧ (¬ x1 = 5 → ((x1 = 6 → CI L xs xm_Mo_doubts [.ref 400, .int x2] f (fun v9 g9 => (v9 = 0 ∨ v9 = 1) ∧ Q v9 g9)) ∧ (¬ x1 = 6 → ((x1 = 7 → CI L xs xm_Mo_makes [.ref 400, .int x2] f (fun v10 g10 => (v10 = 0 ∨ v10 = 1) ∧ Q v10 g10)) ∧ (¬ x1 = 7 → CI L xs xm_Mo_entersAlone [.ref 400, .int x2] f (fun v11 g11 => (v11 = 0 ∨ v11 = 1) ∧ Q v11 g11)))))))))))))))))) : Wp L xs xm_Mo_does 57 [.ref 400, .int x1, .int x2, .int x3, .int x4, .int x5] [] f (QI Q) := by
  refine w_iload_n (pc' := 58) rfl rfl rfl ?_
  by_cases hs0 : x1 = 0
  · replace h := h.1 hs0
    refine w_ts (o := 46) (t := 104) rfl (by rw [hs0]; decide) (by rw [hs0]; rfl) rfl ?_
    refine w_aload_n (pc' := 105) rfl rfl rfl ?_
    refine w_iload_n (pc' := 106) rfl rfl rfl ?_
    refine w_iload_n (pc' := 107) rfl rfl rfl ?_
    refine w_iload (pc' := 109) rfl rfl rfl ?_
    refine w_cv (pc' := 112) (cm := xm_Mo_proposes) (as := [.int x2, .int x3, .int x4]) (a := 400) (rest := []) rfl rfl rfl  (xa_Mo_proposes (Nat.le_of_ble_eq_true rfl)) (show xS0 L 400 = (12, 0) from rfl) rfl (CI.k h fun v1 g1 h => ?_)
    show Wp L xs xm_Mo_does 112 [.ref 400, .int x1, .int x2, .int x3, .int x4, .int x5] [.int v1] g1 _
    obtain ⟨q1, h⟩ := h
    exact w_ireturn rfl (xr_bool rfl q1) h
  replace h := h.2 hs0
  by_cases hs1 : x1 = 1
  · replace h := h.1 hs1
    refine w_ts (o := 55) (t := 113) rfl (by rw [hs1]; decide) (by rw [hs1]; rfl) rfl ?_
    refine w_aload_n (pc' := 114) rfl rfl rfl ?_
    refine w_iload_n (pc' := 115) rfl rfl rfl ?_
    refine w_iload_n (pc' := 116) rfl rfl rfl ?_
    refine w_iload (pc' := 118) rfl rfl rfl ?_
    refine w_iload_n (pc' := 119) rfl rfl rfl ?_
    refine w_iconst (pc' := 120) rfl rfl (v := 2) rfl ?_
    refine w_br2 (pc' := 123) (t := 127) rfl rfl rfl ic_ne (fun hc => ?_) (fun hc => ?_)
    · replace h := h.2 hc
      refine w_iconst (pc' := 128) rfl rfl (v := 0) rfl ?_
      refine w_cv (pc' := 131) (cm := xm_Mo_words) (as := [.int x2, .int x3, .int x4, .int 0]) (a := 400) (rest := []) rfl rfl rfl  (xa_Mo_words (Nat.le_of_ble_eq_true rfl)) (show xS0 L 400 = (12, 0) from rfl) rfl (CI.k h fun v2 g2 h => ?_)
      show Wp L xs xm_Mo_does 131 [.ref 400, .int x1, .int x2, .int x3, .int x4, .int x5] [.int v2] g2 _
      obtain ⟨q2, h⟩ := h
      exact w_ireturn rfl (xr_bool rfl q2) h
    · replace h := h.1 (Classical.not_not.mp hc)
      refine w_iconst (pc' := 124) rfl rfl (v := 1) rfl ?_
      refine w_goto (pc' := 128) rfl rfl ?_
      refine w_cv (pc' := 131) (cm := xm_Mo_words) (as := [.int x2, .int x3, .int x4, .int 1]) (a := 400) (rest := []) rfl rfl rfl  (xa_Mo_words (Nat.le_of_ble_eq_true rfl)) (show xS0 L 400 = (12, 0) from rfl) rfl (CI.k h fun v3 g3 h => ?_)
      show Wp L xs xm_Mo_does 131 [.ref 400, .int x1, .int x2, .int x3, .int x4, .int x5] [.int v3] g3 _
      obtain ⟨q3, h⟩ := h
      exact w_ireturn rfl (xr_bool rfl q3) h
  replace h := h.2 hs1
  by_cases hs2 : x1 = 2
  · replace h := h.1 hs2
    refine w_ts (o := 55) (t := 113) rfl (by rw [hs2]; decide) (by rw [hs2]; rfl) rfl ?_
    refine w_aload_n (pc' := 114) rfl rfl rfl ?_
    refine w_iload_n (pc' := 115) rfl rfl rfl ?_
    refine w_iload_n (pc' := 116) rfl rfl rfl ?_
    refine w_iload (pc' := 118) rfl rfl rfl ?_
    refine w_iload_n (pc' := 119) rfl rfl rfl ?_
    refine w_iconst (pc' := 120) rfl rfl (v := 2) rfl ?_
    refine w_br2 (pc' := 123) (t := 127) rfl rfl rfl ic_ne (fun hc => ?_) (fun hc => ?_)
    · replace h := h.2 hc
      refine w_iconst (pc' := 128) rfl rfl (v := 0) rfl ?_
      refine w_cv (pc' := 131) (cm := xm_Mo_words) (as := [.int x2, .int x3, .int x4, .int 0]) (a := 400) (rest := []) rfl rfl rfl  (xa_Mo_words (Nat.le_of_ble_eq_true rfl)) (show xS0 L 400 = (12, 0) from rfl) rfl (CI.k h fun v4 g4 h => ?_)
      show Wp L xs xm_Mo_does 131 [.ref 400, .int x1, .int x2, .int x3, .int x4, .int x5] [.int v4] g4 _
      obtain ⟨q4, h⟩ := h
      exact w_ireturn rfl (xr_bool rfl q4) h
    · replace h := h.1 (Classical.not_not.mp hc)
      refine w_iconst (pc' := 124) rfl rfl (v := 1) rfl ?_
      refine w_goto (pc' := 128) rfl rfl ?_
      refine w_cv (pc' := 131) (cm := xm_Mo_words) (as := [.int x2, .int x3, .int x4, .int 1]) (a := 400) (rest := []) rfl rfl rfl  (xa_Mo_words (Nat.le_of_ble_eq_true rfl)) (show xS0 L 400 = (12, 0) from rfl) rfl (CI.k h fun v5 g5 h => ?_)
      show Wp L xs xm_Mo_does 131 [.ref 400, .int x1, .int x2, .int x3, .int x4, .int x5] [.int v5] g5 _
      obtain ⟨q5, h⟩ := h
      exact w_ireturn rfl (xr_bool rfl q5) h
  replace h := h.2 hs2
  by_cases hs3 : x1 = 3
  · replace h := h.1 hs3
    refine w_ts (o := 74) (t := 132) rfl (by rw [hs3]; decide) (by rw [hs3]; rfl) rfl ?_
    refine w_aload_n (pc' := 133) rfl rfl rfl ?_
    refine w_iload_n (pc' := 134) rfl rfl rfl ?_
    refine w_cv (pc' := 137) (cm := xm_Mo_runsOn) (as := [.int x2]) (a := 400) (rest := []) rfl rfl rfl  (xa_Mo_runsOn (Nat.le_of_ble_eq_true rfl)) (show xS0 L 400 = (12, 0) from rfl) rfl (CI.k h fun v6 g6 h => ?_)
    show Wp L xs xm_Mo_does 137 [.ref 400, .int x1, .int x2, .int x3, .int x4, .int x5] [.int v6] g6 _
    obtain ⟨q6, h⟩ := h
    exact w_ireturn rfl (xr_bool rfl q6) h
  replace h := h.2 hs3
  by_cases hs4 : x1 = 4
  · replace h := h.1 hs4
    refine w_ts (o := 80) (t := 138) rfl (by rw [hs4]; decide) (by rw [hs4]; rfl) rfl ?_
    refine w_aload_n (pc' := 139) rfl rfl rfl ?_
    refine w_iload_n (pc' := 140) rfl rfl rfl ?_
    refine w_iload_n (pc' := 141) rfl rfl rfl ?_
    refine w_cv (pc' := 144) (cm := xm_Mo_marks) (as := [.int x2, .int x3]) (a := 400) (rest := []) rfl rfl rfl  (xa_Mo_marks (Nat.le_of_ble_eq_true rfl)) (show xS0 L 400 = (12, 0) from rfl) rfl (CI.k h fun v7 g7 h => ?_)
    show Wp L xs xm_Mo_does 144 [.ref 400, .int x1, .int x2, .int x3, .int x4, .int x5] [.int v7] g7 _
    obtain ⟨q7, h⟩ := h
    exact w_ireturn rfl (xr_bool rfl q7) h
  replace h := h.2 hs4
  by_cases hs5 : x1 = 5
  · replace h := h.1 hs5
    refine w_ts (o := 87) (t := 145) rfl (by rw [hs5]; decide) (by rw [hs5]; rfl) rfl ?_
    refine w_aload_n (pc' := 146) rfl rfl rfl ?_
    refine w_iload_n (pc' := 147) rfl rfl rfl ?_
    refine w_iload_n (pc' := 148) rfl rfl rfl ?_
    refine w_cv (pc' := 151) (cm := xm_Mo_fetches) (as := [.int x2, .int x3]) (a := 400) (rest := []) rfl rfl rfl  (xa_Mo_fetches (Nat.le_of_ble_eq_true rfl)) (show xS0 L 400 = (12, 0) from rfl) rfl (CI.k h fun v8 g8 h => ?_)
    show Wp L xs xm_Mo_does 151 [.ref 400, .int x1, .int x2, .int x3, .int x4, .int x5] [.int v8] g8 _
    obtain ⟨q8, h⟩ := h
    exact w_ireturn rfl (xr_bool rfl q8) h
  replace h := h.2 hs5
  by_cases hs6 : x1 = 6
  · replace h := h.1 hs6
    refine w_ts (o := 94) (t := 152) rfl (by rw [hs6]; decide) (by rw [hs6]; rfl) rfl ?_
    refine w_aload_n (pc' := 153) rfl rfl rfl ?_
    refine w_iload_n (pc' := 154) rfl rfl rfl ?_
    refine w_cv (pc' := 157) (cm := xm_Mo_doubts) (as := [.int x2]) (a := 400) (rest := []) rfl rfl rfl  (xa_Mo_doubts (Nat.le_of_ble_eq_true rfl)) (show xS0 L 400 = (12, 0) from rfl) rfl (CI.k h fun v9 g9 h => ?_)
    show Wp L xs xm_Mo_does 157 [.ref 400, .int x1, .int x2, .int x3, .int x4, .int x5] [.int v9] g9 _
    obtain ⟨q9, h⟩ := h
    exact w_ireturn rfl (xr_bool rfl q9) h
  replace h := h.2 hs6
  by_cases hs7 : x1 = 7
  · replace h := h.1 hs7
    refine w_ts (o := 100) (t := 158) rfl (by rw [hs7]; decide) (by rw [hs7]; rfl) rfl ?_
    refine w_aload_n (pc' := 159) rfl rfl rfl ?_
    refine w_iload_n (pc' := 160) rfl rfl rfl ?_
    refine w_cv (pc' := 163) (cm := xm_Mo_makes) (as := [.int x2]) (a := 400) (rest := []) rfl rfl rfl  (xa_Mo_makes (Nat.le_of_ble_eq_true rfl)) (show xS0 L 400 = (12, 0) from rfl) rfl (CI.k h fun v10 g10 h => ?_)
    show Wp L xs xm_Mo_does 163 [.ref 400, .int x1, .int x2, .int x3, .int x4, .int x5] [.int v10] g10 _
    obtain ⟨q10, h⟩ := h
    exact w_ireturn rfl (xr_bool rfl q10) h
  replace h := h.2 hs7
  refine w_tsd (t := 164) rfl ?_ rfl ?_
  · have z0 : (x1).toInt ≠ 0 := fun e => hs0 (Int32.toInt_inj.mp e); have z1 : (x1).toInt ≠ 1 := fun e => hs1 (Int32.toInt_inj.mp e); have z2 : (x1).toInt ≠ 2 := fun e => hs2 (Int32.toInt_inj.mp e); have z3 : (x1).toInt ≠ 3 := fun e => hs3 (Int32.toInt_inj.mp e); have z4 : (x1).toInt ≠ 4 := fun e => hs4 (Int32.toInt_inj.mp e); have z5 : (x1).toInt ≠ 5 := fun e => hs5 (Int32.toInt_inj.mp e); have z6 : (x1).toInt ≠ 6 := fun e => hs6 (Int32.toInt_inj.mp e); have z7 : (x1).toInt ≠ 7 := fun e => hs7 (Int32.toInt_inj.mp e); omega
  refine w_aload_n (pc' := 165) rfl rfl rfl ?_
  refine w_iload_n (pc' := 166) rfl rfl rfl ?_
  refine w_cv (pc' := 169) (cm := xm_Mo_entersAlone) (as := [.int x2]) (a := 400) (rest := []) rfl rfl rfl  (xa_Mo_entersAlone (Nat.le_of_ble_eq_true rfl)) (show xS0 L 400 = (12, 0) from rfl) rfl (CI.k h fun v11 g11 h => ?_)
  show Wp L xs xm_Mo_does 169 [.ref 400, .int x1, .int x2, .int x3, .int x4, .int x5] [.int v11] g11 _
  obtain ⟨q11, h⟩ := h
  exact w_ireturn rfl (xr_bool rfl q11) h
theorem t_Mo_proposes_0 {L : Nat} {xs : Nat → Int32} {x1 : Int32} {x2 : Int32} {x3 : Int32} {f : Hp} {Q : Int32 → Hp → Prop}  (h : CI L xs xm_Mo_isLiar [.ref 400, .int x1] f (fun v1 g1 => ((v1 = 0 → ∃ k1 : Nat, x1 = iN k1 ∧ k1 < 7 ∧ (((g1 407 k1) = 0 → Q 0 g1) ∧ (¬ (g1 407 k1) = 0 → ((x3 < (g1 400 18) → CI L xs xm_Mo_isWithin [.ref 400, .int x1, .int x2] g1 (fun v2 g2 => ((v2 = 0 → Q 0 g2) ∧ (¬ v2 = 0 → CI L xs xm_Mo_at [.int x1, .int x2] g2 (fun v3 g3 => ∃ k2 : Nat, v3 = iN k2 ∧ k2 < 91 ∧ (((g3 414 k2) = (-1) → CI L xs xm_Mo_primaryOf [.ref 400, .int x1] g3 (fun v4 g4 => ((v4 = x1 → CV L xs xm_Mo_accepts [.ref 400, .int x1, .int x2, .int x3] g4 (fun g5 => Q 1 g5)) ∧ (¬ v4 = x1 → CI L xs xm_Mo_isLiar [.ref 400, .int v4] g4 (fun v5 g6 => ((v5 = 0 → ∃ k3 : Nat, v4 = iN k3 ∧ k3 < 7 ∧ (((g6 407 k3) = 0 → Q 0 g6) ∧ (¬ (g6 407 k3) = 0 → (((g6 406 k3) = (g6 406 k1) → CI L xs xm_Mo_at [.int v4, .int x2] g6 (fun v6 g8 => ∃ k4 : Nat, v6 = iN k4 ∧ k4 < 91 ∧ (((g8 414 k4) = x3 → CV L xs xm_Mo_accepts [.ref 400, .int x1, .int x2, .int x3] g8 (fun g9 => Q 1 g9)) ∧ (¬ (g8 414 k4) = x3 → Q 0 g8)))) ∧ (¬ (g6 406 k3) = (g6 406 k1) → Q 0 g6))))) ∧ (¬ v5 = 0 → CV L xs xm_Mo_accepts [.ref 400, .int x1, .int x2, .int x3] g6 (fun g7 => Q 1 g7)))))))) ∧ (¬ (g3 414 k2) = (-1) → Q 0 g3))))))) ∧ (¬ x3 < (g1 400 18) → Q 0 g1))))) ∧ (¬ v1 = 0 → Q 0 g1)))) : CI L xs xm_Mo_proposes [.ref 400, .int x1, .int x2, .int x3] f Q := by
  show Wp L xs xm_Mo_proposes 0 [.ref 400, .int x1, .int x2, .int x3, .retAddr 0] [] f (QI Q)
  refine w_aload_n (pc' := 1) rfl rfl rfl ?_
  refine w_iload_n (pc' := 2) rfl rfl rfl ?_
  refine w_cv (pc' := 5) (cm := xm_Mo_isLiar) (as := [.int x1]) (a := 400) (rest := []) rfl rfl rfl  (xa_Mo_isLiar (Nat.le_of_ble_eq_true rfl)) (show xS0 L 400 = (12, 0) from rfl) rfl (CI.k h fun v1 g1 h => ?_)
  show Wp L xs xm_Mo_proposes 5 [.ref 400, .int x1, .int x2, .int x3, .retAddr 0] [.int v1] g1 _
  refine w_br (pc' := 8) (t := 48) rfl rfl rfl ic_ne (fun hc => ?_) (fun hc => ?_)
  · replace h := h.2 hc
    refine w_iconst (pc' := 49) rfl rfl (v := 0) rfl ?_
    exact w_ireturn rfl rfl h
  · replace h := h.1 (Classical.not_not.mp hc)
    refine w_aload_n (pc' := 9) rfl rfl rfl ?_
    have q1 : xR0 400 24 = some 407 ∧ xS0 L 407 = (22, 7) := (kf_12_24 (show xS0 L 400 = (12, 0) from rfl))
    refine w_getR (pc' := 12) rfl rfl rfl rfl (show xS0 L 400 = (12, 0) from rfl) q1.1 ?_
    refine w_iload_n (pc' := 13) rfl rfl rfl ?_
    obtain ⟨k1, ek1, bk1, h⟩ := h
    refine w_baload (pc' := 14) (i := k1) rfl rfl q1.2 (Or.inr rfl) ek1 bk1 (by omega) ?_
    refine w_br (pc' := 17) (t := 48) rfl rfl rfl ic_eq (fun hc => ?_) (fun hc => ?_)
    · replace h := h.1 hc
      refine w_iconst (pc' := 49) rfl rfl (v := 0) rfl ?_
      exact w_ireturn rfl rfl h
    · replace h := h.2 hc
      refine w_iload_n (pc' := 18) rfl rfl rfl ?_
      refine w_aload_n (pc' := 19) rfl rfl rfl ?_
      refine w_getI (pc' := 22) rfl rfl rfl rfl rfl (show xS0 L 400 = (12, 0) from rfl) ?_
      refine w_br2 (pc' := 25) (t := 48) rfl rfl rfl ic_ge (fun hc => ?_) (fun hc => ?_)
      · replace h := h.2 hc
        refine w_iconst (pc' := 49) rfl rfl (v := 0) rfl ?_
        exact w_ireturn rfl rfl h
      · replace h := h.1 (Classical.not_not.mp hc)
        refine w_aload_n (pc' := 26) rfl rfl rfl ?_
        refine w_iload_n (pc' := 27) rfl rfl rfl ?_
        refine w_iload_n (pc' := 28) rfl rfl rfl ?_
        refine w_cv (pc' := 31) (cm := xm_Mo_isWithin) (as := [.int x1, .int x2]) (a := 400) (rest := []) rfl rfl rfl  (xa_Mo_isWithin (Nat.le_of_ble_eq_true rfl)) (show xS0 L 400 = (12, 0) from rfl) rfl (CI.k h fun v2 g2 h => ?_)
        show Wp L xs xm_Mo_proposes 31 [.ref 400, .int x1, .int x2, .int x3, .retAddr 0] [.int v2] g2 _
        refine w_br (pc' := 34) (t := 48) rfl rfl rfl ic_eq (fun hc => ?_) (fun hc => ?_)
        · replace h := h.1 hc
          refine w_iconst (pc' := 49) rfl rfl (v := 0) rfl ?_
          exact w_ireturn rfl rfl h
        · replace h := h.2 hc
          refine w_aload_n (pc' := 35) rfl rfl rfl ?_
          have q2 : xR0 400 31 = some 414 ∧ xS0 L 414 = (20, 91) := (kf_12_31 (show xS0 L 400 = (12, 0) from rfl))
          refine w_getR (pc' := 38) rfl rfl rfl rfl (show xS0 L 400 = (12, 0) from rfl) q2.1 ?_
          refine w_iload_n (pc' := 39) rfl rfl rfl ?_
          refine w_iload_n (pc' := 40) rfl rfl rfl ?_
          refine w_cs (pc' := 43) (cm := xm_Mo_at) (as := [.int x1, .int x2]) (rest := [.ref 414]) rfl rfl rfl (Or.inl rfl) (xa_Mo_at (Nat.le_of_ble_eq_true rfl)) (CI.k h fun v3 g3 h => ?_)
          show Wp L xs xm_Mo_proposes 43 [.ref 400, .int x1, .int x2, .int x3, .retAddr 0] [.int v3, .ref 414] g3 _
          obtain ⟨k2, ek2, bk2, h⟩ := h
          refine w_iaload (pc' := 44) (i := k2) rfl rfl q2.2 ek2 bk2 (by omega) ?_
          refine w_iconst (pc' := 45) rfl rfl (v := (-1)) rfl ?_
          refine w_br2 (pc' := 48) (t := 50) rfl rfl rfl ic_eq (fun hc => ?_) (fun hc => ?_)
          · replace h := h.1 hc
            refine w_aload_n (pc' := 51) rfl rfl rfl ?_
            refine w_iload_n (pc' := 52) rfl rfl rfl ?_
            refine w_cv (pc' := 55) (cm := xm_Mo_primaryOf) (as := [.int x1]) (a := 400) (rest := []) rfl rfl rfl  (xa_Mo_primaryOf (Nat.le_of_ble_eq_true rfl)) (show xS0 L 400 = (12, 0) from rfl) rfl (CI.k h fun v4 g4 h => ?_)
            show Wp L xs xm_Mo_proposes 55 [.ref 400, .int x1, .int x2, .int x3, .retAddr 0] [.int v4] g4 _
            refine w_istore (pc' := 57) rfl rfl (xl' := [.ref 400, .int x1, .int x2, .int x3, .int v4]) rfl ?_
            refine w_iload (pc' := 59) rfl rfl rfl ?_
            refine w_iload_n (pc' := 60) rfl rfl rfl ?_
            refine w_br2 (pc' := 63) (t := 115) rfl rfl rfl ic_eq (fun hc => ?_) (fun hc => ?_)
            · replace h := h.1 hc
              refine w_aload_n (pc' := 116) rfl rfl rfl ?_
              refine w_iload_n (pc' := 117) rfl rfl rfl ?_
              refine w_iload_n (pc' := 118) rfl rfl rfl ?_
              refine w_iload_n (pc' := 119) rfl rfl rfl ?_
              refine w_cv (pc' := 122) (cm := xm_Mo_accepts) (as := [.int x1, .int x2, .int x3]) (a := 400) (rest := []) rfl rfl rfl  (xa_Mo_accepts (Nat.le_of_ble_eq_true rfl)) (show xS0 L 400 = (12, 0) from rfl) rfl (CV.k h fun g5 h => ?_)
              show Wp L xs xm_Mo_proposes 122 [.ref 400, .int x1, .int x2, .int x3, .int v4] [] g5 _
              refine w_iconst (pc' := 123) rfl rfl (v := 1) rfl ?_
              exact w_ireturn rfl rfl h
            · replace h := h.2 hc
              refine w_aload_n (pc' := 64) rfl rfl rfl ?_
              refine w_iload (pc' := 66) rfl rfl rfl ?_
              refine w_cv (pc' := 69) (cm := xm_Mo_isLiar) (as := [.int v4]) (a := 400) (rest := []) rfl rfl rfl  (xa_Mo_isLiar (Nat.le_of_ble_eq_true rfl)) (show xS0 L 400 = (12, 0) from rfl) rfl (CI.k h fun v5 g6 h => ?_)
              show Wp L xs xm_Mo_proposes 69 [.ref 400, .int x1, .int x2, .int x3, .int v4] [.int v5] g6 _
              refine w_br (pc' := 72) (t := 115) rfl rfl rfl ic_ne (fun hc => ?_) (fun hc => ?_)
              · replace h := h.2 hc
                refine w_aload_n (pc' := 116) rfl rfl rfl ?_
                refine w_iload_n (pc' := 117) rfl rfl rfl ?_
                refine w_iload_n (pc' := 118) rfl rfl rfl ?_
                refine w_iload_n (pc' := 119) rfl rfl rfl ?_
                refine w_cv (pc' := 122) (cm := xm_Mo_accepts) (as := [.int x1, .int x2, .int x3]) (a := 400) (rest := []) rfl rfl rfl  (xa_Mo_accepts (Nat.le_of_ble_eq_true rfl)) (show xS0 L 400 = (12, 0) from rfl) rfl (CV.k h fun g7 h => ?_)
                show Wp L xs xm_Mo_proposes 122 [.ref 400, .int x1, .int x2, .int x3, .int v4] [] g7 _
                refine w_iconst (pc' := 123) rfl rfl (v := 1) rfl ?_
                exact w_ireturn rfl rfl h
              · replace h := h.1 (Classical.not_not.mp hc)
                refine w_aload_n (pc' := 73) rfl rfl rfl ?_
                have q3 : xR0 400 24 = some 407 ∧ xS0 L 407 = (22, 7) := (kf_12_24 (show xS0 L 400 = (12, 0) from rfl))
                refine w_getR (pc' := 76) rfl rfl rfl rfl (show xS0 L 400 = (12, 0) from rfl) q3.1 ?_
                refine w_iload (pc' := 78) rfl rfl rfl ?_
                obtain ⟨k3, ek3, bk3, h⟩ := h
                refine w_baload (pc' := 79) (i := k3) rfl rfl q3.2 (Or.inr rfl) ek3 bk3 (by omega) ?_
                refine w_br (pc' := 82) (t := 113) rfl rfl rfl ic_eq (fun hc => ?_) (fun hc => ?_)
                · replace h := h.1 hc
                  refine w_iconst (pc' := 114) rfl rfl (v := 0) rfl ?_
                  exact w_ireturn rfl rfl h
                · replace h := h.2 hc
                  refine w_aload_n (pc' := 83) rfl rfl rfl ?_
                  have q4 : xR0 400 23 = some 406 ∧ xS0 L 406 = (20, 7) := (kf_12_23 (show xS0 L 400 = (12, 0) from rfl))
                  refine w_getR (pc' := 86) rfl rfl rfl rfl (show xS0 L 400 = (12, 0) from rfl) q4.1 ?_
                  refine w_iload (pc' := 88) rfl rfl rfl ?_
                  refine w_iaload (pc' := 89) (i := k3) rfl rfl q4.2 ek3 bk3 (by omega) ?_
                  refine w_aload_n (pc' := 90) rfl rfl rfl ?_
                  have q5 : xR0 400 23 = some 406 ∧ xS0 L 406 = (20, 7) := (kf_12_23 (show xS0 L 400 = (12, 0) from rfl))
                  refine w_getR (pc' := 93) rfl rfl rfl rfl (show xS0 L 400 = (12, 0) from rfl) q5.1 ?_
                  refine w_iload_n (pc' := 94) rfl rfl rfl ?_
                  refine w_iaload (pc' := 95) (i := k1) rfl rfl q5.2 ek1 bk1 (by omega) ?_
                  refine w_br2 (pc' := 98) (t := 113) rfl rfl rfl ic_ne (fun hc => ?_) (fun hc => ?_)
                  · replace h := h.2 hc
                    refine w_iconst (pc' := 114) rfl rfl (v := 0) rfl ?_
                    exact w_ireturn rfl rfl h
                  · replace h := h.1 (Classical.not_not.mp hc)
                    refine w_aload_n (pc' := 99) rfl rfl rfl ?_
                    have q6 : xR0 400 31 = some 414 ∧ xS0 L 414 = (20, 91) := (kf_12_31 (show xS0 L 400 = (12, 0) from rfl))
                    refine w_getR (pc' := 102) rfl rfl rfl rfl (show xS0 L 400 = (12, 0) from rfl) q6.1 ?_
                    refine w_iload (pc' := 104) rfl rfl rfl ?_
                    refine w_iload_n (pc' := 105) rfl rfl rfl ?_
                    refine w_cs (pc' := 108) (cm := xm_Mo_at) (as := [.int v4, .int x2]) (rest := [.ref 414]) rfl rfl rfl (Or.inl rfl) (xa_Mo_at (Nat.le_of_ble_eq_true rfl)) (CI.k h fun v6 g8 h => ?_)
                    show Wp L xs xm_Mo_proposes 108 [.ref 400, .int x1, .int x2, .int x3, .int v4] [.int v6, .ref 414] g8 _
                    obtain ⟨k4, ek4, bk4, h⟩ := h
                    refine w_iaload (pc' := 109) (i := k4) rfl rfl q6.2 ek4 bk4 (by omega) ?_
                    refine w_iload_n (pc' := 110) rfl rfl rfl ?_
                    refine w_br2 (pc' := 113) (t := 115) rfl rfl rfl ic_eq (fun hc => ?_) (fun hc => ?_)
                    · replace h := h.1 hc
                      refine w_aload_n (pc' := 116) rfl rfl rfl ?_
                      refine w_iload_n (pc' := 117) rfl rfl rfl ?_
                      refine w_iload_n (pc' := 118) rfl rfl rfl ?_
                      refine w_iload_n (pc' := 119) rfl rfl rfl ?_
                      refine w_cv (pc' := 122) (cm := xm_Mo_accepts) (as := [.int x1, .int x2, .int x3]) (a := 400) (rest := []) rfl rfl rfl  (xa_Mo_accepts (Nat.le_of_ble_eq_true rfl)) (show xS0 L 400 = (12, 0) from rfl) rfl (CV.k h fun g9 h => ?_)
                      show Wp L xs xm_Mo_proposes 122 [.ref 400, .int x1, .int x2, .int x3, .int v4] [] g9 _
                      refine w_iconst (pc' := 123) rfl rfl (v := 1) rfl ?_
                      exact w_ireturn rfl rfl h
                    · replace h := h.2 hc
                      refine w_iconst (pc' := 114) rfl rfl (v := 0) rfl ?_
                      exact w_ireturn rfl rfl h
          · replace h := h.2 hc
            refine w_iconst (pc' := 49) rfl rfl (v := 0) rfl ?_
            exact w_ireturn rfl rfl h
theorem t_Mo_isWithin_0 {L : Nat} {xs : Nat → Int32} {x1 : Int32} {x2 : Int32} {f : Hp} {Q : Int32 → Hp → Prop}  (h : ∃ k1 : Nat, x1 = iN k1 ∧ k1 < 7 ∧ (((f 408 k1) < x2 → ((((f 408 k1) + (f 400 15)) < x2 → Q 0 f) ∧ (¬ ((f 408 k1) + (f 400 15)) < x2 → Q 1 f))) ∧ (¬ (f 408 k1) < x2 → Q 0 f))) : CI L xs xm_Mo_isWithin [.ref 400, .int x1, .int x2] f Q := by
  show Wp L xs xm_Mo_isWithin 0 [.ref 400, .int x1, .int x2] [] f (QI Q)
  refine w_iload_n (pc' := 1) rfl rfl rfl ?_
  refine w_aload_n (pc' := 2) rfl rfl rfl ?_
  have q1 : xR0 400 25 = some 408 ∧ xS0 L 408 = (20, 7) := (kf_12_25 (show xS0 L 400 = (12, 0) from rfl))
  refine w_getR (pc' := 5) rfl rfl rfl rfl (show xS0 L 400 = (12, 0) from rfl) q1.1 ?_
  refine w_iload_n (pc' := 6) rfl rfl rfl ?_
  obtain ⟨k1, ek1, bk1, h⟩ := h
  refine w_iaload (pc' := 7) (i := k1) rfl rfl q1.2 ek1 bk1 (by omega) ?_
  refine w_br2 (pc' := 10) (t := 29) rfl rfl rfl ic_le (fun hc => ?_) (fun hc => ?_)
  · replace h := h.2 hc
    refine w_iconst (pc' := 30) rfl rfl (v := 0) rfl ?_
    exact w_ireturn rfl rfl h
  · replace h := h.1 (Classical.not_not.mp hc)
    refine w_iload_n (pc' := 11) rfl rfl rfl ?_
    refine w_aload_n (pc' := 12) rfl rfl rfl ?_
    have q2 : xR0 400 25 = some 408 ∧ xS0 L 408 = (20, 7) := (kf_12_25 (show xS0 L 400 = (12, 0) from rfl))
    refine w_getR (pc' := 15) rfl rfl rfl rfl (show xS0 L 400 = (12, 0) from rfl) q2.1 ?_
    refine w_iload_n (pc' := 16) rfl rfl rfl ?_
    refine w_iaload (pc' := 17) (i := k1) rfl rfl q2.2 ek1 bk1 (by omega) ?_
    refine w_aload_n (pc' := 18) rfl rfl rfl ?_
    refine w_getI (pc' := 21) rfl rfl rfl rfl rfl (show xS0 L 400 = (12, 0) from rfl) ?_
    refine w_iadd (pc' := 22) rfl rfl ?_
    refine w_br2 (pc' := 25) (t := 29) rfl rfl rfl ic_gt (fun hc => ?_) (fun hc => ?_)
    · replace h := h.1 hc
      refine w_iconst (pc' := 30) rfl rfl (v := 0) rfl ?_
      exact w_ireturn rfl rfl h
    · replace h := h.2 hc
      refine w_iconst (pc' := 26) rfl rfl (v := 1) rfl ?_
      refine w_goto (pc' := 30) rfl rfl ?_
      exact w_ireturn rfl rfl h
theorem t_Mo_at_0 {L : Nat} {xs : Nat → Int32} {x0 : Int32} {x1 : Int32} {f : Hp} {Q : Int32 → Hp → Prop}  (h : Q ((13 * x0) + x1) f) : CI L xs xm_Mo_at [.int x0, .int x1] f Q := by
  show Wp L xs xm_Mo_at 0 [.int x0, .int x1] [] f (QI Q)
  refine w_bipush (pc' := 2) rfl rfl (v := 13) rfl ?_
  refine w_iload_n (pc' := 3) rfl rfl rfl ?_
  refine w_imul (pc' := 4) rfl rfl ?_
  refine w_iload_n (pc' := 5) rfl rfl rfl ?_
  refine w_iadd (pc' := 6) rfl rfl ?_
  exact w_ireturn rfl rfl h
theorem t_Mo_primaryOf_0 {L : Nat} {xs : Nat → Int32} {x1 : Int32} {f : Hp} {Q : Int32 → Hp → Prop}  (h : ∃ k1 : Nat, x1 = iN k1 ∧ k1 < 7 ∧ (f 400 13) ≠ 0 ∧ Q (jrem (f 406 k1) (f 400 13)) f) : CI L xs xm_Mo_primaryOf [.ref 400, .int x1] f Q := by
  show Wp L xs xm_Mo_primaryOf 0 [.ref 400, .int x1] [] f (QI Q)
  refine w_aload_n (pc' := 1) rfl rfl rfl ?_
  have q1 : xR0 400 23 = some 406 ∧ xS0 L 406 = (20, 7) := (kf_12_23 (show xS0 L 400 = (12, 0) from rfl))
  refine w_getR (pc' := 4) rfl rfl rfl rfl (show xS0 L 400 = (12, 0) from rfl) q1.1 ?_
  refine w_iload_n (pc' := 5) rfl rfl rfl ?_
  obtain ⟨k1, ek1, bk1, h⟩ := h
  refine w_iaload (pc' := 6) (i := k1) rfl rfl q1.2 ek1 bk1 (by omega) ?_
  refine w_aload_n (pc' := 7) rfl rfl rfl ?_
  refine w_getI (pc' := 10) rfl rfl rfl rfl rfl (show xS0 L 400 = (12, 0) from rfl) ?_
  obtain ⟨q2, h⟩ := h
  refine w_irem (pc' := 11) rfl rfl q2 ?_
  exact w_ireturn rfl rfl h
theorem t_Mo_accepts_0 {L : Nat} {xs : Nat → Int32} {x1 : Int32} {x2 : Int32} {x3 : Int32} {f : Hp} {Q : Hp → Prop}  (h : CI L xs xm_Mo_at [.int x1, .int x2] f (fun v1 g1 => ∃ k1 : Nat, v1 = iN k1 ∧ k1 < 91 ∧ ∀ g2, g2 = xu g1 414 k1 x3 → CI L xs xm_Mo_at [.int x1, .int x2] g2 (fun v2 g3 => CI L xs xm_Mo_primaryOf [.ref 400, .int x1] g3 (fun v3 g4 => ∃ k2 : Nat, v2 = iN k2 ∧ k2 < 91 ∧ ∀ g5, g5 = xu g4 415 k2 ((1 <<< (x1 &&& 31)) ||| (1 <<< (v3 &&& 31))) → CI L xs xm_Mo_at [.int x1, .int x2] g5 (fun v4 g6 => ∃ k3 : Nat, v4 = iN k3 ∧ k3 < 91 ∧ ∀ g7, g7 = xu g6 416 k3 0 → CV L xs xm_Mo_settles [.ref 400, .int x1, .int x2] g7 (fun g8 => Q g8)))))) : CV L xs xm_Mo_accepts [.ref 400, .int x1, .int x2, .int x3] f Q := by
  show Wp L xs xm_Mo_accepts 0 [.ref 400, .int x1, .int x2, .int x3] [] f (QV Q)
  refine w_aload_n (pc' := 1) rfl rfl rfl ?_
  have q1 : xR0 400 31 = some 414 ∧ xS0 L 414 = (20, 91) := (kf_12_31 (show xS0 L 400 = (12, 0) from rfl))
  refine w_getR (pc' := 4) rfl rfl rfl rfl (show xS0 L 400 = (12, 0) from rfl) q1.1 ?_
  refine w_iload_n (pc' := 5) rfl rfl rfl ?_
  refine w_iload_n (pc' := 6) rfl rfl rfl ?_
  refine w_cs (pc' := 9) (cm := xm_Mo_at) (as := [.int x1, .int x2]) (rest := [.ref 414]) rfl rfl rfl (Or.inl rfl) (xa_Mo_at (Nat.le_of_ble_eq_true rfl)) (CI.k h fun v1 g1 h => ?_)
  show Wp L xs xm_Mo_accepts 9 [.ref 400, .int x1, .int x2, .int x3] [.int v1, .ref 414] g1 _
  refine w_iload_n (pc' := 10) rfl rfl rfl ?_
  obtain ⟨k1, ek1, bk1, h⟩ := h
  refine w_iastore (pc' := 11) (i := k1) rfl rfl q1.2 ek1 bk1 (by omega) ?_
  replace h := h _ rfl
  generalize xu g1 414 k1 x3 = g2 at h ⊢
  refine w_aload_n (pc' := 12) rfl rfl rfl ?_
  have q2 : xR0 400 32 = some 415 ∧ xS0 L 415 = (20, 91) := (kf_12_32 (show xS0 L 400 = (12, 0) from rfl))
  refine w_getR (pc' := 15) rfl rfl rfl rfl (show xS0 L 400 = (12, 0) from rfl) q2.1 ?_
  refine w_iload_n (pc' := 16) rfl rfl rfl ?_
  refine w_iload_n (pc' := 17) rfl rfl rfl ?_
  refine w_cs (pc' := 20) (cm := xm_Mo_at) (as := [.int x1, .int x2]) (rest := [.ref 415]) rfl rfl rfl (Or.inl rfl) (xa_Mo_at (Nat.le_of_ble_eq_true rfl)) (CI.k h fun v2 g3 h => ?_)
  show Wp L xs xm_Mo_accepts 20 [.ref 400, .int x1, .int x2, .int x3] [.int v2, .ref 415] g3 _
  refine w_iconst (pc' := 21) rfl rfl (v := 1) rfl ?_
  refine w_iload_n (pc' := 22) rfl rfl rfl ?_
  refine w_ishl (pc' := 23) rfl rfl ?_
  refine w_iconst (pc' := 24) rfl rfl (v := 1) rfl ?_
  refine w_aload_n (pc' := 25) rfl rfl rfl ?_
  refine w_iload_n (pc' := 26) rfl rfl rfl ?_
  refine w_cv (pc' := 29) (cm := xm_Mo_primaryOf) (as := [.int x1]) (a := 400) (rest := [.int 1, .int (1 <<< (x1 &&& 31)), .int v2, .ref 415]) rfl rfl rfl  (xa_Mo_primaryOf (Nat.le_of_ble_eq_true rfl)) (show xS0 L 400 = (12, 0) from rfl) rfl (CI.k h fun v3 g4 h => ?_)
  show Wp L xs xm_Mo_accepts 29 [.ref 400, .int x1, .int x2, .int x3] [.int v3, .int 1, .int (1 <<< (x1 &&& 31)), .int v2, .ref 415] g4 _
  refine w_ishl (pc' := 30) rfl rfl ?_
  refine w_ior (pc' := 31) rfl rfl ?_
  obtain ⟨k2, ek2, bk2, h⟩ := h
  refine w_iastore (pc' := 32) (i := k2) rfl rfl q2.2 ek2 bk2 (by omega) ?_
  replace h := h _ rfl
  generalize xu g4 415 k2 ((1 <<< (x1 &&& 31)) ||| (1 <<< (v3 &&& 31))) = g5 at h ⊢
  refine w_aload_n (pc' := 33) rfl rfl rfl ?_
  have q3 : xR0 400 33 = some 416 ∧ xS0 L 416 = (20, 91) := (kf_12_33 (show xS0 L 400 = (12, 0) from rfl))
  refine w_getR (pc' := 36) rfl rfl rfl rfl (show xS0 L 400 = (12, 0) from rfl) q3.1 ?_
  refine w_iload_n (pc' := 37) rfl rfl rfl ?_
  refine w_iload_n (pc' := 38) rfl rfl rfl ?_
  refine w_cs (pc' := 41) (cm := xm_Mo_at) (as := [.int x1, .int x2]) (rest := [.ref 416]) rfl rfl rfl (Or.inl rfl) (xa_Mo_at (Nat.le_of_ble_eq_true rfl)) (CI.k h fun v4 g6 h => ?_)
  show Wp L xs xm_Mo_accepts 41 [.ref 400, .int x1, .int x2, .int x3] [.int v4, .ref 416] g6 _
  refine w_iconst (pc' := 42) rfl rfl (v := 0) rfl ?_
  obtain ⟨k3, ek3, bk3, h⟩ := h
  refine w_iastore (pc' := 43) (i := k3) rfl rfl q3.2 ek3 bk3 (by omega) ?_
  replace h := h _ rfl
  generalize xu g6 416 k3 0 = g7 at h ⊢
  refine w_aload_n (pc' := 44) rfl rfl rfl ?_
  refine w_iload_n (pc' := 45) rfl rfl rfl ?_
  refine w_iload_n (pc' := 46) rfl rfl rfl ?_
  refine w_cv (pc' := 49) (cm := xm_Mo_settles) (as := [.int x1, .int x2]) (a := 400) (rest := []) rfl rfl rfl  (xa_Mo_settles (Nat.le_of_ble_eq_true rfl)) (show xS0 L 400 = (12, 0) from rfl) rfl (CV.k h fun g8 h => ?_)
  show Wp L xs xm_Mo_accepts 49 [.ref 400, .int x1, .int x2, .int x3] [] g8 _
  exact w_return rfl rfl h
theorem t_Mo_settles_0 {L : Nat} {xs : Nat → Int32} {x1 : Int32} {x2 : Int32} {f : Hp} {Q : Hp → Prop}  (h : CI L xs xm_Mo_isPrepared [.ref 400, .int x1, .int x2] f (fun v1 g1 => ((v1 = 0 → Q g1) ∧ (¬ v1 = 0 → CI L xs xm_Mo_at [.int x1, .int x2] g1 (fun v2 g2 => ∃ k1 : Nat, x1 = iN k1 ∧ k1 < 7 ∧ ∃ k2 : Nat, v2 = iN k2 ∧ k2 < 91 ∧ ∀ g3, g3 = xu g2 417 k2 (g2 406 k1) → CI L xs xm_Mo_at [.int x1, .int x2] g3 (fun v3 g4 => CI L xs xm_Mo_at [.int x1, .int x2] g4 (fun v4 g5 => ∃ k3 : Nat, v4 = iN k3 ∧ k3 < 91 ∧ ∃ k4 : Nat, v3 = iN k4 ∧ k4 < 91 ∧ ∀ g6, g6 = xu g5 418 k4 (g5 414 k3) → CI L xs xm_Mo_at [.int x1, .int x2] g6 (fun v5 g7 => ∃ k5 : Nat, v5 = iN k5 ∧ k5 < 91 ∧ ∀ g8, g8 = xu g7 416 k5 ((g7 416 k5) ||| (1 <<< (x1 &&& 31))) → Q g8)))))))) : CV L xs xm_Mo_settles [.ref 400, .int x1, .int x2] f Q := by
  show Wp L xs xm_Mo_settles 0 [.ref 400, .int x1, .int x2] [] f (QV Q)
  refine w_aload_n (pc' := 1) rfl rfl rfl ?_
  refine w_iload_n (pc' := 2) rfl rfl rfl ?_
  refine w_iload_n (pc' := 3) rfl rfl rfl ?_
  refine w_cv (pc' := 6) (cm := xm_Mo_isPrepared) (as := [.int x1, .int x2]) (a := 400) (rest := []) rfl rfl rfl  (xa_Mo_isPrepared (Nat.le_of_ble_eq_true rfl)) (show xS0 L 400 = (12, 0) from rfl) rfl (CI.k h fun v1 g1 h => ?_)
  show Wp L xs xm_Mo_settles 6 [.ref 400, .int x1, .int x2] [.int v1] g1 _
  refine w_br (pc' := 9) (t := 10) rfl rfl rfl ic_ne (fun hc => ?_) (fun hc => ?_)
  · replace h := h.2 hc
    refine w_aload_n (pc' := 11) rfl rfl rfl ?_
    have q1 : xR0 400 34 = some 417 ∧ xS0 L 417 = (20, 91) := (kf_12_34 (show xS0 L 400 = (12, 0) from rfl))
    refine w_getR (pc' := 14) rfl rfl rfl rfl (show xS0 L 400 = (12, 0) from rfl) q1.1 ?_
    refine w_iload_n (pc' := 15) rfl rfl rfl ?_
    refine w_iload_n (pc' := 16) rfl rfl rfl ?_
    refine w_cs (pc' := 19) (cm := xm_Mo_at) (as := [.int x1, .int x2]) (rest := [.ref 417]) rfl rfl rfl (Or.inl rfl) (xa_Mo_at (Nat.le_of_ble_eq_true rfl)) (CI.k h fun v2 g2 h => ?_)
    show Wp L xs xm_Mo_settles 19 [.ref 400, .int x1, .int x2] [.int v2, .ref 417] g2 _
    refine w_aload_n (pc' := 20) rfl rfl rfl ?_
    have q2 : xR0 400 23 = some 406 ∧ xS0 L 406 = (20, 7) := (kf_12_23 (show xS0 L 400 = (12, 0) from rfl))
    refine w_getR (pc' := 23) rfl rfl rfl rfl (show xS0 L 400 = (12, 0) from rfl) q2.1 ?_
    refine w_iload_n (pc' := 24) rfl rfl rfl ?_
    obtain ⟨k1, ek1, bk1, h⟩ := h
    refine w_iaload (pc' := 25) (i := k1) rfl rfl q2.2 ek1 bk1 (by omega) ?_
    obtain ⟨k2, ek2, bk2, h⟩ := h
    refine w_iastore (pc' := 26) (i := k2) rfl rfl q1.2 ek2 bk2 (by omega) ?_
    replace h := h _ rfl
    generalize xu g2 417 k2 (g2 406 k1) = g3 at h ⊢
    refine w_aload_n (pc' := 27) rfl rfl rfl ?_
    have q3 : xR0 400 35 = some 418 ∧ xS0 L 418 = (20, 91) := (kf_12_35 (show xS0 L 400 = (12, 0) from rfl))
    refine w_getR (pc' := 30) rfl rfl rfl rfl (show xS0 L 400 = (12, 0) from rfl) q3.1 ?_
    refine w_iload_n (pc' := 31) rfl rfl rfl ?_
    refine w_iload_n (pc' := 32) rfl rfl rfl ?_
    refine w_cs (pc' := 35) (cm := xm_Mo_at) (as := [.int x1, .int x2]) (rest := [.ref 418]) rfl rfl rfl (Or.inl rfl) (xa_Mo_at (Nat.le_of_ble_eq_true rfl)) (CI.k h fun v3 g4 h => ?_)
    show Wp L xs xm_Mo_settles 35 [.ref 400, .int x1, .int x2] [.int v3, .ref 418] g4 _
    refine w_aload_n (pc' := 36) rfl rfl rfl ?_
    have q4 : xR0 400 31 = some 414 ∧ xS0 L 414 = (20, 91) := (kf_12_31 (show xS0 L 400 = (12, 0) from rfl))
    refine w_getR (pc' := 39) rfl rfl rfl rfl (show xS0 L 400 = (12, 0) from rfl) q4.1 ?_
    refine w_iload_n (pc' := 40) rfl rfl rfl ?_
    refine w_iload_n (pc' := 41) rfl rfl rfl ?_
    refine w_cs (pc' := 44) (cm := xm_Mo_at) (as := [.int x1, .int x2]) (rest := [.ref 414, .int v3, .ref 418]) rfl rfl rfl (Or.inl rfl) (xa_Mo_at (Nat.le_of_ble_eq_true rfl)) (CI.k h fun v4 g5 h => ?_)
    show Wp L xs xm_Mo_settles 44 [.ref 400, .int x1, .int x2] [.int v4, .ref 414, .int v3, .ref 418] g5 _
    obtain ⟨k3, ek3, bk3, h⟩ := h
    refine w_iaload (pc' := 45) (i := k3) rfl rfl q4.2 ek3 bk3 (by omega) ?_
    obtain ⟨k4, ek4, bk4, h⟩ := h
    refine w_iastore (pc' := 46) (i := k4) rfl rfl q3.2 ek4 bk4 (by omega) ?_
    replace h := h _ rfl
    generalize xu g5 418 k4 (g5 414 k3) = g6 at h ⊢
    refine w_aload_n (pc' := 47) rfl rfl rfl ?_
    have q5 : xR0 400 33 = some 416 ∧ xS0 L 416 = (20, 91) := (kf_12_33 (show xS0 L 400 = (12, 0) from rfl))
    refine w_getR (pc' := 50) rfl rfl rfl rfl (show xS0 L 400 = (12, 0) from rfl) q5.1 ?_
    refine w_iload_n (pc' := 51) rfl rfl rfl ?_
    refine w_iload_n (pc' := 52) rfl rfl rfl ?_
    refine w_cs (pc' := 55) (cm := xm_Mo_at) (as := [.int x1, .int x2]) (rest := [.ref 416]) rfl rfl rfl (Or.inl rfl) (xa_Mo_at (Nat.le_of_ble_eq_true rfl)) (CI.k h fun v5 g7 h => ?_)
    show Wp L xs xm_Mo_settles 55 [.ref 400, .int x1, .int x2] [.int v5, .ref 416] g7 _
    refine w_dup2 (pc' := 56) rfl rfl ?_
    obtain ⟨k5, ek5, bk5, h⟩ := h
    refine w_iaload (pc' := 57) (i := k5) rfl rfl q5.2 ek5 bk5 (by omega) ?_
    refine w_iconst (pc' := 58) rfl rfl (v := 1) rfl ?_
    refine w_iload_n (pc' := 59) rfl rfl rfl ?_
    refine w_ishl (pc' := 60) rfl rfl ?_
    refine w_ior (pc' := 61) rfl rfl ?_
    refine w_iastore (pc' := 62) (i := k5) rfl rfl q5.2 ek5 bk5 (by omega) ?_
    replace h := h _ rfl
    generalize xu g7 416 k5 ((g7 416 k5) ||| (1 <<< (x1 &&& 31))) = g8 at h ⊢
    exact w_return rfl rfl h
  · replace h := h.1 (Classical.not_not.mp hc)
    exact w_return rfl rfl h
theorem t_Mo_isPrepared_0 {L : Nat} {xs : Nat → Int32} {x1 : Int32} {x2 : Int32} {f : Hp} {Q : Int32 → Hp → Prop}  (h : CI L xs xm_Mo_at [.int x1, .int x2] f (fun v1 g1 => ∃ k1 : Nat, v1 = iN k1 ∧ k1 < 91 ∧ (((g1 414 k1) = (-1) → Q 0 g1) ∧ (¬ (g1 414 k1) = (-1) → CI L xs xm_Mo_at [.int x1, .int x2] g1 (fun v2 g2 => ∃ k2 : Nat, v2 = iN k2 ∧ k2 < 91 ∧ CI L xs xm_Mo_bitsOf [.int (g2 415 k2)] g2 (fun v3 g3 => ((v3 < (g3 400 14) → Q 0 g3) ∧ (¬ v3 < (g3 400 14) → Q 1 g3)))))))) : CI L xs xm_Mo_isPrepared [.ref 400, .int x1, .int x2] f Q := by
  show Wp L xs xm_Mo_isPrepared 0 [.ref 400, .int x1, .int x2] [] f (QI Q)
  refine w_aload_n (pc' := 1) rfl rfl rfl ?_
  have q1 : xR0 400 31 = some 414 ∧ xS0 L 414 = (20, 91) := (kf_12_31 (show xS0 L 400 = (12, 0) from rfl))
  refine w_getR (pc' := 4) rfl rfl rfl rfl (show xS0 L 400 = (12, 0) from rfl) q1.1 ?_
  refine w_iload_n (pc' := 5) rfl rfl rfl ?_
  refine w_iload_n (pc' := 6) rfl rfl rfl ?_
  refine w_cs (pc' := 9) (cm := xm_Mo_at) (as := [.int x1, .int x2]) (rest := [.ref 414]) rfl rfl rfl (Or.inl rfl) (xa_Mo_at (Nat.le_of_ble_eq_true rfl)) (CI.k h fun v1 g1 h => ?_)
  show Wp L xs xm_Mo_isPrepared 9 [.ref 400, .int x1, .int x2] [.int v1, .ref 414] g1 _
  obtain ⟨k1, ek1, bk1, h⟩ := h
  refine w_iaload (pc' := 10) (i := k1) rfl rfl q1.2 ek1 bk1 (by omega) ?_
  refine w_iconst (pc' := 11) rfl rfl (v := (-1)) rfl ?_
  refine w_br2 (pc' := 14) (t := 38) rfl rfl rfl ic_eq (fun hc => ?_) (fun hc => ?_)
  · replace h := h.1 hc
    refine w_iconst (pc' := 39) rfl rfl (v := 0) rfl ?_
    exact w_ireturn rfl rfl h
  · replace h := h.2 hc
    refine w_aload_n (pc' := 15) rfl rfl rfl ?_
    have q2 : xR0 400 32 = some 415 ∧ xS0 L 415 = (20, 91) := (kf_12_32 (show xS0 L 400 = (12, 0) from rfl))
    refine w_getR (pc' := 18) rfl rfl rfl rfl (show xS0 L 400 = (12, 0) from rfl) q2.1 ?_
    refine w_iload_n (pc' := 19) rfl rfl rfl ?_
    refine w_iload_n (pc' := 20) rfl rfl rfl ?_
    refine w_cs (pc' := 23) (cm := xm_Mo_at) (as := [.int x1, .int x2]) (rest := [.ref 415]) rfl rfl rfl (Or.inl rfl) (xa_Mo_at (Nat.le_of_ble_eq_true rfl)) (CI.k h fun v2 g2 h => ?_)
    show Wp L xs xm_Mo_isPrepared 23 [.ref 400, .int x1, .int x2] [.int v2, .ref 415] g2 _
    obtain ⟨k2, ek2, bk2, h⟩ := h
    refine w_iaload (pc' := 24) (i := k2) rfl rfl q2.2 ek2 bk2 (by omega) ?_
    refine w_cs (pc' := 27) (cm := xm_Mo_bitsOf) (as := [.int (g2 415 k2)]) (rest := []) rfl rfl rfl (Or.inl rfl) (xa_Mo_bitsOf (Nat.le_of_ble_eq_true rfl)) (CI.k h fun v3 g3 h => ?_)
    show Wp L xs xm_Mo_isPrepared 27 [.ref 400, .int x1, .int x2] [.int v3] g3 _
    refine w_aload_n (pc' := 28) rfl rfl rfl ?_
    refine w_getI (pc' := 31) rfl rfl rfl rfl rfl (show xS0 L 400 = (12, 0) from rfl) ?_
    refine w_br2 (pc' := 34) (t := 38) rfl rfl rfl ic_lt (fun hc => ?_) (fun hc => ?_)
    · replace h := h.1 hc
      refine w_iconst (pc' := 39) rfl rfl (v := 0) rfl ?_
      exact w_ireturn rfl rfl h
    · replace h := h.2 hc
      refine w_iconst (pc' := 35) rfl rfl (v := 1) rfl ?_
      refine w_goto (pc' := 39) rfl rfl ?_
      exact w_ireturn rfl rfl h
theorem t_Mo_words_0 {L : Nat} {xs : Nat → Int32} {x1 : Int32} {x2 : Int32} {x3 : Int32} {x4 : Int32} {f : Hp} {Q : Int32 → Hp → Prop}  (h : CI L xs xm_Mo_isWord [.ref 400, .int x1, .int x2, .int x3, .int x4] f (fun v1 g1 => ((v1 = 0 → Q 0 g1) ∧ (¬ v1 = 0 → ((x4 = 0 → CI L xs xm_Mo_at [.int x2, .int x3] g1 (fun v2 g2 => ∃ k1 : Nat, v2 = iN k1 ∧ k1 < 91 ∧ ∀ g3, g3 = xu g2 415 k1 ((g2 415 k1) ||| (1 <<< (x1 &&& 31))) → Wp L xs xm_Mo_words 54 [.ref 400, .int x1, .int x2, .int x3, .int x4] [] g3 (QI Q))) ∧ (¬ x4 = 0 → CI L xs xm_Mo_at [.int x2, .int x3] g1 (fun v3 g4 => ∃ k2 : Nat, v3 = iN k2 ∧ k2 < 91 ∧ ∀ g5, g5 = xu g4 416 k2 ((g4 416 k2) ||| (1 <<< (x1 &&& 31))) → Wp L xs xm_Mo_words 54 [.ref 400, .int x1, .int x2, .int x3, .int x4] [] g5 (QI Q)))))))) : CI L xs xm_Mo_words [.ref 400, .int x1, .int x2, .int x3, .int x4] f Q := by
  show Wp L xs xm_Mo_words 0 [.ref 400, .int x1, .int x2, .int x3, .int x4] [] f (QI Q)
  refine w_aload_n (pc' := 1) rfl rfl rfl ?_
  refine w_iload_n (pc' := 2) rfl rfl rfl ?_
  refine w_iload_n (pc' := 3) rfl rfl rfl ?_
  refine w_iload_n (pc' := 4) rfl rfl rfl ?_
  refine w_iload (pc' := 6) rfl rfl rfl ?_
  refine w_cv (pc' := 9) (cm := xm_Mo_isWord) (as := [.int x1, .int x2, .int x3, .int x4]) (a := 400) (rest := []) rfl rfl rfl  (xa_Mo_isWord (Nat.le_of_ble_eq_true rfl)) (show xS0 L 400 = (12, 0) from rfl) rfl (CI.k h fun v1 g1 h => ?_)
  show Wp L xs xm_Mo_words 9 [.ref 400, .int x1, .int x2, .int x3, .int x4] [.int v1] g1 _
  refine w_br (pc' := 12) (t := 14) rfl rfl rfl ic_ne (fun hc => ?_) (fun hc => ?_)
  · replace h := h.2 hc
    refine w_iload (pc' := 16) rfl rfl rfl ?_
    refine w_br (pc' := 19) (t := 38) rfl rfl rfl ic_eq (fun hc => ?_) (fun hc => ?_)
    · replace h := h.1 hc
      refine w_aload_n (pc' := 39) rfl rfl rfl ?_
      have q1 : xR0 400 32 = some 415 ∧ xS0 L 415 = (20, 91) := (kf_12_32 (show xS0 L 400 = (12, 0) from rfl))
      refine w_getR (pc' := 42) rfl rfl rfl rfl (show xS0 L 400 = (12, 0) from rfl) q1.1 ?_
      refine w_iload_n (pc' := 43) rfl rfl rfl ?_
      refine w_iload_n (pc' := 44) rfl rfl rfl ?_
      refine w_cs (pc' := 47) (cm := xm_Mo_at) (as := [.int x2, .int x3]) (rest := [.ref 415]) rfl rfl rfl (Or.inl rfl) (xa_Mo_at (Nat.le_of_ble_eq_true rfl)) (CI.k h fun v2 g2 h => ?_)
      show Wp L xs xm_Mo_words 47 [.ref 400, .int x1, .int x2, .int x3, .int x4] [.int v2, .ref 415] g2 _
      refine w_dup2 (pc' := 48) rfl rfl ?_
      obtain ⟨k1, ek1, bk1, h⟩ := h
      refine w_iaload (pc' := 49) (i := k1) rfl rfl q1.2 ek1 bk1 (by omega) ?_
      refine w_iconst (pc' := 50) rfl rfl (v := 1) rfl ?_
      refine w_iload_n (pc' := 51) rfl rfl rfl ?_
      refine w_ishl (pc' := 52) rfl rfl ?_
      refine w_ior (pc' := 53) rfl rfl ?_
      refine w_iastore (pc' := 54) (i := k1) rfl rfl q1.2 ek1 bk1 (by omega) ?_
      replace h := h _ rfl
      generalize xu g2 415 k1 ((g2 415 k1) ||| (1 <<< (x1 &&& 31))) = g3 at h ⊢
      exact h
    · replace h := h.2 hc
      refine w_aload_n (pc' := 20) rfl rfl rfl ?_
      have q2 : xR0 400 33 = some 416 ∧ xS0 L 416 = (20, 91) := (kf_12_33 (show xS0 L 400 = (12, 0) from rfl))
      refine w_getR (pc' := 23) rfl rfl rfl rfl (show xS0 L 400 = (12, 0) from rfl) q2.1 ?_
      refine w_iload_n (pc' := 24) rfl rfl rfl ?_
      refine w_iload_n (pc' := 25) rfl rfl rfl ?_
      refine w_cs (pc' := 28) (cm := xm_Mo_at) (as := [.int x2, .int x3]) (rest := [.ref 416]) rfl rfl rfl (Or.inl rfl) (xa_Mo_at (Nat.le_of_ble_eq_true rfl)) (CI.k h fun v3 g4 h => ?_)
      show Wp L xs xm_Mo_words 28 [.ref 400, .int x1, .int x2, .int x3, .int x4] [.int v3, .ref 416] g4 _
      refine w_dup2 (pc' := 29) rfl rfl ?_
      obtain ⟨k2, ek2, bk2, h⟩ := h
      refine w_iaload (pc' := 30) (i := k2) rfl rfl q2.2 ek2 bk2 (by omega) ?_
      refine w_iconst (pc' := 31) rfl rfl (v := 1) rfl ?_
      refine w_iload_n (pc' := 32) rfl rfl rfl ?_
      refine w_ishl (pc' := 33) rfl rfl ?_
      refine w_ior (pc' := 34) rfl rfl ?_
      refine w_iastore (pc' := 35) (i := k2) rfl rfl q2.2 ek2 bk2 (by omega) ?_
      replace h := h _ rfl
      generalize xu g4 416 k2 ((g4 416 k2) ||| (1 <<< (x1 &&& 31))) = g5 at h ⊢
      refine w_goto (pc' := 54) rfl rfl ?_
      exact h
  · replace h := h.1 (Classical.not_not.mp hc)
    refine w_iconst (pc' := 13) rfl rfl (v := 0) rfl ?_
    exact w_ireturn rfl rfl h
theorem t_Mo_words_54 {L : Nat} {xs : Nat → Int32} {x1 : Int32} {x2 : Int32} {x3 : Int32} {x4 : Int32} {f : Hp} {Q : Int32 → Hp → Prop}  (h : ((x4 = 0 → CV L xs xm_Mo_settles [.ref 400, .int x2, .int x3] f (fun g1 => Q 1 g1)) ∧ (¬ x4 = 0 → Q 1 f))) : Wp L xs xm_Mo_words 54 [.ref 400, .int x1, .int x2, .int x3, .int x4] [] f (QI Q) := by
  refine w_iload (pc' := 56) rfl rfl rfl ?_
  refine w_br (pc' := 59) (t := 65) rfl rfl rfl ic_ne (fun hc => ?_) (fun hc => ?_)
  · replace h := h.2 hc
    refine w_iconst (pc' := 66) rfl rfl (v := 1) rfl ?_
    exact w_ireturn rfl rfl h
  · replace h := h.1 (Classical.not_not.mp hc)
    refine w_aload_n (pc' := 60) rfl rfl rfl ?_
    refine w_iload_n (pc' := 61) rfl rfl rfl ?_
    refine w_iload_n (pc' := 62) rfl rfl rfl ?_
    refine w_cv (pc' := 65) (cm := xm_Mo_settles) (as := [.int x2, .int x3]) (a := 400) (rest := []) rfl rfl rfl  (xa_Mo_settles (Nat.le_of_ble_eq_true rfl)) (show xS0 L 400 = (12, 0) from rfl) rfl (CV.k h fun g1 h => ?_)
    show Wp L xs xm_Mo_words 65 [.ref 400, .int x1, .int x2, .int x3, .int x4] [] g1 _
    refine w_iconst (pc' := 66) rfl rfl (v := 1) rfl ?_
    exact w_ireturn rfl rfl h
theorem t_Mo_isWord_0 {L : Nat} {xs : Nat → Int32} {x1 : Int32} {x2 : Int32} {x3 : Int32} {x4 : Int32} {f : Hp} {Q : Int32 → Hp → Prop}  (h : CI L xs xm_Mo_isLiar [.ref 400, .int x2] f (fun v1 g1 => ((v1 = 0 → ∃ k1 : Nat, x2 = iN k1 ∧ k1 < 7 ∧ (((g1 407 k1) = 0 → Q 0 g1) ∧ (¬ (g1 407 k1) = 0 → CI L xs xm_Mo_at [.int x2, .int x3] g1 (fun v2 g2 => ∃ k2 : Nat, v2 = iN k2 ∧ k2 < 91 ∧ (((g2 414 k2) = (-1) → Q 0 g2) ∧ (¬ (g2 414 k2) = (-1) → ((x4 = 0 → Wp L xs xm_Mo_isWord 49 [.ref 400, .int x1, .int x2, .int x3, .int x4] [.ref 415] g2 (QI Q)) ∧ (¬ x4 = 0 → Wp L xs xm_Mo_isWord 49 [.ref 400, .int x1, .int x2, .int x3, .int x4] [.ref 416] g2 (QI Q))))))))) ∧ (¬ v1 = 0 → Q 0 g1)))) : CI L xs xm_Mo_isWord [.ref 400, .int x1, .int x2, .int x3, .int x4] f Q := by
  show Wp L xs xm_Mo_isWord 0 [.ref 400, .int x1, .int x2, .int x3, .int x4] [] f (QI Q)
  refine w_aload_n (pc' := 1) rfl rfl rfl ?_
  refine w_iload_n (pc' := 2) rfl rfl rfl ?_
  refine w_cv (pc' := 5) (cm := xm_Mo_isLiar) (as := [.int x2]) (a := 400) (rest := []) rfl rfl rfl  (xa_Mo_isLiar (Nat.le_of_ble_eq_true rfl)) (show xS0 L 400 = (12, 0) from rfl) rfl (CI.k h fun v1 g1 h => ?_)
  show Wp L xs xm_Mo_isWord 5 [.ref 400, .int x1, .int x2, .int x3, .int x4] [.int v1] g1 _
  refine w_br (pc' := 8) (t := 31) rfl rfl rfl ic_ne (fun hc => ?_) (fun hc => ?_)
  · replace h := h.2 hc
    refine w_iconst (pc' := 32) rfl rfl (v := 0) rfl ?_
    exact w_ireturn rfl rfl h
  · replace h := h.1 (Classical.not_not.mp hc)
    refine w_aload_n (pc' := 9) rfl rfl rfl ?_
    have q1 : xR0 400 24 = some 407 ∧ xS0 L 407 = (22, 7) := (kf_12_24 (show xS0 L 400 = (12, 0) from rfl))
    refine w_getR (pc' := 12) rfl rfl rfl rfl (show xS0 L 400 = (12, 0) from rfl) q1.1 ?_
    refine w_iload_n (pc' := 13) rfl rfl rfl ?_
    obtain ⟨k1, ek1, bk1, h⟩ := h
    refine w_baload (pc' := 14) (i := k1) rfl rfl q1.2 (Or.inr rfl) ek1 bk1 (by omega) ?_
    refine w_br (pc' := 17) (t := 31) rfl rfl rfl ic_eq (fun hc => ?_) (fun hc => ?_)
    · replace h := h.1 hc
      refine w_iconst (pc' := 32) rfl rfl (v := 0) rfl ?_
      exact w_ireturn rfl rfl h
    · replace h := h.2 hc
      refine w_aload_n (pc' := 18) rfl rfl rfl ?_
      have q2 : xR0 400 31 = some 414 ∧ xS0 L 414 = (20, 91) := (kf_12_31 (show xS0 L 400 = (12, 0) from rfl))
      refine w_getR (pc' := 21) rfl rfl rfl rfl (show xS0 L 400 = (12, 0) from rfl) q2.1 ?_
      refine w_iload_n (pc' := 22) rfl rfl rfl ?_
      refine w_iload_n (pc' := 23) rfl rfl rfl ?_
      refine w_cs (pc' := 26) (cm := xm_Mo_at) (as := [.int x2, .int x3]) (rest := [.ref 414]) rfl rfl rfl (Or.inl rfl) (xa_Mo_at (Nat.le_of_ble_eq_true rfl)) (CI.k h fun v2 g2 h => ?_)
      show Wp L xs xm_Mo_isWord 26 [.ref 400, .int x1, .int x2, .int x3, .int x4] [.int v2, .ref 414] g2 _
      obtain ⟨k2, ek2, bk2, h⟩ := h
      refine w_iaload (pc' := 27) (i := k2) rfl rfl q2.2 ek2 bk2 (by omega) ?_
      refine w_iconst (pc' := 28) rfl rfl (v := (-1)) rfl ?_
      refine w_br2 (pc' := 31) (t := 33) rfl rfl rfl ic_ne (fun hc => ?_) (fun hc => ?_)
      · replace h := h.2 hc
        refine w_iload (pc' := 35) rfl rfl rfl ?_
        refine w_br (pc' := 38) (t := 45) rfl rfl rfl ic_eq (fun hc => ?_) (fun hc => ?_)
        · replace h := h.1 hc
          refine w_aload_n (pc' := 46) rfl rfl rfl ?_
          have q3 : xR0 400 32 = some 415 ∧ xS0 L 415 = (20, 91) := (kf_12_32 (show xS0 L 400 = (12, 0) from rfl))
          refine w_getR (pc' := 49) rfl rfl rfl rfl (show xS0 L 400 = (12, 0) from rfl) q3.1 ?_
          exact h
        · replace h := h.2 hc
          refine w_aload_n (pc' := 39) rfl rfl rfl ?_
          have q4 : xR0 400 33 = some 416 ∧ xS0 L 416 = (20, 91) := (kf_12_33 (show xS0 L 400 = (12, 0) from rfl))
          refine w_getR (pc' := 42) rfl rfl rfl rfl (show xS0 L 400 = (12, 0) from rfl) q4.1 ?_
          refine w_goto (pc' := 49) rfl rfl ?_
          exact h
      · replace h := h.1 (Classical.not_not.mp hc)
        refine w_iconst (pc' := 32) rfl rfl (v := 0) rfl ?_
        exact w_ireturn rfl rfl h
theorem t_Mo_isWord_49 {L : Nat} {xs : Nat → Int32} {x1 : Int32} {x2 : Int32} {x3 : Int32} {x4 : Int32} {s0 : Nat} {f : Hp} {Q : Int32 → Hp → Prop} (qs0 : xS0 L s0 = (20, 91)) (h : CI L xs xm_Mo_at [.int x2, .int x3] f (fun v1 g1 => ∃ k1 : Nat, v1 = iN k1 ∧ k1 < 91 ∧ (((((g1 s0 k1) >>> (x1 &&& 31)) &&& 1) = 1 → Q 0 g1) ∧ (¬ (((g1 s0 k1) >>> (x1 &&& 31)) &&& 1) = 1 → CI L xs xm_Mo_isLiar [.ref 400, .int x1] g1 (fun v2 g2 => ((v2 = 0 → ∃ k2 : Nat, x1 = iN k2 ∧ k2 < 7 ∧ (((g2 407 k2) = 0 → Q 0 g2) ∧ (¬ (g2 407 k2) = 0 → ∃ k3 : Nat, x2 = iN k3 ∧ k3 < 7 ∧ (((g2 406 k2) = (g2 406 k3) → CI L xs xm_Mo_at [.int x1, .int x3] g2 (fun v3 g3 => ∃ k4 : Nat, v3 = iN k4 ∧ k4 < 91 ∧ CI L xs xm_Mo_at [.int x2, .int x3] g3 (fun v4 g4 => ∃ k5 : Nat, v4 = iN k5 ∧ k5 < 91 ∧ (((g3 414 k4) = (g4 414 k5) → ((x4 = 0 → Q 1 g4) ∧ (¬ x4 = 0 → CI L xs xm_Mo_isPrepared [.ref 400, .int x1, .int x3] g4 (fun v5 g5 => ((v5 = 0 → Q 0 g5) ∧ (¬ v5 = 0 → Q 1 g5)))))) ∧ (¬ (g3 414 k4) = (g4 414 k5) → Q 0 g4))))) ∧ (¬ (g2 406 k2) = (g2 406 k3) → Q 0 g2))))) ∧ (¬ v2 = 0 → Q 1 g2))))))) : Wp L xs xm_Mo_isWord 49 [.ref 400, .int x1, .int x2, .int x3, .int x4] [.ref s0] f (QI Q) := by
  refine w_iload_n (pc' := 50) rfl rfl rfl ?_
  refine w_iload_n (pc' := 51) rfl rfl rfl ?_
  refine w_cs (pc' := 54) (cm := xm_Mo_at) (as := [.int x2, .int x3]) (rest := [.ref s0]) rfl rfl rfl (Or.inl rfl) (xa_Mo_at (Nat.le_of_ble_eq_true rfl)) (CI.k h fun v1 g1 h => ?_)
  show Wp L xs xm_Mo_isWord 54 [.ref 400, .int x1, .int x2, .int x3, .int x4] [.int v1, .ref s0] g1 _
  obtain ⟨k1, ek1, bk1, h⟩ := h
  refine w_iaload (pc' := 55) (i := k1) rfl rfl qs0 ek1 bk1 (by omega) ?_
  refine w_iload_n (pc' := 56) rfl rfl rfl ?_
  refine w_ishr (pc' := 57) rfl rfl ?_
  refine w_iconst (pc' := 58) rfl rfl (v := 1) rfl ?_
  refine w_iand (pc' := 59) rfl rfl ?_
  refine w_iconst (pc' := 60) rfl rfl (v := 1) rfl ?_
  refine w_br2 (pc' := 63) (t := 65) rfl rfl rfl ic_ne (fun hc => ?_) (fun hc => ?_)
  · replace h := h.2 hc
    refine w_aload_n (pc' := 66) rfl rfl rfl ?_
    refine w_iload_n (pc' := 67) rfl rfl rfl ?_
    refine w_cv (pc' := 70) (cm := xm_Mo_isLiar) (as := [.int x1]) (a := 400) (rest := []) rfl rfl rfl  (xa_Mo_isLiar (Nat.le_of_ble_eq_true rfl)) (show xS0 L 400 = (12, 0) from rfl) rfl (CI.k h fun v2 g2 h => ?_)
    show Wp L xs xm_Mo_isWord 70 [.ref 400, .int x1, .int x2, .int x3, .int x4] [.int v2] g2 _
    refine w_br (pc' := 73) (t := 75) rfl rfl rfl ic_eq (fun hc => ?_) (fun hc => ?_)
    · replace h := h.1 hc
      refine w_aload_n (pc' := 76) rfl rfl rfl ?_
      have q1 : xR0 400 24 = some 407 ∧ xS0 L 407 = (22, 7) := (kf_12_24 (show xS0 L 400 = (12, 0) from rfl))
      refine w_getR (pc' := 79) rfl rfl rfl rfl (show xS0 L 400 = (12, 0) from rfl) q1.1 ?_
      refine w_iload_n (pc' := 80) rfl rfl rfl ?_
      obtain ⟨k2, ek2, bk2, h⟩ := h
      refine w_baload (pc' := 81) (i := k2) rfl rfl q1.2 (Or.inr rfl) ek2 bk2 (by omega) ?_
      refine w_br (pc' := 84) (t := 140) rfl rfl rfl ic_eq (fun hc => ?_) (fun hc => ?_)
      · replace h := h.1 hc
        refine w_iconst (pc' := 141) rfl rfl (v := 0) rfl ?_
        exact w_ireturn rfl rfl h
      · replace h := h.2 hc
        refine w_aload_n (pc' := 85) rfl rfl rfl ?_
        have q2 : xR0 400 23 = some 406 ∧ xS0 L 406 = (20, 7) := (kf_12_23 (show xS0 L 400 = (12, 0) from rfl))
        refine w_getR (pc' := 88) rfl rfl rfl rfl (show xS0 L 400 = (12, 0) from rfl) q2.1 ?_
        refine w_iload_n (pc' := 89) rfl rfl rfl ?_
        refine w_iaload (pc' := 90) (i := k2) rfl rfl q2.2 ek2 bk2 (by omega) ?_
        refine w_aload_n (pc' := 91) rfl rfl rfl ?_
        have q3 : xR0 400 23 = some 406 ∧ xS0 L 406 = (20, 7) := (kf_12_23 (show xS0 L 400 = (12, 0) from rfl))
        refine w_getR (pc' := 94) rfl rfl rfl rfl (show xS0 L 400 = (12, 0) from rfl) q3.1 ?_
        refine w_iload_n (pc' := 95) rfl rfl rfl ?_
        obtain ⟨k3, ek3, bk3, h⟩ := h
        refine w_iaload (pc' := 96) (i := k3) rfl rfl q3.2 ek3 bk3 (by omega) ?_
        refine w_br2 (pc' := 99) (t := 140) rfl rfl rfl ic_ne (fun hc => ?_) (fun hc => ?_)
        · replace h := h.2 hc
          refine w_iconst (pc' := 141) rfl rfl (v := 0) rfl ?_
          exact w_ireturn rfl rfl h
        · replace h := h.1 (Classical.not_not.mp hc)
          refine w_aload_n (pc' := 100) rfl rfl rfl ?_
          have q4 : xR0 400 31 = some 414 ∧ xS0 L 414 = (20, 91) := (kf_12_31 (show xS0 L 400 = (12, 0) from rfl))
          refine w_getR (pc' := 103) rfl rfl rfl rfl (show xS0 L 400 = (12, 0) from rfl) q4.1 ?_
          refine w_iload_n (pc' := 104) rfl rfl rfl ?_
          refine w_iload_n (pc' := 105) rfl rfl rfl ?_
          refine w_cs (pc' := 108) (cm := xm_Mo_at) (as := [.int x1, .int x3]) (rest := [.ref 414]) rfl rfl rfl (Or.inl rfl) (xa_Mo_at (Nat.le_of_ble_eq_true rfl)) (CI.k h fun v3 g3 h => ?_)
          show Wp L xs xm_Mo_isWord 108 [.ref 400, .int x1, .int x2, .int x3, .int x4] [.int v3, .ref 414] g3 _
          obtain ⟨k4, ek4, bk4, h⟩ := h
          refine w_iaload (pc' := 109) (i := k4) rfl rfl q4.2 ek4 bk4 (by omega) ?_
          refine w_aload_n (pc' := 110) rfl rfl rfl ?_
          have q5 : xR0 400 31 = some 414 ∧ xS0 L 414 = (20, 91) := (kf_12_31 (show xS0 L 400 = (12, 0) from rfl))
          refine w_getR (pc' := 113) rfl rfl rfl rfl (show xS0 L 400 = (12, 0) from rfl) q5.1 ?_
          refine w_iload_n (pc' := 114) rfl rfl rfl ?_
          refine w_iload_n (pc' := 115) rfl rfl rfl ?_
          refine w_cs (pc' := 118) (cm := xm_Mo_at) (as := [.int x2, .int x3]) (rest := [.ref 414, .int (g3 414 k4)]) rfl rfl rfl (Or.inl rfl) (xa_Mo_at (Nat.le_of_ble_eq_true rfl)) (CI.k h fun v4 g4 h => ?_)
          show Wp L xs xm_Mo_isWord 118 [.ref 400, .int x1, .int x2, .int x3, .int x4] [.int v4, .ref 414, .int (g3 414 k4)] g4 _
          obtain ⟨k5, ek5, bk5, h⟩ := h
          refine w_iaload (pc' := 119) (i := k5) rfl rfl q5.2 ek5 bk5 (by omega) ?_
          refine w_br2 (pc' := 122) (t := 140) rfl rfl rfl ic_ne (fun hc => ?_) (fun hc => ?_)
          · replace h := h.2 hc
            refine w_iconst (pc' := 141) rfl rfl (v := 0) rfl ?_
            exact w_ireturn rfl rfl h
          · replace h := h.1 (Classical.not_not.mp hc)
            refine w_iload (pc' := 124) rfl rfl rfl ?_
            refine w_br (pc' := 127) (t := 136) rfl rfl rfl ic_eq (fun hc => ?_) (fun hc => ?_)
            · replace h := h.1 hc
              refine w_iconst (pc' := 137) rfl rfl (v := 1) rfl ?_
              refine w_goto (pc' := 141) rfl rfl ?_
              exact w_ireturn rfl rfl h
            · replace h := h.2 hc
              refine w_aload_n (pc' := 128) rfl rfl rfl ?_
              refine w_iload_n (pc' := 129) rfl rfl rfl ?_
              refine w_iload_n (pc' := 130) rfl rfl rfl ?_
              refine w_cv (pc' := 133) (cm := xm_Mo_isPrepared) (as := [.int x1, .int x3]) (a := 400) (rest := []) rfl rfl rfl  (xa_Mo_isPrepared (Nat.le_of_ble_eq_true rfl)) (show xS0 L 400 = (12, 0) from rfl) rfl (CI.k h fun v5 g5 h => ?_)
              show Wp L xs xm_Mo_isWord 133 [.ref 400, .int x1, .int x2, .int x3, .int x4] [.int v5] g5 _
              refine w_br (pc' := 136) (t := 140) rfl rfl rfl ic_eq (fun hc => ?_) (fun hc => ?_)
              · replace h := h.1 hc
                refine w_iconst (pc' := 141) rfl rfl (v := 0) rfl ?_
                exact w_ireturn rfl rfl h
              · replace h := h.2 hc
                refine w_iconst (pc' := 137) rfl rfl (v := 1) rfl ?_
                refine w_goto (pc' := 141) rfl rfl ?_
                exact w_ireturn rfl rfl h
    · replace h := h.2 hc
      refine w_iconst (pc' := 74) rfl rfl (v := 1) rfl ?_
      exact w_ireturn rfl rfl h
  · replace h := h.1 (Classical.not_not.mp hc)
    refine w_iconst (pc' := 64) rfl rfl (v := 0) rfl ?_
    exact w_ireturn rfl rfl h
theorem t_Mo_runsOn_0 {L : Nat} {xs : Nat → Int32} {x1 : Int32} {f : Hp} {Q : Int32 → Hp → Prop}  (h : CI L xs xm_Mo_isLiar [.ref 400, .int x1] f (fun v1 g1 => ((v1 = 0 → CI L xs xm_Mo_canRun [.ref 400, .int x1] g1 (fun v2 g2 => ((v2 = 0 → Q 0 g2) ∧ (¬ v2 = 0 → Wp L xs xm_Mo_runsOn 18 [.ref 400, .int x1] [] g2 (QI Q))))) ∧ (¬ v1 = 0 → Q 0 g1)))) : CI L xs xm_Mo_runsOn [.ref 400, .int x1] f Q := by
  show Wp L xs xm_Mo_runsOn 0 [.ref 400, .int x1] [] f (QI Q)
  refine w_aload_n (pc' := 1) rfl rfl rfl ?_
  refine w_iload_n (pc' := 2) rfl rfl rfl ?_
  refine w_cv (pc' := 5) (cm := xm_Mo_isLiar) (as := [.int x1]) (a := 400) (rest := []) rfl rfl rfl  (xa_Mo_isLiar (Nat.le_of_ble_eq_true rfl)) (show xS0 L 400 = (12, 0) from rfl) rfl (CI.k h fun v1 g1 h => ?_)
  show Wp L xs xm_Mo_runsOn 5 [.ref 400, .int x1] [.int v1] g1 _
  refine w_br (pc' := 8) (t := 16) rfl rfl rfl ic_ne (fun hc => ?_) (fun hc => ?_)
  · replace h := h.2 hc
    refine w_iconst (pc' := 17) rfl rfl (v := 0) rfl ?_
    exact w_ireturn rfl rfl h
  · replace h := h.1 (Classical.not_not.mp hc)
    refine w_aload_n (pc' := 9) rfl rfl rfl ?_
    refine w_iload_n (pc' := 10) rfl rfl rfl ?_
    refine w_cv (pc' := 13) (cm := xm_Mo_canRun) (as := [.int x1]) (a := 400) (rest := []) rfl rfl rfl  (xa_Mo_canRun (Nat.le_of_ble_eq_true rfl)) (show xS0 L 400 = (12, 0) from rfl) rfl (CI.k h fun v2 g2 h => ?_)
    show Wp L xs xm_Mo_runsOn 13 [.ref 400, .int x1] [.int v2] g2 _
    refine w_br (pc' := 16) (t := 18) rfl rfl rfl ic_ne (fun hc => ?_) (fun hc => ?_)
    · replace h := h.2 hc
      exact h
    · replace h := h.1 (Classical.not_not.mp hc)
      refine w_iconst (pc' := 17) rfl rfl (v := 0) rfl ?_
      exact w_ireturn rfl rfl h
theorem t_Mo_runsOn_18 {L : Nat} {xs : Nat → Int32} {x1 : Int32} {f : Hp} {Q : Int32 → Hp → Prop}  (h : CI L xs xm_Mo_canRun [.ref 400, .int x1] f (fun v1 g1 => ((v1 = 0 → Q 1 g1) ∧ (¬ v1 = 0 → CV L xs xm_Mo_runsOne [.ref 400, .int x1] g1 (fun g2 => Wp L xs xm_Mo_runsOn 18 [.ref 400, .int x1] [] g2 (QI Q)))))) : Wp L xs xm_Mo_runsOn 18 [.ref 400, .int x1] [] f (QI Q) := by
  refine w_aload_n (pc' := 19) rfl rfl rfl ?_
  refine w_iload_n (pc' := 20) rfl rfl rfl ?_
  refine w_cv (pc' := 23) (cm := xm_Mo_canRun) (as := [.int x1]) (a := 400) (rest := []) rfl rfl rfl  (xa_Mo_canRun (Nat.le_of_ble_eq_true rfl)) (show xS0 L 400 = (12, 0) from rfl) rfl (CI.k h fun v1 g1 h => ?_)
  show Wp L xs xm_Mo_runsOn 23 [.ref 400, .int x1] [.int v1] g1 _
  refine w_br (pc' := 26) (t := 34) rfl rfl rfl ic_eq (fun hc => ?_) (fun hc => ?_)
  · replace h := h.1 hc
    refine w_iconst (pc' := 35) rfl rfl (v := 1) rfl ?_
    exact w_ireturn rfl rfl h
  · replace h := h.2 hc
    refine w_aload_n (pc' := 27) rfl rfl rfl ?_
    refine w_iload_n (pc' := 28) rfl rfl rfl ?_
    refine w_cv (pc' := 31) (cm := xm_Mo_runsOne) (as := [.int x1]) (a := 400) (rest := []) rfl rfl rfl  (xa_Mo_runsOne (Nat.le_of_ble_eq_true rfl)) (show xS0 L 400 = (12, 0) from rfl) rfl (CV.k h fun g2 h => ?_)
    show Wp L xs xm_Mo_runsOn 31 [.ref 400, .int x1] [] g2 _
    refine w_goto (pc' := 18) rfl rfl ?_
    exact h
theorem t_Mo_canRun_0 {L : Nat} {xs : Nat → Int32} {x1 : Int32} {f : Hp} {Q : Int32 → Hp → Prop}  (h : ∃ k1 : Nat, x1 = iN k1 ∧ k1 < 7 ∧ (((f 409 k1) < 12 → CI L xs xm_Mo_isCommitted [.ref 400, .int x1, .int ((f 409 k1) + 1)] f (fun v1 g1 => ((v1 = 0 → Q 0 g1) ∧ (¬ v1 = 0 → Q 1 g1)))) ∧ (¬ (f 409 k1) < 12 → Q 0 f))) : CI L xs xm_Mo_canRun [.ref 400, .int x1] f Q := by
  show Wp L xs xm_Mo_canRun 0 [.ref 400, .int x1] [] f (QI Q)
  refine w_aload_n (pc' := 1) rfl rfl rfl ?_
  have q1 : xR0 400 26 = some 409 ∧ xS0 L 409 = (20, 7) := (kf_12_26 (show xS0 L 400 = (12, 0) from rfl))
  refine w_getR (pc' := 4) rfl rfl rfl rfl (show xS0 L 400 = (12, 0) from rfl) q1.1 ?_
  refine w_iload_n (pc' := 5) rfl rfl rfl ?_
  obtain ⟨k1, ek1, bk1, h⟩ := h
  refine w_iaload (pc' := 6) (i := k1) rfl rfl q1.2 ek1 bk1 (by omega) ?_
  refine w_bipush (pc' := 8) rfl rfl (v := 12) rfl ?_
  refine w_br2 (pc' := 11) (t := 31) rfl rfl rfl ic_ge (fun hc => ?_) (fun hc => ?_)
  · replace h := h.2 hc
    refine w_iconst (pc' := 32) rfl rfl (v := 0) rfl ?_
    exact w_ireturn rfl rfl h
  · replace h := h.1 (Classical.not_not.mp hc)
    refine w_aload_n (pc' := 12) rfl rfl rfl ?_
    refine w_iload_n (pc' := 13) rfl rfl rfl ?_
    refine w_aload_n (pc' := 14) rfl rfl rfl ?_
    have q2 : xR0 400 26 = some 409 ∧ xS0 L 409 = (20, 7) := (kf_12_26 (show xS0 L 400 = (12, 0) from rfl))
    refine w_getR (pc' := 17) rfl rfl rfl rfl (show xS0 L 400 = (12, 0) from rfl) q2.1 ?_
    refine w_iload_n (pc' := 18) rfl rfl rfl ?_
    refine w_iaload (pc' := 19) (i := k1) rfl rfl q2.2 ek1 bk1 (by omega) ?_
    refine w_iconst (pc' := 20) rfl rfl (v := 1) rfl ?_
    refine w_iadd (pc' := 21) rfl rfl ?_
    refine w_cv (pc' := 24) (cm := xm_Mo_isCommitted) (as := [.int x1, .int ((f 409 k1) + 1)]) (a := 400) (rest := []) rfl rfl rfl  (xa_Mo_isCommitted (Nat.le_of_ble_eq_true rfl)) (show xS0 L 400 = (12, 0) from rfl) rfl (CI.k h fun v1 g1 h => ?_)
    show Wp L xs xm_Mo_canRun 24 [.ref 400, .int x1] [.int v1] g1 _
    refine w_br (pc' := 27) (t := 31) rfl rfl rfl ic_eq (fun hc => ?_) (fun hc => ?_)
    · replace h := h.1 hc
      refine w_iconst (pc' := 32) rfl rfl (v := 0) rfl ?_
      exact w_ireturn rfl rfl h
    · replace h := h.2 hc
      refine w_iconst (pc' := 28) rfl rfl (v := 1) rfl ?_
      refine w_goto (pc' := 32) rfl rfl ?_
      exact w_ireturn rfl rfl h
theorem t_Mo_isCommitted_0 {L : Nat} {xs : Nat → Int32} {x1 : Int32} {x2 : Int32} {f : Hp} {Q : Int32 → Hp → Prop}  (h : CI L xs xm_Mo_isPrepared [.ref 400, .int x1, .int x2] f (fun v1 g1 => ((v1 = 0 → Q 0 g1) ∧ (¬ v1 = 0 → CI L xs xm_Mo_at [.int x1, .int x2] g1 (fun v2 g2 => ∃ k1 : Nat, v2 = iN k1 ∧ k1 < 91 ∧ CI L xs xm_Mo_bitsOf [.int (g2 416 k1)] g2 (fun v3 g3 => ((v3 < (g3 400 14) → Q 0 g3) ∧ (¬ v3 < (g3 400 14) → Q 1 g3)))))))) : CI L xs xm_Mo_isCommitted [.ref 400, .int x1, .int x2] f Q := by
  show Wp L xs xm_Mo_isCommitted 0 [.ref 400, .int x1, .int x2] [] f (QI Q)
  refine w_aload_n (pc' := 1) rfl rfl rfl ?_
  refine w_iload_n (pc' := 2) rfl rfl rfl ?_
  refine w_iload_n (pc' := 3) rfl rfl rfl ?_
  refine w_cv (pc' := 6) (cm := xm_Mo_isPrepared) (as := [.int x1, .int x2]) (a := 400) (rest := []) rfl rfl rfl  (xa_Mo_isPrepared (Nat.le_of_ble_eq_true rfl)) (show xS0 L 400 = (12, 0) from rfl) rfl (CI.k h fun v1 g1 h => ?_)
  show Wp L xs xm_Mo_isCommitted 6 [.ref 400, .int x1, .int x2] [.int v1] g1 _
  refine w_br (pc' := 9) (t := 33) rfl rfl rfl ic_eq (fun hc => ?_) (fun hc => ?_)
  · replace h := h.1 hc
    refine w_iconst (pc' := 34) rfl rfl (v := 0) rfl ?_
    exact w_ireturn rfl rfl h
  · replace h := h.2 hc
    refine w_aload_n (pc' := 10) rfl rfl rfl ?_
    have q1 : xR0 400 33 = some 416 ∧ xS0 L 416 = (20, 91) := (kf_12_33 (show xS0 L 400 = (12, 0) from rfl))
    refine w_getR (pc' := 13) rfl rfl rfl rfl (show xS0 L 400 = (12, 0) from rfl) q1.1 ?_
    refine w_iload_n (pc' := 14) rfl rfl rfl ?_
    refine w_iload_n (pc' := 15) rfl rfl rfl ?_
    refine w_cs (pc' := 18) (cm := xm_Mo_at) (as := [.int x1, .int x2]) (rest := [.ref 416]) rfl rfl rfl (Or.inl rfl) (xa_Mo_at (Nat.le_of_ble_eq_true rfl)) (CI.k h fun v2 g2 h => ?_)
    show Wp L xs xm_Mo_isCommitted 18 [.ref 400, .int x1, .int x2] [.int v2, .ref 416] g2 _
    obtain ⟨k1, ek1, bk1, h⟩ := h
    refine w_iaload (pc' := 19) (i := k1) rfl rfl q1.2 ek1 bk1 (by omega) ?_
    refine w_cs (pc' := 22) (cm := xm_Mo_bitsOf) (as := [.int (g2 416 k1)]) (rest := []) rfl rfl rfl (Or.inl rfl) (xa_Mo_bitsOf (Nat.le_of_ble_eq_true rfl)) (CI.k h fun v3 g3 h => ?_)
    show Wp L xs xm_Mo_isCommitted 22 [.ref 400, .int x1, .int x2] [.int v3] g3 _
    refine w_aload_n (pc' := 23) rfl rfl rfl ?_
    refine w_getI (pc' := 26) rfl rfl rfl rfl rfl (show xS0 L 400 = (12, 0) from rfl) ?_
    refine w_br2 (pc' := 29) (t := 33) rfl rfl rfl ic_lt (fun hc => ?_) (fun hc => ?_)
    · replace h := h.1 hc
      refine w_iconst (pc' := 34) rfl rfl (v := 0) rfl ?_
      exact w_ireturn rfl rfl h
    · replace h := h.2 hc
      refine w_iconst (pc' := 30) rfl rfl (v := 1) rfl ?_
      refine w_goto (pc' := 34) rfl rfl ?_
      exact w_ireturn rfl rfl h
theorem t_Mo_runsOne_0 {L : Nat} {xs : Nat → Int32} {x1 : Int32} {f : Hp} {Q : Hp → Prop}  (h : ∃ k1 : Nat, x1 = iN k1 ∧ k1 < 7 ∧ CI L xs xm_Mo_at [.int x1, .int ((f 409 k1) + 1)] f (fun v1 g1 => ∃ k2 : Nat, v1 = iN k2 ∧ k2 < 91 ∧ (((g1 414 k2) = 10 → Wp L xs xm_Mo_runsOne 61 [.ref 400, .int x1, .int ((f 409 k1) + 1), .int (g1 414 k2), .retAddr 0] [] g1 (QV Q)) ∧ (¬ (g1 414 k2) = 10 → CI L xs xm_Mo_orderAccount [.ref 400, .int (g1 414 k2)] g1 (fun v2 g2 => ∃ k3 : Nat, ((8 * x1) + v2) = iN k3 ∧ k3 < 56 ∧ CI L xs xm_Mo_orderPlus [.ref 400, .int (g1 414 k2)] g2 (fun v3 g3 => ∀ g4, g4 = xu g3 412 k3 (jrem ((g2 412 k3) + v3) 100) → Wp L xs xm_Mo_runsOne 61 [.ref 400, .int x1, .int ((f 409 k1) + 1), .int (g1 414 k2), .int ((8 * x1) + v2)] [] g4 (QV Q))))))) : CV L xs xm_Mo_runsOne [.ref 400, .int x1] f Q := by
  show Wp L xs xm_Mo_runsOne 0 [.ref 400, .int x1, .retAddr 0, .retAddr 0, .retAddr 0] [] f (QV Q)
  refine w_aload_n (pc' := 1) rfl rfl rfl ?_
  have q1 : xR0 400 26 = some 409 ∧ xS0 L 409 = (20, 7) := (kf_12_26 (show xS0 L 400 = (12, 0) from rfl))
  refine w_getR (pc' := 4) rfl rfl rfl rfl (show xS0 L 400 = (12, 0) from rfl) q1.1 ?_
  refine w_iload_n (pc' := 5) rfl rfl rfl ?_
  obtain ⟨k1, ek1, bk1, h⟩ := h
  refine w_iaload (pc' := 6) (i := k1) rfl rfl q1.2 ek1 bk1 (by omega) ?_
  refine w_iconst (pc' := 7) rfl rfl (v := 1) rfl ?_
  refine w_iadd (pc' := 8) rfl rfl ?_
  refine w_istore_n (pc' := 9) rfl rfl (xl' := [.ref 400, .int x1, .int ((f 409 k1) + 1), .retAddr 0, .retAddr 0]) rfl ?_
  refine w_aload_n (pc' := 10) rfl rfl rfl ?_
  have q2 : xR0 400 31 = some 414 ∧ xS0 L 414 = (20, 91) := (kf_12_31 (show xS0 L 400 = (12, 0) from rfl))
  refine w_getR (pc' := 13) rfl rfl rfl rfl (show xS0 L 400 = (12, 0) from rfl) q2.1 ?_
  refine w_iload_n (pc' := 14) rfl rfl rfl ?_
  refine w_iload_n (pc' := 15) rfl rfl rfl ?_
  refine w_cs (pc' := 18) (cm := xm_Mo_at) (as := [.int x1, .int ((f 409 k1) + 1)]) (rest := [.ref 414]) rfl rfl rfl (Or.inl rfl) (xa_Mo_at (Nat.le_of_ble_eq_true rfl)) (CI.k h fun v1 g1 h => ?_)
  show Wp L xs xm_Mo_runsOne 18 [.ref 400, .int x1, .int ((f 409 k1) + 1), .retAddr 0, .retAddr 0] [.int v1, .ref 414] g1 _
  obtain ⟨k2, ek2, bk2, h⟩ := h
  refine w_iaload (pc' := 19) (i := k2) rfl rfl q2.2 ek2 bk2 (by omega) ?_
  refine w_istore_n (pc' := 20) rfl rfl (xl' := [.ref 400, .int x1, .int ((f 409 k1) + 1), .int (g1 414 k2), .retAddr 0]) rfl ?_
  refine w_iload_n (pc' := 21) rfl rfl rfl ?_
  refine w_bipush (pc' := 23) rfl rfl (v := 10) rfl ?_
  refine w_br2 (pc' := 26) (t := 61) rfl rfl rfl ic_eq (fun hc => ?_) (fun hc => ?_)
  · replace h := h.1 hc
    exact h
  · replace h := h.2 hc
    refine w_bipush (pc' := 28) rfl rfl (v := 8) rfl ?_
    refine w_iload_n (pc' := 29) rfl rfl rfl ?_
    refine w_imul (pc' := 30) rfl rfl ?_
    refine w_aload_n (pc' := 31) rfl rfl rfl ?_
    refine w_iload_n (pc' := 32) rfl rfl rfl ?_
    refine w_cv (pc' := 35) (cm := xm_Mo_orderAccount) (as := [.int (g1 414 k2)]) (a := 400) (rest := [.int (8 * x1)]) rfl rfl rfl  (xa_Mo_orderAccount (Nat.le_of_ble_eq_true rfl)) (show xS0 L 400 = (12, 0) from rfl) rfl (CI.k h fun v2 g2 h => ?_)
    show Wp L xs xm_Mo_runsOne 35 [.ref 400, .int x1, .int ((f 409 k1) + 1), .int (g1 414 k2), .retAddr 0] [.int v2, .int (8 * x1)] g2 _
    refine w_iadd (pc' := 36) rfl rfl ?_
    refine w_istore (pc' := 38) rfl rfl (xl' := [.ref 400, .int x1, .int ((f 409 k1) + 1), .int (g1 414 k2), .int ((8 * x1) + v2)]) rfl ?_
    refine w_aload_n (pc' := 39) rfl rfl rfl ?_
    have q3 : xR0 400 29 = some 412 ∧ xS0 L 412 = (20, 56) := (kf_12_29 (show xS0 L 400 = (12, 0) from rfl))
    refine w_getR (pc' := 42) rfl rfl rfl rfl (show xS0 L 400 = (12, 0) from rfl) q3.1 ?_
    refine w_iload (pc' := 44) rfl rfl rfl ?_
    refine w_aload_n (pc' := 45) rfl rfl rfl ?_
    have q4 : xR0 400 29 = some 412 ∧ xS0 L 412 = (20, 56) := (kf_12_29 (show xS0 L 400 = (12, 0) from rfl))
    refine w_getR (pc' := 48) rfl rfl rfl rfl (show xS0 L 400 = (12, 0) from rfl) q4.1 ?_
    refine w_iload (pc' := 50) rfl rfl rfl ?_
    obtain ⟨k3, ek3, bk3, h⟩ := h
    refine w_iaload (pc' := 51) (i := k3) rfl rfl q4.2 ek3 bk3 (by omega) ?_
    refine w_aload_n (pc' := 52) rfl rfl rfl ?_
    refine w_iload_n (pc' := 53) rfl rfl rfl ?_
    refine w_cv (pc' := 56) (cm := xm_Mo_orderPlus) (as := [.int (g1 414 k2)]) (a := 400) (rest := [.int (g2 412 k3), .int ((8 * x1) + v2), .ref 412]) rfl rfl rfl  (xa_Mo_orderPlus (Nat.le_of_ble_eq_true rfl)) (show xS0 L 400 = (12, 0) from rfl) rfl (CI.k h fun v3 g3 h => ?_)
    show Wp L xs xm_Mo_runsOne 56 [.ref 400, .int x1, .int ((f 409 k1) + 1), .int (g1 414 k2), .int ((8 * x1) + v2)] [.int v3, .int (g2 412 k3), .int ((8 * x1) + v2), .ref 412] g3 _
    refine w_iadd (pc' := 57) rfl rfl ?_
    refine w_bipush (pc' := 59) rfl rfl (v := 100) rfl ?_
    refine w_irem (pc' := 60) rfl rfl (by decide) ?_
    refine w_iastore (pc' := 61) (i := k3) rfl rfl q3.2 ek3 bk3 (by omega) ?_
    replace h := h _ rfl
    generalize xu g3 412 k3 (jrem ((g2 412 k3) + v3) 100) = g4 at h ⊢
    exact h
theorem t_Mo_runsOne_61 {L : Nat} {xs : Nat → Int32} {x1 : Int32} {x2 : Int32} {x3 : Int32} {x4 : Value} {f : Hp} {Q : Hp → Prop} (cx4 : (x4.category != 2) = true) (h : CI L xs xm_Mo_at [.int x1, .int x2] f (fun v1 g1 => ∃ k1 : Nat, v1 = iN k1 ∧ k1 < 91 ∧ ∀ g2, g2 = xu g1 419 k1 x3 → ∃ k2 : Nat, x1 = iN k2 ∧ k2 < 7 ∧ ∀ g3, g3 = xu g2 409 k2 x2 → (g3 400 16) ≠ 0 ∧ (((jrem x2 (g3 400 16)) = 0 → CV L xs xm_Mo_checks [.ref 400, .int x1] g3 (fun g4 => Q g4)) ∧ (¬ (jrem x2 (g3 400 16)) = 0 → Q g3)))) : Wp L xs xm_Mo_runsOne 61 [.ref 400, .int x1, .int x2, .int x3, x4] [] f (QV Q) := by
  refine w_aload_n (pc' := 62) rfl rfl rfl ?_
  have q1 : xR0 400 36 = some 419 ∧ xS0 L 419 = (20, 91) := (kf_12_36 (show xS0 L 400 = (12, 0) from rfl))
  refine w_getR (pc' := 65) rfl rfl rfl rfl (show xS0 L 400 = (12, 0) from rfl) q1.1 ?_
  refine w_iload_n (pc' := 66) rfl rfl rfl ?_
  refine w_iload_n (pc' := 67) rfl rfl rfl ?_
  refine w_cs (pc' := 70) (cm := xm_Mo_at) (as := [.int x1, .int x2]) (rest := [.ref 419]) rfl rfl rfl (Or.inl rfl) (xa_Mo_at (Nat.le_of_ble_eq_true rfl)) (CI.k h fun v1 g1 h => ?_)
  show Wp L xs xm_Mo_runsOne 70 [.ref 400, .int x1, .int x2, .int x3, x4] [.int v1, .ref 419] g1 _
  refine w_iload_n (pc' := 71) rfl rfl rfl ?_
  obtain ⟨k1, ek1, bk1, h⟩ := h
  refine w_iastore (pc' := 72) (i := k1) rfl rfl q1.2 ek1 bk1 (by omega) ?_
  replace h := h _ rfl
  generalize xu g1 419 k1 x3 = g2 at h ⊢
  refine w_aload_n (pc' := 73) rfl rfl rfl ?_
  have q2 : xR0 400 26 = some 409 ∧ xS0 L 409 = (20, 7) := (kf_12_26 (show xS0 L 400 = (12, 0) from rfl))
  refine w_getR (pc' := 76) rfl rfl rfl rfl (show xS0 L 400 = (12, 0) from rfl) q2.1 ?_
  refine w_iload_n (pc' := 77) rfl rfl rfl ?_
  refine w_iload_n (pc' := 78) rfl rfl rfl ?_
  obtain ⟨k2, ek2, bk2, h⟩ := h
  refine w_iastore (pc' := 79) (i := k2) rfl rfl q2.2 ek2 bk2 (by omega) ?_
  replace h := h _ rfl
  generalize xu g2 409 k2 x2 = g3 at h ⊢
  refine w_iload_n (pc' := 80) rfl rfl rfl ?_
  refine w_aload_n (pc' := 81) rfl rfl rfl ?_
  refine w_getI (pc' := 84) rfl rfl rfl rfl rfl (show xS0 L 400 = (12, 0) from rfl) ?_
  obtain ⟨q3, h⟩ := h
  refine w_irem (pc' := 85) rfl rfl q3 ?_
  refine w_br (pc' := 88) (t := 93) rfl rfl rfl ic_ne (fun hc => ?_) (fun hc => ?_)
  · replace h := h.2 hc
    exact w_return rfl rfl h
  · replace h := h.1 (Classical.not_not.mp hc)
    refine w_aload_n (pc' := 89) rfl rfl rfl ?_
    refine w_iload_n (pc' := 90) rfl rfl rfl ?_
    refine w_cv (pc' := 93) (cm := xm_Mo_checks) (as := [.int x1]) (a := 400) (rest := []) rfl rfl rfl  (xa_Mo_checks (Nat.le_of_ble_eq_true rfl)) (show xS0 L 400 = (12, 0) from rfl) rfl (CV.k h fun g4 h => ?_)
    show Wp L xs xm_Mo_runsOne 93 [.ref 400, .int x1, .int x2, .int x3, x4] [] g4 _
    exact w_return rfl rfl h
theorem t_Mo_checks_0 {L : Nat} {xs : Nat → Int32} {x1 : Int32} {f : Hp} {Q : Hp → Prop}  (h : ∃ k1 : Nat, x1 = iN k1 ∧ k1 < 7 ∧ ∀ g1, g1 = xu f 411 k1 (f 409 k1) → Wp L xs xm_Mo_checks 14 [.ref 400, .int x1, .int 0] [] g1 (QV Q)) : CV L xs xm_Mo_checks [.ref 400, .int x1] f Q := by
  show Wp L xs xm_Mo_checks 0 [.ref 400, .int x1, .retAddr 0] [] f (QV Q)
  refine w_aload_n (pc' := 1) rfl rfl rfl ?_
  have q1 : xR0 400 28 = some 411 ∧ xS0 L 411 = (20, 7) := (kf_12_28 (show xS0 L 400 = (12, 0) from rfl))
  refine w_getR (pc' := 4) rfl rfl rfl rfl (show xS0 L 400 = (12, 0) from rfl) q1.1 ?_
  refine w_iload_n (pc' := 5) rfl rfl rfl ?_
  refine w_aload_n (pc' := 6) rfl rfl rfl ?_
  have q2 : xR0 400 26 = some 409 ∧ xS0 L 409 = (20, 7) := (kf_12_26 (show xS0 L 400 = (12, 0) from rfl))
  refine w_getR (pc' := 9) rfl rfl rfl rfl (show xS0 L 400 = (12, 0) from rfl) q2.1 ?_
  refine w_iload_n (pc' := 10) rfl rfl rfl ?_
  obtain ⟨k1, ek1, bk1, h⟩ := h
  refine w_iaload (pc' := 11) (i := k1) rfl rfl q2.2 ek1 bk1 (by omega) ?_
  refine w_iastore (pc' := 12) (i := k1) rfl rfl q1.2 ek1 bk1 (by omega) ?_
  replace h := h _ rfl
  generalize xu f 411 k1 (f 409 k1) = g1 at h ⊢
  refine w_iconst (pc' := 13) rfl rfl (v := 0) rfl ?_
  refine w_istore_n (pc' := 14) rfl rfl (xl' := [.ref 400, .int x1, .int 0]) rfl ?_
  exact h
theorem t_Mo_checks_14 {L : Nat} {xs : Nat → Int32} {x1 : Int32} {x2 : Int32} {f : Hp} {Q : Hp → Prop}  (h : ((x2 < 8 → ∃ k3 : Nat, ((8 * x1) + x2) = iN k3 ∧ k3 < 56 ∧ ∀ g5, g5 = xu f 413 k3 (f 412 k3) → Wp L xs xm_Mo_checks 14 [.ref 400, .int x1, .int (x2 + 1)] [] g5 (QV Q)) ∧ (¬ x2 < 8 → ∃ k1 : Nat, x1 = iN k1 ∧ k1 < 7 ∧ ∃ k2 : Nat, ((7 * x1) + x1) = iN k2 ∧ k2 < 49 ∧ ∀ g1, g1 = xu f 420 k2 (f 409 k1) → CI L xs xm_Mo_rootOf [.ref 400, .ref 413, .int (8 * x1)] g1 (fun v1 g2 => ∀ g3, g3 = xu g2 421 k2 v1 → CV L xs xm_Mo_counts [.ref 400, .int x1] g3 (fun g4 => Q g4))))) : Wp L xs xm_Mo_checks 14 [.ref 400, .int x1, .int x2] [] f (QV Q) := by
  refine w_iload_n (pc' := 15) rfl rfl rfl ?_
  refine w_bipush (pc' := 17) rfl rfl (v := 8) rfl ?_
  refine w_br2 (pc' := 20) (t := 48) rfl rfl rfl ic_ge (fun hc => ?_) (fun hc => ?_)
  · replace h := h.2 hc
    refine w_aload_n (pc' := 49) rfl rfl rfl ?_
    have q1 : xR0 400 37 = some 420 ∧ xS0 L 420 = (20, 49) := (kf_12_37 (show xS0 L 400 = (12, 0) from rfl))
    refine w_getR (pc' := 52) rfl rfl rfl rfl (show xS0 L 400 = (12, 0) from rfl) q1.1 ?_
    refine w_bipush (pc' := 54) rfl rfl (v := 7) rfl ?_
    refine w_iload_n (pc' := 55) rfl rfl rfl ?_
    refine w_imul (pc' := 56) rfl rfl ?_
    refine w_iload_n (pc' := 57) rfl rfl rfl ?_
    refine w_iadd (pc' := 58) rfl rfl ?_
    refine w_aload_n (pc' := 59) rfl rfl rfl ?_
    have q2 : xR0 400 26 = some 409 ∧ xS0 L 409 = (20, 7) := (kf_12_26 (show xS0 L 400 = (12, 0) from rfl))
    refine w_getR (pc' := 62) rfl rfl rfl rfl (show xS0 L 400 = (12, 0) from rfl) q2.1 ?_
    refine w_iload_n (pc' := 63) rfl rfl rfl ?_
    obtain ⟨k1, ek1, bk1, h⟩ := h
    refine w_iaload (pc' := 64) (i := k1) rfl rfl q2.2 ek1 bk1 (by omega) ?_
    obtain ⟨k2, ek2, bk2, h⟩ := h
    refine w_iastore (pc' := 65) (i := k2) rfl rfl q1.2 ek2 bk2 (by omega) ?_
    replace h := h _ rfl
    generalize xu f 420 k2 (f 409 k1) = g1 at h ⊢
    refine w_aload_n (pc' := 66) rfl rfl rfl ?_
    have q3 : xR0 400 38 = some 421 ∧ xS0 L 421 = (20, 49) := (kf_12_38 (show xS0 L 400 = (12, 0) from rfl))
    refine w_getR (pc' := 69) rfl rfl rfl rfl (show xS0 L 400 = (12, 0) from rfl) q3.1 ?_
    refine w_bipush (pc' := 71) rfl rfl (v := 7) rfl ?_
    refine w_iload_n (pc' := 72) rfl rfl rfl ?_
    refine w_imul (pc' := 73) rfl rfl ?_
    refine w_iload_n (pc' := 74) rfl rfl rfl ?_
    refine w_iadd (pc' := 75) rfl rfl ?_
    refine w_aload_n (pc' := 76) rfl rfl rfl ?_
    refine w_aload_n (pc' := 77) rfl rfl rfl ?_
    have q4 : xR0 400 30 = some 413 ∧ xS0 L 413 = (20, 56) := (kf_12_30 (show xS0 L 400 = (12, 0) from rfl))
    refine w_getR (pc' := 80) rfl rfl rfl rfl (show xS0 L 400 = (12, 0) from rfl) q4.1 ?_
    refine w_bipush (pc' := 82) rfl rfl (v := 8) rfl ?_
    refine w_iload_n (pc' := 83) rfl rfl rfl ?_
    refine w_imul (pc' := 84) rfl rfl ?_
    refine w_cv (pc' := 87) (cm := xm_Mo_rootOf) (as := [.ref 413, .int (8 * x1)]) (a := 400) (rest := [.int ((7 * x1) + x1), .ref 421]) rfl rfl rfl  (xa_Mo_rootOf (Nat.le_of_ble_eq_true rfl)) (show xS0 L 400 = (12, 0) from rfl) rfl (CI.k h fun v1 g2 h => ?_)
    show Wp L xs xm_Mo_checks 87 [.ref 400, .int x1, .int x2] [.int v1, .int ((7 * x1) + x1), .ref 421] g2 _
    refine w_iastore (pc' := 88) (i := k2) rfl rfl q3.2 ek2 bk2 (by omega) ?_
    replace h := h _ rfl
    generalize xu g2 421 k2 v1 = g3 at h ⊢
    refine w_aload_n (pc' := 89) rfl rfl rfl ?_
    refine w_iload_n (pc' := 90) rfl rfl rfl ?_
    refine w_cv (pc' := 93) (cm := xm_Mo_counts) (as := [.int x1]) (a := 400) (rest := []) rfl rfl rfl  (xa_Mo_counts (Nat.le_of_ble_eq_true rfl)) (show xS0 L 400 = (12, 0) from rfl) rfl (CV.k h fun g4 h => ?_)
    show Wp L xs xm_Mo_checks 93 [.ref 400, .int x1, .int x2] [] g4 _
    exact w_return rfl rfl h
  · replace h := h.1 (Classical.not_not.mp hc)
    refine w_aload_n (pc' := 21) rfl rfl rfl ?_
    have q5 : xR0 400 30 = some 413 ∧ xS0 L 413 = (20, 56) := (kf_12_30 (show xS0 L 400 = (12, 0) from rfl))
    refine w_getR (pc' := 24) rfl rfl rfl rfl (show xS0 L 400 = (12, 0) from rfl) q5.1 ?_
    refine w_bipush (pc' := 26) rfl rfl (v := 8) rfl ?_
    refine w_iload_n (pc' := 27) rfl rfl rfl ?_
    refine w_imul (pc' := 28) rfl rfl ?_
    refine w_iload_n (pc' := 29) rfl rfl rfl ?_
    refine w_iadd (pc' := 30) rfl rfl ?_
    refine w_aload_n (pc' := 31) rfl rfl rfl ?_
    have q6 : xR0 400 29 = some 412 ∧ xS0 L 412 = (20, 56) := (kf_12_29 (show xS0 L 400 = (12, 0) from rfl))
    refine w_getR (pc' := 34) rfl rfl rfl rfl (show xS0 L 400 = (12, 0) from rfl) q6.1 ?_
    refine w_bipush (pc' := 36) rfl rfl (v := 8) rfl ?_
    refine w_iload_n (pc' := 37) rfl rfl rfl ?_
    refine w_imul (pc' := 38) rfl rfl ?_
    refine w_iload_n (pc' := 39) rfl rfl rfl ?_
    refine w_iadd (pc' := 40) rfl rfl ?_
    obtain ⟨k3, ek3, bk3, h⟩ := h
    refine w_iaload (pc' := 41) (i := k3) rfl rfl q6.2 ek3 bk3 (by omega) ?_
    refine w_iastore (pc' := 42) (i := k3) rfl rfl q5.2 ek3 bk3 (by omega) ?_
    replace h := h _ rfl
    generalize xu f 413 k3 (f 412 k3) = g5 at h ⊢
    refine w_iinc (pc' := 45) rfl rfl rfl (v := (x2 + 1)) rfl (xl' := [.ref 400, .int x1, .int (x2 + 1)]) rfl ?_
    refine w_goto (pc' := 14) rfl rfl ?_
    exact h
theorem t_Mo_rootOf_0 {L : Nat} {xs : Nat → Int32} {x1 : Nat} {nx1 : Nat} {x2 : Int32} {f : Hp} {Q : Int32 → Hp → Prop} (qx1 : xS0 L x1 = (20, nx1)) (h : CV L xs xm_Mo_laysSums [.ref 404, .ref x1, .int x2] f (fun g1 => Q (g1 404 1) g1)) : CI L xs xm_Mo_rootOf [.ref 400, .ref x1, .int x2] f Q := by
  show Wp L xs xm_Mo_rootOf 0 [.ref 400, .ref x1, .int x2] [] f (QI Q)
  refine w_aload_n (pc' := 1) rfl rfl rfl ?_
  have q1 : xR0 400 19 = some 404 ∧ xS0 L 404 = (20, 16) := (kf_12_19 (show xS0 L 400 = (12, 0) from rfl))
  refine w_getR (pc' := 4) rfl rfl rfl rfl (show xS0 L 400 = (12, 0) from rfl) q1.1 ?_
  refine w_aload_n (pc' := 5) rfl rfl rfl ?_
  refine w_iload_n (pc' := 6) rfl rfl rfl ?_
  refine w_cs (pc' := 9) (cm := xm_Mo_laysSums) (as := [.ref 404, .ref x1, .int x2]) (rest := []) rfl rfl rfl (Or.inl rfl) (xa_Mo_laysSums (Nat.le_of_ble_eq_true rfl)) (CV.k h fun g1 h => ?_)
  show Wp L xs xm_Mo_rootOf 9 [.ref 400, .ref x1, .int x2] [] g1 _
  refine w_aload_n (pc' := 10) rfl rfl rfl ?_
  have q2 : xR0 400 19 = some 404 ∧ xS0 L 404 = (20, 16) := (kf_12_19 (show xS0 L 400 = (12, 0) from rfl))
  refine w_getR (pc' := 13) rfl rfl rfl rfl (show xS0 L 400 = (12, 0) from rfl) q2.1 ?_
  refine w_iconst (pc' := 14) rfl rfl (v := 1) rfl ?_
  refine w_iaload (pc' := 15) (i := 1) rfl rfl q2.2 rfl (by omega) (by omega) ?_
  exact w_ireturn rfl rfl h
theorem t_Mo_counts_0 {L : Nat} {xs : Nat → Int32} {x1 : Int32} {f : Hp} {Q : Hp → Prop}  (h : Wp L xs xm_Mo_counts 2 [.ref 400, .int x1, .int 0, .retAddr 0, .retAddr 0, .retAddr 0] [] f (QV Q)) : CV L xs xm_Mo_counts [.ref 400, .int x1] f Q := by
  show Wp L xs xm_Mo_counts 0 [.ref 400, .int x1, .retAddr 0, .retAddr 0, .retAddr 0, .retAddr 0] [] f (QV Q)
  refine w_iconst (pc' := 1) rfl rfl (v := 0) rfl ?_
  refine w_istore_n (pc' := 2) rfl rfl (xl' := [.ref 400, .int x1, .int 0, .retAddr 0, .retAddr 0, .retAddr 0]) rfl ?_
  exact h
theorem t_Mo_counts_2 {L : Nat} {xs : Nat → Int32} {x1 : Int32} {x2 : Int32} {x3 : Value} {x4 : Value} {x5 : Value} {f : Hp} {Q : Hp → Prop} (cx3 : (x3.category != 2) = true) (cx4 : (x4.category != 2) = true) (cx5 : (x5.category != 2) = true) (h : ((x2 < (f 400 13) → ∃ k1 : Nat, ((7 * x1) + x2) = iN k1 ∧ k1 < 49 ∧ (((f 420 k1) = (-1) → Wp L xs xm_Mo_counts 2 [.ref 400, .int x1, .int (x2 + 1), .int (f 420 k1), x4, x5] [] f (QV Q)) ∧ (¬ (f 420 k1) = (-1) → ∃ k2 : Nat, x1 = iN k2 ∧ k2 < 7 ∧ (((f 408 k2) < (f 420 k1) → Wp L xs xm_Mo_counts 46 [.ref 400, .int x1, .int x2, .int (f 420 k1), .int 0, .int 0] [] f (QV Q)) ∧ (¬ (f 408 k2) < (f 420 k1) → Wp L xs xm_Mo_counts 2 [.ref 400, .int x1, .int (x2 + 1), .int (f 420 k1), x4, x5] [] f (QV Q)))))) ∧ (¬ x2 < (f 400 13) → Q f))) : Wp L xs xm_Mo_counts 2 [.ref 400, .int x1, .int x2, x3, x4, x5] [] f (QV Q) := by
  refine w_iload_n (pc' := 3) rfl rfl rfl ?_
  refine w_aload_n (pc' := 4) rfl rfl rfl ?_
  refine w_getI (pc' := 7) rfl rfl rfl rfl rfl (show xS0 L 400 = (12, 0) from rfl) ?_
  refine w_br2 (pc' := 10) (t := 134) rfl rfl rfl ic_ge (fun hc => ?_) (fun hc => ?_)
  · replace h := h.2 hc
    exact w_return rfl rfl h
  · replace h := h.1 (Classical.not_not.mp hc)
    refine w_aload_n (pc' := 11) rfl rfl rfl ?_
    have q1 : xR0 400 37 = some 420 ∧ xS0 L 420 = (20, 49) := (kf_12_37 (show xS0 L 400 = (12, 0) from rfl))
    refine w_getR (pc' := 14) rfl rfl rfl rfl (show xS0 L 400 = (12, 0) from rfl) q1.1 ?_
    refine w_bipush (pc' := 16) rfl rfl (v := 7) rfl ?_
    refine w_iload_n (pc' := 17) rfl rfl rfl ?_
    refine w_imul (pc' := 18) rfl rfl ?_
    refine w_iload_n (pc' := 19) rfl rfl rfl ?_
    refine w_iadd (pc' := 20) rfl rfl ?_
    obtain ⟨k1, ek1, bk1, h⟩ := h
    refine w_iaload (pc' := 21) (i := k1) rfl rfl q1.2 ek1 bk1 (by omega) ?_
    refine w_istore_n (pc' := 22) rfl rfl (xl' := [.ref 400, .int x1, .int x2, .int (f 420 k1), x4, x5]) rfl ?_
    refine w_iload_n (pc' := 23) rfl rfl rfl ?_
    refine w_iconst (pc' := 24) rfl rfl (v := (-1)) rfl ?_
    refine w_br2 (pc' := 27) (t := 128) rfl rfl rfl ic_eq (fun hc => ?_) (fun hc => ?_)
    · replace h := h.1 hc
      refine w_iinc (pc' := 131) rfl rfl rfl (v := (x2 + 1)) rfl (xl' := [.ref 400, .int x1, .int (x2 + 1), .int (f 420 k1), x4, x5]) rfl ?_
      refine w_goto (pc' := 2) rfl rfl ?_
      exact h
    · replace h := h.2 hc
      refine w_iload_n (pc' := 28) rfl rfl rfl ?_
      refine w_aload_n (pc' := 29) rfl rfl rfl ?_
      have q2 : xR0 400 25 = some 408 ∧ xS0 L 408 = (20, 7) := (kf_12_25 (show xS0 L 400 = (12, 0) from rfl))
      refine w_getR (pc' := 32) rfl rfl rfl rfl (show xS0 L 400 = (12, 0) from rfl) q2.1 ?_
      refine w_iload_n (pc' := 33) rfl rfl rfl ?_
      obtain ⟨k2, ek2, bk2, h⟩ := h
      refine w_iaload (pc' := 34) (i := k2) rfl rfl q2.2 ek2 bk2 (by omega) ?_
      refine w_br2 (pc' := 37) (t := 40) rfl rfl rfl ic_gt (fun hc => ?_) (fun hc => ?_)
      · replace h := h.1 hc
        refine w_iconst (pc' := 41) rfl rfl (v := 0) rfl ?_
        refine w_istore (pc' := 43) rfl rfl (xl' := [.ref 400, .int x1, .int x2, .int (f 420 k1), .int 0, x5]) rfl ?_
        refine w_iconst (pc' := 44) rfl rfl (v := 0) rfl ?_
        refine w_istore (pc' := 46) rfl rfl (xl' := [.ref 400, .int x1, .int x2, .int (f 420 k1), .int 0, .int 0]) rfl ?_
        exact h
      · replace h := h.2 hc
        refine w_goto (pc' := 128) rfl rfl ?_
        refine w_iinc (pc' := 131) rfl rfl rfl (v := (x2 + 1)) rfl (xl' := [.ref 400, .int x1, .int (x2 + 1), .int (f 420 k1), x4, x5]) rfl ?_
        refine w_goto (pc' := 2) rfl rfl ?_
        exact h
theorem t_Mo_counts_46 {L : Nat} {xs : Nat → Int32} {x1 : Int32} {x2 : Int32} {x3 : Int32} {x4 : Int32} {x5 : Int32} {f : Hp} {Q : Hp → Prop}  (h : ((x5 < (f 400 13) → ∃ k1 : Nat, ((7 * x1) + x5) = iN k1 ∧ k1 < 49 ∧ (((f 420 k1) = x3 → ∃ k2 : Nat, ((7 * x1) + x2) = iN k2 ∧ k2 < 49 ∧ (((f 421 k1) = (f 421 k2) → Wp L xs xm_Mo_counts 46 [.ref 400, .int x1, .int x2, .int x3, .int (x4 + 1), .int (x5 + 1)] [] f (QV Q)) ∧ (¬ (f 421 k1) = (f 421 k2) → Wp L xs xm_Mo_counts 46 [.ref 400, .int x1, .int x2, .int x3, .int (x4 + 0), .int (x5 + 1)] [] f (QV Q)))) ∧ (¬ (f 420 k1) = x3 → Wp L xs xm_Mo_counts 46 [.ref 400, .int x1, .int x2, .int x3, .int (x4 + 0), .int (x5 + 1)] [] f (QV Q)))) ∧ (¬ x5 < (f 400 13) → ((x4 < (f 400 14) → Wp L xs xm_Mo_counts 2 [.ref 400, .int x1, .int (x2 + 1), .int x3, .int x4, .int x5] [] f (QV Q)) ∧ (¬ x4 < (f 400 14) → CV L xs xm_Mo_cuts [.ref 400, .int x1, .int x3] f (fun g1 => Wp L xs xm_Mo_counts 2 [.ref 400, .int x1, .int (x2 + 1), .int x3, .int x4, .int x5] [] g1 (QV Q))))))) : Wp L xs xm_Mo_counts 46 [.ref 400, .int x1, .int x2, .int x3, .int x4, .int x5] [] f (QV Q) := by
  refine w_iload (pc' := 48) rfl rfl rfl ?_
  refine w_aload_n (pc' := 49) rfl rfl rfl ?_
  refine w_getI (pc' := 52) rfl rfl rfl rfl rfl (show xS0 L 400 = (12, 0) from rfl) ?_
  refine w_br2 (pc' := 55) (t := 113) rfl rfl rfl ic_ge (fun hc => ?_) (fun hc => ?_)
  · replace h := h.2 hc
    refine w_iload (pc' := 115) rfl rfl rfl ?_
    refine w_aload_n (pc' := 116) rfl rfl rfl ?_
    refine w_getI (pc' := 119) rfl rfl rfl rfl rfl (show xS0 L 400 = (12, 0) from rfl) ?_
    refine w_br2 (pc' := 122) (t := 128) rfl rfl rfl ic_lt (fun hc => ?_) (fun hc => ?_)
    · replace h := h.1 hc
      refine w_iinc (pc' := 131) rfl rfl rfl (v := (x2 + 1)) rfl (xl' := [.ref 400, .int x1, .int (x2 + 1), .int x3, .int x4, .int x5]) rfl ?_
      refine w_goto (pc' := 2) rfl rfl ?_
      exact h
    · replace h := h.2 hc
      refine w_aload_n (pc' := 123) rfl rfl rfl ?_
      refine w_iload_n (pc' := 124) rfl rfl rfl ?_
      refine w_iload_n (pc' := 125) rfl rfl rfl ?_
      refine w_cv (pc' := 128) (cm := xm_Mo_cuts) (as := [.int x1, .int x3]) (a := 400) (rest := []) rfl rfl rfl  (xa_Mo_cuts (Nat.le_of_ble_eq_true rfl)) (show xS0 L 400 = (12, 0) from rfl) rfl (CV.k h fun g1 h => ?_)
      show Wp L xs xm_Mo_counts 128 [.ref 400, .int x1, .int x2, .int x3, .int x4, .int x5] [] g1 _
      refine w_iinc (pc' := 131) rfl rfl rfl (v := (x2 + 1)) rfl (xl' := [.ref 400, .int x1, .int (x2 + 1), .int x3, .int x4, .int x5]) rfl ?_
      refine w_goto (pc' := 2) rfl rfl ?_
      exact h
  · replace h := h.1 (Classical.not_not.mp hc)
    refine w_iload (pc' := 57) rfl rfl rfl ?_
    refine w_aload_n (pc' := 58) rfl rfl rfl ?_
    have q1 : xR0 400 37 = some 420 ∧ xS0 L 420 = (20, 49) := (kf_12_37 (show xS0 L 400 = (12, 0) from rfl))
    refine w_getR (pc' := 61) rfl rfl rfl rfl (show xS0 L 400 = (12, 0) from rfl) q1.1 ?_
    refine w_bipush (pc' := 63) rfl rfl (v := 7) rfl ?_
    refine w_iload_n (pc' := 64) rfl rfl rfl ?_
    refine w_imul (pc' := 65) rfl rfl ?_
    refine w_iload (pc' := 67) rfl rfl rfl ?_
    refine w_iadd (pc' := 68) rfl rfl ?_
    obtain ⟨k1, ek1, bk1, h⟩ := h
    refine w_iaload (pc' := 69) (i := k1) rfl rfl q1.2 ek1 bk1 (by omega) ?_
    refine w_iload_n (pc' := 70) rfl rfl rfl ?_
    refine w_br2 (pc' := 73) (t := 103) rfl rfl rfl ic_ne (fun hc => ?_) (fun hc => ?_)
    · replace h := h.2 hc
      refine w_iconst (pc' := 104) rfl rfl (v := 0) rfl ?_
      refine w_iadd (pc' := 105) rfl rfl ?_
      refine w_istore (pc' := 107) rfl rfl (xl' := [.ref 400, .int x1, .int x2, .int x3, .int (x4 + 0), .int x5]) rfl ?_
      refine w_iinc (pc' := 110) rfl rfl rfl (v := (x5 + 1)) rfl (xl' := [.ref 400, .int x1, .int x2, .int x3, .int (x4 + 0), .int (x5 + 1)]) rfl ?_
      refine w_goto (pc' := 46) rfl rfl ?_
      exact h
    · replace h := h.1 (Classical.not_not.mp hc)
      refine w_aload_n (pc' := 74) rfl rfl rfl ?_
      have q2 : xR0 400 38 = some 421 ∧ xS0 L 421 = (20, 49) := (kf_12_38 (show xS0 L 400 = (12, 0) from rfl))
      refine w_getR (pc' := 77) rfl rfl rfl rfl (show xS0 L 400 = (12, 0) from rfl) q2.1 ?_
      refine w_bipush (pc' := 79) rfl rfl (v := 7) rfl ?_
      refine w_iload_n (pc' := 80) rfl rfl rfl ?_
      refine w_imul (pc' := 81) rfl rfl ?_
      refine w_iload (pc' := 83) rfl rfl rfl ?_
      refine w_iadd (pc' := 84) rfl rfl ?_
      refine w_iaload (pc' := 85) (i := k1) rfl rfl q2.2 ek1 bk1 (by omega) ?_
      refine w_aload_n (pc' := 86) rfl rfl rfl ?_
      have q3 : xR0 400 38 = some 421 ∧ xS0 L 421 = (20, 49) := (kf_12_38 (show xS0 L 400 = (12, 0) from rfl))
      refine w_getR (pc' := 89) rfl rfl rfl rfl (show xS0 L 400 = (12, 0) from rfl) q3.1 ?_
      refine w_bipush (pc' := 91) rfl rfl (v := 7) rfl ?_
      refine w_iload_n (pc' := 92) rfl rfl rfl ?_
      refine w_imul (pc' := 93) rfl rfl ?_
      refine w_iload_n (pc' := 94) rfl rfl rfl ?_
      refine w_iadd (pc' := 95) rfl rfl ?_
      obtain ⟨k2, ek2, bk2, h⟩ := h
      refine w_iaload (pc' := 96) (i := k2) rfl rfl q3.2 ek2 bk2 (by omega) ?_
      refine w_br2 (pc' := 99) (t := 103) rfl rfl rfl ic_ne (fun hc => ?_) (fun hc => ?_)
      · replace h := h.2 hc
        refine w_iconst (pc' := 104) rfl rfl (v := 0) rfl ?_
        refine w_iadd (pc' := 105) rfl rfl ?_
        refine w_istore (pc' := 107) rfl rfl (xl' := [.ref 400, .int x1, .int x2, .int x3, .int (x4 + 0), .int x5]) rfl ?_
        refine w_iinc (pc' := 110) rfl rfl rfl (v := (x5 + 1)) rfl (xl' := [.ref 400, .int x1, .int x2, .int x3, .int (x4 + 0), .int (x5 + 1)]) rfl ?_
        refine w_goto (pc' := 46) rfl rfl ?_
        exact h
      · replace h := h.1 (Classical.not_not.mp hc)
        refine w_iconst (pc' := 100) rfl rfl (v := 1) rfl ?_
        refine w_goto (pc' := 104) rfl rfl ?_
        refine w_iadd (pc' := 105) rfl rfl ?_
        refine w_istore (pc' := 107) rfl rfl (xl' := [.ref 400, .int x1, .int x2, .int x3, .int (x4 + 1), .int x5]) rfl ?_
        refine w_iinc (pc' := 110) rfl rfl rfl (v := (x5 + 1)) rfl (xl' := [.ref 400, .int x1, .int x2, .int x3, .int (x4 + 1), .int (x5 + 1)]) rfl ?_
        refine w_goto (pc' := 46) rfl rfl ?_
        exact h
theorem t_Mo_cuts_0 {L : Nat} {xs : Nat → Int32} {x1 : Int32} {x2 : Int32} {f : Hp} {Q : Hp → Prop}  (h : ∃ k1 : Nat, x1 = iN k1 ∧ k1 < 7 ∧ ∀ g1, g1 = xu f 408 k1 x2 → Wp L xs xm_Mo_cuts 9 [.ref 400, .int x1, .int x2, .int 1] [] g1 (QV Q)) : CV L xs xm_Mo_cuts [.ref 400, .int x1, .int x2] f Q := by
  show Wp L xs xm_Mo_cuts 0 [.ref 400, .int x1, .int x2, .retAddr 0] [] f (QV Q)
  refine w_aload_n (pc' := 1) rfl rfl rfl ?_
  have q1 : xR0 400 25 = some 408 ∧ xS0 L 408 = (20, 7) := (kf_12_25 (show xS0 L 400 = (12, 0) from rfl))
  refine w_getR (pc' := 4) rfl rfl rfl rfl (show xS0 L 400 = (12, 0) from rfl) q1.1 ?_
  refine w_iload_n (pc' := 5) rfl rfl rfl ?_
  refine w_iload_n (pc' := 6) rfl rfl rfl ?_
  obtain ⟨k1, ek1, bk1, h⟩ := h
  refine w_iastore (pc' := 7) (i := k1) rfl rfl q1.2 ek1 bk1 (by omega) ?_
  replace h := h _ rfl
  generalize xu f 408 k1 x2 = g1 at h ⊢
  refine w_iconst (pc' := 8) rfl rfl (v := 1) rfl ?_
  refine w_istore_n (pc' := 9) rfl rfl (xl' := [.ref 400, .int x1, .int x2, .int 1]) rfl ?_
  exact h
theorem t_Mo_cuts_9 {L : Nat} {xs : Nat → Int32} {x1 : Int32} {x2 : Int32} {x3 : Int32} {f : Hp} {Q : Hp → Prop}  (h : ((x3 < 13 → ((x2 < x3 → Q f) ∧ (¬ x2 < x3 → CV L xs xm_Mo_forgets [.ref 400, .int x1, .int x3] f (fun g1 => CI L xs xm_Mo_at [.int x1, .int x3] g1 (fun v1 g2 => ∃ k1 : Nat, v1 = iN k1 ∧ k1 < 91 ∧ ∀ g3, g3 = xu g2 417 k1 (-1) → CI L xs xm_Mo_at [.int x1, .int x3] g3 (fun v2 g4 => ∃ k2 : Nat, v2 = iN k2 ∧ k2 < 91 ∧ ∀ g5, g5 = xu g4 418 k2 (-1) → Wp L xs xm_Mo_cuts 9 [.ref 400, .int x1, .int x2, .int (x3 + 1)] [] g5 (QV Q))))))) ∧ (¬ x3 < 13 → Q f))) : Wp L xs xm_Mo_cuts 9 [.ref 400, .int x1, .int x2, .int x3] [] f (QV Q) := by
  refine w_iload_n (pc' := 10) rfl rfl rfl ?_
  refine w_bipush (pc' := 12) rfl rfl (v := 13) rfl ?_
  refine w_br2 (pc' := 15) (t := 54) rfl rfl rfl ic_ge (fun hc => ?_) (fun hc => ?_)
  · replace h := h.2 hc
    exact w_return rfl rfl h
  · replace h := h.1 (Classical.not_not.mp hc)
    refine w_iload_n (pc' := 16) rfl rfl rfl ?_
    refine w_iload_n (pc' := 17) rfl rfl rfl ?_
    refine w_br2 (pc' := 20) (t := 54) rfl rfl rfl ic_gt (fun hc => ?_) (fun hc => ?_)
    · replace h := h.1 hc
      exact w_return rfl rfl h
    · replace h := h.2 hc
      refine w_aload_n (pc' := 21) rfl rfl rfl ?_
      refine w_iload_n (pc' := 22) rfl rfl rfl ?_
      refine w_iload_n (pc' := 23) rfl rfl rfl ?_
      refine w_cv (pc' := 26) (cm := xm_Mo_forgets) (as := [.int x1, .int x3]) (a := 400) (rest := []) rfl rfl rfl  (xa_Mo_forgets (Nat.le_of_ble_eq_true rfl)) (show xS0 L 400 = (12, 0) from rfl) rfl (CV.k h fun g1 h => ?_)
      show Wp L xs xm_Mo_cuts 26 [.ref 400, .int x1, .int x2, .int x3] [] g1 _
      refine w_aload_n (pc' := 27) rfl rfl rfl ?_
      have q1 : xR0 400 34 = some 417 ∧ xS0 L 417 = (20, 91) := (kf_12_34 (show xS0 L 400 = (12, 0) from rfl))
      refine w_getR (pc' := 30) rfl rfl rfl rfl (show xS0 L 400 = (12, 0) from rfl) q1.1 ?_
      refine w_iload_n (pc' := 31) rfl rfl rfl ?_
      refine w_iload_n (pc' := 32) rfl rfl rfl ?_
      refine w_cs (pc' := 35) (cm := xm_Mo_at) (as := [.int x1, .int x3]) (rest := [.ref 417]) rfl rfl rfl (Or.inl rfl) (xa_Mo_at (Nat.le_of_ble_eq_true rfl)) (CI.k h fun v1 g2 h => ?_)
      show Wp L xs xm_Mo_cuts 35 [.ref 400, .int x1, .int x2, .int x3] [.int v1, .ref 417] g2 _
      refine w_iconst (pc' := 36) rfl rfl (v := (-1)) rfl ?_
      obtain ⟨k1, ek1, bk1, h⟩ := h
      refine w_iastore (pc' := 37) (i := k1) rfl rfl q1.2 ek1 bk1 (by omega) ?_
      replace h := h _ rfl
      generalize xu g2 417 k1 (-1) = g3 at h ⊢
      refine w_aload_n (pc' := 38) rfl rfl rfl ?_
      have q2 : xR0 400 35 = some 418 ∧ xS0 L 418 = (20, 91) := (kf_12_35 (show xS0 L 400 = (12, 0) from rfl))
      refine w_getR (pc' := 41) rfl rfl rfl rfl (show xS0 L 400 = (12, 0) from rfl) q2.1 ?_
      refine w_iload_n (pc' := 42) rfl rfl rfl ?_
      refine w_iload_n (pc' := 43) rfl rfl rfl ?_
      refine w_cs (pc' := 46) (cm := xm_Mo_at) (as := [.int x1, .int x3]) (rest := [.ref 418]) rfl rfl rfl (Or.inl rfl) (xa_Mo_at (Nat.le_of_ble_eq_true rfl)) (CI.k h fun v2 g4 h => ?_)
      show Wp L xs xm_Mo_cuts 46 [.ref 400, .int x1, .int x2, .int x3] [.int v2, .ref 418] g4 _
      refine w_iconst (pc' := 47) rfl rfl (v := (-1)) rfl ?_
      obtain ⟨k2, ek2, bk2, h⟩ := h
      refine w_iastore (pc' := 48) (i := k2) rfl rfl q2.2 ek2 bk2 (by omega) ?_
      replace h := h _ rfl
      generalize xu g4 418 k2 (-1) = g5 at h ⊢
      refine w_iinc (pc' := 51) rfl rfl rfl (v := (x3 + 1)) rfl (xl' := [.ref 400, .int x1, .int x2, .int (x3 + 1)]) rfl ?_
      refine w_goto (pc' := 9) rfl rfl ?_
      exact h
theorem t_Mo_forgets_0 {L : Nat} {xs : Nat → Int32} {x1 : Int32} {x2 : Int32} {f : Hp} {Q : Hp → Prop}  (h : CI L xs xm_Mo_at [.int x1, .int x2] f (fun v1 g1 => ∃ k1 : Nat, v1 = iN k1 ∧ k1 < 91 ∧ ∀ g2, g2 = xu g1 414 k1 (-1) → CI L xs xm_Mo_at [.int x1, .int x2] g2 (fun v2 g3 => ∃ k2 : Nat, v2 = iN k2 ∧ k2 < 91 ∧ ∀ g4, g4 = xu g3 415 k2 0 → CI L xs xm_Mo_at [.int x1, .int x2] g4 (fun v3 g5 => ∃ k3 : Nat, v3 = iN k3 ∧ k3 < 91 ∧ ∀ g6, g6 = xu g5 416 k3 0 → Q g6)))) : CV L xs xm_Mo_forgets [.ref 400, .int x1, .int x2] f Q := by
  show Wp L xs xm_Mo_forgets 0 [.ref 400, .int x1, .int x2] [] f (QV Q)
  refine w_aload_n (pc' := 1) rfl rfl rfl ?_
  have q1 : xR0 400 31 = some 414 ∧ xS0 L 414 = (20, 91) := (kf_12_31 (show xS0 L 400 = (12, 0) from rfl))
  refine w_getR (pc' := 4) rfl rfl rfl rfl (show xS0 L 400 = (12, 0) from rfl) q1.1 ?_
  refine w_iload_n (pc' := 5) rfl rfl rfl ?_
  refine w_iload_n (pc' := 6) rfl rfl rfl ?_
  refine w_cs (pc' := 9) (cm := xm_Mo_at) (as := [.int x1, .int x2]) (rest := [.ref 414]) rfl rfl rfl (Or.inl rfl) (xa_Mo_at (Nat.le_of_ble_eq_true rfl)) (CI.k h fun v1 g1 h => ?_)
  show Wp L xs xm_Mo_forgets 9 [.ref 400, .int x1, .int x2] [.int v1, .ref 414] g1 _
  refine w_iconst (pc' := 10) rfl rfl (v := (-1)) rfl ?_
  obtain ⟨k1, ek1, bk1, h⟩ := h
  refine w_iastore (pc' := 11) (i := k1) rfl rfl q1.2 ek1 bk1 (by omega) ?_
  replace h := h _ rfl
  generalize xu g1 414 k1 (-1) = g2 at h ⊢
  refine w_aload_n (pc' := 12) rfl rfl rfl ?_
  have q2 : xR0 400 32 = some 415 ∧ xS0 L 415 = (20, 91) := (kf_12_32 (show xS0 L 400 = (12, 0) from rfl))
  refine w_getR (pc' := 15) rfl rfl rfl rfl (show xS0 L 400 = (12, 0) from rfl) q2.1 ?_
  refine w_iload_n (pc' := 16) rfl rfl rfl ?_
  refine w_iload_n (pc' := 17) rfl rfl rfl ?_
  refine w_cs (pc' := 20) (cm := xm_Mo_at) (as := [.int x1, .int x2]) (rest := [.ref 415]) rfl rfl rfl (Or.inl rfl) (xa_Mo_at (Nat.le_of_ble_eq_true rfl)) (CI.k h fun v2 g3 h => ?_)
  show Wp L xs xm_Mo_forgets 20 [.ref 400, .int x1, .int x2] [.int v2, .ref 415] g3 _
  refine w_iconst (pc' := 21) rfl rfl (v := 0) rfl ?_
  obtain ⟨k2, ek2, bk2, h⟩ := h
  refine w_iastore (pc' := 22) (i := k2) rfl rfl q2.2 ek2 bk2 (by omega) ?_
  replace h := h _ rfl
  generalize xu g3 415 k2 0 = g4 at h ⊢
  refine w_aload_n (pc' := 23) rfl rfl rfl ?_
  have q3 : xR0 400 33 = some 416 ∧ xS0 L 416 = (20, 91) := (kf_12_33 (show xS0 L 400 = (12, 0) from rfl))
  refine w_getR (pc' := 26) rfl rfl rfl rfl (show xS0 L 400 = (12, 0) from rfl) q3.1 ?_
  refine w_iload_n (pc' := 27) rfl rfl rfl ?_
  refine w_iload_n (pc' := 28) rfl rfl rfl ?_
  refine w_cs (pc' := 31) (cm := xm_Mo_at) (as := [.int x1, .int x2]) (rest := [.ref 416]) rfl rfl rfl (Or.inl rfl) (xa_Mo_at (Nat.le_of_ble_eq_true rfl)) (CI.k h fun v3 g5 h => ?_)
  show Wp L xs xm_Mo_forgets 31 [.ref 400, .int x1, .int x2] [.int v3, .ref 416] g5 _
  refine w_iconst (pc' := 32) rfl rfl (v := 0) rfl ?_
  obtain ⟨k3, ek3, bk3, h⟩ := h
  refine w_iastore (pc' := 33) (i := k3) rfl rfl q3.2 ek3 bk3 (by omega) ?_
  replace h := h _ rfl
  generalize xu g5 416 k3 0 = g6 at h ⊢
  exact w_return rfl rfl h
theorem t_Mo_marks_0 {L : Nat} {xs : Nat → Int32} {x1 : Int32} {x2 : Int32} {f : Hp} {Q : Int32 → Hp → Prop}  (h : CI L xs xm_Mo_isLiar [.ref 400, .int x2] f (fun v1 g1 => ((v1 = 0 → CI L xs xm_Mo_isLiar [.ref 400, .int x1] g1 (fun v2 g2 => ((v2 = 0 → Wp L xs xm_Mo_marks 23 [.ref 400, .int x1, .int x2, .retAddr 0, .retAddr 0] [.int x1] g2 (QI Q)) ∧ (¬ v2 = 0 → Wp L xs xm_Mo_marks 23 [.ref 400, .int x1, .int x2, .retAddr 0, .retAddr 0] [.int x2] g2 (QI Q))))) ∧ (¬ v1 = 0 → Q 0 g1)))) : CI L xs xm_Mo_marks [.ref 400, .int x1, .int x2] f Q := by
  show Wp L xs xm_Mo_marks 0 [.ref 400, .int x1, .int x2, .retAddr 0, .retAddr 0] [] f (QI Q)
  refine w_aload_n (pc' := 1) rfl rfl rfl ?_
  refine w_iload_n (pc' := 2) rfl rfl rfl ?_
  refine w_cv (pc' := 5) (cm := xm_Mo_isLiar) (as := [.int x2]) (a := 400) (rest := []) rfl rfl rfl  (xa_Mo_isLiar (Nat.le_of_ble_eq_true rfl)) (show xS0 L 400 = (12, 0) from rfl) rfl (CI.k h fun v1 g1 h => ?_)
  show Wp L xs xm_Mo_marks 5 [.ref 400, .int x1, .int x2, .retAddr 0, .retAddr 0] [.int v1] g1 _
  refine w_br (pc' := 8) (t := 10) rfl rfl rfl ic_eq (fun hc => ?_) (fun hc => ?_)
  · replace h := h.1 hc
    refine w_aload_n (pc' := 11) rfl rfl rfl ?_
    refine w_iload_n (pc' := 12) rfl rfl rfl ?_
    refine w_cv (pc' := 15) (cm := xm_Mo_isLiar) (as := [.int x1]) (a := 400) (rest := []) rfl rfl rfl  (xa_Mo_isLiar (Nat.le_of_ble_eq_true rfl)) (show xS0 L 400 = (12, 0) from rfl) rfl (CI.k h fun v2 g2 h => ?_)
    show Wp L xs xm_Mo_marks 15 [.ref 400, .int x1, .int x2, .retAddr 0, .retAddr 0] [.int v2] g2 _
    refine w_br (pc' := 18) (t := 22) rfl rfl rfl ic_eq (fun hc => ?_) (fun hc => ?_)
    · replace h := h.1 hc
      refine w_iload_n (pc' := 23) rfl rfl rfl ?_
      exact h
    · replace h := h.2 hc
      refine w_iload_n (pc' := 19) rfl rfl rfl ?_
      refine w_goto (pc' := 23) rfl rfl ?_
      exact h
  · replace h := h.2 hc
    refine w_iconst (pc' := 9) rfl rfl (v := 0) rfl ?_
    exact w_ireturn rfl rfl h
theorem t_Mo_marks_23 {L : Nat} {xs : Nat → Int32} {x1 : Int32} {x2 : Int32} {s0 : Int32} {f : Hp} {Q : Int32 → Hp → Prop}  (h : ∃ k1 : Nat, s0 = iN k1 ∧ k1 < 7 ∧ (((f 411 k1) = (-1) → Q 0 f) ∧ (¬ (f 411 k1) = (-1) → ∃ k2 : Nat, x2 = iN k2 ∧ k2 < 7 ∧ (((f 408 k2) < (f 411 k1) → CI L xs xm_Mo_rootOf [.ref 400, .ref 413, .int (8 * s0)] f (fun v1 g1 => ∃ k3 : Nat, ((7 * x2) + x1) = iN k3 ∧ k3 < 49 ∧ (((g1 420 k3) = (g1 411 k1) → (((g1 421 k3) = v1 → Q 0 g1) ∧ (¬ (g1 421 k3) = v1 → Wp L xs xm_Mo_marks 103 [.ref 400, .int x1, .int x2, .int s0, .int v1] [] g1 (QI Q)))) ∧ (¬ (g1 420 k3) = (g1 411 k1) → Wp L xs xm_Mo_marks 103 [.ref 400, .int x1, .int x2, .int s0, .int v1] [] g1 (QI Q))))) ∧ (¬ (f 408 k2) < (f 411 k1) → Q 0 f))))) : Wp L xs xm_Mo_marks 23 [.ref 400, .int x1, .int x2, .retAddr 0, .retAddr 0] [.int s0] f (QI Q) := by
  refine w_istore_n (pc' := 24) rfl rfl (xl' := [.ref 400, .int x1, .int x2, .int s0, .retAddr 0]) rfl ?_
  refine w_aload_n (pc' := 25) rfl rfl rfl ?_
  have q1 : xR0 400 28 = some 411 ∧ xS0 L 411 = (20, 7) := (kf_12_28 (show xS0 L 400 = (12, 0) from rfl))
  refine w_getR (pc' := 28) rfl rfl rfl rfl (show xS0 L 400 = (12, 0) from rfl) q1.1 ?_
  refine w_iload_n (pc' := 29) rfl rfl rfl ?_
  obtain ⟨k1, ek1, bk1, h⟩ := h
  refine w_iaload (pc' := 30) (i := k1) rfl rfl q1.2 ek1 bk1 (by omega) ?_
  refine w_iconst (pc' := 31) rfl rfl (v := (-1)) rfl ?_
  refine w_br2 (pc' := 34) (t := 49) rfl rfl rfl ic_eq (fun hc => ?_) (fun hc => ?_)
  · replace h := h.1 hc
    refine w_iconst (pc' := 50) rfl rfl (v := 0) rfl ?_
    exact w_ireturn rfl rfl h
  · replace h := h.2 hc
    refine w_aload_n (pc' := 35) rfl rfl rfl ?_
    have q2 : xR0 400 28 = some 411 ∧ xS0 L 411 = (20, 7) := (kf_12_28 (show xS0 L 400 = (12, 0) from rfl))
    refine w_getR (pc' := 38) rfl rfl rfl rfl (show xS0 L 400 = (12, 0) from rfl) q2.1 ?_
    refine w_iload_n (pc' := 39) rfl rfl rfl ?_
    refine w_iaload (pc' := 40) (i := k1) rfl rfl q2.2 ek1 bk1 (by omega) ?_
    refine w_aload_n (pc' := 41) rfl rfl rfl ?_
    have q3 : xR0 400 25 = some 408 ∧ xS0 L 408 = (20, 7) := (kf_12_25 (show xS0 L 400 = (12, 0) from rfl))
    refine w_getR (pc' := 44) rfl rfl rfl rfl (show xS0 L 400 = (12, 0) from rfl) q3.1 ?_
    refine w_iload_n (pc' := 45) rfl rfl rfl ?_
    obtain ⟨k2, ek2, bk2, h⟩ := h
    refine w_iaload (pc' := 46) (i := k2) rfl rfl q3.2 ek2 bk2 (by omega) ?_
    refine w_br2 (pc' := 49) (t := 51) rfl rfl rfl ic_gt (fun hc => ?_) (fun hc => ?_)
    · replace h := h.1 hc
      refine w_aload_n (pc' := 52) rfl rfl rfl ?_
      refine w_aload_n (pc' := 53) rfl rfl rfl ?_
      have q4 : xR0 400 30 = some 413 ∧ xS0 L 413 = (20, 56) := (kf_12_30 (show xS0 L 400 = (12, 0) from rfl))
      refine w_getR (pc' := 56) rfl rfl rfl rfl (show xS0 L 400 = (12, 0) from rfl) q4.1 ?_
      refine w_bipush (pc' := 58) rfl rfl (v := 8) rfl ?_
      refine w_iload_n (pc' := 59) rfl rfl rfl ?_
      refine w_imul (pc' := 60) rfl rfl ?_
      refine w_cv (pc' := 63) (cm := xm_Mo_rootOf) (as := [.ref 413, .int (8 * s0)]) (a := 400) (rest := []) rfl rfl rfl  (xa_Mo_rootOf (Nat.le_of_ble_eq_true rfl)) (show xS0 L 400 = (12, 0) from rfl) rfl (CI.k h fun v1 g1 h => ?_)
      show Wp L xs xm_Mo_marks 63 [.ref 400, .int x1, .int x2, .int s0, .retAddr 0] [.int v1] g1 _
      refine w_istore (pc' := 65) rfl rfl (xl' := [.ref 400, .int x1, .int x2, .int s0, .int v1]) rfl ?_
      refine w_aload_n (pc' := 66) rfl rfl rfl ?_
      have q5 : xR0 400 37 = some 420 ∧ xS0 L 420 = (20, 49) := (kf_12_37 (show xS0 L 400 = (12, 0) from rfl))
      refine w_getR (pc' := 69) rfl rfl rfl rfl (show xS0 L 400 = (12, 0) from rfl) q5.1 ?_
      refine w_bipush (pc' := 71) rfl rfl (v := 7) rfl ?_
      refine w_iload_n (pc' := 72) rfl rfl rfl ?_
      refine w_imul (pc' := 73) rfl rfl ?_
      refine w_iload_n (pc' := 74) rfl rfl rfl ?_
      refine w_iadd (pc' := 75) rfl rfl ?_
      obtain ⟨k3, ek3, bk3, h⟩ := h
      refine w_iaload (pc' := 76) (i := k3) rfl rfl q5.2 ek3 bk3 (by omega) ?_
      refine w_aload_n (pc' := 77) rfl rfl rfl ?_
      have q6 : xR0 400 28 = some 411 ∧ xS0 L 411 = (20, 7) := (kf_12_28 (show xS0 L 400 = (12, 0) from rfl))
      refine w_getR (pc' := 80) rfl rfl rfl rfl (show xS0 L 400 = (12, 0) from rfl) q6.1 ?_
      refine w_iload_n (pc' := 81) rfl rfl rfl ?_
      refine w_iaload (pc' := 82) (i := k1) rfl rfl q6.2 ek1 bk1 (by omega) ?_
      refine w_br2 (pc' := 85) (t := 103) rfl rfl rfl ic_ne (fun hc => ?_) (fun hc => ?_)
      · replace h := h.2 hc
        exact h
      · replace h := h.1 (Classical.not_not.mp hc)
        refine w_aload_n (pc' := 86) rfl rfl rfl ?_
        have q7 : xR0 400 38 = some 421 ∧ xS0 L 421 = (20, 49) := (kf_12_38 (show xS0 L 400 = (12, 0) from rfl))
        refine w_getR (pc' := 89) rfl rfl rfl rfl (show xS0 L 400 = (12, 0) from rfl) q7.1 ?_
        refine w_bipush (pc' := 91) rfl rfl (v := 7) rfl ?_
        refine w_iload_n (pc' := 92) rfl rfl rfl ?_
        refine w_imul (pc' := 93) rfl rfl ?_
        refine w_iload_n (pc' := 94) rfl rfl rfl ?_
        refine w_iadd (pc' := 95) rfl rfl ?_
        refine w_iaload (pc' := 96) (i := k3) rfl rfl q7.2 ek3 bk3 (by omega) ?_
        refine w_iload (pc' := 98) rfl rfl rfl ?_
        refine w_br2 (pc' := 101) (t := 103) rfl rfl rfl ic_ne (fun hc => ?_) (fun hc => ?_)
        · replace h := h.2 hc
          exact h
        · replace h := h.1 (Classical.not_not.mp hc)
          refine w_iconst (pc' := 102) rfl rfl (v := 0) rfl ?_
          exact w_ireturn rfl rfl h
    · replace h := h.2 hc
      refine w_iconst (pc' := 50) rfl rfl (v := 0) rfl ?_
      exact w_ireturn rfl rfl h
theorem t_Mo_marks_103 {L : Nat} {xs : Nat → Int32} {x1 : Int32} {x2 : Int32} {x3 : Int32} {x4 : Int32} {f : Hp} {Q : Int32 → Hp → Prop}  (h : ∃ k1 : Nat, x3 = iN k1 ∧ k1 < 7 ∧ ∃ k2 : Nat, ((7 * x2) + x1) = iN k2 ∧ k2 < 49 ∧ ∀ g1, g1 = xu f 420 k2 (f 411 k1) → ∀ g2, g2 = xu g1 421 k2 x4 → CV L xs xm_Mo_counts [.ref 400, .int x2] g2 (fun g3 => Q 1 g3)) : Wp L xs xm_Mo_marks 103 [.ref 400, .int x1, .int x2, .int x3, .int x4] [] f (QI Q) := by
  refine w_aload_n (pc' := 104) rfl rfl rfl ?_
  have q1 : xR0 400 37 = some 420 ∧ xS0 L 420 = (20, 49) := (kf_12_37 (show xS0 L 400 = (12, 0) from rfl))
  refine w_getR (pc' := 107) rfl rfl rfl rfl (show xS0 L 400 = (12, 0) from rfl) q1.1 ?_
  refine w_bipush (pc' := 109) rfl rfl (v := 7) rfl ?_
  refine w_iload_n (pc' := 110) rfl rfl rfl ?_
  refine w_imul (pc' := 111) rfl rfl ?_
  refine w_iload_n (pc' := 112) rfl rfl rfl ?_
  refine w_iadd (pc' := 113) rfl rfl ?_
  refine w_aload_n (pc' := 114) rfl rfl rfl ?_
  have q2 : xR0 400 28 = some 411 ∧ xS0 L 411 = (20, 7) := (kf_12_28 (show xS0 L 400 = (12, 0) from rfl))
  refine w_getR (pc' := 117) rfl rfl rfl rfl (show xS0 L 400 = (12, 0) from rfl) q2.1 ?_
  refine w_iload_n (pc' := 118) rfl rfl rfl ?_
  obtain ⟨k1, ek1, bk1, h⟩ := h
  refine w_iaload (pc' := 119) (i := k1) rfl rfl q2.2 ek1 bk1 (by omega) ?_
  obtain ⟨k2, ek2, bk2, h⟩ := h
  refine w_iastore (pc' := 120) (i := k2) rfl rfl q1.2 ek2 bk2 (by omega) ?_
  replace h := h _ rfl
  generalize xu f 420 k2 (f 411 k1) = g1 at h ⊢
  refine w_aload_n (pc' := 121) rfl rfl rfl ?_
  have q3 : xR0 400 38 = some 421 ∧ xS0 L 421 = (20, 49) := (kf_12_38 (show xS0 L 400 = (12, 0) from rfl))
  refine w_getR (pc' := 124) rfl rfl rfl rfl (show xS0 L 400 = (12, 0) from rfl) q3.1 ?_
  refine w_bipush (pc' := 126) rfl rfl (v := 7) rfl ?_
  refine w_iload_n (pc' := 127) rfl rfl rfl ?_
  refine w_imul (pc' := 128) rfl rfl ?_
  refine w_iload_n (pc' := 129) rfl rfl rfl ?_
  refine w_iadd (pc' := 130) rfl rfl ?_
  refine w_iload (pc' := 132) rfl rfl rfl ?_
  refine w_iastore (pc' := 133) (i := k2) rfl rfl q3.2 ek2 bk2 (by omega) ?_
  replace h := h _ rfl
  generalize xu g1 421 k2 x4 = g2 at h ⊢
  refine w_aload_n (pc' := 134) rfl rfl rfl ?_
  refine w_iload_n (pc' := 135) rfl rfl rfl ?_
  refine w_cv (pc' := 138) (cm := xm_Mo_counts) (as := [.int x2]) (a := 400) (rest := []) rfl rfl rfl  (xa_Mo_counts (Nat.le_of_ble_eq_true rfl)) (show xS0 L 400 = (12, 0) from rfl) rfl (CV.k h fun g3 h => ?_)
  show Wp L xs xm_Mo_marks 138 [.ref 400, .int x1, .int x2, .int x3, .int x4] [] g3 _
  refine w_iconst (pc' := 139) rfl rfl (v := 1) rfl ?_
  exact w_ireturn rfl rfl h
theorem t_Mo_fetches_0 {L : Nat} {xs : Nat → Int32} {x1 : Int32} {x2 : Int32} {f : Hp} {Q : Int32 → Hp → Prop}  (h : CI L xs xm_Mo_isLiar [.ref 400, .int x1] f (fun v1 g1 => ((v1 = 0 → CI L xs xm_Mo_isLiar [.ref 400, .int x2] g1 (fun v2 g2 => ((v2 = 0 → ∃ k1 : Nat, x1 = iN k1 ∧ k1 < 7 ∧ (((g2 409 k1) < (g2 408 k1) → ∃ k2 : Nat, x2 = iN k2 ∧ k2 < 7 ∧ (((g2 411 k2) = (g2 408 k1) → CV L xs xm_Mo_laysSums [.ref 404, .ref 412, .int (8 * x1)] g2 (fun g3 => CV L xs xm_Mo_laysSums [.ref 405, .ref 413, .int (8 * x2)] g3 (fun g4 => CV L xs xm_Mo_seeks [.ref 400] g4 (fun g5 => ∀ g6, g6 = xu g5 410 k1 ((g5 410 k1) + (g5 400 21)) → Wp L xs xm_Mo_fetches 97 [.ref 400, .int x1, .int x2, .int 0] [] g6 (QI Q))))) ∧ (¬ (g2 411 k2) = (g2 408 k1) → Q 0 g2))) ∧ (¬ (g2 409 k1) < (g2 408 k1) → Q 0 g2))) ∧ (¬ v2 = 0 → Q 0 g2)))) ∧ (¬ v1 = 0 → Q 0 g1)))) : CI L xs xm_Mo_fetches [.ref 400, .int x1, .int x2] f Q := by
  show Wp L xs xm_Mo_fetches 0 [.ref 400, .int x1, .int x2, .retAddr 0] [] f (QI Q)
  refine w_aload_n (pc' := 1) rfl rfl rfl ?_
  refine w_iload_n (pc' := 2) rfl rfl rfl ?_
  refine w_cv (pc' := 5) (cm := xm_Mo_isLiar) (as := [.int x1]) (a := 400) (rest := []) rfl rfl rfl  (xa_Mo_isLiar (Nat.le_of_ble_eq_true rfl)) (show xS0 L 400 = (12, 0) from rfl) rfl (CI.k h fun v1 g1 h => ?_)
  show Wp L xs xm_Mo_fetches 5 [.ref 400, .int x1, .int x2, .retAddr 0] [.int v1] g1 _
  refine w_br (pc' := 8) (t := 46) rfl rfl rfl ic_ne (fun hc => ?_) (fun hc => ?_)
  · replace h := h.2 hc
    refine w_iconst (pc' := 47) rfl rfl (v := 0) rfl ?_
    exact w_ireturn rfl rfl h
  · replace h := h.1 (Classical.not_not.mp hc)
    refine w_aload_n (pc' := 9) rfl rfl rfl ?_
    refine w_iload_n (pc' := 10) rfl rfl rfl ?_
    refine w_cv (pc' := 13) (cm := xm_Mo_isLiar) (as := [.int x2]) (a := 400) (rest := []) rfl rfl rfl  (xa_Mo_isLiar (Nat.le_of_ble_eq_true rfl)) (show xS0 L 400 = (12, 0) from rfl) rfl (CI.k h fun v2 g2 h => ?_)
    show Wp L xs xm_Mo_fetches 13 [.ref 400, .int x1, .int x2, .retAddr 0] [.int v2] g2 _
    refine w_br (pc' := 16) (t := 46) rfl rfl rfl ic_ne (fun hc => ?_) (fun hc => ?_)
    · replace h := h.2 hc
      refine w_iconst (pc' := 47) rfl rfl (v := 0) rfl ?_
      exact w_ireturn rfl rfl h
    · replace h := h.1 (Classical.not_not.mp hc)
      refine w_aload_n (pc' := 17) rfl rfl rfl ?_
      have q1 : xR0 400 26 = some 409 ∧ xS0 L 409 = (20, 7) := (kf_12_26 (show xS0 L 400 = (12, 0) from rfl))
      refine w_getR (pc' := 20) rfl rfl rfl rfl (show xS0 L 400 = (12, 0) from rfl) q1.1 ?_
      refine w_iload_n (pc' := 21) rfl rfl rfl ?_
      obtain ⟨k1, ek1, bk1, h⟩ := h
      refine w_iaload (pc' := 22) (i := k1) rfl rfl q1.2 ek1 bk1 (by omega) ?_
      refine w_aload_n (pc' := 23) rfl rfl rfl ?_
      have q2 : xR0 400 25 = some 408 ∧ xS0 L 408 = (20, 7) := (kf_12_25 (show xS0 L 400 = (12, 0) from rfl))
      refine w_getR (pc' := 26) rfl rfl rfl rfl (show xS0 L 400 = (12, 0) from rfl) q2.1 ?_
      refine w_iload_n (pc' := 27) rfl rfl rfl ?_
      refine w_iaload (pc' := 28) (i := k1) rfl rfl q2.2 ek1 bk1 (by omega) ?_
      refine w_br2 (pc' := 31) (t := 46) rfl rfl rfl ic_ge (fun hc => ?_) (fun hc => ?_)
      · replace h := h.2 hc
        refine w_iconst (pc' := 47) rfl rfl (v := 0) rfl ?_
        exact w_ireturn rfl rfl h
      · replace h := h.1 (Classical.not_not.mp hc)
        refine w_aload_n (pc' := 32) rfl rfl rfl ?_
        have q3 : xR0 400 28 = some 411 ∧ xS0 L 411 = (20, 7) := (kf_12_28 (show xS0 L 400 = (12, 0) from rfl))
        refine w_getR (pc' := 35) rfl rfl rfl rfl (show xS0 L 400 = (12, 0) from rfl) q3.1 ?_
        refine w_iload_n (pc' := 36) rfl rfl rfl ?_
        obtain ⟨k2, ek2, bk2, h⟩ := h
        refine w_iaload (pc' := 37) (i := k2) rfl rfl q3.2 ek2 bk2 (by omega) ?_
        refine w_aload_n (pc' := 38) rfl rfl rfl ?_
        have q4 : xR0 400 25 = some 408 ∧ xS0 L 408 = (20, 7) := (kf_12_25 (show xS0 L 400 = (12, 0) from rfl))
        refine w_getR (pc' := 41) rfl rfl rfl rfl (show xS0 L 400 = (12, 0) from rfl) q4.1 ?_
        refine w_iload_n (pc' := 42) rfl rfl rfl ?_
        refine w_iaload (pc' := 43) (i := k1) rfl rfl q4.2 ek1 bk1 (by omega) ?_
        refine w_br2 (pc' := 46) (t := 48) rfl rfl rfl ic_eq (fun hc => ?_) (fun hc => ?_)
        · replace h := h.1 hc
          refine w_aload_n (pc' := 49) rfl rfl rfl ?_
          have q5 : xR0 400 19 = some 404 ∧ xS0 L 404 = (20, 16) := (kf_12_19 (show xS0 L 400 = (12, 0) from rfl))
          refine w_getR (pc' := 52) rfl rfl rfl rfl (show xS0 L 400 = (12, 0) from rfl) q5.1 ?_
          refine w_aload_n (pc' := 53) rfl rfl rfl ?_
          have q6 : xR0 400 29 = some 412 ∧ xS0 L 412 = (20, 56) := (kf_12_29 (show xS0 L 400 = (12, 0) from rfl))
          refine w_getR (pc' := 56) rfl rfl rfl rfl (show xS0 L 400 = (12, 0) from rfl) q6.1 ?_
          refine w_bipush (pc' := 58) rfl rfl (v := 8) rfl ?_
          refine w_iload_n (pc' := 59) rfl rfl rfl ?_
          refine w_imul (pc' := 60) rfl rfl ?_
          refine w_cs (pc' := 63) (cm := xm_Mo_laysSums) (as := [.ref 404, .ref 412, .int (8 * x1)]) (rest := []) rfl rfl rfl (Or.inl rfl) (xa_Mo_laysSums (Nat.le_of_ble_eq_true rfl)) (CV.k h fun g3 h => ?_)
          show Wp L xs xm_Mo_fetches 63 [.ref 400, .int x1, .int x2, .retAddr 0] [] g3 _
          refine w_aload_n (pc' := 64) rfl rfl rfl ?_
          have q7 : xR0 400 20 = some 405 ∧ xS0 L 405 = (20, 16) := (kf_12_20 (show xS0 L 400 = (12, 0) from rfl))
          refine w_getR (pc' := 67) rfl rfl rfl rfl (show xS0 L 400 = (12, 0) from rfl) q7.1 ?_
          refine w_aload_n (pc' := 68) rfl rfl rfl ?_
          have q8 : xR0 400 30 = some 413 ∧ xS0 L 413 = (20, 56) := (kf_12_30 (show xS0 L 400 = (12, 0) from rfl))
          refine w_getR (pc' := 71) rfl rfl rfl rfl (show xS0 L 400 = (12, 0) from rfl) q8.1 ?_
          refine w_bipush (pc' := 73) rfl rfl (v := 8) rfl ?_
          refine w_iload_n (pc' := 74) rfl rfl rfl ?_
          refine w_imul (pc' := 75) rfl rfl ?_
          refine w_cs (pc' := 78) (cm := xm_Mo_laysSums) (as := [.ref 405, .ref 413, .int (8 * x2)]) (rest := []) rfl rfl rfl (Or.inl rfl) (xa_Mo_laysSums (Nat.le_of_ble_eq_true rfl)) (CV.k h fun g4 h => ?_)
          show Wp L xs xm_Mo_fetches 78 [.ref 400, .int x1, .int x2, .retAddr 0] [] g4 _
          refine w_aload_n (pc' := 79) rfl rfl rfl ?_
          refine w_cv (pc' := 82) (cm := xm_Mo_seeks) (as := []) (a := 400) (rest := []) rfl rfl rfl  (xa_Mo_seeks (Nat.le_of_ble_eq_true rfl)) (show xS0 L 400 = (12, 0) from rfl) rfl (CV.k h fun g5 h => ?_)
          show Wp L xs xm_Mo_fetches 82 [.ref 400, .int x1, .int x2, .retAddr 0] [] g5 _
          refine w_aload_n (pc' := 83) rfl rfl rfl ?_
          have q9 : xR0 400 27 = some 410 ∧ xS0 L 410 = (20, 7) := (kf_12_27 (show xS0 L 400 = (12, 0) from rfl))
          refine w_getR (pc' := 86) rfl rfl rfl rfl (show xS0 L 400 = (12, 0) from rfl) q9.1 ?_
          refine w_iload_n (pc' := 87) rfl rfl rfl ?_
          refine w_dup2 (pc' := 88) rfl rfl ?_
          refine w_iaload (pc' := 89) (i := k1) rfl rfl q9.2 ek1 bk1 (by omega) ?_
          refine w_aload_n (pc' := 90) rfl rfl rfl ?_
          refine w_getI (pc' := 93) rfl rfl rfl rfl rfl (show xS0 L 400 = (12, 0) from rfl) ?_
          refine w_iadd (pc' := 94) rfl rfl ?_
          refine w_iastore (pc' := 95) (i := k1) rfl rfl q9.2 ek1 bk1 (by omega) ?_
          replace h := h _ rfl
          generalize xu g5 410 k1 ((g5 410 k1) + (g5 400 21)) = g6 at h ⊢
          refine w_iconst (pc' := 96) rfl rfl (v := 0) rfl ?_
          refine w_istore_n (pc' := 97) rfl rfl (xl' := [.ref 400, .int x1, .int x2, .int 0]) rfl ?_
          exact h
        · replace h := h.2 hc
          refine w_iconst (pc' := 47) rfl rfl (v := 0) rfl ?_
          exact w_ireturn rfl rfl h
theorem t_Mo_fetches_97 {L : Nat} {xs : Nat → Int32} {x1 : Int32} {x2 : Int32} {x3 : Int32} {f : Hp} {Q : Int32 → Hp → Prop}  (h : ((x3 < 8 → (((((f 400 22) >>> (x3 &&& 31)) &&& 1) = 1 → ∃ k2 : Nat, ((8 * x2) + x3) = iN k2 ∧ k2 < 56 ∧ ∃ k3 : Nat, ((8 * x1) + x3) = iN k3 ∧ k3 < 56 ∧ ∀ g3, g3 = xu f 412 k3 (f 413 k2) → Wp L xs xm_Mo_fetches 97 [.ref 400, .int x1, .int x2, .int (x3 + 1)] [] g3 (QI Q)) ∧ (¬ (((f 400 22) >>> (x3 &&& 31)) &&& 1) = 1 → Wp L xs xm_Mo_fetches 97 [.ref 400, .int x1, .int x2, .int (x3 + 1)] [] f (QI Q)))) ∧ (¬ x3 < 8 → ∃ k1 : Nat, x1 = iN k1 ∧ k1 < 7 ∧ ∀ g1, g1 = xu f 409 k1 (f 408 k1) → CV L xs xm_Mo_checks [.ref 400, .int x1] g1 (fun g2 => Q 1 g2)))) : Wp L xs xm_Mo_fetches 97 [.ref 400, .int x1, .int x2, .int x3] [] f (QI Q) := by
  refine w_iload_n (pc' := 98) rfl rfl rfl ?_
  refine w_bipush (pc' := 100) rfl rfl (v := 8) rfl ?_
  refine w_br2 (pc' := 103) (t := 143) rfl rfl rfl ic_ge (fun hc => ?_) (fun hc => ?_)
  · replace h := h.2 hc
    refine w_aload_n (pc' := 144) rfl rfl rfl ?_
    have q1 : xR0 400 26 = some 409 ∧ xS0 L 409 = (20, 7) := (kf_12_26 (show xS0 L 400 = (12, 0) from rfl))
    refine w_getR (pc' := 147) rfl rfl rfl rfl (show xS0 L 400 = (12, 0) from rfl) q1.1 ?_
    refine w_iload_n (pc' := 148) rfl rfl rfl ?_
    refine w_aload_n (pc' := 149) rfl rfl rfl ?_
    have q2 : xR0 400 25 = some 408 ∧ xS0 L 408 = (20, 7) := (kf_12_25 (show xS0 L 400 = (12, 0) from rfl))
    refine w_getR (pc' := 152) rfl rfl rfl rfl (show xS0 L 400 = (12, 0) from rfl) q2.1 ?_
    refine w_iload_n (pc' := 153) rfl rfl rfl ?_
    obtain ⟨k1, ek1, bk1, h⟩ := h
    refine w_iaload (pc' := 154) (i := k1) rfl rfl q2.2 ek1 bk1 (by omega) ?_
    refine w_iastore (pc' := 155) (i := k1) rfl rfl q1.2 ek1 bk1 (by omega) ?_
    replace h := h _ rfl
    generalize xu f 409 k1 (f 408 k1) = g1 at h ⊢
    refine w_aload_n (pc' := 156) rfl rfl rfl ?_
    refine w_iload_n (pc' := 157) rfl rfl rfl ?_
    refine w_cv (pc' := 160) (cm := xm_Mo_checks) (as := [.int x1]) (a := 400) (rest := []) rfl rfl rfl  (xa_Mo_checks (Nat.le_of_ble_eq_true rfl)) (show xS0 L 400 = (12, 0) from rfl) rfl (CV.k h fun g2 h => ?_)
    show Wp L xs xm_Mo_fetches 160 [.ref 400, .int x1, .int x2, .int x3] [] g2 _
    refine w_iconst (pc' := 161) rfl rfl (v := 1) rfl ?_
    exact w_ireturn rfl rfl h
  · replace h := h.1 (Classical.not_not.mp hc)
    refine w_aload_n (pc' := 104) rfl rfl rfl ?_
    refine w_getI (pc' := 107) rfl rfl rfl rfl rfl (show xS0 L 400 = (12, 0) from rfl) ?_
    refine w_iload_n (pc' := 108) rfl rfl rfl ?_
    refine w_ishr (pc' := 109) rfl rfl ?_
    refine w_iconst (pc' := 110) rfl rfl (v := 1) rfl ?_
    refine w_iand (pc' := 111) rfl rfl ?_
    refine w_iconst (pc' := 112) rfl rfl (v := 1) rfl ?_
    refine w_br2 (pc' := 115) (t := 137) rfl rfl rfl ic_ne (fun hc => ?_) (fun hc => ?_)
    · replace h := h.2 hc
      refine w_iinc (pc' := 140) rfl rfl rfl (v := (x3 + 1)) rfl (xl' := [.ref 400, .int x1, .int x2, .int (x3 + 1)]) rfl ?_
      refine w_goto (pc' := 97) rfl rfl ?_
      exact h
    · replace h := h.1 (Classical.not_not.mp hc)
      refine w_aload_n (pc' := 116) rfl rfl rfl ?_
      have q3 : xR0 400 29 = some 412 ∧ xS0 L 412 = (20, 56) := (kf_12_29 (show xS0 L 400 = (12, 0) from rfl))
      refine w_getR (pc' := 119) rfl rfl rfl rfl (show xS0 L 400 = (12, 0) from rfl) q3.1 ?_
      refine w_bipush (pc' := 121) rfl rfl (v := 8) rfl ?_
      refine w_iload_n (pc' := 122) rfl rfl rfl ?_
      refine w_imul (pc' := 123) rfl rfl ?_
      refine w_iload_n (pc' := 124) rfl rfl rfl ?_
      refine w_iadd (pc' := 125) rfl rfl ?_
      refine w_aload_n (pc' := 126) rfl rfl rfl ?_
      have q4 : xR0 400 30 = some 413 ∧ xS0 L 413 = (20, 56) := (kf_12_30 (show xS0 L 400 = (12, 0) from rfl))
      refine w_getR (pc' := 129) rfl rfl rfl rfl (show xS0 L 400 = (12, 0) from rfl) q4.1 ?_
      refine w_bipush (pc' := 131) rfl rfl (v := 8) rfl ?_
      refine w_iload_n (pc' := 132) rfl rfl rfl ?_
      refine w_imul (pc' := 133) rfl rfl ?_
      refine w_iload_n (pc' := 134) rfl rfl rfl ?_
      refine w_iadd (pc' := 135) rfl rfl ?_
      obtain ⟨k2, ek2, bk2, h⟩ := h
      refine w_iaload (pc' := 136) (i := k2) rfl rfl q4.2 ek2 bk2 (by omega) ?_
      obtain ⟨k3, ek3, bk3, h⟩ := h
      refine w_iastore (pc' := 137) (i := k3) rfl rfl q3.2 ek3 bk3 (by omega) ?_
      replace h := h _ rfl
      generalize xu f 412 k3 (f 413 k2) = g3 at h ⊢
      refine w_iinc (pc' := 140) rfl rfl rfl (v := (x3 + 1)) rfl (xl' := [.ref 400, .int x1, .int x2, .int (x3 + 1)]) rfl ?_
      refine w_goto (pc' := 97) rfl rfl ?_
      exact h
theorem t_Mo_doubts_0 {L : Nat} {xs : Nat → Int32} {x1 : Int32} {f : Hp} {Q : Int32 → Hp → Prop}  (h : ∃ k1 : Nat, x1 = iN k1 ∧ k1 < 7 ∧ (((f 406 k1) < 9 → ∀ g1, g1 = xu f 406 k1 ((f 406 k1) + 1) → ∀ g2, g2 = xu g1 407 k1 0 → Wp L xs xm_Mo_doubts 32 [.ref 400, .int x1, .int 1] [] g2 (QI Q)) ∧ (¬ (f 406 k1) < 9 → Q 0 f))) : CI L xs xm_Mo_doubts [.ref 400, .int x1] f Q := by
  show Wp L xs xm_Mo_doubts 0 [.ref 400, .int x1, .retAddr 0] [] f (QI Q)
  refine w_aload_n (pc' := 1) rfl rfl rfl ?_
  have q1 : xR0 400 23 = some 406 ∧ xS0 L 406 = (20, 7) := (kf_12_23 (show xS0 L 400 = (12, 0) from rfl))
  refine w_getR (pc' := 4) rfl rfl rfl rfl (show xS0 L 400 = (12, 0) from rfl) q1.1 ?_
  refine w_iload_n (pc' := 5) rfl rfl rfl ?_
  obtain ⟨k1, ek1, bk1, h⟩ := h
  refine w_iaload (pc' := 6) (i := k1) rfl rfl q1.2 ek1 bk1 (by omega) ?_
  refine w_bipush (pc' := 8) rfl rfl (v := 9) rfl ?_
  refine w_br2 (pc' := 11) (t := 13) rfl rfl rfl ic_lt (fun hc => ?_) (fun hc => ?_)
  · replace h := h.1 hc
    refine w_aload_n (pc' := 14) rfl rfl rfl ?_
    have q2 : xR0 400 23 = some 406 ∧ xS0 L 406 = (20, 7) := (kf_12_23 (show xS0 L 400 = (12, 0) from rfl))
    refine w_getR (pc' := 17) rfl rfl rfl rfl (show xS0 L 400 = (12, 0) from rfl) q2.1 ?_
    refine w_iload_n (pc' := 18) rfl rfl rfl ?_
    refine w_dup2 (pc' := 19) rfl rfl ?_
    refine w_iaload (pc' := 20) (i := k1) rfl rfl q2.2 ek1 bk1 (by omega) ?_
    refine w_iconst (pc' := 21) rfl rfl (v := 1) rfl ?_
    refine w_iadd (pc' := 22) rfl rfl ?_
    refine w_iastore (pc' := 23) (i := k1) rfl rfl q2.2 ek1 bk1 (by omega) ?_
    replace h := h _ rfl
    generalize xu f 406 k1 ((f 406 k1) + 1) = g1 at h ⊢
    refine w_aload_n (pc' := 24) rfl rfl rfl ?_
    have q3 : xR0 400 24 = some 407 ∧ xS0 L 407 = (22, 7) := (kf_12_24 (show xS0 L 400 = (12, 0) from rfl))
    refine w_getR (pc' := 27) rfl rfl rfl rfl (show xS0 L 400 = (12, 0) from rfl) q3.1 ?_
    refine w_iload_n (pc' := 28) rfl rfl rfl ?_
    refine w_iconst (pc' := 29) rfl rfl (v := 0) rfl ?_
    refine w_bastore2 (pc' := 30) (i := k1) rfl rfl q3.2 ek1 bk1 (by omega) (by decide) ?_
    replace h := h _ rfl
    generalize xu g1 407 k1 0 = g2 at h ⊢
    refine w_iconst (pc' := 31) rfl rfl (v := 1) rfl ?_
    refine w_istore_n (pc' := 32) rfl rfl (xl' := [.ref 400, .int x1, .int 1]) rfl ?_
    exact h
  · replace h := h.2 hc
    refine w_iconst (pc' := 12) rfl rfl (v := 0) rfl ?_
    exact w_ireturn rfl rfl h
theorem t_Mo_doubts_32 {L : Nat} {xs : Nat → Int32} {x1 : Int32} {x2 : Int32} {f : Hp} {Q : Int32 → Hp → Prop}  (h : ((x2 < 13 → CV L xs xm_Mo_forgets [.ref 400, .int x1, .int x2] f (fun g1 => Wp L xs xm_Mo_doubts 32 [.ref 400, .int x1, .int (x2 + 1)] [] g1 (QI Q))) ∧ (¬ x2 < 13 → Q 1 f))) : Wp L xs xm_Mo_doubts 32 [.ref 400, .int x1, .int x2] [] f (QI Q) := by
  refine w_iload_n (pc' := 33) rfl rfl rfl ?_
  refine w_bipush (pc' := 35) rfl rfl (v := 13) rfl ?_
  refine w_br2 (pc' := 38) (t := 50) rfl rfl rfl ic_ge (fun hc => ?_) (fun hc => ?_)
  · replace h := h.2 hc
    refine w_iconst (pc' := 51) rfl rfl (v := 1) rfl ?_
    exact w_ireturn rfl rfl h
  · replace h := h.1 (Classical.not_not.mp hc)
    refine w_aload_n (pc' := 39) rfl rfl rfl ?_
    refine w_iload_n (pc' := 40) rfl rfl rfl ?_
    refine w_iload_n (pc' := 41) rfl rfl rfl ?_
    refine w_cv (pc' := 44) (cm := xm_Mo_forgets) (as := [.int x1, .int x2]) (a := 400) (rest := []) rfl rfl rfl  (xa_Mo_forgets (Nat.le_of_ble_eq_true rfl)) (show xS0 L 400 = (12, 0) from rfl) rfl (CV.k h fun g1 h => ?_)
    show Wp L xs xm_Mo_doubts 44 [.ref 400, .int x1, .int x2] [] g1 _
    refine w_iinc (pc' := 47) rfl rfl rfl (v := (x2 + 1)) rfl (xl' := [.ref 400, .int x1, .int (x2 + 1)]) rfl ?_
    refine w_goto (pc' := 32) rfl rfl ?_
    exact h
theorem t_Mo_makes_0 {L : Nat} {xs : Nat → Int32} {x1 : Int32} {f : Hp} {Q : Int32 → Hp → Prop}  (h : ∃ k1 : Nat, x1 = iN k1 ∧ k1 < 7 ∧ (((f 407 k1) = 0 → ∃ k2 : Nat, (f 406 k1) = iN k2 ∧ k2 < 10 ∧ (((f 422 k2) = 0 → (f 400 13) ≠ 0 ∧ (((jrem (f 406 k1) (f 400 13)) = x1 → Wp L xs xm_Mo_makes 42 [.ref 400, .int x1, .int (f 406 k1), .int 0, .int 0] [] f (QI Q)) ∧ (¬ (jrem (f 406 k1) (f 400 13)) = x1 → Q 0 f))) ∧ (¬ (f 422 k2) = 0 → Q 0 f))) ∧ (¬ (f 407 k1) = 0 → Q 0 f))) : CI L xs xm_Mo_makes [.ref 400, .int x1] f Q := by
  show Wp L xs xm_Mo_makes 0 [.ref 400, .int x1, .retAddr 0, .retAddr 0, .retAddr 0] [] f (QI Q)
  refine w_aload_n (pc' := 1) rfl rfl rfl ?_
  have q1 : xR0 400 23 = some 406 ∧ xS0 L 406 = (20, 7) := (kf_12_23 (show xS0 L 400 = (12, 0) from rfl))
  refine w_getR (pc' := 4) rfl rfl rfl rfl (show xS0 L 400 = (12, 0) from rfl) q1.1 ?_
  refine w_iload_n (pc' := 5) rfl rfl rfl ?_
  obtain ⟨k1, ek1, bk1, h⟩ := h
  refine w_iaload (pc' := 6) (i := k1) rfl rfl q1.2 ek1 bk1 (by omega) ?_
  refine w_istore_n (pc' := 7) rfl rfl (xl' := [.ref 400, .int x1, .int (f 406 k1), .retAddr 0, .retAddr 0]) rfl ?_
  refine w_aload_n (pc' := 8) rfl rfl rfl ?_
  have q2 : xR0 400 24 = some 407 ∧ xS0 L 407 = (22, 7) := (kf_12_24 (show xS0 L 400 = (12, 0) from rfl))
  refine w_getR (pc' := 11) rfl rfl rfl rfl (show xS0 L 400 = (12, 0) from rfl) q2.1 ?_
  refine w_iload_n (pc' := 12) rfl rfl rfl ?_
  refine w_baload (pc' := 13) (i := k1) rfl rfl q2.2 (Or.inr rfl) ek1 bk1 (by omega) ?_
  refine w_br (pc' := 16) (t := 35) rfl rfl rfl ic_ne (fun hc => ?_) (fun hc => ?_)
  · replace h := h.2 hc
    refine w_iconst (pc' := 36) rfl rfl (v := 0) rfl ?_
    exact w_ireturn rfl rfl h
  · replace h := h.1 (Classical.not_not.mp hc)
    refine w_aload_n (pc' := 17) rfl rfl rfl ?_
    have q3 : xR0 400 39 = some 422 ∧ xS0 L 422 = (22, 10) := (kf_12_39 (show xS0 L 400 = (12, 0) from rfl))
    refine w_getR (pc' := 20) rfl rfl rfl rfl (show xS0 L 400 = (12, 0) from rfl) q3.1 ?_
    refine w_iload_n (pc' := 21) rfl rfl rfl ?_
    obtain ⟨k2, ek2, bk2, h⟩ := h
    refine w_baload (pc' := 22) (i := k2) rfl rfl q3.2 (Or.inr rfl) ek2 bk2 (by omega) ?_
    refine w_br (pc' := 25) (t := 35) rfl rfl rfl ic_ne (fun hc => ?_) (fun hc => ?_)
    · replace h := h.2 hc
      refine w_iconst (pc' := 36) rfl rfl (v := 0) rfl ?_
      exact w_ireturn rfl rfl h
    · replace h := h.1 (Classical.not_not.mp hc)
      refine w_iload_n (pc' := 26) rfl rfl rfl ?_
      refine w_aload_n (pc' := 27) rfl rfl rfl ?_
      refine w_getI (pc' := 30) rfl rfl rfl rfl rfl (show xS0 L 400 = (12, 0) from rfl) ?_
      obtain ⟨q4, h⟩ := h
      refine w_irem (pc' := 31) rfl rfl q4 ?_
      refine w_iload_n (pc' := 32) rfl rfl rfl ?_
      refine w_br2 (pc' := 35) (t := 37) rfl rfl rfl ic_eq (fun hc => ?_) (fun hc => ?_)
      · replace h := h.1 hc
        refine w_iconst (pc' := 38) rfl rfl (v := 0) rfl ?_
        refine w_istore_n (pc' := 39) rfl rfl (xl' := [.ref 400, .int x1, .int (f 406 k1), .int 0, .retAddr 0]) rfl ?_
        refine w_iconst (pc' := 40) rfl rfl (v := 0) rfl ?_
        refine w_istore (pc' := 42) rfl rfl (xl' := [.ref 400, .int x1, .int (f 406 k1), .int 0, .int 0]) rfl ?_
        exact h
      · replace h := h.2 hc
        refine w_iconst (pc' := 36) rfl rfl (v := 0) rfl ?_
        exact w_ireturn rfl rfl h
theorem t_Mo_makes_42 {L : Nat} {xs : Nat → Int32} {x1 : Int32} {x2 : Int32} {x3 : Int32} {x4 : Int32} {f : Hp} {Q : Int32 → Hp → Prop}  (h : ((x4 < (f 400 13) → ∃ k2 : Nat, x4 = iN k2 ∧ k2 < 7 ∧ (((f 407 k2) = 0 → (((f 406 k2) = x2 → Wp L xs xm_Mo_makes 42 [.ref 400, .int x1, .int x2, .int (x3 ||| (1 <<< (x4 &&& 31))), .int (x4 + 1)] [] f (QI Q)) ∧ (¬ (f 406 k2) = x2 → Wp L xs xm_Mo_makes 42 [.ref 400, .int x1, .int x2, .int (x3 ||| 0), .int (x4 + 1)] [] f (QI Q)))) ∧ (¬ (f 407 k2) = 0 → Wp L xs xm_Mo_makes 42 [.ref 400, .int x1, .int x2, .int (x3 ||| 0), .int (x4 + 1)] [] f (QI Q)))) ∧ (¬ x4 < (f 400 13) → CI L xs xm_Mo_bitsOf [.int x3] f (fun v1 g1 => ((v1 < (g1 400 14) → Q 0 g1) ∧ (¬ v1 < (g1 400 14) → CV L xs xm_Mo_merges [.ref 400, .int x3] g1 (fun g2 => ∃ k1 : Nat, x2 = iN k1 ∧ k1 < 10 ∧ ∀ g3, g3 = xu g2 422 k1 1 → ∀ g4, g4 = xu g3 423 k1 (g3 400 44) → ∀ g5, g5 = xu g4 424 k1 (g4 400 45) → Wp L xs xm_Mo_makes 137 [.ref 400, .int x1, .int x2, .int x3, .int 1] [] g5 (QI Q)))))))) : Wp L xs xm_Mo_makes 42 [.ref 400, .int x1, .int x2, .int x3, .int x4] [] f (QI Q) := by
  refine w_iload (pc' := 44) rfl rfl rfl ?_
  refine w_aload_n (pc' := 45) rfl rfl rfl ?_
  refine w_getI (pc' := 48) rfl rfl rfl rfl rfl (show xS0 L 400 = (12, 0) from rfl) ?_
  refine w_br2 (pc' := 51) (t := 89) rfl rfl rfl ic_ge (fun hc => ?_) (fun hc => ?_)
  · replace h := h.2 hc
    refine w_iload_n (pc' := 90) rfl rfl rfl ?_
    refine w_cs (pc' := 93) (cm := xm_Mo_bitsOf) (as := [.int x3]) (rest := []) rfl rfl rfl (Or.inl rfl) (xa_Mo_bitsOf (Nat.le_of_ble_eq_true rfl)) (CI.k h fun v1 g1 h => ?_)
    show Wp L xs xm_Mo_makes 93 [.ref 400, .int x1, .int x2, .int x3, .int x4] [.int v1] g1 _
    refine w_aload_n (pc' := 94) rfl rfl rfl ?_
    refine w_getI (pc' := 97) rfl rfl rfl rfl rfl (show xS0 L 400 = (12, 0) from rfl) ?_
    refine w_br2 (pc' := 100) (t := 102) rfl rfl rfl ic_ge (fun hc => ?_) (fun hc => ?_)
    · replace h := h.2 hc
      refine w_aload_n (pc' := 103) rfl rfl rfl ?_
      refine w_iload_n (pc' := 104) rfl rfl rfl ?_
      refine w_cv (pc' := 107) (cm := xm_Mo_merges) (as := [.int x3]) (a := 400) (rest := []) rfl rfl rfl  (xa_Mo_merges (Nat.le_of_ble_eq_true rfl)) (show xS0 L 400 = (12, 0) from rfl) rfl (CV.k h fun g2 h => ?_)
      show Wp L xs xm_Mo_makes 107 [.ref 400, .int x1, .int x2, .int x3, .int x4] [] g2 _
      refine w_aload_n (pc' := 108) rfl rfl rfl ?_
      have q1 : xR0 400 39 = some 422 ∧ xS0 L 422 = (22, 10) := (kf_12_39 (show xS0 L 400 = (12, 0) from rfl))
      refine w_getR (pc' := 111) rfl rfl rfl rfl (show xS0 L 400 = (12, 0) from rfl) q1.1 ?_
      refine w_iload_n (pc' := 112) rfl rfl rfl ?_
      refine w_iconst (pc' := 113) rfl rfl (v := 1) rfl ?_
      obtain ⟨k1, ek1, bk1, h⟩ := h
      refine w_bastore2 (pc' := 114) (i := k1) rfl rfl q1.2 ek1 bk1 (by omega) (by decide) ?_
      replace h := h _ rfl
      generalize xu g2 422 k1 1 = g3 at h ⊢
      refine w_aload_n (pc' := 115) rfl rfl rfl ?_
      have q2 : xR0 400 40 = some 423 ∧ xS0 L 423 = (20, 10) := (kf_12_40 (show xS0 L 400 = (12, 0) from rfl))
      refine w_getR (pc' := 118) rfl rfl rfl rfl (show xS0 L 400 = (12, 0) from rfl) q2.1 ?_
      refine w_iload_n (pc' := 119) rfl rfl rfl ?_
      refine w_aload_n (pc' := 120) rfl rfl rfl ?_
      refine w_getI (pc' := 123) rfl rfl rfl rfl rfl (show xS0 L 400 = (12, 0) from rfl) ?_
      refine w_iastore (pc' := 124) (i := k1) rfl rfl q2.2 ek1 bk1 (by omega) ?_
      replace h := h _ rfl
      generalize xu g3 423 k1 (g3 400 44) = g4 at h ⊢
      refine w_aload_n (pc' := 125) rfl rfl rfl ?_
      have q3 : xR0 400 41 = some 424 ∧ xS0 L 424 = (20, 10) := (kf_12_41 (show xS0 L 400 = (12, 0) from rfl))
      refine w_getR (pc' := 128) rfl rfl rfl rfl (show xS0 L 400 = (12, 0) from rfl) q3.1 ?_
      refine w_iload_n (pc' := 129) rfl rfl rfl ?_
      refine w_aload_n (pc' := 130) rfl rfl rfl ?_
      refine w_getI (pc' := 133) rfl rfl rfl rfl rfl (show xS0 L 400 = (12, 0) from rfl) ?_
      refine w_iastore (pc' := 134) (i := k1) rfl rfl q3.2 ek1 bk1 (by omega) ?_
      replace h := h _ rfl
      generalize xu g4 424 k1 (g4 400 45) = g5 at h ⊢
      refine w_iconst (pc' := 135) rfl rfl (v := 1) rfl ?_
      refine w_istore (pc' := 137) rfl rfl (xl' := [.ref 400, .int x1, .int x2, .int x3, .int 1]) rfl ?_
      exact h
    · replace h := h.1 (Classical.not_not.mp hc)
      refine w_iconst (pc' := 101) rfl rfl (v := 0) rfl ?_
      exact w_ireturn rfl rfl h
  · replace h := h.1 (Classical.not_not.mp hc)
    refine w_iload_n (pc' := 52) rfl rfl rfl ?_
    refine w_aload_n (pc' := 53) rfl rfl rfl ?_
    have q4 : xR0 400 24 = some 407 ∧ xS0 L 407 = (22, 7) := (kf_12_24 (show xS0 L 400 = (12, 0) from rfl))
    refine w_getR (pc' := 56) rfl rfl rfl rfl (show xS0 L 400 = (12, 0) from rfl) q4.1 ?_
    refine w_iload (pc' := 58) rfl rfl rfl ?_
    obtain ⟨k2, ek2, bk2, h⟩ := h
    refine w_baload (pc' := 59) (i := k2) rfl rfl q4.2 (Or.inr rfl) ek2 bk2 (by omega) ?_
    refine w_br (pc' := 62) (t := 80) rfl rfl rfl ic_ne (fun hc => ?_) (fun hc => ?_)
    · replace h := h.2 hc
      refine w_iconst (pc' := 81) rfl rfl (v := 0) rfl ?_
      refine w_ior (pc' := 82) rfl rfl ?_
      refine w_istore_n (pc' := 83) rfl rfl (xl' := [.ref 400, .int x1, .int x2, .int (x3 ||| 0), .int x4]) rfl ?_
      refine w_iinc (pc' := 86) rfl rfl rfl (v := (x4 + 1)) rfl (xl' := [.ref 400, .int x1, .int x2, .int (x3 ||| 0), .int (x4 + 1)]) rfl ?_
      refine w_goto (pc' := 42) rfl rfl ?_
      exact h
    · replace h := h.1 (Classical.not_not.mp hc)
      refine w_aload_n (pc' := 63) rfl rfl rfl ?_
      have q5 : xR0 400 23 = some 406 ∧ xS0 L 406 = (20, 7) := (kf_12_23 (show xS0 L 400 = (12, 0) from rfl))
      refine w_getR (pc' := 66) rfl rfl rfl rfl (show xS0 L 400 = (12, 0) from rfl) q5.1 ?_
      refine w_iload (pc' := 68) rfl rfl rfl ?_
      refine w_iaload (pc' := 69) (i := k2) rfl rfl q5.2 ek2 bk2 (by omega) ?_
      refine w_iload_n (pc' := 70) rfl rfl rfl ?_
      refine w_br2 (pc' := 73) (t := 80) rfl rfl rfl ic_ne (fun hc => ?_) (fun hc => ?_)
      · replace h := h.2 hc
        refine w_iconst (pc' := 81) rfl rfl (v := 0) rfl ?_
        refine w_ior (pc' := 82) rfl rfl ?_
        refine w_istore_n (pc' := 83) rfl rfl (xl' := [.ref 400, .int x1, .int x2, .int (x3 ||| 0), .int x4]) rfl ?_
        refine w_iinc (pc' := 86) rfl rfl rfl (v := (x4 + 1)) rfl (xl' := [.ref 400, .int x1, .int x2, .int (x3 ||| 0), .int (x4 + 1)]) rfl ?_
        refine w_goto (pc' := 42) rfl rfl ?_
        exact h
      · replace h := h.1 (Classical.not_not.mp hc)
        refine w_iconst (pc' := 74) rfl rfl (v := 1) rfl ?_
        refine w_iload (pc' := 76) rfl rfl rfl ?_
        refine w_ishl (pc' := 77) rfl rfl ?_
        refine w_goto (pc' := 81) rfl rfl ?_
        refine w_ior (pc' := 82) rfl rfl ?_
        refine w_istore_n (pc' := 83) rfl rfl (xl' := [.ref 400, .int x1, .int x2, .int (x3 ||| (1 <<< (x4 &&& 31))), .int x4]) rfl ?_
        refine w_iinc (pc' := 86) rfl rfl rfl (v := (x4 + 1)) rfl (xl' := [.ref 400, .int x1, .int x2, .int (x3 ||| (1 <<< (x4 &&& 31))), .int (x4 + 1)]) rfl ?_
        refine w_goto (pc' := 42) rfl rfl ?_
        exact h
theorem t_Mo_makes_137 {L : Nat} {xs : Nat → Int32} {x1 : Int32} {x2 : Int32} {x3 : Int32} {x4 : Int32} {f : Hp} {Q : Int32 → Hp → Prop}  (h : ((x4 < 13 → ∃ k1 : Nat, x4 = iN k1 ∧ k1 < 13 ∧ ∃ k2 : Nat, ((13 * x2) + x4) = iN k2 ∧ k2 < 130 ∧ ∀ g1, g1 = xu f 425 k2 (f 426 k1) → Wp L xs xm_Mo_makes 137 [.ref 400, .int x1, .int x2, .int x3, .int (x4 + 1)] [] g1 (QI Q)) ∧ (¬ x4 < 13 → Wp L xs xm_Mo_makes 172 [.ref 400, .int x1, .int x2, .int x3, .int 0] [] f (QI Q)))) : Wp L xs xm_Mo_makes 137 [.ref 400, .int x1, .int x2, .int x3, .int x4] [] f (QI Q) := by
  refine w_iload (pc' := 139) rfl rfl rfl ?_
  refine w_bipush (pc' := 141) rfl rfl (v := 13) rfl ?_
  refine w_br2 (pc' := 144) (t := 169) rfl rfl rfl ic_ge (fun hc => ?_) (fun hc => ?_)
  · replace h := h.2 hc
    refine w_iconst (pc' := 170) rfl rfl (v := 0) rfl ?_
    refine w_istore (pc' := 172) rfl rfl (xl' := [.ref 400, .int x1, .int x2, .int x3, .int 0]) rfl ?_
    exact h
  · replace h := h.1 (Classical.not_not.mp hc)
    refine w_aload_n (pc' := 145) rfl rfl rfl ?_
    have q1 : xR0 400 42 = some 425 ∧ xS0 L 425 = (20, 130) := (kf_12_42 (show xS0 L 400 = (12, 0) from rfl))
    refine w_getR (pc' := 148) rfl rfl rfl rfl (show xS0 L 400 = (12, 0) from rfl) q1.1 ?_
    refine w_bipush (pc' := 150) rfl rfl (v := 13) rfl ?_
    refine w_iload_n (pc' := 151) rfl rfl rfl ?_
    refine w_imul (pc' := 152) rfl rfl ?_
    refine w_iload (pc' := 154) rfl rfl rfl ?_
    refine w_iadd (pc' := 155) rfl rfl ?_
    refine w_aload_n (pc' := 156) rfl rfl rfl ?_
    have q2 : xR0 400 46 = some 426 ∧ xS0 L 426 = (20, 13) := (kf_12_46 (show xS0 L 400 = (12, 0) from rfl))
    refine w_getR (pc' := 159) rfl rfl rfl rfl (show xS0 L 400 = (12, 0) from rfl) q2.1 ?_
    refine w_iload (pc' := 161) rfl rfl rfl ?_
    obtain ⟨k1, ek1, bk1, h⟩ := h
    refine w_iaload (pc' := 162) (i := k1) rfl rfl q2.2 ek1 bk1 (by omega) ?_
    obtain ⟨k2, ek2, bk2, h⟩ := h
    refine w_iastore (pc' := 163) (i := k2) rfl rfl q1.2 ek2 bk2 (by omega) ?_
    replace h := h _ rfl
    generalize xu f 425 k2 (f 426 k1) = g1 at h ⊢
    refine w_iinc (pc' := 166) rfl rfl rfl (v := (x4 + 1)) rfl (xl' := [.ref 400, .int x1, .int x2, .int x3, .int (x4 + 1)]) rfl ?_
    refine w_goto (pc' := 137) rfl rfl ?_
    exact h
theorem t_Mo_makes_172 {L : Nat} {xs : Nat → Int32} {x1 : Int32} {x2 : Int32} {x3 : Int32} {x4 : Int32} {f : Hp} {Q : Int32 → Hp → Prop}  (h : ((x4 < (f 400 13) → ((((x3 >>> (x4 &&& 31)) &&& 1) = 1 → CV L xs xm_Mo_entersView [.ref 400, .int x4] f (fun g1 => Wp L xs xm_Mo_makes 172 [.ref 400, .int x1, .int x2, .int x3, .int (x4 + 1)] [] g1 (QI Q))) ∧ (¬ ((x3 >>> (x4 &&& 31)) &&& 1) = 1 → Wp L xs xm_Mo_makes 172 [.ref 400, .int x1, .int x2, .int x3, .int (x4 + 1)] [] f (QI Q)))) ∧ (¬ x4 < (f 400 13) → Q 1 f))) : Wp L xs xm_Mo_makes 172 [.ref 400, .int x1, .int x2, .int x3, .int x4] [] f (QI Q) := by
  refine w_iload (pc' := 174) rfl rfl rfl ?_
  refine w_aload_n (pc' := 175) rfl rfl rfl ?_
  refine w_getI (pc' := 178) rfl rfl rfl rfl rfl (show xS0 L 400 = (12, 0) from rfl) ?_
  refine w_br2 (pc' := 181) (t := 203) rfl rfl rfl ic_ge (fun hc => ?_) (fun hc => ?_)
  · replace h := h.2 hc
    refine w_iconst (pc' := 204) rfl rfl (v := 1) rfl ?_
    exact w_ireturn rfl rfl h
  · replace h := h.1 (Classical.not_not.mp hc)
    refine w_iload_n (pc' := 182) rfl rfl rfl ?_
    refine w_iload (pc' := 184) rfl rfl rfl ?_
    refine w_ishr (pc' := 185) rfl rfl ?_
    refine w_iconst (pc' := 186) rfl rfl (v := 1) rfl ?_
    refine w_iand (pc' := 187) rfl rfl ?_
    refine w_iconst (pc' := 188) rfl rfl (v := 1) rfl ?_
    refine w_br2 (pc' := 191) (t := 197) rfl rfl rfl ic_ne (fun hc => ?_) (fun hc => ?_)
    · replace h := h.2 hc
      refine w_iinc (pc' := 200) rfl rfl rfl (v := (x4 + 1)) rfl (xl' := [.ref 400, .int x1, .int x2, .int x3, .int (x4 + 1)]) rfl ?_
      refine w_goto (pc' := 172) rfl rfl ?_
      exact h
    · replace h := h.1 (Classical.not_not.mp hc)
      refine w_aload_n (pc' := 192) rfl rfl rfl ?_
      refine w_iload (pc' := 194) rfl rfl rfl ?_
      refine w_cv (pc' := 197) (cm := xm_Mo_entersView) (as := [.int x4]) (a := 400) (rest := []) rfl rfl rfl  (xa_Mo_entersView (Nat.le_of_ble_eq_true rfl)) (show xS0 L 400 = (12, 0) from rfl) rfl (CV.k h fun g1 h => ?_)
      show Wp L xs xm_Mo_makes 197 [.ref 400, .int x1, .int x2, .int x3, .int x4] [] g1 _
      refine w_iinc (pc' := 200) rfl rfl rfl (v := (x4 + 1)) rfl (xl' := [.ref 400, .int x1, .int x2, .int x3, .int (x4 + 1)]) rfl ?_
      refine w_goto (pc' := 172) rfl rfl ?_
      exact h
theorem t_Mo_merges_0 {L : Nat} {xs : Nat → Int32} {x1 : Int32} {f : Hp} {Q : Hp → Prop}  (h : ∀ g1, g1 = xu f 400 44 0 → Wp L xs xm_Mo_merges 7 [.ref 400, .int x1, .int 0, .retAddr 0] [] g1 (QV Q)) : CV L xs xm_Mo_merges [.ref 400, .int x1] f Q := by
  show Wp L xs xm_Mo_merges 0 [.ref 400, .int x1, .retAddr 0, .retAddr 0] [] f (QV Q)
  refine w_aload_n (pc' := 1) rfl rfl rfl ?_
  refine w_iconst (pc' := 2) rfl rfl (v := 0) rfl ?_
  refine w_putI (pc' := 5) rfl rfl rfl rfl (show xS0 L 400 = (12, 0) from rfl) ?_
  replace h := h _ rfl
  generalize xu f 400 44 0 = g1 at h ⊢
  refine w_iconst (pc' := 6) rfl rfl (v := 0) rfl ?_
  refine w_istore_n (pc' := 7) rfl rfl (xl' := [.ref 400, .int x1, .int 0, .retAddr 0]) rfl ?_
  exact h
theorem t_Mo_merges_7 {L : Nat} {xs : Nat → Int32} {x1 : Int32} {x2 : Int32} {f : Hp} {Q : Hp → Prop}  (h : ((x2 < (f 400 13) → ((((x1 >>> (x2 &&& 31)) &&& 1) = 1 → CI L xs xm_Mo_isLiar [.ref 400, .int x2] f (fun v1 g2 => ((v1 = 0 → ∃ k1 : Nat, x2 = iN k1 ∧ k1 < 7 ∧ (((g2 400 44) < (g2 408 k1) → ∀ g3, g3 = xu g2 400 44 (g2 408 k1) → Wp L xs xm_Mo_merges 7 [.ref 400, .int x1, .int (x2 + 1), .retAddr 0] [] g3 (QV Q)) ∧ (¬ (g2 400 44) < (g2 408 k1) → Wp L xs xm_Mo_merges 7 [.ref 400, .int x1, .int (x2 + 1), .retAddr 0] [] g2 (QV Q)))) ∧ (¬ v1 = 0 → Wp L xs xm_Mo_merges 7 [.ref 400, .int x1, .int (x2 + 1), .retAddr 0] [] g2 (QV Q))))) ∧ (¬ ((x1 >>> (x2 &&& 31)) &&& 1) = 1 → Wp L xs xm_Mo_merges 7 [.ref 400, .int x1, .int (x2 + 1), .retAddr 0] [] f (QV Q)))) ∧ (¬ x2 < (f 400 13) → ∀ g1, g1 = xu f 400 45 (f 400 44) → Wp L xs xm_Mo_merges 71 [.ref 400, .int x1, .int 0, .retAddr 0] [] g1 (QV Q)))) : Wp L xs xm_Mo_merges 7 [.ref 400, .int x1, .int x2, .retAddr 0] [] f (QV Q) := by
  refine w_iload_n (pc' := 8) rfl rfl rfl ?_
  refine w_aload_n (pc' := 9) rfl rfl rfl ?_
  refine w_getI (pc' := 12) rfl rfl rfl rfl rfl (show xS0 L 400 = (12, 0) from rfl) ?_
  refine w_br2 (pc' := 15) (t := 61) rfl rfl rfl ic_ge (fun hc => ?_) (fun hc => ?_)
  · replace h := h.2 hc
    refine w_aload_n (pc' := 62) rfl rfl rfl ?_
    refine w_aload_n (pc' := 63) rfl rfl rfl ?_
    refine w_getI (pc' := 66) rfl rfl rfl rfl rfl (show xS0 L 400 = (12, 0) from rfl) ?_
    refine w_putI (pc' := 69) rfl rfl rfl rfl (show xS0 L 400 = (12, 0) from rfl) ?_
    replace h := h _ rfl
    generalize xu f 400 45 (f 400 44) = g1 at h ⊢
    refine w_iconst (pc' := 70) rfl rfl (v := 0) rfl ?_
    refine w_istore_n (pc' := 71) rfl rfl (xl' := [.ref 400, .int x1, .int 0, .retAddr 0]) rfl ?_
    exact h
  · replace h := h.1 (Classical.not_not.mp hc)
    refine w_iload_n (pc' := 16) rfl rfl rfl ?_
    refine w_iload_n (pc' := 17) rfl rfl rfl ?_
    refine w_ishr (pc' := 18) rfl rfl ?_
    refine w_iconst (pc' := 19) rfl rfl (v := 1) rfl ?_
    refine w_iand (pc' := 20) rfl rfl ?_
    refine w_iconst (pc' := 21) rfl rfl (v := 1) rfl ?_
    refine w_br2 (pc' := 24) (t := 55) rfl rfl rfl ic_ne (fun hc => ?_) (fun hc => ?_)
    · replace h := h.2 hc
      refine w_iinc (pc' := 58) rfl rfl rfl (v := (x2 + 1)) rfl (xl' := [.ref 400, .int x1, .int (x2 + 1), .retAddr 0]) rfl ?_
      refine w_goto (pc' := 7) rfl rfl ?_
      exact h
    · replace h := h.1 (Classical.not_not.mp hc)
      refine w_aload_n (pc' := 25) rfl rfl rfl ?_
      refine w_iload_n (pc' := 26) rfl rfl rfl ?_
      refine w_cv (pc' := 29) (cm := xm_Mo_isLiar) (as := [.int x2]) (a := 400) (rest := []) rfl rfl rfl  (xa_Mo_isLiar (Nat.le_of_ble_eq_true rfl)) (show xS0 L 400 = (12, 0) from rfl) rfl (CI.k h fun v1 g2 h => ?_)
      show Wp L xs xm_Mo_merges 29 [.ref 400, .int x1, .int x2, .retAddr 0] [.int v1] g2 _
      refine w_br (pc' := 32) (t := 55) rfl rfl rfl ic_ne (fun hc => ?_) (fun hc => ?_)
      · replace h := h.2 hc
        refine w_iinc (pc' := 58) rfl rfl rfl (v := (x2 + 1)) rfl (xl' := [.ref 400, .int x1, .int (x2 + 1), .retAddr 0]) rfl ?_
        refine w_goto (pc' := 7) rfl rfl ?_
        exact h
      · replace h := h.1 (Classical.not_not.mp hc)
        refine w_aload_n (pc' := 33) rfl rfl rfl ?_
        have q1 : xR0 400 25 = some 408 ∧ xS0 L 408 = (20, 7) := (kf_12_25 (show xS0 L 400 = (12, 0) from rfl))
        refine w_getR (pc' := 36) rfl rfl rfl rfl (show xS0 L 400 = (12, 0) from rfl) q1.1 ?_
        refine w_iload_n (pc' := 37) rfl rfl rfl ?_
        obtain ⟨k1, ek1, bk1, h⟩ := h
        refine w_iaload (pc' := 38) (i := k1) rfl rfl q1.2 ek1 bk1 (by omega) ?_
        refine w_aload_n (pc' := 39) rfl rfl rfl ?_
        refine w_getI (pc' := 42) rfl rfl rfl rfl rfl (show xS0 L 400 = (12, 0) from rfl) ?_
        refine w_br2 (pc' := 45) (t := 55) rfl rfl rfl ic_le (fun hc => ?_) (fun hc => ?_)
        · replace h := h.2 hc
          refine w_iinc (pc' := 58) rfl rfl rfl (v := (x2 + 1)) rfl (xl' := [.ref 400, .int x1, .int (x2 + 1), .retAddr 0]) rfl ?_
          refine w_goto (pc' := 7) rfl rfl ?_
          exact h
        · replace h := h.1 (Classical.not_not.mp hc)
          refine w_aload_n (pc' := 46) rfl rfl rfl ?_
          refine w_aload_n (pc' := 47) rfl rfl rfl ?_
          have q2 : xR0 400 25 = some 408 ∧ xS0 L 408 = (20, 7) := (kf_12_25 (show xS0 L 400 = (12, 0) from rfl))
          refine w_getR (pc' := 50) rfl rfl rfl rfl (show xS0 L 400 = (12, 0) from rfl) q2.1 ?_
          refine w_iload_n (pc' := 51) rfl rfl rfl ?_
          refine w_iaload (pc' := 52) (i := k1) rfl rfl q2.2 ek1 bk1 (by omega) ?_
          refine w_putI (pc' := 55) rfl rfl rfl rfl (show xS0 L 400 = (12, 0) from rfl) ?_
          replace h := h _ rfl
          generalize xu g2 400 44 (g2 408 k1) = g3 at h ⊢
          refine w_iinc (pc' := 58) rfl rfl rfl (v := (x2 + 1)) rfl (xl' := [.ref 400, .int x1, .int (x2 + 1), .retAddr 0]) rfl ?_
          refine w_goto (pc' := 7) rfl rfl ?_
          exact h
theorem t_Mo_merges_71 {L : Nat} {xs : Nat → Int32} {x1 : Int32} {x2 : Int32} {x3 : Value} {f : Hp} {Q : Hp → Prop} (cx3 : (x3.category != 2) = true) (h : ((x2 < (f 400 13) → ((((x1 >>> (x2 &&& 31)) &&& 1) = 0 → Wp L xs xm_Mo_merges 71 [.ref 400, .int x1, .int (x2 + 1), x3] [] f (QV Q)) ∧ (¬ ((x1 >>> (x2 &&& 31)) &&& 1) = 0 → CI L xs xm_Mo_isLiar [.ref 400, .int x2] f (fun v1 g1 => ((v1 = 0 → Wp L xs xm_Mo_merges 105 [.ref 400, .int x1, .int x2, .int ((g1 400 45) + 1)] [] g1 (QV Q)) ∧ (¬ v1 = 0 → Wp L xs xm_Mo_merges 71 [.ref 400, .int x1, .int (x2 + 1), x3] [] g1 (QV Q))))))) ∧ (¬ x2 < (f 400 13) → Wp L xs xm_Mo_merges 144 [.ref 400, .int x1, .int 1, x3] [] f (QV Q)))) : Wp L xs xm_Mo_merges 71 [.ref 400, .int x1, .int x2, x3] [] f (QV Q) := by
  refine w_iload_n (pc' := 72) rfl rfl rfl ?_
  refine w_aload_n (pc' := 73) rfl rfl rfl ?_
  refine w_getI (pc' := 76) rfl rfl rfl rfl rfl (show xS0 L 400 = (12, 0) from rfl) ?_
  refine w_br2 (pc' := 79) (t := 142) rfl rfl rfl ic_ge (fun hc => ?_) (fun hc => ?_)
  · replace h := h.2 hc
    refine w_iconst (pc' := 143) rfl rfl (v := 1) rfl ?_
    refine w_istore_n (pc' := 144) rfl rfl (xl' := [.ref 400, .int x1, .int 1, x3]) rfl ?_
    exact h
  · replace h := h.1 (Classical.not_not.mp hc)
    refine w_iload_n (pc' := 80) rfl rfl rfl ?_
    refine w_iload_n (pc' := 81) rfl rfl rfl ?_
    refine w_ishr (pc' := 82) rfl rfl ?_
    refine w_iconst (pc' := 83) rfl rfl (v := 1) rfl ?_
    refine w_iand (pc' := 84) rfl rfl ?_
    refine w_br (pc' := 87) (t := 136) rfl rfl rfl ic_eq (fun hc => ?_) (fun hc => ?_)
    · replace h := h.1 hc
      refine w_iinc (pc' := 139) rfl rfl rfl (v := (x2 + 1)) rfl (xl' := [.ref 400, .int x1, .int (x2 + 1), x3]) rfl ?_
      refine w_goto (pc' := 71) rfl rfl ?_
      exact h
    · replace h := h.2 hc
      refine w_aload_n (pc' := 88) rfl rfl rfl ?_
      refine w_iload_n (pc' := 89) rfl rfl rfl ?_
      refine w_cv (pc' := 92) (cm := xm_Mo_isLiar) (as := [.int x2]) (a := 400) (rest := []) rfl rfl rfl  (xa_Mo_isLiar (Nat.le_of_ble_eq_true rfl)) (show xS0 L 400 = (12, 0) from rfl) rfl (CI.k h fun v1 g1 h => ?_)
      show Wp L xs xm_Mo_merges 92 [.ref 400, .int x1, .int x2, x3] [.int v1] g1 _
      refine w_br (pc' := 95) (t := 98) rfl rfl rfl ic_eq (fun hc => ?_) (fun hc => ?_)
      · replace h := h.1 hc
        refine w_aload_n (pc' := 99) rfl rfl rfl ?_
        refine w_getI (pc' := 102) rfl rfl rfl rfl rfl (show xS0 L 400 = (12, 0) from rfl) ?_
        refine w_iconst (pc' := 103) rfl rfl (v := 1) rfl ?_
        refine w_iadd (pc' := 104) rfl rfl ?_
        refine w_istore_n (pc' := 105) rfl rfl (xl' := [.ref 400, .int x1, .int x2, .int ((g1 400 45) + 1)]) rfl ?_
        exact h
      · replace h := h.2 hc
        refine w_goto (pc' := 136) rfl rfl ?_
        refine w_iinc (pc' := 139) rfl rfl rfl (v := (x2 + 1)) rfl (xl' := [.ref 400, .int x1, .int (x2 + 1), x3]) rfl ?_
        refine w_goto (pc' := 71) rfl rfl ?_
        exact h
theorem t_Mo_merges_105 {L : Nat} {xs : Nat → Int32} {x1 : Int32} {x2 : Int32} {x3 : Int32} {f : Hp} {Q : Hp → Prop}  (h : ((x3 < 13 → CI L xs xm_Mo_at [.int x2, .int x3] f (fun v1 g1 => ∃ k1 : Nat, v1 = iN k1 ∧ k1 < 91 ∧ (((g1 417 k1) = (-1) → Wp L xs xm_Mo_merges 105 [.ref 400, .int x1, .int x2, .int (x3 + 1)] [] g1 (QV Q)) ∧ (¬ (g1 417 k1) = (-1) → ∀ g2, g2 = xu g1 400 45 x3 → Wp L xs xm_Mo_merges 105 [.ref 400, .int x1, .int x2, .int (x3 + 1)] [] g2 (QV Q))))) ∧ (¬ x3 < 13 → Wp L xs xm_Mo_merges 71 [.ref 400, .int x1, .int (x2 + 1), .int x3] [] f (QV Q)))) : Wp L xs xm_Mo_merges 105 [.ref 400, .int x1, .int x2, .int x3] [] f (QV Q) := by
  refine w_iload_n (pc' := 106) rfl rfl rfl ?_
  refine w_bipush (pc' := 108) rfl rfl (v := 13) rfl ?_
  refine w_br2 (pc' := 111) (t := 136) rfl rfl rfl ic_ge (fun hc => ?_) (fun hc => ?_)
  · replace h := h.2 hc
    refine w_iinc (pc' := 139) rfl rfl rfl (v := (x2 + 1)) rfl (xl' := [.ref 400, .int x1, .int (x2 + 1), .int x3]) rfl ?_
    refine w_goto (pc' := 71) rfl rfl ?_
    exact h
  · replace h := h.1 (Classical.not_not.mp hc)
    refine w_aload_n (pc' := 112) rfl rfl rfl ?_
    have q1 : xR0 400 34 = some 417 ∧ xS0 L 417 = (20, 91) := (kf_12_34 (show xS0 L 400 = (12, 0) from rfl))
    refine w_getR (pc' := 115) rfl rfl rfl rfl (show xS0 L 400 = (12, 0) from rfl) q1.1 ?_
    refine w_iload_n (pc' := 116) rfl rfl rfl ?_
    refine w_iload_n (pc' := 117) rfl rfl rfl ?_
    refine w_cs (pc' := 120) (cm := xm_Mo_at) (as := [.int x2, .int x3]) (rest := [.ref 417]) rfl rfl rfl (Or.inl rfl) (xa_Mo_at (Nat.le_of_ble_eq_true rfl)) (CI.k h fun v1 g1 h => ?_)
    show Wp L xs xm_Mo_merges 120 [.ref 400, .int x1, .int x2, .int x3] [.int v1, .ref 417] g1 _
    obtain ⟨k1, ek1, bk1, h⟩ := h
    refine w_iaload (pc' := 121) (i := k1) rfl rfl q1.2 ek1 bk1 (by omega) ?_
    refine w_iconst (pc' := 122) rfl rfl (v := (-1)) rfl ?_
    refine w_br2 (pc' := 125) (t := 130) rfl rfl rfl ic_eq (fun hc => ?_) (fun hc => ?_)
    · replace h := h.1 hc
      refine w_iinc (pc' := 133) rfl rfl rfl (v := (x3 + 1)) rfl (xl' := [.ref 400, .int x1, .int x2, .int (x3 + 1)]) rfl ?_
      refine w_goto (pc' := 105) rfl rfl ?_
      exact h
    · replace h := h.2 hc
      refine w_aload_n (pc' := 126) rfl rfl rfl ?_
      refine w_iload_n (pc' := 127) rfl rfl rfl ?_
      refine w_putI (pc' := 130) rfl rfl rfl rfl (show xS0 L 400 = (12, 0) from rfl) ?_
      replace h := h _ rfl
      generalize xu g1 400 45 x3 = g2 at h ⊢
      refine w_iinc (pc' := 133) rfl rfl rfl (v := (x3 + 1)) rfl (xl' := [.ref 400, .int x1, .int x2, .int (x3 + 1)]) rfl ?_
      refine w_goto (pc' := 105) rfl rfl ?_
      exact h
theorem t_Mo_merges_144 {L : Nat} {xs : Nat → Int32} {x1 : Int32} {x2 : Int32} {x3 : Value} {f : Hp} {Q : Hp → Prop} (cx3 : (x3.category != 2) = true) (h : ((x2 < 13 → (((f 400 44) < x2 → (((f 400 45) < x2 → ∃ k2 : Nat, x2 = iN k2 ∧ k2 < 13 ∧ ∀ g2, g2 = xu f 426 k2 (-1) → Wp L xs xm_Mo_merges 144 [.ref 400, .int x1, .int (x2 + 1), x3] [] g2 (QV Q)) ∧ (¬ (f 400 45) < x2 → CI L xs xm_Mo_orderBy [.ref 400, .int x1, .int x2] f (fun v1 g3 => ∃ k3 : Nat, x2 = iN k3 ∧ k3 < 13 ∧ ∀ g4, g4 = xu g3 426 k3 v1 → Wp L xs xm_Mo_merges 144 [.ref 400, .int x1, .int (x2 + 1), x3] [] g4 (QV Q))))) ∧ (¬ (f 400 44) < x2 → ∃ k1 : Nat, x2 = iN k1 ∧ k1 < 13 ∧ ∀ g1, g1 = xu f 426 k1 (-1) → Wp L xs xm_Mo_merges 144 [.ref 400, .int x1, .int (x2 + 1), x3] [] g1 (QV Q)))) ∧ (¬ x2 < 13 → Q f))) : Wp L xs xm_Mo_merges 144 [.ref 400, .int x1, .int x2, x3] [] f (QV Q) := by
  refine w_iload_n (pc' := 145) rfl rfl rfl ?_
  refine w_bipush (pc' := 147) rfl rfl (v := 13) rfl ?_
  refine w_br2 (pc' := 150) (t := 188) rfl rfl rfl ic_ge (fun hc => ?_) (fun hc => ?_)
  · replace h := h.2 hc
    exact w_return rfl rfl h
  · replace h := h.1 (Classical.not_not.mp hc)
    refine w_aload_n (pc' := 151) rfl rfl rfl ?_
    have q1 : xR0 400 46 = some 426 ∧ xS0 L 426 = (20, 13) := (kf_12_46 (show xS0 L 400 = (12, 0) from rfl))
    refine w_getR (pc' := 154) rfl rfl rfl rfl (show xS0 L 400 = (12, 0) from rfl) q1.1 ?_
    refine w_iload_n (pc' := 155) rfl rfl rfl ?_
    refine w_iload_n (pc' := 156) rfl rfl rfl ?_
    refine w_aload_n (pc' := 157) rfl rfl rfl ?_
    refine w_getI (pc' := 160) rfl rfl rfl rfl rfl (show xS0 L 400 = (12, 0) from rfl) ?_
    refine w_br2 (pc' := 163) (t := 180) rfl rfl rfl ic_le (fun hc => ?_) (fun hc => ?_)
    · replace h := h.2 hc
      refine w_iconst (pc' := 181) rfl rfl (v := (-1)) rfl ?_
      obtain ⟨k1, ek1, bk1, h⟩ := h
      refine w_iastore (pc' := 182) (i := k1) rfl rfl q1.2 ek1 bk1 (by omega) ?_
      replace h := h _ rfl
      generalize xu f 426 k1 (-1) = g1 at h ⊢
      refine w_iinc (pc' := 185) rfl rfl rfl (v := (x2 + 1)) rfl (xl' := [.ref 400, .int x1, .int (x2 + 1), x3]) rfl ?_
      refine w_goto (pc' := 144) rfl rfl ?_
      exact h
    · replace h := h.1 (Classical.not_not.mp hc)
      refine w_iload_n (pc' := 164) rfl rfl rfl ?_
      refine w_aload_n (pc' := 165) rfl rfl rfl ?_
      refine w_getI (pc' := 168) rfl rfl rfl rfl rfl (show xS0 L 400 = (12, 0) from rfl) ?_
      refine w_br2 (pc' := 171) (t := 180) rfl rfl rfl ic_gt (fun hc => ?_) (fun hc => ?_)
      · replace h := h.1 hc
        refine w_iconst (pc' := 181) rfl rfl (v := (-1)) rfl ?_
        obtain ⟨k2, ek2, bk2, h⟩ := h
        refine w_iastore (pc' := 182) (i := k2) rfl rfl q1.2 ek2 bk2 (by omega) ?_
        replace h := h _ rfl
        generalize xu f 426 k2 (-1) = g2 at h ⊢
        refine w_iinc (pc' := 185) rfl rfl rfl (v := (x2 + 1)) rfl (xl' := [.ref 400, .int x1, .int (x2 + 1), x3]) rfl ?_
        refine w_goto (pc' := 144) rfl rfl ?_
        exact h
      · replace h := h.2 hc
        refine w_aload_n (pc' := 172) rfl rfl rfl ?_
        refine w_iload_n (pc' := 173) rfl rfl rfl ?_
        refine w_iload_n (pc' := 174) rfl rfl rfl ?_
        refine w_cv (pc' := 177) (cm := xm_Mo_orderBy) (as := [.int x1, .int x2]) (a := 400) (rest := [.int x2, .ref 426]) rfl rfl rfl  (xa_Mo_orderBy (Nat.le_of_ble_eq_true rfl)) (show xS0 L 400 = (12, 0) from rfl) rfl (CI.k h fun v1 g3 h => ?_)
        show Wp L xs xm_Mo_merges 177 [.ref 400, .int x1, .int x2, x3] [.int v1, .int x2, .ref 426] g3 _
        refine w_goto (pc' := 181) rfl rfl ?_
        obtain ⟨k3, ek3, bk3, h⟩ := h
        refine w_iastore (pc' := 182) (i := k3) rfl rfl q1.2 ek3 bk3 (by omega) ?_
        replace h := h _ rfl
        generalize xu g3 426 k3 v1 = g4 at h ⊢
        refine w_iinc (pc' := 185) rfl rfl rfl (v := (x2 + 1)) rfl (xl' := [.ref 400, .int x1, .int (x2 + 1), x3]) rfl ?_
        refine w_goto (pc' := 144) rfl rfl ?_
        exact h
theorem t_Mo_orderBy_0 {L : Nat} {xs : Nat → Int32} {x1 : Int32} {x2 : Int32} {f : Hp} {Q : Int32 → Hp → Prop}  (h : Wp L xs xm_Mo_orderBy 9 [.ref 400, .int x1, .int x2, .int (-1), .int 10, .int 0, .retAddr 0] [] f (QI Q)) : CI L xs xm_Mo_orderBy [.ref 400, .int x1, .int x2] f Q := by
  show Wp L xs xm_Mo_orderBy 0 [.ref 400, .int x1, .int x2, .retAddr 0, .retAddr 0, .retAddr 0, .retAddr 0] [] f (QI Q)
  refine w_iconst (pc' := 1) rfl rfl (v := (-1)) rfl ?_
  refine w_istore_n (pc' := 2) rfl rfl (xl' := [.ref 400, .int x1, .int x2, .int (-1), .retAddr 0, .retAddr 0, .retAddr 0]) rfl ?_
  refine w_bipush (pc' := 4) rfl rfl (v := 10) rfl ?_
  refine w_istore (pc' := 6) rfl rfl (xl' := [.ref 400, .int x1, .int x2, .int (-1), .int 10, .retAddr 0, .retAddr 0]) rfl ?_
  refine w_iconst (pc' := 7) rfl rfl (v := 0) rfl ?_
  refine w_istore (pc' := 9) rfl rfl (xl' := [.ref 400, .int x1, .int x2, .int (-1), .int 10, .int 0, .retAddr 0]) rfl ?_
  exact h
theorem t_Mo_orderBy_9 {L : Nat} {xs : Nat → Int32} {x1 : Int32} {x2 : Int32} {x3 : Int32} {x4 : Int32} {x5 : Int32} {x6 : Value} {f : Hp} {Q : Int32 → Hp → Prop} (cx6 : (x6.category != 2) = true) (h : ((x5 < (f 400 13) → ((((x1 >>> (x5 &&& 31)) &&& 1) = 0 → Wp L xs xm_Mo_orderBy 9 [.ref 400, .int x1, .int x2, .int x3, .int x4, .int (x5 + 1), x6] [] f (QI Q)) ∧ (¬ ((x1 >>> (x5 &&& 31)) &&& 1) = 0 → CI L xs xm_Mo_isLiar [.ref 400, .int x5] f (fun v1 g1 => ((v1 = 0 → CI L xs xm_Mo_at [.int x5, .int x2] g1 (fun v2 g2 => ∃ k1 : Nat, v2 = iN k1 ∧ k1 < 91 ∧ (((g2 417 k1) = (-1) → Wp L xs xm_Mo_orderBy 9 [.ref 400, .int x1, .int x2, .int x3, .int x4, .int (x5 + 1), x6] [] g2 (QI Q)) ∧ (¬ (g2 417 k1) = (-1) → CI L xs xm_Mo_at [.int x5, .int x2] g2 (fun v3 g3 => ∃ k2 : Nat, v3 = iN k2 ∧ k2 < 91 ∧ (((g3 417 k2) < x3 → Wp L xs xm_Mo_orderBy 9 [.ref 400, .int x1, .int x2, .int x3, .int x4, .int (x5 + 1), .int (g3 417 k2)] [] g3 (QI Q)) ∧ (¬ (g3 417 k2) < x3 → (((g3 417 k2) = x3 → CI L xs xm_Mo_at [.int x5, .int x2] g3 (fun v4 g4 => ∃ k3 : Nat, v4 = iN k3 ∧ k3 < 91 ∧ (((g4 418 k3) < x4 → Wp L xs xm_Mo_orderBy 98 [.ref 400, .int x1, .int x2, .int x3, .int x4, .int x5, .int (g3 417 k2)] [] g4 (QI Q)) ∧ (¬ (g4 418 k3) < x4 → Wp L xs xm_Mo_orderBy 9 [.ref 400, .int x1, .int x2, .int x3, .int x4, .int (x5 + 1), .int (g3 417 k2)] [] g4 (QI Q))))) ∧ (¬ (g3 417 k2) = x3 → Wp L xs xm_Mo_orderBy 98 [.ref 400, .int x1, .int x2, .int x3, .int x4, .int x5, .int (g3 417 k2)] [] g3 (QI Q)))))))))) ∧ (¬ v1 = 0 → Wp L xs xm_Mo_orderBy 9 [.ref 400, .int x1, .int x2, .int x3, .int x4, .int (x5 + 1), x6] [] g1 (QI Q))))))) ∧ (¬ x5 < (f 400 13) → Q x4 f))) : Wp L xs xm_Mo_orderBy 9 [.ref 400, .int x1, .int x2, .int x3, .int x4, .int x5, x6] [] f (QI Q) := by
  refine w_iload (pc' := 11) rfl rfl rfl ?_
  refine w_aload_n (pc' := 12) rfl rfl rfl ?_
  refine w_getI (pc' := 15) rfl rfl rfl rfl rfl (show xS0 L 400 = (12, 0) from rfl) ?_
  refine w_br2 (pc' := 18) (t := 120) rfl rfl rfl ic_ge (fun hc => ?_) (fun hc => ?_)
  · replace h := h.2 hc
    refine w_iload (pc' := 122) rfl rfl rfl ?_
    exact w_ireturn rfl rfl h
  · replace h := h.1 (Classical.not_not.mp hc)
    refine w_iload_n (pc' := 19) rfl rfl rfl ?_
    refine w_iload (pc' := 21) rfl rfl rfl ?_
    refine w_ishr (pc' := 22) rfl rfl ?_
    refine w_iconst (pc' := 23) rfl rfl (v := 1) rfl ?_
    refine w_iand (pc' := 24) rfl rfl ?_
    refine w_br (pc' := 27) (t := 114) rfl rfl rfl ic_eq (fun hc => ?_) (fun hc => ?_)
    · replace h := h.1 hc
      refine w_iinc (pc' := 117) rfl rfl rfl (v := (x5 + 1)) rfl (xl' := [.ref 400, .int x1, .int x2, .int x3, .int x4, .int (x5 + 1), x6]) rfl ?_
      refine w_goto (pc' := 9) rfl rfl ?_
      exact h
    · replace h := h.2 hc
      refine w_aload_n (pc' := 28) rfl rfl rfl ?_
      refine w_iload (pc' := 30) rfl rfl rfl ?_
      refine w_cv (pc' := 33) (cm := xm_Mo_isLiar) (as := [.int x5]) (a := 400) (rest := []) rfl rfl rfl  (xa_Mo_isLiar (Nat.le_of_ble_eq_true rfl)) (show xS0 L 400 = (12, 0) from rfl) rfl (CI.k h fun v1 g1 h => ?_)
      show Wp L xs xm_Mo_orderBy 33 [.ref 400, .int x1, .int x2, .int x3, .int x4, .int x5, x6] [.int v1] g1 _
      refine w_br (pc' := 36) (t := 114) rfl rfl rfl ic_ne (fun hc => ?_) (fun hc => ?_)
      · replace h := h.2 hc
        refine w_iinc (pc' := 117) rfl rfl rfl (v := (x5 + 1)) rfl (xl' := [.ref 400, .int x1, .int x2, .int x3, .int x4, .int (x5 + 1), x6]) rfl ?_
        refine w_goto (pc' := 9) rfl rfl ?_
        exact h
      · replace h := h.1 (Classical.not_not.mp hc)
        refine w_aload_n (pc' := 37) rfl rfl rfl ?_
        have q1 : xR0 400 34 = some 417 ∧ xS0 L 417 = (20, 91) := (kf_12_34 (show xS0 L 400 = (12, 0) from rfl))
        refine w_getR (pc' := 40) rfl rfl rfl rfl (show xS0 L 400 = (12, 0) from rfl) q1.1 ?_
        refine w_iload (pc' := 42) rfl rfl rfl ?_
        refine w_iload_n (pc' := 43) rfl rfl rfl ?_
        refine w_cs (pc' := 46) (cm := xm_Mo_at) (as := [.int x5, .int x2]) (rest := [.ref 417]) rfl rfl rfl (Or.inl rfl) (xa_Mo_at (Nat.le_of_ble_eq_true rfl)) (CI.k h fun v2 g2 h => ?_)
        show Wp L xs xm_Mo_orderBy 46 [.ref 400, .int x1, .int x2, .int x3, .int x4, .int x5, x6] [.int v2, .ref 417] g2 _
        obtain ⟨k1, ek1, bk1, h⟩ := h
        refine w_iaload (pc' := 47) (i := k1) rfl rfl q1.2 ek1 bk1 (by omega) ?_
        refine w_iconst (pc' := 48) rfl rfl (v := (-1)) rfl ?_
        refine w_br2 (pc' := 51) (t := 54) rfl rfl rfl ic_ne (fun hc => ?_) (fun hc => ?_)
        · replace h := h.2 hc
          refine w_aload_n (pc' := 55) rfl rfl rfl ?_
          have q2 : xR0 400 34 = some 417 ∧ xS0 L 417 = (20, 91) := (kf_12_34 (show xS0 L 400 = (12, 0) from rfl))
          refine w_getR (pc' := 58) rfl rfl rfl rfl (show xS0 L 400 = (12, 0) from rfl) q2.1 ?_
          refine w_iload (pc' := 60) rfl rfl rfl ?_
          refine w_iload_n (pc' := 61) rfl rfl rfl ?_
          refine w_cs (pc' := 64) (cm := xm_Mo_at) (as := [.int x5, .int x2]) (rest := [.ref 417]) rfl rfl rfl (Or.inl rfl) (xa_Mo_at (Nat.le_of_ble_eq_true rfl)) (CI.k h fun v3 g3 h => ?_)
          show Wp L xs xm_Mo_orderBy 64 [.ref 400, .int x1, .int x2, .int x3, .int x4, .int x5, x6] [.int v3, .ref 417] g3 _
          obtain ⟨k2, ek2, bk2, h⟩ := h
          refine w_iaload (pc' := 65) (i := k2) rfl rfl q2.2 ek2 bk2 (by omega) ?_
          refine w_istore (pc' := 67) rfl rfl (xl' := [.ref 400, .int x1, .int x2, .int x3, .int x4, .int x5, .int (g3 417 k2)]) rfl ?_
          refine w_iload (pc' := 69) rfl rfl rfl ?_
          refine w_iload_n (pc' := 70) rfl rfl rfl ?_
          refine w_br2 (pc' := 73) (t := 114) rfl rfl rfl ic_lt (fun hc => ?_) (fun hc => ?_)
          · replace h := h.1 hc
            refine w_iinc (pc' := 117) rfl rfl rfl (v := (x5 + 1)) rfl (xl' := [.ref 400, .int x1, .int x2, .int x3, .int x4, .int (x5 + 1), .int (g3 417 k2)]) rfl ?_
            refine w_goto (pc' := 9) rfl rfl ?_
            exact h
          · replace h := h.2 hc
            refine w_iload (pc' := 75) rfl rfl rfl ?_
            refine w_iload_n (pc' := 76) rfl rfl rfl ?_
            refine w_br2 (pc' := 79) (t := 98) rfl rfl rfl ic_ne (fun hc => ?_) (fun hc => ?_)
            · replace h := h.2 hc
              exact h
            · replace h := h.1 (Classical.not_not.mp hc)
              refine w_aload_n (pc' := 80) rfl rfl rfl ?_
              have q3 : xR0 400 35 = some 418 ∧ xS0 L 418 = (20, 91) := (kf_12_35 (show xS0 L 400 = (12, 0) from rfl))
              refine w_getR (pc' := 83) rfl rfl rfl rfl (show xS0 L 400 = (12, 0) from rfl) q3.1 ?_
              refine w_iload (pc' := 85) rfl rfl rfl ?_
              refine w_iload_n (pc' := 86) rfl rfl rfl ?_
              refine w_cs (pc' := 89) (cm := xm_Mo_at) (as := [.int x5, .int x2]) (rest := [.ref 418]) rfl rfl rfl (Or.inl rfl) (xa_Mo_at (Nat.le_of_ble_eq_true rfl)) (CI.k h fun v4 g4 h => ?_)
              show Wp L xs xm_Mo_orderBy 89 [.ref 400, .int x1, .int x2, .int x3, .int x4, .int x5, .int (g3 417 k2)] [.int v4, .ref 418] g4 _
              obtain ⟨k3, ek3, bk3, h⟩ := h
              refine w_iaload (pc' := 90) (i := k3) rfl rfl q3.2 ek3 bk3 (by omega) ?_
              refine w_iload (pc' := 92) rfl rfl rfl ?_
              refine w_br2 (pc' := 95) (t := 98) rfl rfl rfl ic_lt (fun hc => ?_) (fun hc => ?_)
              · replace h := h.1 hc
                exact h
              · replace h := h.2 hc
                refine w_goto (pc' := 114) rfl rfl ?_
                refine w_iinc (pc' := 117) rfl rfl rfl (v := (x5 + 1)) rfl (xl' := [.ref 400, .int x1, .int x2, .int x3, .int x4, .int (x5 + 1), .int (g3 417 k2)]) rfl ?_
                refine w_goto (pc' := 9) rfl rfl ?_
                exact h
        · replace h := h.1 (Classical.not_not.mp hc)
          refine w_goto (pc' := 114) rfl rfl ?_
          refine w_iinc (pc' := 117) rfl rfl rfl (v := (x5 + 1)) rfl (xl' := [.ref 400, .int x1, .int x2, .int x3, .int x4, .int (x5 + 1), x6]) rfl ?_
          refine w_goto (pc' := 9) rfl rfl ?_
          exact h
theorem t_Mo_orderBy_98 {L : Nat} {xs : Nat → Int32} {x1 : Int32} {x2 : Int32} {x3 : Int32} {x4 : Int32} {x5 : Int32} {x6 : Int32} {f : Hp} {Q : Int32 → Hp → Prop}  (h : CI L xs xm_Mo_at [.int x5, .int x2] f (fun v1 g1 => ∃ k1 : Nat, v1 = iN k1 ∧ k1 < 91 ∧ Wp L xs xm_Mo_orderBy 9 [.ref 400, .int x1, .int x2, .int x6, .int (g1 418 k1), .int (x5 + 1), .int x6] [] g1 (QI Q))) : Wp L xs xm_Mo_orderBy 98 [.ref 400, .int x1, .int x2, .int x3, .int x4, .int x5, .int x6] [] f (QI Q) := by
  refine w_iload (pc' := 100) rfl rfl rfl ?_
  refine w_istore_n (pc' := 101) rfl rfl (xl' := [.ref 400, .int x1, .int x2, .int x6, .int x4, .int x5, .int x6]) rfl ?_
  refine w_aload_n (pc' := 102) rfl rfl rfl ?_
  have q1 : xR0 400 35 = some 418 ∧ xS0 L 418 = (20, 91) := (kf_12_35 (show xS0 L 400 = (12, 0) from rfl))
  refine w_getR (pc' := 105) rfl rfl rfl rfl (show xS0 L 400 = (12, 0) from rfl) q1.1 ?_
  refine w_iload (pc' := 107) rfl rfl rfl ?_
  refine w_iload_n (pc' := 108) rfl rfl rfl ?_
  refine w_cs (pc' := 111) (cm := xm_Mo_at) (as := [.int x5, .int x2]) (rest := [.ref 418]) rfl rfl rfl (Or.inl rfl) (xa_Mo_at (Nat.le_of_ble_eq_true rfl)) (CI.k h fun v1 g1 h => ?_)
  show Wp L xs xm_Mo_orderBy 111 [.ref 400, .int x1, .int x2, .int x6, .int x4, .int x5, .int x6] [.int v1, .ref 418] g1 _
  obtain ⟨k1, ek1, bk1, h⟩ := h
  refine w_iaload (pc' := 112) (i := k1) rfl rfl q1.2 ek1 bk1 (by omega) ?_
  refine w_istore (pc' := 114) rfl rfl (xl' := [.ref 400, .int x1, .int x2, .int x6, .int (g1 418 k1), .int x5, .int x6]) rfl ?_
  refine w_iinc (pc' := 117) rfl rfl rfl (v := (x5 + 1)) rfl (xl' := [.ref 400, .int x1, .int x2, .int x6, .int (g1 418 k1), .int (x5 + 1), .int x6]) rfl ?_
  refine w_goto (pc' := 9) rfl rfl ?_
  exact h
theorem t_Mo_entersView_0 {L : Nat} {xs : Nat → Int32} {x1 : Int32} {f : Hp} {Q : Hp → Prop}  (h : ∃ k1 : Nat, x1 = iN k1 ∧ k1 < 7 ∧ ∀ g1, g1 = xu f 407 k1 1 → ∃ k2 : Nat, (f 406 k1) = iN k2 ∧ k2 < 10 ∧ (((g1 408 k1) < (g1 423 k2) → CV L xs xm_Mo_cuts [.ref 400, .int x1, .int (g1 423 k2)] g1 (fun g2 => Wp L xs xm_Mo_entersView 40 [.ref 400, .int x1, .int (f 406 k1), .retAddr 0] [] g2 (QV Q))) ∧ (¬ (g1 408 k1) < (g1 423 k2) → Wp L xs xm_Mo_entersView 40 [.ref 400, .int x1, .int (f 406 k1), .retAddr 0] [] g1 (QV Q)))) : CV L xs xm_Mo_entersView [.ref 400, .int x1] f Q := by
  show Wp L xs xm_Mo_entersView 0 [.ref 400, .int x1, .retAddr 0, .retAddr 0] [] f (QV Q)
  refine w_aload_n (pc' := 1) rfl rfl rfl ?_
  have q1 : xR0 400 23 = some 406 ∧ xS0 L 406 = (20, 7) := (kf_12_23 (show xS0 L 400 = (12, 0) from rfl))
  refine w_getR (pc' := 4) rfl rfl rfl rfl (show xS0 L 400 = (12, 0) from rfl) q1.1 ?_
  refine w_iload_n (pc' := 5) rfl rfl rfl ?_
  obtain ⟨k1, ek1, bk1, h⟩ := h
  refine w_iaload (pc' := 6) (i := k1) rfl rfl q1.2 ek1 bk1 (by omega) ?_
  refine w_istore_n (pc' := 7) rfl rfl (xl' := [.ref 400, .int x1, .int (f 406 k1), .retAddr 0]) rfl ?_
  refine w_aload_n (pc' := 8) rfl rfl rfl ?_
  have q2 : xR0 400 24 = some 407 ∧ xS0 L 407 = (22, 7) := (kf_12_24 (show xS0 L 400 = (12, 0) from rfl))
  refine w_getR (pc' := 11) rfl rfl rfl rfl (show xS0 L 400 = (12, 0) from rfl) q2.1 ?_
  refine w_iload_n (pc' := 12) rfl rfl rfl ?_
  refine w_iconst (pc' := 13) rfl rfl (v := 1) rfl ?_
  refine w_bastore2 (pc' := 14) (i := k1) rfl rfl q2.2 ek1 bk1 (by omega) (by decide) ?_
  replace h := h _ rfl
  generalize xu f 407 k1 1 = g1 at h ⊢
  refine w_aload_n (pc' := 15) rfl rfl rfl ?_
  have q3 : xR0 400 25 = some 408 ∧ xS0 L 408 = (20, 7) := (kf_12_25 (show xS0 L 400 = (12, 0) from rfl))
  refine w_getR (pc' := 18) rfl rfl rfl rfl (show xS0 L 400 = (12, 0) from rfl) q3.1 ?_
  refine w_iload_n (pc' := 19) rfl rfl rfl ?_
  refine w_iaload (pc' := 20) (i := k1) rfl rfl q3.2 ek1 bk1 (by omega) ?_
  refine w_aload_n (pc' := 21) rfl rfl rfl ?_
  have q4 : xR0 400 40 = some 423 ∧ xS0 L 423 = (20, 10) := (kf_12_40 (show xS0 L 400 = (12, 0) from rfl))
  refine w_getR (pc' := 24) rfl rfl rfl rfl (show xS0 L 400 = (12, 0) from rfl) q4.1 ?_
  refine w_iload_n (pc' := 25) rfl rfl rfl ?_
  obtain ⟨k2, ek2, bk2, h⟩ := h
  refine w_iaload (pc' := 26) (i := k2) rfl rfl q4.2 ek2 bk2 (by omega) ?_
  refine w_br2 (pc' := 29) (t := 40) rfl rfl rfl ic_ge (fun hc => ?_) (fun hc => ?_)
  · replace h := h.2 hc
    exact h
  · replace h := h.1 (Classical.not_not.mp hc)
    refine w_aload_n (pc' := 30) rfl rfl rfl ?_
    refine w_iload_n (pc' := 31) rfl rfl rfl ?_
    refine w_aload_n (pc' := 32) rfl rfl rfl ?_
    have q5 : xR0 400 40 = some 423 ∧ xS0 L 423 = (20, 10) := (kf_12_40 (show xS0 L 400 = (12, 0) from rfl))
    refine w_getR (pc' := 35) rfl rfl rfl rfl (show xS0 L 400 = (12, 0) from rfl) q5.1 ?_
    refine w_iload_n (pc' := 36) rfl rfl rfl ?_
    refine w_iaload (pc' := 37) (i := k2) rfl rfl q5.2 ek2 bk2 (by omega) ?_
    refine w_cv (pc' := 40) (cm := xm_Mo_cuts) (as := [.int x1, .int (g1 423 k2)]) (a := 400) (rest := []) rfl rfl rfl  (xa_Mo_cuts (Nat.le_of_ble_eq_true rfl)) (show xS0 L 400 = (12, 0) from rfl) rfl (CV.k h fun g2 h => ?_)
    show Wp L xs xm_Mo_entersView 40 [.ref 400, .int x1, .int (f 406 k1), .retAddr 0] [] g2 _
    exact h
theorem t_Mo_entersView_40 {L : Nat} {xs : Nat → Int32} {x1 : Int32} {x2 : Int32} {f : Hp} {Q : Hp → Prop}  (h : CI L xs xm_Mo_isLiar [.ref 400, .int x1] f (fun v1 g1 => ((v1 = 0 → ∃ k1 : Nat, x2 = iN k1 ∧ k1 < 10 ∧ Wp L xs xm_Mo_entersView 58 [.ref 400, .int x1, .int x2, .int ((g1 423 k1) + 1)] [] g1 (QV Q)) ∧ (¬ v1 = 0 → Q g1)))) : Wp L xs xm_Mo_entersView 40 [.ref 400, .int x1, .int x2, .retAddr 0] [] f (QV Q) := by
  refine w_aload_n (pc' := 41) rfl rfl rfl ?_
  refine w_iload_n (pc' := 42) rfl rfl rfl ?_
  refine w_cv (pc' := 45) (cm := xm_Mo_isLiar) (as := [.int x1]) (a := 400) (rest := []) rfl rfl rfl  (xa_Mo_isLiar (Nat.le_of_ble_eq_true rfl)) (show xS0 L 400 = (12, 0) from rfl) rfl (CI.k h fun v1 g1 h => ?_)
  show Wp L xs xm_Mo_entersView 45 [.ref 400, .int x1, .int x2, .retAddr 0] [.int v1] g1 _
  refine w_br (pc' := 48) (t := 49) rfl rfl rfl ic_eq (fun hc => ?_) (fun hc => ?_)
  · replace h := h.1 hc
    refine w_aload_n (pc' := 50) rfl rfl rfl ?_
    have q1 : xR0 400 40 = some 423 ∧ xS0 L 423 = (20, 10) := (kf_12_40 (show xS0 L 400 = (12, 0) from rfl))
    refine w_getR (pc' := 53) rfl rfl rfl rfl (show xS0 L 400 = (12, 0) from rfl) q1.1 ?_
    refine w_iload_n (pc' := 54) rfl rfl rfl ?_
    obtain ⟨k1, ek1, bk1, h⟩ := h
    refine w_iaload (pc' := 55) (i := k1) rfl rfl q1.2 ek1 bk1 (by omega) ?_
    refine w_iconst (pc' := 56) rfl rfl (v := 1) rfl ?_
    refine w_iadd (pc' := 57) rfl rfl ?_
    refine w_istore_n (pc' := 58) rfl rfl (xl' := [.ref 400, .int x1, .int x2, .int ((g1 423 k1) + 1)]) rfl ?_
    exact h
  · replace h := h.2 hc
    exact w_return rfl rfl h
theorem t_Mo_entersView_58 {L : Nat} {xs : Nat → Int32} {x1 : Int32} {x2 : Int32} {x3 : Int32} {f : Hp} {Q : Hp → Prop}  (h : ∃ k1 : Nat, x2 = iN k1 ∧ k1 < 10 ∧ (((f 424 k1) < x3 → Q f) ∧ (¬ (f 424 k1) < x3 → CI L xs xm_Mo_isWithin [.ref 400, .int x1, .int x3] f (fun v1 g1 => ((v1 = 0 → Wp L xs xm_Mo_entersView 58 [.ref 400, .int x1, .int x2, .int (x3 + 1)] [] g1 (QV Q)) ∧ (¬ v1 = 0 → ∃ k2 : Nat, ((13 * x2) + x3) = iN k2 ∧ k2 < 130 ∧ CV L xs xm_Mo_accepts [.ref 400, .int x1, .int x3, .int (g1 425 k2)] g1 (fun g2 => Wp L xs xm_Mo_entersView 58 [.ref 400, .int x1, .int x2, .int (x3 + 1)] [] g2 (QV Q)))))))) : Wp L xs xm_Mo_entersView 58 [.ref 400, .int x1, .int x2, .int x3] [] f (QV Q) := by
  refine w_iload_n (pc' := 59) rfl rfl rfl ?_
  refine w_aload_n (pc' := 60) rfl rfl rfl ?_
  have q1 : xR0 400 41 = some 424 ∧ xS0 L 424 = (20, 10) := (kf_12_41 (show xS0 L 400 = (12, 0) from rfl))
  refine w_getR (pc' := 63) rfl rfl rfl rfl (show xS0 L 400 = (12, 0) from rfl) q1.1 ?_
  refine w_iload_n (pc' := 64) rfl rfl rfl ?_
  obtain ⟨k1, ek1, bk1, h⟩ := h
  refine w_iaload (pc' := 65) (i := k1) rfl rfl q1.2 ek1 bk1 (by omega) ?_
  refine w_br2 (pc' := 68) (t := 100) rfl rfl rfl ic_gt (fun hc => ?_) (fun hc => ?_)
  · replace h := h.1 hc
    exact w_return rfl rfl h
  · replace h := h.2 hc
    refine w_aload_n (pc' := 69) rfl rfl rfl ?_
    refine w_iload_n (pc' := 70) rfl rfl rfl ?_
    refine w_iload_n (pc' := 71) rfl rfl rfl ?_
    refine w_cv (pc' := 74) (cm := xm_Mo_isWithin) (as := [.int x1, .int x3]) (a := 400) (rest := []) rfl rfl rfl  (xa_Mo_isWithin (Nat.le_of_ble_eq_true rfl)) (show xS0 L 400 = (12, 0) from rfl) rfl (CI.k h fun v1 g1 h => ?_)
    show Wp L xs xm_Mo_entersView 74 [.ref 400, .int x1, .int x2, .int x3] [.int v1] g1 _
    refine w_br (pc' := 77) (t := 94) rfl rfl rfl ic_eq (fun hc => ?_) (fun hc => ?_)
    · replace h := h.1 hc
      refine w_iinc (pc' := 97) rfl rfl rfl (v := (x3 + 1)) rfl (xl' := [.ref 400, .int x1, .int x2, .int (x3 + 1)]) rfl ?_
      refine w_goto (pc' := 58) rfl rfl ?_
      exact h
    · replace h := h.2 hc
      refine w_aload_n (pc' := 78) rfl rfl rfl ?_
      refine w_iload_n (pc' := 79) rfl rfl rfl ?_
      refine w_iload_n (pc' := 80) rfl rfl rfl ?_
      refine w_aload_n (pc' := 81) rfl rfl rfl ?_
      have q2 : xR0 400 42 = some 425 ∧ xS0 L 425 = (20, 130) := (kf_12_42 (show xS0 L 400 = (12, 0) from rfl))
      refine w_getR (pc' := 84) rfl rfl rfl rfl (show xS0 L 400 = (12, 0) from rfl) q2.1 ?_
      refine w_bipush (pc' := 86) rfl rfl (v := 13) rfl ?_
      refine w_iload_n (pc' := 87) rfl rfl rfl ?_
      refine w_imul (pc' := 88) rfl rfl ?_
      refine w_iload_n (pc' := 89) rfl rfl rfl ?_
      refine w_iadd (pc' := 90) rfl rfl ?_
      obtain ⟨k2, ek2, bk2, h⟩ := h
      refine w_iaload (pc' := 91) (i := k2) rfl rfl q2.2 ek2 bk2 (by omega) ?_
      refine w_cv (pc' := 94) (cm := xm_Mo_accepts) (as := [.int x1, .int x3, .int (g1 425 k2)]) (a := 400) (rest := []) rfl rfl rfl  (xa_Mo_accepts (Nat.le_of_ble_eq_true rfl)) (show xS0 L 400 = (12, 0) from rfl) rfl (CV.k h fun g2 h => ?_)
      show Wp L xs xm_Mo_entersView 94 [.ref 400, .int x1, .int x2, .int x3] [] g2 _
      refine w_iinc (pc' := 97) rfl rfl rfl (v := (x3 + 1)) rfl (xl' := [.ref 400, .int x1, .int x2, .int (x3 + 1)]) rfl ?_
      refine w_goto (pc' := 58) rfl rfl ?_
      exact h
theorem t_Mo_entersAlone_0 {L : Nat} {xs : Nat → Int32} {x1 : Int32} {f : Hp} {Q : Int32 → Hp → Prop}  (h : ∃ k1 : Nat, x1 = iN k1 ∧ k1 < 7 ∧ (((f 407 k1) = 0 → ∃ k2 : Nat, (f 406 k1) = iN k2 ∧ k2 < 10 ∧ (((f 422 k2) = 0 → Q 0 f) ∧ (¬ (f 422 k2) = 0 → CV L xs xm_Mo_entersView [.ref 400, .int x1] f (fun g1 => Q 1 g1)))) ∧ (¬ (f 407 k1) = 0 → Q 0 f))) : CI L xs xm_Mo_entersAlone [.ref 400, .int x1] f Q := by
  show Wp L xs xm_Mo_entersAlone 0 [.ref 400, .int x1] [] f (QI Q)
  refine w_aload_n (pc' := 1) rfl rfl rfl ?_
  have q1 : xR0 400 24 = some 407 ∧ xS0 L 407 = (22, 7) := (kf_12_24 (show xS0 L 400 = (12, 0) from rfl))
  refine w_getR (pc' := 4) rfl rfl rfl rfl (show xS0 L 400 = (12, 0) from rfl) q1.1 ?_
  refine w_iload_n (pc' := 5) rfl rfl rfl ?_
  obtain ⟨k1, ek1, bk1, h⟩ := h
  refine w_baload (pc' := 6) (i := k1) rfl rfl q1.2 (Or.inr rfl) ek1 bk1 (by omega) ?_
  refine w_br (pc' := 9) (t := 23) rfl rfl rfl ic_ne (fun hc => ?_) (fun hc => ?_)
  · replace h := h.2 hc
    refine w_iconst (pc' := 24) rfl rfl (v := 0) rfl ?_
    exact w_ireturn rfl rfl h
  · replace h := h.1 (Classical.not_not.mp hc)
    refine w_aload_n (pc' := 10) rfl rfl rfl ?_
    have q2 : xR0 400 39 = some 422 ∧ xS0 L 422 = (22, 10) := (kf_12_39 (show xS0 L 400 = (12, 0) from rfl))
    refine w_getR (pc' := 13) rfl rfl rfl rfl (show xS0 L 400 = (12, 0) from rfl) q2.1 ?_
    refine w_aload_n (pc' := 14) rfl rfl rfl ?_
    have q3 : xR0 400 23 = some 406 ∧ xS0 L 406 = (20, 7) := (kf_12_23 (show xS0 L 400 = (12, 0) from rfl))
    refine w_getR (pc' := 17) rfl rfl rfl rfl (show xS0 L 400 = (12, 0) from rfl) q3.1 ?_
    refine w_iload_n (pc' := 18) rfl rfl rfl ?_
    refine w_iaload (pc' := 19) (i := k1) rfl rfl q3.2 ek1 bk1 (by omega) ?_
    obtain ⟨k2, ek2, bk2, h⟩ := h
    refine w_baload (pc' := 20) (i := k2) rfl rfl q2.2 (Or.inr rfl) ek2 bk2 (by omega) ?_
    refine w_br (pc' := 23) (t := 25) rfl rfl rfl ic_ne (fun hc => ?_) (fun hc => ?_)
    · replace h := h.2 hc
      refine w_aload_n (pc' := 26) rfl rfl rfl ?_
      refine w_iload_n (pc' := 27) rfl rfl rfl ?_
      refine w_cv (pc' := 30) (cm := xm_Mo_entersView) (as := [.int x1]) (a := 400) (rest := []) rfl rfl rfl  (xa_Mo_entersView (Nat.le_of_ble_eq_true rfl)) (show xS0 L 400 = (12, 0) from rfl) rfl (CV.k h fun g1 h => ?_)
      show Wp L xs xm_Mo_entersAlone 30 [.ref 400, .int x1] [] g1 _
      refine w_iconst (pc' := 31) rfl rfl (v := 1) rfl ?_
      exact w_ireturn rfl rfl h
    · replace h := h.1 (Classical.not_not.mp hc)
      refine w_iconst (pc' := 24) rfl rfl (v := 0) rfl ?_
      exact w_ireturn rfl rfl h
theorem t_Mo_state_0 {L : Nat} {xs : Nat → Int32} {x1 : Int32} {x2 : Int32} {x3 : Int32} {x4 : Int32} {x5 : Int32} {f : Hp} {Q : Int32 → Hp → Prop}  (h : CI L xs xm_Mo_isState [.ref 400, .int x1, .int x2, .int x3] f (fun v1 g1 => ((v1 = 0 → Q (-2) g1) ∧ (¬ v1 = 0 → CI L xs xm_Mo_nowOf [.ref 400, .int x4, .int x5] g1 (fun v2 g2 => Q v2 g2))))) : CI L xs xm_Mo_state [.ref 400, .int x1, .int x2, .int x3, .int x4, .int x5] f Q := by
  show Wp L xs xm_Mo_state 0 [.ref 400, .int x1, .int x2, .int x3, .int x4, .int x5] [] f (QI Q)
  refine w_aload_n (pc' := 1) rfl rfl rfl ?_
  refine w_iload_n (pc' := 2) rfl rfl rfl ?_
  refine w_iload_n (pc' := 3) rfl rfl rfl ?_
  refine w_iload_n (pc' := 4) rfl rfl rfl ?_
  refine w_cv (pc' := 7) (cm := xm_Mo_isState) (as := [.int x1, .int x2, .int x3]) (a := 400) (rest := []) rfl rfl rfl  (xa_Mo_isState (Nat.le_of_ble_eq_true rfl)) (show xS0 L 400 = (12, 0) from rfl) rfl (CI.k h fun v1 g1 h => ?_)
  show Wp L xs xm_Mo_state 7 [.ref 400, .int x1, .int x2, .int x3, .int x4, .int x5] [.int v1] g1 _
  refine w_br (pc' := 10) (t := 21) rfl rfl rfl ic_eq (fun hc => ?_) (fun hc => ?_)
  · replace h := h.1 hc
    refine w_bipush (pc' := 23) rfl rfl (v := (-2)) rfl ?_
    exact w_ireturn rfl rfl h
  · replace h := h.2 hc
    refine w_aload_n (pc' := 11) rfl rfl rfl ?_
    refine w_iload (pc' := 13) rfl rfl rfl ?_
    refine w_iload (pc' := 15) rfl rfl rfl ?_
    refine w_cv (pc' := 18) (cm := xm_Mo_nowOf) (as := [.int x4, .int x5]) (a := 400) (rest := []) rfl rfl rfl  (xa_Mo_nowOf (Nat.le_of_ble_eq_true rfl)) (show xS0 L 400 = (12, 0) from rfl) rfl (CI.k h fun v2 g2 h => ?_)
    show Wp L xs xm_Mo_state 18 [.ref 400, .int x1, .int x2, .int x3, .int x4, .int x5] [.int v2] g2 _
    refine w_goto (pc' := 23) rfl rfl ?_
    exact w_ireturn rfl rfl h
theorem t_Mo_isState_0 {L : Nat} {xs : Nat → Int32} {x1 : Int32} {x2 : Int32} {x3 : Int32} {f : Hp} {Q : Int32 → Hp → Prop}  (h : CI L xs xm_Mo_isCouncil [.ref 400, .int x1] f (fun v1 g1 => ((v1 = 0 → Q 0 g1) ∧ (¬ v1 = 0 → CI L xs xm_Mo_isRun [.ref 400, .int x2] g1 (fun v2 g2 => ((v2 = 0 → Q 0 g2) ∧ (¬ v2 = 0 → ((x3 < 0 → Q 0 g2) ∧ (¬ x3 < 0 → CV L xs xm_Mo_goes [.ref 400, .int x3] g2 (fun g3 => (((g3 400 43) = x3 → Q 1 g3) ∧ (¬ (g3 400 43) = x3 → Q 0 g3)))))))))))) : CI L xs xm_Mo_isState [.ref 400, .int x1, .int x2, .int x3] f Q := by
  show Wp L xs xm_Mo_isState 0 [.ref 400, .int x1, .int x2, .int x3] [] f (QI Q)
  refine w_aload_n (pc' := 1) rfl rfl rfl ?_
  refine w_iload_n (pc' := 2) rfl rfl rfl ?_
  refine w_cv (pc' := 5) (cm := xm_Mo_isCouncil) (as := [.int x1]) (a := 400) (rest := []) rfl rfl rfl  (xa_Mo_isCouncil (Nat.le_of_ble_eq_true rfl)) (show xS0 L 400 = (12, 0) from rfl) rfl (CI.k h fun v1 g1 h => ?_)
  show Wp L xs xm_Mo_isState 5 [.ref 400, .int x1, .int x2, .int x3] [.int v1] g1 _
  refine w_br (pc' := 8) (t := 20) rfl rfl rfl ic_eq (fun hc => ?_) (fun hc => ?_)
  · replace h := h.1 hc
    refine w_iconst (pc' := 21) rfl rfl (v := 0) rfl ?_
    exact w_ireturn rfl rfl h
  · replace h := h.2 hc
    refine w_aload_n (pc' := 9) rfl rfl rfl ?_
    refine w_iload_n (pc' := 10) rfl rfl rfl ?_
    refine w_cv (pc' := 13) (cm := xm_Mo_isRun) (as := [.int x2]) (a := 400) (rest := []) rfl rfl rfl  (xa_Mo_isRun (Nat.le_of_ble_eq_true rfl)) (show xS0 L 400 = (12, 0) from rfl) rfl (CI.k h fun v2 g2 h => ?_)
    show Wp L xs xm_Mo_isState 13 [.ref 400, .int x1, .int x2, .int x3] [.int v2] g2 _
    refine w_br (pc' := 16) (t := 20) rfl rfl rfl ic_eq (fun hc => ?_) (fun hc => ?_)
    · replace h := h.1 hc
      refine w_iconst (pc' := 21) rfl rfl (v := 0) rfl ?_
      exact w_ireturn rfl rfl h
    · replace h := h.2 hc
      refine w_iload_n (pc' := 17) rfl rfl rfl ?_
      refine w_br (pc' := 20) (t := 22) rfl rfl rfl ic_ge (fun hc => ?_) (fun hc => ?_)
      · replace h := h.2 hc
        refine w_aload_n (pc' := 23) rfl rfl rfl ?_
        refine w_iload_n (pc' := 24) rfl rfl rfl ?_
        refine w_cv (pc' := 27) (cm := xm_Mo_goes) (as := [.int x3]) (a := 400) (rest := []) rfl rfl rfl  (xa_Mo_goes (Nat.le_of_ble_eq_true rfl)) (show xS0 L 400 = (12, 0) from rfl) rfl (CV.k h fun g3 h => ?_)
        show Wp L xs xm_Mo_isState 27 [.ref 400, .int x1, .int x2, .int x3] [] g3 _
        refine w_aload_n (pc' := 28) rfl rfl rfl ?_
        refine w_getI (pc' := 31) rfl rfl rfl rfl rfl (show xS0 L 400 = (12, 0) from rfl) ?_
        refine w_iload_n (pc' := 32) rfl rfl rfl ?_
        refine w_br2 (pc' := 35) (t := 39) rfl rfl rfl ic_ne (fun hc => ?_) (fun hc => ?_)
        · replace h := h.2 hc
          refine w_iconst (pc' := 40) rfl rfl (v := 0) rfl ?_
          exact w_ireturn rfl rfl h
        · replace h := h.1 (Classical.not_not.mp hc)
          refine w_iconst (pc' := 36) rfl rfl (v := 1) rfl ?_
          refine w_goto (pc' := 40) rfl rfl ?_
          exact w_ireturn rfl rfl h
      · replace h := h.1 (Classical.not_not.mp hc)
        refine w_iconst (pc' := 21) rfl rfl (v := 0) rfl ?_
        exact w_ireturn rfl rfl h
theorem t_Mo_nowOf_0 {L : Nat} {xs : Nat → Int32} {x1 : Int32} {x2 : Int32} {f : Hp} {Q : Int32 → Hp → Prop}  (h : CI L xs xm_Mo_isMember [.ref 400, .int x1] f (fun v1 g1 => ((v1 = 0 → Q (-2) g1) ∧ (¬ v1 = 0 → ((x2 < 0 → Q (-2) g1) ∧ (¬ x2 < 0 → ((x2 < 100 → ((x2 = 0 → ∃ k1 : Nat, x1 = iN k1 ∧ k1 < 7 ∧ Q (g1 406 k1) g1) ∧ (¬ x2 = 0 → ((x2 = 1 → ∃ k2 : Nat, x1 = iN k2 ∧ k2 < 7 ∧ (((g1 407 k2) = 0 → Q 0 g1) ∧ (¬ (g1 407 k2) = 0 → Q 1 g1))) ∧ (¬ x2 = 1 → ((x2 = 2 → ∃ k3 : Nat, x1 = iN k3 ∧ k3 < 7 ∧ Q (g1 408 k3) g1) ∧ (¬ x2 = 2 → ((x2 = 3 → ∃ k4 : Nat, x1 = iN k4 ∧ k4 < 7 ∧ Q (g1 409 k4) g1) ∧ (¬ x2 = 3 → ((x2 = 4 → CI L xs xm_Mo_rootOf [.ref 400, .ref 412, .int (8 * x1)] g1 (fun v2 g2 => Q v2 g2)) ∧ (¬ x2 = 4 → ((x2 = 5 → ∃ k5 : Nat, x1 = iN k5 ∧ k5 < 7 ∧ Q (g1 410 k5) g1) ∧ (¬ x2 = 5 → ((x2 = 6 → ∃ k6 : Nat, x1 = iN k6 ∧ k6 < 7 ∧ Q (g1 411 k6) g1) ∧ (¬ x2 = 6 → CI L xs xm_Mo_isIn [.int x2, .int 10, .int 17] g1 (fun v3 g3 => ((v3 = 0 → Q (-2) g3) ∧ (¬ v3 = 0 → ∃ k7 : Nat, (((8 * x1) + x2) - 10) = iN k7 ∧ k7 < 56 ∧ Q (g3 412 k7) g3)))))))))))))))))) ∧ (¬ x2 < 100 → CI L xs xm_Mo_isIn [.int (x2 / 100), .int 1, .int 12] g1 (fun v4 g4 => ((v4 = 0 → Q (-2) g4) ∧ (¬ v4 = 0 → CI L xs xm_Mo_placeNow [.ref 400, .int x1, .int (x2 / 100), .int (jrem x2 100)] g4 (fun v5 g5 => Q v5 g5)))))))))))) : CI L xs xm_Mo_nowOf [.ref 400, .int x1, .int x2] f Q := by
  show Wp L xs xm_Mo_nowOf 0 [.ref 400, .int x1, .int x2] [] f (QI Q)
  refine w_aload_n (pc' := 1) rfl rfl rfl ?_
  refine w_iload_n (pc' := 2) rfl rfl rfl ?_
  refine w_cv (pc' := 5) (cm := xm_Mo_isMember) (as := [.int x1]) (a := 400) (rest := []) rfl rfl rfl  (xa_Mo_isMember (Nat.le_of_ble_eq_true rfl)) (show xS0 L 400 = (12, 0) from rfl) rfl (CI.k h fun v1 g1 h => ?_)
  show Wp L xs xm_Mo_nowOf 5 [.ref 400, .int x1, .int x2] [.int v1] g1 _
  refine w_br (pc' := 8) (t := 12) rfl rfl rfl ic_eq (fun hc => ?_) (fun hc => ?_)
  · replace h := h.1 hc
    refine w_bipush (pc' := 14) rfl rfl (v := (-2)) rfl ?_
    exact w_ireturn rfl rfl h
  · replace h := h.2 hc
    refine w_iload_n (pc' := 9) rfl rfl rfl ?_
    refine w_br (pc' := 12) (t := 15) rfl rfl rfl ic_ge (fun hc => ?_) (fun hc => ?_)
    · replace h := h.2 hc
      refine w_iload_n (pc' := 16) rfl rfl rfl ?_
      refine w_bipush (pc' := 18) rfl rfl (v := 100) rfl ?_
      refine w_br2 (pc' := 21) (t := 53) rfl rfl rfl ic_lt (fun hc => ?_) (fun hc => ?_)
      · replace h := h.1 hc
        refine w_iload_n (pc' := 54) rfl rfl rfl ?_
        by_cases hs0 : x2 = 0
        · replace h := h.1 hs0
          refine w_ts (o := 42) (t := 96) rfl (by rw [hs0]; decide) (by rw [hs0]; rfl) rfl ?_
          refine w_aload_n (pc' := 97) rfl rfl rfl ?_
          have q1 : xR0 400 23 = some 406 ∧ xS0 L 406 = (20, 7) := (kf_12_23 (show xS0 L 400 = (12, 0) from rfl))
          refine w_getR (pc' := 100) rfl rfl rfl rfl (show xS0 L 400 = (12, 0) from rfl) q1.1 ?_
          refine w_iload_n (pc' := 101) rfl rfl rfl ?_
          obtain ⟨k1, ek1, bk1, h⟩ := h
          refine w_iaload (pc' := 102) (i := k1) rfl rfl q1.2 ek1 bk1 (by omega) ?_
          exact w_ireturn rfl rfl h
        replace h := h.2 hs0
        by_cases hs1 : x2 = 1
        · replace h := h.1 hs1
          refine w_ts (o := 49) (t := 103) rfl (by rw [hs1]; decide) (by rw [hs1]; rfl) rfl ?_
          refine w_aload_n (pc' := 104) rfl rfl rfl ?_
          have q2 : xR0 400 24 = some 407 ∧ xS0 L 407 = (22, 7) := (kf_12_24 (show xS0 L 400 = (12, 0) from rfl))
          refine w_getR (pc' := 107) rfl rfl rfl rfl (show xS0 L 400 = (12, 0) from rfl) q2.1 ?_
          refine w_iload_n (pc' := 108) rfl rfl rfl ?_
          obtain ⟨k2, ek2, bk2, h⟩ := h
          refine w_baload (pc' := 109) (i := k2) rfl rfl q2.2 (Or.inr rfl) ek2 bk2 (by omega) ?_
          refine w_br (pc' := 112) (t := 116) rfl rfl rfl ic_eq (fun hc => ?_) (fun hc => ?_)
          · replace h := h.1 hc
            refine w_iconst (pc' := 117) rfl rfl (v := 0) rfl ?_
            exact w_ireturn rfl rfl h
          · replace h := h.2 hc
            refine w_iconst (pc' := 113) rfl rfl (v := 1) rfl ?_
            refine w_goto (pc' := 117) rfl rfl ?_
            exact w_ireturn rfl rfl h
        replace h := h.2 hs1
        by_cases hs2 : x2 = 2
        · replace h := h.1 hs2
          refine w_ts (o := 64) (t := 118) rfl (by rw [hs2]; decide) (by rw [hs2]; rfl) rfl ?_
          refine w_aload_n (pc' := 119) rfl rfl rfl ?_
          have q3 : xR0 400 25 = some 408 ∧ xS0 L 408 = (20, 7) := (kf_12_25 (show xS0 L 400 = (12, 0) from rfl))
          refine w_getR (pc' := 122) rfl rfl rfl rfl (show xS0 L 400 = (12, 0) from rfl) q3.1 ?_
          refine w_iload_n (pc' := 123) rfl rfl rfl ?_
          obtain ⟨k3, ek3, bk3, h⟩ := h
          refine w_iaload (pc' := 124) (i := k3) rfl rfl q3.2 ek3 bk3 (by omega) ?_
          exact w_ireturn rfl rfl h
        replace h := h.2 hs2
        by_cases hs3 : x2 = 3
        · replace h := h.1 hs3
          refine w_ts (o := 71) (t := 125) rfl (by rw [hs3]; decide) (by rw [hs3]; rfl) rfl ?_
          refine w_aload_n (pc' := 126) rfl rfl rfl ?_
          have q4 : xR0 400 26 = some 409 ∧ xS0 L 409 = (20, 7) := (kf_12_26 (show xS0 L 400 = (12, 0) from rfl))
          refine w_getR (pc' := 129) rfl rfl rfl rfl (show xS0 L 400 = (12, 0) from rfl) q4.1 ?_
          refine w_iload_n (pc' := 130) rfl rfl rfl ?_
          obtain ⟨k4, ek4, bk4, h⟩ := h
          refine w_iaload (pc' := 131) (i := k4) rfl rfl q4.2 ek4 bk4 (by omega) ?_
          exact w_ireturn rfl rfl h
        replace h := h.2 hs3
        by_cases hs4 : x2 = 4
        · replace h := h.1 hs4
          refine w_ts (o := 78) (t := 132) rfl (by rw [hs4]; decide) (by rw [hs4]; rfl) rfl ?_
          refine w_aload_n (pc' := 133) rfl rfl rfl ?_
          refine w_aload_n (pc' := 134) rfl rfl rfl ?_
          have q5 : xR0 400 29 = some 412 ∧ xS0 L 412 = (20, 56) := (kf_12_29 (show xS0 L 400 = (12, 0) from rfl))
          refine w_getR (pc' := 137) rfl rfl rfl rfl (show xS0 L 400 = (12, 0) from rfl) q5.1 ?_
          refine w_bipush (pc' := 139) rfl rfl (v := 8) rfl ?_
          refine w_iload_n (pc' := 140) rfl rfl rfl ?_
          refine w_imul (pc' := 141) rfl rfl ?_
          refine w_cv (pc' := 144) (cm := xm_Mo_rootOf) (as := [.ref 412, .int (8 * x1)]) (a := 400) (rest := []) rfl rfl rfl  (xa_Mo_rootOf (Nat.le_of_ble_eq_true rfl)) (show xS0 L 400 = (12, 0) from rfl) rfl (CI.k h fun v2 g2 h => ?_)
          show Wp L xs xm_Mo_nowOf 144 [.ref 400, .int x1, .int x2] [.int v2] g2 _
          exact w_ireturn rfl rfl h
        replace h := h.2 hs4
        by_cases hs5 : x2 = 5
        · replace h := h.1 hs5
          refine w_ts (o := 91) (t := 145) rfl (by rw [hs5]; decide) (by rw [hs5]; rfl) rfl ?_
          refine w_aload_n (pc' := 146) rfl rfl rfl ?_
          have q6 : xR0 400 27 = some 410 ∧ xS0 L 410 = (20, 7) := (kf_12_27 (show xS0 L 400 = (12, 0) from rfl))
          refine w_getR (pc' := 149) rfl rfl rfl rfl (show xS0 L 400 = (12, 0) from rfl) q6.1 ?_
          refine w_iload_n (pc' := 150) rfl rfl rfl ?_
          obtain ⟨k5, ek5, bk5, h⟩ := h
          refine w_iaload (pc' := 151) (i := k5) rfl rfl q6.2 ek5 bk5 (by omega) ?_
          exact w_ireturn rfl rfl h
        replace h := h.2 hs5
        by_cases hs6 : x2 = 6
        · replace h := h.1 hs6
          refine w_ts (o := 98) (t := 152) rfl (by rw [hs6]; decide) (by rw [hs6]; rfl) rfl ?_
          refine w_aload_n (pc' := 153) rfl rfl rfl ?_
          have q7 : xR0 400 28 = some 411 ∧ xS0 L 411 = (20, 7) := (kf_12_28 (show xS0 L 400 = (12, 0) from rfl))
          refine w_getR (pc' := 156) rfl rfl rfl rfl (show xS0 L 400 = (12, 0) from rfl) q7.1 ?_
          refine w_iload_n (pc' := 157) rfl rfl rfl ?_
          obtain ⟨k6, ek6, bk6, h⟩ := h
          refine w_iaload (pc' := 158) (i := k6) rfl rfl q7.2 ek6 bk6 (by omega) ?_
          exact w_ireturn rfl rfl h
        replace h := h.2 hs6
        refine w_tsd (t := 159) rfl ?_ rfl ?_
        · have z0 : (x2).toInt ≠ 0 := fun e => hs0 (Int32.toInt_inj.mp e); have z1 : (x2).toInt ≠ 1 := fun e => hs1 (Int32.toInt_inj.mp e); have z2 : (x2).toInt ≠ 2 := fun e => hs2 (Int32.toInt_inj.mp e); have z3 : (x2).toInt ≠ 3 := fun e => hs3 (Int32.toInt_inj.mp e); have z4 : (x2).toInt ≠ 4 := fun e => hs4 (Int32.toInt_inj.mp e); have z5 : (x2).toInt ≠ 5 := fun e => hs5 (Int32.toInt_inj.mp e); have z6 : (x2).toInt ≠ 6 := fun e => hs6 (Int32.toInt_inj.mp e); omega
        refine w_iload_n (pc' := 160) rfl rfl rfl ?_
        refine w_bipush (pc' := 162) rfl rfl (v := 10) rfl ?_
        refine w_bipush (pc' := 164) rfl rfl (v := 17) rfl ?_
        refine w_cs (pc' := 167) (cm := xm_Mo_isIn) (as := [.int x2, .int 10, .int 17]) (rest := []) rfl rfl rfl (Or.inl rfl) (xa_Mo_isIn (Nat.le_of_ble_eq_true rfl)) (CI.k h fun v3 g3 h => ?_)
        show Wp L xs xm_Mo_nowOf 167 [.ref 400, .int x1, .int x2] [.int v3] g3 _
        refine w_br (pc' := 170) (t := 187) rfl rfl rfl ic_eq (fun hc => ?_) (fun hc => ?_)
        · replace h := h.1 hc
          refine w_bipush (pc' := 189) rfl rfl (v := (-2)) rfl ?_
          exact w_ireturn rfl rfl h
        · replace h := h.2 hc
          refine w_aload_n (pc' := 171) rfl rfl rfl ?_
          have q8 : xR0 400 29 = some 412 ∧ xS0 L 412 = (20, 56) := (kf_12_29 (show xS0 L 400 = (12, 0) from rfl))
          refine w_getR (pc' := 174) rfl rfl rfl rfl (show xS0 L 400 = (12, 0) from rfl) q8.1 ?_
          refine w_bipush (pc' := 176) rfl rfl (v := 8) rfl ?_
          refine w_iload_n (pc' := 177) rfl rfl rfl ?_
          refine w_imul (pc' := 178) rfl rfl ?_
          refine w_iload_n (pc' := 179) rfl rfl rfl ?_
          refine w_iadd (pc' := 180) rfl rfl ?_
          refine w_bipush (pc' := 182) rfl rfl (v := 10) rfl ?_
          refine w_isub (pc' := 183) rfl rfl ?_
          obtain ⟨k7, ek7, bk7, h⟩ := h
          refine w_iaload (pc' := 184) (i := k7) rfl rfl q8.2 ek7 bk7 (by omega) ?_
          refine w_goto (pc' := 189) rfl rfl ?_
          exact w_ireturn rfl rfl h
      · replace h := h.2 hc
        refine w_iload_n (pc' := 22) rfl rfl rfl ?_
        refine w_bipush (pc' := 24) rfl rfl (v := 100) rfl ?_
        refine w_idiv (pc' := 25) rfl rfl (by decide) ?_
        refine w_iconst (pc' := 26) rfl rfl (v := 1) rfl ?_
        refine w_bipush (pc' := 28) rfl rfl (v := 12) rfl ?_
        refine w_cs (pc' := 31) (cm := xm_Mo_isIn) (as := [.int (x2 / 100), .int 1, .int 12]) (rest := []) rfl rfl rfl (Or.inl rfl) (xa_Mo_isIn (Nat.le_of_ble_eq_true rfl)) (CI.k h fun v4 g4 h => ?_)
        show Wp L xs xm_Mo_nowOf 31 [.ref 400, .int x1, .int x2] [.int v4] g4 _
        refine w_br (pc' := 34) (t := 50) rfl rfl rfl ic_eq (fun hc => ?_) (fun hc => ?_)
        · replace h := h.1 hc
          refine w_bipush (pc' := 52) rfl rfl (v := (-2)) rfl ?_
          exact w_ireturn rfl rfl h
        · replace h := h.2 hc
          refine w_aload_n (pc' := 35) rfl rfl rfl ?_
          refine w_iload_n (pc' := 36) rfl rfl rfl ?_
          refine w_iload_n (pc' := 37) rfl rfl rfl ?_
          refine w_bipush (pc' := 39) rfl rfl (v := 100) rfl ?_
          refine w_idiv (pc' := 40) rfl rfl (by decide) ?_
          refine w_iload_n (pc' := 41) rfl rfl rfl ?_
          refine w_bipush (pc' := 43) rfl rfl (v := 100) rfl ?_
          refine w_irem (pc' := 44) rfl rfl (by decide) ?_
          refine w_cv (pc' := 47) (cm := xm_Mo_placeNow) (as := [.int x1, .int (x2 / 100), .int (jrem x2 100)]) (a := 400) (rest := []) rfl rfl rfl  (xa_Mo_placeNow (Nat.le_of_ble_eq_true rfl)) (show xS0 L 400 = (12, 0) from rfl) rfl (CI.k h fun v5 g5 h => ?_)
          show Wp L xs xm_Mo_nowOf 47 [.ref 400, .int x1, .int x2] [.int v5] g5 _
          refine w_goto (pc' := 52) rfl rfl ?_
          exact w_ireturn rfl rfl h
    · replace h := h.1 (Classical.not_not.mp hc)
      refine w_bipush (pc' := 14) rfl rfl (v := (-2)) rfl ?_
      exact w_ireturn rfl rfl h
theorem t_Mo_placeNow_0 {L : Nat} {xs : Nat → Int32} {x1 : Int32} {x2 : Int32} {x3 : Int32} {f : Hp} {Q : Int32 → Hp → Prop}  (h : CI L xs xm_Mo_at [.int x1, .int x2] f (fun v1 g1 => ((x3 = 0 → ∃ k1 : Nat, v1 = iN k1 ∧ k1 < 91 ∧ Q (g1 414 k1) g1) ∧ (¬ x3 = 0 → ((x3 = 1 → ∃ k2 : Nat, v1 = iN k2 ∧ k2 < 91 ∧ Q (g1 415 k2) g1) ∧ (¬ x3 = 1 → ((x3 = 2 → ∃ k3 : Nat, v1 = iN k3 ∧ k3 < 91 ∧ Q (g1 416 k3) g1) ∧ (¬ x3 = 2 → ((x3 = 3 → CI L xs xm_Mo_isPrepared [.ref 400, .int x1, .int x2] g1 (fun v2 g2 => ((v2 = 0 → Q 0 g2) ∧ (¬ v2 = 0 → Q 1 g2)))) ∧ (¬ x3 = 3 → ((x3 = 4 → CI L xs xm_Mo_isCommitted [.ref 400, .int x1, .int x2] g1 (fun v3 g3 => ((v3 = 0 → Q 0 g3) ∧ (¬ v3 = 0 → Q 1 g3)))) ∧ (¬ x3 = 4 → ((x3 = 5 → ∃ k4 : Nat, v1 = iN k4 ∧ k4 < 91 ∧ Q (g1 417 k4) g1) ∧ (¬ x3 = 5 → ((x3 = 6 → ∃ k5 : Nat, v1 = iN k5 ∧ k5 < 91 ∧ Q (g1 418 k5) g1) ∧ (¬ x3 = 6 → ((x3 = 7 → ∃ k6 : Nat, v1 = iN k6 ∧ k6 < 91 ∧ Q (g1 419 k6) g1) ∧ (¬ x3 = 7 → Q (-2) g1)))))))))))))))))) : CI L xs xm_Mo_placeNow [.ref 400, .int x1, .int x2, .int x3] f Q := by
  show Wp L xs xm_Mo_placeNow 0 [.ref 400, .int x1, .int x2, .int x3, .retAddr 0] [] f (QI Q)
  refine w_iload_n (pc' := 1) rfl rfl rfl ?_
  refine w_iload_n (pc' := 2) rfl rfl rfl ?_
  refine w_cs (pc' := 5) (cm := xm_Mo_at) (as := [.int x1, .int x2]) (rest := []) rfl rfl rfl (Or.inl rfl) (xa_Mo_at (Nat.le_of_ble_eq_true rfl)) (CI.k h fun v1 g1 h => ?_)
  show Wp L xs xm_Mo_placeNow 5 [.ref 400, .int x1, .int x2, .int x3, .retAddr 0] [.int v1] g1 _
  refine w_istore (pc' := 7) rfl rfl (xl' := [.ref 400, .int x1, .int x2, .int x3, .int v1]) rfl ?_
  refine w_iload_n (pc' := 8) rfl rfl rfl ?_
  by_cases hs0 : x3 = 0
  · replace h := h.1 hs0
    refine w_ts (o := 48) (t := 56) rfl (by rw [hs0]; decide) (by rw [hs0]; rfl) rfl ?_
    refine w_aload_n (pc' := 57) rfl rfl rfl ?_
    have q1 : xR0 400 31 = some 414 ∧ xS0 L 414 = (20, 91) := (kf_12_31 (show xS0 L 400 = (12, 0) from rfl))
    refine w_getR (pc' := 60) rfl rfl rfl rfl (show xS0 L 400 = (12, 0) from rfl) q1.1 ?_
    refine w_iload (pc' := 62) rfl rfl rfl ?_
    obtain ⟨k1, ek1, bk1, h⟩ := h
    refine w_iaload (pc' := 63) (i := k1) rfl rfl q1.2 ek1 bk1 (by omega) ?_
    exact w_ireturn rfl rfl h
  replace h := h.2 hs0
  by_cases hs1 : x3 = 1
  · replace h := h.1 hs1
    refine w_ts (o := 56) (t := 64) rfl (by rw [hs1]; decide) (by rw [hs1]; rfl) rfl ?_
    refine w_aload_n (pc' := 65) rfl rfl rfl ?_
    have q2 : xR0 400 32 = some 415 ∧ xS0 L 415 = (20, 91) := (kf_12_32 (show xS0 L 400 = (12, 0) from rfl))
    refine w_getR (pc' := 68) rfl rfl rfl rfl (show xS0 L 400 = (12, 0) from rfl) q2.1 ?_
    refine w_iload (pc' := 70) rfl rfl rfl ?_
    obtain ⟨k2, ek2, bk2, h⟩ := h
    refine w_iaload (pc' := 71) (i := k2) rfl rfl q2.2 ek2 bk2 (by omega) ?_
    exact w_ireturn rfl rfl h
  replace h := h.2 hs1
  by_cases hs2 : x3 = 2
  · replace h := h.1 hs2
    refine w_ts (o := 64) (t := 72) rfl (by rw [hs2]; decide) (by rw [hs2]; rfl) rfl ?_
    refine w_aload_n (pc' := 73) rfl rfl rfl ?_
    have q3 : xR0 400 33 = some 416 ∧ xS0 L 416 = (20, 91) := (kf_12_33 (show xS0 L 400 = (12, 0) from rfl))
    refine w_getR (pc' := 76) rfl rfl rfl rfl (show xS0 L 400 = (12, 0) from rfl) q3.1 ?_
    refine w_iload (pc' := 78) rfl rfl rfl ?_
    obtain ⟨k3, ek3, bk3, h⟩ := h
    refine w_iaload (pc' := 79) (i := k3) rfl rfl q3.2 ek3 bk3 (by omega) ?_
    exact w_ireturn rfl rfl h
  replace h := h.2 hs2
  by_cases hs3 : x3 = 3
  · replace h := h.1 hs3
    refine w_ts (o := 72) (t := 80) rfl (by rw [hs3]; decide) (by rw [hs3]; rfl) rfl ?_
    refine w_aload_n (pc' := 81) rfl rfl rfl ?_
    refine w_iload_n (pc' := 82) rfl rfl rfl ?_
    refine w_iload_n (pc' := 83) rfl rfl rfl ?_
    refine w_cv (pc' := 86) (cm := xm_Mo_isPrepared) (as := [.int x1, .int x2]) (a := 400) (rest := []) rfl rfl rfl  (xa_Mo_isPrepared (Nat.le_of_ble_eq_true rfl)) (show xS0 L 400 = (12, 0) from rfl) rfl (CI.k h fun v2 g2 h => ?_)
    show Wp L xs xm_Mo_placeNow 86 [.ref 400, .int x1, .int x2, .int x3, .int v1] [.int v2] g2 _
    refine w_br (pc' := 89) (t := 93) rfl rfl rfl ic_eq (fun hc => ?_) (fun hc => ?_)
    · replace h := h.1 hc
      refine w_iconst (pc' := 94) rfl rfl (v := 0) rfl ?_
      exact w_ireturn rfl rfl h
    · replace h := h.2 hc
      refine w_iconst (pc' := 90) rfl rfl (v := 1) rfl ?_
      refine w_goto (pc' := 94) rfl rfl ?_
      exact w_ireturn rfl rfl h
  replace h := h.2 hs3
  by_cases hs4 : x3 = 4
  · replace h := h.1 hs4
    refine w_ts (o := 87) (t := 95) rfl (by rw [hs4]; decide) (by rw [hs4]; rfl) rfl ?_
    refine w_aload_n (pc' := 96) rfl rfl rfl ?_
    refine w_iload_n (pc' := 97) rfl rfl rfl ?_
    refine w_iload_n (pc' := 98) rfl rfl rfl ?_
    refine w_cv (pc' := 101) (cm := xm_Mo_isCommitted) (as := [.int x1, .int x2]) (a := 400) (rest := []) rfl rfl rfl  (xa_Mo_isCommitted (Nat.le_of_ble_eq_true rfl)) (show xS0 L 400 = (12, 0) from rfl) rfl (CI.k h fun v3 g3 h => ?_)
    show Wp L xs xm_Mo_placeNow 101 [.ref 400, .int x1, .int x2, .int x3, .int v1] [.int v3] g3 _
    refine w_br (pc' := 104) (t := 108) rfl rfl rfl ic_eq (fun hc => ?_) (fun hc => ?_)
    · replace h := h.1 hc
      refine w_iconst (pc' := 109) rfl rfl (v := 0) rfl ?_
      exact w_ireturn rfl rfl h
    · replace h := h.2 hc
      refine w_iconst (pc' := 105) rfl rfl (v := 1) rfl ?_
      refine w_goto (pc' := 109) rfl rfl ?_
      exact w_ireturn rfl rfl h
  replace h := h.2 hs4
  by_cases hs5 : x3 = 5
  · replace h := h.1 hs5
    refine w_ts (o := 102) (t := 110) rfl (by rw [hs5]; decide) (by rw [hs5]; rfl) rfl ?_
    refine w_aload_n (pc' := 111) rfl rfl rfl ?_
    have q4 : xR0 400 34 = some 417 ∧ xS0 L 417 = (20, 91) := (kf_12_34 (show xS0 L 400 = (12, 0) from rfl))
    refine w_getR (pc' := 114) rfl rfl rfl rfl (show xS0 L 400 = (12, 0) from rfl) q4.1 ?_
    refine w_iload (pc' := 116) rfl rfl rfl ?_
    obtain ⟨k4, ek4, bk4, h⟩ := h
    refine w_iaload (pc' := 117) (i := k4) rfl rfl q4.2 ek4 bk4 (by omega) ?_
    exact w_ireturn rfl rfl h
  replace h := h.2 hs5
  by_cases hs6 : x3 = 6
  · replace h := h.1 hs6
    refine w_ts (o := 110) (t := 118) rfl (by rw [hs6]; decide) (by rw [hs6]; rfl) rfl ?_
    refine w_aload_n (pc' := 119) rfl rfl rfl ?_
    have q5 : xR0 400 35 = some 418 ∧ xS0 L 418 = (20, 91) := (kf_12_35 (show xS0 L 400 = (12, 0) from rfl))
    refine w_getR (pc' := 122) rfl rfl rfl rfl (show xS0 L 400 = (12, 0) from rfl) q5.1 ?_
    refine w_iload (pc' := 124) rfl rfl rfl ?_
    obtain ⟨k5, ek5, bk5, h⟩ := h
    refine w_iaload (pc' := 125) (i := k5) rfl rfl q5.2 ek5 bk5 (by omega) ?_
    exact w_ireturn rfl rfl h
  replace h := h.2 hs6
  by_cases hs7 : x3 = 7
  · replace h := h.1 hs7
    refine w_ts (o := 118) (t := 126) rfl (by rw [hs7]; decide) (by rw [hs7]; rfl) rfl ?_
    refine w_aload_n (pc' := 127) rfl rfl rfl ?_
    have q6 : xR0 400 36 = some 419 ∧ xS0 L 419 = (20, 91) := (kf_12_36 (show xS0 L 400 = (12, 0) from rfl))
    refine w_getR (pc' := 130) rfl rfl rfl rfl (show xS0 L 400 = (12, 0) from rfl) q6.1 ?_
    refine w_iload (pc' := 132) rfl rfl rfl ?_
    obtain ⟨k6, ek6, bk6, h⟩ := h
    refine w_iaload (pc' := 133) (i := k6) rfl rfl q6.2 ek6 bk6 (by omega) ?_
    exact w_ireturn rfl rfl h
  replace h := h.2 hs7
  refine w_tsd (t := 134) rfl ?_ rfl ?_
  · have z0 : (x3).toInt ≠ 0 := fun e => hs0 (Int32.toInt_inj.mp e); have z1 : (x3).toInt ≠ 1 := fun e => hs1 (Int32.toInt_inj.mp e); have z2 : (x3).toInt ≠ 2 := fun e => hs2 (Int32.toInt_inj.mp e); have z3 : (x3).toInt ≠ 3 := fun e => hs3 (Int32.toInt_inj.mp e); have z4 : (x3).toInt ≠ 4 := fun e => hs4 (Int32.toInt_inj.mp e); have z5 : (x3).toInt ≠ 5 := fun e => hs5 (Int32.toInt_inj.mp e); have z6 : (x3).toInt ≠ 6 := fun e => hs6 (Int32.toInt_inj.mp e); have z7 : (x3).toInt ≠ 7 := fun e => hs7 (Int32.toInt_inj.mp e); omega
  refine w_bipush (pc' := 136) rfl rfl (v := (-2)) rfl ?_
  exact w_ireturn rfl rfl h
theorem t_Mo_made_0 {L : Nat} {xs : Nat → Int32} {x1 : Int32} {x2 : Int32} {x3 : Int32} {x4 : Int32} {x5 : Int32} {f : Hp} {Q : Int32 → Hp → Prop}  (h : CI L xs xm_Mo_isState [.ref 400, .int x1, .int x2, .int x3] f (fun v1 g1 => ((v1 = 0 → Q (-2) g1) ∧ (¬ v1 = 0 → CI L xs xm_Mo_isIn [.int x4, .int 1, .int 9] g1 (fun v2 g2 => ((v2 = 0 → Q (-2) g2) ∧ (¬ v2 = 0 → ((x5 = 0 → ∃ k3 : Nat, x4 = iN k3 ∧ k3 < 10 ∧ (((g2 422 k3) = 0 → Q 0 g2) ∧ (¬ (g2 422 k3) = 0 → Q 1 g2))) ∧ (¬ x5 = 0 → ((x5 = 1 → Wp L xs xm_Mo_made 57 [.ref 400, .int x1, .int x2, .int x3, .int x4, .int x5] [] g2 (QI Q)) ∧ (¬ x5 = 1 → ((x5 = 2 → Wp L xs xm_Mo_made 57 [.ref 400, .int x1, .int x2, .int x3, .int x4, .int x5] [] g2 (QI Q)) ∧ (¬ x5 = 2 → CI L xs xm_Mo_isIn [.int x5, .int 11, .int 22] g2 (fun v3 g3 => ((v3 = 0 → Q (-2) g3) ∧ (¬ v3 = 0 → ∃ k1 : Nat, x4 = iN k1 ∧ k1 < 10 ∧ (((g3 422 k1) = 0 → Q (-1) g3) ∧ (¬ (g3 422 k1) = 0 → ∃ k2 : Nat, (((13 * x4) + x5) - 10) = iN k2 ∧ k2 < 130 ∧ Q (g3 425 k2) g3)))))))))))))))))) : CI L xs xm_Mo_made [.ref 400, .int x1, .int x2, .int x3, .int x4, .int x5] f Q := by
  show Wp L xs xm_Mo_made 0 [.ref 400, .int x1, .int x2, .int x3, .int x4, .int x5] [] f (QI Q)
  refine w_aload_n (pc' := 1) rfl rfl rfl ?_
  refine w_iload_n (pc' := 2) rfl rfl rfl ?_
  refine w_iload_n (pc' := 3) rfl rfl rfl ?_
  refine w_iload_n (pc' := 4) rfl rfl rfl ?_
  refine w_cv (pc' := 7) (cm := xm_Mo_isState) (as := [.int x1, .int x2, .int x3]) (a := 400) (rest := []) rfl rfl rfl  (xa_Mo_isState (Nat.le_of_ble_eq_true rfl)) (show xS0 L 400 = (12, 0) from rfl) rfl (CI.k h fun v1 g1 h => ?_)
  show Wp L xs xm_Mo_made 7 [.ref 400, .int x1, .int x2, .int x3, .int x4, .int x5] [.int v1] g1 _
  refine w_br (pc' := 10) (t := 21) rfl rfl rfl ic_eq (fun hc => ?_) (fun hc => ?_)
  · replace h := h.1 hc
    refine w_bipush (pc' := 23) rfl rfl (v := (-2)) rfl ?_
    exact w_ireturn rfl rfl h
  · replace h := h.2 hc
    refine w_iload (pc' := 12) rfl rfl rfl ?_
    refine w_iconst (pc' := 13) rfl rfl (v := 1) rfl ?_
    refine w_bipush (pc' := 15) rfl rfl (v := 9) rfl ?_
    refine w_cs (pc' := 18) (cm := xm_Mo_isIn) (as := [.int x4, .int 1, .int 9]) (rest := []) rfl rfl rfl (Or.inl rfl) (xa_Mo_isIn (Nat.le_of_ble_eq_true rfl)) (CI.k h fun v2 g2 h => ?_)
    show Wp L xs xm_Mo_made 18 [.ref 400, .int x1, .int x2, .int x3, .int x4, .int x5] [.int v2] g2 _
    refine w_br (pc' := 21) (t := 24) rfl rfl rfl ic_ne (fun hc => ?_) (fun hc => ?_)
    · replace h := h.2 hc
      refine w_iload (pc' := 26) rfl rfl rfl ?_
      refine w_br (pc' := 29) (t := 45) rfl rfl rfl ic_ne (fun hc => ?_) (fun hc => ?_)
      · replace h := h.2 hc
        refine w_iload (pc' := 47) rfl rfl rfl ?_
        refine w_iconst (pc' := 48) rfl rfl (v := 1) rfl ?_
        refine w_br2 (pc' := 51) (t := 57) rfl rfl rfl ic_eq (fun hc => ?_) (fun hc => ?_)
        · replace h := h.1 hc
          exact h
        · replace h := h.2 hc
          refine w_iload (pc' := 53) rfl rfl rfl ?_
          refine w_iconst (pc' := 54) rfl rfl (v := 2) rfl ?_
          refine w_br2 (pc' := 57) (t := 95) rfl rfl rfl ic_ne (fun hc => ?_) (fun hc => ?_)
          · replace h := h.2 hc
            refine w_iload (pc' := 97) rfl rfl rfl ?_
            refine w_bipush (pc' := 99) rfl rfl (v := 11) rfl ?_
            refine w_bipush (pc' := 101) rfl rfl (v := 22) rfl ?_
            refine w_cs (pc' := 104) (cm := xm_Mo_isIn) (as := [.int x5, .int 11, .int 22]) (rest := []) rfl rfl rfl (Or.inl rfl) (xa_Mo_isIn (Nat.le_of_ble_eq_true rfl)) (CI.k h fun v3 g3 h => ?_)
            show Wp L xs xm_Mo_made 104 [.ref 400, .int x1, .int x2, .int x3, .int x4, .int x5] [.int v3] g3 _
            refine w_br (pc' := 107) (t := 112) rfl rfl rfl ic_ne (fun hc => ?_) (fun hc => ?_)
            · replace h := h.2 hc
              refine w_aload_n (pc' := 113) rfl rfl rfl ?_
              have q1 : xR0 400 39 = some 422 ∧ xS0 L 422 = (22, 10) := (kf_12_39 (show xS0 L 400 = (12, 0) from rfl))
              refine w_getR (pc' := 116) rfl rfl rfl rfl (show xS0 L 400 = (12, 0) from rfl) q1.1 ?_
              refine w_iload (pc' := 118) rfl rfl rfl ?_
              obtain ⟨k1, ek1, bk1, h⟩ := h
              refine w_baload (pc' := 119) (i := k1) rfl rfl q1.2 (Or.inr rfl) ek1 bk1 (by omega) ?_
              refine w_br (pc' := 122) (t := 126) rfl rfl rfl ic_ne (fun hc => ?_) (fun hc => ?_)
              · replace h := h.2 hc
                refine w_aload_n (pc' := 127) rfl rfl rfl ?_
                have q2 : xR0 400 42 = some 425 ∧ xS0 L 425 = (20, 130) := (kf_12_42 (show xS0 L 400 = (12, 0) from rfl))
                refine w_getR (pc' := 130) rfl rfl rfl rfl (show xS0 L 400 = (12, 0) from rfl) q2.1 ?_
                refine w_bipush (pc' := 132) rfl rfl (v := 13) rfl ?_
                refine w_iload (pc' := 134) rfl rfl rfl ?_
                refine w_imul (pc' := 135) rfl rfl ?_
                refine w_iload (pc' := 137) rfl rfl rfl ?_
                refine w_iadd (pc' := 138) rfl rfl ?_
                refine w_bipush (pc' := 140) rfl rfl (v := 10) rfl ?_
                refine w_isub (pc' := 141) rfl rfl ?_
                obtain ⟨k2, ek2, bk2, h⟩ := h
                refine w_iaload (pc' := 142) (i := k2) rfl rfl q2.2 ek2 bk2 (by omega) ?_
                exact w_ireturn rfl rfl h
              · replace h := h.1 (Classical.not_not.mp hc)
                refine w_iconst (pc' := 123) rfl rfl (v := (-1)) rfl ?_
                refine w_goto (pc' := 142) rfl rfl ?_
                exact w_ireturn rfl rfl h
            · replace h := h.1 (Classical.not_not.mp hc)
              refine w_bipush (pc' := 109) rfl rfl (v := (-2)) rfl ?_
              refine w_goto (pc' := 142) rfl rfl ?_
              exact w_ireturn rfl rfl h
          · replace h := h.1 (Classical.not_not.mp hc)
            exact h
      · replace h := h.1 (Classical.not_not.mp hc)
        refine w_aload_n (pc' := 30) rfl rfl rfl ?_
        have q3 : xR0 400 39 = some 422 ∧ xS0 L 422 = (22, 10) := (kf_12_39 (show xS0 L 400 = (12, 0) from rfl))
        refine w_getR (pc' := 33) rfl rfl rfl rfl (show xS0 L 400 = (12, 0) from rfl) q3.1 ?_
        refine w_iload (pc' := 35) rfl rfl rfl ?_
        obtain ⟨k3, ek3, bk3, h⟩ := h
        refine w_baload (pc' := 36) (i := k3) rfl rfl q3.2 (Or.inr rfl) ek3 bk3 (by omega) ?_
        refine w_br (pc' := 39) (t := 43) rfl rfl rfl ic_eq (fun hc => ?_) (fun hc => ?_)
        · replace h := h.1 hc
          refine w_iconst (pc' := 44) rfl rfl (v := 0) rfl ?_
          exact w_ireturn rfl rfl h
        · replace h := h.2 hc
          refine w_iconst (pc' := 40) rfl rfl (v := 1) rfl ?_
          refine w_goto (pc' := 44) rfl rfl ?_
          exact w_ireturn rfl rfl h
    · replace h := h.1 (Classical.not_not.mp hc)
      refine w_bipush (pc' := 23) rfl rfl (v := (-2)) rfl ?_
      exact w_ireturn rfl rfl h
theorem t_Mo_made_57 {L : Nat} {xs : Nat → Int32} {x1 : Int32} {x2 : Int32} {x3 : Int32} {x4 : Int32} {x5 : Int32} {f : Hp} {Q : Int32 → Hp → Prop}  (h : ∃ k1 : Nat, x4 = iN k1 ∧ k1 < 10 ∧ (((f 422 k1) = 0 → Q (-1) f) ∧ (¬ (f 422 k1) = 0 → ((x5 = 1 → Q (f 423 k1) f) ∧ (¬ x5 = 1 → Q (f 424 k1) f))))) : Wp L xs xm_Mo_made 57 [.ref 400, .int x1, .int x2, .int x3, .int x4, .int x5] [] f (QI Q) := by
  refine w_aload_n (pc' := 58) rfl rfl rfl ?_
  have q1 : xR0 400 39 = some 422 ∧ xS0 L 422 = (22, 10) := (kf_12_39 (show xS0 L 400 = (12, 0) from rfl))
  refine w_getR (pc' := 61) rfl rfl rfl rfl (show xS0 L 400 = (12, 0) from rfl) q1.1 ?_
  refine w_iload (pc' := 63) rfl rfl rfl ?_
  obtain ⟨k1, ek1, bk1, h⟩ := h
  refine w_baload (pc' := 64) (i := k1) rfl rfl q1.2 (Or.inr rfl) ek1 bk1 (by omega) ?_
  refine w_br (pc' := 67) (t := 71) rfl rfl rfl ic_ne (fun hc => ?_) (fun hc => ?_)
  · replace h := h.2 hc
    refine w_iload (pc' := 73) rfl rfl rfl ?_
    refine w_iconst (pc' := 74) rfl rfl (v := 1) rfl ?_
    refine w_br2 (pc' := 77) (t := 87) rfl rfl rfl ic_ne (fun hc => ?_) (fun hc => ?_)
    · replace h := h.2 hc
      refine w_aload_n (pc' := 88) rfl rfl rfl ?_
      have q2 : xR0 400 41 = some 424 ∧ xS0 L 424 = (20, 10) := (kf_12_41 (show xS0 L 400 = (12, 0) from rfl))
      refine w_getR (pc' := 91) rfl rfl rfl rfl (show xS0 L 400 = (12, 0) from rfl) q2.1 ?_
      refine w_iload (pc' := 93) rfl rfl rfl ?_
      refine w_iaload (pc' := 94) (i := k1) rfl rfl q2.2 ek1 bk1 (by omega) ?_
      exact w_ireturn rfl rfl h
    · replace h := h.1 (Classical.not_not.mp hc)
      refine w_aload_n (pc' := 78) rfl rfl rfl ?_
      have q3 : xR0 400 40 = some 423 ∧ xS0 L 423 = (20, 10) := (kf_12_40 (show xS0 L 400 = (12, 0) from rfl))
      refine w_getR (pc' := 81) rfl rfl rfl rfl (show xS0 L 400 = (12, 0) from rfl) q3.1 ?_
      refine w_iload (pc' := 83) rfl rfl rfl ?_
      refine w_iaload (pc' := 84) (i := k1) rfl rfl q3.2 ek1 bk1 (by omega) ?_
      refine w_goto (pc' := 94) rfl rfl ?_
      exact w_ireturn rfl rfl h
  · replace h := h.1 (Classical.not_not.mp hc)
    refine w_iconst (pc' := 68) rfl rfl (v := (-1)) rfl ?_
    refine w_goto (pc' := 94) rfl rfl ?_
    exact w_ireturn rfl rfl h
theorem t_Mo_unlike_0 {L : Nat} {xs : Nat → Int32} {x1 : Int32} {x2 : Int32} {x3 : Int32} {f : Hp} {Q : Int32 → Hp → Prop}  (h : CI L xs xm_Mo_isCouncil [.ref 400, .int x1] f (fun v1 g1 => ((v1 = 0 → Q (-2) g1) ∧ (¬ v1 = 0 → CI L xs xm_Mo_isRun [.ref 400, .int x2] g1 (fun v2 g2 => ((v2 = 0 → Q (-2) g2) ∧ (¬ v2 = 0 → CV L xs xm_Mo_goes [.ref 400, .int 40] g2 (fun g3 => ((x3 = 0 → ((x3 = 0 → CI L xs xm_Mo_placesBy [.ref 400, .int 1] g3 (fun v4 g5 => Q v4 g5)) ∧ (¬ x3 = 0 → CI L xs xm_Mo_placesBy [.ref 400, .int 0] g3 (fun v3 g4 => Q v3 g4)))) ∧ (¬ x3 = 0 → ((x3 = 1 → ((x3 = 0 → CI L xs xm_Mo_placesBy [.ref 400, .int 1] g3 (fun v6 g7 => Q v6 g7)) ∧ (¬ x3 = 0 → CI L xs xm_Mo_placesBy [.ref 400, .int 0] g3 (fun v5 g6 => Q v5 g6)))) ∧ (¬ x3 = 1 → ((x3 = 2 → ((x3 = 2 → CI L xs xm_Mo_ranBy [.ref 400, .int 1] g3 (fun v8 g9 => Q v8 g9)) ∧ (¬ x3 = 2 → CI L xs xm_Mo_ranBy [.ref 400, .int 0] g3 (fun v7 g8 => Q v7 g8)))) ∧ (¬ x3 = 2 → ((x3 = 3 → ((x3 = 2 → CI L xs xm_Mo_ranBy [.ref 400, .int 1] g3 (fun v10 g11 => Q v10 g11)) ∧ (¬ x3 = 2 → CI L xs xm_Mo_ranBy [.ref 400, .int 0] g3 (fun v9 g10 => Q v9 g10)))) ∧ (¬ x3 = 3 → Q (-2) g3)))))))))))))))) : CI L xs xm_Mo_unlike [.ref 400, .int x1, .int x2, .int x3] f Q := by
  show Wp L xs xm_Mo_unlike 0 [.ref 400, .int x1, .int x2, .int x3] [] f (QI Q)
  refine w_aload_n (pc' := 1) rfl rfl rfl ?_
  refine w_iload_n (pc' := 2) rfl rfl rfl ?_
  refine w_cv (pc' := 5) (cm := xm_Mo_isCouncil) (as := [.int x1]) (a := 400) (rest := []) rfl rfl rfl  (xa_Mo_isCouncil (Nat.le_of_ble_eq_true rfl)) (show xS0 L 400 = (12, 0) from rfl) rfl (CI.k h fun v1 g1 h => ?_)
  show Wp L xs xm_Mo_unlike 5 [.ref 400, .int x1, .int x2, .int x3] [.int v1] g1 _
  refine w_br (pc' := 8) (t := 16) rfl rfl rfl ic_eq (fun hc => ?_) (fun hc => ?_)
  · replace h := h.1 hc
    refine w_bipush (pc' := 18) rfl rfl (v := (-2)) rfl ?_
    exact w_ireturn rfl rfl h
  · replace h := h.2 hc
    refine w_aload_n (pc' := 9) rfl rfl rfl ?_
    refine w_iload_n (pc' := 10) rfl rfl rfl ?_
    refine w_cv (pc' := 13) (cm := xm_Mo_isRun) (as := [.int x2]) (a := 400) (rest := []) rfl rfl rfl  (xa_Mo_isRun (Nat.le_of_ble_eq_true rfl)) (show xS0 L 400 = (12, 0) from rfl) rfl (CI.k h fun v2 g2 h => ?_)
    show Wp L xs xm_Mo_unlike 13 [.ref 400, .int x1, .int x2, .int x3] [.int v2] g2 _
    refine w_br (pc' := 16) (t := 19) rfl rfl rfl ic_ne (fun hc => ?_) (fun hc => ?_)
    · replace h := h.2 hc
      refine w_aload_n (pc' := 20) rfl rfl rfl ?_
      refine w_bipush (pc' := 22) rfl rfl (v := 40) rfl ?_
      refine w_cv (pc' := 25) (cm := xm_Mo_goes) (as := [.int 40]) (a := 400) (rest := []) rfl rfl rfl  (xa_Mo_goes (Nat.le_of_ble_eq_true rfl)) (show xS0 L 400 = (12, 0) from rfl) rfl (CV.k h fun g3 h => ?_)
      show Wp L xs xm_Mo_unlike 25 [.ref 400, .int x1, .int x2, .int x3] [] g3 _
      refine w_iload_n (pc' := 26) rfl rfl rfl ?_
      by_cases hs0 : x3 = 0
      · replace h := h.1 hs0
        refine w_ts (o := 30) (t := 56) rfl (by rw [hs0]; decide) (by rw [hs0]; rfl) rfl ?_
        refine w_aload_n (pc' := 57) rfl rfl rfl ?_
        refine w_iload_n (pc' := 58) rfl rfl rfl ?_
        refine w_br (pc' := 61) (t := 65) rfl rfl rfl ic_ne (fun hc => ?_) (fun hc => ?_)
        · replace h := h.2 hc
          refine w_iconst (pc' := 66) rfl rfl (v := 0) rfl ?_
          refine w_cv (pc' := 69) (cm := xm_Mo_placesBy) (as := [.int 0]) (a := 400) (rest := []) rfl rfl rfl  (xa_Mo_placesBy (Nat.le_of_ble_eq_true rfl)) (show xS0 L 400 = (12, 0) from rfl) rfl (CI.k h fun v3 g4 h => ?_)
          show Wp L xs xm_Mo_unlike 69 [.ref 400, .int x1, .int x2, .int x3] [.int v3] g4 _
          exact w_ireturn rfl rfl h
        · replace h := h.1 (Classical.not_not.mp hc)
          refine w_iconst (pc' := 62) rfl rfl (v := 1) rfl ?_
          refine w_goto (pc' := 66) rfl rfl ?_
          refine w_cv (pc' := 69) (cm := xm_Mo_placesBy) (as := [.int 1]) (a := 400) (rest := []) rfl rfl rfl  (xa_Mo_placesBy (Nat.le_of_ble_eq_true rfl)) (show xS0 L 400 = (12, 0) from rfl) rfl (CI.k h fun v4 g5 h => ?_)
          show Wp L xs xm_Mo_unlike 69 [.ref 400, .int x1, .int x2, .int x3] [.int v4] g5 _
          exact w_ireturn rfl rfl h
      replace h := h.2 hs0
      by_cases hs1 : x3 = 1
      · replace h := h.1 hs1
        refine w_ts (o := 30) (t := 56) rfl (by rw [hs1]; decide) (by rw [hs1]; rfl) rfl ?_
        refine w_aload_n (pc' := 57) rfl rfl rfl ?_
        refine w_iload_n (pc' := 58) rfl rfl rfl ?_
        refine w_br (pc' := 61) (t := 65) rfl rfl rfl ic_ne (fun hc => ?_) (fun hc => ?_)
        · replace h := h.2 hc
          refine w_iconst (pc' := 66) rfl rfl (v := 0) rfl ?_
          refine w_cv (pc' := 69) (cm := xm_Mo_placesBy) (as := [.int 0]) (a := 400) (rest := []) rfl rfl rfl  (xa_Mo_placesBy (Nat.le_of_ble_eq_true rfl)) (show xS0 L 400 = (12, 0) from rfl) rfl (CI.k h fun v5 g6 h => ?_)
          show Wp L xs xm_Mo_unlike 69 [.ref 400, .int x1, .int x2, .int x3] [.int v5] g6 _
          exact w_ireturn rfl rfl h
        · replace h := h.1 (Classical.not_not.mp hc)
          refine w_iconst (pc' := 62) rfl rfl (v := 1) rfl ?_
          refine w_goto (pc' := 66) rfl rfl ?_
          refine w_cv (pc' := 69) (cm := xm_Mo_placesBy) (as := [.int 1]) (a := 400) (rest := []) rfl rfl rfl  (xa_Mo_placesBy (Nat.le_of_ble_eq_true rfl)) (show xS0 L 400 = (12, 0) from rfl) rfl (CI.k h fun v6 g7 h => ?_)
          show Wp L xs xm_Mo_unlike 69 [.ref 400, .int x1, .int x2, .int x3] [.int v6] g7 _
          exact w_ireturn rfl rfl h
      replace h := h.2 hs1
      by_cases hs2 : x3 = 2
      · replace h := h.1 hs2
        refine w_ts (o := 44) (t := 70) rfl (by rw [hs2]; decide) (by rw [hs2]; rfl) rfl ?_
        refine w_aload_n (pc' := 71) rfl rfl rfl ?_
        refine w_iload_n (pc' := 72) rfl rfl rfl ?_
        refine w_iconst (pc' := 73) rfl rfl (v := 2) rfl ?_
        refine w_br2 (pc' := 76) (t := 80) rfl rfl rfl ic_ne (fun hc => ?_) (fun hc => ?_)
        · replace h := h.2 hc
          refine w_iconst (pc' := 81) rfl rfl (v := 0) rfl ?_
          refine w_cv (pc' := 84) (cm := xm_Mo_ranBy) (as := [.int 0]) (a := 400) (rest := []) rfl rfl rfl  (xa_Mo_ranBy (Nat.le_of_ble_eq_true rfl)) (show xS0 L 400 = (12, 0) from rfl) rfl (CI.k h fun v7 g8 h => ?_)
          show Wp L xs xm_Mo_unlike 84 [.ref 400, .int x1, .int x2, .int x3] [.int v7] g8 _
          exact w_ireturn rfl rfl h
        · replace h := h.1 (Classical.not_not.mp hc)
          refine w_iconst (pc' := 77) rfl rfl (v := 1) rfl ?_
          refine w_goto (pc' := 81) rfl rfl ?_
          refine w_cv (pc' := 84) (cm := xm_Mo_ranBy) (as := [.int 1]) (a := 400) (rest := []) rfl rfl rfl  (xa_Mo_ranBy (Nat.le_of_ble_eq_true rfl)) (show xS0 L 400 = (12, 0) from rfl) rfl (CI.k h fun v8 g9 h => ?_)
          show Wp L xs xm_Mo_unlike 84 [.ref 400, .int x1, .int x2, .int x3] [.int v8] g9 _
          exact w_ireturn rfl rfl h
      replace h := h.2 hs2
      by_cases hs3 : x3 = 3
      · replace h := h.1 hs3
        refine w_ts (o := 44) (t := 70) rfl (by rw [hs3]; decide) (by rw [hs3]; rfl) rfl ?_
        refine w_aload_n (pc' := 71) rfl rfl rfl ?_
        refine w_iload_n (pc' := 72) rfl rfl rfl ?_
        refine w_iconst (pc' := 73) rfl rfl (v := 2) rfl ?_
        refine w_br2 (pc' := 76) (t := 80) rfl rfl rfl ic_ne (fun hc => ?_) (fun hc => ?_)
        · replace h := h.2 hc
          refine w_iconst (pc' := 81) rfl rfl (v := 0) rfl ?_
          refine w_cv (pc' := 84) (cm := xm_Mo_ranBy) (as := [.int 0]) (a := 400) (rest := []) rfl rfl rfl  (xa_Mo_ranBy (Nat.le_of_ble_eq_true rfl)) (show xS0 L 400 = (12, 0) from rfl) rfl (CI.k h fun v9 g10 h => ?_)
          show Wp L xs xm_Mo_unlike 84 [.ref 400, .int x1, .int x2, .int x3] [.int v9] g10 _
          exact w_ireturn rfl rfl h
        · replace h := h.1 (Classical.not_not.mp hc)
          refine w_iconst (pc' := 77) rfl rfl (v := 1) rfl ?_
          refine w_goto (pc' := 81) rfl rfl ?_
          refine w_cv (pc' := 84) (cm := xm_Mo_ranBy) (as := [.int 1]) (a := 400) (rest := []) rfl rfl rfl  (xa_Mo_ranBy (Nat.le_of_ble_eq_true rfl)) (show xS0 L 400 = (12, 0) from rfl) rfl (CI.k h fun v10 g11 h => ?_)
          show Wp L xs xm_Mo_unlike 84 [.ref 400, .int x1, .int x2, .int x3] [.int v10] g11 _
          exact w_ireturn rfl rfl h
      replace h := h.2 hs3
      refine w_tsd (t := 85) rfl ?_ rfl ?_
      · have z0 : (x3).toInt ≠ 0 := fun e => hs0 (Int32.toInt_inj.mp e); have z1 : (x3).toInt ≠ 1 := fun e => hs1 (Int32.toInt_inj.mp e); have z2 : (x3).toInt ≠ 2 := fun e => hs2 (Int32.toInt_inj.mp e); have z3 : (x3).toInt ≠ 3 := fun e => hs3 (Int32.toInt_inj.mp e); omega
      refine w_bipush (pc' := 87) rfl rfl (v := (-2)) rfl ?_
      exact w_ireturn rfl rfl h
    · replace h := h.1 (Classical.not_not.mp hc)
      refine w_bipush (pc' := 18) rfl rfl (v := (-2)) rfl ?_
      exact w_ireturn rfl rfl h
theorem t_Mo_placesBy_0 {L : Nat} {xs : Nat → Int32} {x1 : Int32} {f : Hp} {Q : Int32 → Hp → Prop}  (h : Wp L xs xm_Mo_placesBy 4 [.ref 400, .int x1, .int 0, .int 1, .retAddr 0, .retAddr 0, .retAddr 0] [] f (QI Q)) : CI L xs xm_Mo_placesBy [.ref 400, .int x1] f Q := by
  show Wp L xs xm_Mo_placesBy 0 [.ref 400, .int x1, .retAddr 0, .retAddr 0, .retAddr 0, .retAddr 0, .retAddr 0] [] f (QI Q)
  refine w_iconst (pc' := 1) rfl rfl (v := 0) rfl ?_
  refine w_istore_n (pc' := 2) rfl rfl (xl' := [.ref 400, .int x1, .int 0, .retAddr 0, .retAddr 0, .retAddr 0, .retAddr 0]) rfl ?_
  refine w_iconst (pc' := 3) rfl rfl (v := 1) rfl ?_
  refine w_istore_n (pc' := 4) rfl rfl (xl' := [.ref 400, .int x1, .int 0, .int 1, .retAddr 0, .retAddr 0, .retAddr 0]) rfl ?_
  exact h
theorem t_Mo_placesBy_4 {L : Nat} {xs : Nat → Int32} {x1 : Int32} {x2 : Int32} {x3 : Int32} {x4 : Value} {x5 : Value} {x6 : Value} {f : Hp} {Q : Int32 → Hp → Prop} (cx4 : (x4.category != 2) = true) (cx5 : (x5.category != 2) = true) (cx6 : (x6.category != 2) = true) (h : ((x3 < 13 → Wp L xs xm_Mo_placesBy 19 [.ref 400, .int x1, .int x2, .int x3, .int 0, .int 0, .int 0] [] f (QI Q)) ∧ (¬ x3 < 13 → Q x2 f))) : Wp L xs xm_Mo_placesBy 4 [.ref 400, .int x1, .int x2, .int x3, x4, x5, x6] [] f (QI Q) := by
  refine w_iload_n (pc' := 5) rfl rfl rfl ?_
  refine w_bipush (pc' := 7) rfl rfl (v := 13) rfl ?_
  refine w_br2 (pc' := 10) (t := 112) rfl rfl rfl ic_ge (fun hc => ?_) (fun hc => ?_)
  · replace h := h.2 hc
    refine w_iload_n (pc' := 113) rfl rfl rfl ?_
    exact w_ireturn rfl rfl h
  · replace h := h.1 (Classical.not_not.mp hc)
    refine w_iconst (pc' := 11) rfl rfl (v := 0) rfl ?_
    refine w_istore (pc' := 13) rfl rfl (xl' := [.ref 400, .int x1, .int x2, .int x3, .int 0, x5, x6]) rfl ?_
    refine w_iconst (pc' := 14) rfl rfl (v := 0) rfl ?_
    refine w_istore (pc' := 16) rfl rfl (xl' := [.ref 400, .int x1, .int x2, .int x3, .int 0, .int 0, x6]) rfl ?_
    refine w_iconst (pc' := 17) rfl rfl (v := 0) rfl ?_
    refine w_istore (pc' := 19) rfl rfl (xl' := [.ref 400, .int x1, .int x2, .int x3, .int 0, .int 0, .int 0]) rfl ?_
    exact h
theorem t_Mo_placesBy_19 {L : Nat} {xs : Nat → Int32} {x1 : Int32} {x2 : Int32} {x3 : Int32} {x4 : Int32} {x5 : Int32} {x6 : Int32} {f : Hp} {Q : Int32 → Hp → Prop}  (h : ((10 < x6 → ((x1 = 0 → ((x5 = 0 → Wp L xs xm_Mo_placesBy 4 [.ref 400, .int x1, .int (x2 ||| 0), .int (x3 + 1), .int x4, .int x5, .int x6] [] f (QI Q)) ∧ (¬ x5 = 0 → Wp L xs xm_Mo_placesBy 4 [.ref 400, .int x1, .int (x2 ||| (1 <<< (x3 &&& 31))), .int (x3 + 1), .int x4, .int x5, .int x6] [] f (QI Q)))) ∧ (¬ x1 = 0 → ((1 < x4 → Wp L xs xm_Mo_placesBy 4 [.ref 400, .int x1, .int (x2 ||| (1 <<< (x3 &&& 31))), .int (x3 + 1), .int x4, .int x5, .int x6] [] f (QI Q)) ∧ (¬ 1 < x4 → Wp L xs xm_Mo_placesBy 4 [.ref 400, .int x1, .int (x2 ||| 0), .int (x3 + 1), .int x4, .int x5, .int x6] [] f (QI Q)))))) ∧ (¬ 10 < x6 → CI L xs xm_Mo_ranSo [.ref 400, .int x3, .int x6] f (fun v1 g1 => ((0 < v1 → Wp L xs xm_Mo_placesBy 43 [.ref 400, .int x1, .int x2, .int x3, .int x4, .int x5, .int x6] [.int 1, .int x4] g1 (QI Q)) ∧ (¬ 0 < v1 → Wp L xs xm_Mo_placesBy 43 [.ref 400, .int x1, .int x2, .int x3, .int x4, .int x5, .int x6] [.int 0, .int x4] g1 (QI Q))))))) : Wp L xs xm_Mo_placesBy 19 [.ref 400, .int x1, .int x2, .int x3, .int x4, .int x5, .int x6] [] f (QI Q) := by
  refine w_iload (pc' := 21) rfl rfl rfl ?_
  refine w_bipush (pc' := 23) rfl rfl (v := 10) rfl ?_
  refine w_br2 (pc' := 26) (t := 78) rfl rfl rfl ic_gt (fun hc => ?_) (fun hc => ?_)
  · replace h := h.1 hc
    refine w_iload_n (pc' := 79) rfl rfl rfl ?_
    refine w_iload_n (pc' := 80) rfl rfl rfl ?_
    refine w_br (pc' := 83) (t := 92) rfl rfl rfl ic_eq (fun hc => ?_) (fun hc => ?_)
    · replace h := h.1 hc
      refine w_iload (pc' := 94) rfl rfl rfl ?_
      refine w_br (pc' := 97) (t := 103) rfl rfl rfl ic_eq (fun hc => ?_) (fun hc => ?_)
      · replace h := h.1 hc
        refine w_iconst (pc' := 104) rfl rfl (v := 0) rfl ?_
        refine w_ior (pc' := 105) rfl rfl ?_
        refine w_istore_n (pc' := 106) rfl rfl (xl' := [.ref 400, .int x1, .int (x2 ||| 0), .int x3, .int x4, .int x5, .int x6]) rfl ?_
        refine w_iinc (pc' := 109) rfl rfl rfl (v := (x3 + 1)) rfl (xl' := [.ref 400, .int x1, .int (x2 ||| 0), .int (x3 + 1), .int x4, .int x5, .int x6]) rfl ?_
        refine w_goto (pc' := 4) rfl rfl ?_
        exact h
      · replace h := h.2 hc
        refine w_iconst (pc' := 98) rfl rfl (v := 1) rfl ?_
        refine w_iload_n (pc' := 99) rfl rfl rfl ?_
        refine w_ishl (pc' := 100) rfl rfl ?_
        refine w_goto (pc' := 104) rfl rfl ?_
        refine w_ior (pc' := 105) rfl rfl ?_
        refine w_istore_n (pc' := 106) rfl rfl (xl' := [.ref 400, .int x1, .int (x2 ||| (1 <<< (x3 &&& 31))), .int x3, .int x4, .int x5, .int x6]) rfl ?_
        refine w_iinc (pc' := 109) rfl rfl rfl (v := (x3 + 1)) rfl (xl' := [.ref 400, .int x1, .int (x2 ||| (1 <<< (x3 &&& 31))), .int (x3 + 1), .int x4, .int x5, .int x6]) rfl ?_
        refine w_goto (pc' := 4) rfl rfl ?_
        exact h
    · replace h := h.2 hc
      refine w_iload (pc' := 85) rfl rfl rfl ?_
      refine w_iconst (pc' := 86) rfl rfl (v := 1) rfl ?_
      refine w_br2 (pc' := 89) (t := 103) rfl rfl rfl ic_le (fun hc => ?_) (fun hc => ?_)
      · replace h := h.2 hc
        refine w_iconst (pc' := 104) rfl rfl (v := 0) rfl ?_
        refine w_ior (pc' := 105) rfl rfl ?_
        refine w_istore_n (pc' := 106) rfl rfl (xl' := [.ref 400, .int x1, .int (x2 ||| 0), .int x3, .int x4, .int x5, .int x6]) rfl ?_
        refine w_iinc (pc' := 109) rfl rfl rfl (v := (x3 + 1)) rfl (xl' := [.ref 400, .int x1, .int (x2 ||| 0), .int (x3 + 1), .int x4, .int x5, .int x6]) rfl ?_
        refine w_goto (pc' := 4) rfl rfl ?_
        exact h
      · replace h := h.1 (Classical.not_not.mp hc)
        refine w_goto (pc' := 97) rfl rfl ?_
        refine w_iconst (pc' := 98) rfl rfl (v := 1) rfl ?_
        refine w_iload_n (pc' := 99) rfl rfl rfl ?_
        refine w_ishl (pc' := 100) rfl rfl ?_
        refine w_goto (pc' := 104) rfl rfl ?_
        refine w_ior (pc' := 105) rfl rfl ?_
        refine w_istore_n (pc' := 106) rfl rfl (xl' := [.ref 400, .int x1, .int (x2 ||| (1 <<< (x3 &&& 31))), .int x3, .int x4, .int x5, .int x6]) rfl ?_
        refine w_iinc (pc' := 109) rfl rfl rfl (v := (x3 + 1)) rfl (xl' := [.ref 400, .int x1, .int (x2 ||| (1 <<< (x3 &&& 31))), .int (x3 + 1), .int x4, .int x5, .int x6]) rfl ?_
        refine w_goto (pc' := 4) rfl rfl ?_
        exact h
  · replace h := h.2 hc
    refine w_iload (pc' := 28) rfl rfl rfl ?_
    refine w_aload_n (pc' := 29) rfl rfl rfl ?_
    refine w_iload_n (pc' := 30) rfl rfl rfl ?_
    refine w_iload (pc' := 32) rfl rfl rfl ?_
    refine w_cv (pc' := 35) (cm := xm_Mo_ranSo) (as := [.int x3, .int x6]) (a := 400) (rest := [.int x4]) rfl rfl rfl  (xa_Mo_ranSo (Nat.le_of_ble_eq_true rfl)) (show xS0 L 400 = (12, 0) from rfl) rfl (CI.k h fun v1 g1 h => ?_)
    show Wp L xs xm_Mo_placesBy 35 [.ref 400, .int x1, .int x2, .int x3, .int x4, .int x5, .int x6] [.int v1, .int x4] g1 _
    refine w_br (pc' := 38) (t := 42) rfl rfl rfl ic_le (fun hc => ?_) (fun hc => ?_)
    · replace h := h.2 hc
      refine w_iconst (pc' := 43) rfl rfl (v := 0) rfl ?_
      exact h
    · replace h := h.1 (Classical.not_not.mp hc)
      refine w_iconst (pc' := 39) rfl rfl (v := 1) rfl ?_
      refine w_goto (pc' := 43) rfl rfl ?_
      exact h
theorem t_Mo_placesBy_43 {L : Nat} {xs : Nat → Int32} {x1 : Int32} {x2 : Int32} {x3 : Int32} {x4 : Int32} {x5 : Int32} {x6 : Int32} {s0 : Int32} {s1 : Int32} {f : Hp} {Q : Int32 → Hp → Prop}  (h : ((x5 = 0 → CI L xs xm_Mo_ranSo [.ref 400, .int x3, .int x6] f (fun v1 g1 => (((g1 400 12) < v1 → Wp L xs xm_Mo_placesBy 19 [.ref 400, .int x1, .int x2, .int x3, .int (s1 + s0), .int 1, .int (x6 + 1)] [] g1 (QI Q)) ∧ (¬ (g1 400 12) < v1 → Wp L xs xm_Mo_placesBy 19 [.ref 400, .int x1, .int x2, .int x3, .int (s1 + s0), .int 0, .int (x6 + 1)] [] g1 (QI Q))))) ∧ (¬ x5 = 0 → Wp L xs xm_Mo_placesBy 19 [.ref 400, .int x1, .int x2, .int x3, .int (s1 + s0), .int 1, .int (x6 + 1)] [] f (QI Q)))) : Wp L xs xm_Mo_placesBy 43 [.ref 400, .int x1, .int x2, .int x3, .int x4, .int x5, .int x6] [.int s0, .int s1] f (QI Q) := by
  refine w_iadd (pc' := 44) rfl rfl ?_
  refine w_istore (pc' := 46) rfl rfl (xl' := [.ref 400, .int x1, .int x2, .int x3, .int (s1 + s0), .int x5, .int x6]) rfl ?_
  refine w_iload (pc' := 48) rfl rfl rfl ?_
  refine w_br (pc' := 51) (t := 65) rfl rfl rfl ic_ne (fun hc => ?_) (fun hc => ?_)
  · replace h := h.2 hc
    refine w_iconst (pc' := 66) rfl rfl (v := 1) rfl ?_
    refine w_goto (pc' := 70) rfl rfl ?_
    refine w_istore (pc' := 72) rfl rfl (xl' := [.ref 400, .int x1, .int x2, .int x3, .int (s1 + s0), .int 1, .int x6]) rfl ?_
    refine w_iinc (pc' := 75) rfl rfl rfl (v := (x6 + 1)) rfl (xl' := [.ref 400, .int x1, .int x2, .int x3, .int (s1 + s0), .int 1, .int (x6 + 1)]) rfl ?_
    refine w_goto (pc' := 19) rfl rfl ?_
    exact h
  · replace h := h.1 (Classical.not_not.mp hc)
    refine w_aload_n (pc' := 52) rfl rfl rfl ?_
    refine w_iload_n (pc' := 53) rfl rfl rfl ?_
    refine w_iload (pc' := 55) rfl rfl rfl ?_
    refine w_cv (pc' := 58) (cm := xm_Mo_ranSo) (as := [.int x3, .int x6]) (a := 400) (rest := []) rfl rfl rfl  (xa_Mo_ranSo (Nat.le_of_ble_eq_true rfl)) (show xS0 L 400 = (12, 0) from rfl) rfl (CI.k h fun v1 g1 h => ?_)
    show Wp L xs xm_Mo_placesBy 58 [.ref 400, .int x1, .int x2, .int x3, .int (s1 + s0), .int x5, .int x6] [.int v1] g1 _
    refine w_aload_n (pc' := 59) rfl rfl rfl ?_
    refine w_getI (pc' := 62) rfl rfl rfl rfl rfl (show xS0 L 400 = (12, 0) from rfl) ?_
    refine w_br2 (pc' := 65) (t := 69) rfl rfl rfl ic_le (fun hc => ?_) (fun hc => ?_)
    · replace h := h.2 hc
      refine w_iconst (pc' := 70) rfl rfl (v := 0) rfl ?_
      refine w_istore (pc' := 72) rfl rfl (xl' := [.ref 400, .int x1, .int x2, .int x3, .int (s1 + s0), .int 0, .int x6]) rfl ?_
      refine w_iinc (pc' := 75) rfl rfl rfl (v := (x6 + 1)) rfl (xl' := [.ref 400, .int x1, .int x2, .int x3, .int (s1 + s0), .int 0, .int (x6 + 1)]) rfl ?_
      refine w_goto (pc' := 19) rfl rfl ?_
      exact h
    · replace h := h.1 (Classical.not_not.mp hc)
      refine w_iconst (pc' := 66) rfl rfl (v := 1) rfl ?_
      refine w_goto (pc' := 70) rfl rfl ?_
      refine w_istore (pc' := 72) rfl rfl (xl' := [.ref 400, .int x1, .int x2, .int x3, .int (s1 + s0), .int 1, .int x6]) rfl ?_
      refine w_iinc (pc' := 75) rfl rfl rfl (v := (x6 + 1)) rfl (xl' := [.ref 400, .int x1, .int x2, .int x3, .int (s1 + s0), .int 1, .int (x6 + 1)]) rfl ?_
      refine w_goto (pc' := 19) rfl rfl ?_
      exact h
theorem t_Mo_ranSo_0 {L : Nat} {xs : Nat → Int32} {x1 : Int32} {x2 : Int32} {f : Hp} {Q : Int32 → Hp → Prop}  (h : Wp L xs xm_Mo_ranSo 5 [.ref 400, .int x1, .int x2, .int 0, .int 0] [] f (QI Q)) : CI L xs xm_Mo_ranSo [.ref 400, .int x1, .int x2] f Q := by
  show Wp L xs xm_Mo_ranSo 0 [.ref 400, .int x1, .int x2, .retAddr 0, .retAddr 0] [] f (QI Q)
  refine w_iconst (pc' := 1) rfl rfl (v := 0) rfl ?_
  refine w_istore_n (pc' := 2) rfl rfl (xl' := [.ref 400, .int x1, .int x2, .int 0, .retAddr 0]) rfl ?_
  refine w_iconst (pc' := 3) rfl rfl (v := 0) rfl ?_
  refine w_istore (pc' := 5) rfl rfl (xl' := [.ref 400, .int x1, .int x2, .int 0, .int 0]) rfl ?_
  exact h
theorem t_Mo_ranSo_5 {L : Nat} {xs : Nat → Int32} {x1 : Int32} {x2 : Int32} {x3 : Int32} {x4 : Int32} {f : Hp} {Q : Int32 → Hp → Prop}  (h : ((x4 < (f 400 13) → CI L xs xm_Mo_isLiar [.ref 400, .int x4] f (fun v1 g1 => ((v1 = 0 → CI L xs xm_Mo_at [.int x4, .int x1] g1 (fun v2 g2 => ∃ k1 : Nat, v2 = iN k1 ∧ k1 < 91 ∧ (((g2 419 k1) = x2 → Wp L xs xm_Mo_ranSo 5 [.ref 400, .int x1, .int x2, .int (x3 + 1), .int (x4 + 1)] [] g2 (QI Q)) ∧ (¬ (g2 419 k1) = x2 → Wp L xs xm_Mo_ranSo 5 [.ref 400, .int x1, .int x2, .int (x3 + 0), .int (x4 + 1)] [] g2 (QI Q))))) ∧ (¬ v1 = 0 → Wp L xs xm_Mo_ranSo 5 [.ref 400, .int x1, .int x2, .int (x3 + 0), .int (x4 + 1)] [] g1 (QI Q))))) ∧ (¬ x4 < (f 400 13) → Q x3 f))) : Wp L xs xm_Mo_ranSo 5 [.ref 400, .int x1, .int x2, .int x3, .int x4] [] f (QI Q) := by
  refine w_iload (pc' := 7) rfl rfl rfl ?_
  refine w_aload_n (pc' := 8) rfl rfl rfl ?_
  refine w_getI (pc' := 11) rfl rfl rfl rfl rfl (show xS0 L 400 = (12, 0) from rfl) ?_
  refine w_br2 (pc' := 14) (t := 52) rfl rfl rfl ic_ge (fun hc => ?_) (fun hc => ?_)
  · replace h := h.2 hc
    refine w_iload_n (pc' := 53) rfl rfl rfl ?_
    exact w_ireturn rfl rfl h
  · replace h := h.1 (Classical.not_not.mp hc)
    refine w_iload_n (pc' := 15) rfl rfl rfl ?_
    refine w_aload_n (pc' := 16) rfl rfl rfl ?_
    refine w_iload (pc' := 18) rfl rfl rfl ?_
    refine w_cv (pc' := 21) (cm := xm_Mo_isLiar) (as := [.int x4]) (a := 400) (rest := [.int x3]) rfl rfl rfl  (xa_Mo_isLiar (Nat.le_of_ble_eq_true rfl)) (show xS0 L 400 = (12, 0) from rfl) rfl (CI.k h fun v1 g1 h => ?_)
    show Wp L xs xm_Mo_ranSo 21 [.ref 400, .int x1, .int x2, .int x3, .int x4] [.int v1, .int x3] g1 _
    refine w_br (pc' := 24) (t := 43) rfl rfl rfl ic_ne (fun hc => ?_) (fun hc => ?_)
    · replace h := h.2 hc
      refine w_iconst (pc' := 44) rfl rfl (v := 0) rfl ?_
      refine w_iadd (pc' := 45) rfl rfl ?_
      refine w_istore_n (pc' := 46) rfl rfl (xl' := [.ref 400, .int x1, .int x2, .int (x3 + 0), .int x4]) rfl ?_
      refine w_iinc (pc' := 49) rfl rfl rfl (v := (x4 + 1)) rfl (xl' := [.ref 400, .int x1, .int x2, .int (x3 + 0), .int (x4 + 1)]) rfl ?_
      refine w_goto (pc' := 5) rfl rfl ?_
      exact h
    · replace h := h.1 (Classical.not_not.mp hc)
      refine w_aload_n (pc' := 25) rfl rfl rfl ?_
      have q1 : xR0 400 36 = some 419 ∧ xS0 L 419 = (20, 91) := (kf_12_36 (show xS0 L 400 = (12, 0) from rfl))
      refine w_getR (pc' := 28) rfl rfl rfl rfl (show xS0 L 400 = (12, 0) from rfl) q1.1 ?_
      refine w_iload (pc' := 30) rfl rfl rfl ?_
      refine w_iload_n (pc' := 31) rfl rfl rfl ?_
      refine w_cs (pc' := 34) (cm := xm_Mo_at) (as := [.int x4, .int x1]) (rest := [.ref 419, .int x3]) rfl rfl rfl (Or.inl rfl) (xa_Mo_at (Nat.le_of_ble_eq_true rfl)) (CI.k h fun v2 g2 h => ?_)
      show Wp L xs xm_Mo_ranSo 34 [.ref 400, .int x1, .int x2, .int x3, .int x4] [.int v2, .ref 419, .int x3] g2 _
      obtain ⟨k1, ek1, bk1, h⟩ := h
      refine w_iaload (pc' := 35) (i := k1) rfl rfl q1.2 ek1 bk1 (by omega) ?_
      refine w_iload_n (pc' := 36) rfl rfl rfl ?_
      refine w_br2 (pc' := 39) (t := 43) rfl rfl rfl ic_ne (fun hc => ?_) (fun hc => ?_)
      · replace h := h.2 hc
        refine w_iconst (pc' := 44) rfl rfl (v := 0) rfl ?_
        refine w_iadd (pc' := 45) rfl rfl ?_
        refine w_istore_n (pc' := 46) rfl rfl (xl' := [.ref 400, .int x1, .int x2, .int (x3 + 0), .int x4]) rfl ?_
        refine w_iinc (pc' := 49) rfl rfl rfl (v := (x4 + 1)) rfl (xl' := [.ref 400, .int x1, .int x2, .int (x3 + 0), .int (x4 + 1)]) rfl ?_
        refine w_goto (pc' := 5) rfl rfl ?_
        exact h
      · replace h := h.1 (Classical.not_not.mp hc)
        refine w_iconst (pc' := 40) rfl rfl (v := 1) rfl ?_
        refine w_goto (pc' := 44) rfl rfl ?_
        refine w_iadd (pc' := 45) rfl rfl ?_
        refine w_istore_n (pc' := 46) rfl rfl (xl' := [.ref 400, .int x1, .int x2, .int (x3 + 1), .int x4]) rfl ?_
        refine w_iinc (pc' := 49) rfl rfl rfl (v := (x4 + 1)) rfl (xl' := [.ref 400, .int x1, .int x2, .int (x3 + 1), .int (x4 + 1)]) rfl ?_
        refine w_goto (pc' := 5) rfl rfl ?_
        exact h
theorem t_Mo_ranBy_0 {L : Nat} {xs : Nat → Int32} {x1 : Int32} {f : Hp} {Q : Int32 → Hp → Prop}  (h : Wp L xs xm_Mo_ranBy 4 [.ref 400, .int x1, .int (-1), .int 0] [] f (QI Q)) : CI L xs xm_Mo_ranBy [.ref 400, .int x1] f Q := by
  show Wp L xs xm_Mo_ranBy 0 [.ref 400, .int x1, .retAddr 0, .retAddr 0] [] f (QI Q)
  refine w_iconst (pc' := 1) rfl rfl (v := (-1)) rfl ?_
  refine w_istore_n (pc' := 2) rfl rfl (xl' := [.ref 400, .int x1, .int (-1), .retAddr 0]) rfl ?_
  refine w_iconst (pc' := 3) rfl rfl (v := 0) rfl ?_
  refine w_istore_n (pc' := 4) rfl rfl (xl' := [.ref 400, .int x1, .int (-1), .int 0]) rfl ?_
  exact h
theorem t_Mo_ranBy_4 {L : Nat} {xs : Nat → Int32} {x1 : Int32} {x2 : Int32} {x3 : Int32} {f : Hp} {Q : Int32 → Hp → Prop}  (h : ((x3 < (f 400 13) → CI L xs xm_Mo_isLiar [.ref 400, .int x3] f (fun v1 g1 => ((v1 = 0 → ((x2 = (-1) → ∃ k1 : Nat, x3 = iN k1 ∧ k1 < 7 ∧ Wp L xs xm_Mo_ranBy 4 [.ref 400, .int x1, .int (g1 409 k1), .int (x3 + 1)] [] g1 (QI Q)) ∧ (¬ x2 = (-1) → ((x1 = 0 → ∃ k2 : Nat, x3 = iN k2 ∧ k2 < 7 ∧ (((g1 409 k2) < x2 → Wp L xs xm_Mo_ranBy 4 [.ref 400, .int x1, .int (g1 409 k2), .int (x3 + 1)] [] g1 (QI Q)) ∧ (¬ (g1 409 k2) < x2 → Wp L xs xm_Mo_ranBy 4 [.ref 400, .int x1, .int x2, .int (x3 + 1)] [] g1 (QI Q)))) ∧ (¬ x1 = 0 → ∃ k3 : Nat, x3 = iN k3 ∧ k3 < 7 ∧ ((x2 < (g1 409 k3) → Wp L xs xm_Mo_ranBy 4 [.ref 400, .int x1, .int (g1 409 k3), .int (x3 + 1)] [] g1 (QI Q)) ∧ (¬ x2 < (g1 409 k3) → Wp L xs xm_Mo_ranBy 4 [.ref 400, .int x1, .int x2, .int (x3 + 1)] [] g1 (QI Q)))))))) ∧ (¬ v1 = 0 → Wp L xs xm_Mo_ranBy 4 [.ref 400, .int x1, .int x2, .int (x3 + 1)] [] g1 (QI Q))))) ∧ (¬ x3 < (f 400 13) → ((x2 = (-1) → Q 0 f) ∧ (¬ x2 = (-1) → Q x2 f))))) : Wp L xs xm_Mo_ranBy 4 [.ref 400, .int x1, .int x2, .int x3] [] f (QI Q) := by
  refine w_iload_n (pc' := 5) rfl rfl rfl ?_
  refine w_aload_n (pc' := 6) rfl rfl rfl ?_
  refine w_getI (pc' := 9) rfl rfl rfl rfl rfl (show xS0 L 400 = (12, 0) from rfl) ?_
  refine w_br2 (pc' := 12) (t := 65) rfl rfl rfl ic_ge (fun hc => ?_) (fun hc => ?_)
  · replace h := h.2 hc
    refine w_iload_n (pc' := 66) rfl rfl rfl ?_
    refine w_iconst (pc' := 67) rfl rfl (v := (-1)) rfl ?_
    refine w_br2 (pc' := 70) (t := 74) rfl rfl rfl ic_ne (fun hc => ?_) (fun hc => ?_)
    · replace h := h.2 hc
      refine w_iload_n (pc' := 75) rfl rfl rfl ?_
      exact w_ireturn rfl rfl h
    · replace h := h.1 (Classical.not_not.mp hc)
      refine w_iconst (pc' := 71) rfl rfl (v := 0) rfl ?_
      refine w_goto (pc' := 75) rfl rfl ?_
      exact w_ireturn rfl rfl h
  · replace h := h.1 (Classical.not_not.mp hc)
    refine w_aload_n (pc' := 13) rfl rfl rfl ?_
    refine w_iload_n (pc' := 14) rfl rfl rfl ?_
    refine w_cv (pc' := 17) (cm := xm_Mo_isLiar) (as := [.int x3]) (a := 400) (rest := []) rfl rfl rfl  (xa_Mo_isLiar (Nat.le_of_ble_eq_true rfl)) (show xS0 L 400 = (12, 0) from rfl) rfl (CI.k h fun v1 g1 h => ?_)
    show Wp L xs xm_Mo_ranBy 17 [.ref 400, .int x1, .int x2, .int x3] [.int v1] g1 _
    refine w_br (pc' := 20) (t := 59) rfl rfl rfl ic_ne (fun hc => ?_) (fun hc => ?_)
    · replace h := h.2 hc
      refine w_iinc (pc' := 62) rfl rfl rfl (v := (x3 + 1)) rfl (xl' := [.ref 400, .int x1, .int x2, .int (x3 + 1)]) rfl ?_
      refine w_goto (pc' := 4) rfl rfl ?_
      exact h
    · replace h := h.1 (Classical.not_not.mp hc)
      refine w_iload_n (pc' := 21) rfl rfl rfl ?_
      refine w_iconst (pc' := 22) rfl rfl (v := (-1)) rfl ?_
      refine w_br2 (pc' := 25) (t := 52) rfl rfl rfl ic_eq (fun hc => ?_) (fun hc => ?_)
      · replace h := h.1 hc
        refine w_aload_n (pc' := 53) rfl rfl rfl ?_
        have q1 : xR0 400 26 = some 409 ∧ xS0 L 409 = (20, 7) := (kf_12_26 (show xS0 L 400 = (12, 0) from rfl))
        refine w_getR (pc' := 56) rfl rfl rfl rfl (show xS0 L 400 = (12, 0) from rfl) q1.1 ?_
        refine w_iload_n (pc' := 57) rfl rfl rfl ?_
        obtain ⟨k1, ek1, bk1, h⟩ := h
        refine w_iaload (pc' := 58) (i := k1) rfl rfl q1.2 ek1 bk1 (by omega) ?_
        refine w_istore_n (pc' := 59) rfl rfl (xl' := [.ref 400, .int x1, .int (g1 409 k1), .int x3]) rfl ?_
        refine w_iinc (pc' := 62) rfl rfl rfl (v := (x3 + 1)) rfl (xl' := [.ref 400, .int x1, .int (g1 409 k1), .int (x3 + 1)]) rfl ?_
        refine w_goto (pc' := 4) rfl rfl ?_
        exact h
      · replace h := h.2 hc
        refine w_iload_n (pc' := 26) rfl rfl rfl ?_
        refine w_br (pc' := 29) (t := 42) rfl rfl rfl ic_eq (fun hc => ?_) (fun hc => ?_)
        · replace h := h.1 hc
          refine w_aload_n (pc' := 43) rfl rfl rfl ?_
          have q2 : xR0 400 26 = some 409 ∧ xS0 L 409 = (20, 7) := (kf_12_26 (show xS0 L 400 = (12, 0) from rfl))
          refine w_getR (pc' := 46) rfl rfl rfl rfl (show xS0 L 400 = (12, 0) from rfl) q2.1 ?_
          refine w_iload_n (pc' := 47) rfl rfl rfl ?_
          obtain ⟨k2, ek2, bk2, h⟩ := h
          refine w_iaload (pc' := 48) (i := k2) rfl rfl q2.2 ek2 bk2 (by omega) ?_
          refine w_iload_n (pc' := 49) rfl rfl rfl ?_
          refine w_br2 (pc' := 52) (t := 59) rfl rfl rfl ic_ge (fun hc => ?_) (fun hc => ?_)
          · replace h := h.2 hc
            refine w_iinc (pc' := 62) rfl rfl rfl (v := (x3 + 1)) rfl (xl' := [.ref 400, .int x1, .int x2, .int (x3 + 1)]) rfl ?_
            refine w_goto (pc' := 4) rfl rfl ?_
            exact h
          · replace h := h.1 (Classical.not_not.mp hc)
            refine w_aload_n (pc' := 53) rfl rfl rfl ?_
            have q3 : xR0 400 26 = some 409 ∧ xS0 L 409 = (20, 7) := (kf_12_26 (show xS0 L 400 = (12, 0) from rfl))
            refine w_getR (pc' := 56) rfl rfl rfl rfl (show xS0 L 400 = (12, 0) from rfl) q3.1 ?_
            refine w_iload_n (pc' := 57) rfl rfl rfl ?_
            refine w_iaload (pc' := 58) (i := k2) rfl rfl q3.2 ek2 bk2 (by omega) ?_
            refine w_istore_n (pc' := 59) rfl rfl (xl' := [.ref 400, .int x1, .int (g1 409 k2), .int x3]) rfl ?_
            refine w_iinc (pc' := 62) rfl rfl rfl (v := (x3 + 1)) rfl (xl' := [.ref 400, .int x1, .int (g1 409 k2), .int (x3 + 1)]) rfl ?_
            refine w_goto (pc' := 4) rfl rfl ?_
            exact h
        · replace h := h.2 hc
          refine w_aload_n (pc' := 30) rfl rfl rfl ?_
          have q4 : xR0 400 26 = some 409 ∧ xS0 L 409 = (20, 7) := (kf_12_26 (show xS0 L 400 = (12, 0) from rfl))
          refine w_getR (pc' := 33) rfl rfl rfl rfl (show xS0 L 400 = (12, 0) from rfl) q4.1 ?_
          refine w_iload_n (pc' := 34) rfl rfl rfl ?_
          obtain ⟨k3, ek3, bk3, h⟩ := h
          refine w_iaload (pc' := 35) (i := k3) rfl rfl q4.2 ek3 bk3 (by omega) ?_
          refine w_iload_n (pc' := 36) rfl rfl rfl ?_
          refine w_br2 (pc' := 39) (t := 59) rfl rfl rfl ic_le (fun hc => ?_) (fun hc => ?_)
          · replace h := h.2 hc
            refine w_iinc (pc' := 62) rfl rfl rfl (v := (x3 + 1)) rfl (xl' := [.ref 400, .int x1, .int x2, .int (x3 + 1)]) rfl ?_
            refine w_goto (pc' := 4) rfl rfl ?_
            exact h
          · replace h := h.1 (Classical.not_not.mp hc)
            refine w_goto (pc' := 52) rfl rfl ?_
            refine w_aload_n (pc' := 53) rfl rfl rfl ?_
            have q5 : xR0 400 26 = some 409 ∧ xS0 L 409 = (20, 7) := (kf_12_26 (show xS0 L 400 = (12, 0) from rfl))
            refine w_getR (pc' := 56) rfl rfl rfl rfl (show xS0 L 400 = (12, 0) from rfl) q5.1 ?_
            refine w_iload_n (pc' := 57) rfl rfl rfl ?_
            refine w_iaload (pc' := 58) (i := k3) rfl rfl q5.2 ek3 bk3 (by omega) ?_
            refine w_istore_n (pc' := 59) rfl rfl (xl' := [.ref 400, .int x1, .int (g1 409 k3), .int x3]) rfl ?_
            refine w_iinc (pc' := 62) rfl rfl rfl (v := (x3 + 1)) rfl (xl' := [.ref 400, .int x1, .int (g1 409 k3), .int (x3 + 1)]) rfl ?_
            refine w_goto (pc' := 4) rfl rfl ?_
            exact h
theorem t_Mo_merged_0 {L : Nat} {xs : Nat → Int32} {x1 : Int32} {x2 : Int32} {x3 : Int32} {x4 : Int32} {x5 : Int32} {f : Hp} {Q : Int32 → Hp → Prop}  (h : CI L xs xm_Mo_isState [.ref 400, .int x1, .int x2, .int x3] f (fun v1 g1 => ((v1 = 0 → Q (-2) g1) ∧ (¬ v1 = 0 → CI L xs xm_Mo_isIn [.int x4, .int 1, .int ((1 <<< ((g1 400 13) &&& 31)) - 1)] g1 (fun v2 g2 => ((v2 = 0 → Q (-2) g2) ∧ (¬ v2 = 0 → CV L xs xm_Mo_merges [.ref 400, .int x4] g2 (fun g3 => ((x5 = 0 → ((x5 = 0 → Q (g3 400 44) g3) ∧ (¬ x5 = 0 → Q (g3 400 45) g3))) ∧ (¬ x5 = 0 → ((x5 = 1 → ((x5 = 0 → Q (g3 400 44) g3) ∧ (¬ x5 = 0 → Q (g3 400 45) g3))) ∧ (¬ x5 = 1 → CI L xs xm_Mo_isIn [.int x5, .int 11, .int 22] g3 (fun v3 g4 => ((v3 = 0 → Q (-2) g4) ∧ (¬ v3 = 0 → ∃ k1 : Nat, (x5 - 10) = iN k1 ∧ k1 < 13 ∧ Q (g4 426 k1) g4))))))))))))))) : CI L xs xm_Mo_merged [.ref 400, .int x1, .int x2, .int x3, .int x4, .int x5] f Q := by
  show Wp L xs xm_Mo_merged 0 [.ref 400, .int x1, .int x2, .int x3, .int x4, .int x5] [] f (QI Q)
  refine w_aload_n (pc' := 1) rfl rfl rfl ?_
  refine w_iload_n (pc' := 2) rfl rfl rfl ?_
  refine w_iload_n (pc' := 3) rfl rfl rfl ?_
  refine w_iload_n (pc' := 4) rfl rfl rfl ?_
  refine w_cv (pc' := 7) (cm := xm_Mo_isState) (as := [.int x1, .int x2, .int x3]) (a := 400) (rest := []) rfl rfl rfl  (xa_Mo_isState (Nat.le_of_ble_eq_true rfl)) (show xS0 L 400 = (12, 0) from rfl) rfl (CI.k h fun v1 g1 h => ?_)
  show Wp L xs xm_Mo_merged 7 [.ref 400, .int x1, .int x2, .int x3, .int x4, .int x5] [.int v1] g1 _
  refine w_br (pc' := 10) (t := 27) rfl rfl rfl ic_eq (fun hc => ?_) (fun hc => ?_)
  · replace h := h.1 hc
    refine w_bipush (pc' := 29) rfl rfl (v := (-2)) rfl ?_
    exact w_ireturn rfl rfl h
  · replace h := h.2 hc
    refine w_iload (pc' := 12) rfl rfl rfl ?_
    refine w_iconst (pc' := 13) rfl rfl (v := 1) rfl ?_
    refine w_iconst (pc' := 14) rfl rfl (v := 1) rfl ?_
    refine w_aload_n (pc' := 15) rfl rfl rfl ?_
    refine w_getI (pc' := 18) rfl rfl rfl rfl rfl (show xS0 L 400 = (12, 0) from rfl) ?_
    refine w_ishl (pc' := 19) rfl rfl ?_
    refine w_iconst (pc' := 20) rfl rfl (v := 1) rfl ?_
    refine w_isub (pc' := 21) rfl rfl ?_
    refine w_cs (pc' := 24) (cm := xm_Mo_isIn) (as := [.int x4, .int 1, .int ((1 <<< ((g1 400 13) &&& 31)) - 1)]) (rest := []) rfl rfl rfl (Or.inl rfl) (xa_Mo_isIn (Nat.le_of_ble_eq_true rfl)) (CI.k h fun v2 g2 h => ?_)
    show Wp L xs xm_Mo_merged 24 [.ref 400, .int x1, .int x2, .int x3, .int x4, .int x5] [.int v2] g2 _
    refine w_br (pc' := 27) (t := 30) rfl rfl rfl ic_ne (fun hc => ?_) (fun hc => ?_)
    · replace h := h.2 hc
      refine w_aload_n (pc' := 31) rfl rfl rfl ?_
      refine w_iload (pc' := 33) rfl rfl rfl ?_
      refine w_cv (pc' := 36) (cm := xm_Mo_merges) (as := [.int x4]) (a := 400) (rest := []) rfl rfl rfl  (xa_Mo_merges (Nat.le_of_ble_eq_true rfl)) (show xS0 L 400 = (12, 0) from rfl) rfl (CV.k h fun g3 h => ?_)
      show Wp L xs xm_Mo_merged 36 [.ref 400, .int x1, .int x2, .int x3, .int x4, .int x5] [] g3 _
      refine w_iload (pc' := 38) rfl rfl rfl ?_
      refine w_br (pc' := 41) (t := 47) rfl rfl rfl ic_eq (fun hc => ?_) (fun hc => ?_)
      · replace h := h.1 hc
        refine w_iload (pc' := 49) rfl rfl rfl ?_
        refine w_br (pc' := 52) (t := 59) rfl rfl rfl ic_ne (fun hc => ?_) (fun hc => ?_)
        · replace h := h.2 hc
          refine w_aload_n (pc' := 60) rfl rfl rfl ?_
          refine w_getI (pc' := 63) rfl rfl rfl rfl rfl (show xS0 L 400 = (12, 0) from rfl) ?_
          exact w_ireturn rfl rfl h
        · replace h := h.1 (Classical.not_not.mp hc)
          refine w_aload_n (pc' := 53) rfl rfl rfl ?_
          refine w_getI (pc' := 56) rfl rfl rfl rfl rfl (show xS0 L 400 = (12, 0) from rfl) ?_
          refine w_goto (pc' := 63) rfl rfl ?_
          exact w_ireturn rfl rfl h
      · replace h := h.2 hc
        refine w_iload (pc' := 43) rfl rfl rfl ?_
        refine w_iconst (pc' := 44) rfl rfl (v := 1) rfl ?_
        refine w_br2 (pc' := 47) (t := 64) rfl rfl rfl ic_ne (fun hc => ?_) (fun hc => ?_)
        · replace h := h.2 hc
          refine w_iload (pc' := 66) rfl rfl rfl ?_
          refine w_bipush (pc' := 68) rfl rfl (v := 11) rfl ?_
          refine w_bipush (pc' := 70) rfl rfl (v := 22) rfl ?_
          refine w_cs (pc' := 73) (cm := xm_Mo_isIn) (as := [.int x5, .int 11, .int 22]) (rest := []) rfl rfl rfl (Or.inl rfl) (xa_Mo_isIn (Nat.le_of_ble_eq_true rfl)) (CI.k h fun v3 g4 h => ?_)
          show Wp L xs xm_Mo_merged 73 [.ref 400, .int x1, .int x2, .int x3, .int x4, .int x5] [.int v3] g4 _
          refine w_br (pc' := 76) (t := 89) rfl rfl rfl ic_eq (fun hc => ?_) (fun hc => ?_)
          · replace h := h.1 hc
            refine w_bipush (pc' := 91) rfl rfl (v := (-2)) rfl ?_
            exact w_ireturn rfl rfl h
          · replace h := h.2 hc
            refine w_aload_n (pc' := 77) rfl rfl rfl ?_
            have q1 : xR0 400 46 = some 426 ∧ xS0 L 426 = (20, 13) := (kf_12_46 (show xS0 L 400 = (12, 0) from rfl))
            refine w_getR (pc' := 80) rfl rfl rfl rfl (show xS0 L 400 = (12, 0) from rfl) q1.1 ?_
            refine w_iload (pc' := 82) rfl rfl rfl ?_
            refine w_bipush (pc' := 84) rfl rfl (v := 10) rfl ?_
            refine w_isub (pc' := 85) rfl rfl ?_
            obtain ⟨k1, ek1, bk1, h⟩ := h
            refine w_iaload (pc' := 86) (i := k1) rfl rfl q1.2 ek1 bk1 (by omega) ?_
            refine w_goto (pc' := 91) rfl rfl ?_
            exact w_ireturn rfl rfl h
        · replace h := h.1 (Classical.not_not.mp hc)
          refine w_iload (pc' := 49) rfl rfl rfl ?_
          refine w_br (pc' := 52) (t := 59) rfl rfl rfl ic_ne (fun hc => ?_) (fun hc => ?_)
          · replace h := h.2 hc
            refine w_aload_n (pc' := 60) rfl rfl rfl ?_
            refine w_getI (pc' := 63) rfl rfl rfl rfl rfl (show xS0 L 400 = (12, 0) from rfl) ?_
            exact w_ireturn rfl rfl h
          · replace h := h.1 (Classical.not_not.mp hc)
            refine w_aload_n (pc' := 53) rfl rfl rfl ?_
            refine w_getI (pc' := 56) rfl rfl rfl rfl rfl (show xS0 L 400 = (12, 0) from rfl) ?_
            refine w_goto (pc' := 63) rfl rfl ?_
            exact w_ireturn rfl rfl h
    · replace h := h.1 (Classical.not_not.mp hc)
      refine w_bipush (pc' := 29) rfl rfl (v := (-2)) rfl ?_
      exact w_ireturn rfl rfl h
theorem t_Mo_sure_0 {L : Nat} {xs : Nat → Int32} {x1 : Int32} {x2 : Int32} {x3 : Int32} {x4 : Int32} {x5 : Int32} {f : Hp} {Q : Int32 → Hp → Prop}  (h : CI L xs xm_Mo_isState [.ref 400, .int x1, .int x2, .int x3] f (fun v1 g1 => ((v1 = 0 → Q (-2) g1) ∧ (¬ v1 = 0 → CI L xs xm_Mo_isIn [.int x4, .int 1, .int 12] g1 (fun v2 g2 => ((v2 = 0 → Q (-2) g2) ∧ (¬ v2 = 0 → Wp L xs xm_Mo_sure 34 [.ref 400, .int x1, .int x2, .int x3, .int x4, .int x5, .int (-2), .int 0, .int 0, .retAddr 0] [] g2 (QI Q)))))))) : CI L xs xm_Mo_sure [.ref 400, .int x1, .int x2, .int x3, .int x4, .int x5] f Q := by
  show Wp L xs xm_Mo_sure 0 [.ref 400, .int x1, .int x2, .int x3, .int x4, .int x5, .retAddr 0, .retAddr 0, .retAddr 0, .retAddr 0] [] f (QI Q)
  refine w_aload_n (pc' := 1) rfl rfl rfl ?_
  refine w_iload_n (pc' := 2) rfl rfl rfl ?_
  refine w_iload_n (pc' := 3) rfl rfl rfl ?_
  refine w_iload_n (pc' := 4) rfl rfl rfl ?_
  refine w_cv (pc' := 7) (cm := xm_Mo_isState) (as := [.int x1, .int x2, .int x3]) (a := 400) (rest := []) rfl rfl rfl  (xa_Mo_isState (Nat.le_of_ble_eq_true rfl)) (show xS0 L 400 = (12, 0) from rfl) rfl (CI.k h fun v1 g1 h => ?_)
  show Wp L xs xm_Mo_sure 7 [.ref 400, .int x1, .int x2, .int x3, .int x4, .int x5, .retAddr 0, .retAddr 0, .retAddr 0, .retAddr 0] [.int v1] g1 _
  refine w_br (pc' := 10) (t := 21) rfl rfl rfl ic_eq (fun hc => ?_) (fun hc => ?_)
  · replace h := h.1 hc
    refine w_bipush (pc' := 23) rfl rfl (v := (-2)) rfl ?_
    exact w_ireturn rfl rfl h
  · replace h := h.2 hc
    refine w_iload (pc' := 12) rfl rfl rfl ?_
    refine w_iconst (pc' := 13) rfl rfl (v := 1) rfl ?_
    refine w_bipush (pc' := 15) rfl rfl (v := 12) rfl ?_
    refine w_cs (pc' := 18) (cm := xm_Mo_isIn) (as := [.int x4, .int 1, .int 12]) (rest := []) rfl rfl rfl (Or.inl rfl) (xa_Mo_isIn (Nat.le_of_ble_eq_true rfl)) (CI.k h fun v2 g2 h => ?_)
    show Wp L xs xm_Mo_sure 18 [.ref 400, .int x1, .int x2, .int x3, .int x4, .int x5, .retAddr 0, .retAddr 0, .retAddr 0, .retAddr 0] [.int v2] g2 _
    refine w_br (pc' := 21) (t := 24) rfl rfl rfl ic_ne (fun hc => ?_) (fun hc => ?_)
    · replace h := h.2 hc
      refine w_bipush (pc' := 26) rfl rfl (v := (-2)) rfl ?_
      refine w_istore (pc' := 28) rfl rfl (xl' := [.ref 400, .int x1, .int x2, .int x3, .int x4, .int x5, .int (-2), .retAddr 0, .retAddr 0, .retAddr 0]) rfl ?_
      refine w_iconst (pc' := 29) rfl rfl (v := 0) rfl ?_
      refine w_istore (pc' := 31) rfl rfl (xl' := [.ref 400, .int x1, .int x2, .int x3, .int x4, .int x5, .int (-2), .int 0, .retAddr 0, .retAddr 0]) rfl ?_
      refine w_iconst (pc' := 32) rfl rfl (v := 0) rfl ?_
      refine w_istore (pc' := 34) rfl rfl (xl' := [.ref 400, .int x1, .int x2, .int x3, .int x4, .int x5, .int (-2), .int 0, .int 0, .retAddr 0]) rfl ?_
      exact h
    · replace h := h.1 (Classical.not_not.mp hc)
      refine w_bipush (pc' := 23) rfl rfl (v := (-2)) rfl ?_
      exact w_ireturn rfl rfl h
theorem t_Mo_sure_34 {L : Nat} {xs : Nat → Int32} {x1 : Int32} {x2 : Int32} {x3 : Int32} {x4 : Int32} {x5 : Int32} {x6 : Int32} {x7 : Int32} {x8 : Int32} {x9 : Value} {f : Hp} {Q : Int32 → Hp → Prop} (cx9 : (x9.category != 2) = true) (h : ((x8 < (1 <<< ((f 400 13) &&& 31)) → CI L xs xm_Mo_bitsOf [.int x8] f (fun v1 g1 => ((v1 = (g1 400 14) → (((x8 &&& ((g1 400 17) ^^^ (-1))) = 0 → Wp L xs xm_Mo_sure 34 [.ref 400, .int x1, .int x2, .int x3, .int x4, .int x5, .int x6, .int x7, .int (x8 + 1), x9] [] g1 (QI Q)) ∧ (¬ (x8 &&& ((g1 400 17) ^^^ (-1))) = 0 → CV L xs xm_Mo_merges [.ref 400, .int x8] g1 (fun g2 => (((g2 400 44) < x4 → ∃ k1 : Nat, x4 = iN k1 ∧ k1 < 13 ∧ (((g2 426 k1) = (-1) → Wp L xs xm_Mo_sure 119 [.ref 400, .int x1, .int x2, .int x3, .int x4, .int x5, .int x6, .int x7, .int x8, .int (g2 426 k1)] [.int 1, .int x7] g2 (QI Q)) ∧ (¬ (g2 426 k1) = (-1) → (((g2 426 k1) = 10 → Wp L xs xm_Mo_sure 119 [.ref 400, .int x1, .int x2, .int x3, .int x4, .int x5, .int x6, .int x7, .int x8, .int (g2 426 k1)] [.int 1, .int x7] g2 (QI Q)) ∧ (¬ (g2 426 k1) = 10 → Wp L xs xm_Mo_sure 119 [.ref 400, .int x1, .int x2, .int x3, .int x4, .int x5, .int x6, .int x7, .int x8, .int (g2 426 k1)] [.int 0, .int x7] g2 (QI Q)))))) ∧ (¬ (g2 400 44) < x4 → Wp L xs xm_Mo_sure 34 [.ref 400, .int x1, .int x2, .int x3, .int x4, .int x5, .int x6, .int x7, .int (x8 + 1), x9] [] g2 (QI Q))))))) ∧ (¬ v1 = (g1 400 14) → Wp L xs xm_Mo_sure 34 [.ref 400, .int x1, .int x2, .int x3, .int x4, .int x5, .int x6, .int x7, .int (x8 + 1), x9] [] g1 (QI Q))))) ∧ (¬ x8 < (1 <<< ((f 400 13) &&& 31)) → ((x5 = 0 → ((x6 = (-2) → Q (-1) f) ∧ (¬ x6 = (-2) → Q x6 f))) ∧ (¬ x5 = 0 → Q x7 f))))) : Wp L xs xm_Mo_sure 34 [.ref 400, .int x1, .int x2, .int x3, .int x4, .int x5, .int x6, .int x7, .int x8, x9] [] f (QI Q) := by
  refine w_iload (pc' := 36) rfl rfl rfl ?_
  refine w_iconst (pc' := 37) rfl rfl (v := 1) rfl ?_
  refine w_aload_n (pc' := 38) rfl rfl rfl ?_
  refine w_getI (pc' := 41) rfl rfl rfl rfl rfl (show xS0 L 400 = (12, 0) from rfl) ?_
  refine w_ishl (pc' := 42) rfl rfl ?_
  refine w_br2 (pc' := 45) (t := 150) rfl rfl rfl ic_ge (fun hc => ?_) (fun hc => ?_)
  · replace h := h.2 hc
    refine w_iload (pc' := 152) rfl rfl rfl ?_
    refine w_br (pc' := 155) (t := 160) rfl rfl rfl ic_eq (fun hc => ?_) (fun hc => ?_)
    · replace h := h.1 hc
      refine w_iload (pc' := 162) rfl rfl rfl ?_
      refine w_bipush (pc' := 164) rfl rfl (v := (-2)) rfl ?_
      refine w_br2 (pc' := 167) (t := 171) rfl rfl rfl ic_ne (fun hc => ?_) (fun hc => ?_)
      · replace h := h.2 hc
        refine w_iload (pc' := 173) rfl rfl rfl ?_
        exact w_ireturn rfl rfl h
      · replace h := h.1 (Classical.not_not.mp hc)
        refine w_iconst (pc' := 168) rfl rfl (v := (-1)) rfl ?_
        refine w_goto (pc' := 173) rfl rfl ?_
        exact w_ireturn rfl rfl h
    · replace h := h.2 hc
      refine w_iload (pc' := 157) rfl rfl rfl ?_
      refine w_goto (pc' := 173) rfl rfl ?_
      exact w_ireturn rfl rfl h
  · replace h := h.1 (Classical.not_not.mp hc)
    refine w_iload (pc' := 47) rfl rfl rfl ?_
    refine w_cs (pc' := 50) (cm := xm_Mo_bitsOf) (as := [.int x8]) (rest := []) rfl rfl rfl (Or.inl rfl) (xa_Mo_bitsOf (Nat.le_of_ble_eq_true rfl)) (CI.k h fun v1 g1 h => ?_)
    show Wp L xs xm_Mo_sure 50 [.ref 400, .int x1, .int x2, .int x3, .int x4, .int x5, .int x6, .int x7, .int x8, x9] [.int v1] g1 _
    refine w_aload_n (pc' := 51) rfl rfl rfl ?_
    refine w_getI (pc' := 54) rfl rfl rfl rfl rfl (show xS0 L 400 = (12, 0) from rfl) ?_
    refine w_br2 (pc' := 57) (t := 144) rfl rfl rfl ic_ne (fun hc => ?_) (fun hc => ?_)
    · replace h := h.2 hc
      refine w_iinc (pc' := 147) rfl rfl rfl (v := (x8 + 1)) rfl (xl' := [.ref 400, .int x1, .int x2, .int x3, .int x4, .int x5, .int x6, .int x7, .int (x8 + 1), x9]) rfl ?_
      refine w_goto (pc' := 34) rfl rfl ?_
      exact h
    · replace h := h.1 (Classical.not_not.mp hc)
      refine w_iload (pc' := 59) rfl rfl rfl ?_
      refine w_aload_n (pc' := 60) rfl rfl rfl ?_
      refine w_getI (pc' := 63) rfl rfl rfl rfl rfl (show xS0 L 400 = (12, 0) from rfl) ?_
      refine w_iconst (pc' := 64) rfl rfl (v := (-1)) rfl ?_
      refine w_ixor (pc' := 65) rfl rfl ?_
      refine w_iand (pc' := 66) rfl rfl ?_
      refine w_br (pc' := 69) (t := 72) rfl rfl rfl ic_ne (fun hc => ?_) (fun hc => ?_)
      · replace h := h.2 hc
        refine w_aload_n (pc' := 73) rfl rfl rfl ?_
        refine w_iload (pc' := 75) rfl rfl rfl ?_
        refine w_cv (pc' := 78) (cm := xm_Mo_merges) (as := [.int x8]) (a := 400) (rest := []) rfl rfl rfl  (xa_Mo_merges (Nat.le_of_ble_eq_true rfl)) (show xS0 L 400 = (12, 0) from rfl) rfl (CV.k h fun g2 h => ?_)
        show Wp L xs xm_Mo_sure 78 [.ref 400, .int x1, .int x2, .int x3, .int x4, .int x5, .int x6, .int x7, .int x8, x9] [] g2 _
        refine w_aload_n (pc' := 79) rfl rfl rfl ?_
        refine w_getI (pc' := 82) rfl rfl rfl rfl rfl (show xS0 L 400 = (12, 0) from rfl) ?_
        refine w_iload (pc' := 84) rfl rfl rfl ?_
        refine w_br2 (pc' := 87) (t := 90) rfl rfl rfl ic_lt (fun hc => ?_) (fun hc => ?_)
        · replace h := h.1 hc
          refine w_aload_n (pc' := 91) rfl rfl rfl ?_
          have q1 : xR0 400 46 = some 426 ∧ xS0 L 426 = (20, 13) := (kf_12_46 (show xS0 L 400 = (12, 0) from rfl))
          refine w_getR (pc' := 94) rfl rfl rfl rfl (show xS0 L 400 = (12, 0) from rfl) q1.1 ?_
          refine w_iload (pc' := 96) rfl rfl rfl ?_
          obtain ⟨k1, ek1, bk1, h⟩ := h
          refine w_iaload (pc' := 97) (i := k1) rfl rfl q1.2 ek1 bk1 (by omega) ?_
          refine w_istore (pc' := 99) rfl rfl (xl' := [.ref 400, .int x1, .int x2, .int x3, .int x4, .int x5, .int x6, .int x7, .int x8, .int (g2 426 k1)]) rfl ?_
          refine w_iload (pc' := 101) rfl rfl rfl ?_
          refine w_iload (pc' := 103) rfl rfl rfl ?_
          refine w_iconst (pc' := 104) rfl rfl (v := (-1)) rfl ?_
          refine w_br2 (pc' := 107) (t := 114) rfl rfl rfl ic_eq (fun hc => ?_) (fun hc => ?_)
          · replace h := h.1 hc
            refine w_iconst (pc' := 115) rfl rfl (v := 1) rfl ?_
            refine w_goto (pc' := 119) rfl rfl ?_
            exact h
          · replace h := h.2 hc
            refine w_iload (pc' := 109) rfl rfl rfl ?_
            refine w_bipush (pc' := 111) rfl rfl (v := 10) rfl ?_
            refine w_br2 (pc' := 114) (t := 118) rfl rfl rfl ic_ne (fun hc => ?_) (fun hc => ?_)
            · replace h := h.2 hc
              refine w_iconst (pc' := 119) rfl rfl (v := 0) rfl ?_
              exact h
            · replace h := h.1 (Classical.not_not.mp hc)
              refine w_iconst (pc' := 115) rfl rfl (v := 1) rfl ?_
              refine w_goto (pc' := 119) rfl rfl ?_
              exact h
        · replace h := h.2 hc
          refine w_goto (pc' := 144) rfl rfl ?_
          refine w_iinc (pc' := 147) rfl rfl rfl (v := (x8 + 1)) rfl (xl' := [.ref 400, .int x1, .int x2, .int x3, .int x4, .int x5, .int x6, .int x7, .int (x8 + 1), x9]) rfl ?_
          refine w_goto (pc' := 34) rfl rfl ?_
          exact h
      · replace h := h.1 (Classical.not_not.mp hc)
        refine w_goto (pc' := 144) rfl rfl ?_
        refine w_iinc (pc' := 147) rfl rfl rfl (v := (x8 + 1)) rfl (xl' := [.ref 400, .int x1, .int x2, .int x3, .int x4, .int x5, .int x6, .int x7, .int (x8 + 1), x9]) rfl ?_
        refine w_goto (pc' := 34) rfl rfl ?_
        exact h
theorem t_Mo_sure_119 {L : Nat} {xs : Nat → Int32} {x1 : Int32} {x2 : Int32} {x3 : Int32} {x4 : Int32} {x5 : Int32} {x6 : Int32} {x7 : Int32} {x8 : Int32} {x9 : Int32} {s0 : Int32} {s1 : Int32} {f : Hp} {Q : Int32 → Hp → Prop}  (h : ((x6 = (-2) → Wp L xs xm_Mo_sure 34 [.ref 400, .int x1, .int x2, .int x3, .int x4, .int x5, .int x9, .int (s1 + s0), .int (x8 + 1), .int x9] [] f (QI Q)) ∧ (¬ x6 = (-2) → ((x6 = x9 → Wp L xs xm_Mo_sure 34 [.ref 400, .int x1, .int x2, .int x3, .int x4, .int x5, .int x9, .int (s1 + s0), .int (x8 + 1), .int x9] [] f (QI Q)) ∧ (¬ x6 = x9 → Wp L xs xm_Mo_sure 34 [.ref 400, .int x1, .int x2, .int x3, .int x4, .int x5, .int (-1), .int (s1 + s0), .int (x8 + 1), .int x9] [] f (QI Q)))))) : Wp L xs xm_Mo_sure 119 [.ref 400, .int x1, .int x2, .int x3, .int x4, .int x5, .int x6, .int x7, .int x8, .int x9] [.int s0, .int s1] f (QI Q) := by
  refine w_iadd (pc' := 120) rfl rfl ?_
  refine w_istore (pc' := 122) rfl rfl (xl' := [.ref 400, .int x1, .int x2, .int x3, .int x4, .int x5, .int x6, .int (s1 + s0), .int x8, .int x9]) rfl ?_
  refine w_iload (pc' := 124) rfl rfl rfl ?_
  refine w_bipush (pc' := 126) rfl rfl (v := (-2)) rfl ?_
  refine w_br2 (pc' := 129) (t := 136) rfl rfl rfl ic_eq (fun hc => ?_) (fun hc => ?_)
  · replace h := h.1 hc
    refine w_iload (pc' := 138) rfl rfl rfl ?_
    refine w_goto (pc' := 142) rfl rfl ?_
    refine w_istore (pc' := 144) rfl rfl (xl' := [.ref 400, .int x1, .int x2, .int x3, .int x4, .int x5, .int x9, .int (s1 + s0), .int x8, .int x9]) rfl ?_
    refine w_iinc (pc' := 147) rfl rfl rfl (v := (x8 + 1)) rfl (xl' := [.ref 400, .int x1, .int x2, .int x3, .int x4, .int x5, .int x9, .int (s1 + s0), .int (x8 + 1), .int x9]) rfl ?_
    refine w_goto (pc' := 34) rfl rfl ?_
    exact h
  · replace h := h.2 hc
    refine w_iload (pc' := 131) rfl rfl rfl ?_
    refine w_iload (pc' := 133) rfl rfl rfl ?_
    refine w_br2 (pc' := 136) (t := 141) rfl rfl rfl ic_ne (fun hc => ?_) (fun hc => ?_)
    · replace h := h.2 hc
      refine w_iconst (pc' := 142) rfl rfl (v := (-1)) rfl ?_
      refine w_istore (pc' := 144) rfl rfl (xl' := [.ref 400, .int x1, .int x2, .int x3, .int x4, .int x5, .int (-1), .int (s1 + s0), .int x8, .int x9]) rfl ?_
      refine w_iinc (pc' := 147) rfl rfl rfl (v := (x8 + 1)) rfl (xl' := [.ref 400, .int x1, .int x2, .int x3, .int x4, .int x5, .int (-1), .int (s1 + s0), .int (x8 + 1), .int x9]) rfl ?_
      refine w_goto (pc' := 34) rfl rfl ?_
      exact h
    · replace h := h.1 (Classical.not_not.mp hc)
      refine w_iload (pc' := 138) rfl rfl rfl ?_
      refine w_goto (pc' := 142) rfl rfl ?_
      refine w_istore (pc' := 144) rfl rfl (xl' := [.ref 400, .int x1, .int x2, .int x3, .int x4, .int x5, .int x9, .int (s1 + s0), .int x8, .int x9]) rfl ?_
      refine w_iinc (pc' := 147) rfl rfl rfl (v := (x8 + 1)) rfl (xl' := [.ref 400, .int x1, .int x2, .int x3, .int x4, .int x5, .int x9, .int (s1 + s0), .int (x8 + 1), .int x9]) rfl ?_
      refine w_goto (pc' := 34) rfl rfl ?_
      exact h
theorem t_Mo_after_0 {L : Nat} {xs : Nat → Int32} {x1 : Int32} {x2 : Int32} {x3 : Int32} {f : Hp} {Q : Int32 → Hp → Prop}  (h : CI L xs xm_Mo_isCouncil [.ref 400, .int x1] f (fun v1 g1 => ((v1 = 0 → Q (-2) g1) ∧ (¬ v1 = 0 → CI L xs xm_Mo_isRun [.ref 400, .int x2] g1 (fun v2 g2 => ((v2 = 0 → Q (-2) g2) ∧ (¬ v2 = 0 → CV L xs xm_Mo_goes [.ref 400, .int 40] g2 (fun g3 => ((x3 = 0 → CI L xs xm_Mo_honestBy [.ref 400, .int x3] g3 (fun v3 g4 => Q v3 g4)) ∧ (¬ x3 = 0 → ((x3 = 1 → CI L xs xm_Mo_honestBy [.ref 400, .int x3] g3 (fun v4 g5 => Q v4 g5)) ∧ (¬ x3 = 1 → ((x3 = 2 → CI L xs xm_Mo_viewsMade [.ref 400] g3 (fun v5 g6 => Q v5 g6)) ∧ (¬ x3 = 2 → ((x3 = 3 → CI L xs xm_Mo_certainOf [.ref 400] g3 (fun v6 g7 => Q v6 g7)) ∧ (¬ x3 = 3 → ((x3 = 4 → CI L xs xm_Mo_wordsOf [.ref 400] g3 (fun v7 g8 => Q v7 g8)) ∧ (¬ x3 = 4 → ((x3 = 5 → CI L xs xm_Mo_honestBy [.ref 400, .int x3] g3 (fun v8 g9 => Q v8 g9)) ∧ (¬ x3 = 5 → Q (-2) g3)))))))))))))))))))) : CI L xs xm_Mo_after [.ref 400, .int x1, .int x2, .int x3] f Q := by
  show Wp L xs xm_Mo_after 0 [.ref 400, .int x1, .int x2, .int x3] [] f (QI Q)
  refine w_aload_n (pc' := 1) rfl rfl rfl ?_
  refine w_iload_n (pc' := 2) rfl rfl rfl ?_
  refine w_cv (pc' := 5) (cm := xm_Mo_isCouncil) (as := [.int x1]) (a := 400) (rest := []) rfl rfl rfl  (xa_Mo_isCouncil (Nat.le_of_ble_eq_true rfl)) (show xS0 L 400 = (12, 0) from rfl) rfl (CI.k h fun v1 g1 h => ?_)
  show Wp L xs xm_Mo_after 5 [.ref 400, .int x1, .int x2, .int x3] [.int v1] g1 _
  refine w_br (pc' := 8) (t := 16) rfl rfl rfl ic_eq (fun hc => ?_) (fun hc => ?_)
  · replace h := h.1 hc
    refine w_bipush (pc' := 18) rfl rfl (v := (-2)) rfl ?_
    exact w_ireturn rfl rfl h
  · replace h := h.2 hc
    refine w_aload_n (pc' := 9) rfl rfl rfl ?_
    refine w_iload_n (pc' := 10) rfl rfl rfl ?_
    refine w_cv (pc' := 13) (cm := xm_Mo_isRun) (as := [.int x2]) (a := 400) (rest := []) rfl rfl rfl  (xa_Mo_isRun (Nat.le_of_ble_eq_true rfl)) (show xS0 L 400 = (12, 0) from rfl) rfl (CI.k h fun v2 g2 h => ?_)
    show Wp L xs xm_Mo_after 13 [.ref 400, .int x1, .int x2, .int x3] [.int v2] g2 _
    refine w_br (pc' := 16) (t := 19) rfl rfl rfl ic_ne (fun hc => ?_) (fun hc => ?_)
    · replace h := h.2 hc
      refine w_aload_n (pc' := 20) rfl rfl rfl ?_
      refine w_bipush (pc' := 22) rfl rfl (v := 40) rfl ?_
      refine w_cv (pc' := 25) (cm := xm_Mo_goes) (as := [.int 40]) (a := 400) (rest := []) rfl rfl rfl  (xa_Mo_goes (Nat.le_of_ble_eq_true rfl)) (show xS0 L 400 = (12, 0) from rfl) rfl (CV.k h fun g3 h => ?_)
      show Wp L xs xm_Mo_after 25 [.ref 400, .int x1, .int x2, .int x3] [] g3 _
      refine w_iload_n (pc' := 26) rfl rfl rfl ?_
      by_cases hs0 : x3 = 0
      · replace h := h.1 hs0
        refine w_ts (o := 38) (t := 64) rfl (by rw [hs0]; decide) (by rw [hs0]; rfl) rfl ?_
        refine w_aload_n (pc' := 65) rfl rfl rfl ?_
        refine w_iload_n (pc' := 66) rfl rfl rfl ?_
        refine w_cv (pc' := 69) (cm := xm_Mo_honestBy) (as := [.int x3]) (a := 400) (rest := []) rfl rfl rfl  (xa_Mo_honestBy (Nat.le_of_ble_eq_true rfl)) (show xS0 L 400 = (12, 0) from rfl) rfl (CI.k h fun v3 g4 h => ?_)
        show Wp L xs xm_Mo_after 69 [.ref 400, .int x1, .int x2, .int x3] [.int v3] g4 _
        exact w_ireturn rfl rfl h
      replace h := h.2 hs0
      by_cases hs1 : x3 = 1
      · replace h := h.1 hs1
        refine w_ts (o := 38) (t := 64) rfl (by rw [hs1]; decide) (by rw [hs1]; rfl) rfl ?_
        refine w_aload_n (pc' := 65) rfl rfl rfl ?_
        refine w_iload_n (pc' := 66) rfl rfl rfl ?_
        refine w_cv (pc' := 69) (cm := xm_Mo_honestBy) (as := [.int x3]) (a := 400) (rest := []) rfl rfl rfl  (xa_Mo_honestBy (Nat.le_of_ble_eq_true rfl)) (show xS0 L 400 = (12, 0) from rfl) rfl (CI.k h fun v4 g5 h => ?_)
        show Wp L xs xm_Mo_after 69 [.ref 400, .int x1, .int x2, .int x3] [.int v4] g5 _
        exact w_ireturn rfl rfl h
      replace h := h.2 hs1
      by_cases hs2 : x3 = 2
      · replace h := h.1 hs2
        refine w_ts (o := 44) (t := 70) rfl (by rw [hs2]; decide) (by rw [hs2]; rfl) rfl ?_
        refine w_aload_n (pc' := 71) rfl rfl rfl ?_
        refine w_cv (pc' := 74) (cm := xm_Mo_viewsMade) (as := []) (a := 400) (rest := []) rfl rfl rfl  (xa_Mo_viewsMade (Nat.le_of_ble_eq_true rfl)) (show xS0 L 400 = (12, 0) from rfl) rfl (CI.k h fun v5 g6 h => ?_)
        show Wp L xs xm_Mo_after 74 [.ref 400, .int x1, .int x2, .int x3] [.int v5] g6 _
        exact w_ireturn rfl rfl h
      replace h := h.2 hs2
      by_cases hs3 : x3 = 3
      · replace h := h.1 hs3
        refine w_ts (o := 49) (t := 75) rfl (by rw [hs3]; decide) (by rw [hs3]; rfl) rfl ?_
        refine w_aload_n (pc' := 76) rfl rfl rfl ?_
        refine w_cv (pc' := 79) (cm := xm_Mo_certainOf) (as := []) (a := 400) (rest := []) rfl rfl rfl  (xa_Mo_certainOf (Nat.le_of_ble_eq_true rfl)) (show xS0 L 400 = (12, 0) from rfl) rfl (CI.k h fun v6 g7 h => ?_)
        show Wp L xs xm_Mo_after 79 [.ref 400, .int x1, .int x2, .int x3] [.int v6] g7 _
        exact w_ireturn rfl rfl h
      replace h := h.2 hs3
      by_cases hs4 : x3 = 4
      · replace h := h.1 hs4
        refine w_ts (o := 54) (t := 80) rfl (by rw [hs4]; decide) (by rw [hs4]; rfl) rfl ?_
        refine w_aload_n (pc' := 81) rfl rfl rfl ?_
        refine w_cv (pc' := 84) (cm := xm_Mo_wordsOf) (as := []) (a := 400) (rest := []) rfl rfl rfl  (xa_Mo_wordsOf (Nat.le_of_ble_eq_true rfl)) (show xS0 L 400 = (12, 0) from rfl) rfl (CI.k h fun v7 g8 h => ?_)
        show Wp L xs xm_Mo_after 84 [.ref 400, .int x1, .int x2, .int x3] [.int v7] g8 _
        exact w_ireturn rfl rfl h
      replace h := h.2 hs4
      by_cases hs5 : x3 = 5
      · replace h := h.1 hs5
        refine w_ts (o := 38) (t := 64) rfl (by rw [hs5]; decide) (by rw [hs5]; rfl) rfl ?_
        refine w_aload_n (pc' := 65) rfl rfl rfl ?_
        refine w_iload_n (pc' := 66) rfl rfl rfl ?_
        refine w_cv (pc' := 69) (cm := xm_Mo_honestBy) (as := [.int x3]) (a := 400) (rest := []) rfl rfl rfl  (xa_Mo_honestBy (Nat.le_of_ble_eq_true rfl)) (show xS0 L 400 = (12, 0) from rfl) rfl (CI.k h fun v8 g9 h => ?_)
        show Wp L xs xm_Mo_after 69 [.ref 400, .int x1, .int x2, .int x3] [.int v8] g9 _
        exact w_ireturn rfl rfl h
      replace h := h.2 hs5
      refine w_tsd (t := 85) rfl ?_ rfl ?_
      · have z0 : (x3).toInt ≠ 0 := fun e => hs0 (Int32.toInt_inj.mp e); have z1 : (x3).toInt ≠ 1 := fun e => hs1 (Int32.toInt_inj.mp e); have z2 : (x3).toInt ≠ 2 := fun e => hs2 (Int32.toInt_inj.mp e); have z3 : (x3).toInt ≠ 3 := fun e => hs3 (Int32.toInt_inj.mp e); have z4 : (x3).toInt ≠ 4 := fun e => hs4 (Int32.toInt_inj.mp e); have z5 : (x3).toInt ≠ 5 := fun e => hs5 (Int32.toInt_inj.mp e); omega
      refine w_bipush (pc' := 87) rfl rfl (v := (-2)) rfl ?_
      exact w_ireturn rfl rfl h
    · replace h := h.1 (Classical.not_not.mp hc)
      refine w_bipush (pc' := 18) rfl rfl (v := (-2)) rfl ?_
      exact w_ireturn rfl rfl h
theorem t_Mo_honestBy_0 {L : Nat} {xs : Nat → Int32} {x1 : Int32} {f : Hp} {Q : Int32 → Hp → Prop}  (h : Wp L xs xm_Mo_honestBy 4 [.ref 400, .int x1, .int 0, .int 0] [] f (QI Q)) : CI L xs xm_Mo_honestBy [.ref 400, .int x1] f Q := by
  show Wp L xs xm_Mo_honestBy 0 [.ref 400, .int x1, .retAddr 0, .retAddr 0] [] f (QI Q)
  refine w_iconst (pc' := 1) rfl rfl (v := 0) rfl ?_
  refine w_istore_n (pc' := 2) rfl rfl (xl' := [.ref 400, .int x1, .int 0, .retAddr 0]) rfl ?_
  refine w_iconst (pc' := 3) rfl rfl (v := 0) rfl ?_
  refine w_istore_n (pc' := 4) rfl rfl (xl' := [.ref 400, .int x1, .int 0, .int 0]) rfl ?_
  exact h
theorem t_Mo_honestBy_4 {L : Nat} {xs : Nat → Int32} {x1 : Int32} {x2 : Int32} {x3 : Int32} {f : Hp} {Q : Int32 → Hp → Prop}  (h : ((x3 < (f 400 13) → CI L xs xm_Mo_isLiar [.ref 400, .int x3] f (fun v1 g1 => ((v1 = 0 → ((x1 = 0 → ∃ k2 : Nat, x3 = iN k2 ∧ k2 < 7 ∧ (((g1 409 k2) < (g1 408 k2) → Wp L xs xm_Mo_honestBy 4 [.ref 400, .int x1, .int (x2 ||| (1 <<< (x3 &&& 31))), .int (x3 + 1)] [] g1 (QI Q)) ∧ (¬ (g1 409 k2) < (g1 408 k2) → Wp L xs xm_Mo_honestBy 4 [.ref 400, .int x1, .int (x2 ||| 0), .int (x3 + 1)] [] g1 (QI Q)))) ∧ (¬ x1 = 0 → ((x1 = 1 → ∃ k1 : Nat, x3 = iN k1 ∧ k1 < 7 ∧ (((g1 407 k1) = 0 → Wp L xs xm_Mo_honestBy 4 [.ref 400, .int x1, .int (x2 ||| (1 <<< (x3 &&& 31))), .int (x3 + 1)] [] g1 (QI Q)) ∧ (¬ (g1 407 k1) = 0 → Wp L xs xm_Mo_honestBy 4 [.ref 400, .int x1, .int (x2 ||| 0), .int (x3 + 1)] [] g1 (QI Q)))) ∧ (¬ x1 = 1 → CI L xs xm_Mo_isFull [.ref 400, .int x3] g1 (fun v2 g2 => ((v2 = 0 → Wp L xs xm_Mo_honestBy 4 [.ref 400, .int x1, .int (x2 ||| 0), .int (x3 + 1)] [] g2 (QI Q)) ∧ (¬ v2 = 0 → Wp L xs xm_Mo_honestBy 4 [.ref 400, .int x1, .int (x2 ||| (1 <<< (x3 &&& 31))), .int (x3 + 1)] [] g2 (QI Q))))))))) ∧ (¬ v1 = 0 → Wp L xs xm_Mo_honestBy 4 [.ref 400, .int x1, .int x2, .int (x3 + 1)] [] g1 (QI Q))))) ∧ (¬ x3 < (f 400 13) → Q x2 f))) : Wp L xs xm_Mo_honestBy 4 [.ref 400, .int x1, .int x2, .int x3] [] f (QI Q) := by
  refine w_iload_n (pc' := 5) rfl rfl rfl ?_
  refine w_aload_n (pc' := 6) rfl rfl rfl ?_
  refine w_getI (pc' := 9) rfl rfl rfl rfl rfl (show xS0 L 400 = (12, 0) from rfl) ?_
  refine w_br2 (pc' := 12) (t := 86) rfl rfl rfl ic_ge (fun hc => ?_) (fun hc => ?_)
  · replace h := h.2 hc
    refine w_iload_n (pc' := 87) rfl rfl rfl ?_
    exact w_ireturn rfl rfl h
  · replace h := h.1 (Classical.not_not.mp hc)
    refine w_aload_n (pc' := 13) rfl rfl rfl ?_
    refine w_iload_n (pc' := 14) rfl rfl rfl ?_
    refine w_cv (pc' := 17) (cm := xm_Mo_isLiar) (as := [.int x3]) (a := 400) (rest := []) rfl rfl rfl  (xa_Mo_isLiar (Nat.le_of_ble_eq_true rfl)) (show xS0 L 400 = (12, 0) from rfl) rfl (CI.k h fun v1 g1 h => ?_)
    show Wp L xs xm_Mo_honestBy 17 [.ref 400, .int x1, .int x2, .int x3] [.int v1] g1 _
    refine w_br (pc' := 20) (t := 23) rfl rfl rfl ic_eq (fun hc => ?_) (fun hc => ?_)
    · replace h := h.1 hc
      refine w_iload_n (pc' := 24) rfl rfl rfl ?_
      refine w_iload_n (pc' := 25) rfl rfl rfl ?_
      refine w_br (pc' := 28) (t := 46) rfl rfl rfl ic_ne (fun hc => ?_) (fun hc => ?_)
      · replace h := h.2 hc
        refine w_iload_n (pc' := 47) rfl rfl rfl ?_
        refine w_iconst (pc' := 48) rfl rfl (v := 1) rfl ?_
        refine w_br2 (pc' := 51) (t := 63) rfl rfl rfl ic_ne (fun hc => ?_) (fun hc => ?_)
        · replace h := h.2 hc
          refine w_aload_n (pc' := 64) rfl rfl rfl ?_
          refine w_iload_n (pc' := 65) rfl rfl rfl ?_
          refine w_cv (pc' := 68) (cm := xm_Mo_isFull) (as := [.int x3]) (a := 400) (rest := [.int x2]) rfl rfl rfl  (xa_Mo_isFull (Nat.le_of_ble_eq_true rfl)) (show xS0 L 400 = (12, 0) from rfl) rfl (CI.k h fun v2 g2 h => ?_)
          show Wp L xs xm_Mo_honestBy 68 [.ref 400, .int x1, .int x2, .int x3] [.int v2, .int x2] g2 _
          refine w_br (pc' := 71) (t := 77) rfl rfl rfl ic_eq (fun hc => ?_) (fun hc => ?_)
          · replace h := h.1 hc
            refine w_iconst (pc' := 78) rfl rfl (v := 0) rfl ?_
            refine w_ior (pc' := 79) rfl rfl ?_
            refine w_istore_n (pc' := 80) rfl rfl (xl' := [.ref 400, .int x1, .int (x2 ||| 0), .int x3]) rfl ?_
            refine w_iinc (pc' := 83) rfl rfl rfl (v := (x3 + 1)) rfl (xl' := [.ref 400, .int x1, .int (x2 ||| 0), .int (x3 + 1)]) rfl ?_
            refine w_goto (pc' := 4) rfl rfl ?_
            exact h
          · replace h := h.2 hc
            refine w_iconst (pc' := 72) rfl rfl (v := 1) rfl ?_
            refine w_iload_n (pc' := 73) rfl rfl rfl ?_
            refine w_ishl (pc' := 74) rfl rfl ?_
            refine w_goto (pc' := 78) rfl rfl ?_
            refine w_ior (pc' := 79) rfl rfl ?_
            refine w_istore_n (pc' := 80) rfl rfl (xl' := [.ref 400, .int x1, .int (x2 ||| (1 <<< (x3 &&& 31))), .int x3]) rfl ?_
            refine w_iinc (pc' := 83) rfl rfl rfl (v := (x3 + 1)) rfl (xl' := [.ref 400, .int x1, .int (x2 ||| (1 <<< (x3 &&& 31))), .int (x3 + 1)]) rfl ?_
            refine w_goto (pc' := 4) rfl rfl ?_
            exact h
        · replace h := h.1 (Classical.not_not.mp hc)
          refine w_aload_n (pc' := 52) rfl rfl rfl ?_
          have q1 : xR0 400 24 = some 407 ∧ xS0 L 407 = (22, 7) := (kf_12_24 (show xS0 L 400 = (12, 0) from rfl))
          refine w_getR (pc' := 55) rfl rfl rfl rfl (show xS0 L 400 = (12, 0) from rfl) q1.1 ?_
          refine w_iload_n (pc' := 56) rfl rfl rfl ?_
          obtain ⟨k1, ek1, bk1, h⟩ := h
          refine w_baload (pc' := 57) (i := k1) rfl rfl q1.2 (Or.inr rfl) ek1 bk1 (by omega) ?_
          refine w_br (pc' := 60) (t := 77) rfl rfl rfl ic_ne (fun hc => ?_) (fun hc => ?_)
          · replace h := h.2 hc
            refine w_iconst (pc' := 78) rfl rfl (v := 0) rfl ?_
            refine w_ior (pc' := 79) rfl rfl ?_
            refine w_istore_n (pc' := 80) rfl rfl (xl' := [.ref 400, .int x1, .int (x2 ||| 0), .int x3]) rfl ?_
            refine w_iinc (pc' := 83) rfl rfl rfl (v := (x3 + 1)) rfl (xl' := [.ref 400, .int x1, .int (x2 ||| 0), .int (x3 + 1)]) rfl ?_
            refine w_goto (pc' := 4) rfl rfl ?_
            exact h
          · replace h := h.1 (Classical.not_not.mp hc)
            refine w_goto (pc' := 71) rfl rfl ?_
            refine w_iconst (pc' := 72) rfl rfl (v := 1) rfl ?_
            refine w_iload_n (pc' := 73) rfl rfl rfl ?_
            refine w_ishl (pc' := 74) rfl rfl ?_
            refine w_goto (pc' := 78) rfl rfl ?_
            refine w_ior (pc' := 79) rfl rfl ?_
            refine w_istore_n (pc' := 80) rfl rfl (xl' := [.ref 400, .int x1, .int (x2 ||| (1 <<< (x3 &&& 31))), .int x3]) rfl ?_
            refine w_iinc (pc' := 83) rfl rfl rfl (v := (x3 + 1)) rfl (xl' := [.ref 400, .int x1, .int (x2 ||| (1 <<< (x3 &&& 31))), .int (x3 + 1)]) rfl ?_
            refine w_goto (pc' := 4) rfl rfl ?_
            exact h
      · replace h := h.1 (Classical.not_not.mp hc)
        refine w_aload_n (pc' := 29) rfl rfl rfl ?_
        have q2 : xR0 400 26 = some 409 ∧ xS0 L 409 = (20, 7) := (kf_12_26 (show xS0 L 400 = (12, 0) from rfl))
        refine w_getR (pc' := 32) rfl rfl rfl rfl (show xS0 L 400 = (12, 0) from rfl) q2.1 ?_
        refine w_iload_n (pc' := 33) rfl rfl rfl ?_
        obtain ⟨k2, ek2, bk2, h⟩ := h
        refine w_iaload (pc' := 34) (i := k2) rfl rfl q2.2 ek2 bk2 (by omega) ?_
        refine w_aload_n (pc' := 35) rfl rfl rfl ?_
        have q3 : xR0 400 25 = some 408 ∧ xS0 L 408 = (20, 7) := (kf_12_25 (show xS0 L 400 = (12, 0) from rfl))
        refine w_getR (pc' := 38) rfl rfl rfl rfl (show xS0 L 400 = (12, 0) from rfl) q3.1 ?_
        refine w_iload_n (pc' := 39) rfl rfl rfl ?_
        refine w_iaload (pc' := 40) (i := k2) rfl rfl q3.2 ek2 bk2 (by omega) ?_
        refine w_br2 (pc' := 43) (t := 77) rfl rfl rfl ic_ge (fun hc => ?_) (fun hc => ?_)
        · replace h := h.2 hc
          refine w_iconst (pc' := 78) rfl rfl (v := 0) rfl ?_
          refine w_ior (pc' := 79) rfl rfl ?_
          refine w_istore_n (pc' := 80) rfl rfl (xl' := [.ref 400, .int x1, .int (x2 ||| 0), .int x3]) rfl ?_
          refine w_iinc (pc' := 83) rfl rfl rfl (v := (x3 + 1)) rfl (xl' := [.ref 400, .int x1, .int (x2 ||| 0), .int (x3 + 1)]) rfl ?_
          refine w_goto (pc' := 4) rfl rfl ?_
          exact h
        · replace h := h.1 (Classical.not_not.mp hc)
          refine w_goto (pc' := 71) rfl rfl ?_
          refine w_iconst (pc' := 72) rfl rfl (v := 1) rfl ?_
          refine w_iload_n (pc' := 73) rfl rfl rfl ?_
          refine w_ishl (pc' := 74) rfl rfl ?_
          refine w_goto (pc' := 78) rfl rfl ?_
          refine w_ior (pc' := 79) rfl rfl ?_
          refine w_istore_n (pc' := 80) rfl rfl (xl' := [.ref 400, .int x1, .int (x2 ||| (1 <<< (x3 &&& 31))), .int x3]) rfl ?_
          refine w_iinc (pc' := 83) rfl rfl rfl (v := (x3 + 1)) rfl (xl' := [.ref 400, .int x1, .int (x2 ||| (1 <<< (x3 &&& 31))), .int (x3 + 1)]) rfl ?_
          refine w_goto (pc' := 4) rfl rfl ?_
          exact h
    · replace h := h.2 hc
      refine w_goto (pc' := 80) rfl rfl ?_
      refine w_iinc (pc' := 83) rfl rfl rfl (v := (x3 + 1)) rfl (xl' := [.ref 400, .int x1, .int x2, .int (x3 + 1)]) rfl ?_
      refine w_goto (pc' := 4) rfl rfl ?_
      exact h
theorem t_Mo_isFull_0 {L : Nat} {xs : Nat → Int32} {x1 : Int32} {f : Hp} {Q : Int32 → Hp → Prop}  (h : Wp L xs xm_Mo_isFull 4 [.ref 400, .int x1, .int 1, .int 1] [] f (QI Q)) : CI L xs xm_Mo_isFull [.ref 400, .int x1] f Q := by
  show Wp L xs xm_Mo_isFull 0 [.ref 400, .int x1, .retAddr 0, .retAddr 0] [] f (QI Q)
  refine w_iconst (pc' := 1) rfl rfl (v := 1) rfl ?_
  refine w_istore_n (pc' := 2) rfl rfl (xl' := [.ref 400, .int x1, .int 1, .retAddr 0]) rfl ?_
  refine w_iconst (pc' := 3) rfl rfl (v := 1) rfl ?_
  refine w_istore_n (pc' := 4) rfl rfl (xl' := [.ref 400, .int x1, .int 1, .int 1]) rfl ?_
  exact h
theorem t_Mo_isFull_4 {L : Nat} {xs : Nat → Int32} {x1 : Int32} {x2 : Int32} {x3 : Int32} {f : Hp} {Q : Int32 → Hp → Prop}  (h : ((x3 < 13 → ((x2 = 0 → Wp L xs xm_Mo_isFull 4 [.ref 400, .int x1, .int 0, .int (x3 + 1)] [] f (QI Q)) ∧ (¬ x2 = 0 → CI L xs xm_Mo_isWithin [.ref 400, .int x1, .int x3] f (fun v1 g1 => ((v1 = 0 → Wp L xs xm_Mo_isFull 4 [.ref 400, .int x1, .int 1, .int (x3 + 1)] [] g1 (QI Q)) ∧ (¬ v1 = 0 → CI L xs xm_Mo_at [.int x1, .int x3] g1 (fun v2 g2 => ∃ k1 : Nat, v2 = iN k1 ∧ k1 < 91 ∧ (((g2 414 k1) = (-1) → Wp L xs xm_Mo_isFull 4 [.ref 400, .int x1, .int 0, .int (x3 + 1)] [] g2 (QI Q)) ∧ (¬ (g2 414 k1) = (-1) → Wp L xs xm_Mo_isFull 4 [.ref 400, .int x1, .int 1, .int (x3 + 1)] [] g2 (QI Q)))))))))) ∧ (¬ x3 < 13 → (x2 = 0 ∨ x2 = 1) ∧ Q x2 f))) : Wp L xs xm_Mo_isFull 4 [.ref 400, .int x1, .int x2, .int x3] [] f (QI Q) := by
  refine w_iload_n (pc' := 5) rfl rfl rfl ?_
  refine w_bipush (pc' := 7) rfl rfl (v := 13) rfl ?_
  refine w_br2 (pc' := 10) (t := 49) rfl rfl rfl ic_ge (fun hc => ?_) (fun hc => ?_)
  · replace h := h.2 hc
    refine w_iload_n (pc' := 50) rfl rfl rfl ?_
    obtain ⟨q1, h⟩ := h
    exact w_ireturn rfl (xr_bool rfl q1) h
  · replace h := h.1 (Classical.not_not.mp hc)
    refine w_iload_n (pc' := 11) rfl rfl rfl ?_
    refine w_br (pc' := 14) (t := 41) rfl rfl rfl ic_eq (fun hc => ?_) (fun hc => ?_)
    · replace h := h.1 hc
      refine w_iconst (pc' := 42) rfl rfl (v := 0) rfl ?_
      refine w_istore_n (pc' := 43) rfl rfl (xl' := [.ref 400, .int x1, .int 0, .int x3]) rfl ?_
      refine w_iinc (pc' := 46) rfl rfl rfl (v := (x3 + 1)) rfl (xl' := [.ref 400, .int x1, .int 0, .int (x3 + 1)]) rfl ?_
      refine w_goto (pc' := 4) rfl rfl ?_
      exact h
    · replace h := h.2 hc
      refine w_aload_n (pc' := 15) rfl rfl rfl ?_
      refine w_iload_n (pc' := 16) rfl rfl rfl ?_
      refine w_iload_n (pc' := 17) rfl rfl rfl ?_
      refine w_cv (pc' := 20) (cm := xm_Mo_isWithin) (as := [.int x1, .int x3]) (a := 400) (rest := []) rfl rfl rfl  (xa_Mo_isWithin (Nat.le_of_ble_eq_true rfl)) (show xS0 L 400 = (12, 0) from rfl) rfl (CI.k h fun v1 g1 h => ?_)
      show Wp L xs xm_Mo_isFull 20 [.ref 400, .int x1, .int x2, .int x3] [.int v1] g1 _
      refine w_br (pc' := 23) (t := 37) rfl rfl rfl ic_eq (fun hc => ?_) (fun hc => ?_)
      · replace h := h.1 hc
        refine w_iconst (pc' := 38) rfl rfl (v := 1) rfl ?_
        refine w_goto (pc' := 42) rfl rfl ?_
        refine w_istore_n (pc' := 43) rfl rfl (xl' := [.ref 400, .int x1, .int 1, .int x3]) rfl ?_
        refine w_iinc (pc' := 46) rfl rfl rfl (v := (x3 + 1)) rfl (xl' := [.ref 400, .int x1, .int 1, .int (x3 + 1)]) rfl ?_
        refine w_goto (pc' := 4) rfl rfl ?_
        exact h
      · replace h := h.2 hc
        refine w_aload_n (pc' := 24) rfl rfl rfl ?_
        have q2 : xR0 400 31 = some 414 ∧ xS0 L 414 = (20, 91) := (kf_12_31 (show xS0 L 400 = (12, 0) from rfl))
        refine w_getR (pc' := 27) rfl rfl rfl rfl (show xS0 L 400 = (12, 0) from rfl) q2.1 ?_
        refine w_iload_n (pc' := 28) rfl rfl rfl ?_
        refine w_iload_n (pc' := 29) rfl rfl rfl ?_
        refine w_cs (pc' := 32) (cm := xm_Mo_at) (as := [.int x1, .int x3]) (rest := [.ref 414]) rfl rfl rfl (Or.inl rfl) (xa_Mo_at (Nat.le_of_ble_eq_true rfl)) (CI.k h fun v2 g2 h => ?_)
        show Wp L xs xm_Mo_isFull 32 [.ref 400, .int x1, .int x2, .int x3] [.int v2, .ref 414] g2 _
        obtain ⟨k1, ek1, bk1, h⟩ := h
        refine w_iaload (pc' := 33) (i := k1) rfl rfl q2.2 ek1 bk1 (by omega) ?_
        refine w_iconst (pc' := 34) rfl rfl (v := (-1)) rfl ?_
        refine w_br2 (pc' := 37) (t := 41) rfl rfl rfl ic_eq (fun hc => ?_) (fun hc => ?_)
        · replace h := h.1 hc
          refine w_iconst (pc' := 42) rfl rfl (v := 0) rfl ?_
          refine w_istore_n (pc' := 43) rfl rfl (xl' := [.ref 400, .int x1, .int 0, .int x3]) rfl ?_
          refine w_iinc (pc' := 46) rfl rfl rfl (v := (x3 + 1)) rfl (xl' := [.ref 400, .int x1, .int 0, .int (x3 + 1)]) rfl ?_
          refine w_goto (pc' := 4) rfl rfl ?_
          exact h
        · replace h := h.2 hc
          refine w_iconst (pc' := 38) rfl rfl (v := 1) rfl ?_
          refine w_goto (pc' := 42) rfl rfl ?_
          refine w_istore_n (pc' := 43) rfl rfl (xl' := [.ref 400, .int x1, .int 1, .int x3]) rfl ?_
          refine w_iinc (pc' := 46) rfl rfl rfl (v := (x3 + 1)) rfl (xl' := [.ref 400, .int x1, .int 1, .int (x3 + 1)]) rfl ?_
          refine w_goto (pc' := 4) rfl rfl ?_
          exact h
theorem t_Mo_viewsMade_0 {L : Nat} {xs : Nat → Int32}  {f : Hp} {Q : Int32 → Hp → Prop}  (h : Wp L xs xm_Mo_viewsMade 4 [.ref 400, .int 0, .int 0] [] f (QI Q)) : CI L xs xm_Mo_viewsMade [.ref 400] f Q := by
  show Wp L xs xm_Mo_viewsMade 0 [.ref 400, .retAddr 0, .retAddr 0] [] f (QI Q)
  refine w_iconst (pc' := 1) rfl rfl (v := 0) rfl ?_
  refine w_istore_n (pc' := 2) rfl rfl (xl' := [.ref 400, .int 0, .retAddr 0]) rfl ?_
  refine w_iconst (pc' := 3) rfl rfl (v := 0) rfl ?_
  refine w_istore_n (pc' := 4) rfl rfl (xl' := [.ref 400, .int 0, .int 0]) rfl ?_
  exact h
theorem t_Mo_viewsMade_4 {L : Nat} {xs : Nat → Int32} {x1 : Int32} {x2 : Int32} {f : Hp} {Q : Int32 → Hp → Prop}  (h : ((x2 < 10 → ∃ k1 : Nat, x2 = iN k1 ∧ k1 < 10 ∧ (((f 422 k1) = 0 → Wp L xs xm_Mo_viewsMade 4 [.ref 400, .int (x1 ||| 0), .int (x2 + 1)] [] f (QI Q)) ∧ (¬ (f 422 k1) = 0 → Wp L xs xm_Mo_viewsMade 4 [.ref 400, .int (x1 ||| (1 <<< (x2 &&& 31))), .int (x2 + 1)] [] f (QI Q)))) ∧ (¬ x2 < 10 → Q x1 f))) : Wp L xs xm_Mo_viewsMade 4 [.ref 400, .int x1, .int x2] [] f (QI Q) := by
  refine w_iload_n (pc' := 5) rfl rfl rfl ?_
  refine w_bipush (pc' := 7) rfl rfl (v := 10) rfl ?_
  refine w_br2 (pc' := 10) (t := 35) rfl rfl rfl ic_ge (fun hc => ?_) (fun hc => ?_)
  · replace h := h.2 hc
    refine w_iload_n (pc' := 36) rfl rfl rfl ?_
    exact w_ireturn rfl rfl h
  · replace h := h.1 (Classical.not_not.mp hc)
    refine w_iload_n (pc' := 11) rfl rfl rfl ?_
    refine w_aload_n (pc' := 12) rfl rfl rfl ?_
    have q1 : xR0 400 39 = some 422 ∧ xS0 L 422 = (22, 10) := (kf_12_39 (show xS0 L 400 = (12, 0) from rfl))
    refine w_getR (pc' := 15) rfl rfl rfl rfl (show xS0 L 400 = (12, 0) from rfl) q1.1 ?_
    refine w_iload_n (pc' := 16) rfl rfl rfl ?_
    obtain ⟨k1, ek1, bk1, h⟩ := h
    refine w_baload (pc' := 17) (i := k1) rfl rfl q1.2 (Or.inr rfl) ek1 bk1 (by omega) ?_
    refine w_br (pc' := 20) (t := 26) rfl rfl rfl ic_eq (fun hc => ?_) (fun hc => ?_)
    · replace h := h.1 hc
      refine w_iconst (pc' := 27) rfl rfl (v := 0) rfl ?_
      refine w_ior (pc' := 28) rfl rfl ?_
      refine w_istore_n (pc' := 29) rfl rfl (xl' := [.ref 400, .int (x1 ||| 0), .int x2]) rfl ?_
      refine w_iinc (pc' := 32) rfl rfl rfl (v := (x2 + 1)) rfl (xl' := [.ref 400, .int (x1 ||| 0), .int (x2 + 1)]) rfl ?_
      refine w_goto (pc' := 4) rfl rfl ?_
      exact h
    · replace h := h.2 hc
      refine w_iconst (pc' := 21) rfl rfl (v := 1) rfl ?_
      refine w_iload_n (pc' := 22) rfl rfl rfl ?_
      refine w_ishl (pc' := 23) rfl rfl ?_
      refine w_goto (pc' := 27) rfl rfl ?_
      refine w_ior (pc' := 28) rfl rfl ?_
      refine w_istore_n (pc' := 29) rfl rfl (xl' := [.ref 400, .int (x1 ||| (1 <<< (x2 &&& 31))), .int x2]) rfl ?_
      refine w_iinc (pc' := 32) rfl rfl rfl (v := (x2 + 1)) rfl (xl' := [.ref 400, .int (x1 ||| (1 <<< (x2 &&& 31))), .int (x2 + 1)]) rfl ?_
      refine w_goto (pc' := 4) rfl rfl ?_
      exact h
theorem t_Mo_certainOf_0 {L : Nat} {xs : Nat → Int32}  {f : Hp} {Q : Int32 → Hp → Prop}  (h : Wp L xs xm_Mo_certainOf 4 [.ref 400, .int 0, .int 1, .retAddr 0, .retAddr 0, .retAddr 0] [] f (QI Q)) : CI L xs xm_Mo_certainOf [.ref 400] f Q := by
  show Wp L xs xm_Mo_certainOf 0 [.ref 400, .retAddr 0, .retAddr 0, .retAddr 0, .retAddr 0, .retAddr 0] [] f (QI Q)
  refine w_iconst (pc' := 1) rfl rfl (v := 0) rfl ?_
  refine w_istore_n (pc' := 2) rfl rfl (xl' := [.ref 400, .int 0, .retAddr 0, .retAddr 0, .retAddr 0, .retAddr 0]) rfl ?_
  refine w_iconst (pc' := 3) rfl rfl (v := 1) rfl ?_
  refine w_istore_n (pc' := 4) rfl rfl (xl' := [.ref 400, .int 0, .int 1, .retAddr 0, .retAddr 0, .retAddr 0]) rfl ?_
  exact h
theorem t_Mo_certainOf_4 {L : Nat} {xs : Nat → Int32} {x1 : Int32} {x2 : Int32} {x3 : Value} {x4 : Value} {x5 : Value} {f : Hp} {Q : Int32 → Hp → Prop} (cx3 : (x3.category != 2) = true) (cx4 : (x4.category != 2) = true) (cx5 : (x5.category != 2) = true) (h : ((x2 < 13 → Wp L xs xm_Mo_certainOf 12 [.ref 400, .int x1, .int x2, .int 0, x4, x5] [] f (QI Q)) ∧ (¬ x2 < 13 → Q x1 f))) : Wp L xs xm_Mo_certainOf 4 [.ref 400, .int x1, .int x2, x3, x4, x5] [] f (QI Q) := by
  refine w_iload_n (pc' := 5) rfl rfl rfl ?_
  refine w_bipush (pc' := 7) rfl rfl (v := 13) rfl ?_
  refine w_br2 (pc' := 10) (t := 164) rfl rfl rfl ic_ge (fun hc => ?_) (fun hc => ?_)
  · replace h := h.2 hc
    refine w_iload_n (pc' := 165) rfl rfl rfl ?_
    exact w_ireturn rfl rfl h
  · replace h := h.1 (Classical.not_not.mp hc)
    refine w_iconst (pc' := 11) rfl rfl (v := 0) rfl ?_
    refine w_istore_n (pc' := 12) rfl rfl (xl' := [.ref 400, .int x1, .int x2, .int 0, x4, x5]) rfl ?_
    exact h
theorem t_Mo_certainOf_12 {L : Nat} {xs : Nat → Int32} {x1 : Int32} {x2 : Int32} {x3 : Int32} {x4 : Value} {x5 : Value} {f : Hp} {Q : Int32 → Hp → Prop} (cx4 : (x4.category != 2) = true) (cx5 : (x5.category != 2) = true) (h : ((x3 < (f 400 13) → CI L xs xm_Mo_isLiar [.ref 400, .int x3] f (fun v1 g1 => ((v1 = 0 → CI L xs xm_Mo_at [.int x3, .int x2] g1 (fun v2 g2 => ∃ k1 : Nat, v2 = iN k1 ∧ k1 < 91 ∧ (((g2 417 k1) = (-1) → Wp L xs xm_Mo_certainOf 12 [.ref 400, .int x1, .int x2, .int (x3 + 1), x4, x5] [] g2 (QI Q)) ∧ (¬ (g2 417 k1) = (-1) → Wp L xs xm_Mo_certainOf 51 [.ref 400, .int x1, .int x2, .int x3, .int 0, .int 0] [] g2 (QI Q))))) ∧ (¬ v1 = 0 → Wp L xs xm_Mo_certainOf 12 [.ref 400, .int x1, .int x2, .int (x3 + 1), x4, x5] [] g1 (QI Q))))) ∧ (¬ x3 < (f 400 13) → Wp L xs xm_Mo_certainOf 4 [.ref 400, .int x1, .int (x2 + 1), .int x3, x4, x5] [] f (QI Q)))) : Wp L xs xm_Mo_certainOf 12 [.ref 400, .int x1, .int x2, .int x3, x4, x5] [] f (QI Q) := by
  refine w_iload_n (pc' := 13) rfl rfl rfl ?_
  refine w_aload_n (pc' := 14) rfl rfl rfl ?_
  refine w_getI (pc' := 17) rfl rfl rfl rfl rfl (show xS0 L 400 = (12, 0) from rfl) ?_
  refine w_br2 (pc' := 20) (t := 158) rfl rfl rfl ic_ge (fun hc => ?_) (fun hc => ?_)
  · replace h := h.2 hc
    refine w_iinc (pc' := 161) rfl rfl rfl (v := (x2 + 1)) rfl (xl' := [.ref 400, .int x1, .int (x2 + 1), .int x3, x4, x5]) rfl ?_
    refine w_goto (pc' := 4) rfl rfl ?_
    exact h
  · replace h := h.1 (Classical.not_not.mp hc)
    refine w_aload_n (pc' := 21) rfl rfl rfl ?_
    refine w_iload_n (pc' := 22) rfl rfl rfl ?_
    refine w_cv (pc' := 25) (cm := xm_Mo_isLiar) (as := [.int x3]) (a := 400) (rest := []) rfl rfl rfl  (xa_Mo_isLiar (Nat.le_of_ble_eq_true rfl)) (show xS0 L 400 = (12, 0) from rfl) rfl (CI.k h fun v1 g1 h => ?_)
    show Wp L xs xm_Mo_certainOf 25 [.ref 400, .int x1, .int x2, .int x3, x4, x5] [.int v1] g1 _
    refine w_br (pc' := 28) (t := 152) rfl rfl rfl ic_ne (fun hc => ?_) (fun hc => ?_)
    · replace h := h.2 hc
      refine w_iinc (pc' := 155) rfl rfl rfl (v := (x3 + 1)) rfl (xl' := [.ref 400, .int x1, .int x2, .int (x3 + 1), x4, x5]) rfl ?_
      refine w_goto (pc' := 12) rfl rfl ?_
      exact h
    · replace h := h.1 (Classical.not_not.mp hc)
      refine w_aload_n (pc' := 29) rfl rfl rfl ?_
      have q1 : xR0 400 34 = some 417 ∧ xS0 L 417 = (20, 91) := (kf_12_34 (show xS0 L 400 = (12, 0) from rfl))
      refine w_getR (pc' := 32) rfl rfl rfl rfl (show xS0 L 400 = (12, 0) from rfl) q1.1 ?_
      refine w_iload_n (pc' := 33) rfl rfl rfl ?_
      refine w_iload_n (pc' := 34) rfl rfl rfl ?_
      refine w_cs (pc' := 37) (cm := xm_Mo_at) (as := [.int x3, .int x2]) (rest := [.ref 417]) rfl rfl rfl (Or.inl rfl) (xa_Mo_at (Nat.le_of_ble_eq_true rfl)) (CI.k h fun v2 g2 h => ?_)
      show Wp L xs xm_Mo_certainOf 37 [.ref 400, .int x1, .int x2, .int x3, x4, x5] [.int v2, .ref 417] g2 _
      obtain ⟨k1, ek1, bk1, h⟩ := h
      refine w_iaload (pc' := 38) (i := k1) rfl rfl q1.2 ek1 bk1 (by omega) ?_
      refine w_iconst (pc' := 39) rfl rfl (v := (-1)) rfl ?_
      refine w_br2 (pc' := 42) (t := 45) rfl rfl rfl ic_ne (fun hc => ?_) (fun hc => ?_)
      · replace h := h.2 hc
        refine w_iconst (pc' := 46) rfl rfl (v := 0) rfl ?_
        refine w_istore (pc' := 48) rfl rfl (xl' := [.ref 400, .int x1, .int x2, .int x3, .int 0, x5]) rfl ?_
        refine w_iconst (pc' := 49) rfl rfl (v := 0) rfl ?_
        refine w_istore (pc' := 51) rfl rfl (xl' := [.ref 400, .int x1, .int x2, .int x3, .int 0, .int 0]) rfl ?_
        exact h
      · replace h := h.1 (Classical.not_not.mp hc)
        refine w_goto (pc' := 152) rfl rfl ?_
        refine w_iinc (pc' := 155) rfl rfl rfl (v := (x3 + 1)) rfl (xl' := [.ref 400, .int x1, .int x2, .int (x3 + 1), x4, x5]) rfl ?_
        refine w_goto (pc' := 12) rfl rfl ?_
        exact h
theorem t_Mo_certainOf_51 {L : Nat} {xs : Nat → Int32} {x1 : Int32} {x2 : Int32} {x3 : Int32} {x4 : Int32} {x5 : Int32} {f : Hp} {Q : Int32 → Hp → Prop}  (h : ((x5 < (f 400 13) → CI L xs xm_Mo_isLiar [.ref 400, .int x5] f (fun v1 g1 => ((v1 = 0 → CI L xs xm_Mo_at [.int x5, .int x2] g1 (fun v2 g2 => ∃ k1 : Nat, v2 = iN k1 ∧ k1 < 91 ∧ CI L xs xm_Mo_at [.int x3, .int x2] g2 (fun v3 g3 => ∃ k2 : Nat, v3 = iN k2 ∧ k2 < 91 ∧ (((g2 417 k1) = (g3 417 k2) → CI L xs xm_Mo_at [.int x5, .int x2] g3 (fun v4 g4 => ∃ k3 : Nat, v4 = iN k3 ∧ k3 < 91 ∧ CI L xs xm_Mo_at [.int x3, .int x2] g4 (fun v5 g5 => ∃ k4 : Nat, v5 = iN k4 ∧ k4 < 91 ∧ (((g4 418 k3) = (g5 418 k4) → Wp L xs xm_Mo_certainOf 51 [.ref 400, .int x1, .int x2, .int x3, .int (x4 + 1), .int (x5 + 1)] [] g5 (QI Q)) ∧ (¬ (g4 418 k3) = (g5 418 k4) → Wp L xs xm_Mo_certainOf 51 [.ref 400, .int x1, .int x2, .int x3, .int (x4 + 0), .int (x5 + 1)] [] g5 (QI Q)))))) ∧ (¬ (g2 417 k1) = (g3 417 k2) → Wp L xs xm_Mo_certainOf 51 [.ref 400, .int x1, .int x2, .int x3, .int (x4 + 0), .int (x5 + 1)] [] g3 (QI Q)))))) ∧ (¬ v1 = 0 → Wp L xs xm_Mo_certainOf 51 [.ref 400, .int x1, .int x2, .int x3, .int (x4 + 0), .int (x5 + 1)] [] g1 (QI Q))))) ∧ (¬ x5 < (f 400 13) → (((f 400 12) < x4 → Wp L xs xm_Mo_certainOf 12 [.ref 400, .int (x1 ||| (1 <<< (x2 &&& 31))), .int x2, .int (x3 + 1), .int x4, .int x5] [] f (QI Q)) ∧ (¬ (f 400 12) < x4 → Wp L xs xm_Mo_certainOf 12 [.ref 400, .int (x1 ||| 0), .int x2, .int (x3 + 1), .int x4, .int x5] [] f (QI Q)))))) : Wp L xs xm_Mo_certainOf 51 [.ref 400, .int x1, .int x2, .int x3, .int x4, .int x5] [] f (QI Q) := by
  refine w_iload (pc' := 53) rfl rfl rfl ?_
  refine w_aload_n (pc' := 54) rfl rfl rfl ?_
  refine w_getI (pc' := 57) rfl rfl rfl rfl rfl (show xS0 L 400 = (12, 0) from rfl) ?_
  refine w_br2 (pc' := 60) (t := 133) rfl rfl rfl ic_ge (fun hc => ?_) (fun hc => ?_)
  · replace h := h.2 hc
    refine w_iload_n (pc' := 134) rfl rfl rfl ?_
    refine w_iload (pc' := 136) rfl rfl rfl ?_
    refine w_aload_n (pc' := 137) rfl rfl rfl ?_
    refine w_getI (pc' := 140) rfl rfl rfl rfl rfl (show xS0 L 400 = (12, 0) from rfl) ?_
    refine w_br2 (pc' := 143) (t := 149) rfl rfl rfl ic_le (fun hc => ?_) (fun hc => ?_)
    · replace h := h.2 hc
      refine w_iconst (pc' := 150) rfl rfl (v := 0) rfl ?_
      refine w_ior (pc' := 151) rfl rfl ?_
      refine w_istore_n (pc' := 152) rfl rfl (xl' := [.ref 400, .int (x1 ||| 0), .int x2, .int x3, .int x4, .int x5]) rfl ?_
      refine w_iinc (pc' := 155) rfl rfl rfl (v := (x3 + 1)) rfl (xl' := [.ref 400, .int (x1 ||| 0), .int x2, .int (x3 + 1), .int x4, .int x5]) rfl ?_
      refine w_goto (pc' := 12) rfl rfl ?_
      exact h
    · replace h := h.1 (Classical.not_not.mp hc)
      refine w_iconst (pc' := 144) rfl rfl (v := 1) rfl ?_
      refine w_iload_n (pc' := 145) rfl rfl rfl ?_
      refine w_ishl (pc' := 146) rfl rfl ?_
      refine w_goto (pc' := 150) rfl rfl ?_
      refine w_ior (pc' := 151) rfl rfl ?_
      refine w_istore_n (pc' := 152) rfl rfl (xl' := [.ref 400, .int (x1 ||| (1 <<< (x2 &&& 31))), .int x2, .int x3, .int x4, .int x5]) rfl ?_
      refine w_iinc (pc' := 155) rfl rfl rfl (v := (x3 + 1)) rfl (xl' := [.ref 400, .int (x1 ||| (1 <<< (x2 &&& 31))), .int x2, .int (x3 + 1), .int x4, .int x5]) rfl ?_
      refine w_goto (pc' := 12) rfl rfl ?_
      exact h
  · replace h := h.1 (Classical.not_not.mp hc)
    refine w_iload (pc' := 62) rfl rfl rfl ?_
    refine w_aload_n (pc' := 63) rfl rfl rfl ?_
    refine w_iload (pc' := 65) rfl rfl rfl ?_
    refine w_cv (pc' := 68) (cm := xm_Mo_isLiar) (as := [.int x5]) (a := 400) (rest := [.int x4]) rfl rfl rfl  (xa_Mo_isLiar (Nat.le_of_ble_eq_true rfl)) (show xS0 L 400 = (12, 0) from rfl) rfl (CI.k h fun v1 g1 h => ?_)
    show Wp L xs xm_Mo_certainOf 68 [.ref 400, .int x1, .int x2, .int x3, .int x4, .int x5] [.int v1, .int x4] g1 _
    refine w_br (pc' := 71) (t := 123) rfl rfl rfl ic_ne (fun hc => ?_) (fun hc => ?_)
    · replace h := h.2 hc
      refine w_iconst (pc' := 124) rfl rfl (v := 0) rfl ?_
      refine w_iadd (pc' := 125) rfl rfl ?_
      refine w_istore (pc' := 127) rfl rfl (xl' := [.ref 400, .int x1, .int x2, .int x3, .int (x4 + 0), .int x5]) rfl ?_
      refine w_iinc (pc' := 130) rfl rfl rfl (v := (x5 + 1)) rfl (xl' := [.ref 400, .int x1, .int x2, .int x3, .int (x4 + 0), .int (x5 + 1)]) rfl ?_
      refine w_goto (pc' := 51) rfl rfl ?_
      exact h
    · replace h := h.1 (Classical.not_not.mp hc)
      refine w_aload_n (pc' := 72) rfl rfl rfl ?_
      have q1 : xR0 400 34 = some 417 ∧ xS0 L 417 = (20, 91) := (kf_12_34 (show xS0 L 400 = (12, 0) from rfl))
      refine w_getR (pc' := 75) rfl rfl rfl rfl (show xS0 L 400 = (12, 0) from rfl) q1.1 ?_
      refine w_iload (pc' := 77) rfl rfl rfl ?_
      refine w_iload_n (pc' := 78) rfl rfl rfl ?_
      refine w_cs (pc' := 81) (cm := xm_Mo_at) (as := [.int x5, .int x2]) (rest := [.ref 417, .int x4]) rfl rfl rfl (Or.inl rfl) (xa_Mo_at (Nat.le_of_ble_eq_true rfl)) (CI.k h fun v2 g2 h => ?_)
      show Wp L xs xm_Mo_certainOf 81 [.ref 400, .int x1, .int x2, .int x3, .int x4, .int x5] [.int v2, .ref 417, .int x4] g2 _
      obtain ⟨k1, ek1, bk1, h⟩ := h
      refine w_iaload (pc' := 82) (i := k1) rfl rfl q1.2 ek1 bk1 (by omega) ?_
      refine w_aload_n (pc' := 83) rfl rfl rfl ?_
      have q2 : xR0 400 34 = some 417 ∧ xS0 L 417 = (20, 91) := (kf_12_34 (show xS0 L 400 = (12, 0) from rfl))
      refine w_getR (pc' := 86) rfl rfl rfl rfl (show xS0 L 400 = (12, 0) from rfl) q2.1 ?_
      refine w_iload_n (pc' := 87) rfl rfl rfl ?_
      refine w_iload_n (pc' := 88) rfl rfl rfl ?_
      refine w_cs (pc' := 91) (cm := xm_Mo_at) (as := [.int x3, .int x2]) (rest := [.ref 417, .int (g2 417 k1), .int x4]) rfl rfl rfl (Or.inl rfl) (xa_Mo_at (Nat.le_of_ble_eq_true rfl)) (CI.k h fun v3 g3 h => ?_)
      show Wp L xs xm_Mo_certainOf 91 [.ref 400, .int x1, .int x2, .int x3, .int x4, .int x5] [.int v3, .ref 417, .int (g2 417 k1), .int x4] g3 _
      obtain ⟨k2, ek2, bk2, h⟩ := h
      refine w_iaload (pc' := 92) (i := k2) rfl rfl q2.2 ek2 bk2 (by omega) ?_
      refine w_br2 (pc' := 95) (t := 123) rfl rfl rfl ic_ne (fun hc => ?_) (fun hc => ?_)
      · replace h := h.2 hc
        refine w_iconst (pc' := 124) rfl rfl (v := 0) rfl ?_
        refine w_iadd (pc' := 125) rfl rfl ?_
        refine w_istore (pc' := 127) rfl rfl (xl' := [.ref 400, .int x1, .int x2, .int x3, .int (x4 + 0), .int x5]) rfl ?_
        refine w_iinc (pc' := 130) rfl rfl rfl (v := (x5 + 1)) rfl (xl' := [.ref 400, .int x1, .int x2, .int x3, .int (x4 + 0), .int (x5 + 1)]) rfl ?_
        refine w_goto (pc' := 51) rfl rfl ?_
        exact h
      · replace h := h.1 (Classical.not_not.mp hc)
        refine w_aload_n (pc' := 96) rfl rfl rfl ?_
        have q3 : xR0 400 35 = some 418 ∧ xS0 L 418 = (20, 91) := (kf_12_35 (show xS0 L 400 = (12, 0) from rfl))
        refine w_getR (pc' := 99) rfl rfl rfl rfl (show xS0 L 400 = (12, 0) from rfl) q3.1 ?_
        refine w_iload (pc' := 101) rfl rfl rfl ?_
        refine w_iload_n (pc' := 102) rfl rfl rfl ?_
        refine w_cs (pc' := 105) (cm := xm_Mo_at) (as := [.int x5, .int x2]) (rest := [.ref 418, .int x4]) rfl rfl rfl (Or.inl rfl) (xa_Mo_at (Nat.le_of_ble_eq_true rfl)) (CI.k h fun v4 g4 h => ?_)
        show Wp L xs xm_Mo_certainOf 105 [.ref 400, .int x1, .int x2, .int x3, .int x4, .int x5] [.int v4, .ref 418, .int x4] g4 _
        obtain ⟨k3, ek3, bk3, h⟩ := h
        refine w_iaload (pc' := 106) (i := k3) rfl rfl q3.2 ek3 bk3 (by omega) ?_
        refine w_aload_n (pc' := 107) rfl rfl rfl ?_
        have q4 : xR0 400 35 = some 418 ∧ xS0 L 418 = (20, 91) := (kf_12_35 (show xS0 L 400 = (12, 0) from rfl))
        refine w_getR (pc' := 110) rfl rfl rfl rfl (show xS0 L 400 = (12, 0) from rfl) q4.1 ?_
        refine w_iload_n (pc' := 111) rfl rfl rfl ?_
        refine w_iload_n (pc' := 112) rfl rfl rfl ?_
        refine w_cs (pc' := 115) (cm := xm_Mo_at) (as := [.int x3, .int x2]) (rest := [.ref 418, .int (g4 418 k3), .int x4]) rfl rfl rfl (Or.inl rfl) (xa_Mo_at (Nat.le_of_ble_eq_true rfl)) (CI.k h fun v5 g5 h => ?_)
        show Wp L xs xm_Mo_certainOf 115 [.ref 400, .int x1, .int x2, .int x3, .int x4, .int x5] [.int v5, .ref 418, .int (g4 418 k3), .int x4] g5 _
        obtain ⟨k4, ek4, bk4, h⟩ := h
        refine w_iaload (pc' := 116) (i := k4) rfl rfl q4.2 ek4 bk4 (by omega) ?_
        refine w_br2 (pc' := 119) (t := 123) rfl rfl rfl ic_ne (fun hc => ?_) (fun hc => ?_)
        · replace h := h.2 hc
          refine w_iconst (pc' := 124) rfl rfl (v := 0) rfl ?_
          refine w_iadd (pc' := 125) rfl rfl ?_
          refine w_istore (pc' := 127) rfl rfl (xl' := [.ref 400, .int x1, .int x2, .int x3, .int (x4 + 0), .int x5]) rfl ?_
          refine w_iinc (pc' := 130) rfl rfl rfl (v := (x5 + 1)) rfl (xl' := [.ref 400, .int x1, .int x2, .int x3, .int (x4 + 0), .int (x5 + 1)]) rfl ?_
          refine w_goto (pc' := 51) rfl rfl ?_
          exact h
        · replace h := h.1 (Classical.not_not.mp hc)
          refine w_iconst (pc' := 120) rfl rfl (v := 1) rfl ?_
          refine w_goto (pc' := 124) rfl rfl ?_
          refine w_iadd (pc' := 125) rfl rfl ?_
          refine w_istore (pc' := 127) rfl rfl (xl' := [.ref 400, .int x1, .int x2, .int x3, .int (x4 + 1), .int x5]) rfl ?_
          refine w_iinc (pc' := 130) rfl rfl rfl (v := (x5 + 1)) rfl (xl' := [.ref 400, .int x1, .int x2, .int x3, .int (x4 + 1), .int (x5 + 1)]) rfl ?_
          refine w_goto (pc' := 51) rfl rfl ?_
          exact h
theorem t_Mo_wordsOf_0 {L : Nat} {xs : Nat → Int32}  {f : Hp} {Q : Int32 → Hp → Prop}  (h : Wp L xs xm_Mo_wordsOf 4 [.ref 400, .int 0, .int 0, .retAddr 0] [] f (QI Q)) : CI L xs xm_Mo_wordsOf [.ref 400] f Q := by
  show Wp L xs xm_Mo_wordsOf 0 [.ref 400, .retAddr 0, .retAddr 0, .retAddr 0] [] f (QI Q)
  refine w_iconst (pc' := 1) rfl rfl (v := 0) rfl ?_
  refine w_istore_n (pc' := 2) rfl rfl (xl' := [.ref 400, .int 0, .retAddr 0, .retAddr 0]) rfl ?_
  refine w_iconst (pc' := 3) rfl rfl (v := 0) rfl ?_
  refine w_istore_n (pc' := 4) rfl rfl (xl' := [.ref 400, .int 0, .int 0, .retAddr 0]) rfl ?_
  exact h
theorem t_Mo_wordsOf_4 {L : Nat} {xs : Nat → Int32} {x1 : Int32} {x2 : Int32} {x3 : Value} {f : Hp} {Q : Int32 → Hp → Prop} (cx3 : (x3.category != 2) = true) (h : ((x2 < (f 400 13) → Wp L xs xm_Mo_wordsOf 14 [.ref 400, .int x1, .int x2, .int 1] [] f (QI Q)) ∧ (¬ x2 < (f 400 13) → Q x1 f))) : Wp L xs xm_Mo_wordsOf 4 [.ref 400, .int x1, .int x2, x3] [] f (QI Q) := by
  refine w_iload_n (pc' := 5) rfl rfl rfl ?_
  refine w_aload_n (pc' := 6) rfl rfl rfl ?_
  refine w_getI (pc' := 9) rfl rfl rfl rfl rfl (show xS0 L 400 = (12, 0) from rfl) ?_
  refine w_br2 (pc' := 12) (t := 88) rfl rfl rfl ic_ge (fun hc => ?_) (fun hc => ?_)
  · replace h := h.2 hc
    refine w_iload_n (pc' := 89) rfl rfl rfl ?_
    exact w_ireturn rfl rfl h
  · replace h := h.1 (Classical.not_not.mp hc)
    refine w_iconst (pc' := 13) rfl rfl (v := 1) rfl ?_
    refine w_istore_n (pc' := 14) rfl rfl (xl' := [.ref 400, .int x1, .int x2, .int 1]) rfl ?_
    exact h
theorem t_Mo_wordsOf_14 {L : Nat} {xs : Nat → Int32} {x1 : Int32} {x2 : Int32} {x3 : Int32} {f : Hp} {Q : Int32 → Hp → Prop}  (h : ((x3 < 13 → CI L xs xm_Mo_isLiar [.ref 400, .int x2] f (fun v1 g1 => ((v1 = 0 → CI L xs xm_Mo_at [.int x2, .int x3] g1 (fun v2 g2 => ∃ k1 : Nat, v2 = iN k1 ∧ k1 < 91 ∧ (((g2 414 k1) = (-1) → Wp L xs xm_Mo_wordsOf 14 [.ref 400, .int (x1 + 0), .int x2, .int (x3 + 1)] [] g2 (QI Q)) ∧ (¬ (g2 414 k1) = (-1) → CI L xs xm_Mo_at [.int x2, .int x3] g2 (fun v3 g3 => ∃ k2 : Nat, v3 = iN k2 ∧ k2 < 91 ∧ CI L xs xm_Mo_bitsOf [.int (g3 415 k2)] g3 (fun v4 g4 => CI L xs xm_Mo_at [.int x2, .int x3] g4 (fun v5 g5 => ∃ k3 : Nat, v5 = iN k3 ∧ k3 < 91 ∧ CI L xs xm_Mo_bitsOf [.int (g5 416 k3)] g5 (fun v6 g6 => Wp L xs xm_Mo_wordsOf 14 [.ref 400, .int (x1 + (v4 + v6)), .int x2, .int (x3 + 1)] [] g6 (QI Q))))))))) ∧ (¬ v1 = 0 → Wp L xs xm_Mo_wordsOf 14 [.ref 400, .int (x1 + 0), .int x2, .int (x3 + 1)] [] g1 (QI Q))))) ∧ (¬ x3 < 13 → Wp L xs xm_Mo_wordsOf 4 [.ref 400, .int x1, .int (x2 + 1), .int x3] [] f (QI Q)))) : Wp L xs xm_Mo_wordsOf 14 [.ref 400, .int x1, .int x2, .int x3] [] f (QI Q) := by
  refine w_iload_n (pc' := 15) rfl rfl rfl ?_
  refine w_bipush (pc' := 17) rfl rfl (v := 13) rfl ?_
  refine w_br2 (pc' := 20) (t := 82) rfl rfl rfl ic_ge (fun hc => ?_) (fun hc => ?_)
  · replace h := h.2 hc
    refine w_iinc (pc' := 85) rfl rfl rfl (v := (x2 + 1)) rfl (xl' := [.ref 400, .int x1, .int (x2 + 1), .int x3]) rfl ?_
    refine w_goto (pc' := 4) rfl rfl ?_
    exact h
  · replace h := h.1 (Classical.not_not.mp hc)
    refine w_iload_n (pc' := 21) rfl rfl rfl ?_
    refine w_aload_n (pc' := 22) rfl rfl rfl ?_
    refine w_iload_n (pc' := 23) rfl rfl rfl ?_
    refine w_cv (pc' := 26) (cm := xm_Mo_isLiar) (as := [.int x2]) (a := 400) (rest := [.int x1]) rfl rfl rfl  (xa_Mo_isLiar (Nat.le_of_ble_eq_true rfl)) (show xS0 L 400 = (12, 0) from rfl) rfl (CI.k h fun v1 g1 h => ?_)
    show Wp L xs xm_Mo_wordsOf 26 [.ref 400, .int x1, .int x2, .int x3] [.int v1, .int x1] g1 _
    refine w_br (pc' := 29) (t := 43) rfl rfl rfl ic_ne (fun hc => ?_) (fun hc => ?_)
    · replace h := h.2 hc
      refine w_iconst (pc' := 44) rfl rfl (v := 0) rfl ?_
      refine w_goto (pc' := 74) rfl rfl ?_
      refine w_iadd (pc' := 75) rfl rfl ?_
      refine w_istore_n (pc' := 76) rfl rfl (xl' := [.ref 400, .int (x1 + 0), .int x2, .int x3]) rfl ?_
      refine w_iinc (pc' := 79) rfl rfl rfl (v := (x3 + 1)) rfl (xl' := [.ref 400, .int (x1 + 0), .int x2, .int (x3 + 1)]) rfl ?_
      refine w_goto (pc' := 14) rfl rfl ?_
      exact h
    · replace h := h.1 (Classical.not_not.mp hc)
      refine w_aload_n (pc' := 30) rfl rfl rfl ?_
      have q1 : xR0 400 31 = some 414 ∧ xS0 L 414 = (20, 91) := (kf_12_31 (show xS0 L 400 = (12, 0) from rfl))
      refine w_getR (pc' := 33) rfl rfl rfl rfl (show xS0 L 400 = (12, 0) from rfl) q1.1 ?_
      refine w_iload_n (pc' := 34) rfl rfl rfl ?_
      refine w_iload_n (pc' := 35) rfl rfl rfl ?_
      refine w_cs (pc' := 38) (cm := xm_Mo_at) (as := [.int x2, .int x3]) (rest := [.ref 414, .int x1]) rfl rfl rfl (Or.inl rfl) (xa_Mo_at (Nat.le_of_ble_eq_true rfl)) (CI.k h fun v2 g2 h => ?_)
      show Wp L xs xm_Mo_wordsOf 38 [.ref 400, .int x1, .int x2, .int x3] [.int v2, .ref 414, .int x1] g2 _
      obtain ⟨k1, ek1, bk1, h⟩ := h
      refine w_iaload (pc' := 39) (i := k1) rfl rfl q1.2 ek1 bk1 (by omega) ?_
      refine w_iconst (pc' := 40) rfl rfl (v := (-1)) rfl ?_
      refine w_br2 (pc' := 43) (t := 47) rfl rfl rfl ic_ne (fun hc => ?_) (fun hc => ?_)
      · replace h := h.2 hc
        refine w_aload_n (pc' := 48) rfl rfl rfl ?_
        have q2 : xR0 400 32 = some 415 ∧ xS0 L 415 = (20, 91) := (kf_12_32 (show xS0 L 400 = (12, 0) from rfl))
        refine w_getR (pc' := 51) rfl rfl rfl rfl (show xS0 L 400 = (12, 0) from rfl) q2.1 ?_
        refine w_iload_n (pc' := 52) rfl rfl rfl ?_
        refine w_iload_n (pc' := 53) rfl rfl rfl ?_
        refine w_cs (pc' := 56) (cm := xm_Mo_at) (as := [.int x2, .int x3]) (rest := [.ref 415, .int x1]) rfl rfl rfl (Or.inl rfl) (xa_Mo_at (Nat.le_of_ble_eq_true rfl)) (CI.k h fun v3 g3 h => ?_)
        show Wp L xs xm_Mo_wordsOf 56 [.ref 400, .int x1, .int x2, .int x3] [.int v3, .ref 415, .int x1] g3 _
        obtain ⟨k2, ek2, bk2, h⟩ := h
        refine w_iaload (pc' := 57) (i := k2) rfl rfl q2.2 ek2 bk2 (by omega) ?_
        refine w_cs (pc' := 60) (cm := xm_Mo_bitsOf) (as := [.int (g3 415 k2)]) (rest := [.int x1]) rfl rfl rfl (Or.inl rfl) (xa_Mo_bitsOf (Nat.le_of_ble_eq_true rfl)) (CI.k h fun v4 g4 h => ?_)
        show Wp L xs xm_Mo_wordsOf 60 [.ref 400, .int x1, .int x2, .int x3] [.int v4, .int x1] g4 _
        refine w_aload_n (pc' := 61) rfl rfl rfl ?_
        have q3 : xR0 400 33 = some 416 ∧ xS0 L 416 = (20, 91) := (kf_12_33 (show xS0 L 400 = (12, 0) from rfl))
        refine w_getR (pc' := 64) rfl rfl rfl rfl (show xS0 L 400 = (12, 0) from rfl) q3.1 ?_
        refine w_iload_n (pc' := 65) rfl rfl rfl ?_
        refine w_iload_n (pc' := 66) rfl rfl rfl ?_
        refine w_cs (pc' := 69) (cm := xm_Mo_at) (as := [.int x2, .int x3]) (rest := [.ref 416, .int v4, .int x1]) rfl rfl rfl (Or.inl rfl) (xa_Mo_at (Nat.le_of_ble_eq_true rfl)) (CI.k h fun v5 g5 h => ?_)
        show Wp L xs xm_Mo_wordsOf 69 [.ref 400, .int x1, .int x2, .int x3] [.int v5, .ref 416, .int v4, .int x1] g5 _
        obtain ⟨k3, ek3, bk3, h⟩ := h
        refine w_iaload (pc' := 70) (i := k3) rfl rfl q3.2 ek3 bk3 (by omega) ?_
        refine w_cs (pc' := 73) (cm := xm_Mo_bitsOf) (as := [.int (g5 416 k3)]) (rest := [.int v4, .int x1]) rfl rfl rfl (Or.inl rfl) (xa_Mo_bitsOf (Nat.le_of_ble_eq_true rfl)) (CI.k h fun v6 g6 h => ?_)
        show Wp L xs xm_Mo_wordsOf 73 [.ref 400, .int x1, .int x2, .int x3] [.int v6, .int v4, .int x1] g6 _
        refine w_iadd (pc' := 74) rfl rfl ?_
        refine w_iadd (pc' := 75) rfl rfl ?_
        refine w_istore_n (pc' := 76) rfl rfl (xl' := [.ref 400, .int (x1 + (v4 + v6)), .int x2, .int x3]) rfl ?_
        refine w_iinc (pc' := 79) rfl rfl rfl (v := (x3 + 1)) rfl (xl' := [.ref 400, .int (x1 + (v4 + v6)), .int x2, .int (x3 + 1)]) rfl ?_
        refine w_goto (pc' := 14) rfl rfl ?_
        exact h
      · replace h := h.1 (Classical.not_not.mp hc)
        refine w_iconst (pc' := 44) rfl rfl (v := 0) rfl ?_
        refine w_goto (pc' := 74) rfl rfl ?_
        refine w_iadd (pc' := 75) rfl rfl ?_
        refine w_istore_n (pc' := 76) rfl rfl (xl' := [.ref 400, .int (x1 + 0), .int x2, .int x3]) rfl ?_
        refine w_iinc (pc' := 79) rfl rfl rfl (v := (x3 + 1)) rfl (xl' := [.ref 400, .int (x1 + 0), .int x2, .int (x3 + 1)]) rfl ?_
        refine w_goto (pc' := 14) rfl rfl ?_
        exact h
theorem t_Mo_play_0 {L : Nat} {xs : Nat → Int32} {x1 : Int32} {x2 : Int32} {x3 : Int32} {x4 : Int32} {f : Hp} {Q : Int32 → Hp → Prop}  (h : CI L xs xm_Mo_isCouncil [.ref 400, .int x1] f (fun v1 g1 => ((v1 = 0 → Q (-1) g1) ∧ (¬ v1 = 0 → CI L xs xm_Mo_isMember [.ref 400, .int x2] g1 (fun v2 g2 => ((v2 = 0 → Q (-1) g2) ∧ (¬ v2 = 0 → CI L xs xm_Mo_isIn [.int x3, .int 1, .int 10] g2 (fun v3 g3 => ((v3 = 0 → Q (-1) g3) ∧ (¬ v3 = 0 → CV L xs xm_Mo_plays [.ref 400] g3 (fun g4 => ((x4 = 0 → CI L xs xm_Mo_at [.int x2, .int x3] g4 (fun v4 g5 => ∃ k1 : Nat, v4 = iN k1 ∧ k1 < 91 ∧ CI L xs xm_Mo_minuteOf [.int (g5 429 k1)] g5 (fun v5 g6 => Q v5 g6))) ∧ (¬ x4 = 0 → CI L xs xm_Mo_lowFrom [.ref 400, .int x2, .int x3, .int 11] g4 (fun v6 g7 => CI L xs xm_Mo_minuteOf [.int v6] g7 (fun v7 g8 => Q v7 g8))))))))))))))) : CI L xs xm_Mo_play [.ref 400, .int x1, .int x2, .int x3, .int x4] f Q := by
  show Wp L xs xm_Mo_play 0 [.ref 400, .int x1, .int x2, .int x3, .int x4] [] f (QI Q)
  refine w_aload_n (pc' := 1) rfl rfl rfl ?_
  refine w_iload_n (pc' := 2) rfl rfl rfl ?_
  refine w_cv (pc' := 5) (cm := xm_Mo_isCouncil) (as := [.int x1]) (a := 400) (rest := []) rfl rfl rfl  (xa_Mo_isCouncil (Nat.le_of_ble_eq_true rfl)) (show xS0 L 400 = (12, 0) from rfl) rfl (CI.k h fun v1 g1 h => ?_)
  show Wp L xs xm_Mo_play 5 [.ref 400, .int x1, .int x2, .int x3, .int x4] [.int v1] g1 _
  refine w_br (pc' := 8) (t := 26) rfl rfl rfl ic_eq (fun hc => ?_) (fun hc => ?_)
  · replace h := h.1 hc
    refine w_iconst (pc' := 27) rfl rfl (v := (-1)) rfl ?_
    exact w_ireturn rfl rfl h
  · replace h := h.2 hc
    refine w_aload_n (pc' := 9) rfl rfl rfl ?_
    refine w_iload_n (pc' := 10) rfl rfl rfl ?_
    refine w_cv (pc' := 13) (cm := xm_Mo_isMember) (as := [.int x2]) (a := 400) (rest := []) rfl rfl rfl  (xa_Mo_isMember (Nat.le_of_ble_eq_true rfl)) (show xS0 L 400 = (12, 0) from rfl) rfl (CI.k h fun v2 g2 h => ?_)
    show Wp L xs xm_Mo_play 13 [.ref 400, .int x1, .int x2, .int x3, .int x4] [.int v2] g2 _
    refine w_br (pc' := 16) (t := 26) rfl rfl rfl ic_eq (fun hc => ?_) (fun hc => ?_)
    · replace h := h.1 hc
      refine w_iconst (pc' := 27) rfl rfl (v := (-1)) rfl ?_
      exact w_ireturn rfl rfl h
    · replace h := h.2 hc
      refine w_iload_n (pc' := 17) rfl rfl rfl ?_
      refine w_iconst (pc' := 18) rfl rfl (v := 1) rfl ?_
      refine w_bipush (pc' := 20) rfl rfl (v := 10) rfl ?_
      refine w_cs (pc' := 23) (cm := xm_Mo_isIn) (as := [.int x3, .int 1, .int 10]) (rest := []) rfl rfl rfl (Or.inl rfl) (xa_Mo_isIn (Nat.le_of_ble_eq_true rfl)) (CI.k h fun v3 g3 h => ?_)
      show Wp L xs xm_Mo_play 23 [.ref 400, .int x1, .int x2, .int x3, .int x4] [.int v3] g3 _
      refine w_br (pc' := 26) (t := 28) rfl rfl rfl ic_ne (fun hc => ?_) (fun hc => ?_)
      · replace h := h.2 hc
        refine w_aload_n (pc' := 29) rfl rfl rfl ?_
        refine w_cv (pc' := 32) (cm := xm_Mo_plays) (as := []) (a := 400) (rest := []) rfl rfl rfl  (xa_Mo_plays (Nat.le_of_ble_eq_true rfl)) (show xS0 L 400 = (12, 0) from rfl) rfl (CV.k h fun g4 h => ?_)
        show Wp L xs xm_Mo_play 32 [.ref 400, .int x1, .int x2, .int x3, .int x4] [] g4 _
        refine w_iload (pc' := 34) rfl rfl rfl ?_
        refine w_br (pc' := 37) (t := 48) rfl rfl rfl ic_eq (fun hc => ?_) (fun hc => ?_)
        · replace h := h.1 hc
          refine w_aload_n (pc' := 49) rfl rfl rfl ?_
          have q1 : xR0 400 50 = some 429 ∧ xS0 L 429 = (20, 91) := (kf_12_50 (show xS0 L 400 = (12, 0) from rfl))
          refine w_getR (pc' := 52) rfl rfl rfl rfl (show xS0 L 400 = (12, 0) from rfl) q1.1 ?_
          refine w_iload_n (pc' := 53) rfl rfl rfl ?_
          refine w_iload_n (pc' := 54) rfl rfl rfl ?_
          refine w_cs (pc' := 57) (cm := xm_Mo_at) (as := [.int x2, .int x3]) (rest := [.ref 429]) rfl rfl rfl (Or.inl rfl) (xa_Mo_at (Nat.le_of_ble_eq_true rfl)) (CI.k h fun v4 g5 h => ?_)
          show Wp L xs xm_Mo_play 57 [.ref 400, .int x1, .int x2, .int x3, .int x4] [.int v4, .ref 429] g5 _
          obtain ⟨k1, ek1, bk1, h⟩ := h
          refine w_iaload (pc' := 58) (i := k1) rfl rfl q1.2 ek1 bk1 (by omega) ?_
          refine w_cs (pc' := 61) (cm := xm_Mo_minuteOf) (as := [.int (g5 429 k1)]) (rest := []) rfl rfl rfl (Or.inl rfl) (xa_Mo_minuteOf (Nat.le_of_ble_eq_true rfl)) (CI.k h fun v5 g6 h => ?_)
          show Wp L xs xm_Mo_play 61 [.ref 400, .int x1, .int x2, .int x3, .int x4] [.int v5] g6 _
          exact w_ireturn rfl rfl h
        · replace h := h.2 hc
          refine w_aload_n (pc' := 38) rfl rfl rfl ?_
          refine w_iload_n (pc' := 39) rfl rfl rfl ?_
          refine w_iload_n (pc' := 40) rfl rfl rfl ?_
          refine w_bipush (pc' := 42) rfl rfl (v := 11) rfl ?_
          refine w_cv (pc' := 45) (cm := xm_Mo_lowFrom) (as := [.int x2, .int x3, .int 11]) (a := 400) (rest := []) rfl rfl rfl  (xa_Mo_lowFrom (Nat.le_of_ble_eq_true rfl)) (show xS0 L 400 = (12, 0) from rfl) rfl (CI.k h fun v6 g7 h => ?_)
          show Wp L xs xm_Mo_play 45 [.ref 400, .int x1, .int x2, .int x3, .int x4] [.int v6] g7 _
          refine w_goto (pc' := 58) rfl rfl ?_
          refine w_cs (pc' := 61) (cm := xm_Mo_minuteOf) (as := [.int v6]) (rest := []) rfl rfl rfl (Or.inl rfl) (xa_Mo_minuteOf (Nat.le_of_ble_eq_true rfl)) (CI.k h fun v7 g8 h => ?_)
          show Wp L xs xm_Mo_play 61 [.ref 400, .int x1, .int x2, .int x3, .int x4] [.int v7] g8 _
          exact w_ireturn rfl rfl h
      · replace h := h.1 (Classical.not_not.mp hc)
        refine w_iconst (pc' := 27) rfl rfl (v := (-1)) rfl ?_
        exact w_ireturn rfl rfl h
