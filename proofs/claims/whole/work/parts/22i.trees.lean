/-! TREES (printed by wip/whole/gen7.py): what must hold at a label of a method -/
theorem t_Mo_plays_0 {L : Nat} {xs : Nat → Int32}  {f : Hp} {Q : Hp → Prop}  (h : Wp L xs xm_Mo_plays 2 [.ref 400, .int 0] [] f (QV Q)) : CV L xs xm_Mo_plays [.ref 400] f Q := by
  show Wp L xs xm_Mo_plays 0 [.ref 400, .retAddr 0] [] f (QV Q)
  refine w_iconst (pc' := 1) rfl rfl (v := 0) rfl ?_
  refine w_istore_n (pc' := 2) rfl rfl (xl' := [.ref 400, .int 0]) rfl ?_
  exact h
theorem t_Mo_plays_2 {L : Nat} {xs : Nat → Int32} {x1 : Int32} {f : Hp} {Q : Hp → Prop}  (h : ((x1 < 91 → ∃ k1 : Nat, x1 = iN k1 ∧ k1 < 91 ∧ ∀ g2, g2 = xu f 427 k1 99999999 → ∀ g3, g3 = xu g2 428 k1 99999999 → ∀ g4, g4 = xu g3 429 k1 99999999 → ∀ g5, g5 = xu g4 430 k1 99999999 → Wp L xs xm_Mo_plays 2 [.ref 400, .int (x1 + 1)] [] g5 (QV Q)) ∧ (¬ x1 < 91 → CI L xs xm_Mo_isLiar [.ref 400, .int 0] f (fun v1 g1 => ((v1 = 0 → Wp L xs xm_Mo_plays 61 [.ref 400, .int 1] [] g1 (QV Q)) ∧ (¬ v1 = 0 → Q g1)))))) : Wp L xs xm_Mo_plays 2 [.ref 400, .int x1] [] f (QV Q) := by
  refine w_iload_n (pc' := 3) rfl rfl rfl ?_
  refine w_bipush (pc' := 5) rfl rfl (v := 91) rfl ?_
  refine w_br2 (pc' := 8) (t := 50) rfl rfl rfl ic_ge (fun hc => ?_) (fun hc => ?_)
  · replace h := h.2 hc
    refine w_aload_n (pc' := 51) rfl rfl rfl ?_
    refine w_iconst (pc' := 52) rfl rfl (v := 0) rfl ?_
    refine w_cv (pc' := 55) (cm := xm_Mo_isLiar) (as := [.int 0]) (a := 400) (rest := []) rfl rfl rfl  (xa_Mo_isLiar (Nat.le_of_ble_eq_true rfl)) (show xS0 L 400 = (12, 0) from rfl) rfl (CI.k h fun v1 g1 h => ?_)
    show Wp L xs xm_Mo_plays 55 [.ref 400, .int x1] [.int v1] g1 _
    refine w_br (pc' := 58) (t := 59) rfl rfl rfl ic_eq (fun hc => ?_) (fun hc => ?_)
    · replace h := h.1 hc
      refine w_iconst (pc' := 60) rfl rfl (v := 1) rfl ?_
      refine w_istore_n (pc' := 61) rfl rfl (xl' := [.ref 400, .int 1]) rfl ?_
      exact h
    · replace h := h.2 hc
      exact w_return rfl rfl h
  · replace h := h.1 (Classical.not_not.mp hc)
    refine w_aload_n (pc' := 9) rfl rfl rfl ?_
    have q1 : xR0 400 48 = some 427 ∧ xS0 L 427 = (20, 91) := (kf_12_48 (show xS0 L 400 = (12, 0) from rfl))
    refine w_getR (pc' := 12) rfl rfl rfl rfl (show xS0 L 400 = (12, 0) from rfl) q1.1 ?_
    refine w_iload_n (pc' := 13) rfl rfl rfl ?_
    refine w_ldcw (pc' := 16) rfl rfl (v := 99999999) rfl ?_
    obtain ⟨k1, ek1, bk1, h⟩ := h
    refine w_iastore (pc' := 17) (i := k1) rfl rfl q1.2 ek1 bk1 (by omega) ?_
    replace h := h _ rfl
    generalize xu f 427 k1 99999999 = g2 at h ⊢
    refine w_aload_n (pc' := 18) rfl rfl rfl ?_
    have q2 : xR0 400 49 = some 428 ∧ xS0 L 428 = (20, 91) := (kf_12_49 (show xS0 L 400 = (12, 0) from rfl))
    refine w_getR (pc' := 21) rfl rfl rfl rfl (show xS0 L 400 = (12, 0) from rfl) q2.1 ?_
    refine w_iload_n (pc' := 22) rfl rfl rfl ?_
    refine w_ldcw (pc' := 25) rfl rfl (v := 99999999) rfl ?_
    refine w_iastore (pc' := 26) (i := k1) rfl rfl q2.2 ek1 bk1 (by omega) ?_
    replace h := h _ rfl
    generalize xu g2 428 k1 99999999 = g3 at h ⊢
    refine w_aload_n (pc' := 27) rfl rfl rfl ?_
    have q3 : xR0 400 50 = some 429 ∧ xS0 L 429 = (20, 91) := (kf_12_50 (show xS0 L 400 = (12, 0) from rfl))
    refine w_getR (pc' := 30) rfl rfl rfl rfl (show xS0 L 400 = (12, 0) from rfl) q3.1 ?_
    refine w_iload_n (pc' := 31) rfl rfl rfl ?_
    refine w_ldcw (pc' := 34) rfl rfl (v := 99999999) rfl ?_
    refine w_iastore (pc' := 35) (i := k1) rfl rfl q3.2 ek1 bk1 (by omega) ?_
    replace h := h _ rfl
    generalize xu g3 429 k1 99999999 = g4 at h ⊢
    refine w_aload_n (pc' := 36) rfl rfl rfl ?_
    have q4 : xR0 400 51 = some 430 ∧ xS0 L 430 = (20, 91) := (kf_12_51 (show xS0 L 400 = (12, 0) from rfl))
    refine w_getR (pc' := 39) rfl rfl rfl rfl (show xS0 L 400 = (12, 0) from rfl) q4.1 ?_
    refine w_iload_n (pc' := 40) rfl rfl rfl ?_
    refine w_ldcw (pc' := 43) rfl rfl (v := 99999999) rfl ?_
    refine w_iastore (pc' := 44) (i := k1) rfl rfl q4.2 ek1 bk1 (by omega) ?_
    replace h := h _ rfl
    generalize xu g4 430 k1 99999999 = g5 at h ⊢
    refine w_iinc (pc' := 47) rfl rfl rfl (v := (x1 + 1)) rfl (xl' := [.ref 400, .int (x1 + 1)]) rfl ?_
    refine w_goto (pc' := 2) rfl rfl ?_
    exact h
theorem t_Mo_plays_61 {L : Nat} {xs : Nat → Int32} {x1 : Int32} {f : Hp} {Q : Hp → Prop}  (h : ((10 < x1 → Q f) ∧ (¬ 10 < x1 → CV L xs xm_Mo_playsPlace [.ref 400, .int x1] f (fun g1 => Wp L xs xm_Mo_plays 61 [.ref 400, .int (x1 + 1)] [] g1 (QV Q))))) : Wp L xs xm_Mo_plays 61 [.ref 400, .int x1] [] f (QV Q) := by
  refine w_iload_n (pc' := 62) rfl rfl rfl ?_
  refine w_bipush (pc' := 64) rfl rfl (v := 10) rfl ?_
  refine w_br2 (pc' := 67) (t := 78) rfl rfl rfl ic_gt (fun hc => ?_) (fun hc => ?_)
  · replace h := h.1 hc
    exact w_return rfl rfl h
  · replace h := h.2 hc
    refine w_aload_n (pc' := 68) rfl rfl rfl ?_
    refine w_iload_n (pc' := 69) rfl rfl rfl ?_
    refine w_cv (pc' := 72) (cm := xm_Mo_playsPlace) (as := [.int x1]) (a := 400) (rest := []) rfl rfl rfl  (xa_Mo_playsPlace (Nat.le_of_ble_eq_true rfl)) (show xS0 L 400 = (12, 0) from rfl) rfl (CV.k h fun g1 h => ?_)
    show Wp L xs xm_Mo_plays 72 [.ref 400, .int x1] [] g1 _
    refine w_iinc (pc' := 75) rfl rfl rfl (v := (x1 + 1)) rfl (xl' := [.ref 400, .int (x1 + 1)]) rfl ?_
    refine w_goto (pc' := 61) rfl rfl ?_
    exact h
theorem t_Mo_playsPlace_0 {L : Nat} {xs : Nat → Int32} {x1 : Int32} {f : Hp} {Q : Hp → Prop}  (h : CV L xs xm_Mo_playsAccepts [.ref 400, .int x1] f (fun g1 => Wp L xs xm_Mo_playsPlace 7 [.ref 400, .int x1, .int 0, .retAddr 0] [] g1 (QV Q))) : CV L xs xm_Mo_playsPlace [.ref 400, .int x1] f Q := by
  show Wp L xs xm_Mo_playsPlace 0 [.ref 400, .int x1, .retAddr 0, .retAddr 0] [] f (QV Q)
  refine w_aload_n (pc' := 1) rfl rfl rfl ?_
  refine w_iload_n (pc' := 2) rfl rfl rfl ?_
  refine w_cv (pc' := 5) (cm := xm_Mo_playsAccepts) (as := [.int x1]) (a := 400) (rest := []) rfl rfl rfl  (xa_Mo_playsAccepts (Nat.le_of_ble_eq_true rfl)) (show xS0 L 400 = (12, 0) from rfl) rfl (CV.k h fun g1 h => ?_)
  show Wp L xs xm_Mo_playsPlace 5 [.ref 400, .int x1, .retAddr 0, .retAddr 0] [] g1 _
  refine w_iconst (pc' := 6) rfl rfl (v := 0) rfl ?_
  refine w_istore_n (pc' := 7) rfl rfl (xl' := [.ref 400, .int x1, .int 0, .retAddr 0]) rfl ?_
  exact h
theorem t_Mo_playsPlace_7 {L : Nat} {xs : Nat → Int32} {x1 : Int32} {x2 : Int32} {f : Hp} {Q : Hp → Prop}  (h : ((x2 < (f 400 13) → CV L xs xm_Mo_laysComes [.ref 400, .ref 427, .int x2, .int x1] f (fun g1 => CI L xs xm_Mo_at [.int x2, .int x1] g1 (fun v1 g2 => ∃ k1 : Nat, v1 = iN k1 ∧ k1 < 91 ∧ ∀ g3, g3 = xu g2 431 0 (g2 427 k1) → CI L xs xm_Mo_at [.int x2, .int x1] g3 (fun v2 g4 => CI L xs xm_Mo_isLiar [.ref 400, .int x2] g4 (fun v3 g5 => ((v3 = 0 → CI L xs xm_Mo_at [.int x2, .int x1] g5 (fun v4 g6 => ∃ k2 : Nat, v4 = iN k2 ∧ k2 < 91 ∧ CI L xs xm_Mo_manyCome [.ref 400, .int (g6 400 14)] g6 (fun v5 g7 => CI L xs xm_Mo_later [.int (g6 427 k2), .int v5] g7 (fun v6 g8 => ∃ k3 : Nat, v2 = iN k3 ∧ k3 < 91 ∧ ∀ g9, g9 = xu g8 428 k3 v6 → Wp L xs xm_Mo_playsPlace 7 [.ref 400, .int x1, .int (x2 + 1), .retAddr 0] [] g9 (QV Q))))) ∧ (¬ v3 = 0 → ∃ k4 : Nat, v2 = iN k4 ∧ k4 < 91 ∧ ∀ g10, g10 = xu g5 428 k4 99999999 → Wp L xs xm_Mo_playsPlace 7 [.ref 400, .int x1, .int (x2 + 1), .retAddr 0] [] g10 (QV Q)))))))) ∧ (¬ x2 < (f 400 13) → Wp L xs xm_Mo_playsPlace 94 [.ref 400, .int x1, .int 0, .retAddr 0] [] f (QV Q)))) : Wp L xs xm_Mo_playsPlace 7 [.ref 400, .int x1, .int x2, .retAddr 0] [] f (QV Q) := by
  refine w_iload_n (pc' := 8) rfl rfl rfl ?_
  refine w_aload_n (pc' := 9) rfl rfl rfl ?_
  refine w_getI (pc' := 12) rfl rfl rfl rfl rfl (show xS0 L 400 = (12, 0) from rfl) ?_
  refine w_br2 (pc' := 15) (t := 92) rfl rfl rfl ic_ge (fun hc => ?_) (fun hc => ?_)
  · replace h := h.2 hc
    refine w_iconst (pc' := 93) rfl rfl (v := 0) rfl ?_
    refine w_istore_n (pc' := 94) rfl rfl (xl' := [.ref 400, .int x1, .int 0, .retAddr 0]) rfl ?_
    exact h
  · replace h := h.1 (Classical.not_not.mp hc)
    refine w_aload_n (pc' := 16) rfl rfl rfl ?_
    refine w_aload_n (pc' := 17) rfl rfl rfl ?_
    have q1 : xR0 400 48 = some 427 ∧ xS0 L 427 = (20, 91) := (kf_12_48 (show xS0 L 400 = (12, 0) from rfl))
    refine w_getR (pc' := 20) rfl rfl rfl rfl (show xS0 L 400 = (12, 0) from rfl) q1.1 ?_
    refine w_iload_n (pc' := 21) rfl rfl rfl ?_
    refine w_iload_n (pc' := 22) rfl rfl rfl ?_
    refine w_cv (pc' := 25) (cm := xm_Mo_laysComes) (as := [.ref 427, .int x2, .int x1]) (a := 400) (rest := []) rfl rfl rfl  (xa_Mo_laysComes (Nat.le_of_ble_eq_true rfl)) (show xS0 L 400 = (12, 0) from rfl) rfl (CV.k h fun g1 h => ?_)
    show Wp L xs xm_Mo_playsPlace 25 [.ref 400, .int x1, .int x2, .retAddr 0] [] g1 _
    refine w_aload_n (pc' := 26) rfl rfl rfl ?_
    have q2 : xR0 400 52 = some 431 ∧ xS0 L 431 = (20, 7) := (kf_12_52 (show xS0 L 400 = (12, 0) from rfl))
    refine w_getR (pc' := 29) rfl rfl rfl rfl (show xS0 L 400 = (12, 0) from rfl) q2.1 ?_
    refine w_iconst (pc' := 30) rfl rfl (v := 0) rfl ?_
    refine w_aload_n (pc' := 31) rfl rfl rfl ?_
    have q3 : xR0 400 48 = some 427 ∧ xS0 L 427 = (20, 91) := (kf_12_48 (show xS0 L 400 = (12, 0) from rfl))
    refine w_getR (pc' := 34) rfl rfl rfl rfl (show xS0 L 400 = (12, 0) from rfl) q3.1 ?_
    refine w_iload_n (pc' := 35) rfl rfl rfl ?_
    refine w_iload_n (pc' := 36) rfl rfl rfl ?_
    refine w_cs (pc' := 39) (cm := xm_Mo_at) (as := [.int x2, .int x1]) (rest := [.ref 427, .int 0, .ref 431]) rfl rfl rfl (Or.inl rfl) (xa_Mo_at (Nat.le_of_ble_eq_true rfl)) (CI.k h fun v1 g2 h => ?_)
    show Wp L xs xm_Mo_playsPlace 39 [.ref 400, .int x1, .int x2, .retAddr 0] [.int v1, .ref 427, .int 0, .ref 431] g2 _
    obtain ⟨k1, ek1, bk1, h⟩ := h
    refine w_iaload (pc' := 40) (i := k1) rfl rfl q3.2 ek1 bk1 (by omega) ?_
    refine w_iastore (pc' := 41) (i := 0) rfl rfl q2.2 rfl (by omega) (by omega) ?_
    replace h := h _ rfl
    generalize xu g2 431 0 (g2 427 k1) = g3 at h ⊢
    refine w_aload_n (pc' := 42) rfl rfl rfl ?_
    have q4 : xR0 400 49 = some 428 ∧ xS0 L 428 = (20, 91) := (kf_12_49 (show xS0 L 400 = (12, 0) from rfl))
    refine w_getR (pc' := 45) rfl rfl rfl rfl (show xS0 L 400 = (12, 0) from rfl) q4.1 ?_
    refine w_iload_n (pc' := 46) rfl rfl rfl ?_
    refine w_iload_n (pc' := 47) rfl rfl rfl ?_
    refine w_cs (pc' := 50) (cm := xm_Mo_at) (as := [.int x2, .int x1]) (rest := [.ref 428]) rfl rfl rfl (Or.inl rfl) (xa_Mo_at (Nat.le_of_ble_eq_true rfl)) (CI.k h fun v2 g4 h => ?_)
    show Wp L xs xm_Mo_playsPlace 50 [.ref 400, .int x1, .int x2, .retAddr 0] [.int v2, .ref 428] g4 _
    refine w_aload_n (pc' := 51) rfl rfl rfl ?_
    refine w_iload_n (pc' := 52) rfl rfl rfl ?_
    refine w_cv (pc' := 55) (cm := xm_Mo_isLiar) (as := [.int x2]) (a := 400) (rest := [.int v2, .ref 428]) rfl rfl rfl  (xa_Mo_isLiar (Nat.le_of_ble_eq_true rfl)) (show xS0 L 400 = (12, 0) from rfl) rfl (CI.k h fun v3 g5 h => ?_)
    show Wp L xs xm_Mo_playsPlace 55 [.ref 400, .int x1, .int x2, .retAddr 0] [.int v3, .int v2, .ref 428] g5 _
    refine w_br (pc' := 58) (t := 64) rfl rfl rfl ic_eq (fun hc => ?_) (fun hc => ?_)
    · replace h := h.1 hc
      refine w_aload_n (pc' := 65) rfl rfl rfl ?_
      have q5 : xR0 400 48 = some 427 ∧ xS0 L 427 = (20, 91) := (kf_12_48 (show xS0 L 400 = (12, 0) from rfl))
      refine w_getR (pc' := 68) rfl rfl rfl rfl (show xS0 L 400 = (12, 0) from rfl) q5.1 ?_
      refine w_iload_n (pc' := 69) rfl rfl rfl ?_
      refine w_iload_n (pc' := 70) rfl rfl rfl ?_
      refine w_cs (pc' := 73) (cm := xm_Mo_at) (as := [.int x2, .int x1]) (rest := [.ref 427, .int v2, .ref 428]) rfl rfl rfl (Or.inl rfl) (xa_Mo_at (Nat.le_of_ble_eq_true rfl)) (CI.k h fun v4 g6 h => ?_)
      show Wp L xs xm_Mo_playsPlace 73 [.ref 400, .int x1, .int x2, .retAddr 0] [.int v4, .ref 427, .int v2, .ref 428] g6 _
      obtain ⟨k2, ek2, bk2, h⟩ := h
      refine w_iaload (pc' := 74) (i := k2) rfl rfl q5.2 ek2 bk2 (by omega) ?_
      refine w_aload_n (pc' := 75) rfl rfl rfl ?_
      refine w_aload_n (pc' := 76) rfl rfl rfl ?_
      refine w_getI (pc' := 79) rfl rfl rfl rfl rfl (show xS0 L 400 = (12, 0) from rfl) ?_
      refine w_cv (pc' := 82) (cm := xm_Mo_manyCome) (as := [.int (g6 400 14)]) (a := 400) (rest := [.int (g6 427 k2), .int v2, .ref 428]) rfl rfl rfl  (xa_Mo_manyCome (Nat.le_of_ble_eq_true rfl)) (show xS0 L 400 = (12, 0) from rfl) rfl (CI.k h fun v5 g7 h => ?_)
      show Wp L xs xm_Mo_playsPlace 82 [.ref 400, .int x1, .int x2, .retAddr 0] [.int v5, .int (g6 427 k2), .int v2, .ref 428] g7 _
      refine w_cs (pc' := 85) (cm := xm_Mo_later) (as := [.int (g6 427 k2), .int v5]) (rest := [.int v2, .ref 428]) rfl rfl rfl (Or.inl rfl) (xa_Mo_later (Nat.le_of_ble_eq_true rfl)) (CI.k h fun v6 g8 h => ?_)
      show Wp L xs xm_Mo_playsPlace 85 [.ref 400, .int x1, .int x2, .retAddr 0] [.int v6, .int v2, .ref 428] g8 _
      obtain ⟨k3, ek3, bk3, h⟩ := h
      refine w_iastore (pc' := 86) (i := k3) rfl rfl q4.2 ek3 bk3 (by omega) ?_
      replace h := h _ rfl
      generalize xu g8 428 k3 v6 = g9 at h ⊢
      refine w_iinc (pc' := 89) rfl rfl rfl (v := (x2 + 1)) rfl (xl' := [.ref 400, .int x1, .int (x2 + 1), .retAddr 0]) rfl ?_
      refine w_goto (pc' := 7) rfl rfl ?_
      exact h
    · replace h := h.2 hc
      refine w_ldcw (pc' := 61) rfl rfl (v := 99999999) rfl ?_
      refine w_goto (pc' := 85) rfl rfl ?_
      obtain ⟨k4, ek4, bk4, h⟩ := h
      refine w_iastore (pc' := 86) (i := k4) rfl rfl q4.2 ek4 bk4 (by omega) ?_
      replace h := h _ rfl
      generalize xu g5 428 k4 99999999 = g10 at h ⊢
      refine w_iinc (pc' := 89) rfl rfl rfl (v := (x2 + 1)) rfl (xl' := [.ref 400, .int x1, .int (x2 + 1), .retAddr 0]) rfl ?_
      refine w_goto (pc' := 7) rfl rfl ?_
      exact h
theorem t_Mo_playsPlace_94 {L : Nat} {xs : Nat → Int32} {x1 : Int32} {x2 : Int32} {x3 : Value} {f : Hp} {Q : Hp → Prop} (cx3 : (x3.category != 2) = true) (h : ((x2 < (f 400 13) → CV L xs xm_Mo_laysComes [.ref 400, .ref 428, .int x2, .int x1] f (fun g1 => CI L xs xm_Mo_isLiar [.ref 400, .int x2] g1 (fun v1 g2 => ((v1 = 0 → CI L xs xm_Mo_at [.int x2, .int x1] g2 (fun v2 g3 => ∃ k1 : Nat, v2 = iN k1 ∧ k1 < 91 ∧ CI L xs xm_Mo_manyCome [.ref 400, .int (g3 400 14)] g3 (fun v3 g4 => CI L xs xm_Mo_later [.int (g3 428 k1), .int v3] g4 (fun v4 g5 => Wp L xs xm_Mo_playsPlace 147 [.ref 400, .int x1, .int x2, x3] [.int v4] g5 (QV Q))))) ∧ (¬ v1 = 0 → Wp L xs xm_Mo_playsPlace 147 [.ref 400, .int x1, .int x2, x3] [.int 99999999] g2 (QV Q)))))) ∧ (¬ x2 < (f 400 13) → Wp L xs xm_Mo_playsPlace 191 [.ref 400, .int x1, .int 0, x3] [] f (QV Q)))) : Wp L xs xm_Mo_playsPlace 94 [.ref 400, .int x1, .int x2, x3] [] f (QV Q) := by
  refine w_iload_n (pc' := 95) rfl rfl rfl ?_
  refine w_aload_n (pc' := 96) rfl rfl rfl ?_
  refine w_getI (pc' := 99) rfl rfl rfl rfl rfl (show xS0 L 400 = (12, 0) from rfl) ?_
  refine w_br2 (pc' := 102) (t := 189) rfl rfl rfl ic_ge (fun hc => ?_) (fun hc => ?_)
  · replace h := h.2 hc
    refine w_iconst (pc' := 190) rfl rfl (v := 0) rfl ?_
    refine w_istore_n (pc' := 191) rfl rfl (xl' := [.ref 400, .int x1, .int 0, x3]) rfl ?_
    exact h
  · replace h := h.1 (Classical.not_not.mp hc)
    refine w_aload_n (pc' := 103) rfl rfl rfl ?_
    refine w_aload_n (pc' := 104) rfl rfl rfl ?_
    have q1 : xR0 400 49 = some 428 ∧ xS0 L 428 = (20, 91) := (kf_12_49 (show xS0 L 400 = (12, 0) from rfl))
    refine w_getR (pc' := 107) rfl rfl rfl rfl (show xS0 L 400 = (12, 0) from rfl) q1.1 ?_
    refine w_iload_n (pc' := 108) rfl rfl rfl ?_
    refine w_iload_n (pc' := 109) rfl rfl rfl ?_
    refine w_cv (pc' := 112) (cm := xm_Mo_laysComes) (as := [.ref 428, .int x2, .int x1]) (a := 400) (rest := []) rfl rfl rfl  (xa_Mo_laysComes (Nat.le_of_ble_eq_true rfl)) (show xS0 L 400 = (12, 0) from rfl) rfl (CV.k h fun g1 h => ?_)
    show Wp L xs xm_Mo_playsPlace 112 [.ref 400, .int x1, .int x2, x3] [] g1 _
    refine w_aload_n (pc' := 113) rfl rfl rfl ?_
    refine w_iload_n (pc' := 114) rfl rfl rfl ?_
    refine w_cv (pc' := 117) (cm := xm_Mo_isLiar) (as := [.int x2]) (a := 400) (rest := []) rfl rfl rfl  (xa_Mo_isLiar (Nat.le_of_ble_eq_true rfl)) (show xS0 L 400 = (12, 0) from rfl) rfl (CI.k h fun v1 g2 h => ?_)
    show Wp L xs xm_Mo_playsPlace 117 [.ref 400, .int x1, .int x2, x3] [.int v1] g2 _
    refine w_br (pc' := 120) (t := 126) rfl rfl rfl ic_eq (fun hc => ?_) (fun hc => ?_)
    · replace h := h.1 hc
      refine w_aload_n (pc' := 127) rfl rfl rfl ?_
      have q2 : xR0 400 49 = some 428 ∧ xS0 L 428 = (20, 91) := (kf_12_49 (show xS0 L 400 = (12, 0) from rfl))
      refine w_getR (pc' := 130) rfl rfl rfl rfl (show xS0 L 400 = (12, 0) from rfl) q2.1 ?_
      refine w_iload_n (pc' := 131) rfl rfl rfl ?_
      refine w_iload_n (pc' := 132) rfl rfl rfl ?_
      refine w_cs (pc' := 135) (cm := xm_Mo_at) (as := [.int x2, .int x1]) (rest := [.ref 428]) rfl rfl rfl (Or.inl rfl) (xa_Mo_at (Nat.le_of_ble_eq_true rfl)) (CI.k h fun v2 g3 h => ?_)
      show Wp L xs xm_Mo_playsPlace 135 [.ref 400, .int x1, .int x2, x3] [.int v2, .ref 428] g3 _
      obtain ⟨k1, ek1, bk1, h⟩ := h
      refine w_iaload (pc' := 136) (i := k1) rfl rfl q2.2 ek1 bk1 (by omega) ?_
      refine w_aload_n (pc' := 137) rfl rfl rfl ?_
      refine w_aload_n (pc' := 138) rfl rfl rfl ?_
      refine w_getI (pc' := 141) rfl rfl rfl rfl rfl (show xS0 L 400 = (12, 0) from rfl) ?_
      refine w_cv (pc' := 144) (cm := xm_Mo_manyCome) (as := [.int (g3 400 14)]) (a := 400) (rest := [.int (g3 428 k1)]) rfl rfl rfl  (xa_Mo_manyCome (Nat.le_of_ble_eq_true rfl)) (show xS0 L 400 = (12, 0) from rfl) rfl (CI.k h fun v3 g4 h => ?_)
      show Wp L xs xm_Mo_playsPlace 144 [.ref 400, .int x1, .int x2, x3] [.int v3, .int (g3 428 k1)] g4 _
      refine w_cs (pc' := 147) (cm := xm_Mo_later) (as := [.int (g3 428 k1), .int v3]) (rest := []) rfl rfl rfl (Or.inl rfl) (xa_Mo_later (Nat.le_of_ble_eq_true rfl)) (CI.k h fun v4 g5 h => ?_)
      show Wp L xs xm_Mo_playsPlace 147 [.ref 400, .int x1, .int x2, x3] [.int v4] g5 _
      exact h
    · replace h := h.2 hc
      refine w_ldcw (pc' := 123) rfl rfl (v := 99999999) rfl ?_
      refine w_goto (pc' := 147) rfl rfl ?_
      exact h
theorem t_Mo_playsPlace_147 {L : Nat} {xs : Nat → Int32} {x1 : Int32} {x2 : Int32} {x3 : Value} {s0 : Int32} {f : Hp} {Q : Hp → Prop} (cx3 : (x3.category != 2) = true) (h : CI L xs xm_Mo_at [.int x2, .int x1] f (fun v1 g1 => ((x1 = 1 → ∃ k3 : Nat, v1 = iN k3 ∧ k3 < 91 ∧ ∀ g5, g5 = xu g1 429 k3 s0 → Wp L xs xm_Mo_playsPlace 94 [.ref 400, .int x1, .int (x2 + 1), .int s0] [] g5 (QV Q)) ∧ (¬ x1 = 1 → CI L xs xm_Mo_at [.int x2, .int (x1 - 1)] g1 (fun v2 g2 => ∃ k1 : Nat, v2 = iN k1 ∧ k1 < 91 ∧ CI L xs xm_Mo_later [.int s0, .int (g2 429 k1)] g2 (fun v3 g3 => ∃ k2 : Nat, v1 = iN k2 ∧ k2 < 91 ∧ ∀ g4, g4 = xu g3 429 k2 v3 → Wp L xs xm_Mo_playsPlace 94 [.ref 400, .int x1, .int (x2 + 1), .int s0] [] g4 (QV Q))))))) : Wp L xs xm_Mo_playsPlace 147 [.ref 400, .int x1, .int x2, x3] [.int s0] f (QV Q) := by
  refine w_istore_n (pc' := 148) rfl rfl (xl' := [.ref 400, .int x1, .int x2, .int s0]) rfl ?_
  refine w_aload_n (pc' := 149) rfl rfl rfl ?_
  have q1 : xR0 400 50 = some 429 ∧ xS0 L 429 = (20, 91) := (kf_12_50 (show xS0 L 400 = (12, 0) from rfl))
  refine w_getR (pc' := 152) rfl rfl rfl rfl (show xS0 L 400 = (12, 0) from rfl) q1.1 ?_
  refine w_iload_n (pc' := 153) rfl rfl rfl ?_
  refine w_iload_n (pc' := 154) rfl rfl rfl ?_
  refine w_cs (pc' := 157) (cm := xm_Mo_at) (as := [.int x2, .int x1]) (rest := [.ref 429]) rfl rfl rfl (Or.inl rfl) (xa_Mo_at (Nat.le_of_ble_eq_true rfl)) (CI.k h fun v1 g1 h => ?_)
  show Wp L xs xm_Mo_playsPlace 157 [.ref 400, .int x1, .int x2, .int s0] [.int v1, .ref 429] g1 _
  refine w_iload_n (pc' := 158) rfl rfl rfl ?_
  refine w_iconst (pc' := 159) rfl rfl (v := 1) rfl ?_
  refine w_br2 (pc' := 162) (t := 166) rfl rfl rfl ic_ne (fun hc => ?_) (fun hc => ?_)
  · replace h := h.2 hc
    refine w_iload_n (pc' := 167) rfl rfl rfl ?_
    refine w_aload_n (pc' := 168) rfl rfl rfl ?_
    have q2 : xR0 400 50 = some 429 ∧ xS0 L 429 = (20, 91) := (kf_12_50 (show xS0 L 400 = (12, 0) from rfl))
    refine w_getR (pc' := 171) rfl rfl rfl rfl (show xS0 L 400 = (12, 0) from rfl) q2.1 ?_
    refine w_iload_n (pc' := 172) rfl rfl rfl ?_
    refine w_iload_n (pc' := 173) rfl rfl rfl ?_
    refine w_iconst (pc' := 174) rfl rfl (v := 1) rfl ?_
    refine w_isub (pc' := 175) rfl rfl ?_
    refine w_cs (pc' := 178) (cm := xm_Mo_at) (as := [.int x2, .int (x1 - 1)]) (rest := [.ref 429, .int s0, .int v1, .ref 429]) rfl rfl rfl (Or.inl rfl) (xa_Mo_at (Nat.le_of_ble_eq_true rfl)) (CI.k h fun v2 g2 h => ?_)
    show Wp L xs xm_Mo_playsPlace 178 [.ref 400, .int x1, .int x2, .int s0] [.int v2, .ref 429, .int s0, .int v1, .ref 429] g2 _
    obtain ⟨k1, ek1, bk1, h⟩ := h
    refine w_iaload (pc' := 179) (i := k1) rfl rfl q2.2 ek1 bk1 (by omega) ?_
    refine w_cs (pc' := 182) (cm := xm_Mo_later) (as := [.int s0, .int (g2 429 k1)]) (rest := [.int v1, .ref 429]) rfl rfl rfl (Or.inl rfl) (xa_Mo_later (Nat.le_of_ble_eq_true rfl)) (CI.k h fun v3 g3 h => ?_)
    show Wp L xs xm_Mo_playsPlace 182 [.ref 400, .int x1, .int x2, .int s0] [.int v3, .int v1, .ref 429] g3 _
    obtain ⟨k2, ek2, bk2, h⟩ := h
    refine w_iastore (pc' := 183) (i := k2) rfl rfl q1.2 ek2 bk2 (by omega) ?_
    replace h := h _ rfl
    generalize xu g3 429 k2 v3 = g4 at h ⊢
    refine w_iinc (pc' := 186) rfl rfl rfl (v := (x2 + 1)) rfl (xl' := [.ref 400, .int x1, .int (x2 + 1), .int s0]) rfl ?_
    refine w_goto (pc' := 94) rfl rfl ?_
    exact h
  · replace h := h.1 (Classical.not_not.mp hc)
    refine w_iload_n (pc' := 163) rfl rfl rfl ?_
    refine w_goto (pc' := 182) rfl rfl ?_
    obtain ⟨k3, ek3, bk3, h⟩ := h
    refine w_iastore (pc' := 183) (i := k3) rfl rfl q1.2 ek3 bk3 (by omega) ?_
    replace h := h _ rfl
    generalize xu g1 429 k3 s0 = g5 at h ⊢
    refine w_iinc (pc' := 186) rfl rfl rfl (v := (x2 + 1)) rfl (xl' := [.ref 400, .int x1, .int (x2 + 1), .int s0]) rfl ?_
    refine w_goto (pc' := 94) rfl rfl ?_
    exact h
theorem t_Mo_playsPlace_191 {L : Nat} {xs : Nat → Int32} {x1 : Int32} {x2 : Int32} {x3 : Value} {f : Hp} {Q : Hp → Prop} (cx3 : (x3.category != 2) = true) (h : ((x2 < (f 400 13) → CV L xs xm_Mo_laysComes [.ref 400, .ref 429, .int x2, .int x1] f (fun g1 => CI L xs xm_Mo_at [.int x2, .int x1] g1 (fun v1 g2 => CI L xs xm_Mo_isLiar [.ref 400, .int x2] g2 (fun v2 g3 => ((v2 = 0 → (g3 400 16) ≠ 0 ∧ (((jrem x1 (g3 400 16)) = 0 → CI L xs xm_Mo_at [.int x2, .int x1] g3 (fun v3 g5 => ∃ k2 : Nat, v3 = iN k2 ∧ k2 < 91 ∧ CI L xs xm_Mo_manyCome [.ref 400, .int (g5 400 14)] g5 (fun v4 g6 => CI L xs xm_Mo_later [.int (g5 429 k2), .int v4] g6 (fun v5 g7 => ∃ k3 : Nat, v1 = iN k3 ∧ k3 < 91 ∧ ∀ g8, g8 = xu g7 430 k3 v5 → Wp L xs xm_Mo_playsPlace 191 [.ref 400, .int x1, .int (x2 + 1), x3] [] g8 (QV Q))))) ∧ (¬ (jrem x1 (g3 400 16)) = 0 → ∃ k4 : Nat, v1 = iN k4 ∧ k4 < 91 ∧ ∀ g9, g9 = xu g3 430 k4 99999999 → Wp L xs xm_Mo_playsPlace 191 [.ref 400, .int x1, .int (x2 + 1), x3] [] g9 (QV Q)))) ∧ (¬ v2 = 0 → ∃ k1 : Nat, v1 = iN k1 ∧ k1 < 91 ∧ ∀ g4, g4 = xu g3 430 k1 99999999 → Wp L xs xm_Mo_playsPlace 191 [.ref 400, .int x1, .int (x2 + 1), x3] [] g4 (QV Q))))))) ∧ (¬ x2 < (f 400 13) → Q f))) : Wp L xs xm_Mo_playsPlace 191 [.ref 400, .int x1, .int x2, x3] [] f (QV Q) := by
  refine w_iload_n (pc' := 192) rfl rfl rfl ?_
  refine w_aload_n (pc' := 193) rfl rfl rfl ?_
  refine w_getI (pc' := 196) rfl rfl rfl rfl rfl (show xS0 L 400 = (12, 0) from rfl) ?_
  refine w_br2 (pc' := 199) (t := 269) rfl rfl rfl ic_ge (fun hc => ?_) (fun hc => ?_)
  · replace h := h.2 hc
    exact w_return rfl rfl h
  · replace h := h.1 (Classical.not_not.mp hc)
    refine w_aload_n (pc' := 200) rfl rfl rfl ?_
    refine w_aload_n (pc' := 201) rfl rfl rfl ?_
    have q1 : xR0 400 50 = some 429 ∧ xS0 L 429 = (20, 91) := (kf_12_50 (show xS0 L 400 = (12, 0) from rfl))
    refine w_getR (pc' := 204) rfl rfl rfl rfl (show xS0 L 400 = (12, 0) from rfl) q1.1 ?_
    refine w_iload_n (pc' := 205) rfl rfl rfl ?_
    refine w_iload_n (pc' := 206) rfl rfl rfl ?_
    refine w_cv (pc' := 209) (cm := xm_Mo_laysComes) (as := [.ref 429, .int x2, .int x1]) (a := 400) (rest := []) rfl rfl rfl  (xa_Mo_laysComes (Nat.le_of_ble_eq_true rfl)) (show xS0 L 400 = (12, 0) from rfl) rfl (CV.k h fun g1 h => ?_)
    show Wp L xs xm_Mo_playsPlace 209 [.ref 400, .int x1, .int x2, x3] [] g1 _
    refine w_aload_n (pc' := 210) rfl rfl rfl ?_
    have q2 : xR0 400 51 = some 430 ∧ xS0 L 430 = (20, 91) := (kf_12_51 (show xS0 L 400 = (12, 0) from rfl))
    refine w_getR (pc' := 213) rfl rfl rfl rfl (show xS0 L 400 = (12, 0) from rfl) q2.1 ?_
    refine w_iload_n (pc' := 214) rfl rfl rfl ?_
    refine w_iload_n (pc' := 215) rfl rfl rfl ?_
    refine w_cs (pc' := 218) (cm := xm_Mo_at) (as := [.int x2, .int x1]) (rest := [.ref 430]) rfl rfl rfl (Or.inl rfl) (xa_Mo_at (Nat.le_of_ble_eq_true rfl)) (CI.k h fun v1 g2 h => ?_)
    show Wp L xs xm_Mo_playsPlace 218 [.ref 400, .int x1, .int x2, x3] [.int v1, .ref 430] g2 _
    refine w_aload_n (pc' := 219) rfl rfl rfl ?_
    refine w_iload_n (pc' := 220) rfl rfl rfl ?_
    refine w_cv (pc' := 223) (cm := xm_Mo_isLiar) (as := [.int x2]) (a := 400) (rest := [.int v1, .ref 430]) rfl rfl rfl  (xa_Mo_isLiar (Nat.le_of_ble_eq_true rfl)) (show xS0 L 400 = (12, 0) from rfl) rfl (CI.k h fun v2 g3 h => ?_)
    show Wp L xs xm_Mo_playsPlace 223 [.ref 400, .int x1, .int x2, x3] [.int v2, .int v1, .ref 430] g3 _
    refine w_br (pc' := 226) (t := 235) rfl rfl rfl ic_ne (fun hc => ?_) (fun hc => ?_)
    · replace h := h.2 hc
      refine w_ldcw (pc' := 238) rfl rfl (v := 99999999) rfl ?_
      refine w_goto (pc' := 262) rfl rfl ?_
      obtain ⟨k1, ek1, bk1, h⟩ := h
      refine w_iastore (pc' := 263) (i := k1) rfl rfl q2.2 ek1 bk1 (by omega) ?_
      replace h := h _ rfl
      generalize xu g3 430 k1 99999999 = g4 at h ⊢
      refine w_iinc (pc' := 266) rfl rfl rfl (v := (x2 + 1)) rfl (xl' := [.ref 400, .int x1, .int (x2 + 1), x3]) rfl ?_
      refine w_goto (pc' := 191) rfl rfl ?_
      exact h
    · replace h := h.1 (Classical.not_not.mp hc)
      refine w_iload_n (pc' := 227) rfl rfl rfl ?_
      refine w_aload_n (pc' := 228) rfl rfl rfl ?_
      refine w_getI (pc' := 231) rfl rfl rfl rfl rfl (show xS0 L 400 = (12, 0) from rfl) ?_
      obtain ⟨q3, h⟩ := h
      refine w_irem (pc' := 232) rfl rfl q3 ?_
      refine w_br (pc' := 235) (t := 241) rfl rfl rfl ic_eq (fun hc => ?_) (fun hc => ?_)
      · replace h := h.1 hc
        refine w_aload_n (pc' := 242) rfl rfl rfl ?_
        have q4 : xR0 400 50 = some 429 ∧ xS0 L 429 = (20, 91) := (kf_12_50 (show xS0 L 400 = (12, 0) from rfl))
        refine w_getR (pc' := 245) rfl rfl rfl rfl (show xS0 L 400 = (12, 0) from rfl) q4.1 ?_
        refine w_iload_n (pc' := 246) rfl rfl rfl ?_
        refine w_iload_n (pc' := 247) rfl rfl rfl ?_
        refine w_cs (pc' := 250) (cm := xm_Mo_at) (as := [.int x2, .int x1]) (rest := [.ref 429, .int v1, .ref 430]) rfl rfl rfl (Or.inl rfl) (xa_Mo_at (Nat.le_of_ble_eq_true rfl)) (CI.k h fun v3 g5 h => ?_)
        show Wp L xs xm_Mo_playsPlace 250 [.ref 400, .int x1, .int x2, x3] [.int v3, .ref 429, .int v1, .ref 430] g5 _
        obtain ⟨k2, ek2, bk2, h⟩ := h
        refine w_iaload (pc' := 251) (i := k2) rfl rfl q4.2 ek2 bk2 (by omega) ?_
        refine w_aload_n (pc' := 252) rfl rfl rfl ?_
        refine w_aload_n (pc' := 253) rfl rfl rfl ?_
        refine w_getI (pc' := 256) rfl rfl rfl rfl rfl (show xS0 L 400 = (12, 0) from rfl) ?_
        refine w_cv (pc' := 259) (cm := xm_Mo_manyCome) (as := [.int (g5 400 14)]) (a := 400) (rest := [.int (g5 429 k2), .int v1, .ref 430]) rfl rfl rfl  (xa_Mo_manyCome (Nat.le_of_ble_eq_true rfl)) (show xS0 L 400 = (12, 0) from rfl) rfl (CI.k h fun v4 g6 h => ?_)
        show Wp L xs xm_Mo_playsPlace 259 [.ref 400, .int x1, .int x2, x3] [.int v4, .int (g5 429 k2), .int v1, .ref 430] g6 _
        refine w_cs (pc' := 262) (cm := xm_Mo_later) (as := [.int (g5 429 k2), .int v4]) (rest := [.int v1, .ref 430]) rfl rfl rfl (Or.inl rfl) (xa_Mo_later (Nat.le_of_ble_eq_true rfl)) (CI.k h fun v5 g7 h => ?_)
        show Wp L xs xm_Mo_playsPlace 262 [.ref 400, .int x1, .int x2, x3] [.int v5, .int v1, .ref 430] g7 _
        obtain ⟨k3, ek3, bk3, h⟩ := h
        refine w_iastore (pc' := 263) (i := k3) rfl rfl q2.2 ek3 bk3 (by omega) ?_
        replace h := h _ rfl
        generalize xu g7 430 k3 v5 = g8 at h ⊢
        refine w_iinc (pc' := 266) rfl rfl rfl (v := (x2 + 1)) rfl (xl' := [.ref 400, .int x1, .int (x2 + 1), x3]) rfl ?_
        refine w_goto (pc' := 191) rfl rfl ?_
        exact h
      · replace h := h.2 hc
        refine w_ldcw (pc' := 238) rfl rfl (v := 99999999) rfl ?_
        refine w_goto (pc' := 262) rfl rfl ?_
        obtain ⟨k4, ek4, bk4, h⟩ := h
        refine w_iastore (pc' := 263) (i := k4) rfl rfl q2.2 ek4 bk4 (by omega) ?_
        replace h := h _ rfl
        generalize xu g3 430 k4 99999999 = g9 at h ⊢
        refine w_iinc (pc' := 266) rfl rfl rfl (v := (x2 + 1)) rfl (xl' := [.ref 400, .int x1, .int (x2 + 1), x3]) rfl ?_
        refine w_goto (pc' := 191) rfl rfl ?_
        exact h
theorem t_Mo_playsAccepts_0 {L : Nat} {xs : Nat → Int32} {x1 : Int32} {f : Hp} {Q : Hp → Prop}  (h : (((f 400 18) < x1 → Wp L xs xm_Mo_playsAccepts 17 [.ref 400, .int x1, .retAddr 0, .retAddr 0] [.int 99999999] f (QV Q)) ∧ (¬ (f 400 18) < x1 → Wp L xs xm_Mo_playsAccepts 17 [.ref 400, .int x1, .retAddr 0, .retAddr 0] [.int (x1 - 1)] f (QV Q)))) : CV L xs xm_Mo_playsAccepts [.ref 400, .int x1] f Q := by
  show Wp L xs xm_Mo_playsAccepts 0 [.ref 400, .int x1, .retAddr 0, .retAddr 0] [] f (QV Q)
  refine w_iload_n (pc' := 1) rfl rfl rfl ?_
  refine w_aload_n (pc' := 2) rfl rfl rfl ?_
  refine w_getI (pc' := 5) rfl rfl rfl rfl rfl (show xS0 L 400 = (12, 0) from rfl) ?_
  refine w_br2 (pc' := 8) (t := 14) rfl rfl rfl ic_le (fun hc => ?_) (fun hc => ?_)
  · replace h := h.2 hc
    refine w_iload_n (pc' := 15) rfl rfl rfl ?_
    refine w_iconst (pc' := 16) rfl rfl (v := 1) rfl ?_
    refine w_isub (pc' := 17) rfl rfl ?_
    exact h
  · replace h := h.1 (Classical.not_not.mp hc)
    refine w_ldcw (pc' := 11) rfl rfl (v := 99999999) rfl ?_
    refine w_goto (pc' := 17) rfl rfl ?_
    exact h
theorem t_Mo_playsAccepts_17 {L : Nat} {xs : Nat → Int32} {x1 : Int32} {s0 : Int32} {f : Hp} {Q : Hp → Prop}  (h : CI L xs xm_Mo_lowFrom [.ref 400, .int 0, .int (x1 - (f 400 15)), .int x1] f (fun v1 g1 => CI L xs xm_Mo_later [.int s0, .int v1] g1 (fun v2 g2 => CI L xs xm_Mo_at [.int 0, .int x1] g2 (fun v3 g3 => ((x1 = 1 → ∃ k3 : Nat, v3 = iN k3 ∧ k3 < 91 ∧ ∀ g7, g7 = xu g3 427 k3 v2 → Wp L xs xm_Mo_playsAccepts 70 [.ref 400, .int x1, .int v2, .int 1] [] g7 (QV Q)) ∧ (¬ x1 = 1 → CI L xs xm_Mo_at [.int 0, .int (x1 - 1)] g3 (fun v4 g4 => ∃ k1 : Nat, v4 = iN k1 ∧ k1 < 91 ∧ CI L xs xm_Mo_later [.int v2, .int (g4 427 k1)] g4 (fun v5 g5 => ∃ k2 : Nat, v3 = iN k2 ∧ k2 < 91 ∧ ∀ g6, g6 = xu g5 427 k2 v5 → Wp L xs xm_Mo_playsAccepts 70 [.ref 400, .int x1, .int v2, .int 1] [] g6 (QV Q))))))))) : Wp L xs xm_Mo_playsAccepts 17 [.ref 400, .int x1, .retAddr 0, .retAddr 0] [.int s0] f (QV Q) := by
  refine w_aload_n (pc' := 18) rfl rfl rfl ?_
  refine w_iconst (pc' := 19) rfl rfl (v := 0) rfl ?_
  refine w_iload_n (pc' := 20) rfl rfl rfl ?_
  refine w_aload_n (pc' := 21) rfl rfl rfl ?_
  refine w_getI (pc' := 24) rfl rfl rfl rfl rfl (show xS0 L 400 = (12, 0) from rfl) ?_
  refine w_isub (pc' := 25) rfl rfl ?_
  refine w_iload_n (pc' := 26) rfl rfl rfl ?_
  refine w_cv (pc' := 29) (cm := xm_Mo_lowFrom) (as := [.int 0, .int (x1 - (f 400 15)), .int x1]) (a := 400) (rest := [.int s0]) rfl rfl rfl  (xa_Mo_lowFrom (Nat.le_of_ble_eq_true rfl)) (show xS0 L 400 = (12, 0) from rfl) rfl (CI.k h fun v1 g1 h => ?_)
  show Wp L xs xm_Mo_playsAccepts 29 [.ref 400, .int x1, .retAddr 0, .retAddr 0] [.int v1, .int s0] g1 _
  refine w_cs (pc' := 32) (cm := xm_Mo_later) (as := [.int s0, .int v1]) (rest := []) rfl rfl rfl (Or.inl rfl) (xa_Mo_later (Nat.le_of_ble_eq_true rfl)) (CI.k h fun v2 g2 h => ?_)
  show Wp L xs xm_Mo_playsAccepts 32 [.ref 400, .int x1, .retAddr 0, .retAddr 0] [.int v2] g2 _
  refine w_istore_n (pc' := 33) rfl rfl (xl' := [.ref 400, .int x1, .int v2, .retAddr 0]) rfl ?_
  refine w_aload_n (pc' := 34) rfl rfl rfl ?_
  have q1 : xR0 400 48 = some 427 ∧ xS0 L 427 = (20, 91) := (kf_12_48 (show xS0 L 400 = (12, 0) from rfl))
  refine w_getR (pc' := 37) rfl rfl rfl rfl (show xS0 L 400 = (12, 0) from rfl) q1.1 ?_
  refine w_iconst (pc' := 38) rfl rfl (v := 0) rfl ?_
  refine w_iload_n (pc' := 39) rfl rfl rfl ?_
  refine w_cs (pc' := 42) (cm := xm_Mo_at) (as := [.int 0, .int x1]) (rest := [.ref 427]) rfl rfl rfl (Or.inl rfl) (xa_Mo_at (Nat.le_of_ble_eq_true rfl)) (CI.k h fun v3 g3 h => ?_)
  show Wp L xs xm_Mo_playsAccepts 42 [.ref 400, .int x1, .int v2, .retAddr 0] [.int v3, .ref 427] g3 _
  refine w_iload_n (pc' := 43) rfl rfl rfl ?_
  refine w_iconst (pc' := 44) rfl rfl (v := 1) rfl ?_
  refine w_br2 (pc' := 47) (t := 51) rfl rfl rfl ic_ne (fun hc => ?_) (fun hc => ?_)
  · replace h := h.2 hc
    refine w_iload_n (pc' := 52) rfl rfl rfl ?_
    refine w_aload_n (pc' := 53) rfl rfl rfl ?_
    have q2 : xR0 400 48 = some 427 ∧ xS0 L 427 = (20, 91) := (kf_12_48 (show xS0 L 400 = (12, 0) from rfl))
    refine w_getR (pc' := 56) rfl rfl rfl rfl (show xS0 L 400 = (12, 0) from rfl) q2.1 ?_
    refine w_iconst (pc' := 57) rfl rfl (v := 0) rfl ?_
    refine w_iload_n (pc' := 58) rfl rfl rfl ?_
    refine w_iconst (pc' := 59) rfl rfl (v := 1) rfl ?_
    refine w_isub (pc' := 60) rfl rfl ?_
    refine w_cs (pc' := 63) (cm := xm_Mo_at) (as := [.int 0, .int (x1 - 1)]) (rest := [.ref 427, .int v2, .int v3, .ref 427]) rfl rfl rfl (Or.inl rfl) (xa_Mo_at (Nat.le_of_ble_eq_true rfl)) (CI.k h fun v4 g4 h => ?_)
    show Wp L xs xm_Mo_playsAccepts 63 [.ref 400, .int x1, .int v2, .retAddr 0] [.int v4, .ref 427, .int v2, .int v3, .ref 427] g4 _
    obtain ⟨k1, ek1, bk1, h⟩ := h
    refine w_iaload (pc' := 64) (i := k1) rfl rfl q2.2 ek1 bk1 (by omega) ?_
    refine w_cs (pc' := 67) (cm := xm_Mo_later) (as := [.int v2, .int (g4 427 k1)]) (rest := [.int v3, .ref 427]) rfl rfl rfl (Or.inl rfl) (xa_Mo_later (Nat.le_of_ble_eq_true rfl)) (CI.k h fun v5 g5 h => ?_)
    show Wp L xs xm_Mo_playsAccepts 67 [.ref 400, .int x1, .int v2, .retAddr 0] [.int v5, .int v3, .ref 427] g5 _
    obtain ⟨k2, ek2, bk2, h⟩ := h
    refine w_iastore (pc' := 68) (i := k2) rfl rfl q1.2 ek2 bk2 (by omega) ?_
    replace h := h _ rfl
    generalize xu g5 427 k2 v5 = g6 at h ⊢
    refine w_iconst (pc' := 69) rfl rfl (v := 1) rfl ?_
    refine w_istore_n (pc' := 70) rfl rfl (xl' := [.ref 400, .int x1, .int v2, .int 1]) rfl ?_
    exact h
  · replace h := h.1 (Classical.not_not.mp hc)
    refine w_iload_n (pc' := 48) rfl rfl rfl ?_
    refine w_goto (pc' := 67) rfl rfl ?_
    obtain ⟨k3, ek3, bk3, h⟩ := h
    refine w_iastore (pc' := 68) (i := k3) rfl rfl q1.2 ek3 bk3 (by omega) ?_
    replace h := h _ rfl
    generalize xu g3 427 k3 v2 = g7 at h ⊢
    refine w_iconst (pc' := 69) rfl rfl (v := 1) rfl ?_
    refine w_istore_n (pc' := 70) rfl rfl (xl' := [.ref 400, .int x1, .int v2, .int 1]) rfl ?_
    exact h
theorem t_Mo_playsAccepts_70 {L : Nat} {xs : Nat → Int32} {x1 : Int32} {x2 : Int32} {x3 : Int32} {f : Hp} {Q : Hp → Prop}  (h : ((x3 < (f 400 13) → CI L xs xm_Mo_at [.int x3, .int x1] f (fun v1 g1 => CI L xs xm_Mo_isLiar [.ref 400, .int x3] g1 (fun v2 g2 => ((v2 = 0 → CI L xs xm_Mo_at [.int 0, .int x1] g2 (fun v3 g3 => ∃ k1 : Nat, v3 = iN k1 ∧ k1 < 91 ∧ CI L xs xm_Mo_delayOf [.ref 400, .int 0, .int x3] g3 (fun v4 g4 => CI L xs xm_Mo_behindBy [.int (g3 427 k1), .int v4] g4 (fun v5 g5 => CI L xs xm_Mo_lowFrom [.ref 400, .int x3, .int (x1 - (g5 400 15)), .int x1] g5 (fun v6 g6 => CI L xs xm_Mo_later [.int v5, .int v6] g6 (fun v7 g7 => ∃ k2 : Nat, v1 = iN k2 ∧ k2 < 91 ∧ ∀ g8, g8 = xu g7 427 k2 v7 → Wp L xs xm_Mo_playsAccepts 70 [.ref 400, .int x1, .int x2, .int (x3 + 1)] [] g8 (QV Q))))))) ∧ (¬ v2 = 0 → ∃ k3 : Nat, v1 = iN k3 ∧ k3 < 91 ∧ ∀ g9, g9 = xu g2 427 k3 99999999 → Wp L xs xm_Mo_playsAccepts 70 [.ref 400, .int x1, .int x2, .int (x3 + 1)] [] g9 (QV Q)))))) ∧ (¬ x3 < (f 400 13) → Q f))) : Wp L xs xm_Mo_playsAccepts 70 [.ref 400, .int x1, .int x2, .int x3] [] f (QV Q) := by
  refine w_iload_n (pc' := 71) rfl rfl rfl ?_
  refine w_aload_n (pc' := 72) rfl rfl rfl ?_
  refine w_getI (pc' := 75) rfl rfl rfl rfl rfl (show xS0 L 400 = (12, 0) from rfl) ?_
  refine w_br2 (pc' := 78) (t := 142) rfl rfl rfl ic_ge (fun hc => ?_) (fun hc => ?_)
  · replace h := h.2 hc
    exact w_return rfl rfl h
  · replace h := h.1 (Classical.not_not.mp hc)
    refine w_aload_n (pc' := 79) rfl rfl rfl ?_
    have q1 : xR0 400 48 = some 427 ∧ xS0 L 427 = (20, 91) := (kf_12_48 (show xS0 L 400 = (12, 0) from rfl))
    refine w_getR (pc' := 82) rfl rfl rfl rfl (show xS0 L 400 = (12, 0) from rfl) q1.1 ?_
    refine w_iload_n (pc' := 83) rfl rfl rfl ?_
    refine w_iload_n (pc' := 84) rfl rfl rfl ?_
    refine w_cs (pc' := 87) (cm := xm_Mo_at) (as := [.int x3, .int x1]) (rest := [.ref 427]) rfl rfl rfl (Or.inl rfl) (xa_Mo_at (Nat.le_of_ble_eq_true rfl)) (CI.k h fun v1 g1 h => ?_)
    show Wp L xs xm_Mo_playsAccepts 87 [.ref 400, .int x1, .int x2, .int x3] [.int v1, .ref 427] g1 _
    refine w_aload_n (pc' := 88) rfl rfl rfl ?_
    refine w_iload_n (pc' := 89) rfl rfl rfl ?_
    refine w_cv (pc' := 92) (cm := xm_Mo_isLiar) (as := [.int x3]) (a := 400) (rest := [.int v1, .ref 427]) rfl rfl rfl  (xa_Mo_isLiar (Nat.le_of_ble_eq_true rfl)) (show xS0 L 400 = (12, 0) from rfl) rfl (CI.k h fun v2 g2 h => ?_)
    show Wp L xs xm_Mo_playsAccepts 92 [.ref 400, .int x1, .int x2, .int x3] [.int v2, .int v1, .ref 427] g2 _
    refine w_br (pc' := 95) (t := 101) rfl rfl rfl ic_eq (fun hc => ?_) (fun hc => ?_)
    · replace h := h.1 hc
      refine w_aload_n (pc' := 102) rfl rfl rfl ?_
      have q2 : xR0 400 48 = some 427 ∧ xS0 L 427 = (20, 91) := (kf_12_48 (show xS0 L 400 = (12, 0) from rfl))
      refine w_getR (pc' := 105) rfl rfl rfl rfl (show xS0 L 400 = (12, 0) from rfl) q2.1 ?_
      refine w_iconst (pc' := 106) rfl rfl (v := 0) rfl ?_
      refine w_iload_n (pc' := 107) rfl rfl rfl ?_
      refine w_cs (pc' := 110) (cm := xm_Mo_at) (as := [.int 0, .int x1]) (rest := [.ref 427, .int v1, .ref 427]) rfl rfl rfl (Or.inl rfl) (xa_Mo_at (Nat.le_of_ble_eq_true rfl)) (CI.k h fun v3 g3 h => ?_)
      show Wp L xs xm_Mo_playsAccepts 110 [.ref 400, .int x1, .int x2, .int x3] [.int v3, .ref 427, .int v1, .ref 427] g3 _
      obtain ⟨k1, ek1, bk1, h⟩ := h
      refine w_iaload (pc' := 111) (i := k1) rfl rfl q2.2 ek1 bk1 (by omega) ?_
      refine w_aload_n (pc' := 112) rfl rfl rfl ?_
      refine w_iconst (pc' := 113) rfl rfl (v := 0) rfl ?_
      refine w_iload_n (pc' := 114) rfl rfl rfl ?_
      refine w_cv (pc' := 117) (cm := xm_Mo_delayOf) (as := [.int 0, .int x3]) (a := 400) (rest := [.int (g3 427 k1), .int v1, .ref 427]) rfl rfl rfl  (xa_Mo_delayOf (Nat.le_of_ble_eq_true rfl)) (show xS0 L 400 = (12, 0) from rfl) rfl (CI.k h fun v4 g4 h => ?_)
      show Wp L xs xm_Mo_playsAccepts 117 [.ref 400, .int x1, .int x2, .int x3] [.int v4, .int (g3 427 k1), .int v1, .ref 427] g4 _
      refine w_cs (pc' := 120) (cm := xm_Mo_behindBy) (as := [.int (g3 427 k1), .int v4]) (rest := [.int v1, .ref 427]) rfl rfl rfl (Or.inl rfl) (xa_Mo_behindBy (Nat.le_of_ble_eq_true rfl)) (CI.k h fun v5 g5 h => ?_)
      show Wp L xs xm_Mo_playsAccepts 120 [.ref 400, .int x1, .int x2, .int x3] [.int v5, .int v1, .ref 427] g5 _
      refine w_aload_n (pc' := 121) rfl rfl rfl ?_
      refine w_iload_n (pc' := 122) rfl rfl rfl ?_
      refine w_iload_n (pc' := 123) rfl rfl rfl ?_
      refine w_aload_n (pc' := 124) rfl rfl rfl ?_
      refine w_getI (pc' := 127) rfl rfl rfl rfl rfl (show xS0 L 400 = (12, 0) from rfl) ?_
      refine w_isub (pc' := 128) rfl rfl ?_
      refine w_iload_n (pc' := 129) rfl rfl rfl ?_
      refine w_cv (pc' := 132) (cm := xm_Mo_lowFrom) (as := [.int x3, .int (x1 - (g5 400 15)), .int x1]) (a := 400) (rest := [.int v5, .int v1, .ref 427]) rfl rfl rfl  (xa_Mo_lowFrom (Nat.le_of_ble_eq_true rfl)) (show xS0 L 400 = (12, 0) from rfl) rfl (CI.k h fun v6 g6 h => ?_)
      show Wp L xs xm_Mo_playsAccepts 132 [.ref 400, .int x1, .int x2, .int x3] [.int v6, .int v5, .int v1, .ref 427] g6 _
      refine w_cs (pc' := 135) (cm := xm_Mo_later) (as := [.int v5, .int v6]) (rest := [.int v1, .ref 427]) rfl rfl rfl (Or.inl rfl) (xa_Mo_later (Nat.le_of_ble_eq_true rfl)) (CI.k h fun v7 g7 h => ?_)
      show Wp L xs xm_Mo_playsAccepts 135 [.ref 400, .int x1, .int x2, .int x3] [.int v7, .int v1, .ref 427] g7 _
      obtain ⟨k2, ek2, bk2, h⟩ := h
      refine w_iastore (pc' := 136) (i := k2) rfl rfl q1.2 ek2 bk2 (by omega) ?_
      replace h := h _ rfl
      generalize xu g7 427 k2 v7 = g8 at h ⊢
      refine w_iinc (pc' := 139) rfl rfl rfl (v := (x3 + 1)) rfl (xl' := [.ref 400, .int x1, .int x2, .int (x3 + 1)]) rfl ?_
      refine w_goto (pc' := 70) rfl rfl ?_
      exact h
    · replace h := h.2 hc
      refine w_ldcw (pc' := 98) rfl rfl (v := 99999999) rfl ?_
      refine w_goto (pc' := 135) rfl rfl ?_
      obtain ⟨k3, ek3, bk3, h⟩ := h
      refine w_iastore (pc' := 136) (i := k3) rfl rfl q1.2 ek3 bk3 (by omega) ?_
      replace h := h _ rfl
      generalize xu g2 427 k3 99999999 = g9 at h ⊢
      refine w_iinc (pc' := 139) rfl rfl rfl (v := (x3 + 1)) rfl (xl' := [.ref 400, .int x1, .int x2, .int (x3 + 1)]) rfl ?_
      refine w_goto (pc' := 70) rfl rfl ?_
      exact h
theorem t_Mo_lowFrom_0 {L : Nat} {xs : Nat → Int32} {x1 : Int32} {x2 : Int32} {x3 : Int32} {f : Hp} {Q : Int32 → Hp → Prop}  (h : ((0 < x2 → Wp L xs xm_Mo_lowFrom 14 [.ref 400, .int x1, .int x2, .int x3, .int 99999999, .int x2] [] f (QI Q)) ∧ (¬ 0 < x2 → Q 0 f))) : CI L xs xm_Mo_lowFrom [.ref 400, .int x1, .int x2, .int x3] f Q := by
  show Wp L xs xm_Mo_lowFrom 0 [.ref 400, .int x1, .int x2, .int x3, .retAddr 0, .retAddr 0] [] f (QI Q)
  refine w_iload_n (pc' := 1) rfl rfl rfl ?_
  refine w_br (pc' := 4) (t := 6) rfl rfl rfl ic_gt (fun hc => ?_) (fun hc => ?_)
  · replace h := h.1 hc
    refine w_ldcw (pc' := 9) rfl rfl (v := 99999999) rfl ?_
    refine w_istore (pc' := 11) rfl rfl (xl' := [.ref 400, .int x1, .int x2, .int x3, .int 99999999, .retAddr 0]) rfl ?_
    refine w_iload_n (pc' := 12) rfl rfl rfl ?_
    refine w_istore (pc' := 14) rfl rfl (xl' := [.ref 400, .int x1, .int x2, .int x3, .int 99999999, .int x2]) rfl ?_
    exact h
  · replace h := h.2 hc
    refine w_iconst (pc' := 5) rfl rfl (v := 0) rfl ?_
    exact w_ireturn rfl rfl h
theorem t_Mo_lowFrom_14 {L : Nat} {xs : Nat → Int32} {x1 : Int32} {x2 : Int32} {x3 : Int32} {x4 : Int32} {x5 : Int32} {f : Hp} {Q : Int32 → Hp → Prop}  (h : ((x5 < x3 → CI L xs xm_Mo_at [.int x1, .int x5] f (fun v1 g1 => ∃ k1 : Nat, v1 = iN k1 ∧ k1 < 91 ∧ (((g1 430 k1) < x4 → CI L xs xm_Mo_at [.int x1, .int x5] g1 (fun v2 g2 => ∃ k2 : Nat, v2 = iN k2 ∧ k2 < 91 ∧ Wp L xs xm_Mo_lowFrom 14 [.ref 400, .int x1, .int x2, .int x3, .int (g2 430 k2), .int (x5 + 1)] [] g2 (QI Q))) ∧ (¬ (g1 430 k1) < x4 → Wp L xs xm_Mo_lowFrom 14 [.ref 400, .int x1, .int x2, .int x3, .int x4, .int (x5 + 1)] [] g1 (QI Q))))) ∧ (¬ x5 < x3 → Q x4 f))) : Wp L xs xm_Mo_lowFrom 14 [.ref 400, .int x1, .int x2, .int x3, .int x4, .int x5] [] f (QI Q) := by
  refine w_iload (pc' := 16) rfl rfl rfl ?_
  refine w_iload_n (pc' := 17) rfl rfl rfl ?_
  refine w_br2 (pc' := 20) (t := 55) rfl rfl rfl ic_ge (fun hc => ?_) (fun hc => ?_)
  · replace h := h.2 hc
    refine w_iload (pc' := 57) rfl rfl rfl ?_
    exact w_ireturn rfl rfl h
  · replace h := h.1 (Classical.not_not.mp hc)
    refine w_aload_n (pc' := 21) rfl rfl rfl ?_
    have q1 : xR0 400 51 = some 430 ∧ xS0 L 430 = (20, 91) := (kf_12_51 (show xS0 L 400 = (12, 0) from rfl))
    refine w_getR (pc' := 24) rfl rfl rfl rfl (show xS0 L 400 = (12, 0) from rfl) q1.1 ?_
    refine w_iload_n (pc' := 25) rfl rfl rfl ?_
    refine w_iload (pc' := 27) rfl rfl rfl ?_
    refine w_cs (pc' := 30) (cm := xm_Mo_at) (as := [.int x1, .int x5]) (rest := [.ref 430]) rfl rfl rfl (Or.inl rfl) (xa_Mo_at (Nat.le_of_ble_eq_true rfl)) (CI.k h fun v1 g1 h => ?_)
    show Wp L xs xm_Mo_lowFrom 30 [.ref 400, .int x1, .int x2, .int x3, .int x4, .int x5] [.int v1, .ref 430] g1 _
    obtain ⟨k1, ek1, bk1, h⟩ := h
    refine w_iaload (pc' := 31) (i := k1) rfl rfl q1.2 ek1 bk1 (by omega) ?_
    refine w_iload (pc' := 33) rfl rfl rfl ?_
    refine w_br2 (pc' := 36) (t := 49) rfl rfl rfl ic_ge (fun hc => ?_) (fun hc => ?_)
    · replace h := h.2 hc
      refine w_iinc (pc' := 52) rfl rfl rfl (v := (x5 + 1)) rfl (xl' := [.ref 400, .int x1, .int x2, .int x3, .int x4, .int (x5 + 1)]) rfl ?_
      refine w_goto (pc' := 14) rfl rfl ?_
      exact h
    · replace h := h.1 (Classical.not_not.mp hc)
      refine w_aload_n (pc' := 37) rfl rfl rfl ?_
      have q2 : xR0 400 51 = some 430 ∧ xS0 L 430 = (20, 91) := (kf_12_51 (show xS0 L 400 = (12, 0) from rfl))
      refine w_getR (pc' := 40) rfl rfl rfl rfl (show xS0 L 400 = (12, 0) from rfl) q2.1 ?_
      refine w_iload_n (pc' := 41) rfl rfl rfl ?_
      refine w_iload (pc' := 43) rfl rfl rfl ?_
      refine w_cs (pc' := 46) (cm := xm_Mo_at) (as := [.int x1, .int x5]) (rest := [.ref 430]) rfl rfl rfl (Or.inl rfl) (xa_Mo_at (Nat.le_of_ble_eq_true rfl)) (CI.k h fun v2 g2 h => ?_)
      show Wp L xs xm_Mo_lowFrom 46 [.ref 400, .int x1, .int x2, .int x3, .int x4, .int x5] [.int v2, .ref 430] g2 _
      obtain ⟨k2, ek2, bk2, h⟩ := h
      refine w_iaload (pc' := 47) (i := k2) rfl rfl q2.2 ek2 bk2 (by omega) ?_
      refine w_istore (pc' := 49) rfl rfl (xl' := [.ref 400, .int x1, .int x2, .int x3, .int (g2 430 k2), .int x5]) rfl ?_
      refine w_iinc (pc' := 52) rfl rfl rfl (v := (x5 + 1)) rfl (xl' := [.ref 400, .int x1, .int x2, .int x3, .int (g2 430 k2), .int (x5 + 1)]) rfl ?_
      refine w_goto (pc' := 14) rfl rfl ?_
      exact h
theorem t_Mo_later_0 {L : Nat} {xs : Nat → Int32} {x0 : Int32} {x1 : Int32} {f : Hp} {Q : Int32 → Hp → Prop}  (h : ((x0 < 99999999 → ((x1 < 99999999 → ((x1 < x0 → Q x0 f) ∧ (¬ x1 < x0 → Q x1 f))) ∧ (¬ x1 < 99999999 → Q 99999999 f))) ∧ (¬ x0 < 99999999 → Q 99999999 f))) : CI L xs xm_Mo_later [.int x0, .int x1] f Q := by
  show Wp L xs xm_Mo_later 0 [.int x0, .int x1] [] f (QI Q)
  refine w_iload_n (pc' := 1) rfl rfl rfl ?_
  refine w_ldcw (pc' := 4) rfl rfl (v := 99999999) rfl ?_
  refine w_br2 (pc' := 7) (t := 14) rfl rfl rfl ic_ge (fun hc => ?_) (fun hc => ?_)
  · replace h := h.2 hc
    refine w_ldcw (pc' := 17) rfl rfl (v := 99999999) rfl ?_
    refine w_goto (pc' := 30) rfl rfl ?_
    exact w_ireturn rfl rfl h
  · replace h := h.1 (Classical.not_not.mp hc)
    refine w_iload_n (pc' := 8) rfl rfl rfl ?_
    refine w_ldcw (pc' := 11) rfl rfl (v := 99999999) rfl ?_
    refine w_br2 (pc' := 14) (t := 20) rfl rfl rfl ic_lt (fun hc => ?_) (fun hc => ?_)
    · replace h := h.1 hc
      refine w_iload_n (pc' := 21) rfl rfl rfl ?_
      refine w_iload_n (pc' := 22) rfl rfl rfl ?_
      refine w_br2 (pc' := 25) (t := 29) rfl rfl rfl ic_le (fun hc => ?_) (fun hc => ?_)
      · replace h := h.2 hc
        refine w_iload_n (pc' := 30) rfl rfl rfl ?_
        exact w_ireturn rfl rfl h
      · replace h := h.1 (Classical.not_not.mp hc)
        refine w_iload_n (pc' := 26) rfl rfl rfl ?_
        refine w_goto (pc' := 30) rfl rfl ?_
        exact w_ireturn rfl rfl h
    · replace h := h.2 hc
      refine w_ldcw (pc' := 17) rfl rfl (v := 99999999) rfl ?_
      refine w_goto (pc' := 30) rfl rfl ?_
      exact w_ireturn rfl rfl h
theorem t_Mo_behindBy_0 {L : Nat} {xs : Nat → Int32} {x0 : Int32} {x1 : Int32} {f : Hp} {Q : Int32 → Hp → Prop}  (h : ((x0 < 99999999 → Q (x0 + x1) f) ∧ (¬ x0 < 99999999 → Q 99999999 f))) : CI L xs xm_Mo_behindBy [.int x0, .int x1] f Q := by
  show Wp L xs xm_Mo_behindBy 0 [.int x0, .int x1] [] f (QI Q)
  refine w_iload_n (pc' := 1) rfl rfl rfl ?_
  refine w_ldcw (pc' := 4) rfl rfl (v := 99999999) rfl ?_
  refine w_br2 (pc' := 7) (t := 13) rfl rfl rfl ic_lt (fun hc => ?_) (fun hc => ?_)
  · replace h := h.1 hc
    refine w_iload_n (pc' := 14) rfl rfl rfl ?_
    refine w_iload_n (pc' := 15) rfl rfl rfl ?_
    refine w_iadd (pc' := 16) rfl rfl ?_
    exact w_ireturn rfl rfl h
  · replace h := h.2 hc
    refine w_ldcw (pc' := 10) rfl rfl (v := 99999999) rfl ?_
    refine w_goto (pc' := 16) rfl rfl ?_
    exact w_ireturn rfl rfl h
theorem t_Mo_laysComes_0 {L : Nat} {xs : Nat → Int32} {x1 : Nat} {nx1 : Nat} {x2 : Int32} {x3 : Int32} {f : Hp} {Q : Hp → Prop} (qx1 : xS0 L x1 = (20, nx1)) (h : Wp L xs xm_Mo_laysComes 3 [.ref 400, .ref x1, .int x2, .int x3, .int 0] [] f (QV Q)) : CV L xs xm_Mo_laysComes [.ref 400, .ref x1, .int x2, .int x3] f Q := by
  show Wp L xs xm_Mo_laysComes 0 [.ref 400, .ref x1, .int x2, .int x3, .retAddr 0] [] f (QV Q)
  refine w_iconst (pc' := 1) rfl rfl (v := 0) rfl ?_
  refine w_istore (pc' := 3) rfl rfl (xl' := [.ref 400, .ref x1, .int x2, .int x3, .int 0]) rfl ?_
  exact h
theorem t_Mo_laysComes_3 {L : Nat} {xs : Nat → Int32} {x1 : Nat} {nx1 : Nat} {x2 : Int32} {x3 : Int32} {x4 : Int32} {f : Hp} {Q : Hp → Prop} (qx1 : xS0 L x1 = (20, nx1)) (h : ((x4 < 7 → ((x4 < (f 400 13) → CI L xs xm_Mo_isLiar [.ref 400, .int x4] f (fun v1 g2 => ((v1 = 0 → ((x4 = x2 → CI L xs xm_Mo_at [.int x4, .int x3] g2 (fun v5 g7 => ∃ k4 : Nat, v5 = iN k4 ∧ k4 < nx1 ∧ ∃ k5 : Nat, x4 = iN k5 ∧ k5 < 7 ∧ ∀ g8, g8 = xu g7 431 k5 (g7 x1 k4) → Wp L xs xm_Mo_laysComes 3 [.ref 400, .ref x1, .int x2, .int x3, .int (x4 + 1)] [] g8 (QV Q))) ∧ (¬ x4 = x2 → CI L xs xm_Mo_at [.int x4, .int x3] g2 (fun v2 g3 => ∃ k2 : Nat, v2 = iN k2 ∧ k2 < nx1 ∧ CI L xs xm_Mo_delayOf [.ref 400, .int x4, .int x2] g3 (fun v3 g4 => CI L xs xm_Mo_behindBy [.int (g3 x1 k2), .int v3] g4 (fun v4 g5 => ∃ k3 : Nat, x4 = iN k3 ∧ k3 < 7 ∧ ∀ g6, g6 = xu g5 431 k3 v4 → Wp L xs xm_Mo_laysComes 3 [.ref 400, .ref x1, .int x2, .int x3, .int (x4 + 1)] [] g6 (QV Q))))))) ∧ (¬ v1 = 0 → ∃ k6 : Nat, x4 = iN k6 ∧ k6 < 7 ∧ ∀ g9, g9 = xu g2 431 k6 99999999 → Wp L xs xm_Mo_laysComes 3 [.ref 400, .ref x1, .int x2, .int x3, .int (x4 + 1)] [] g9 (QV Q))))) ∧ (¬ x4 < (f 400 13) → ∃ k1 : Nat, x4 = iN k1 ∧ k1 < 7 ∧ ∀ g1, g1 = xu f 431 k1 99999999 → Wp L xs xm_Mo_laysComes 3 [.ref 400, .ref x1, .int x2, .int x3, .int (x4 + 1)] [] g1 (QV Q)))) ∧ (¬ x4 < 7 → Q f))) : Wp L xs xm_Mo_laysComes 3 [.ref 400, .ref x1, .int x2, .int x3, .int x4] [] f (QV Q) := by
  refine w_iload (pc' := 5) rfl rfl rfl ?_
  refine w_bipush (pc' := 7) rfl rfl (v := 7) rfl ?_
  refine w_br2 (pc' := 10) (t := 82) rfl rfl rfl ic_ge (fun hc => ?_) (fun hc => ?_)
  · replace h := h.2 hc
    exact w_return rfl rfl h
  · replace h := h.1 (Classical.not_not.mp hc)
    refine w_aload_n (pc' := 11) rfl rfl rfl ?_
    have q1 : xR0 400 52 = some 431 ∧ xS0 L 431 = (20, 7) := (kf_12_52 (show xS0 L 400 = (12, 0) from rfl))
    refine w_getR (pc' := 14) rfl rfl rfl rfl (show xS0 L 400 = (12, 0) from rfl) q1.1 ?_
    refine w_iload (pc' := 16) rfl rfl rfl ?_
    refine w_iload (pc' := 18) rfl rfl rfl ?_
    refine w_aload_n (pc' := 19) rfl rfl rfl ?_
    refine w_getI (pc' := 22) rfl rfl rfl rfl rfl (show xS0 L 400 = (12, 0) from rfl) ?_
    refine w_br2 (pc' := 25) (t := 34) rfl rfl rfl ic_ge (fun hc => ?_) (fun hc => ?_)
    · replace h := h.2 hc
      refine w_ldcw (pc' := 37) rfl rfl (v := 99999999) rfl ?_
      refine w_goto (pc' := 75) rfl rfl ?_
      obtain ⟨k1, ek1, bk1, h⟩ := h
      refine w_iastore (pc' := 76) (i := k1) rfl rfl q1.2 ek1 bk1 (by omega) ?_
      replace h := h _ rfl
      generalize xu f 431 k1 99999999 = g1 at h ⊢
      refine w_iinc (pc' := 79) rfl rfl rfl (v := (x4 + 1)) rfl (xl' := [.ref 400, .ref x1, .int x2, .int x3, .int (x4 + 1)]) rfl ?_
      refine w_goto (pc' := 3) rfl rfl ?_
      exact h
    · replace h := h.1 (Classical.not_not.mp hc)
      refine w_aload_n (pc' := 26) rfl rfl rfl ?_
      refine w_iload (pc' := 28) rfl rfl rfl ?_
      refine w_cv (pc' := 31) (cm := xm_Mo_isLiar) (as := [.int x4]) (a := 400) (rest := [.int x4, .ref 431]) rfl rfl rfl  (xa_Mo_isLiar (Nat.le_of_ble_eq_true rfl)) (show xS0 L 400 = (12, 0) from rfl) rfl (CI.k h fun v1 g2 h => ?_)
      show Wp L xs xm_Mo_laysComes 31 [.ref 400, .ref x1, .int x2, .int x3, .int x4] [.int v1, .int x4, .ref 431] g2 _
      refine w_br (pc' := 34) (t := 40) rfl rfl rfl ic_eq (fun hc => ?_) (fun hc => ?_)
      · replace h := h.1 hc
        refine w_iload (pc' := 42) rfl rfl rfl ?_
        refine w_iload_n (pc' := 43) rfl rfl rfl ?_
        refine w_br2 (pc' := 46) (t := 57) rfl rfl rfl ic_ne (fun hc => ?_) (fun hc => ?_)
        · replace h := h.2 hc
          refine w_aload_n (pc' := 58) rfl rfl rfl ?_
          refine w_iload (pc' := 60) rfl rfl rfl ?_
          refine w_iload_n (pc' := 61) rfl rfl rfl ?_
          refine w_cs (pc' := 64) (cm := xm_Mo_at) (as := [.int x4, .int x3]) (rest := [.ref x1, .int x4, .ref 431]) rfl rfl rfl (Or.inl rfl) (xa_Mo_at (Nat.le_of_ble_eq_true rfl)) (CI.k h fun v2 g3 h => ?_)
          show Wp L xs xm_Mo_laysComes 64 [.ref 400, .ref x1, .int x2, .int x3, .int x4] [.int v2, .ref x1, .int x4, .ref 431] g3 _
          obtain ⟨k2, ek2, bk2, h⟩ := h
          refine w_iaload (pc' := 65) (i := k2) rfl rfl qx1 ek2 bk2 (k_len qx1 rfl) ?_
          refine w_aload_n (pc' := 66) rfl rfl rfl ?_
          refine w_iload (pc' := 68) rfl rfl rfl ?_
          refine w_iload_n (pc' := 69) rfl rfl rfl ?_
          refine w_cv (pc' := 72) (cm := xm_Mo_delayOf) (as := [.int x4, .int x2]) (a := 400) (rest := [.int (g3 x1 k2), .int x4, .ref 431]) rfl rfl rfl  (xa_Mo_delayOf (Nat.le_of_ble_eq_true rfl)) (show xS0 L 400 = (12, 0) from rfl) rfl (CI.k h fun v3 g4 h => ?_)
          show Wp L xs xm_Mo_laysComes 72 [.ref 400, .ref x1, .int x2, .int x3, .int x4] [.int v3, .int (g3 x1 k2), .int x4, .ref 431] g4 _
          refine w_cs (pc' := 75) (cm := xm_Mo_behindBy) (as := [.int (g3 x1 k2), .int v3]) (rest := [.int x4, .ref 431]) rfl rfl rfl (Or.inl rfl) (xa_Mo_behindBy (Nat.le_of_ble_eq_true rfl)) (CI.k h fun v4 g5 h => ?_)
          show Wp L xs xm_Mo_laysComes 75 [.ref 400, .ref x1, .int x2, .int x3, .int x4] [.int v4, .int x4, .ref 431] g5 _
          obtain ⟨k3, ek3, bk3, h⟩ := h
          refine w_iastore (pc' := 76) (i := k3) rfl rfl q1.2 ek3 bk3 (by omega) ?_
          replace h := h _ rfl
          generalize xu g5 431 k3 v4 = g6 at h ⊢
          refine w_iinc (pc' := 79) rfl rfl rfl (v := (x4 + 1)) rfl (xl' := [.ref 400, .ref x1, .int x2, .int x3, .int (x4 + 1)]) rfl ?_
          refine w_goto (pc' := 3) rfl rfl ?_
          exact h
        · replace h := h.1 (Classical.not_not.mp hc)
          refine w_aload_n (pc' := 47) rfl rfl rfl ?_
          refine w_iload (pc' := 49) rfl rfl rfl ?_
          refine w_iload_n (pc' := 50) rfl rfl rfl ?_
          refine w_cs (pc' := 53) (cm := xm_Mo_at) (as := [.int x4, .int x3]) (rest := [.ref x1, .int x4, .ref 431]) rfl rfl rfl (Or.inl rfl) (xa_Mo_at (Nat.le_of_ble_eq_true rfl)) (CI.k h fun v5 g7 h => ?_)
          show Wp L xs xm_Mo_laysComes 53 [.ref 400, .ref x1, .int x2, .int x3, .int x4] [.int v5, .ref x1, .int x4, .ref 431] g7 _
          obtain ⟨k4, ek4, bk4, h⟩ := h
          refine w_iaload (pc' := 54) (i := k4) rfl rfl qx1 ek4 bk4 (k_len qx1 rfl) ?_
          refine w_goto (pc' := 75) rfl rfl ?_
          obtain ⟨k5, ek5, bk5, h⟩ := h
          refine w_iastore (pc' := 76) (i := k5) rfl rfl q1.2 ek5 bk5 (by omega) ?_
          replace h := h _ rfl
          generalize xu g7 431 k5 (g7 x1 k4) = g8 at h ⊢
          refine w_iinc (pc' := 79) rfl rfl rfl (v := (x4 + 1)) rfl (xl' := [.ref 400, .ref x1, .int x2, .int x3, .int (x4 + 1)]) rfl ?_
          refine w_goto (pc' := 3) rfl rfl ?_
          exact h
      · replace h := h.2 hc
        refine w_ldcw (pc' := 37) rfl rfl (v := 99999999) rfl ?_
        refine w_goto (pc' := 75) rfl rfl ?_
        obtain ⟨k6, ek6, bk6, h⟩ := h
        refine w_iastore (pc' := 76) (i := k6) rfl rfl q1.2 ek6 bk6 (by omega) ?_
        replace h := h _ rfl
        generalize xu g2 431 k6 99999999 = g9 at h ⊢
        refine w_iinc (pc' := 79) rfl rfl rfl (v := (x4 + 1)) rfl (xl' := [.ref 400, .ref x1, .int x2, .int x3, .int (x4 + 1)]) rfl ?_
        refine w_goto (pc' := 3) rfl rfl ?_
        exact h
theorem t_Mo_manyCome_0 {L : Nat} {xs : Nat → Int32} {x1 : Int32} {f : Hp} {Q : Int32 → Hp → Prop}  (h : Wp L xs xm_Mo_manyCome 6 [.ref 400, .int x1, .int 99999999, .int 0, .retAddr 0, .retAddr 0] [] f (QI Q)) : CI L xs xm_Mo_manyCome [.ref 400, .int x1] f Q := by
  show Wp L xs xm_Mo_manyCome 0 [.ref 400, .int x1, .retAddr 0, .retAddr 0, .retAddr 0, .retAddr 0] [] f (QI Q)
  refine w_ldcw (pc' := 3) rfl rfl (v := 99999999) rfl ?_
  refine w_istore_n (pc' := 4) rfl rfl (xl' := [.ref 400, .int x1, .int 99999999, .retAddr 0, .retAddr 0, .retAddr 0]) rfl ?_
  refine w_iconst (pc' := 5) rfl rfl (v := 0) rfl ?_
  refine w_istore_n (pc' := 6) rfl rfl (xl' := [.ref 400, .int x1, .int 99999999, .int 0, .retAddr 0, .retAddr 0]) rfl ?_
  exact h
theorem t_Mo_manyCome_6 {L : Nat} {xs : Nat → Int32} {x1 : Int32} {x2 : Int32} {x3 : Int32} {x4 : Value} {x5 : Value} {f : Hp} {Q : Int32 → Hp → Prop} (cx4 : (x4.category != 2) = true) (cx5 : (x5.category != 2) = true) (h : ((x3 < (f 400 13) → Wp L xs xm_Mo_manyCome 20 [.ref 400, .int x1, .int x2, .int x3, .int 0, .int 0] [] f (QI Q)) ∧ (¬ x3 < (f 400 13) → Q x2 f))) : Wp L xs xm_Mo_manyCome 6 [.ref 400, .int x1, .int x2, .int x3, x4, x5] [] f (QI Q) := by
  refine w_iload_n (pc' := 7) rfl rfl rfl ?_
  refine w_aload_n (pc' := 8) rfl rfl rfl ?_
  refine w_getI (pc' := 11) rfl rfl rfl rfl rfl (show xS0 L 400 = (12, 0) from rfl) ?_
  refine w_br2 (pc' := 14) (t := 90) rfl rfl rfl ic_ge (fun hc => ?_) (fun hc => ?_)
  · replace h := h.2 hc
    refine w_iload_n (pc' := 91) rfl rfl rfl ?_
    exact w_ireturn rfl rfl h
  · replace h := h.1 (Classical.not_not.mp hc)
    refine w_iconst (pc' := 15) rfl rfl (v := 0) rfl ?_
    refine w_istore (pc' := 17) rfl rfl (xl' := [.ref 400, .int x1, .int x2, .int x3, .int 0, x5]) rfl ?_
    refine w_iconst (pc' := 18) rfl rfl (v := 0) rfl ?_
    refine w_istore (pc' := 20) rfl rfl (xl' := [.ref 400, .int x1, .int x2, .int x3, .int 0, .int 0]) rfl ?_
    exact h
theorem t_Mo_manyCome_20 {L : Nat} {xs : Nat → Int32} {x1 : Int32} {x2 : Int32} {x3 : Int32} {x4 : Int32} {x5 : Int32} {f : Hp} {Q : Int32 → Hp → Prop}  (h : ((x5 < (f 400 13) → ∃ k2 : Nat, x5 = iN k2 ∧ k2 < 7 ∧ ∃ k3 : Nat, x3 = iN k3 ∧ k3 < 7 ∧ (((f 431 k3) < (f 431 k2) → Wp L xs xm_Mo_manyCome 20 [.ref 400, .int x1, .int x2, .int x3, .int (x4 + 0), .int (x5 + 1)] [] f (QI Q)) ∧ (¬ (f 431 k3) < (f 431 k2) → Wp L xs xm_Mo_manyCome 20 [.ref 400, .int x1, .int x2, .int x3, .int (x4 + 1), .int (x5 + 1)] [] f (QI Q)))) ∧ (¬ x5 < (f 400 13) → ((x4 < x1 → Wp L xs xm_Mo_manyCome 6 [.ref 400, .int x1, .int x2, .int (x3 + 1), .int x4, .int x5] [] f (QI Q)) ∧ (¬ x4 < x1 → ∃ k1 : Nat, x3 = iN k1 ∧ k1 < 7 ∧ (((f 431 k1) < x2 → Wp L xs xm_Mo_manyCome 6 [.ref 400, .int x1, .int (f 431 k1), .int (x3 + 1), .int x4, .int x5] [] f (QI Q)) ∧ (¬ (f 431 k1) < x2 → Wp L xs xm_Mo_manyCome 6 [.ref 400, .int x1, .int x2, .int (x3 + 1), .int x4, .int x5] [] f (QI Q)))))))) : Wp L xs xm_Mo_manyCome 20 [.ref 400, .int x1, .int x2, .int x3, .int x4, .int x5] [] f (QI Q) := by
  refine w_iload (pc' := 22) rfl rfl rfl ?_
  refine w_aload_n (pc' := 23) rfl rfl rfl ?_
  refine w_getI (pc' := 26) rfl rfl rfl rfl rfl (show xS0 L 400 = (12, 0) from rfl) ?_
  refine w_br2 (pc' := 29) (t := 61) rfl rfl rfl ic_ge (fun hc => ?_) (fun hc => ?_)
  · replace h := h.2 hc
    refine w_iload (pc' := 63) rfl rfl rfl ?_
    refine w_iload_n (pc' := 64) rfl rfl rfl ?_
    refine w_br2 (pc' := 67) (t := 84) rfl rfl rfl ic_lt (fun hc => ?_) (fun hc => ?_)
    · replace h := h.1 hc
      refine w_iinc (pc' := 87) rfl rfl rfl (v := (x3 + 1)) rfl (xl' := [.ref 400, .int x1, .int x2, .int (x3 + 1), .int x4, .int x5]) rfl ?_
      refine w_goto (pc' := 6) rfl rfl ?_
      exact h
    · replace h := h.2 hc
      refine w_aload_n (pc' := 68) rfl rfl rfl ?_
      have q1 : xR0 400 52 = some 431 ∧ xS0 L 431 = (20, 7) := (kf_12_52 (show xS0 L 400 = (12, 0) from rfl))
      refine w_getR (pc' := 71) rfl rfl rfl rfl (show xS0 L 400 = (12, 0) from rfl) q1.1 ?_
      refine w_iload_n (pc' := 72) rfl rfl rfl ?_
      obtain ⟨k1, ek1, bk1, h⟩ := h
      refine w_iaload (pc' := 73) (i := k1) rfl rfl q1.2 ek1 bk1 (by omega) ?_
      refine w_iload_n (pc' := 74) rfl rfl rfl ?_
      refine w_br2 (pc' := 77) (t := 84) rfl rfl rfl ic_ge (fun hc => ?_) (fun hc => ?_)
      · replace h := h.2 hc
        refine w_iinc (pc' := 87) rfl rfl rfl (v := (x3 + 1)) rfl (xl' := [.ref 400, .int x1, .int x2, .int (x3 + 1), .int x4, .int x5]) rfl ?_
        refine w_goto (pc' := 6) rfl rfl ?_
        exact h
      · replace h := h.1 (Classical.not_not.mp hc)
        refine w_aload_n (pc' := 78) rfl rfl rfl ?_
        have q2 : xR0 400 52 = some 431 ∧ xS0 L 431 = (20, 7) := (kf_12_52 (show xS0 L 400 = (12, 0) from rfl))
        refine w_getR (pc' := 81) rfl rfl rfl rfl (show xS0 L 400 = (12, 0) from rfl) q2.1 ?_
        refine w_iload_n (pc' := 82) rfl rfl rfl ?_
        refine w_iaload (pc' := 83) (i := k1) rfl rfl q2.2 ek1 bk1 (by omega) ?_
        refine w_istore_n (pc' := 84) rfl rfl (xl' := [.ref 400, .int x1, .int (f 431 k1), .int x3, .int x4, .int x5]) rfl ?_
        refine w_iinc (pc' := 87) rfl rfl rfl (v := (x3 + 1)) rfl (xl' := [.ref 400, .int x1, .int (f 431 k1), .int (x3 + 1), .int x4, .int x5]) rfl ?_
        refine w_goto (pc' := 6) rfl rfl ?_
        exact h
  · replace h := h.1 (Classical.not_not.mp hc)
    refine w_iload (pc' := 31) rfl rfl rfl ?_
    refine w_aload_n (pc' := 32) rfl rfl rfl ?_
    have q3 : xR0 400 52 = some 431 ∧ xS0 L 431 = (20, 7) := (kf_12_52 (show xS0 L 400 = (12, 0) from rfl))
    refine w_getR (pc' := 35) rfl rfl rfl rfl (show xS0 L 400 = (12, 0) from rfl) q3.1 ?_
    refine w_iload (pc' := 37) rfl rfl rfl ?_
    obtain ⟨k2, ek2, bk2, h⟩ := h
    refine w_iaload (pc' := 38) (i := k2) rfl rfl q3.2 ek2 bk2 (by omega) ?_
    refine w_aload_n (pc' := 39) rfl rfl rfl ?_
    have q4 : xR0 400 52 = some 431 ∧ xS0 L 431 = (20, 7) := (kf_12_52 (show xS0 L 400 = (12, 0) from rfl))
    refine w_getR (pc' := 42) rfl rfl rfl rfl (show xS0 L 400 = (12, 0) from rfl) q4.1 ?_
    refine w_iload_n (pc' := 43) rfl rfl rfl ?_
    obtain ⟨k3, ek3, bk3, h⟩ := h
    refine w_iaload (pc' := 44) (i := k3) rfl rfl q4.2 ek3 bk3 (by omega) ?_
    refine w_br2 (pc' := 47) (t := 51) rfl rfl rfl ic_gt (fun hc => ?_) (fun hc => ?_)
    · replace h := h.1 hc
      refine w_iconst (pc' := 52) rfl rfl (v := 0) rfl ?_
      refine w_iadd (pc' := 53) rfl rfl ?_
      refine w_istore (pc' := 55) rfl rfl (xl' := [.ref 400, .int x1, .int x2, .int x3, .int (x4 + 0), .int x5]) rfl ?_
      refine w_iinc (pc' := 58) rfl rfl rfl (v := (x5 + 1)) rfl (xl' := [.ref 400, .int x1, .int x2, .int x3, .int (x4 + 0), .int (x5 + 1)]) rfl ?_
      refine w_goto (pc' := 20) rfl rfl ?_
      exact h
    · replace h := h.2 hc
      refine w_iconst (pc' := 48) rfl rfl (v := 1) rfl ?_
      refine w_goto (pc' := 52) rfl rfl ?_
      refine w_iadd (pc' := 53) rfl rfl ?_
      refine w_istore (pc' := 55) rfl rfl (xl' := [.ref 400, .int x1, .int x2, .int x3, .int (x4 + 1), .int x5]) rfl ?_
      refine w_iinc (pc' := 58) rfl rfl rfl (v := (x5 + 1)) rfl (xl' := [.ref 400, .int x1, .int x2, .int x3, .int (x4 + 1), .int (x5 + 1)]) rfl ?_
      refine w_goto (pc' := 20) rfl rfl ?_
      exact h
theorem t_Mo_minuteOf_0 {L : Nat} {xs : Nat → Int32} {x0 : Int32} {f : Hp} {Q : Int32 → Hp → Prop}  (h : ((400 < x0 → Q (-1) f) ∧ (¬ 400 < x0 → Q x0 f))) : CI L xs xm_Mo_minuteOf [.int x0] f Q := by
  show Wp L xs xm_Mo_minuteOf 0 [.int x0] [] f (QI Q)
  refine w_iload_n (pc' := 1) rfl rfl rfl ?_
  refine w_sipush (pc' := 4) rfl rfl (v := 400) rfl ?_
  refine w_br2 (pc' := 7) (t := 11) rfl rfl rfl ic_le (fun hc => ?_) (fun hc => ?_)
  · replace h := h.2 hc
    refine w_iload_n (pc' := 12) rfl rfl rfl ?_
    exact w_ireturn rfl rfl h
  · replace h := h.1 (Classical.not_not.mp hc)
    refine w_iconst (pc' := 8) rfl rfl (v := (-1)) rfl ?_
    refine w_goto (pc' := 12) rfl rfl ?_
    exact w_ireturn rfl rfl h
theorem t_Mo_pace_0 {L : Nat} {xs : Nat → Int32} {x1 : Int32} {x2 : Int32} {f : Hp} {Q : Int32 → Hp → Prop}  (h : CI L xs xm_Mo_isCouncil [.ref 400, .int x1] f (fun v1 g1 => ((v1 = 0 → Q (-2) g1) ∧ (¬ v1 = 0 → CV L xs xm_Mo_plays [.ref 400] g1 (fun g2 => CV L xs xm_Mo_sendsAll [.ref 400] g2 (fun g3 => ((x2 = 0 → Q (g3 400 53) g3) ∧ (¬ x2 = 0 → ((x2 = 1 → Q (g3 400 54) g3) ∧ (¬ x2 = 1 → ((x2 = 2 → CI L xs xm_Mo_slowestOf [.ref 400] g3 (fun v2 g4 => Q v2 g4)) ∧ (¬ x2 = 2 → ((x2 = 3 → CI L xs xm_Mo_tightOf [.ref 400] g3 (fun v3 g5 => Q v3 g5)) ∧ (¬ x2 = 3 → ((x2 = 4 → CI L xs xm_Mo_spareOf [.ref 400] g3 (fun v4 g6 => Q v4 g6)) ∧ (¬ x2 = 4 → CI L xs xm_Mo_isIn [.int x2, .int 11, .int 20] g3 (fun v5 g7 => ((v5 = 0 → Q (-2) g7) ∧ (¬ v5 = 0 → CI L xs xm_Mo_doneOf [.ref 400, .int (x2 - 10)] g7 (fun v6 g8 => CI L xs xm_Mo_minuteOf [.int v6] g8 (fun v7 g9 => Q v7 g9))))))))))))))))))))) : CI L xs xm_Mo_pace [.ref 400, .int x1, .int x2] f Q := by
  show Wp L xs xm_Mo_pace 0 [.ref 400, .int x1, .int x2] [] f (QI Q)
  refine w_aload_n (pc' := 1) rfl rfl rfl ?_
  refine w_iload_n (pc' := 2) rfl rfl rfl ?_
  refine w_cv (pc' := 5) (cm := xm_Mo_isCouncil) (as := [.int x1]) (a := 400) (rest := []) rfl rfl rfl  (xa_Mo_isCouncil (Nat.le_of_ble_eq_true rfl)) (show xS0 L 400 = (12, 0) from rfl) rfl (CI.k h fun v1 g1 h => ?_)
  show Wp L xs xm_Mo_pace 5 [.ref 400, .int x1, .int x2] [.int v1] g1 _
  refine w_br (pc' := 8) (t := 11) rfl rfl rfl ic_ne (fun hc => ?_) (fun hc => ?_)
  · replace h := h.2 hc
    refine w_aload_n (pc' := 12) rfl rfl rfl ?_
    refine w_cv (pc' := 15) (cm := xm_Mo_plays) (as := []) (a := 400) (rest := []) rfl rfl rfl  (xa_Mo_plays (Nat.le_of_ble_eq_true rfl)) (show xS0 L 400 = (12, 0) from rfl) rfl (CV.k h fun g2 h => ?_)
    show Wp L xs xm_Mo_pace 15 [.ref 400, .int x1, .int x2] [] g2 _
    refine w_aload_n (pc' := 16) rfl rfl rfl ?_
    refine w_cv (pc' := 19) (cm := xm_Mo_sendsAll) (as := []) (a := 400) (rest := []) rfl rfl rfl  (xa_Mo_sendsAll (Nat.le_of_ble_eq_true rfl)) (show xS0 L 400 = (12, 0) from rfl) rfl (CV.k h fun g3 h => ?_)
    show Wp L xs xm_Mo_pace 19 [.ref 400, .int x1, .int x2] [] g3 _
    refine w_iload_n (pc' := 20) rfl rfl rfl ?_
    by_cases hs0 : x2 = 0
    · replace h := h.1 hs0
      refine w_ts (o := 36) (t := 56) rfl (by rw [hs0]; decide) (by rw [hs0]; rfl) rfl ?_
      refine w_aload_n (pc' := 57) rfl rfl rfl ?_
      refine w_getI (pc' := 60) rfl rfl rfl rfl rfl (show xS0 L 400 = (12, 0) from rfl) ?_
      exact w_ireturn rfl rfl h
    replace h := h.2 hs0
    by_cases hs1 : x2 = 1
    · replace h := h.1 hs1
      refine w_ts (o := 41) (t := 61) rfl (by rw [hs1]; decide) (by rw [hs1]; rfl) rfl ?_
      refine w_aload_n (pc' := 62) rfl rfl rfl ?_
      refine w_getI (pc' := 65) rfl rfl rfl rfl rfl (show xS0 L 400 = (12, 0) from rfl) ?_
      exact w_ireturn rfl rfl h
    replace h := h.2 hs1
    by_cases hs2 : x2 = 2
    · replace h := h.1 hs2
      refine w_ts (o := 46) (t := 66) rfl (by rw [hs2]; decide) (by rw [hs2]; rfl) rfl ?_
      refine w_aload_n (pc' := 67) rfl rfl rfl ?_
      refine w_cv (pc' := 70) (cm := xm_Mo_slowestOf) (as := []) (a := 400) (rest := []) rfl rfl rfl  (xa_Mo_slowestOf (Nat.le_of_ble_eq_true rfl)) (show xS0 L 400 = (12, 0) from rfl) rfl (CI.k h fun v2 g4 h => ?_)
      show Wp L xs xm_Mo_pace 70 [.ref 400, .int x1, .int x2] [.int v2] g4 _
      exact w_ireturn rfl rfl h
    replace h := h.2 hs2
    by_cases hs3 : x2 = 3
    · replace h := h.1 hs3
      refine w_ts (o := 51) (t := 71) rfl (by rw [hs3]; decide) (by rw [hs3]; rfl) rfl ?_
      refine w_aload_n (pc' := 72) rfl rfl rfl ?_
      refine w_cv (pc' := 75) (cm := xm_Mo_tightOf) (as := []) (a := 400) (rest := []) rfl rfl rfl  (xa_Mo_tightOf (Nat.le_of_ble_eq_true rfl)) (show xS0 L 400 = (12, 0) from rfl) rfl (CI.k h fun v3 g5 h => ?_)
      show Wp L xs xm_Mo_pace 75 [.ref 400, .int x1, .int x2] [.int v3] g5 _
      exact w_ireturn rfl rfl h
    replace h := h.2 hs3
    by_cases hs4 : x2 = 4
    · replace h := h.1 hs4
      refine w_ts (o := 56) (t := 76) rfl (by rw [hs4]; decide) (by rw [hs4]; rfl) rfl ?_
      refine w_aload_n (pc' := 77) rfl rfl rfl ?_
      refine w_cv (pc' := 80) (cm := xm_Mo_spareOf) (as := []) (a := 400) (rest := []) rfl rfl rfl  (xa_Mo_spareOf (Nat.le_of_ble_eq_true rfl)) (show xS0 L 400 = (12, 0) from rfl) rfl (CI.k h fun v4 g6 h => ?_)
      show Wp L xs xm_Mo_pace 80 [.ref 400, .int x1, .int x2] [.int v4] g6 _
      exact w_ireturn rfl rfl h
    replace h := h.2 hs4
    refine w_tsd (t := 81) rfl ?_ rfl ?_
    · have z0 : (x2).toInt ≠ 0 := fun e => hs0 (Int32.toInt_inj.mp e); have z1 : (x2).toInt ≠ 1 := fun e => hs1 (Int32.toInt_inj.mp e); have z2 : (x2).toInt ≠ 2 := fun e => hs2 (Int32.toInt_inj.mp e); have z3 : (x2).toInt ≠ 3 := fun e => hs3 (Int32.toInt_inj.mp e); have z4 : (x2).toInt ≠ 4 := fun e => hs4 (Int32.toInt_inj.mp e); omega
    refine w_iload_n (pc' := 82) rfl rfl rfl ?_
    refine w_bipush (pc' := 84) rfl rfl (v := 11) rfl ?_
    refine w_bipush (pc' := 86) rfl rfl (v := 20) rfl ?_
    refine w_cs (pc' := 89) (cm := xm_Mo_isIn) (as := [.int x2, .int 11, .int 20]) (rest := []) rfl rfl rfl (Or.inl rfl) (xa_Mo_isIn (Nat.le_of_ble_eq_true rfl)) (CI.k h fun v5 g7 h => ?_)
    show Wp L xs xm_Mo_pace 89 [.ref 400, .int x1, .int x2] [.int v5] g7 _
    refine w_br (pc' := 92) (t := 106) rfl rfl rfl ic_eq (fun hc => ?_) (fun hc => ?_)
    · replace h := h.1 hc
      refine w_bipush (pc' := 108) rfl rfl (v := (-2)) rfl ?_
      exact w_ireturn rfl rfl h
    · replace h := h.2 hc
      refine w_aload_n (pc' := 93) rfl rfl rfl ?_
      refine w_iload_n (pc' := 94) rfl rfl rfl ?_
      refine w_bipush (pc' := 96) rfl rfl (v := 10) rfl ?_
      refine w_isub (pc' := 97) rfl rfl ?_
      refine w_cv (pc' := 100) (cm := xm_Mo_doneOf) (as := [.int (x2 - 10)]) (a := 400) (rest := []) rfl rfl rfl  (xa_Mo_doneOf (Nat.le_of_ble_eq_true rfl)) (show xS0 L 400 = (12, 0) from rfl) rfl (CI.k h fun v6 g8 h => ?_)
      show Wp L xs xm_Mo_pace 100 [.ref 400, .int x1, .int x2] [.int v6] g8 _
      refine w_cs (pc' := 103) (cm := xm_Mo_minuteOf) (as := [.int v6]) (rest := []) rfl rfl rfl (Or.inl rfl) (xa_Mo_minuteOf (Nat.le_of_ble_eq_true rfl)) (CI.k h fun v7 g9 h => ?_)
      show Wp L xs xm_Mo_pace 103 [.ref 400, .int x1, .int x2] [.int v7] g9 _
      refine w_goto (pc' := 108) rfl rfl ?_
      exact w_ireturn rfl rfl h
  · replace h := h.1 (Classical.not_not.mp hc)
    refine w_bipush (pc' := 10) rfl rfl (v := (-2)) rfl ?_
    exact w_ireturn rfl rfl h
theorem t_Mo_sendsAll_0 {L : Nat} {xs : Nat → Int32}  {f : Hp} {Q : Hp → Prop}  (h : ∀ g1, g1 = xu f 400 53 0 → ∀ g2, g2 = xu g1 400 54 (-1) → Wp L xs xm_Mo_sendsAll 12 [.ref 400, .int 0, .retAddr 0] [] g2 (QV Q)) : CV L xs xm_Mo_sendsAll [.ref 400] f Q := by
  show Wp L xs xm_Mo_sendsAll 0 [.ref 400, .retAddr 0, .retAddr 0] [] f (QV Q)
  refine w_aload_n (pc' := 1) rfl rfl rfl ?_
  refine w_iconst (pc' := 2) rfl rfl (v := 0) rfl ?_
  refine w_putI (pc' := 5) rfl rfl rfl rfl (show xS0 L 400 = (12, 0) from rfl) ?_
  replace h := h _ rfl
  generalize xu f 400 53 0 = g1 at h ⊢
  refine w_aload_n (pc' := 6) rfl rfl rfl ?_
  refine w_iconst (pc' := 7) rfl rfl (v := (-1)) rfl ?_
  refine w_putI (pc' := 10) rfl rfl rfl rfl (show xS0 L 400 = (12, 0) from rfl) ?_
  replace h := h _ rfl
  generalize xu g1 400 54 (-1) = g2 at h ⊢
  refine w_iconst (pc' := 11) rfl rfl (v := 0) rfl ?_
  refine w_istore_n (pc' := 12) rfl rfl (xl' := [.ref 400, .int 0, .retAddr 0]) rfl ?_
  exact h
theorem t_Mo_sendsAll_12 {L : Nat} {xs : Nat → Int32} {x1 : Int32} {x2 : Value} {f : Hp} {Q : Hp → Prop} (cx2 : (x2.category != 2) = true) (h : ((x1 < (f 400 13) → Wp L xs xm_Mo_sendsAll 22 [.ref 400, .int x1, .int 1] [] f (QV Q)) ∧ (¬ x1 < (f 400 13) → Q f))) : Wp L xs xm_Mo_sendsAll 12 [.ref 400, .int x1, x2] [] f (QV Q) := by
  refine w_iload_n (pc' := 13) rfl rfl rfl ?_
  refine w_aload_n (pc' := 14) rfl rfl rfl ?_
  refine w_getI (pc' := 17) rfl rfl rfl rfl rfl (show xS0 L 400 = (12, 0) from rfl) ?_
  refine w_br2 (pc' := 20) (t := 94) rfl rfl rfl ic_ge (fun hc => ?_) (fun hc => ?_)
  · replace h := h.2 hc
    exact w_return rfl rfl h
  · replace h := h.1 (Classical.not_not.mp hc)
    refine w_iconst (pc' := 21) rfl rfl (v := 1) rfl ?_
    refine w_istore_n (pc' := 22) rfl rfl (xl' := [.ref 400, .int x1, .int 1]) rfl ?_
    exact h
theorem t_Mo_sendsAll_22 {L : Nat} {xs : Nat → Int32} {x1 : Int32} {x2 : Int32} {f : Hp} {Q : Hp → Prop}  (h : ((10 < x2 → Wp L xs xm_Mo_sendsAll 12 [.ref 400, .int (x1 + 1), .int x2] [] f (QV Q)) ∧ (¬ 10 < x2 → CI L xs xm_Mo_at [.int x1, .int x2] f (fun v1 g1 => ∃ k1 : Nat, v1 = iN k1 ∧ k1 < 91 ∧ CV L xs xm_Mo_sends [.ref 400, .int (g1 427 k1), .int x1] g1 (fun g2 => CI L xs xm_Mo_at [.int x1, .int x2] g2 (fun v2 g3 => ∃ k2 : Nat, v2 = iN k2 ∧ k2 < 91 ∧ CV L xs xm_Mo_sends [.ref 400, .int (g3 428 k2), .int x1] g3 (fun g4 => (g4 400 16) ≠ 0 ∧ (((jrem x2 (g4 400 16)) = 0 → CI L xs xm_Mo_at [.int x1, .int x2] g4 (fun v3 g5 => ∃ k3 : Nat, v3 = iN k3 ∧ k3 < 91 ∧ CV L xs xm_Mo_sends [.ref 400, .int (g5 429 k3), .int x1] g5 (fun g6 => Wp L xs xm_Mo_sendsAll 22 [.ref 400, .int x1, .int (x2 + 1)] [] g6 (QV Q)))) ∧ (¬ (jrem x2 (g4 400 16)) = 0 → Wp L xs xm_Mo_sendsAll 22 [.ref 400, .int x1, .int (x2 + 1)] [] g4 (QV Q)))))))))) : Wp L xs xm_Mo_sendsAll 22 [.ref 400, .int x1, .int x2] [] f (QV Q) := by
  refine w_iload_n (pc' := 23) rfl rfl rfl ?_
  refine w_bipush (pc' := 25) rfl rfl (v := 10) rfl ?_
  refine w_br2 (pc' := 28) (t := 88) rfl rfl rfl ic_gt (fun hc => ?_) (fun hc => ?_)
  · replace h := h.1 hc
    refine w_iinc (pc' := 91) rfl rfl rfl (v := (x1 + 1)) rfl (xl' := [.ref 400, .int (x1 + 1), .int x2]) rfl ?_
    refine w_goto (pc' := 12) rfl rfl ?_
    exact h
  · replace h := h.2 hc
    refine w_aload_n (pc' := 29) rfl rfl rfl ?_
    refine w_aload_n (pc' := 30) rfl rfl rfl ?_
    have q1 : xR0 400 48 = some 427 ∧ xS0 L 427 = (20, 91) := (kf_12_48 (show xS0 L 400 = (12, 0) from rfl))
    refine w_getR (pc' := 33) rfl rfl rfl rfl (show xS0 L 400 = (12, 0) from rfl) q1.1 ?_
    refine w_iload_n (pc' := 34) rfl rfl rfl ?_
    refine w_iload_n (pc' := 35) rfl rfl rfl ?_
    refine w_cs (pc' := 38) (cm := xm_Mo_at) (as := [.int x1, .int x2]) (rest := [.ref 427, .ref 400]) rfl rfl rfl (Or.inl rfl) (xa_Mo_at (Nat.le_of_ble_eq_true rfl)) (CI.k h fun v1 g1 h => ?_)
    show Wp L xs xm_Mo_sendsAll 38 [.ref 400, .int x1, .int x2] [.int v1, .ref 427, .ref 400] g1 _
    obtain ⟨k1, ek1, bk1, h⟩ := h
    refine w_iaload (pc' := 39) (i := k1) rfl rfl q1.2 ek1 bk1 (by omega) ?_
    refine w_iload_n (pc' := 40) rfl rfl rfl ?_
    refine w_cv (pc' := 43) (cm := xm_Mo_sends) (as := [.int (g1 427 k1), .int x1]) (a := 400) (rest := []) rfl rfl rfl  (xa_Mo_sends (Nat.le_of_ble_eq_true rfl)) (show xS0 L 400 = (12, 0) from rfl) rfl (CV.k h fun g2 h => ?_)
    show Wp L xs xm_Mo_sendsAll 43 [.ref 400, .int x1, .int x2] [] g2 _
    refine w_aload_n (pc' := 44) rfl rfl rfl ?_
    refine w_aload_n (pc' := 45) rfl rfl rfl ?_
    have q2 : xR0 400 49 = some 428 ∧ xS0 L 428 = (20, 91) := (kf_12_49 (show xS0 L 400 = (12, 0) from rfl))
    refine w_getR (pc' := 48) rfl rfl rfl rfl (show xS0 L 400 = (12, 0) from rfl) q2.1 ?_
    refine w_iload_n (pc' := 49) rfl rfl rfl ?_
    refine w_iload_n (pc' := 50) rfl rfl rfl ?_
    refine w_cs (pc' := 53) (cm := xm_Mo_at) (as := [.int x1, .int x2]) (rest := [.ref 428, .ref 400]) rfl rfl rfl (Or.inl rfl) (xa_Mo_at (Nat.le_of_ble_eq_true rfl)) (CI.k h fun v2 g3 h => ?_)
    show Wp L xs xm_Mo_sendsAll 53 [.ref 400, .int x1, .int x2] [.int v2, .ref 428, .ref 400] g3 _
    obtain ⟨k2, ek2, bk2, h⟩ := h
    refine w_iaload (pc' := 54) (i := k2) rfl rfl q2.2 ek2 bk2 (by omega) ?_
    refine w_iload_n (pc' := 55) rfl rfl rfl ?_
    refine w_cv (pc' := 58) (cm := xm_Mo_sends) (as := [.int (g3 428 k2), .int x1]) (a := 400) (rest := []) rfl rfl rfl  (xa_Mo_sends (Nat.le_of_ble_eq_true rfl)) (show xS0 L 400 = (12, 0) from rfl) rfl (CV.k h fun g4 h => ?_)
    show Wp L xs xm_Mo_sendsAll 58 [.ref 400, .int x1, .int x2] [] g4 _
    refine w_iload_n (pc' := 59) rfl rfl rfl ?_
    refine w_aload_n (pc' := 60) rfl rfl rfl ?_
    refine w_getI (pc' := 63) rfl rfl rfl rfl rfl (show xS0 L 400 = (12, 0) from rfl) ?_
    obtain ⟨q3, h⟩ := h
    refine w_irem (pc' := 64) rfl rfl q3 ?_
    refine w_br (pc' := 67) (t := 82) rfl rfl rfl ic_ne (fun hc => ?_) (fun hc => ?_)
    · replace h := h.2 hc
      refine w_iinc (pc' := 85) rfl rfl rfl (v := (x2 + 1)) rfl (xl' := [.ref 400, .int x1, .int (x2 + 1)]) rfl ?_
      refine w_goto (pc' := 22) rfl rfl ?_
      exact h
    · replace h := h.1 (Classical.not_not.mp hc)
      refine w_aload_n (pc' := 68) rfl rfl rfl ?_
      refine w_aload_n (pc' := 69) rfl rfl rfl ?_
      have q4 : xR0 400 50 = some 429 ∧ xS0 L 429 = (20, 91) := (kf_12_50 (show xS0 L 400 = (12, 0) from rfl))
      refine w_getR (pc' := 72) rfl rfl rfl rfl (show xS0 L 400 = (12, 0) from rfl) q4.1 ?_
      refine w_iload_n (pc' := 73) rfl rfl rfl ?_
      refine w_iload_n (pc' := 74) rfl rfl rfl ?_
      refine w_cs (pc' := 77) (cm := xm_Mo_at) (as := [.int x1, .int x2]) (rest := [.ref 429, .ref 400]) rfl rfl rfl (Or.inl rfl) (xa_Mo_at (Nat.le_of_ble_eq_true rfl)) (CI.k h fun v3 g5 h => ?_)
      show Wp L xs xm_Mo_sendsAll 77 [.ref 400, .int x1, .int x2] [.int v3, .ref 429, .ref 400] g5 _
      obtain ⟨k3, ek3, bk3, h⟩ := h
      refine w_iaload (pc' := 78) (i := k3) rfl rfl q4.2 ek3 bk3 (by omega) ?_
      refine w_iload_n (pc' := 79) rfl rfl rfl ?_
      refine w_cv (pc' := 82) (cm := xm_Mo_sends) (as := [.int (g5 429 k3), .int x1]) (a := 400) (rest := []) rfl rfl rfl  (xa_Mo_sends (Nat.le_of_ble_eq_true rfl)) (show xS0 L 400 = (12, 0) from rfl) rfl (CV.k h fun g6 h => ?_)
      show Wp L xs xm_Mo_sendsAll 82 [.ref 400, .int x1, .int x2] [] g6 _
      refine w_iinc (pc' := 85) rfl rfl rfl (v := (x2 + 1)) rfl (xl' := [.ref 400, .int x1, .int (x2 + 1)]) rfl ?_
      refine w_goto (pc' := 22) rfl rfl ?_
      exact h
theorem t_Mo_sends_0 {L : Nat} {xs : Nat → Int32} {x1 : Int32} {x2 : Int32} {f : Hp} {Q : Hp → Prop}  (h : ((400 < x1 → Q f) ∧ (¬ 400 < x1 → Wp L xs xm_Mo_sends 10 [.ref 400, .int x1, .int x2, .int 0] [] f (QV Q)))) : CV L xs xm_Mo_sends [.ref 400, .int x1, .int x2] f Q := by
  show Wp L xs xm_Mo_sends 0 [.ref 400, .int x1, .int x2, .retAddr 0] [] f (QV Q)
  refine w_iload_n (pc' := 1) rfl rfl rfl ?_
  refine w_sipush (pc' := 4) rfl rfl (v := 400) rfl ?_
  refine w_br2 (pc' := 7) (t := 8) rfl rfl rfl ic_le (fun hc => ?_) (fun hc => ?_)
  · replace h := h.2 hc
    refine w_iconst (pc' := 9) rfl rfl (v := 0) rfl ?_
    refine w_istore_n (pc' := 10) rfl rfl (xl' := [.ref 400, .int x1, .int x2, .int 0]) rfl ?_
    exact h
  · replace h := h.1 (Classical.not_not.mp hc)
    exact w_return rfl rfl h
theorem t_Mo_sends_10 {L : Nat} {xs : Nat → Int32} {x1 : Int32} {x2 : Int32} {x3 : Int32} {f : Hp} {Q : Hp → Prop}  (h : ((x3 < (f 400 13) → ((x3 = x2 → Wp L xs xm_Mo_sends 10 [.ref 400, .int x1, .int x2, .int (x3 + 1)] [] f (QV Q)) ∧ (¬ x3 = x2 → CI L xs xm_Mo_isLiar [.ref 400, .int x3] f (fun v1 g1 => ((v1 = 0 → ∀ g2, g2 = xu g1 400 53 ((g1 400 53) + 1) → CI L xs xm_Mo_delayOf [.ref 400, .int x2, .int x3] g2 (fun v2 g3 => (((g3 400 54) < (x1 + v2) → CI L xs xm_Mo_delayOf [.ref 400, .int x2, .int x3] g3 (fun v3 g5 => ∀ g6, g6 = xu g5 400 54 (x1 + v3) → Wp L xs xm_Mo_sends 10 [.ref 400, .int x1, .int x2, .int (x3 + 1)] [] g6 (QV Q))) ∧ (¬ (g3 400 54) < (x1 + v2) → ∀ g4, g4 = xu g3 400 54 (g3 400 54) → Wp L xs xm_Mo_sends 10 [.ref 400, .int x1, .int x2, .int (x3 + 1)] [] g4 (QV Q))))) ∧ (¬ v1 = 0 → Wp L xs xm_Mo_sends 10 [.ref 400, .int x1, .int x2, .int (x3 + 1)] [] g1 (QV Q))))))) ∧ (¬ x3 < (f 400 13) → Q f))) : Wp L xs xm_Mo_sends 10 [.ref 400, .int x1, .int x2, .int x3] [] f (QV Q) := by
  refine w_iload_n (pc' := 11) rfl rfl rfl ?_
  refine w_aload_n (pc' := 12) rfl rfl rfl ?_
  refine w_getI (pc' := 15) rfl rfl rfl rfl rfl (show xS0 L 400 = (12, 0) from rfl) ?_
  refine w_br2 (pc' := 18) (t := 84) rfl rfl rfl ic_ge (fun hc => ?_) (fun hc => ?_)
  · replace h := h.2 hc
    exact w_return rfl rfl h
  · replace h := h.1 (Classical.not_not.mp hc)
    refine w_iload_n (pc' := 19) rfl rfl rfl ?_
    refine w_iload_n (pc' := 20) rfl rfl rfl ?_
    refine w_br2 (pc' := 23) (t := 78) rfl rfl rfl ic_eq (fun hc => ?_) (fun hc => ?_)
    · replace h := h.1 hc
      refine w_iinc (pc' := 81) rfl rfl rfl (v := (x3 + 1)) rfl (xl' := [.ref 400, .int x1, .int x2, .int (x3 + 1)]) rfl ?_
      refine w_goto (pc' := 10) rfl rfl ?_
      exact h
    · replace h := h.2 hc
      refine w_aload_n (pc' := 24) rfl rfl rfl ?_
      refine w_iload_n (pc' := 25) rfl rfl rfl ?_
      refine w_cv (pc' := 28) (cm := xm_Mo_isLiar) (as := [.int x3]) (a := 400) (rest := []) rfl rfl rfl  (xa_Mo_isLiar (Nat.le_of_ble_eq_true rfl)) (show xS0 L 400 = (12, 0) from rfl) rfl (CI.k h fun v1 g1 h => ?_)
      show Wp L xs xm_Mo_sends 28 [.ref 400, .int x1, .int x2, .int x3] [.int v1] g1 _
      refine w_br (pc' := 31) (t := 34) rfl rfl rfl ic_eq (fun hc => ?_) (fun hc => ?_)
      · replace h := h.1 hc
        refine w_aload_n (pc' := 35) rfl rfl rfl ?_
        refine w_dupA (pc' := 36) rfl rfl ?_
        refine w_getI (pc' := 39) rfl rfl rfl rfl rfl (show xS0 L 400 = (12, 0) from rfl) ?_
        refine w_iconst (pc' := 40) rfl rfl (v := 1) rfl ?_
        refine w_iadd (pc' := 41) rfl rfl ?_
        refine w_putI (pc' := 44) rfl rfl rfl rfl (show xS0 L 400 = (12, 0) from rfl) ?_
        replace h := h _ rfl
        generalize xu g1 400 53 ((g1 400 53) + 1) = g2 at h ⊢
        refine w_aload_n (pc' := 45) rfl rfl rfl ?_
        refine w_iload_n (pc' := 46) rfl rfl rfl ?_
        refine w_aload_n (pc' := 47) rfl rfl rfl ?_
        refine w_iload_n (pc' := 48) rfl rfl rfl ?_
        refine w_iload_n (pc' := 49) rfl rfl rfl ?_
        refine w_cv (pc' := 52) (cm := xm_Mo_delayOf) (as := [.int x2, .int x3]) (a := 400) (rest := [.int x1, .ref 400]) rfl rfl rfl  (xa_Mo_delayOf (Nat.le_of_ble_eq_true rfl)) (show xS0 L 400 = (12, 0) from rfl) rfl (CI.k h fun v2 g3 h => ?_)
        show Wp L xs xm_Mo_sends 52 [.ref 400, .int x1, .int x2, .int x3] [.int v2, .int x1, .ref 400] g3 _
        refine w_iadd (pc' := 53) rfl rfl ?_
        refine w_aload_n (pc' := 54) rfl rfl rfl ?_
        refine w_getI (pc' := 57) rfl rfl rfl rfl rfl (show xS0 L 400 = (12, 0) from rfl) ?_
        refine w_br2 (pc' := 60) (t := 71) rfl rfl rfl ic_le (fun hc => ?_) (fun hc => ?_)
        · replace h := h.2 hc
          refine w_aload_n (pc' := 72) rfl rfl rfl ?_
          refine w_getI (pc' := 75) rfl rfl rfl rfl rfl (show xS0 L 400 = (12, 0) from rfl) ?_
          refine w_putI (pc' := 78) rfl rfl rfl rfl (show xS0 L 400 = (12, 0) from rfl) ?_
          replace h := h _ rfl
          generalize xu g3 400 54 (g3 400 54) = g4 at h ⊢
          refine w_iinc (pc' := 81) rfl rfl rfl (v := (x3 + 1)) rfl (xl' := [.ref 400, .int x1, .int x2, .int (x3 + 1)]) rfl ?_
          refine w_goto (pc' := 10) rfl rfl ?_
          exact h
        · replace h := h.1 (Classical.not_not.mp hc)
          refine w_iload_n (pc' := 61) rfl rfl rfl ?_
          refine w_aload_n (pc' := 62) rfl rfl rfl ?_
          refine w_iload_n (pc' := 63) rfl rfl rfl ?_
          refine w_iload_n (pc' := 64) rfl rfl rfl ?_
          refine w_cv (pc' := 67) (cm := xm_Mo_delayOf) (as := [.int x2, .int x3]) (a := 400) (rest := [.int x1, .ref 400]) rfl rfl rfl  (xa_Mo_delayOf (Nat.le_of_ble_eq_true rfl)) (show xS0 L 400 = (12, 0) from rfl) rfl (CI.k h fun v3 g5 h => ?_)
          show Wp L xs xm_Mo_sends 67 [.ref 400, .int x1, .int x2, .int x3] [.int v3, .int x1, .ref 400] g5 _
          refine w_iadd (pc' := 68) rfl rfl ?_
          refine w_goto (pc' := 75) rfl rfl ?_
          refine w_putI (pc' := 78) rfl rfl rfl rfl (show xS0 L 400 = (12, 0) from rfl) ?_
          replace h := h _ rfl
          generalize xu g5 400 54 (x1 + v3) = g6 at h ⊢
          refine w_iinc (pc' := 81) rfl rfl rfl (v := (x3 + 1)) rfl (xl' := [.ref 400, .int x1, .int x2, .int (x3 + 1)]) rfl ?_
          refine w_goto (pc' := 10) rfl rfl ?_
          exact h
      · replace h := h.2 hc
        refine w_goto (pc' := 78) rfl rfl ?_
        refine w_iinc (pc' := 81) rfl rfl rfl (v := (x3 + 1)) rfl (xl' := [.ref 400, .int x1, .int x2, .int (x3 + 1)]) rfl ?_
        refine w_goto (pc' := 10) rfl rfl ?_
        exact h
theorem t_Mo_slowestOf_0 {L : Nat} {xs : Nat → Int32}  {f : Hp} {Q : Int32 → Hp → Prop}  (h : Wp L xs xm_Mo_slowestOf 6 [.ref 400, .int (-1), .int 0, .int 1, .retAddr 0] [] f (QI Q)) : CI L xs xm_Mo_slowestOf [.ref 400] f Q := by
  show Wp L xs xm_Mo_slowestOf 0 [.ref 400, .retAddr 0, .retAddr 0, .retAddr 0, .retAddr 0] [] f (QI Q)
  refine w_iconst (pc' := 1) rfl rfl (v := (-1)) rfl ?_
  refine w_istore_n (pc' := 2) rfl rfl (xl' := [.ref 400, .int (-1), .retAddr 0, .retAddr 0, .retAddr 0]) rfl ?_
  refine w_iconst (pc' := 3) rfl rfl (v := 0) rfl ?_
  refine w_istore_n (pc' := 4) rfl rfl (xl' := [.ref 400, .int (-1), .int 0, .retAddr 0, .retAddr 0]) rfl ?_
  refine w_iconst (pc' := 5) rfl rfl (v := 1) rfl ?_
  refine w_istore_n (pc' := 6) rfl rfl (xl' := [.ref 400, .int (-1), .int 0, .int 1, .retAddr 0]) rfl ?_
  exact h
theorem t_Mo_slowestOf_6 {L : Nat} {xs : Nat → Int32} {x1 : Int32} {x2 : Int32} {x3 : Int32} {x4 : Value} {f : Hp} {Q : Int32 → Hp → Prop} (cx4 : (x4.category != 2) = true) (h : (((f 400 18) < x3 → Q x1 f) ∧ (¬ (f 400 18) < x3 → CI L xs xm_Mo_doneOf [.ref 400, .int x3] f (fun v1 g1 => ((v1 < 99999999 → CI L xs xm_Mo_doneOf [.ref 400, .int x3] g1 (fun v2 g2 => ((x1 = (-1) → Wp L xs xm_Mo_slowestOf 6 [.ref 400, .int x3, .int (v2 - (x3 - 1)), .int (x3 + 1), .int (v2 - (x3 - 1))] [] g2 (QI Q)) ∧ (¬ x1 = (-1) → ((x2 < (v2 - (x3 - 1)) → Wp L xs xm_Mo_slowestOf 6 [.ref 400, .int x3, .int (v2 - (x3 - 1)), .int (x3 + 1), .int (v2 - (x3 - 1))] [] g2 (QI Q)) ∧ (¬ x2 < (v2 - (x3 - 1)) → Wp L xs xm_Mo_slowestOf 6 [.ref 400, .int x1, .int x2, .int (x3 + 1), .int (v2 - (x3 - 1))] [] g2 (QI Q))))))) ∧ (¬ v1 < 99999999 → Q (-1) g1)))))) : Wp L xs xm_Mo_slowestOf 6 [.ref 400, .int x1, .int x2, .int x3, x4] [] f (QI Q) := by
  refine w_iload_n (pc' := 7) rfl rfl rfl ?_
  refine w_aload_n (pc' := 8) rfl rfl rfl ?_
  refine w_getI (pc' := 11) rfl rfl rfl rfl rfl (show xS0 L 400 = (12, 0) from rfl) ?_
  refine w_br2 (pc' := 14) (t := 63) rfl rfl rfl ic_gt (fun hc => ?_) (fun hc => ?_)
  · replace h := h.1 hc
    refine w_iload_n (pc' := 64) rfl rfl rfl ?_
    exact w_ireturn rfl rfl h
  · replace h := h.2 hc
    refine w_aload_n (pc' := 15) rfl rfl rfl ?_
    refine w_iload_n (pc' := 16) rfl rfl rfl ?_
    refine w_cv (pc' := 19) (cm := xm_Mo_doneOf) (as := [.int x3]) (a := 400) (rest := []) rfl rfl rfl  (xa_Mo_doneOf (Nat.le_of_ble_eq_true rfl)) (show xS0 L 400 = (12, 0) from rfl) rfl (CI.k h fun v1 g1 h => ?_)
    show Wp L xs xm_Mo_slowestOf 19 [.ref 400, .int x1, .int x2, .int x3, x4] [.int v1] g1 _
    refine w_ldcw (pc' := 22) rfl rfl (v := 99999999) rfl ?_
    refine w_br2 (pc' := 25) (t := 27) rfl rfl rfl ic_lt (fun hc => ?_) (fun hc => ?_)
    · replace h := h.1 hc
      refine w_aload_n (pc' := 28) rfl rfl rfl ?_
      refine w_iload_n (pc' := 29) rfl rfl rfl ?_
      refine w_cv (pc' := 32) (cm := xm_Mo_doneOf) (as := [.int x3]) (a := 400) (rest := []) rfl rfl rfl  (xa_Mo_doneOf (Nat.le_of_ble_eq_true rfl)) (show xS0 L 400 = (12, 0) from rfl) rfl (CI.k h fun v2 g2 h => ?_)
      show Wp L xs xm_Mo_slowestOf 32 [.ref 400, .int x1, .int x2, .int x3, x4] [.int v2] g2 _
      refine w_iload_n (pc' := 33) rfl rfl rfl ?_
      refine w_iconst (pc' := 34) rfl rfl (v := 1) rfl ?_
      refine w_isub (pc' := 35) rfl rfl ?_
      refine w_isub (pc' := 36) rfl rfl ?_
      refine w_istore (pc' := 38) rfl rfl (xl' := [.ref 400, .int x1, .int x2, .int x3, .int (v2 - (x3 - 1))]) rfl ?_
      refine w_iload_n (pc' := 39) rfl rfl rfl ?_
      refine w_iconst (pc' := 40) rfl rfl (v := (-1)) rfl ?_
      refine w_br2 (pc' := 43) (t := 52) rfl rfl rfl ic_eq (fun hc => ?_) (fun hc => ?_)
      · replace h := h.1 hc
        refine w_iload_n (pc' := 53) rfl rfl rfl ?_
        refine w_istore_n (pc' := 54) rfl rfl (xl' := [.ref 400, .int x3, .int x2, .int x3, .int (v2 - (x3 - 1))]) rfl ?_
        refine w_iload (pc' := 56) rfl rfl rfl ?_
        refine w_istore_n (pc' := 57) rfl rfl (xl' := [.ref 400, .int x3, .int (v2 - (x3 - 1)), .int x3, .int (v2 - (x3 - 1))]) rfl ?_
        refine w_iinc (pc' := 60) rfl rfl rfl (v := (x3 + 1)) rfl (xl' := [.ref 400, .int x3, .int (v2 - (x3 - 1)), .int (x3 + 1), .int (v2 - (x3 - 1))]) rfl ?_
        refine w_goto (pc' := 6) rfl rfl ?_
        exact h
      · replace h := h.2 hc
        refine w_iload (pc' := 45) rfl rfl rfl ?_
        refine w_iload_n (pc' := 46) rfl rfl rfl ?_
        refine w_br2 (pc' := 49) (t := 52) rfl rfl rfl ic_gt (fun hc => ?_) (fun hc => ?_)
        · replace h := h.1 hc
          refine w_iload_n (pc' := 53) rfl rfl rfl ?_
          refine w_istore_n (pc' := 54) rfl rfl (xl' := [.ref 400, .int x3, .int x2, .int x3, .int (v2 - (x3 - 1))]) rfl ?_
          refine w_iload (pc' := 56) rfl rfl rfl ?_
          refine w_istore_n (pc' := 57) rfl rfl (xl' := [.ref 400, .int x3, .int (v2 - (x3 - 1)), .int x3, .int (v2 - (x3 - 1))]) rfl ?_
          refine w_iinc (pc' := 60) rfl rfl rfl (v := (x3 + 1)) rfl (xl' := [.ref 400, .int x3, .int (v2 - (x3 - 1)), .int (x3 + 1), .int (v2 - (x3 - 1))]) rfl ?_
          refine w_goto (pc' := 6) rfl rfl ?_
          exact h
        · replace h := h.2 hc
          refine w_goto (pc' := 57) rfl rfl ?_
          refine w_iinc (pc' := 60) rfl rfl rfl (v := (x3 + 1)) rfl (xl' := [.ref 400, .int x1, .int x2, .int (x3 + 1), .int (v2 - (x3 - 1))]) rfl ?_
          refine w_goto (pc' := 6) rfl rfl ?_
          exact h
    · replace h := h.2 hc
      refine w_iconst (pc' := 26) rfl rfl (v := (-1)) rfl ?_
      exact w_ireturn rfl rfl h
theorem t_Mo_doneOf_0 {L : Nat} {xs : Nat → Int32} {x1 : Int32} {f : Hp} {Q : Int32 → Hp → Prop}  (h : Wp L xs xm_Mo_doneOf 2 [.ref 400, .int x1, .int 0] [] f (QI Q)) : CI L xs xm_Mo_doneOf [.ref 400, .int x1] f Q := by
  show Wp L xs xm_Mo_doneOf 0 [.ref 400, .int x1, .retAddr 0] [] f (QI Q)
  refine w_iconst (pc' := 1) rfl rfl (v := 0) rfl ?_
  refine w_istore_n (pc' := 2) rfl rfl (xl' := [.ref 400, .int x1, .int 0]) rfl ?_
  exact h
theorem t_Mo_doneOf_2 {L : Nat} {xs : Nat → Int32} {x1 : Int32} {x2 : Int32} {f : Hp} {Q : Int32 → Hp → Prop}  (h : ((x2 < 7 → ((x2 < (f 400 13) → CI L xs xm_Mo_at [.int x2, .int x1] f (fun v3 g4 => ∃ k2 : Nat, v3 = iN k2 ∧ k2 < 91 ∧ ∃ k3 : Nat, x2 = iN k3 ∧ k3 < 7 ∧ ∀ g5, g5 = xu g4 431 k3 (g4 429 k2) → Wp L xs xm_Mo_doneOf 2 [.ref 400, .int x1, .int (x2 + 1)] [] g5 (QI Q))) ∧ (¬ x2 < (f 400 13) → ∃ k1 : Nat, x2 = iN k1 ∧ k1 < 7 ∧ ∀ g3, g3 = xu f 431 k1 99999999 → Wp L xs xm_Mo_doneOf 2 [.ref 400, .int x1, .int (x2 + 1)] [] g3 (QI Q)))) ∧ (¬ x2 < 7 → CI L xs xm_Mo_manyCome [.ref 400, .int ((f 400 12) + 1)] f (fun v1 g1 => ((400 < v1 → Q 99999999 g1) ∧ (¬ 400 < v1 → CI L xs xm_Mo_manyCome [.ref 400, .int ((g1 400 12) + 1)] g1 (fun v2 g2 => Q v2 g2))))))) : Wp L xs xm_Mo_doneOf 2 [.ref 400, .int x1, .int x2] [] f (QI Q) := by
  refine w_iload_n (pc' := 3) rfl rfl rfl ?_
  refine w_bipush (pc' := 5) rfl rfl (v := 7) rfl ?_
  refine w_br2 (pc' := 8) (t := 44) rfl rfl rfl ic_ge (fun hc => ?_) (fun hc => ?_)
  · replace h := h.2 hc
    refine w_aload_n (pc' := 45) rfl rfl rfl ?_
    refine w_aload_n (pc' := 46) rfl rfl rfl ?_
    refine w_getI (pc' := 49) rfl rfl rfl rfl rfl (show xS0 L 400 = (12, 0) from rfl) ?_
    refine w_iconst (pc' := 50) rfl rfl (v := 1) rfl ?_
    refine w_iadd (pc' := 51) rfl rfl ?_
    refine w_cv (pc' := 54) (cm := xm_Mo_manyCome) (as := [.int ((f 400 12) + 1)]) (a := 400) (rest := []) rfl rfl rfl  (xa_Mo_manyCome (Nat.le_of_ble_eq_true rfl)) (show xS0 L 400 = (12, 0) from rfl) rfl (CI.k h fun v1 g1 h => ?_)
    show Wp L xs xm_Mo_doneOf 54 [.ref 400, .int x1, .int x2] [.int v1] g1 _
    refine w_sipush (pc' := 57) rfl rfl (v := 400) rfl ?_
    refine w_br2 (pc' := 60) (t := 66) rfl rfl rfl ic_le (fun hc => ?_) (fun hc => ?_)
    · replace h := h.2 hc
      refine w_aload_n (pc' := 67) rfl rfl rfl ?_
      refine w_aload_n (pc' := 68) rfl rfl rfl ?_
      refine w_getI (pc' := 71) rfl rfl rfl rfl rfl (show xS0 L 400 = (12, 0) from rfl) ?_
      refine w_iconst (pc' := 72) rfl rfl (v := 1) rfl ?_
      refine w_iadd (pc' := 73) rfl rfl ?_
      refine w_cv (pc' := 76) (cm := xm_Mo_manyCome) (as := [.int ((g1 400 12) + 1)]) (a := 400) (rest := []) rfl rfl rfl  (xa_Mo_manyCome (Nat.le_of_ble_eq_true rfl)) (show xS0 L 400 = (12, 0) from rfl) rfl (CI.k h fun v2 g2 h => ?_)
      show Wp L xs xm_Mo_doneOf 76 [.ref 400, .int x1, .int x2] [.int v2] g2 _
      exact w_ireturn rfl rfl h
    · replace h := h.1 (Classical.not_not.mp hc)
      refine w_ldcw (pc' := 63) rfl rfl (v := 99999999) rfl ?_
      refine w_goto (pc' := 76) rfl rfl ?_
      exact w_ireturn rfl rfl h
  · replace h := h.1 (Classical.not_not.mp hc)
    refine w_aload_n (pc' := 9) rfl rfl rfl ?_
    have q1 : xR0 400 52 = some 431 ∧ xS0 L 431 = (20, 7) := (kf_12_52 (show xS0 L 400 = (12, 0) from rfl))
    refine w_getR (pc' := 12) rfl rfl rfl rfl (show xS0 L 400 = (12, 0) from rfl) q1.1 ?_
    refine w_iload_n (pc' := 13) rfl rfl rfl ?_
    refine w_iload_n (pc' := 14) rfl rfl rfl ?_
    refine w_aload_n (pc' := 15) rfl rfl rfl ?_
    refine w_getI (pc' := 18) rfl rfl rfl rfl rfl (show xS0 L 400 = (12, 0) from rfl) ?_
    refine w_br2 (pc' := 21) (t := 34) rfl rfl rfl ic_ge (fun hc => ?_) (fun hc => ?_)
    · replace h := h.2 hc
      refine w_ldcw (pc' := 37) rfl rfl (v := 99999999) rfl ?_
      obtain ⟨k1, ek1, bk1, h⟩ := h
      refine w_iastore (pc' := 38) (i := k1) rfl rfl q1.2 ek1 bk1 (by omega) ?_
      replace h := h _ rfl
      generalize xu f 431 k1 99999999 = g3 at h ⊢
      refine w_iinc (pc' := 41) rfl rfl rfl (v := (x2 + 1)) rfl (xl' := [.ref 400, .int x1, .int (x2 + 1)]) rfl ?_
      refine w_goto (pc' := 2) rfl rfl ?_
      exact h
    · replace h := h.1 (Classical.not_not.mp hc)
      refine w_aload_n (pc' := 22) rfl rfl rfl ?_
      have q2 : xR0 400 50 = some 429 ∧ xS0 L 429 = (20, 91) := (kf_12_50 (show xS0 L 400 = (12, 0) from rfl))
      refine w_getR (pc' := 25) rfl rfl rfl rfl (show xS0 L 400 = (12, 0) from rfl) q2.1 ?_
      refine w_iload_n (pc' := 26) rfl rfl rfl ?_
      refine w_iload_n (pc' := 27) rfl rfl rfl ?_
      refine w_cs (pc' := 30) (cm := xm_Mo_at) (as := [.int x2, .int x1]) (rest := [.ref 429, .int x2, .ref 431]) rfl rfl rfl (Or.inl rfl) (xa_Mo_at (Nat.le_of_ble_eq_true rfl)) (CI.k h fun v3 g4 h => ?_)
      show Wp L xs xm_Mo_doneOf 30 [.ref 400, .int x1, .int x2] [.int v3, .ref 429, .int x2, .ref 431] g4 _
      obtain ⟨k2, ek2, bk2, h⟩ := h
      refine w_iaload (pc' := 31) (i := k2) rfl rfl q2.2 ek2 bk2 (by omega) ?_
      refine w_goto (pc' := 37) rfl rfl ?_
      obtain ⟨k3, ek3, bk3, h⟩ := h
      refine w_iastore (pc' := 38) (i := k3) rfl rfl q1.2 ek3 bk3 (by omega) ?_
      replace h := h _ rfl
      generalize xu g4 431 k3 (g4 429 k2) = g5 at h ⊢
      refine w_iinc (pc' := 41) rfl rfl rfl (v := (x2 + 1)) rfl (xl' := [.ref 400, .int x1, .int (x2 + 1)]) rfl ?_
      refine w_goto (pc' := 2) rfl rfl ?_
      exact h
theorem t_Mo_tightOf_0 {L : Nat} {xs : Nat → Int32}  {f : Hp} {Q : Int32 → Hp → Prop}  (h : (((f 400 18) = 0 → Q (-1) f) ∧ (¬ (f 400 18) = 0 → CI L xs xm_Mo_lastDoneBy [.ref 400, .int 9] f (fun v1 g1 => ((v1 < 99999999 → Wp L xs xm_Mo_tightOf 27 [.ref 400, .int v1, .int 1] [] g1 (QI Q)) ∧ (¬ v1 < 99999999 → Q (-1) g1)))))) : CI L xs xm_Mo_tightOf [.ref 400] f Q := by
  show Wp L xs xm_Mo_tightOf 0 [.ref 400, .retAddr 0, .retAddr 0] [] f (QI Q)
  refine w_aload_n (pc' := 1) rfl rfl rfl ?_
  refine w_getI (pc' := 4) rfl rfl rfl rfl rfl (show xS0 L 400 = (12, 0) from rfl) ?_
  refine w_br (pc' := 7) (t := 9) rfl rfl rfl ic_ne (fun hc => ?_) (fun hc => ?_)
  · replace h := h.2 hc
    refine w_aload_n (pc' := 10) rfl rfl rfl ?_
    refine w_bipush (pc' := 12) rfl rfl (v := 9) rfl ?_
    refine w_cv (pc' := 15) (cm := xm_Mo_lastDoneBy) (as := [.int 9]) (a := 400) (rest := []) rfl rfl rfl  (xa_Mo_lastDoneBy (Nat.le_of_ble_eq_true rfl)) (show xS0 L 400 = (12, 0) from rfl) rfl (CI.k h fun v1 g1 h => ?_)
    show Wp L xs xm_Mo_tightOf 15 [.ref 400, .retAddr 0, .retAddr 0] [.int v1] g1 _
    refine w_istore_n (pc' := 16) rfl rfl (xl' := [.ref 400, .int v1, .retAddr 0]) rfl ?_
    refine w_iload_n (pc' := 17) rfl rfl rfl ?_
    refine w_ldcw (pc' := 20) rfl rfl (v := 99999999) rfl ?_
    refine w_br2 (pc' := 23) (t := 25) rfl rfl rfl ic_lt (fun hc => ?_) (fun hc => ?_)
    · replace h := h.1 hc
      refine w_iconst (pc' := 26) rfl rfl (v := 1) rfl ?_
      refine w_istore_n (pc' := 27) rfl rfl (xl' := [.ref 400, .int v1, .int 1]) rfl ?_
      exact h
    · replace h := h.2 hc
      refine w_iconst (pc' := 24) rfl rfl (v := (-1)) rfl ?_
      exact w_ireturn rfl rfl h
  · replace h := h.1 (Classical.not_not.mp hc)
    refine w_iconst (pc' := 8) rfl rfl (v := (-1)) rfl ?_
    exact w_ireturn rfl rfl h
theorem t_Mo_tightOf_27 {L : Nat} {xs : Nat → Int32} {x1 : Int32} {x2 : Int32} {f : Hp} {Q : Int32 → Hp → Prop}  (h : CI L xs xm_Mo_lastDoneBy [.ref 400, .int x2] f (fun v1 g1 => ((v1 = x1 → Q x2 g1) ∧ (¬ v1 = x1 → Wp L xs xm_Mo_tightOf 27 [.ref 400, .int x1, .int (x2 + 1)] [] g1 (QI Q))))) : Wp L xs xm_Mo_tightOf 27 [.ref 400, .int x1, .int x2] [] f (QI Q) := by
  refine w_aload_n (pc' := 28) rfl rfl rfl ?_
  refine w_iload_n (pc' := 29) rfl rfl rfl ?_
  refine w_cv (pc' := 32) (cm := xm_Mo_lastDoneBy) (as := [.int x2]) (a := 400) (rest := []) rfl rfl rfl  (xa_Mo_lastDoneBy (Nat.le_of_ble_eq_true rfl)) (show xS0 L 400 = (12, 0) from rfl) rfl (CI.k h fun v1 g1 h => ?_)
  show Wp L xs xm_Mo_tightOf 32 [.ref 400, .int x1, .int x2] [.int v1] g1 _
  refine w_iload_n (pc' := 33) rfl rfl rfl ?_
  refine w_br2 (pc' := 36) (t := 42) rfl rfl rfl ic_eq (fun hc => ?_) (fun hc => ?_)
  · replace h := h.1 hc
    refine w_iload_n (pc' := 43) rfl rfl rfl ?_
    exact w_ireturn rfl rfl h
  · replace h := h.2 hc
    refine w_iinc (pc' := 39) rfl rfl rfl (v := (x2 + 1)) rfl (xl' := [.ref 400, .int x1, .int (x2 + 1)]) rfl ?_
    refine w_goto (pc' := 27) rfl rfl ?_
    exact h
theorem t_Mo_lastDoneBy_0 {L : Nat} {xs : Nat → Int32} {x1 : Int32} {f : Hp} {Q : Int32 → Hp → Prop}  (h : ∀ g1, g1 = xu f 400 15 x1 → CV L xs xm_Mo_plays [.ref 400] g1 (fun g2 => CI L xs xm_Mo_doneOf [.ref 400, .int (g2 400 18)] g2 (fun v1 g3 => Q v1 g3))) : CI L xs xm_Mo_lastDoneBy [.ref 400, .int x1] f Q := by
  show Wp L xs xm_Mo_lastDoneBy 0 [.ref 400, .int x1] [] f (QI Q)
  refine w_aload_n (pc' := 1) rfl rfl rfl ?_
  refine w_iload_n (pc' := 2) rfl rfl rfl ?_
  refine w_putI (pc' := 5) rfl rfl rfl rfl (show xS0 L 400 = (12, 0) from rfl) ?_
  replace h := h _ rfl
  generalize xu f 400 15 x1 = g1 at h ⊢
  refine w_aload_n (pc' := 6) rfl rfl rfl ?_
  refine w_cv (pc' := 9) (cm := xm_Mo_plays) (as := []) (a := 400) (rest := []) rfl rfl rfl  (xa_Mo_plays (Nat.le_of_ble_eq_true rfl)) (show xS0 L 400 = (12, 0) from rfl) rfl (CV.k h fun g2 h => ?_)
  show Wp L xs xm_Mo_lastDoneBy 9 [.ref 400, .int x1] [] g2 _
  refine w_aload_n (pc' := 10) rfl rfl rfl ?_
  refine w_aload_n (pc' := 11) rfl rfl rfl ?_
  refine w_getI (pc' := 14) rfl rfl rfl rfl rfl (show xS0 L 400 = (12, 0) from rfl) ?_
  refine w_cv (pc' := 17) (cm := xm_Mo_doneOf) (as := [.int (g2 400 18)]) (a := 400) (rest := []) rfl rfl rfl  (xa_Mo_doneOf (Nat.le_of_ble_eq_true rfl)) (show xS0 L 400 = (12, 0) from rfl) rfl (CI.k h fun v1 g3 h => ?_)
  show Wp L xs xm_Mo_lastDoneBy 17 [.ref 400, .int x1] [.int v1] g3 _
  exact w_ireturn rfl rfl h
theorem t_Mo_spareOf_0 {L : Nat} {xs : Nat → Int32}  {f : Hp} {Q : Int32 → Hp → Prop}  (h : (((f 400 18) = 0 → Q 0 f) ∧ (¬ (f 400 18) = 0 → Wp L xs xm_Mo_spareOf 18 [.ref 400, .int (f 400 17), .int 0, .int 0] [] f (QI Q)))) : CI L xs xm_Mo_spareOf [.ref 400] f Q := by
  show Wp L xs xm_Mo_spareOf 0 [.ref 400, .retAddr 0, .retAddr 0, .retAddr 0] [] f (QI Q)
  refine w_aload_n (pc' := 1) rfl rfl rfl ?_
  refine w_getI (pc' := 4) rfl rfl rfl rfl rfl (show xS0 L 400 = (12, 0) from rfl) ?_
  refine w_br (pc' := 7) (t := 9) rfl rfl rfl ic_ne (fun hc => ?_) (fun hc => ?_)
  · replace h := h.2 hc
    refine w_aload_n (pc' := 10) rfl rfl rfl ?_
    refine w_getI (pc' := 13) rfl rfl rfl rfl rfl (show xS0 L 400 = (12, 0) from rfl) ?_
    refine w_istore_n (pc' := 14) rfl rfl (xl' := [.ref 400, .int (f 400 17), .retAddr 0, .retAddr 0]) rfl ?_
    refine w_iconst (pc' := 15) rfl rfl (v := 0) rfl ?_
    refine w_istore_n (pc' := 16) rfl rfl (xl' := [.ref 400, .int (f 400 17), .int 0, .retAddr 0]) rfl ?_
    refine w_iconst (pc' := 17) rfl rfl (v := 0) rfl ?_
    refine w_istore_n (pc' := 18) rfl rfl (xl' := [.ref 400, .int (f 400 17), .int 0, .int 0]) rfl ?_
    exact h
  · replace h := h.1 (Classical.not_not.mp hc)
    refine w_iconst (pc' := 8) rfl rfl (v := 0) rfl ?_
    exact w_ireturn rfl rfl h
theorem t_Mo_spareOf_18 {L : Nat} {xs : Nat → Int32} {x1 : Int32} {x2 : Int32} {x3 : Int32} {f : Hp} {Q : Int32 → Hp → Prop}  (h : ((x3 < (f 400 13) → ∀ g1, g1 = xu f 400 17 (x1 ||| (1 <<< (x3 &&& 31))) → CV L xs xm_Mo_plays [.ref 400] g1 (fun g2 => CI L xs xm_Mo_doneOf [.ref 400, .int (g2 400 18)] g2 (fun v1 g3 => ((v1 < 99999999 → Wp L xs xm_Mo_spareOf 18 [.ref 400, .int x1, .int (x2 ||| (1 <<< (x3 &&& 31))), .int (x3 + 1)] [] g3 (QI Q)) ∧ (¬ v1 < 99999999 → Wp L xs xm_Mo_spareOf 18 [.ref 400, .int x1, .int (x2 ||| 0), .int (x3 + 1)] [] g3 (QI Q)))))) ∧ (¬ x3 < (f 400 13) → Q x2 f))) : Wp L xs xm_Mo_spareOf 18 [.ref 400, .int x1, .int x2, .int x3] [] f (QI Q) := by
  refine w_iload_n (pc' := 19) rfl rfl rfl ?_
  refine w_aload_n (pc' := 20) rfl rfl rfl ?_
  refine w_getI (pc' := 23) rfl rfl rfl rfl rfl (show xS0 L 400 = (12, 0) from rfl) ?_
  refine w_br2 (pc' := 26) (t := 69) rfl rfl rfl ic_ge (fun hc => ?_) (fun hc => ?_)
  · replace h := h.2 hc
    refine w_iload_n (pc' := 70) rfl rfl rfl ?_
    exact w_ireturn rfl rfl h
  · replace h := h.1 (Classical.not_not.mp hc)
    refine w_aload_n (pc' := 27) rfl rfl rfl ?_
    refine w_iload_n (pc' := 28) rfl rfl rfl ?_
    refine w_iconst (pc' := 29) rfl rfl (v := 1) rfl ?_
    refine w_iload_n (pc' := 30) rfl rfl rfl ?_
    refine w_ishl (pc' := 31) rfl rfl ?_
    refine w_ior (pc' := 32) rfl rfl ?_
    refine w_putI (pc' := 35) rfl rfl rfl rfl (show xS0 L 400 = (12, 0) from rfl) ?_
    replace h := h _ rfl
    generalize xu f 400 17 (x1 ||| (1 <<< (x3 &&& 31))) = g1 at h ⊢
    refine w_aload_n (pc' := 36) rfl rfl rfl ?_
    refine w_cv (pc' := 39) (cm := xm_Mo_plays) (as := []) (a := 400) (rest := []) rfl rfl rfl  (xa_Mo_plays (Nat.le_of_ble_eq_true rfl)) (show xS0 L 400 = (12, 0) from rfl) rfl (CV.k h fun g2 h => ?_)
    show Wp L xs xm_Mo_spareOf 39 [.ref 400, .int x1, .int x2, .int x3] [] g2 _
    refine w_iload_n (pc' := 40) rfl rfl rfl ?_
    refine w_aload_n (pc' := 41) rfl rfl rfl ?_
    refine w_aload_n (pc' := 42) rfl rfl rfl ?_
    refine w_getI (pc' := 45) rfl rfl rfl rfl rfl (show xS0 L 400 = (12, 0) from rfl) ?_
    refine w_cv (pc' := 48) (cm := xm_Mo_doneOf) (as := [.int (g2 400 18)]) (a := 400) (rest := [.int x2]) rfl rfl rfl  (xa_Mo_doneOf (Nat.le_of_ble_eq_true rfl)) (show xS0 L 400 = (12, 0) from rfl) rfl (CI.k h fun v1 g3 h => ?_)
    show Wp L xs xm_Mo_spareOf 48 [.ref 400, .int x1, .int x2, .int x3] [.int v1, .int x2] g3 _
    refine w_ldcw (pc' := 51) rfl rfl (v := 99999999) rfl ?_
    refine w_br2 (pc' := 54) (t := 60) rfl rfl rfl ic_ge (fun hc => ?_) (fun hc => ?_)
    · replace h := h.2 hc
      refine w_iconst (pc' := 61) rfl rfl (v := 0) rfl ?_
      refine w_ior (pc' := 62) rfl rfl ?_
      refine w_istore_n (pc' := 63) rfl rfl (xl' := [.ref 400, .int x1, .int (x2 ||| 0), .int x3]) rfl ?_
      refine w_iinc (pc' := 66) rfl rfl rfl (v := (x3 + 1)) rfl (xl' := [.ref 400, .int x1, .int (x2 ||| 0), .int (x3 + 1)]) rfl ?_
      refine w_goto (pc' := 18) rfl rfl ?_
      exact h
    · replace h := h.1 (Classical.not_not.mp hc)
      refine w_iconst (pc' := 55) rfl rfl (v := 1) rfl ?_
      refine w_iload_n (pc' := 56) rfl rfl rfl ?_
      refine w_ishl (pc' := 57) rfl rfl ?_
      refine w_goto (pc' := 61) rfl rfl ?_
      refine w_ior (pc' := 62) rfl rfl ?_
      refine w_istore_n (pc' := 63) rfl rfl (xl' := [.ref 400, .int x1, .int (x2 ||| (1 <<< (x3 &&& 31))), .int x3]) rfl ?_
      refine w_iinc (pc' := 66) rfl rfl rfl (v := (x3 + 1)) rfl (xl' := [.ref 400, .int x1, .int (x2 ||| (1 <<< (x3 &&& 31))), .int (x3 + 1)]) rfl ?_
      refine w_goto (pc' := 18) rfl rfl ?_
      exact h
theorem t_Mo_behind_0 {L : Nat} {xs : Nat → Int32} {x1 : Int32} {x2 : Int32} {x3 : Int32} {f : Hp} {Q : Int32 → Hp → Prop}  (h : CI L xs xm_Mo_isCouncil [.ref 400, .int x1] f (fun v1 g1 => ((v1 = 0 → Q (-1) g1) ∧ (¬ v1 = 0 → CI L xs xm_Mo_isIn [.int x2, .int 0, .int (g1 400 18)] g1 (fun v2 g2 => ((v2 = 0 → Q (-1) g2) ∧ (¬ v2 = 0 → CV L xs xm_Mo_laysSheet [.ref 400] g2 (fun g3 => Wp L xs xm_Mo_behind 29 [.ref 400, .int x1, .int x2, .int x3, .int 0] [] g3 (QI Q))))))))) : CI L xs xm_Mo_behind [.ref 400, .int x1, .int x2, .int x3] f Q := by
  show Wp L xs xm_Mo_behind 0 [.ref 400, .int x1, .int x2, .int x3, .retAddr 0] [] f (QI Q)
  refine w_aload_n (pc' := 1) rfl rfl rfl ?_
  refine w_iload_n (pc' := 2) rfl rfl rfl ?_
  refine w_cv (pc' := 5) (cm := xm_Mo_isCouncil) (as := [.int x1]) (a := 400) (rest := []) rfl rfl rfl  (xa_Mo_isCouncil (Nat.le_of_ble_eq_true rfl)) (show xS0 L 400 = (12, 0) from rfl) rfl (CI.k h fun v1 g1 h => ?_)
  show Wp L xs xm_Mo_behind 5 [.ref 400, .int x1, .int x2, .int x3, .retAddr 0] [.int v1] g1 _
  refine w_br (pc' := 8) (t := 20) rfl rfl rfl ic_eq (fun hc => ?_) (fun hc => ?_)
  · replace h := h.1 hc
    refine w_iconst (pc' := 21) rfl rfl (v := (-1)) rfl ?_
    exact w_ireturn rfl rfl h
  · replace h := h.2 hc
    refine w_iload_n (pc' := 9) rfl rfl rfl ?_
    refine w_iconst (pc' := 10) rfl rfl (v := 0) rfl ?_
    refine w_aload_n (pc' := 11) rfl rfl rfl ?_
    refine w_getI (pc' := 14) rfl rfl rfl rfl rfl (show xS0 L 400 = (12, 0) from rfl) ?_
    refine w_cs (pc' := 17) (cm := xm_Mo_isIn) (as := [.int x2, .int 0, .int (g1 400 18)]) (rest := []) rfl rfl rfl (Or.inl rfl) (xa_Mo_isIn (Nat.le_of_ble_eq_true rfl)) (CI.k h fun v2 g2 h => ?_)
    show Wp L xs xm_Mo_behind 17 [.ref 400, .int x1, .int x2, .int x3, .retAddr 0] [.int v2] g2 _
    refine w_br (pc' := 20) (t := 22) rfl rfl rfl ic_ne (fun hc => ?_) (fun hc => ?_)
    · replace h := h.2 hc
      refine w_aload_n (pc' := 23) rfl rfl rfl ?_
      refine w_cv (pc' := 26) (cm := xm_Mo_laysSheet) (as := []) (a := 400) (rest := []) rfl rfl rfl  (xa_Mo_laysSheet (Nat.le_of_ble_eq_true rfl)) (show xS0 L 400 = (12, 0) from rfl) rfl (CV.k h fun g3 h => ?_)
      show Wp L xs xm_Mo_behind 26 [.ref 400, .int x1, .int x2, .int x3, .retAddr 0] [] g3 _
      refine w_iconst (pc' := 27) rfl rfl (v := 0) rfl ?_
      refine w_istore (pc' := 29) rfl rfl (xl' := [.ref 400, .int x1, .int x2, .int x3, .int 0]) rfl ?_
      exact h
    · replace h := h.1 (Classical.not_not.mp hc)
      refine w_iconst (pc' := 21) rfl rfl (v := (-1)) rfl ?_
      exact w_ireturn rfl rfl h
theorem t_Mo_behind_29 {L : Nat} {xs : Nat → Int32} {x1 : Int32} {x2 : Int32} {x3 : Int32} {x4 : Int32} {f : Hp} {Q : Int32 → Hp → Prop}  (h : ((x4 < x2 → CV L xs xm_Mo_runsSheet [.ref 400, .int x4] f (fun g3 => Wp L xs xm_Mo_behind 29 [.ref 400, .int x1, .int x2, .int x3, .int (x4 + 1)] [] g3 (QI Q))) ∧ (¬ x4 < x2 → ((x3 = 0 → CI L xs xm_Mo_rootOf [.ref 400, .ref 432, .int 0] f (fun v2 g2 => Q v2 g2)) ∧ (¬ x3 = 0 → CI L xs xm_Mo_isIn [.int x3, .int 10, .int 17] f (fun v1 g1 => ((v1 = 0 → Q (-1) g1) ∧ (¬ v1 = 0 → ∃ k1 : Nat, (x3 - 10) = iN k1 ∧ k1 < 8 ∧ Q (g1 432 k1) g1)))))))) : Wp L xs xm_Mo_behind 29 [.ref 400, .int x1, .int x2, .int x3, .int x4] [] f (QI Q) := by
  refine w_iload (pc' := 31) rfl rfl rfl ?_
  refine w_iload_n (pc' := 32) rfl rfl rfl ?_
  refine w_br2 (pc' := 35) (t := 47) rfl rfl rfl ic_ge (fun hc => ?_) (fun hc => ?_)
  · replace h := h.2 hc
    refine w_iload_n (pc' := 48) rfl rfl rfl ?_
    refine w_br (pc' := 51) (t := 63) rfl rfl rfl ic_ne (fun hc => ?_) (fun hc => ?_)
    · replace h := h.2 hc
      refine w_iload_n (pc' := 64) rfl rfl rfl ?_
      refine w_bipush (pc' := 66) rfl rfl (v := 10) rfl ?_
      refine w_bipush (pc' := 68) rfl rfl (v := 17) rfl ?_
      refine w_cs (pc' := 71) (cm := xm_Mo_isIn) (as := [.int x3, .int 10, .int 17]) (rest := []) rfl rfl rfl (Or.inl rfl) (xa_Mo_isIn (Nat.le_of_ble_eq_true rfl)) (CI.k h fun v1 g1 h => ?_)
      show Wp L xs xm_Mo_behind 71 [.ref 400, .int x1, .int x2, .int x3, .int x4] [.int v1] g1 _
      refine w_br (pc' := 74) (t := 86) rfl rfl rfl ic_eq (fun hc => ?_) (fun hc => ?_)
      · replace h := h.1 hc
        refine w_iconst (pc' := 87) rfl rfl (v := (-1)) rfl ?_
        exact w_ireturn rfl rfl h
      · replace h := h.2 hc
        refine w_aload_n (pc' := 75) rfl rfl rfl ?_
        have q1 : xR0 400 55 = some 432 ∧ xS0 L 432 = (20, 8) := (kf_12_55 (show xS0 L 400 = (12, 0) from rfl))
        refine w_getR (pc' := 78) rfl rfl rfl rfl (show xS0 L 400 = (12, 0) from rfl) q1.1 ?_
        refine w_iload_n (pc' := 79) rfl rfl rfl ?_
        refine w_bipush (pc' := 81) rfl rfl (v := 10) rfl ?_
        refine w_isub (pc' := 82) rfl rfl ?_
        obtain ⟨k1, ek1, bk1, h⟩ := h
        refine w_iaload (pc' := 83) (i := k1) rfl rfl q1.2 ek1 bk1 (by omega) ?_
        refine w_goto (pc' := 87) rfl rfl ?_
        exact w_ireturn rfl rfl h
    · replace h := h.1 (Classical.not_not.mp hc)
      refine w_aload_n (pc' := 52) rfl rfl rfl ?_
      refine w_aload_n (pc' := 53) rfl rfl rfl ?_
      have q2 : xR0 400 55 = some 432 ∧ xS0 L 432 = (20, 8) := (kf_12_55 (show xS0 L 400 = (12, 0) from rfl))
      refine w_getR (pc' := 56) rfl rfl rfl rfl (show xS0 L 400 = (12, 0) from rfl) q2.1 ?_
      refine w_iconst (pc' := 57) rfl rfl (v := 0) rfl ?_
      refine w_cv (pc' := 60) (cm := xm_Mo_rootOf) (as := [.ref 432, .int 0]) (a := 400) (rest := []) rfl rfl rfl  (xa_Mo_rootOf (Nat.le_of_ble_eq_true rfl)) (show xS0 L 400 = (12, 0) from rfl) rfl (CI.k h fun v2 g2 h => ?_)
      show Wp L xs xm_Mo_behind 60 [.ref 400, .int x1, .int x2, .int x3, .int x4] [.int v2] g2 _
      refine w_goto (pc' := 87) rfl rfl ?_
      exact w_ireturn rfl rfl h
  · replace h := h.1 (Classical.not_not.mp hc)
    refine w_aload_n (pc' := 36) rfl rfl rfl ?_
    refine w_iload (pc' := 38) rfl rfl rfl ?_
    refine w_cv (pc' := 41) (cm := xm_Mo_runsSheet) (as := [.int x4]) (a := 400) (rest := []) rfl rfl rfl  (xa_Mo_runsSheet (Nat.le_of_ble_eq_true rfl)) (show xS0 L 400 = (12, 0) from rfl) rfl (CV.k h fun g3 h => ?_)
    show Wp L xs xm_Mo_behind 41 [.ref 400, .int x1, .int x2, .int x3, .int x4] [] g3 _
    refine w_iinc (pc' := 44) rfl rfl rfl (v := (x4 + 1)) rfl (xl' := [.ref 400, .int x1, .int x2, .int x3, .int (x4 + 1)]) rfl ?_
    refine w_goto (pc' := 29) rfl rfl ?_
    exact h
theorem t_Mo_laysSheet_0 {L : Nat} {xs : Nat → Int32}  {f : Hp} {Q : Hp → Prop}  (h : Wp L xs xm_Mo_laysSheet 2 [.ref 400, .int 0] [] f (QV Q)) : CV L xs xm_Mo_laysSheet [.ref 400] f Q := by
  show Wp L xs xm_Mo_laysSheet 0 [.ref 400, .retAddr 0] [] f (QV Q)
  refine w_iconst (pc' := 1) rfl rfl (v := 0) rfl ?_
  refine w_istore_n (pc' := 2) rfl rfl (xl' := [.ref 400, .int 0]) rfl ?_
  exact h
theorem t_Mo_laysSheet_2 {L : Nat} {xs : Nat → Int32} {x1 : Int32} {f : Hp} {Q : Hp → Prop}  (h : ((x1 < 8 → ∃ k1 : Nat, (((f 400 11) + 5) + x1) = iN k1 ∧ k1 < 4680 ∧ ∃ k2 : Nat, x1 = iN k2 ∧ k2 < 8 ∧ ∀ g1, g1 = xu f 432 k2 (f 401 k1) → Wp L xs xm_Mo_laysSheet 2 [.ref 400, .int (x1 + 1)] [] g1 (QV Q)) ∧ (¬ x1 < 8 → Q f))) : Wp L xs xm_Mo_laysSheet 2 [.ref 400, .int x1] [] f (QV Q) := by
  refine w_iload_n (pc' := 3) rfl rfl rfl ?_
  refine w_bipush (pc' := 5) rfl rfl (v := 8) rfl ?_
  refine w_br2 (pc' := 8) (t := 33) rfl rfl rfl ic_ge (fun hc => ?_) (fun hc => ?_)
  · replace h := h.2 hc
    exact w_return rfl rfl h
  · replace h := h.1 (Classical.not_not.mp hc)
    refine w_aload_n (pc' := 9) rfl rfl rfl ?_
    have q1 : xR0 400 55 = some 432 ∧ xS0 L 432 = (20, 8) := (kf_12_55 (show xS0 L 400 = (12, 0) from rfl))
    refine w_getR (pc' := 12) rfl rfl rfl rfl (show xS0 L 400 = (12, 0) from rfl) q1.1 ?_
    refine w_iload_n (pc' := 13) rfl rfl rfl ?_
    refine w_aload_n (pc' := 14) rfl rfl rfl ?_
    have q2 : xR0 400 0 = some 401 ∧ xS0 L 401 = (20, 4680) := (kf_12_0 (show xS0 L 400 = (12, 0) from rfl))
    refine w_getR (pc' := 17) rfl rfl rfl rfl (show xS0 L 400 = (12, 0) from rfl) q2.1 ?_
    refine w_aload_n (pc' := 18) rfl rfl rfl ?_
    refine w_getI (pc' := 21) rfl rfl rfl rfl rfl (show xS0 L 400 = (12, 0) from rfl) ?_
    refine w_iconst (pc' := 22) rfl rfl (v := 5) rfl ?_
    refine w_iadd (pc' := 23) rfl rfl ?_
    refine w_iload_n (pc' := 24) rfl rfl rfl ?_
    refine w_iadd (pc' := 25) rfl rfl ?_
    obtain ⟨k1, ek1, bk1, h⟩ := h
    refine w_iaload (pc' := 26) (i := k1) rfl rfl q2.2 ek1 bk1 (by omega) ?_
    obtain ⟨k2, ek2, bk2, h⟩ := h
    refine w_iastore (pc' := 27) (i := k2) rfl rfl q1.2 ek2 bk2 (by omega) ?_
    replace h := h _ rfl
    generalize xu f 432 k2 (f 401 k1) = g1 at h ⊢
    refine w_iinc (pc' := 30) rfl rfl rfl (v := (x1 + 1)) rfl (xl' := [.ref 400, .int (x1 + 1)]) rfl ?_
    refine w_goto (pc' := 2) rfl rfl ?_
    exact h
theorem t_Mo_runsSheet_0 {L : Nat} {xs : Nat → Int32} {x1 : Int32} {f : Hp} {Q : Hp → Prop}  (h : CI L xs xm_Mo_orderAccount [.ref 400, .int x1] f (fun v1 g1 => CI L xs xm_Mo_orderAccount [.ref 400, .int x1] g1 (fun v2 g2 => ∃ k1 : Nat, v2 = iN k1 ∧ k1 < 8 ∧ CI L xs xm_Mo_orderPlus [.ref 400, .int x1] g2 (fun v3 g3 => ∃ k2 : Nat, v1 = iN k2 ∧ k2 < 8 ∧ ∀ g4, g4 = xu g3 432 k2 (jrem ((g2 432 k1) + v3) 100) → Q g4)))) : CV L xs xm_Mo_runsSheet [.ref 400, .int x1] f Q := by
  show Wp L xs xm_Mo_runsSheet 0 [.ref 400, .int x1] [] f (QV Q)
  refine w_aload_n (pc' := 1) rfl rfl rfl ?_
  have q1 : xR0 400 55 = some 432 ∧ xS0 L 432 = (20, 8) := (kf_12_55 (show xS0 L 400 = (12, 0) from rfl))
  refine w_getR (pc' := 4) rfl rfl rfl rfl (show xS0 L 400 = (12, 0) from rfl) q1.1 ?_
  refine w_aload_n (pc' := 5) rfl rfl rfl ?_
  refine w_iload_n (pc' := 6) rfl rfl rfl ?_
  refine w_cv (pc' := 9) (cm := xm_Mo_orderAccount) (as := [.int x1]) (a := 400) (rest := [.ref 432]) rfl rfl rfl  (xa_Mo_orderAccount (Nat.le_of_ble_eq_true rfl)) (show xS0 L 400 = (12, 0) from rfl) rfl (CI.k h fun v1 g1 h => ?_)
  show Wp L xs xm_Mo_runsSheet 9 [.ref 400, .int x1] [.int v1, .ref 432] g1 _
  refine w_aload_n (pc' := 10) rfl rfl rfl ?_
  have q2 : xR0 400 55 = some 432 ∧ xS0 L 432 = (20, 8) := (kf_12_55 (show xS0 L 400 = (12, 0) from rfl))
  refine w_getR (pc' := 13) rfl rfl rfl rfl (show xS0 L 400 = (12, 0) from rfl) q2.1 ?_
  refine w_aload_n (pc' := 14) rfl rfl rfl ?_
  refine w_iload_n (pc' := 15) rfl rfl rfl ?_
  refine w_cv (pc' := 18) (cm := xm_Mo_orderAccount) (as := [.int x1]) (a := 400) (rest := [.ref 432, .int v1, .ref 432]) rfl rfl rfl  (xa_Mo_orderAccount (Nat.le_of_ble_eq_true rfl)) (show xS0 L 400 = (12, 0) from rfl) rfl (CI.k h fun v2 g2 h => ?_)
  show Wp L xs xm_Mo_runsSheet 18 [.ref 400, .int x1] [.int v2, .ref 432, .int v1, .ref 432] g2 _
  obtain ⟨k1, ek1, bk1, h⟩ := h
  refine w_iaload (pc' := 19) (i := k1) rfl rfl q2.2 ek1 bk1 (by omega) ?_
  refine w_aload_n (pc' := 20) rfl rfl rfl ?_
  refine w_iload_n (pc' := 21) rfl rfl rfl ?_
  refine w_cv (pc' := 24) (cm := xm_Mo_orderPlus) (as := [.int x1]) (a := 400) (rest := [.int (g2 432 k1), .int v1, .ref 432]) rfl rfl rfl  (xa_Mo_orderPlus (Nat.le_of_ble_eq_true rfl)) (show xS0 L 400 = (12, 0) from rfl) rfl (CI.k h fun v3 g3 h => ?_)
  show Wp L xs xm_Mo_runsSheet 24 [.ref 400, .int x1] [.int v3, .int (g2 432 k1), .int v1, .ref 432] g3 _
  refine w_iadd (pc' := 25) rfl rfl ?_
  refine w_bipush (pc' := 27) rfl rfl (v := 100) rfl ?_
  refine w_irem (pc' := 28) rfl rfl (by decide) ?_
  obtain ⟨k2, ek2, bk2, h⟩ := h
  refine w_iastore (pc' := 29) (i := k2) rfl rfl q1.2 ek2 bk2 (by omega) ?_
  replace h := h _ rfl
  generalize xu g3 432 k2 (jrem ((g2 432 k1) + v3) 100) = g4 at h ⊢
  exact w_return rfl rfl h
theorem t_Mo_blind_0 {L : Nat} {xs : Nat → Int32} {x1 : Int32} {x2 : Int32} {f : Hp} {Q : Int32 → Hp → Prop}  (h : CI L xs xm_Mo_isCouncil [.ref 400, .int x1] f (fun v1 g1 => ((v1 = 0 → Q (-2) g1) ∧ (¬ v1 = 0 → ((x2 = 0 → ((x2 = 0 → CI L xs xm_Mo_blindOf [.ref 400] g1 (fun v3 g3 => Q v3 g3)) ∧ (¬ x2 = 0 → CI L xs xm_Mo_pathsOf [.ref 400] g1 (fun v2 g2 => Q v2 g2)))) ∧ (¬ x2 = 0 → ((x2 = 1 → ((x2 = 0 → CI L xs xm_Mo_blindOf [.ref 400] g1 (fun v6 g6 => Q v6 g6)) ∧ (¬ x2 = 0 → CI L xs xm_Mo_pathsOf [.ref 400] g1 (fun v5 g5 => Q v5 g5)))) ∧ (¬ x2 = 1 → ((x2 = 2 → CI L xs xm_Mo_pathsOf [.ref 400] g1 (fun v4 g4 => Wp L xs xm_Mo_blind 54 [.ref 400, .int x1, .int x2, .int 0, .int 1] [] g4 (QI Q))) ∧ (¬ x2 = 2 → Q (-2) g1)))))))))) : CI L xs xm_Mo_blind [.ref 400, .int x1, .int x2] f Q := by
  show Wp L xs xm_Mo_blind 0 [.ref 400, .int x1, .int x2, .retAddr 0, .retAddr 0] [] f (QI Q)
  refine w_aload_n (pc' := 1) rfl rfl rfl ?_
  refine w_iload_n (pc' := 2) rfl rfl rfl ?_
  refine w_cv (pc' := 5) (cm := xm_Mo_isCouncil) (as := [.int x1]) (a := 400) (rest := []) rfl rfl rfl  (xa_Mo_isCouncil (Nat.le_of_ble_eq_true rfl)) (show xS0 L 400 = (12, 0) from rfl) rfl (CI.k h fun v1 g1 h => ?_)
  show Wp L xs xm_Mo_blind 5 [.ref 400, .int x1, .int x2, .retAddr 0, .retAddr 0] [.int v1] g1 _
  refine w_br (pc' := 8) (t := 11) rfl rfl rfl ic_ne (fun hc => ?_) (fun hc => ?_)
  · replace h := h.2 hc
    refine w_iload_n (pc' := 12) rfl rfl rfl ?_
    refine w_br (pc' := 15) (t := 20) rfl rfl rfl ic_eq (fun hc => ?_) (fun hc => ?_)
    · replace h := h.1 hc
      refine w_iload_n (pc' := 21) rfl rfl rfl ?_
      refine w_br (pc' := 24) (t := 31) rfl rfl rfl ic_ne (fun hc => ?_) (fun hc => ?_)
      · replace h := h.2 hc
        refine w_aload_n (pc' := 32) rfl rfl rfl ?_
        refine w_cv (pc' := 35) (cm := xm_Mo_pathsOf) (as := []) (a := 400) (rest := []) rfl rfl rfl  (xa_Mo_pathsOf (Nat.le_of_ble_eq_true rfl)) (show xS0 L 400 = (12, 0) from rfl) rfl (CI.k h fun v2 g2 h => ?_)
        show Wp L xs xm_Mo_blind 35 [.ref 400, .int x1, .int x2, .retAddr 0, .retAddr 0] [.int v2] g2 _
        exact w_ireturn rfl rfl h
      · replace h := h.1 (Classical.not_not.mp hc)
        refine w_aload_n (pc' := 25) rfl rfl rfl ?_
        refine w_cv (pc' := 28) (cm := xm_Mo_blindOf) (as := []) (a := 400) (rest := []) rfl rfl rfl  (xa_Mo_blindOf (Nat.le_of_ble_eq_true rfl)) (show xS0 L 400 = (12, 0) from rfl) rfl (CI.k h fun v3 g3 h => ?_)
        show Wp L xs xm_Mo_blind 28 [.ref 400, .int x1, .int x2, .retAddr 0, .retAddr 0] [.int v3] g3 _
        refine w_goto (pc' := 35) rfl rfl ?_
        exact w_ireturn rfl rfl h
    · replace h := h.2 hc
      refine w_iload_n (pc' := 16) rfl rfl rfl ?_
      refine w_iconst (pc' := 17) rfl rfl (v := 1) rfl ?_
      refine w_br2 (pc' := 20) (t := 36) rfl rfl rfl ic_ne (fun hc => ?_) (fun hc => ?_)
      · replace h := h.2 hc
        refine w_iload_n (pc' := 37) rfl rfl rfl ?_
        refine w_iconst (pc' := 38) rfl rfl (v := 2) rfl ?_
        refine w_br2 (pc' := 41) (t := 44) rfl rfl rfl ic_eq (fun hc => ?_) (fun hc => ?_)
        · replace h := h.1 hc
          refine w_aload_n (pc' := 45) rfl rfl rfl ?_
          refine w_cv (pc' := 48) (cm := xm_Mo_pathsOf) (as := []) (a := 400) (rest := []) rfl rfl rfl  (xa_Mo_pathsOf (Nat.le_of_ble_eq_true rfl)) (show xS0 L 400 = (12, 0) from rfl) rfl (CI.k h fun v4 g4 h => ?_)
          show Wp L xs xm_Mo_blind 48 [.ref 400, .int x1, .int x2, .retAddr 0, .retAddr 0] [.int v4] g4 _
          refine w_popI (pc' := 49) rfl rfl ?_
          refine w_iconst (pc' := 50) rfl rfl (v := 0) rfl ?_
          refine w_istore_n (pc' := 51) rfl rfl (xl' := [.ref 400, .int x1, .int x2, .int 0, .retAddr 0]) rfl ?_
          refine w_iconst (pc' := 52) rfl rfl (v := 1) rfl ?_
          refine w_istore (pc' := 54) rfl rfl (xl' := [.ref 400, .int x1, .int x2, .int 0, .int 1]) rfl ?_
          exact h
        · replace h := h.2 hc
          refine w_bipush (pc' := 43) rfl rfl (v := (-2)) rfl ?_
          exact w_ireturn rfl rfl h
      · replace h := h.1 (Classical.not_not.mp hc)
        refine w_iload_n (pc' := 21) rfl rfl rfl ?_
        refine w_br (pc' := 24) (t := 31) rfl rfl rfl ic_ne (fun hc => ?_) (fun hc => ?_)
        · replace h := h.2 hc
          refine w_aload_n (pc' := 32) rfl rfl rfl ?_
          refine w_cv (pc' := 35) (cm := xm_Mo_pathsOf) (as := []) (a := 400) (rest := []) rfl rfl rfl  (xa_Mo_pathsOf (Nat.le_of_ble_eq_true rfl)) (show xS0 L 400 = (12, 0) from rfl) rfl (CI.k h fun v5 g5 h => ?_)
          show Wp L xs xm_Mo_blind 35 [.ref 400, .int x1, .int x2, .retAddr 0, .retAddr 0] [.int v5] g5 _
          exact w_ireturn rfl rfl h
        · replace h := h.1 (Classical.not_not.mp hc)
          refine w_aload_n (pc' := 25) rfl rfl rfl ?_
          refine w_cv (pc' := 28) (cm := xm_Mo_blindOf) (as := []) (a := 400) (rest := []) rfl rfl rfl  (xa_Mo_blindOf (Nat.le_of_ble_eq_true rfl)) (show xS0 L 400 = (12, 0) from rfl) rfl (CI.k h fun v6 g6 h => ?_)
          show Wp L xs xm_Mo_blind 28 [.ref 400, .int x1, .int x2, .retAddr 0, .retAddr 0] [.int v6] g6 _
          refine w_goto (pc' := 35) rfl rfl ?_
          exact w_ireturn rfl rfl h
  · replace h := h.1 (Classical.not_not.mp hc)
    refine w_bipush (pc' := 10) rfl rfl (v := (-2)) rfl ?_
    exact w_ireturn rfl rfl h
theorem t_Mo_blind_54 {L : Nat} {xs : Nat → Int32} {x1 : Int32} {x2 : Int32} {x3 : Int32} {x4 : Int32} {f : Hp} {Q : Int32 → Hp → Prop}  (h : ((x4 < 8 → ∃ k1 : Nat, x4 = iN k1 ∧ k1 < 8 ∧ ∃ k2 : Nat, x3 = iN k2 ∧ k2 < 8 ∧ (((f 432 k2) < (f 432 k1) → Wp L xs xm_Mo_blind 54 [.ref 400, .int x1, .int x2, .int x4, .int (x4 + 1)] [] f (QI Q)) ∧ (¬ (f 432 k2) < (f 432 k1) → Wp L xs xm_Mo_blind 54 [.ref 400, .int x1, .int x2, .int x3, .int (x4 + 1)] [] f (QI Q)))) ∧ (¬ x4 < 8 → Q x3 f))) : Wp L xs xm_Mo_blind 54 [.ref 400, .int x1, .int x2, .int x3, .int x4] [] f (QI Q) := by
  refine w_iload (pc' := 56) rfl rfl rfl ?_
  refine w_bipush (pc' := 58) rfl rfl (v := 8) rfl ?_
  refine w_br2 (pc' := 61) (t := 90) rfl rfl rfl ic_ge (fun hc => ?_) (fun hc => ?_)
  · replace h := h.2 hc
    refine w_iload_n (pc' := 91) rfl rfl rfl ?_
    exact w_ireturn rfl rfl h
  · replace h := h.1 (Classical.not_not.mp hc)
    refine w_aload_n (pc' := 62) rfl rfl rfl ?_
    have q1 : xR0 400 55 = some 432 ∧ xS0 L 432 = (20, 8) := (kf_12_55 (show xS0 L 400 = (12, 0) from rfl))
    refine w_getR (pc' := 65) rfl rfl rfl rfl (show xS0 L 400 = (12, 0) from rfl) q1.1 ?_
    refine w_iload (pc' := 67) rfl rfl rfl ?_
    obtain ⟨k1, ek1, bk1, h⟩ := h
    refine w_iaload (pc' := 68) (i := k1) rfl rfl q1.2 ek1 bk1 (by omega) ?_
    refine w_aload_n (pc' := 69) rfl rfl rfl ?_
    have q2 : xR0 400 55 = some 432 ∧ xS0 L 432 = (20, 8) := (kf_12_55 (show xS0 L 400 = (12, 0) from rfl))
    refine w_getR (pc' := 72) rfl rfl rfl rfl (show xS0 L 400 = (12, 0) from rfl) q2.1 ?_
    refine w_iload_n (pc' := 73) rfl rfl rfl ?_
    obtain ⟨k2, ek2, bk2, h⟩ := h
    refine w_iaload (pc' := 74) (i := k2) rfl rfl q2.2 ek2 bk2 (by omega) ?_
    refine w_br2 (pc' := 77) (t := 82) rfl rfl rfl ic_le (fun hc => ?_) (fun hc => ?_)
    · replace h := h.2 hc
      refine w_iload_n (pc' := 83) rfl rfl rfl ?_
      refine w_istore_n (pc' := 84) rfl rfl (xl' := [.ref 400, .int x1, .int x2, .int x3, .int x4]) rfl ?_
      refine w_iinc (pc' := 87) rfl rfl rfl (v := (x4 + 1)) rfl (xl' := [.ref 400, .int x1, .int x2, .int x3, .int (x4 + 1)]) rfl ?_
      refine w_goto (pc' := 54) rfl rfl ?_
      exact h
    · replace h := h.1 (Classical.not_not.mp hc)
      refine w_iload (pc' := 79) rfl rfl rfl ?_
      refine w_goto (pc' := 83) rfl rfl ?_
      refine w_istore_n (pc' := 84) rfl rfl (xl' := [.ref 400, .int x1, .int x2, .int x4, .int x4]) rfl ?_
      refine w_iinc (pc' := 87) rfl rfl rfl (v := (x4 + 1)) rfl (xl' := [.ref 400, .int x1, .int x2, .int x4, .int (x4 + 1)]) rfl ?_
      refine w_goto (pc' := 54) rfl rfl ?_
      exact h
theorem t_Mo_blindOf_0 {L : Nat} {xs : Nat → Int32}  {f : Hp} {Q : Int32 → Hp → Prop}  (h : Wp L xs xm_Mo_blindOf 4 [.ref 400, .int 0, .int 0, .retAddr 0] [] f (QI Q)) : CI L xs xm_Mo_blindOf [.ref 400] f Q := by
  show Wp L xs xm_Mo_blindOf 0 [.ref 400, .retAddr 0, .retAddr 0, .retAddr 0] [] f (QI Q)
  refine w_iconst (pc' := 1) rfl rfl (v := 0) rfl ?_
  refine w_istore_n (pc' := 2) rfl rfl (xl' := [.ref 400, .int 0, .retAddr 0, .retAddr 0]) rfl ?_
  refine w_iconst (pc' := 3) rfl rfl (v := 0) rfl ?_
  refine w_istore_n (pc' := 4) rfl rfl (xl' := [.ref 400, .int 0, .int 0, .retAddr 0]) rfl ?_
  exact h
theorem t_Mo_blindOf_4 {L : Nat} {xs : Nat → Int32} {x1 : Int32} {x2 : Int32} {x3 : Value} {f : Hp} {Q : Int32 → Hp → Prop} (cx3 : (x3.category != 2) = true) (h : ((x2 < (f 400 18) → CV L xs xm_Mo_laysSheet [.ref 400] f (fun g1 => CI L xs xm_Mo_rootOf [.ref 400, .ref 432, .int 0] g1 (fun v1 g2 => CV L xs xm_Mo_runsSheet [.ref 400, .int x2] g2 (fun g3 => CI L xs xm_Mo_rootOf [.ref 400, .ref 432, .int 0] g3 (fun v2 g4 => ((v2 = v1 → Wp L xs xm_Mo_blindOf 4 [.ref 400, .int (x1 ||| (1 <<< (x2 &&& 31))), .int (x2 + 1), .int v1] [] g4 (QI Q)) ∧ (¬ v2 = v1 → Wp L xs xm_Mo_blindOf 4 [.ref 400, .int (x1 ||| 0), .int (x2 + 1), .int v1] [] g4 (QI Q)))))))) ∧ (¬ x2 < (f 400 18) → Q x1 f))) : Wp L xs xm_Mo_blindOf 4 [.ref 400, .int x1, .int x2, x3] [] f (QI Q) := by
  refine w_iload_n (pc' := 5) rfl rfl rfl ?_
  refine w_aload_n (pc' := 6) rfl rfl rfl ?_
  refine w_getI (pc' := 9) rfl rfl rfl rfl rfl (show xS0 L 400 = (12, 0) from rfl) ?_
  refine w_br2 (pc' := 12) (t := 60) rfl rfl rfl ic_ge (fun hc => ?_) (fun hc => ?_)
  · replace h := h.2 hc
    refine w_iload_n (pc' := 61) rfl rfl rfl ?_
    exact w_ireturn rfl rfl h
  · replace h := h.1 (Classical.not_not.mp hc)
    refine w_aload_n (pc' := 13) rfl rfl rfl ?_
    refine w_cv (pc' := 16) (cm := xm_Mo_laysSheet) (as := []) (a := 400) (rest := []) rfl rfl rfl  (xa_Mo_laysSheet (Nat.le_of_ble_eq_true rfl)) (show xS0 L 400 = (12, 0) from rfl) rfl (CV.k h fun g1 h => ?_)
    show Wp L xs xm_Mo_blindOf 16 [.ref 400, .int x1, .int x2, x3] [] g1 _
    refine w_aload_n (pc' := 17) rfl rfl rfl ?_
    refine w_aload_n (pc' := 18) rfl rfl rfl ?_
    have q1 : xR0 400 55 = some 432 ∧ xS0 L 432 = (20, 8) := (kf_12_55 (show xS0 L 400 = (12, 0) from rfl))
    refine w_getR (pc' := 21) rfl rfl rfl rfl (show xS0 L 400 = (12, 0) from rfl) q1.1 ?_
    refine w_iconst (pc' := 22) rfl rfl (v := 0) rfl ?_
    refine w_cv (pc' := 25) (cm := xm_Mo_rootOf) (as := [.ref 432, .int 0]) (a := 400) (rest := []) rfl rfl rfl  (xa_Mo_rootOf (Nat.le_of_ble_eq_true rfl)) (show xS0 L 400 = (12, 0) from rfl) rfl (CI.k h fun v1 g2 h => ?_)
    show Wp L xs xm_Mo_blindOf 25 [.ref 400, .int x1, .int x2, x3] [.int v1] g2 _
    refine w_istore_n (pc' := 26) rfl rfl (xl' := [.ref 400, .int x1, .int x2, .int v1]) rfl ?_
    refine w_aload_n (pc' := 27) rfl rfl rfl ?_
    refine w_iload_n (pc' := 28) rfl rfl rfl ?_
    refine w_cv (pc' := 31) (cm := xm_Mo_runsSheet) (as := [.int x2]) (a := 400) (rest := []) rfl rfl rfl  (xa_Mo_runsSheet (Nat.le_of_ble_eq_true rfl)) (show xS0 L 400 = (12, 0) from rfl) rfl (CV.k h fun g3 h => ?_)
    show Wp L xs xm_Mo_blindOf 31 [.ref 400, .int x1, .int x2, .int v1] [] g3 _
    refine w_iload_n (pc' := 32) rfl rfl rfl ?_
    refine w_aload_n (pc' := 33) rfl rfl rfl ?_
    refine w_aload_n (pc' := 34) rfl rfl rfl ?_
    have q2 : xR0 400 55 = some 432 ∧ xS0 L 432 = (20, 8) := (kf_12_55 (show xS0 L 400 = (12, 0) from rfl))
    refine w_getR (pc' := 37) rfl rfl rfl rfl (show xS0 L 400 = (12, 0) from rfl) q2.1 ?_
    refine w_iconst (pc' := 38) rfl rfl (v := 0) rfl ?_
    refine w_cv (pc' := 41) (cm := xm_Mo_rootOf) (as := [.ref 432, .int 0]) (a := 400) (rest := [.int x1]) rfl rfl rfl  (xa_Mo_rootOf (Nat.le_of_ble_eq_true rfl)) (show xS0 L 400 = (12, 0) from rfl) rfl (CI.k h fun v2 g4 h => ?_)
    show Wp L xs xm_Mo_blindOf 41 [.ref 400, .int x1, .int x2, .int v1] [.int v2, .int x1] g4 _
    refine w_iload_n (pc' := 42) rfl rfl rfl ?_
    refine w_br2 (pc' := 45) (t := 51) rfl rfl rfl ic_ne (fun hc => ?_) (fun hc => ?_)
    · replace h := h.2 hc
      refine w_iconst (pc' := 52) rfl rfl (v := 0) rfl ?_
      refine w_ior (pc' := 53) rfl rfl ?_
      refine w_istore_n (pc' := 54) rfl rfl (xl' := [.ref 400, .int (x1 ||| 0), .int x2, .int v1]) rfl ?_
      refine w_iinc (pc' := 57) rfl rfl rfl (v := (x2 + 1)) rfl (xl' := [.ref 400, .int (x1 ||| 0), .int (x2 + 1), .int v1]) rfl ?_
      refine w_goto (pc' := 4) rfl rfl ?_
      exact h
    · replace h := h.1 (Classical.not_not.mp hc)
      refine w_iconst (pc' := 46) rfl rfl (v := 1) rfl ?_
      refine w_iload_n (pc' := 47) rfl rfl rfl ?_
      refine w_ishl (pc' := 48) rfl rfl ?_
      refine w_goto (pc' := 52) rfl rfl ?_
      refine w_ior (pc' := 53) rfl rfl ?_
      refine w_istore_n (pc' := 54) rfl rfl (xl' := [.ref 400, .int (x1 ||| (1 <<< (x2 &&& 31))), .int x2, .int v1]) rfl ?_
      refine w_iinc (pc' := 57) rfl rfl rfl (v := (x2 + 1)) rfl (xl' := [.ref 400, .int (x1 ||| (1 <<< (x2 &&& 31))), .int (x2 + 1), .int v1]) rfl ?_
      refine w_goto (pc' := 4) rfl rfl ?_
      exact h
theorem t_Mo_pathsOf_0 {L : Nat} {xs : Nat → Int32}  {f : Hp} {Q : Int32 → Hp → Prop}  (h : CV L xs xm_Mo_laysSums [.ref 405, .ref 401, .int ((f 400 11) + 5)] f (fun g1 => CV L xs xm_Mo_laysSheet [.ref 400] g1 (fun g2 => Wp L xs xm_Mo_pathsOf 23 [.ref 400, .int 0, .retAddr 0] [] g2 (QI Q)))) : CI L xs xm_Mo_pathsOf [.ref 400] f Q := by
  show Wp L xs xm_Mo_pathsOf 0 [.ref 400, .retAddr 0, .retAddr 0] [] f (QI Q)
  refine w_aload_n (pc' := 1) rfl rfl rfl ?_
  have q1 : xR0 400 20 = some 405 ∧ xS0 L 405 = (20, 16) := (kf_12_20 (show xS0 L 400 = (12, 0) from rfl))
  refine w_getR (pc' := 4) rfl rfl rfl rfl (show xS0 L 400 = (12, 0) from rfl) q1.1 ?_
  refine w_aload_n (pc' := 5) rfl rfl rfl ?_
  have q2 : xR0 400 0 = some 401 ∧ xS0 L 401 = (20, 4680) := (kf_12_0 (show xS0 L 400 = (12, 0) from rfl))
  refine w_getR (pc' := 8) rfl rfl rfl rfl (show xS0 L 400 = (12, 0) from rfl) q2.1 ?_
  refine w_aload_n (pc' := 9) rfl rfl rfl ?_
  refine w_getI (pc' := 12) rfl rfl rfl rfl rfl (show xS0 L 400 = (12, 0) from rfl) ?_
  refine w_iconst (pc' := 13) rfl rfl (v := 5) rfl ?_
  refine w_iadd (pc' := 14) rfl rfl ?_
  refine w_cs (pc' := 17) (cm := xm_Mo_laysSums) (as := [.ref 405, .ref 401, .int ((f 400 11) + 5)]) (rest := []) rfl rfl rfl (Or.inl rfl) (xa_Mo_laysSums (Nat.le_of_ble_eq_true rfl)) (CV.k h fun g1 h => ?_)
  show Wp L xs xm_Mo_pathsOf 17 [.ref 400, .retAddr 0, .retAddr 0] [] g1 _
  refine w_aload_n (pc' := 18) rfl rfl rfl ?_
  refine w_cv (pc' := 21) (cm := xm_Mo_laysSheet) (as := []) (a := 400) (rest := []) rfl rfl rfl  (xa_Mo_laysSheet (Nat.le_of_ble_eq_true rfl)) (show xS0 L 400 = (12, 0) from rfl) rfl (CV.k h fun g2 h => ?_)
  show Wp L xs xm_Mo_pathsOf 21 [.ref 400, .retAddr 0, .retAddr 0] [] g2 _
  refine w_iconst (pc' := 22) rfl rfl (v := 0) rfl ?_
  refine w_istore_n (pc' := 23) rfl rfl (xl' := [.ref 400, .int 0, .retAddr 0]) rfl ?_
  exact h
theorem t_Mo_pathsOf_23 {L : Nat} {xs : Nat → Int32} {x1 : Int32} {f : Hp} {Q : Int32 → Hp → Prop}  (h : ((x1 < (f 400 18) → CV L xs xm_Mo_runsSheet [.ref 400, .int x1] f (fun g2 => Wp L xs xm_Mo_pathsOf 23 [.ref 400, .int (x1 + 1), .retAddr 0] [] g2 (QI Q))) ∧ (¬ x1 < (f 400 18) → CV L xs xm_Mo_laysSums [.ref 404, .ref 432, .int 0] f (fun g1 => Wp L xs xm_Mo_pathsOf 58 [.ref 400, .int 0, .int 1] [] g1 (QI Q))))) : Wp L xs xm_Mo_pathsOf 23 [.ref 400, .int x1, .retAddr 0] [] f (QI Q) := by
  refine w_iload_n (pc' := 24) rfl rfl rfl ?_
  refine w_aload_n (pc' := 25) rfl rfl rfl ?_
  refine w_getI (pc' := 28) rfl rfl rfl rfl rfl (show xS0 L 400 = (12, 0) from rfl) ?_
  refine w_br2 (pc' := 31) (t := 42) rfl rfl rfl ic_ge (fun hc => ?_) (fun hc => ?_)
  · replace h := h.2 hc
    refine w_aload_n (pc' := 43) rfl rfl rfl ?_
    have q1 : xR0 400 19 = some 404 ∧ xS0 L 404 = (20, 16) := (kf_12_19 (show xS0 L 400 = (12, 0) from rfl))
    refine w_getR (pc' := 46) rfl rfl rfl rfl (show xS0 L 400 = (12, 0) from rfl) q1.1 ?_
    refine w_aload_n (pc' := 47) rfl rfl rfl ?_
    have q2 : xR0 400 55 = some 432 ∧ xS0 L 432 = (20, 8) := (kf_12_55 (show xS0 L 400 = (12, 0) from rfl))
    refine w_getR (pc' := 50) rfl rfl rfl rfl (show xS0 L 400 = (12, 0) from rfl) q2.1 ?_
    refine w_iconst (pc' := 51) rfl rfl (v := 0) rfl ?_
    refine w_cs (pc' := 54) (cm := xm_Mo_laysSums) (as := [.ref 404, .ref 432, .int 0]) (rest := []) rfl rfl rfl (Or.inl rfl) (xa_Mo_laysSums (Nat.le_of_ble_eq_true rfl)) (CV.k h fun g1 h => ?_)
    show Wp L xs xm_Mo_pathsOf 54 [.ref 400, .int x1, .retAddr 0] [] g1 _
    refine w_iconst (pc' := 55) rfl rfl (v := 0) rfl ?_
    refine w_istore_n (pc' := 56) rfl rfl (xl' := [.ref 400, .int 0, .retAddr 0]) rfl ?_
    refine w_iconst (pc' := 57) rfl rfl (v := 1) rfl ?_
    refine w_istore_n (pc' := 58) rfl rfl (xl' := [.ref 400, .int 0, .int 1]) rfl ?_
    exact h
  · replace h := h.1 (Classical.not_not.mp hc)
    refine w_aload_n (pc' := 32) rfl rfl rfl ?_
    refine w_iload_n (pc' := 33) rfl rfl rfl ?_
    refine w_cv (pc' := 36) (cm := xm_Mo_runsSheet) (as := [.int x1]) (a := 400) (rest := []) rfl rfl rfl  (xa_Mo_runsSheet (Nat.le_of_ble_eq_true rfl)) (show xS0 L 400 = (12, 0) from rfl) rfl (CV.k h fun g2 h => ?_)
    show Wp L xs xm_Mo_pathsOf 36 [.ref 400, .int x1, .retAddr 0] [] g2 _
    refine w_iinc (pc' := 39) rfl rfl rfl (v := (x1 + 1)) rfl (xl' := [.ref 400, .int (x1 + 1), .retAddr 0]) rfl ?_
    refine w_goto (pc' := 23) rfl rfl ?_
    exact h
theorem t_Mo_pathsOf_58 {L : Nat} {xs : Nat → Int32} {x1 : Int32} {x2 : Int32} {f : Hp} {Q : Int32 → Hp → Prop}  (h : ((x2 < 16 → ∃ k1 : Nat, x2 = iN k1 ∧ k1 < 16 ∧ (((f 404 k1) = (f 405 k1) → Wp L xs xm_Mo_pathsOf 58 [.ref 400, .int (x1 + 0), .int (x2 + 1)] [] f (QI Q)) ∧ (¬ (f 404 k1) = (f 405 k1) → Wp L xs xm_Mo_pathsOf 58 [.ref 400, .int (x1 + 1), .int (x2 + 1)] [] f (QI Q)))) ∧ (¬ x2 < 16 → Q x1 f))) : Wp L xs xm_Mo_pathsOf 58 [.ref 400, .int x1, .int x2] [] f (QI Q) := by
  refine w_iload_n (pc' := 59) rfl rfl rfl ?_
  refine w_bipush (pc' := 61) rfl rfl (v := 16) rfl ?_
  refine w_br2 (pc' := 64) (t := 93) rfl rfl rfl ic_ge (fun hc => ?_) (fun hc => ?_)
  · replace h := h.2 hc
    refine w_iload_n (pc' := 94) rfl rfl rfl ?_
    exact w_ireturn rfl rfl h
  · replace h := h.1 (Classical.not_not.mp hc)
    refine w_iload_n (pc' := 65) rfl rfl rfl ?_
    refine w_aload_n (pc' := 66) rfl rfl rfl ?_
    have q1 : xR0 400 19 = some 404 ∧ xS0 L 404 = (20, 16) := (kf_12_19 (show xS0 L 400 = (12, 0) from rfl))
    refine w_getR (pc' := 69) rfl rfl rfl rfl (show xS0 L 400 = (12, 0) from rfl) q1.1 ?_
    refine w_iload_n (pc' := 70) rfl rfl rfl ?_
    obtain ⟨k1, ek1, bk1, h⟩ := h
    refine w_iaload (pc' := 71) (i := k1) rfl rfl q1.2 ek1 bk1 (by omega) ?_
    refine w_aload_n (pc' := 72) rfl rfl rfl ?_
    have q2 : xR0 400 20 = some 405 ∧ xS0 L 405 = (20, 16) := (kf_12_20 (show xS0 L 400 = (12, 0) from rfl))
    refine w_getR (pc' := 75) rfl rfl rfl rfl (show xS0 L 400 = (12, 0) from rfl) q2.1 ?_
    refine w_iload_n (pc' := 76) rfl rfl rfl ?_
    refine w_iaload (pc' := 77) (i := k1) rfl rfl q2.2 ek1 bk1 (by omega) ?_
    refine w_br2 (pc' := 80) (t := 84) rfl rfl rfl ic_ne (fun hc => ?_) (fun hc => ?_)
    · replace h := h.2 hc
      refine w_iconst (pc' := 85) rfl rfl (v := 1) rfl ?_
      refine w_iadd (pc' := 86) rfl rfl ?_
      refine w_istore_n (pc' := 87) rfl rfl (xl' := [.ref 400, .int (x1 + 1), .int x2]) rfl ?_
      refine w_iinc (pc' := 90) rfl rfl rfl (v := (x2 + 1)) rfl (xl' := [.ref 400, .int (x1 + 1), .int (x2 + 1)]) rfl ?_
      refine w_goto (pc' := 58) rfl rfl ?_
      exact h
    · replace h := h.1 (Classical.not_not.mp hc)
      refine w_iconst (pc' := 81) rfl rfl (v := 0) rfl ?_
      refine w_goto (pc' := 85) rfl rfl ?_
      refine w_iadd (pc' := 86) rfl rfl ?_
      refine w_istore_n (pc' := 87) rfl rfl (xl' := [.ref 400, .int (x1 + 0), .int x2]) rfl ?_
      refine w_iinc (pc' := 90) rfl rfl rfl (v := (x2 + 1)) rfl (xl' := [.ref 400, .int (x1 + 0), .int (x2 + 1)]) rfl ?_
      refine w_goto (pc' := 58) rfl rfl ?_
      exact h
theorem t_Mo_reply_0 {L : Nat} {xs : Nat → Int32} {x1 : Int32} {x2 : Int32} {x3 : Int32} {f : Hp} {Q : Int32 → Hp → Prop}  (h : CI L xs xm_Mo_isReplies [.ref 400, .int x1] f (fun v1 g1 => ((v1 = 0 → Q (-2) g1) ∧ (¬ v1 = 0 → ((x2 = (-1) → ((x3 = 0 → ∃ k3 : Nat, (g1 400 56) = iN k3 ∧ k3 < 4680 ∧ Q (g1 401 k3) g1) ∧ (¬ x3 = 0 → Q (-2) g1))) ∧ (¬ x2 = (-1) → ∃ k1 : Nat, (g1 400 56) = iN k1 ∧ k1 < 4680 ∧ CI L xs xm_Mo_isIn [.int x2, .int 0, .int ((g1 401 k1) - 1)] g1 (fun v2 g2 => ((v2 = 0 → Q (-2) g2) ∧ (¬ v2 = 0 → CI L xs xm_Mo_isIn [.int x3, .int 0, .int 2] g2 (fun v3 g3 => ((v3 = 0 → Q (-2) g3) ∧ (¬ v3 = 0 → ∃ k2 : Nat, ((((g3 400 56) + 1) + (3 * x2)) + x3) = iN k2 ∧ k2 < 4680 ∧ Q (g3 401 k2) g3)))))))))))) : CI L xs xm_Mo_reply [.ref 400, .int x1, .int x2, .int x3] f Q := by
  show Wp L xs xm_Mo_reply 0 [.ref 400, .int x1, .int x2, .int x3] [] f (QI Q)
  refine w_aload_n (pc' := 1) rfl rfl rfl ?_
  refine w_iload_n (pc' := 2) rfl rfl rfl ?_
  refine w_cv (pc' := 5) (cm := xm_Mo_isReplies) (as := [.int x1]) (a := 400) (rest := []) rfl rfl rfl  (xa_Mo_isReplies (Nat.le_of_ble_eq_true rfl)) (show xS0 L 400 = (12, 0) from rfl) rfl (CI.k h fun v1 g1 h => ?_)
  show Wp L xs xm_Mo_reply 5 [.ref 400, .int x1, .int x2, .int x3] [.int v1] g1 _
  refine w_br (pc' := 8) (t := 11) rfl rfl rfl ic_ne (fun hc => ?_) (fun hc => ?_)
  · replace h := h.2 hc
    refine w_iload_n (pc' := 12) rfl rfl rfl ?_
    refine w_iconst (pc' := 13) rfl rfl (v := (-1)) rfl ?_
    refine w_br2 (pc' := 16) (t := 35) rfl rfl rfl ic_ne (fun hc => ?_) (fun hc => ?_)
    · replace h := h.2 hc
      refine w_iload_n (pc' := 36) rfl rfl rfl ?_
      refine w_iconst (pc' := 37) rfl rfl (v := 0) rfl ?_
      refine w_aload_n (pc' := 38) rfl rfl rfl ?_
      have q1 : xR0 400 0 = some 401 ∧ xS0 L 401 = (20, 4680) := (kf_12_0 (show xS0 L 400 = (12, 0) from rfl))
      refine w_getR (pc' := 41) rfl rfl rfl rfl (show xS0 L 400 = (12, 0) from rfl) q1.1 ?_
      refine w_aload_n (pc' := 42) rfl rfl rfl ?_
      refine w_getI (pc' := 45) rfl rfl rfl rfl rfl (show xS0 L 400 = (12, 0) from rfl) ?_
      obtain ⟨k1, ek1, bk1, h⟩ := h
      refine w_iaload (pc' := 46) (i := k1) rfl rfl q1.2 ek1 bk1 (by omega) ?_
      refine w_iconst (pc' := 47) rfl rfl (v := 1) rfl ?_
      refine w_isub (pc' := 48) rfl rfl ?_
      refine w_cs (pc' := 51) (cm := xm_Mo_isIn) (as := [.int x2, .int 0, .int ((g1 401 k1) - 1)]) (rest := []) rfl rfl rfl (Or.inl rfl) (xa_Mo_isIn (Nat.le_of_ble_eq_true rfl)) (CI.k h fun v2 g2 h => ?_)
      show Wp L xs xm_Mo_reply 51 [.ref 400, .int x1, .int x2, .int x3] [.int v2] g2 _
      refine w_br (pc' := 54) (t := 83) rfl rfl rfl ic_eq (fun hc => ?_) (fun hc => ?_)
      · replace h := h.1 hc
        refine w_bipush (pc' := 85) rfl rfl (v := (-2)) rfl ?_
        exact w_ireturn rfl rfl h
      · replace h := h.2 hc
        refine w_iload_n (pc' := 55) rfl rfl rfl ?_
        refine w_iconst (pc' := 56) rfl rfl (v := 0) rfl ?_
        refine w_iconst (pc' := 57) rfl rfl (v := 2) rfl ?_
        refine w_cs (pc' := 60) (cm := xm_Mo_isIn) (as := [.int x3, .int 0, .int 2]) (rest := []) rfl rfl rfl (Or.inl rfl) (xa_Mo_isIn (Nat.le_of_ble_eq_true rfl)) (CI.k h fun v3 g3 h => ?_)
        show Wp L xs xm_Mo_reply 60 [.ref 400, .int x1, .int x2, .int x3] [.int v3] g3 _
        refine w_br (pc' := 63) (t := 83) rfl rfl rfl ic_eq (fun hc => ?_) (fun hc => ?_)
        · replace h := h.1 hc
          refine w_bipush (pc' := 85) rfl rfl (v := (-2)) rfl ?_
          exact w_ireturn rfl rfl h
        · replace h := h.2 hc
          refine w_aload_n (pc' := 64) rfl rfl rfl ?_
          have q2 : xR0 400 0 = some 401 ∧ xS0 L 401 = (20, 4680) := (kf_12_0 (show xS0 L 400 = (12, 0) from rfl))
          refine w_getR (pc' := 67) rfl rfl rfl rfl (show xS0 L 400 = (12, 0) from rfl) q2.1 ?_
          refine w_aload_n (pc' := 68) rfl rfl rfl ?_
          refine w_getI (pc' := 71) rfl rfl rfl rfl rfl (show xS0 L 400 = (12, 0) from rfl) ?_
          refine w_iconst (pc' := 72) rfl rfl (v := 1) rfl ?_
          refine w_iadd (pc' := 73) rfl rfl ?_
          refine w_iconst (pc' := 74) rfl rfl (v := 3) rfl ?_
          refine w_iload_n (pc' := 75) rfl rfl rfl ?_
          refine w_imul (pc' := 76) rfl rfl ?_
          refine w_iadd (pc' := 77) rfl rfl ?_
          refine w_iload_n (pc' := 78) rfl rfl rfl ?_
          refine w_iadd (pc' := 79) rfl rfl ?_
          obtain ⟨k2, ek2, bk2, h⟩ := h
          refine w_iaload (pc' := 80) (i := k2) rfl rfl q2.2 ek2 bk2 (by omega) ?_
          refine w_goto (pc' := 85) rfl rfl ?_
          exact w_ireturn rfl rfl h
    · replace h := h.1 (Classical.not_not.mp hc)
      refine w_iload_n (pc' := 17) rfl rfl rfl ?_
      refine w_br (pc' := 20) (t := 32) rfl rfl rfl ic_ne (fun hc => ?_) (fun hc => ?_)
      · replace h := h.2 hc
        refine w_bipush (pc' := 34) rfl rfl (v := (-2)) rfl ?_
        exact w_ireturn rfl rfl h
      · replace h := h.1 (Classical.not_not.mp hc)
        refine w_aload_n (pc' := 21) rfl rfl rfl ?_
        have q3 : xR0 400 0 = some 401 ∧ xS0 L 401 = (20, 4680) := (kf_12_0 (show xS0 L 400 = (12, 0) from rfl))
        refine w_getR (pc' := 24) rfl rfl rfl rfl (show xS0 L 400 = (12, 0) from rfl) q3.1 ?_
        refine w_aload_n (pc' := 25) rfl rfl rfl ?_
        refine w_getI (pc' := 28) rfl rfl rfl rfl rfl (show xS0 L 400 = (12, 0) from rfl) ?_
        obtain ⟨k3, ek3, bk3, h⟩ := h
        refine w_iaload (pc' := 29) (i := k3) rfl rfl q3.2 ek3 bk3 (by omega) ?_
        refine w_goto (pc' := 34) rfl rfl ?_
        exact w_ireturn rfl rfl h
  · replace h := h.1 (Classical.not_not.mp hc)
    refine w_bipush (pc' := 10) rfl rfl (v := (-2)) rfl ?_
    exact w_ireturn rfl rfl h
theorem t_Mo_isReplies_0 {L : Nat} {xs : Nat → Int32} {x1 : Int32} {f : Hp} {Q : Int32 → Hp → Prop}  (h : CI L xs xm_Mo_isOf [.ref 400, .int 2, .int x1] f (fun v1 g1 => ((v1 = 0 → Q 0 g1) ∧ (¬ v1 = 0 → CI L xs xm_Mo_placeOf [.int 2, .int x1] g1 (fun v2 g2 => ∀ g3, g3 = xu g2 400 56 v2 → Q 1 g3))))) : CI L xs xm_Mo_isReplies [.ref 400, .int x1] f Q := by
  show Wp L xs xm_Mo_isReplies 0 [.ref 400, .int x1] [] f (QI Q)
  refine w_aload_n (pc' := 1) rfl rfl rfl ?_
  refine w_iconst (pc' := 2) rfl rfl (v := 2) rfl ?_
  refine w_iload_n (pc' := 3) rfl rfl rfl ?_
  refine w_cv (pc' := 6) (cm := xm_Mo_isOf) (as := [.int 2, .int x1]) (a := 400) (rest := []) rfl rfl rfl  (xa_Mo_isOf (Nat.le_of_ble_eq_true rfl)) (show xS0 L 400 = (12, 0) from rfl) rfl (CI.k h fun v1 g1 h => ?_)
  show Wp L xs xm_Mo_isReplies 6 [.ref 400, .int x1] [.int v1] g1 _
  refine w_br (pc' := 9) (t := 11) rfl rfl rfl ic_ne (fun hc => ?_) (fun hc => ?_)
  · replace h := h.2 hc
    refine w_aload_n (pc' := 12) rfl rfl rfl ?_
    refine w_iconst (pc' := 13) rfl rfl (v := 2) rfl ?_
    refine w_iload_n (pc' := 14) rfl rfl rfl ?_
    refine w_cs (pc' := 17) (cm := xm_Mo_placeOf) (as := [.int 2, .int x1]) (rest := [.ref 400]) rfl rfl rfl (Or.inl rfl) (xa_Mo_placeOf (Nat.le_of_ble_eq_true rfl)) (CI.k h fun v2 g2 h => ?_)
    show Wp L xs xm_Mo_isReplies 17 [.ref 400, .int x1] [.int v2, .ref 400] g2 _
    refine w_putI (pc' := 20) rfl rfl rfl rfl (show xS0 L 400 = (12, 0) from rfl) ?_
    replace h := h _ rfl
    generalize xu g2 400 56 v2 = g3 at h ⊢
    refine w_iconst (pc' := 21) rfl rfl (v := 1) rfl ?_
    exact w_ireturn rfl rfl h
  · replace h := h.1 (Classical.not_not.mp hc)
    refine w_iconst (pc' := 10) rfl rfl (v := 0) rfl ?_
    exact w_ireturn rfl rfl h
theorem t_Mo_match_0 {L : Nat} {xs : Nat → Int32} {x1 : Int32} {x2 : Int32} {x3 : Int32} {f : Hp} {Q : Int32 → Hp → Prop}  (h : CI L xs xm_Mo_isCouncil [.ref 400, .int x1] f (fun v1 g1 => ((v1 = 0 → Q (-1) g1) ∧ (¬ v1 = 0 → CI L xs xm_Mo_isReplies [.ref 400, .int x2] g1 (fun v2 g2 => ((v2 = 0 → Q (-1) g2) ∧ (¬ v2 = 0 → CI L xs xm_Mo_isIn [.int x3, .int 0, .int 2] g2 (fun v3 g3 => ((v3 = 0 → Q (-1) g3) ∧ (¬ v3 = 0 → Wp L xs xm_Mo_match 30 [.ref 400, .int x1, .int x2, .int x3, .int 0, .retAddr 0, .retAddr 0, .retAddr 0, .retAddr 0] [] g3 (QI Q))))))))))) : CI L xs xm_Mo_match [.ref 400, .int x1, .int x2, .int x3] f Q := by
  show Wp L xs xm_Mo_match 0 [.ref 400, .int x1, .int x2, .int x3, .retAddr 0, .retAddr 0, .retAddr 0, .retAddr 0, .retAddr 0] [] f (QI Q)
  refine w_aload_n (pc' := 1) rfl rfl rfl ?_
  refine w_iload_n (pc' := 2) rfl rfl rfl ?_
  refine w_cv (pc' := 5) (cm := xm_Mo_isCouncil) (as := [.int x1]) (a := 400) (rest := []) rfl rfl rfl  (xa_Mo_isCouncil (Nat.le_of_ble_eq_true rfl)) (show xS0 L 400 = (12, 0) from rfl) rfl (CI.k h fun v1 g1 h => ?_)
  show Wp L xs xm_Mo_match 5 [.ref 400, .int x1, .int x2, .int x3, .retAddr 0, .retAddr 0, .retAddr 0, .retAddr 0, .retAddr 0] [.int v1] g1 _
  refine w_br (pc' := 8) (t := 25) rfl rfl rfl ic_eq (fun hc => ?_) (fun hc => ?_)
  · replace h := h.1 hc
    refine w_iconst (pc' := 26) rfl rfl (v := (-1)) rfl ?_
    exact w_ireturn rfl rfl h
  · replace h := h.2 hc
    refine w_aload_n (pc' := 9) rfl rfl rfl ?_
    refine w_iload_n (pc' := 10) rfl rfl rfl ?_
    refine w_cv (pc' := 13) (cm := xm_Mo_isReplies) (as := [.int x2]) (a := 400) (rest := []) rfl rfl rfl  (xa_Mo_isReplies (Nat.le_of_ble_eq_true rfl)) (show xS0 L 400 = (12, 0) from rfl) rfl (CI.k h fun v2 g2 h => ?_)
    show Wp L xs xm_Mo_match 13 [.ref 400, .int x1, .int x2, .int x3, .retAddr 0, .retAddr 0, .retAddr 0, .retAddr 0, .retAddr 0] [.int v2] g2 _
    refine w_br (pc' := 16) (t := 25) rfl rfl rfl ic_eq (fun hc => ?_) (fun hc => ?_)
    · replace h := h.1 hc
      refine w_iconst (pc' := 26) rfl rfl (v := (-1)) rfl ?_
      exact w_ireturn rfl rfl h
    · replace h := h.2 hc
      refine w_iload_n (pc' := 17) rfl rfl rfl ?_
      refine w_iconst (pc' := 18) rfl rfl (v := 0) rfl ?_
      refine w_iconst (pc' := 19) rfl rfl (v := 2) rfl ?_
      refine w_cs (pc' := 22) (cm := xm_Mo_isIn) (as := [.int x3, .int 0, .int 2]) (rest := []) rfl rfl rfl (Or.inl rfl) (xa_Mo_isIn (Nat.le_of_ble_eq_true rfl)) (CI.k h fun v3 g3 h => ?_)
      show Wp L xs xm_Mo_match 22 [.ref 400, .int x1, .int x2, .int x3, .retAddr 0, .retAddr 0, .retAddr 0, .retAddr 0, .retAddr 0] [.int v3] g3 _
      refine w_br (pc' := 25) (t := 27) rfl rfl rfl ic_ne (fun hc => ?_) (fun hc => ?_)
      · replace h := h.2 hc
        refine w_iconst (pc' := 28) rfl rfl (v := 0) rfl ?_
        refine w_istore (pc' := 30) rfl rfl (xl' := [.ref 400, .int x1, .int x2, .int x3, .int 0, .retAddr 0, .retAddr 0, .retAddr 0, .retAddr 0]) rfl ?_
        exact h
      · replace h := h.1 (Classical.not_not.mp hc)
        refine w_iconst (pc' := 26) rfl rfl (v := (-1)) rfl ?_
        exact w_ireturn rfl rfl h
theorem t_Mo_match_30 {L : Nat} {xs : Nat → Int32} {x1 : Int32} {x2 : Int32} {x3 : Int32} {x4 : Int32} {x5 : Value} {x6 : Value} {f : Hp} {Q : Int32 → Hp → Prop} (cx5 : (x5.category != 2) = true) (cx6 : (x6.category != 2) = true) (h : ∃ k1 : Nat, (f 400 56) = iN k1 ∧ k1 < 4680 ∧ ((x4 < (f 401 k1) → CV L xs xm_Mo_come [.ref 400, .int (x4 + 1)] f (fun g1 => ∃ k2 : Nat, (((g1 400 56) + 3) + (3 * x4)) = iN k2 ∧ k2 < 4680 ∧ CI L xs xm_Mo_tell [.ref 400, .int (g1 401 k2)] g1 (fun v1 g2 => ∃ k3 : Nat, (((g2 400 56) + 1) + (3 * x4)) = iN k3 ∧ k3 < 4680 ∧ CI L xs xm_Mo_isMember [.ref 400, .int (g2 401 k3)] g2 (fun v2 g3 => ((v2 = 0 → Wp L xs xm_Mo_match 30 [.ref 400, .int x1, .int x2, .int x3, .int (x4 + 1), .int (g1 401 k2), .int v1, .retAddr 0, .retAddr 0] [] g3 (QI Q)) ∧ (¬ v2 = 0 → CI L xs xm_Mo_bitsOf [.int v1] g3 (fun v3 g4 => (((g4 400 12) < v3 → Wp L xs xm_Mo_match 122 [.ref 400, .int x1, .int x2, .int x3, .int x4, .int (g1 401 k2), .int v1, .int 0, .int 0] [] g4 (QI Q)) ∧ (¬ (g4 400 12) < v3 → Wp L xs xm_Mo_match 30 [.ref 400, .int x1, .int x2, .int x3, .int (x4 + 1), .int (g1 401 k2), .int v1, .retAddr 0, .retAddr 0] [] g4 (QI Q)))))))))) ∧ (¬ x4 < (f 401 k1) → Q (-1) f))) : Wp L xs xm_Mo_match 30 [.ref 400, .int x1, .int x2, .int x3, .int x4, x5, x6, .retAddr 0, .retAddr 0] [] f (QI Q) := by
  refine w_iload (pc' := 32) rfl rfl rfl ?_
  refine w_aload_n (pc' := 33) rfl rfl rfl ?_
  have q1 : xR0 400 0 = some 401 ∧ xS0 L 401 = (20, 4680) := (kf_12_0 (show xS0 L 400 = (12, 0) from rfl))
  refine w_getR (pc' := 36) rfl rfl rfl rfl (show xS0 L 400 = (12, 0) from rfl) q1.1 ?_
  refine w_aload_n (pc' := 37) rfl rfl rfl ?_
  refine w_getI (pc' := 40) rfl rfl rfl rfl rfl (show xS0 L 400 = (12, 0) from rfl) ?_
  obtain ⟨k1, ek1, bk1, h⟩ := h
  refine w_iaload (pc' := 41) (i := k1) rfl rfl q1.2 ek1 bk1 (by omega) ?_
  refine w_br2 (pc' := 44) (t := 202) rfl rfl rfl ic_ge (fun hc => ?_) (fun hc => ?_)
  · replace h := h.2 hc
    refine w_iconst (pc' := 203) rfl rfl (v := (-1)) rfl ?_
    exact w_ireturn rfl rfl h
  · replace h := h.1 (Classical.not_not.mp hc)
    refine w_aload_n (pc' := 45) rfl rfl rfl ?_
    refine w_iload (pc' := 47) rfl rfl rfl ?_
    refine w_iconst (pc' := 48) rfl rfl (v := 1) rfl ?_
    refine w_iadd (pc' := 49) rfl rfl ?_
    refine w_cv (pc' := 52) (cm := xm_Mo_come) (as := [.int (x4 + 1)]) (a := 400) (rest := []) rfl rfl rfl  (xa_Mo_come (Nat.le_of_ble_eq_true rfl)) (show xS0 L 400 = (12, 0) from rfl) rfl (CV.k h fun g1 h => ?_)
    show Wp L xs xm_Mo_match 52 [.ref 400, .int x1, .int x2, .int x3, .int x4, x5, x6, .retAddr 0, .retAddr 0] [] g1 _
    refine w_aload_n (pc' := 53) rfl rfl rfl ?_
    have q2 : xR0 400 0 = some 401 ∧ xS0 L 401 = (20, 4680) := (kf_12_0 (show xS0 L 400 = (12, 0) from rfl))
    refine w_getR (pc' := 56) rfl rfl rfl rfl (show xS0 L 400 = (12, 0) from rfl) q2.1 ?_
    refine w_aload_n (pc' := 57) rfl rfl rfl ?_
    refine w_getI (pc' := 60) rfl rfl rfl rfl rfl (show xS0 L 400 = (12, 0) from rfl) ?_
    refine w_iconst (pc' := 61) rfl rfl (v := 3) rfl ?_
    refine w_iadd (pc' := 62) rfl rfl ?_
    refine w_iconst (pc' := 63) rfl rfl (v := 3) rfl ?_
    refine w_iload (pc' := 65) rfl rfl rfl ?_
    refine w_imul (pc' := 66) rfl rfl ?_
    refine w_iadd (pc' := 67) rfl rfl ?_
    obtain ⟨k2, ek2, bk2, h⟩ := h
    refine w_iaload (pc' := 68) (i := k2) rfl rfl q2.2 ek2 bk2 (by omega) ?_
    refine w_istore (pc' := 70) rfl rfl (xl' := [.ref 400, .int x1, .int x2, .int x3, .int x4, .int (g1 401 k2), x6, .retAddr 0, .retAddr 0]) rfl ?_
    refine w_aload_n (pc' := 71) rfl rfl rfl ?_
    refine w_iload (pc' := 73) rfl rfl rfl ?_
    refine w_cv (pc' := 76) (cm := xm_Mo_tell) (as := [.int (g1 401 k2)]) (a := 400) (rest := []) rfl rfl rfl  (xa_Mo_tell (Nat.le_of_ble_eq_true rfl)) (show xS0 L 400 = (12, 0) from rfl) rfl (CI.k h fun v1 g2 h => ?_)
    show Wp L xs xm_Mo_match 76 [.ref 400, .int x1, .int x2, .int x3, .int x4, .int (g1 401 k2), x6, .retAddr 0, .retAddr 0] [.int v1] g2 _
    refine w_istore (pc' := 78) rfl rfl (xl' := [.ref 400, .int x1, .int x2, .int x3, .int x4, .int (g1 401 k2), .int v1, .retAddr 0, .retAddr 0]) rfl ?_
    refine w_aload_n (pc' := 79) rfl rfl rfl ?_
    refine w_aload_n (pc' := 80) rfl rfl rfl ?_
    have q3 : xR0 400 0 = some 401 ∧ xS0 L 401 = (20, 4680) := (kf_12_0 (show xS0 L 400 = (12, 0) from rfl))
    refine w_getR (pc' := 83) rfl rfl rfl rfl (show xS0 L 400 = (12, 0) from rfl) q3.1 ?_
    refine w_aload_n (pc' := 84) rfl rfl rfl ?_
    refine w_getI (pc' := 87) rfl rfl rfl rfl rfl (show xS0 L 400 = (12, 0) from rfl) ?_
    refine w_iconst (pc' := 88) rfl rfl (v := 1) rfl ?_
    refine w_iadd (pc' := 89) rfl rfl ?_
    refine w_iconst (pc' := 90) rfl rfl (v := 3) rfl ?_
    refine w_iload (pc' := 92) rfl rfl rfl ?_
    refine w_imul (pc' := 93) rfl rfl ?_
    refine w_iadd (pc' := 94) rfl rfl ?_
    obtain ⟨k3, ek3, bk3, h⟩ := h
    refine w_iaload (pc' := 95) (i := k3) rfl rfl q3.2 ek3 bk3 (by omega) ?_
    refine w_cv (pc' := 98) (cm := xm_Mo_isMember) (as := [.int (g2 401 k3)]) (a := 400) (rest := []) rfl rfl rfl  (xa_Mo_isMember (Nat.le_of_ble_eq_true rfl)) (show xS0 L 400 = (12, 0) from rfl) rfl (CI.k h fun v2 g3 h => ?_)
    show Wp L xs xm_Mo_match 98 [.ref 400, .int x1, .int x2, .int x3, .int x4, .int (g1 401 k2), .int v1, .retAddr 0, .retAddr 0] [.int v2] g3 _
    refine w_br (pc' := 101) (t := 196) rfl rfl rfl ic_eq (fun hc => ?_) (fun hc => ?_)
    · replace h := h.1 hc
      refine w_iinc (pc' := 199) rfl rfl rfl (v := (x4 + 1)) rfl (xl' := [.ref 400, .int x1, .int x2, .int x3, .int (x4 + 1), .int (g1 401 k2), .int v1, .retAddr 0, .retAddr 0]) rfl ?_
      refine w_goto (pc' := 30) rfl rfl ?_
      exact h
    · replace h := h.2 hc
      refine w_iload (pc' := 103) rfl rfl rfl ?_
      refine w_cs (pc' := 106) (cm := xm_Mo_bitsOf) (as := [.int v1]) (rest := []) rfl rfl rfl (Or.inl rfl) (xa_Mo_bitsOf (Nat.le_of_ble_eq_true rfl)) (CI.k h fun v3 g4 h => ?_)
      show Wp L xs xm_Mo_match 106 [.ref 400, .int x1, .int x2, .int x3, .int x4, .int (g1 401 k2), .int v1, .retAddr 0, .retAddr 0] [.int v3] g4 _
      refine w_aload_n (pc' := 107) rfl rfl rfl ?_
      refine w_getI (pc' := 110) rfl rfl rfl rfl rfl (show xS0 L 400 = (12, 0) from rfl) ?_
      refine w_br2 (pc' := 113) (t := 116) rfl rfl rfl ic_gt (fun hc => ?_) (fun hc => ?_)
      · replace h := h.1 hc
        refine w_iconst (pc' := 117) rfl rfl (v := 0) rfl ?_
        refine w_istore (pc' := 119) rfl rfl (xl' := [.ref 400, .int x1, .int x2, .int x3, .int x4, .int (g1 401 k2), .int v1, .int 0, .retAddr 0]) rfl ?_
        refine w_iconst (pc' := 120) rfl rfl (v := 0) rfl ?_
        refine w_istore (pc' := 122) rfl rfl (xl' := [.ref 400, .int x1, .int x2, .int x3, .int x4, .int (g1 401 k2), .int v1, .int 0, .int 0]) rfl ?_
        exact h
      · replace h := h.2 hc
        refine w_goto (pc' := 196) rfl rfl ?_
        refine w_iinc (pc' := 199) rfl rfl rfl (v := (x4 + 1)) rfl (xl' := [.ref 400, .int x1, .int x2, .int x3, .int (x4 + 1), .int (g1 401 k2), .int v1, .retAddr 0, .retAddr 0]) rfl ?_
        refine w_goto (pc' := 30) rfl rfl ?_
        exact h
theorem t_Mo_match_122 {L : Nat} {xs : Nat → Int32} {x1 : Int32} {x2 : Int32} {x3 : Int32} {x4 : Int32} {x5 : Int32} {x6 : Int32} {x7 : Int32} {x8 : Int32} {f : Hp} {Q : Int32 → Hp → Prop}  (h : ((x8 < (f 400 13) → ((((x6 >>> (x8 &&& 31)) &&& 1) = 1 → ∃ k1 : Nat, x8 = iN k1 ∧ k1 < 7 ∧ ((x7 < (f 434 k1) → Wp L xs xm_Mo_match 122 [.ref 400, .int x1, .int x2, .int x3, .int x4, .int x5, .int x6, .int (f 434 k1), .int (x8 + 1)] [] f (QI Q)) ∧ (¬ x7 < (f 434 k1) → Wp L xs xm_Mo_match 122 [.ref 400, .int x1, .int x2, .int x3, .int x4, .int x5, .int x6, .int x7, .int (x8 + 1)] [] f (QI Q)))) ∧ (¬ ((x6 >>> (x8 &&& 31)) &&& 1) = 1 → Wp L xs xm_Mo_match 122 [.ref 400, .int x1, .int x2, .int x3, .int x4, .int x5, .int x6, .int x7, .int (x8 + 1)] [] f (QI Q)))) ∧ (¬ x8 < (f 400 13) → ((x3 = 0 → Q x4 f) ∧ (¬ x3 = 0 → ((x3 = 1 → Q x5 f) ∧ (¬ x3 = 1 → Q x7 f))))))) : Wp L xs xm_Mo_match 122 [.ref 400, .int x1, .int x2, .int x3, .int x4, .int x5, .int x6, .int x7, .int x8] [] f (QI Q) := by
  refine w_iload (pc' := 124) rfl rfl rfl ?_
  refine w_aload_n (pc' := 125) rfl rfl rfl ?_
  refine w_getI (pc' := 128) rfl rfl rfl rfl rfl (show xS0 L 400 = (12, 0) from rfl) ?_
  refine w_br2 (pc' := 131) (t := 174) rfl rfl rfl ic_ge (fun hc => ?_) (fun hc => ?_)
  · replace h := h.2 hc
    refine w_iload_n (pc' := 175) rfl rfl rfl ?_
    refine w_br (pc' := 178) (t := 183) rfl rfl rfl ic_ne (fun hc => ?_) (fun hc => ?_)
    · replace h := h.2 hc
      refine w_iload_n (pc' := 184) rfl rfl rfl ?_
      refine w_iconst (pc' := 185) rfl rfl (v := 1) rfl ?_
      refine w_br2 (pc' := 188) (t := 193) rfl rfl rfl ic_ne (fun hc => ?_) (fun hc => ?_)
      · replace h := h.2 hc
        refine w_iload (pc' := 195) rfl rfl rfl ?_
        exact w_ireturn rfl rfl h
      · replace h := h.1 (Classical.not_not.mp hc)
        refine w_iload (pc' := 190) rfl rfl rfl ?_
        refine w_goto (pc' := 195) rfl rfl ?_
        exact w_ireturn rfl rfl h
    · replace h := h.1 (Classical.not_not.mp hc)
      refine w_iload (pc' := 180) rfl rfl rfl ?_
      refine w_goto (pc' := 195) rfl rfl ?_
      exact w_ireturn rfl rfl h
  · replace h := h.1 (Classical.not_not.mp hc)
    refine w_iload (pc' := 133) rfl rfl rfl ?_
    refine w_iload (pc' := 135) rfl rfl rfl ?_
    refine w_ishr (pc' := 136) rfl rfl ?_
    refine w_iconst (pc' := 137) rfl rfl (v := 1) rfl ?_
    refine w_iand (pc' := 138) rfl rfl ?_
    refine w_iconst (pc' := 139) rfl rfl (v := 1) rfl ?_
    refine w_br2 (pc' := 142) (t := 164) rfl rfl rfl ic_ne (fun hc => ?_) (fun hc => ?_)
    · replace h := h.2 hc
      refine w_iload (pc' := 166) rfl rfl rfl ?_
      refine w_istore (pc' := 168) rfl rfl (xl' := [.ref 400, .int x1, .int x2, .int x3, .int x4, .int x5, .int x6, .int x7, .int x8]) rfl ?_
      refine w_iinc (pc' := 171) rfl rfl rfl (v := (x8 + 1)) rfl (xl' := [.ref 400, .int x1, .int x2, .int x3, .int x4, .int x5, .int x6, .int x7, .int (x8 + 1)]) rfl ?_
      refine w_goto (pc' := 122) rfl rfl ?_
      exact h
    · replace h := h.1 (Classical.not_not.mp hc)
      refine w_aload_n (pc' := 143) rfl rfl rfl ?_
      have q1 : xR0 400 58 = some 434 ∧ xS0 L 434 = (20, 7) := (kf_12_58 (show xS0 L 400 = (12, 0) from rfl))
      refine w_getR (pc' := 146) rfl rfl rfl rfl (show xS0 L 400 = (12, 0) from rfl) q1.1 ?_
      refine w_iload (pc' := 148) rfl rfl rfl ?_
      obtain ⟨k1, ek1, bk1, h⟩ := h
      refine w_iaload (pc' := 149) (i := k1) rfl rfl q1.2 ek1 bk1 (by omega) ?_
      refine w_iload (pc' := 151) rfl rfl rfl ?_
      refine w_br2 (pc' := 154) (t := 164) rfl rfl rfl ic_le (fun hc => ?_) (fun hc => ?_)
      · replace h := h.2 hc
        refine w_iload (pc' := 166) rfl rfl rfl ?_
        refine w_istore (pc' := 168) rfl rfl (xl' := [.ref 400, .int x1, .int x2, .int x3, .int x4, .int x5, .int x6, .int x7, .int x8]) rfl ?_
        refine w_iinc (pc' := 171) rfl rfl rfl (v := (x8 + 1)) rfl (xl' := [.ref 400, .int x1, .int x2, .int x3, .int x4, .int x5, .int x6, .int x7, .int (x8 + 1)]) rfl ?_
        refine w_goto (pc' := 122) rfl rfl ?_
        exact h
      · replace h := h.1 (Classical.not_not.mp hc)
        refine w_aload_n (pc' := 155) rfl rfl rfl ?_
        have q2 : xR0 400 58 = some 434 ∧ xS0 L 434 = (20, 7) := (kf_12_58 (show xS0 L 400 = (12, 0) from rfl))
        refine w_getR (pc' := 158) rfl rfl rfl rfl (show xS0 L 400 = (12, 0) from rfl) q2.1 ?_
        refine w_iload (pc' := 160) rfl rfl rfl ?_
        refine w_iaload (pc' := 161) (i := k1) rfl rfl q2.2 ek1 bk1 (by omega) ?_
        refine w_goto (pc' := 166) rfl rfl ?_
        refine w_istore (pc' := 168) rfl rfl (xl' := [.ref 400, .int x1, .int x2, .int x3, .int x4, .int x5, .int x6, .int (f 434 k1), .int x8]) rfl ?_
        refine w_iinc (pc' := 171) rfl rfl rfl (v := (x8 + 1)) rfl (xl' := [.ref 400, .int x1, .int x2, .int x3, .int x4, .int x5, .int x6, .int (f 434 k1), .int (x8 + 1)]) rfl ?_
        refine w_goto (pc' := 122) rfl rfl ?_
        exact h
theorem t_Mo_come_0 {L : Nat} {xs : Nat → Int32} {x1 : Int32} {f : Hp} {Q : Hp → Prop}  (h : ∀ g1, g1 = xu f 400 59 0 → Wp L xs xm_Mo_come 7 [.ref 400, .int x1, .int 0, .retAddr 0, .retAddr 0] [] g1 (QV Q)) : CV L xs xm_Mo_come [.ref 400, .int x1] f Q := by
  show Wp L xs xm_Mo_come 0 [.ref 400, .int x1, .retAddr 0, .retAddr 0, .retAddr 0] [] f (QV Q)
  refine w_aload_n (pc' := 1) rfl rfl rfl ?_
  refine w_iconst (pc' := 2) rfl rfl (v := 0) rfl ?_
  refine w_putI (pc' := 5) rfl rfl rfl rfl (show xS0 L 400 = (12, 0) from rfl) ?_
  replace h := h _ rfl
  generalize xu f 400 59 0 = g1 at h ⊢
  refine w_iconst (pc' := 6) rfl rfl (v := 0) rfl ?_
  refine w_istore_n (pc' := 7) rfl rfl (xl' := [.ref 400, .int x1, .int 0, .retAddr 0, .retAddr 0]) rfl ?_
  exact h
theorem t_Mo_come_7 {L : Nat} {xs : Nat → Int32} {x1 : Int32} {x2 : Int32} {f : Hp} {Q : Hp → Prop}  (h : ((x2 < 7 → ∃ k1 : Nat, x2 = iN k1 ∧ k1 < 7 ∧ ∀ g1, g1 = xu f 433 k1 (-1) → Wp L xs xm_Mo_come 7 [.ref 400, .int x1, .int (x2 + 1), .retAddr 0, .retAddr 0] [] g1 (QV Q)) ∧ (¬ x2 < 7 → Wp L xs xm_Mo_come 28 [.ref 400, .int x1, .int 0, .retAddr 0, .retAddr 0] [] f (QV Q)))) : Wp L xs xm_Mo_come 7 [.ref 400, .int x1, .int x2, .retAddr 0, .retAddr 0] [] f (QV Q) := by
  refine w_iload_n (pc' := 8) rfl rfl rfl ?_
  refine w_bipush (pc' := 10) rfl rfl (v := 7) rfl ?_
  refine w_br2 (pc' := 13) (t := 26) rfl rfl rfl ic_ge (fun hc => ?_) (fun hc => ?_)
  · replace h := h.2 hc
    refine w_iconst (pc' := 27) rfl rfl (v := 0) rfl ?_
    refine w_istore_n (pc' := 28) rfl rfl (xl' := [.ref 400, .int x1, .int 0, .retAddr 0, .retAddr 0]) rfl ?_
    exact h
  · replace h := h.1 (Classical.not_not.mp hc)
    refine w_aload_n (pc' := 14) rfl rfl rfl ?_
    have q1 : xR0 400 57 = some 433 ∧ xS0 L 433 = (20, 7) := (kf_12_57 (show xS0 L 400 = (12, 0) from rfl))
    refine w_getR (pc' := 17) rfl rfl rfl rfl (show xS0 L 400 = (12, 0) from rfl) q1.1 ?_
    refine w_iload_n (pc' := 18) rfl rfl rfl ?_
    refine w_iconst (pc' := 19) rfl rfl (v := (-1)) rfl ?_
    obtain ⟨k1, ek1, bk1, h⟩ := h
    refine w_iastore (pc' := 20) (i := k1) rfl rfl q1.2 ek1 bk1 (by omega) ?_
    replace h := h _ rfl
    generalize xu f 433 k1 (-1) = g1 at h ⊢
    refine w_iinc (pc' := 23) rfl rfl rfl (v := (x2 + 1)) rfl (xl' := [.ref 400, .int x1, .int (x2 + 1), .retAddr 0, .retAddr 0]) rfl ?_
    refine w_goto (pc' := 7) rfl rfl ?_
    exact h
theorem t_Mo_come_28 {L : Nat} {xs : Nat → Int32} {x1 : Int32} {x2 : Int32} {x3 : Value} {x4 : Value} {f : Hp} {Q : Hp → Prop} (cx3 : (x3.category != 2) = true) (cx4 : (x4.category != 2) = true) (h : ((x2 < x1 → ∃ k1 : Nat, (f 400 56) = iN k1 ∧ k1 < 4680 ∧ ((x2 < (f 401 k1) → ∃ k2 : Nat, (((f 400 56) + 1) + (3 * x2)) = iN k2 ∧ k2 < 4680 ∧ ∃ k3 : Nat, (((f 400 56) + 3) + (3 * x2)) = iN k3 ∧ k3 < 4680 ∧ CI L xs xm_Mo_isMember [.ref 400, .int (f 401 k2)] f (fun v1 g1 => ((v1 = 0 → Wp L xs xm_Mo_come 28 [.ref 400, .int x1, .int (x2 + 1), .int (f 401 k2), .int (f 401 k3)] [] g1 (QV Q)) ∧ (¬ v1 = 0 → ∃ k4 : Nat, (f 401 k2) = iN k4 ∧ k4 < 7 ∧ (((g1 433 k4) = (-1) → Wp L xs xm_Mo_come 123 [.ref 400, .int x1, .int x2, .int (f 401 k2), .int (f 401 k3)] [.int 0, .int (g1 400 59), .ref 400] g1 (QV Q)) ∧ (¬ (g1 433 k4) = (-1) → (((g1 433 k4) = (f 401 k3) → Wp L xs xm_Mo_come 123 [.ref 400, .int x1, .int x2, .int (f 401 k2), .int (f 401 k3)] [.int 0, .int (g1 400 59), .ref 400] g1 (QV Q)) ∧ (¬ (g1 433 k4) = (f 401 k3) → Wp L xs xm_Mo_come 123 [.ref 400, .int x1, .int x2, .int (f 401 k2), .int (f 401 k3)] [.int (1 <<< ((f 401 k2) &&& 31)), .int (g1 400 59), .ref 400] g1 (QV Q))))))))) ∧ (¬ x2 < (f 401 k1) → Q f))) ∧ (¬ x2 < x1 → Q f))) : Wp L xs xm_Mo_come 28 [.ref 400, .int x1, .int x2, x3, x4] [] f (QV Q) := by
  refine w_iload_n (pc' := 29) rfl rfl rfl ?_
  refine w_iload_n (pc' := 30) rfl rfl rfl ?_
  refine w_br2 (pc' := 33) (t := 162) rfl rfl rfl ic_ge (fun hc => ?_) (fun hc => ?_)
  · replace h := h.2 hc
    exact w_return rfl rfl h
  · replace h := h.1 (Classical.not_not.mp hc)
    refine w_iload_n (pc' := 34) rfl rfl rfl ?_
    refine w_aload_n (pc' := 35) rfl rfl rfl ?_
    have q1 : xR0 400 0 = some 401 ∧ xS0 L 401 = (20, 4680) := (kf_12_0 (show xS0 L 400 = (12, 0) from rfl))
    refine w_getR (pc' := 38) rfl rfl rfl rfl (show xS0 L 400 = (12, 0) from rfl) q1.1 ?_
    refine w_aload_n (pc' := 39) rfl rfl rfl ?_
    refine w_getI (pc' := 42) rfl rfl rfl rfl rfl (show xS0 L 400 = (12, 0) from rfl) ?_
    obtain ⟨k1, ek1, bk1, h⟩ := h
    refine w_iaload (pc' := 43) (i := k1) rfl rfl q1.2 ek1 bk1 (by omega) ?_
    refine w_br2 (pc' := 46) (t := 162) rfl rfl rfl ic_ge (fun hc => ?_) (fun hc => ?_)
    · replace h := h.2 hc
      exact w_return rfl rfl h
    · replace h := h.1 (Classical.not_not.mp hc)
      refine w_aload_n (pc' := 47) rfl rfl rfl ?_
      have q2 : xR0 400 0 = some 401 ∧ xS0 L 401 = (20, 4680) := (kf_12_0 (show xS0 L 400 = (12, 0) from rfl))
      refine w_getR (pc' := 50) rfl rfl rfl rfl (show xS0 L 400 = (12, 0) from rfl) q2.1 ?_
      refine w_aload_n (pc' := 51) rfl rfl rfl ?_
      refine w_getI (pc' := 54) rfl rfl rfl rfl rfl (show xS0 L 400 = (12, 0) from rfl) ?_
      refine w_iconst (pc' := 55) rfl rfl (v := 1) rfl ?_
      refine w_iadd (pc' := 56) rfl rfl ?_
      refine w_iconst (pc' := 57) rfl rfl (v := 3) rfl ?_
      refine w_iload_n (pc' := 58) rfl rfl rfl ?_
      refine w_imul (pc' := 59) rfl rfl ?_
      refine w_iadd (pc' := 60) rfl rfl ?_
      obtain ⟨k2, ek2, bk2, h⟩ := h
      refine w_iaload (pc' := 61) (i := k2) rfl rfl q2.2 ek2 bk2 (by omega) ?_
      refine w_istore_n (pc' := 62) rfl rfl (xl' := [.ref 400, .int x1, .int x2, .int (f 401 k2), x4]) rfl ?_
      refine w_aload_n (pc' := 63) rfl rfl rfl ?_
      have q3 : xR0 400 0 = some 401 ∧ xS0 L 401 = (20, 4680) := (kf_12_0 (show xS0 L 400 = (12, 0) from rfl))
      refine w_getR (pc' := 66) rfl rfl rfl rfl (show xS0 L 400 = (12, 0) from rfl) q3.1 ?_
      refine w_aload_n (pc' := 67) rfl rfl rfl ?_
      refine w_getI (pc' := 70) rfl rfl rfl rfl rfl (show xS0 L 400 = (12, 0) from rfl) ?_
      refine w_iconst (pc' := 71) rfl rfl (v := 3) rfl ?_
      refine w_iadd (pc' := 72) rfl rfl ?_
      refine w_iconst (pc' := 73) rfl rfl (v := 3) rfl ?_
      refine w_iload_n (pc' := 74) rfl rfl rfl ?_
      refine w_imul (pc' := 75) rfl rfl ?_
      refine w_iadd (pc' := 76) rfl rfl ?_
      obtain ⟨k3, ek3, bk3, h⟩ := h
      refine w_iaload (pc' := 77) (i := k3) rfl rfl q3.2 ek3 bk3 (by omega) ?_
      refine w_istore (pc' := 79) rfl rfl (xl' := [.ref 400, .int x1, .int x2, .int (f 401 k2), .int (f 401 k3)]) rfl ?_
      refine w_aload_n (pc' := 80) rfl rfl rfl ?_
      refine w_iload_n (pc' := 81) rfl rfl rfl ?_
      refine w_cv (pc' := 84) (cm := xm_Mo_isMember) (as := [.int (f 401 k2)]) (a := 400) (rest := []) rfl rfl rfl  (xa_Mo_isMember (Nat.le_of_ble_eq_true rfl)) (show xS0 L 400 = (12, 0) from rfl) rfl (CI.k h fun v1 g1 h => ?_)
      show Wp L xs xm_Mo_come 84 [.ref 400, .int x1, .int x2, .int (f 401 k2), .int (f 401 k3)] [.int v1] g1 _
      refine w_br (pc' := 87) (t := 90) rfl rfl rfl ic_ne (fun hc => ?_) (fun hc => ?_)
      · replace h := h.2 hc
        refine w_aload_n (pc' := 91) rfl rfl rfl ?_
        refine w_dupA (pc' := 92) rfl rfl ?_
        refine w_getI (pc' := 95) rfl rfl rfl rfl rfl (show xS0 L 400 = (12, 0) from rfl) ?_
        refine w_aload_n (pc' := 96) rfl rfl rfl ?_
        have q4 : xR0 400 57 = some 433 ∧ xS0 L 433 = (20, 7) := (kf_12_57 (show xS0 L 400 = (12, 0) from rfl))
        refine w_getR (pc' := 99) rfl rfl rfl rfl (show xS0 L 400 = (12, 0) from rfl) q4.1 ?_
        refine w_iload_n (pc' := 100) rfl rfl rfl ?_
        obtain ⟨k4, ek4, bk4, h⟩ := h
        refine w_iaload (pc' := 101) (i := k4) rfl rfl q4.2 ek4 bk4 (by omega) ?_
        refine w_iconst (pc' := 102) rfl rfl (v := (-1)) rfl ?_
        refine w_br2 (pc' := 105) (t := 122) rfl rfl rfl ic_eq (fun hc => ?_) (fun hc => ?_)
        · replace h := h.1 hc
          refine w_iconst (pc' := 123) rfl rfl (v := 0) rfl ?_
          exact h
        · replace h := h.2 hc
          refine w_aload_n (pc' := 106) rfl rfl rfl ?_
          have q5 : xR0 400 57 = some 433 ∧ xS0 L 433 = (20, 7) := (kf_12_57 (show xS0 L 400 = (12, 0) from rfl))
          refine w_getR (pc' := 109) rfl rfl rfl rfl (show xS0 L 400 = (12, 0) from rfl) q5.1 ?_
          refine w_iload_n (pc' := 110) rfl rfl rfl ?_
          refine w_iaload (pc' := 111) (i := k4) rfl rfl q5.2 ek4 bk4 (by omega) ?_
          refine w_iload (pc' := 113) rfl rfl rfl ?_
          refine w_br2 (pc' := 116) (t := 122) rfl rfl rfl ic_eq (fun hc => ?_) (fun hc => ?_)
          · replace h := h.1 hc
            refine w_iconst (pc' := 123) rfl rfl (v := 0) rfl ?_
            exact h
          · replace h := h.2 hc
            refine w_iconst (pc' := 117) rfl rfl (v := 1) rfl ?_
            refine w_iload_n (pc' := 118) rfl rfl rfl ?_
            refine w_ishl (pc' := 119) rfl rfl ?_
            refine w_goto (pc' := 123) rfl rfl ?_
            exact h
      · replace h := h.1 (Classical.not_not.mp hc)
        refine w_goto (pc' := 156) rfl rfl ?_
        refine w_iinc (pc' := 159) rfl rfl rfl (v := (x2 + 1)) rfl (xl' := [.ref 400, .int x1, .int (x2 + 1), .int (f 401 k2), .int (f 401 k3)]) rfl ?_
        refine w_goto (pc' := 28) rfl rfl ?_
        exact h
theorem t_Mo_come_123 {L : Nat} {xs : Nat → Int32} {x1 : Int32} {x2 : Int32} {x3 : Int32} {x4 : Int32} {s0 : Int32} {s1 : Int32} {f : Hp} {Q : Hp → Prop}  (h : ∀ g1, g1 = xu f 400 59 (s1 ||| s0) → ∃ k1 : Nat, x3 = iN k1 ∧ k1 < 7 ∧ ∀ g2, g2 = xu g1 433 k1 x4 → ∃ k2 : Nat, (((g2 400 56) + 2) + (3 * x2)) = iN k2 ∧ k2 < 4680 ∧ ∀ g3, g3 = xu g2 434 k1 (g2 401 k2) → Wp L xs xm_Mo_come 28 [.ref 400, .int x1, .int (x2 + 1), .int x3, .int x4] [] g3 (QV Q)) : Wp L xs xm_Mo_come 123 [.ref 400, .int x1, .int x2, .int x3, .int x4] [.int s0, .int s1, .ref 400] f (QV Q) := by
  refine w_ior (pc' := 124) rfl rfl ?_
  refine w_putI (pc' := 127) rfl rfl rfl rfl (show xS0 L 400 = (12, 0) from rfl) ?_
  replace h := h _ rfl
  generalize xu f 400 59 (s1 ||| s0) = g1 at h ⊢
  refine w_aload_n (pc' := 128) rfl rfl rfl ?_
  have q1 : xR0 400 57 = some 433 ∧ xS0 L 433 = (20, 7) := (kf_12_57 (show xS0 L 400 = (12, 0) from rfl))
  refine w_getR (pc' := 131) rfl rfl rfl rfl (show xS0 L 400 = (12, 0) from rfl) q1.1 ?_
  refine w_iload_n (pc' := 132) rfl rfl rfl ?_
  refine w_iload (pc' := 134) rfl rfl rfl ?_
  obtain ⟨k1, ek1, bk1, h⟩ := h
  refine w_iastore (pc' := 135) (i := k1) rfl rfl q1.2 ek1 bk1 (by omega) ?_
  replace h := h _ rfl
  generalize xu g1 433 k1 x4 = g2 at h ⊢
  refine w_aload_n (pc' := 136) rfl rfl rfl ?_
  have q2 : xR0 400 58 = some 434 ∧ xS0 L 434 = (20, 7) := (kf_12_58 (show xS0 L 400 = (12, 0) from rfl))
  refine w_getR (pc' := 139) rfl rfl rfl rfl (show xS0 L 400 = (12, 0) from rfl) q2.1 ?_
  refine w_iload_n (pc' := 140) rfl rfl rfl ?_
  refine w_aload_n (pc' := 141) rfl rfl rfl ?_
  have q3 : xR0 400 0 = some 401 ∧ xS0 L 401 = (20, 4680) := (kf_12_0 (show xS0 L 400 = (12, 0) from rfl))
  refine w_getR (pc' := 144) rfl rfl rfl rfl (show xS0 L 400 = (12, 0) from rfl) q3.1 ?_
  refine w_aload_n (pc' := 145) rfl rfl rfl ?_
  refine w_getI (pc' := 148) rfl rfl rfl rfl rfl (show xS0 L 400 = (12, 0) from rfl) ?_
  refine w_iconst (pc' := 149) rfl rfl (v := 2) rfl ?_
  refine w_iadd (pc' := 150) rfl rfl ?_
  refine w_iconst (pc' := 151) rfl rfl (v := 3) rfl ?_
  refine w_iload_n (pc' := 152) rfl rfl rfl ?_
  refine w_imul (pc' := 153) rfl rfl ?_
  refine w_iadd (pc' := 154) rfl rfl ?_
  obtain ⟨k2, ek2, bk2, h⟩ := h
  refine w_iaload (pc' := 155) (i := k2) rfl rfl q3.2 ek2 bk2 (by omega) ?_
  refine w_iastore (pc' := 156) (i := k1) rfl rfl q2.2 ek1 bk1 (by omega) ?_
  replace h := h _ rfl
  generalize xu g2 434 k1 (g2 401 k2) = g3 at h ⊢
  refine w_iinc (pc' := 159) rfl rfl rfl (v := (x2 + 1)) rfl (xl' := [.ref 400, .int x1, .int (x2 + 1), .int x3, .int x4]) rfl ?_
  refine w_goto (pc' := 28) rfl rfl ?_
  exact h
theorem t_Mo_tell_0 {L : Nat} {xs : Nat → Int32} {x1 : Int32} {f : Hp} {Q : Int32 → Hp → Prop}  (h : Wp L xs xm_Mo_tell 4 [.ref 400, .int x1, .int 0, .int 0] [] f (QI Q)) : CI L xs xm_Mo_tell [.ref 400, .int x1] f Q := by
  show Wp L xs xm_Mo_tell 0 [.ref 400, .int x1, .retAddr 0, .retAddr 0] [] f (QI Q)
  refine w_iconst (pc' := 1) rfl rfl (v := 0) rfl ?_
  refine w_istore_n (pc' := 2) rfl rfl (xl' := [.ref 400, .int x1, .int 0, .retAddr 0]) rfl ?_
  refine w_iconst (pc' := 3) rfl rfl (v := 0) rfl ?_
  refine w_istore_n (pc' := 4) rfl rfl (xl' := [.ref 400, .int x1, .int 0, .int 0]) rfl ?_
  exact h
theorem t_Mo_tell_4 {L : Nat} {xs : Nat → Int32} {x1 : Int32} {x2 : Int32} {x3 : Int32} {f : Hp} {Q : Int32 → Hp → Prop}  (h : ((x3 < (f 400 13) → ∃ k1 : Nat, x3 = iN k1 ∧ k1 < 7 ∧ (((f 433 k1) = x1 → Wp L xs xm_Mo_tell 4 [.ref 400, .int x1, .int (x2 ||| (1 <<< (x3 &&& 31))), .int (x3 + 1)] [] f (QI Q)) ∧ (¬ (f 433 k1) = x1 → Wp L xs xm_Mo_tell 4 [.ref 400, .int x1, .int (x2 ||| 0), .int (x3 + 1)] [] f (QI Q)))) ∧ (¬ x3 < (f 400 13) → Q x2 f))) : Wp L xs xm_Mo_tell 4 [.ref 400, .int x1, .int x2, .int x3] [] f (QI Q) := by
  refine w_iload_n (pc' := 5) rfl rfl rfl ?_
  refine w_aload_n (pc' := 6) rfl rfl rfl ?_
  refine w_getI (pc' := 9) rfl rfl rfl rfl rfl (show xS0 L 400 = (12, 0) from rfl) ?_
  refine w_br2 (pc' := 12) (t := 38) rfl rfl rfl ic_ge (fun hc => ?_) (fun hc => ?_)
  · replace h := h.2 hc
    refine w_iload_n (pc' := 39) rfl rfl rfl ?_
    exact w_ireturn rfl rfl h
  · replace h := h.1 (Classical.not_not.mp hc)
    refine w_iload_n (pc' := 13) rfl rfl rfl ?_
    refine w_aload_n (pc' := 14) rfl rfl rfl ?_
    have q1 : xR0 400 57 = some 433 ∧ xS0 L 433 = (20, 7) := (kf_12_57 (show xS0 L 400 = (12, 0) from rfl))
    refine w_getR (pc' := 17) rfl rfl rfl rfl (show xS0 L 400 = (12, 0) from rfl) q1.1 ?_
    refine w_iload_n (pc' := 18) rfl rfl rfl ?_
    obtain ⟨k1, ek1, bk1, h⟩ := h
    refine w_iaload (pc' := 19) (i := k1) rfl rfl q1.2 ek1 bk1 (by omega) ?_
    refine w_iload_n (pc' := 20) rfl rfl rfl ?_
    refine w_br2 (pc' := 23) (t := 29) rfl rfl rfl ic_ne (fun hc => ?_) (fun hc => ?_)
    · replace h := h.2 hc
      refine w_iconst (pc' := 30) rfl rfl (v := 0) rfl ?_
      refine w_ior (pc' := 31) rfl rfl ?_
      refine w_istore_n (pc' := 32) rfl rfl (xl' := [.ref 400, .int x1, .int (x2 ||| 0), .int x3]) rfl ?_
      refine w_iinc (pc' := 35) rfl rfl rfl (v := (x3 + 1)) rfl (xl' := [.ref 400, .int x1, .int (x2 ||| 0), .int (x3 + 1)]) rfl ?_
      refine w_goto (pc' := 4) rfl rfl ?_
      exact h
    · replace h := h.1 (Classical.not_not.mp hc)
      refine w_iconst (pc' := 24) rfl rfl (v := 1) rfl ?_
      refine w_iload_n (pc' := 25) rfl rfl rfl ?_
      refine w_ishl (pc' := 26) rfl rfl ?_
      refine w_goto (pc' := 30) rfl rfl ?_
      refine w_ior (pc' := 31) rfl rfl ?_
      refine w_istore_n (pc' := 32) rfl rfl (xl' := [.ref 400, .int x1, .int (x2 ||| (1 <<< (x3 &&& 31))), .int x3]) rfl ?_
      refine w_iinc (pc' := 35) rfl rfl rfl (v := (x3 + 1)) rfl (xl' := [.ref 400, .int x1, .int (x2 ||| (1 <<< (x3 &&& 31))), .int (x3 + 1)]) rfl ?_
      refine w_goto (pc' := 4) rfl rfl ?_
      exact h
theorem t_Mo_suspects_0 {L : Nat} {xs : Nat → Int32} {x1 : Int32} {x2 : Int32} {x3 : Int32} {f : Hp} {Q : Int32 → Hp → Prop}  (h : CI L xs xm_Mo_isCouncil [.ref 400, .int x1] f (fun v1 g1 => ((v1 = 0 → Q (-2) g1) ∧ (¬ v1 = 0 → CI L xs xm_Mo_isReplies [.ref 400, .int x2] g1 (fun v2 g2 => ((v2 = 0 → Q (-2) g2) ∧ (¬ v2 = 0 → ((x3 < 0 → Q (-2) g2) ∧ (¬ x3 < 0 → CI L xs xm_Mo_isIn [.int x3, .int 2, .int 9] g2 (fun v3 g3 => ((v3 = 0 → CV L xs xm_Mo_come [.ref 400, .int 12] g3 (fun g4 => Wp L xs xm_Mo_suspects 59 [.ref 400, .int x1, .int x2, .int x3, .int 0, .int ((1 <<< ((g4 400 13) &&& 31)) - 1), .int (-2), .int 0] [] g4 (QI Q))) ∧ (¬ v3 = 0 → Q (-2) g3)))))))))))) : CI L xs xm_Mo_suspects [.ref 400, .int x1, .int x2, .int x3] f Q := by
  show Wp L xs xm_Mo_suspects 0 [.ref 400, .int x1, .int x2, .int x3, .retAddr 0, .retAddr 0, .retAddr 0, .retAddr 0] [] f (QI Q)
  refine w_aload_n (pc' := 1) rfl rfl rfl ?_
  refine w_iload_n (pc' := 2) rfl rfl rfl ?_
  refine w_cv (pc' := 5) (cm := xm_Mo_isCouncil) (as := [.int x1]) (a := 400) (rest := []) rfl rfl rfl  (xa_Mo_isCouncil (Nat.le_of_ble_eq_true rfl)) (show xS0 L 400 = (12, 0) from rfl) rfl (CI.k h fun v1 g1 h => ?_)
  show Wp L xs xm_Mo_suspects 5 [.ref 400, .int x1, .int x2, .int x3, .retAddr 0, .retAddr 0, .retAddr 0, .retAddr 0] [.int v1] g1 _
  refine w_br (pc' := 8) (t := 30) rfl rfl rfl ic_eq (fun hc => ?_) (fun hc => ?_)
  · replace h := h.1 hc
    refine w_bipush (pc' := 32) rfl rfl (v := (-2)) rfl ?_
    exact w_ireturn rfl rfl h
  · replace h := h.2 hc
    refine w_aload_n (pc' := 9) rfl rfl rfl ?_
    refine w_iload_n (pc' := 10) rfl rfl rfl ?_
    refine w_cv (pc' := 13) (cm := xm_Mo_isReplies) (as := [.int x2]) (a := 400) (rest := []) rfl rfl rfl  (xa_Mo_isReplies (Nat.le_of_ble_eq_true rfl)) (show xS0 L 400 = (12, 0) from rfl) rfl (CI.k h fun v2 g2 h => ?_)
    show Wp L xs xm_Mo_suspects 13 [.ref 400, .int x1, .int x2, .int x3, .retAddr 0, .retAddr 0, .retAddr 0, .retAddr 0] [.int v2] g2 _
    refine w_br (pc' := 16) (t := 30) rfl rfl rfl ic_eq (fun hc => ?_) (fun hc => ?_)
    · replace h := h.1 hc
      refine w_bipush (pc' := 32) rfl rfl (v := (-2)) rfl ?_
      exact w_ireturn rfl rfl h
    · replace h := h.2 hc
      refine w_iload_n (pc' := 17) rfl rfl rfl ?_
      refine w_br (pc' := 20) (t := 30) rfl rfl rfl ic_lt (fun hc => ?_) (fun hc => ?_)
      · replace h := h.1 hc
        refine w_bipush (pc' := 32) rfl rfl (v := (-2)) rfl ?_
        exact w_ireturn rfl rfl h
      · replace h := h.2 hc
        refine w_iload_n (pc' := 21) rfl rfl rfl ?_
        refine w_iconst (pc' := 22) rfl rfl (v := 2) rfl ?_
        refine w_bipush (pc' := 24) rfl rfl (v := 9) rfl ?_
        refine w_cs (pc' := 27) (cm := xm_Mo_isIn) (as := [.int x3, .int 2, .int 9]) (rest := []) rfl rfl rfl (Or.inl rfl) (xa_Mo_isIn (Nat.le_of_ble_eq_true rfl)) (CI.k h fun v3 g3 h => ?_)
        show Wp L xs xm_Mo_suspects 27 [.ref 400, .int x1, .int x2, .int x3, .retAddr 0, .retAddr 0, .retAddr 0, .retAddr 0] [.int v3] g3 _
        refine w_br (pc' := 30) (t := 33) rfl rfl rfl ic_eq (fun hc => ?_) (fun hc => ?_)
        · replace h := h.1 hc
          refine w_aload_n (pc' := 34) rfl rfl rfl ?_
          refine w_bipush (pc' := 36) rfl rfl (v := 12) rfl ?_
          refine w_cv (pc' := 39) (cm := xm_Mo_come) (as := [.int 12]) (a := 400) (rest := []) rfl rfl rfl  (xa_Mo_come (Nat.le_of_ble_eq_true rfl)) (show xS0 L 400 = (12, 0) from rfl) rfl (CV.k h fun g4 h => ?_)
          show Wp L xs xm_Mo_suspects 39 [.ref 400, .int x1, .int x2, .int x3, .retAddr 0, .retAddr 0, .retAddr 0, .retAddr 0] [] g4 _
          refine w_iconst (pc' := 40) rfl rfl (v := 0) rfl ?_
          refine w_istore (pc' := 42) rfl rfl (xl' := [.ref 400, .int x1, .int x2, .int x3, .int 0, .retAddr 0, .retAddr 0, .retAddr 0]) rfl ?_
          refine w_iconst (pc' := 43) rfl rfl (v := 1) rfl ?_
          refine w_aload_n (pc' := 44) rfl rfl rfl ?_
          refine w_getI (pc' := 47) rfl rfl rfl rfl rfl (show xS0 L 400 = (12, 0) from rfl) ?_
          refine w_ishl (pc' := 48) rfl rfl ?_
          refine w_iconst (pc' := 49) rfl rfl (v := 1) rfl ?_
          refine w_isub (pc' := 50) rfl rfl ?_
          refine w_istore (pc' := 52) rfl rfl (xl' := [.ref 400, .int x1, .int x2, .int x3, .int 0, .int ((1 <<< ((g4 400 13) &&& 31)) - 1), .retAddr 0, .retAddr 0]) rfl ?_
          refine w_bipush (pc' := 54) rfl rfl (v := (-2)) rfl ?_
          refine w_istore (pc' := 56) rfl rfl (xl' := [.ref 400, .int x1, .int x2, .int x3, .int 0, .int ((1 <<< ((g4 400 13) &&& 31)) - 1), .int (-2), .retAddr 0]) rfl ?_
          refine w_iconst (pc' := 57) rfl rfl (v := 0) rfl ?_
          refine w_istore (pc' := 59) rfl rfl (xl' := [.ref 400, .int x1, .int x2, .int x3, .int 0, .int ((1 <<< ((g4 400 13) &&& 31)) - 1), .int (-2), .int 0]) rfl ?_
          exact h
        · replace h := h.2 hc
          refine w_bipush (pc' := 32) rfl rfl (v := (-2)) rfl ?_
          exact w_ireturn rfl rfl h
theorem t_Mo_suspects_59 {L : Nat} {xs : Nat → Int32} {x1 : Int32} {x2 : Int32} {x3 : Int32} {x4 : Int32} {x5 : Int32} {x6 : Int32} {x7 : Int32} {f : Hp} {Q : Int32 → Hp → Prop}  (h : ((x7 < (1 <<< ((f 400 13) &&& 31)) → CI L xs xm_Mo_bitsOf [.int x7] f (fun v1 g1 => (((g1 400 12) < v1 → Wp L xs xm_Mo_suspects 59 [.ref 400, .int x1, .int x2, .int x3, .int x4, .int x5, .int x6, .int (x7 + 1)] [] g1 (QI Q)) ∧ (¬ (g1 400 12) < v1 → CI L xs xm_Mo_isOneBut [.ref 400, .int x7] g1 (fun v2 g2 => ((v2 = 0 → Wp L xs xm_Mo_suspects 59 [.ref 400, .int x1, .int x2, .int x3, .int x4, .int x5, .int x6, .int (x7 + 1)] [] g2 (QI Q)) ∧ (¬ v2 = 0 → ((x4 = (x3 - 10) → Wp L xs xm_Mo_suspects 59 [.ref 400, .int x1, .int x2, .int x3, .int (x4 + 1), .int (x5 &&& x7), .int x7, .int (x7 + 1)] [] g2 (QI Q)) ∧ (¬ x4 = (x3 - 10) → Wp L xs xm_Mo_suspects 59 [.ref 400, .int x1, .int x2, .int x3, .int (x4 + 1), .int (x5 &&& x7), .int x6, .int (x7 + 1)] [] g2 (QI Q)))))))))) ∧ (¬ x7 < (1 <<< ((f 400 13) &&& 31)) → ((x3 = 0 → Q x4 f) ∧ (¬ x3 = 0 → ((x3 = 1 → ((x4 = 0 → Q 0 f) ∧ (¬ x4 = 0 → Q x5 f))) ∧ (¬ x3 = 1 → Q x6 f))))))) : Wp L xs xm_Mo_suspects 59 [.ref 400, .int x1, .int x2, .int x3, .int x4, .int x5, .int x6, .int x7] [] f (QI Q) := by
  refine w_iload (pc' := 61) rfl rfl rfl ?_
  refine w_iconst (pc' := 62) rfl rfl (v := 1) rfl ?_
  refine w_aload_n (pc' := 63) rfl rfl rfl ?_
  refine w_getI (pc' := 66) rfl rfl rfl rfl rfl (show xS0 L 400 = (12, 0) from rfl) ?_
  refine w_ishl (pc' := 67) rfl rfl ?_
  refine w_br2 (pc' := 70) (t := 123) rfl rfl rfl ic_ge (fun hc => ?_) (fun hc => ?_)
  · replace h := h.2 hc
    refine w_iload_n (pc' := 124) rfl rfl rfl ?_
    refine w_br (pc' := 127) (t := 132) rfl rfl rfl ic_ne (fun hc => ?_) (fun hc => ?_)
    · replace h := h.2 hc
      refine w_iload_n (pc' := 133) rfl rfl rfl ?_
      refine w_iconst (pc' := 134) rfl rfl (v := 1) rfl ?_
      refine w_br2 (pc' := 137) (t := 151) rfl rfl rfl ic_ne (fun hc => ?_) (fun hc => ?_)
      · replace h := h.2 hc
        refine w_iload (pc' := 153) rfl rfl rfl ?_
        exact w_ireturn rfl rfl h
      · replace h := h.1 (Classical.not_not.mp hc)
        refine w_iload (pc' := 139) rfl rfl rfl ?_
        refine w_br (pc' := 142) (t := 146) rfl rfl rfl ic_ne (fun hc => ?_) (fun hc => ?_)
        · replace h := h.2 hc
          refine w_iload (pc' := 148) rfl rfl rfl ?_
          refine w_goto (pc' := 153) rfl rfl ?_
          exact w_ireturn rfl rfl h
        · replace h := h.1 (Classical.not_not.mp hc)
          refine w_iconst (pc' := 143) rfl rfl (v := 0) rfl ?_
          refine w_goto (pc' := 153) rfl rfl ?_
          exact w_ireturn rfl rfl h
    · replace h := h.1 (Classical.not_not.mp hc)
      refine w_iload (pc' := 129) rfl rfl rfl ?_
      refine w_goto (pc' := 153) rfl rfl ?_
      exact w_ireturn rfl rfl h
  · replace h := h.1 (Classical.not_not.mp hc)
    refine w_iload (pc' := 72) rfl rfl rfl ?_
    refine w_cs (pc' := 75) (cm := xm_Mo_bitsOf) (as := [.int x7]) (rest := []) rfl rfl rfl (Or.inl rfl) (xa_Mo_bitsOf (Nat.le_of_ble_eq_true rfl)) (CI.k h fun v1 g1 h => ?_)
    show Wp L xs xm_Mo_suspects 75 [.ref 400, .int x1, .int x2, .int x3, .int x4, .int x5, .int x6, .int x7] [.int v1] g1 _
    refine w_aload_n (pc' := 76) rfl rfl rfl ?_
    refine w_getI (pc' := 79) rfl rfl rfl rfl rfl (show xS0 L 400 = (12, 0) from rfl) ?_
    refine w_br2 (pc' := 82) (t := 117) rfl rfl rfl ic_gt (fun hc => ?_) (fun hc => ?_)
    · replace h := h.1 hc
      refine w_iinc (pc' := 120) rfl rfl rfl (v := (x7 + 1)) rfl (xl' := [.ref 400, .int x1, .int x2, .int x3, .int x4, .int x5, .int x6, .int (x7 + 1)]) rfl ?_
      refine w_goto (pc' := 59) rfl rfl ?_
      exact h
    · replace h := h.2 hc
      refine w_aload_n (pc' := 83) rfl rfl rfl ?_
      refine w_iload (pc' := 85) rfl rfl rfl ?_
      refine w_cv (pc' := 88) (cm := xm_Mo_isOneBut) (as := [.int x7]) (a := 400) (rest := []) rfl rfl rfl  (xa_Mo_isOneBut (Nat.le_of_ble_eq_true rfl)) (show xS0 L 400 = (12, 0) from rfl) rfl (CI.k h fun v2 g2 h => ?_)
      show Wp L xs xm_Mo_suspects 88 [.ref 400, .int x1, .int x2, .int x3, .int x4, .int x5, .int x6, .int x7] [.int v2] g2 _
      refine w_br (pc' := 91) (t := 94) rfl rfl rfl ic_ne (fun hc => ?_) (fun hc => ?_)
      · replace h := h.2 hc
        refine w_iload (pc' := 96) rfl rfl rfl ?_
        refine w_iload_n (pc' := 97) rfl rfl rfl ?_
        refine w_bipush (pc' := 99) rfl rfl (v := 10) rfl ?_
        refine w_isub (pc' := 100) rfl rfl ?_
        refine w_br2 (pc' := 103) (t := 107) rfl rfl rfl ic_ne (fun hc => ?_) (fun hc => ?_)
        · replace h := h.2 hc
          refine w_iload (pc' := 109) rfl rfl rfl ?_
          refine w_iload (pc' := 111) rfl rfl rfl ?_
          refine w_iand (pc' := 112) rfl rfl ?_
          refine w_istore (pc' := 114) rfl rfl (xl' := [.ref 400, .int x1, .int x2, .int x3, .int x4, .int (x5 &&& x7), .int x6, .int x7]) rfl ?_
          refine w_iinc (pc' := 117) rfl rfl rfl (v := (x4 + 1)) rfl (xl' := [.ref 400, .int x1, .int x2, .int x3, .int (x4 + 1), .int (x5 &&& x7), .int x6, .int x7]) rfl ?_
          refine w_iinc (pc' := 120) rfl rfl rfl (v := (x7 + 1)) rfl (xl' := [.ref 400, .int x1, .int x2, .int x3, .int (x4 + 1), .int (x5 &&& x7), .int x6, .int (x7 + 1)]) rfl ?_
          refine w_goto (pc' := 59) rfl rfl ?_
          exact h
        · replace h := h.1 (Classical.not_not.mp hc)
          refine w_iload (pc' := 105) rfl rfl rfl ?_
          refine w_istore (pc' := 107) rfl rfl (xl' := [.ref 400, .int x1, .int x2, .int x3, .int x4, .int x5, .int x7, .int x7]) rfl ?_
          refine w_iload (pc' := 109) rfl rfl rfl ?_
          refine w_iload (pc' := 111) rfl rfl rfl ?_
          refine w_iand (pc' := 112) rfl rfl ?_
          refine w_istore (pc' := 114) rfl rfl (xl' := [.ref 400, .int x1, .int x2, .int x3, .int x4, .int (x5 &&& x7), .int x7, .int x7]) rfl ?_
          refine w_iinc (pc' := 117) rfl rfl rfl (v := (x4 + 1)) rfl (xl' := [.ref 400, .int x1, .int x2, .int x3, .int (x4 + 1), .int (x5 &&& x7), .int x7, .int x7]) rfl ?_
          refine w_iinc (pc' := 120) rfl rfl rfl (v := (x7 + 1)) rfl (xl' := [.ref 400, .int x1, .int x2, .int x3, .int (x4 + 1), .int (x5 &&& x7), .int x7, .int (x7 + 1)]) rfl ?_
          refine w_goto (pc' := 59) rfl rfl ?_
          exact h
      · replace h := h.1 (Classical.not_not.mp hc)
        refine w_goto (pc' := 117) rfl rfl ?_
        refine w_iinc (pc' := 120) rfl rfl rfl (v := (x7 + 1)) rfl (xl' := [.ref 400, .int x1, .int x2, .int x3, .int x4, .int x5, .int x6, .int (x7 + 1)]) rfl ?_
        refine w_goto (pc' := 59) rfl rfl ?_
        exact h
theorem t_Mo_isOneBut_0 {L : Nat} {xs : Nat → Int32} {x1 : Int32} {f : Hp} {Q : Int32 → Hp → Prop}  (h : Wp L xs xm_Mo_isOneBut 7 [.ref 400, .int x1, .int (-1), .int 1, .int 0] [] f (QI Q)) : CI L xs xm_Mo_isOneBut [.ref 400, .int x1] f Q := by
  show Wp L xs xm_Mo_isOneBut 0 [.ref 400, .int x1, .retAddr 0, .retAddr 0, .retAddr 0] [] f (QI Q)
  refine w_iconst (pc' := 1) rfl rfl (v := (-1)) rfl ?_
  refine w_istore_n (pc' := 2) rfl rfl (xl' := [.ref 400, .int x1, .int (-1), .retAddr 0, .retAddr 0]) rfl ?_
  refine w_iconst (pc' := 3) rfl rfl (v := 1) rfl ?_
  refine w_istore_n (pc' := 4) rfl rfl (xl' := [.ref 400, .int x1, .int (-1), .int 1, .retAddr 0]) rfl ?_
  refine w_iconst (pc' := 5) rfl rfl (v := 0) rfl ?_
  refine w_istore (pc' := 7) rfl rfl (xl' := [.ref 400, .int x1, .int (-1), .int 1, .int 0]) rfl ?_
  exact h
theorem t_Mo_isOneBut_7 {L : Nat} {xs : Nat → Int32} {x1 : Int32} {x2 : Int32} {x3 : Int32} {x4 : Int32} {f : Hp} {Q : Int32 → Hp → Prop}  (h : ((x4 < (f 400 13) → ((((x1 >>> (x4 &&& 31)) &&& 1) = 1 → Wp L xs xm_Mo_isOneBut 7 [.ref 400, .int x1, .int x2, .int x3, .int (x4 + 1)] [] f (QI Q)) ∧ (¬ ((x1 >>> (x4 &&& 31)) &&& 1) = 1 → ∃ k1 : Nat, x4 = iN k1 ∧ k1 < 7 ∧ (((f 433 k1) = (-1) → Wp L xs xm_Mo_isOneBut 7 [.ref 400, .int x1, .int x2, .int x3, .int (x4 + 1)] [] f (QI Q)) ∧ (¬ (f 433 k1) = (-1) → ((x3 = 0 → Wp L xs xm_Mo_isOneBut 7 [.ref 400, .int x1, .int (f 433 k1), .int 0, .int (x4 + 1)] [] f (QI Q)) ∧ (¬ x3 = 0 → ((x2 = (-1) → Wp L xs xm_Mo_isOneBut 60 [.ref 400, .int x1, .int x2, .int x3, .int x4] [] f (QI Q)) ∧ (¬ x2 = (-1) → ((x2 = (f 433 k1) → Wp L xs xm_Mo_isOneBut 60 [.ref 400, .int x1, .int x2, .int x3, .int x4] [] f (QI Q)) ∧ (¬ x2 = (f 433 k1) → Wp L xs xm_Mo_isOneBut 7 [.ref 400, .int x1, .int (f 433 k1), .int 0, .int (x4 + 1)] [] f (QI Q)))))))))))) ∧ (¬ x4 < (f 400 13) → (x3 = 0 ∨ x3 = 1) ∧ Q x3 f))) : Wp L xs xm_Mo_isOneBut 7 [.ref 400, .int x1, .int x2, .int x3, .int x4] [] f (QI Q) := by
  refine w_iload (pc' := 9) rfl rfl rfl ?_
  refine w_aload_n (pc' := 10) rfl rfl rfl ?_
  refine w_getI (pc' := 13) rfl rfl rfl rfl rfl (show xS0 L 400 = (12, 0) from rfl) ?_
  refine w_br2 (pc' := 16) (t := 80) rfl rfl rfl ic_ge (fun hc => ?_) (fun hc => ?_)
  · replace h := h.2 hc
    refine w_iload_n (pc' := 81) rfl rfl rfl ?_
    obtain ⟨q1, h⟩ := h
    exact w_ireturn rfl (xr_bool rfl q1) h
  · replace h := h.1 (Classical.not_not.mp hc)
    refine w_iload_n (pc' := 17) rfl rfl rfl ?_
    refine w_iload (pc' := 19) rfl rfl rfl ?_
    refine w_ishr (pc' := 20) rfl rfl ?_
    refine w_iconst (pc' := 21) rfl rfl (v := 1) rfl ?_
    refine w_iand (pc' := 22) rfl rfl ?_
    refine w_iconst (pc' := 23) rfl rfl (v := 1) rfl ?_
    refine w_br2 (pc' := 26) (t := 74) rfl rfl rfl ic_eq (fun hc => ?_) (fun hc => ?_)
    · replace h := h.1 hc
      refine w_iinc (pc' := 77) rfl rfl rfl (v := (x4 + 1)) rfl (xl' := [.ref 400, .int x1, .int x2, .int x3, .int (x4 + 1)]) rfl ?_
      refine w_goto (pc' := 7) rfl rfl ?_
      exact h
    · replace h := h.2 hc
      refine w_aload_n (pc' := 27) rfl rfl rfl ?_
      have q2 : xR0 400 57 = some 433 ∧ xS0 L 433 = (20, 7) := (kf_12_57 (show xS0 L 400 = (12, 0) from rfl))
      refine w_getR (pc' := 30) rfl rfl rfl rfl (show xS0 L 400 = (12, 0) from rfl) q2.1 ?_
      refine w_iload (pc' := 32) rfl rfl rfl ?_
      obtain ⟨k1, ek1, bk1, h⟩ := h
      refine w_iaload (pc' := 33) (i := k1) rfl rfl q2.2 ek1 bk1 (by omega) ?_
      refine w_iconst (pc' := 34) rfl rfl (v := (-1)) rfl ?_
      refine w_br2 (pc' := 37) (t := 40) rfl rfl rfl ic_ne (fun hc => ?_) (fun hc => ?_)
      · replace h := h.2 hc
        refine w_iload_n (pc' := 41) rfl rfl rfl ?_
        refine w_br (pc' := 44) (t := 64) rfl rfl rfl ic_eq (fun hc => ?_) (fun hc => ?_)
        · replace h := h.1 hc
          refine w_iconst (pc' := 65) rfl rfl (v := 0) rfl ?_
          refine w_istore_n (pc' := 66) rfl rfl (xl' := [.ref 400, .int x1, .int x2, .int 0, .int x4]) rfl ?_
          refine w_aload_n (pc' := 67) rfl rfl rfl ?_
          have q3 : xR0 400 57 = some 433 ∧ xS0 L 433 = (20, 7) := (kf_12_57 (show xS0 L 400 = (12, 0) from rfl))
          refine w_getR (pc' := 70) rfl rfl rfl rfl (show xS0 L 400 = (12, 0) from rfl) q3.1 ?_
          refine w_iload (pc' := 72) rfl rfl rfl ?_
          refine w_iaload (pc' := 73) (i := k1) rfl rfl q3.2 ek1 bk1 (by omega) ?_
          refine w_istore_n (pc' := 74) rfl rfl (xl' := [.ref 400, .int x1, .int (f 433 k1), .int 0, .int x4]) rfl ?_
          refine w_iinc (pc' := 77) rfl rfl rfl (v := (x4 + 1)) rfl (xl' := [.ref 400, .int x1, .int (f 433 k1), .int 0, .int (x4 + 1)]) rfl ?_
          refine w_goto (pc' := 7) rfl rfl ?_
          exact h
        · replace h := h.2 hc
          refine w_iload_n (pc' := 45) rfl rfl rfl ?_
          refine w_iconst (pc' := 46) rfl rfl (v := (-1)) rfl ?_
          refine w_br2 (pc' := 49) (t := 60) rfl rfl rfl ic_eq (fun hc => ?_) (fun hc => ?_)
          · replace h := h.1 hc
            exact h
          · replace h := h.2 hc
            refine w_iload_n (pc' := 50) rfl rfl rfl ?_
            refine w_aload_n (pc' := 51) rfl rfl rfl ?_
            have q4 : xR0 400 57 = some 433 ∧ xS0 L 433 = (20, 7) := (kf_12_57 (show xS0 L 400 = (12, 0) from rfl))
            refine w_getR (pc' := 54) rfl rfl rfl rfl (show xS0 L 400 = (12, 0) from rfl) q4.1 ?_
            refine w_iload (pc' := 56) rfl rfl rfl ?_
            refine w_iaload (pc' := 57) (i := k1) rfl rfl q4.2 ek1 bk1 (by omega) ?_
            refine w_br2 (pc' := 60) (t := 64) rfl rfl rfl ic_ne (fun hc => ?_) (fun hc => ?_)
            · replace h := h.2 hc
              refine w_iconst (pc' := 65) rfl rfl (v := 0) rfl ?_
              refine w_istore_n (pc' := 66) rfl rfl (xl' := [.ref 400, .int x1, .int x2, .int 0, .int x4]) rfl ?_
              refine w_aload_n (pc' := 67) rfl rfl rfl ?_
              have q5 : xR0 400 57 = some 433 ∧ xS0 L 433 = (20, 7) := (kf_12_57 (show xS0 L 400 = (12, 0) from rfl))
              refine w_getR (pc' := 70) rfl rfl rfl rfl (show xS0 L 400 = (12, 0) from rfl) q5.1 ?_
              refine w_iload (pc' := 72) rfl rfl rfl ?_
              refine w_iaload (pc' := 73) (i := k1) rfl rfl q5.2 ek1 bk1 (by omega) ?_
              refine w_istore_n (pc' := 74) rfl rfl (xl' := [.ref 400, .int x1, .int (f 433 k1), .int 0, .int x4]) rfl ?_
              refine w_iinc (pc' := 77) rfl rfl rfl (v := (x4 + 1)) rfl (xl' := [.ref 400, .int x1, .int (f 433 k1), .int 0, .int (x4 + 1)]) rfl ?_
              refine w_goto (pc' := 7) rfl rfl ?_
              exact h
            · replace h := h.1 (Classical.not_not.mp hc)
              exact h
      · replace h := h.1 (Classical.not_not.mp hc)
        refine w_goto (pc' := 74) rfl rfl ?_
        refine w_iinc (pc' := 77) rfl rfl rfl (v := (x4 + 1)) rfl (xl' := [.ref 400, .int x1, .int x2, .int x3, .int (x4 + 1)]) rfl ?_
        refine w_goto (pc' := 7) rfl rfl ?_
        exact h
theorem t_Mo_isOneBut_60 {L : Nat} {xs : Nat → Int32} {x1 : Int32} {x2 : Int32} {x3 : Int32} {x4 : Int32} {f : Hp} {Q : Int32 → Hp → Prop}  (h : ∃ k1 : Nat, x4 = iN k1 ∧ k1 < 7 ∧ Wp L xs xm_Mo_isOneBut 7 [.ref 400, .int x1, .int (f 433 k1), .int 1, .int (x4 + 1)] [] f (QI Q)) : Wp L xs xm_Mo_isOneBut 60 [.ref 400, .int x1, .int x2, .int x3, .int x4] [] f (QI Q) := by
  refine w_iconst (pc' := 61) rfl rfl (v := 1) rfl ?_
  refine w_goto (pc' := 65) rfl rfl ?_
  refine w_istore_n (pc' := 66) rfl rfl (xl' := [.ref 400, .int x1, .int x2, .int 1, .int x4]) rfl ?_
  refine w_aload_n (pc' := 67) rfl rfl rfl ?_
  have q1 : xR0 400 57 = some 433 ∧ xS0 L 433 = (20, 7) := (kf_12_57 (show xS0 L 400 = (12, 0) from rfl))
  refine w_getR (pc' := 70) rfl rfl rfl rfl (show xS0 L 400 = (12, 0) from rfl) q1.1 ?_
  refine w_iload (pc' := 72) rfl rfl rfl ?_
  obtain ⟨k1, ek1, bk1, h⟩ := h
  refine w_iaload (pc' := 73) (i := k1) rfl rfl q1.2 ek1 bk1 (by omega) ?_
  refine w_istore_n (pc' := 74) rfl rfl (xl' := [.ref 400, .int x1, .int (f 433 k1), .int 1, .int x4]) rfl ?_
  refine w_iinc (pc' := 77) rfl rfl rfl (v := (x4 + 1)) rfl (xl' := [.ref 400, .int x1, .int (f 433 k1), .int 1, .int (x4 + 1)]) rfl ?_
  refine w_goto (pc' := 7) rfl rfl ?_
  exact h
theorem t_Mo_voices_0 {L : Nat} {xs : Nat → Int32} {x1 : Int32} {x2 : Int32} {x3 : Int32} {f : Hp} {Q : Int32 → Hp → Prop}  (h : CI L xs xm_Mo_isCouncil [.ref 400, .int x1] f (fun v1 g1 => ((v1 = 0 → Q (-1) g1) ∧ (¬ v1 = 0 → CI L xs xm_Mo_isReplies [.ref 400, .int x2] g1 (fun v2 g2 => ((v2 = 0 → Q (-1) g2) ∧ (¬ v2 = 0 → CI L xs xm_Mo_isIn [.int x3, .int 0, .int 99] g2 (fun v3 g3 => ((v3 = 0 → Q (-1) g3) ∧ (¬ v3 = 0 → CV L xs xm_Mo_come [.ref 400, .int 12] g3 (fun g4 => CI L xs xm_Mo_tell [.ref 400, .int x3] g4 (fun v4 g5 => Q v4 g5)))))))))))) : CI L xs xm_Mo_voices [.ref 400, .int x1, .int x2, .int x3] f Q := by
  show Wp L xs xm_Mo_voices 0 [.ref 400, .int x1, .int x2, .int x3] [] f (QI Q)
  refine w_aload_n (pc' := 1) rfl rfl rfl ?_
  refine w_iload_n (pc' := 2) rfl rfl rfl ?_
  refine w_cv (pc' := 5) (cm := xm_Mo_isCouncil) (as := [.int x1]) (a := 400) (rest := []) rfl rfl rfl  (xa_Mo_isCouncil (Nat.le_of_ble_eq_true rfl)) (show xS0 L 400 = (12, 0) from rfl) rfl (CI.k h fun v1 g1 h => ?_)
  show Wp L xs xm_Mo_voices 5 [.ref 400, .int x1, .int x2, .int x3] [.int v1] g1 _
  refine w_br (pc' := 8) (t := 26) rfl rfl rfl ic_eq (fun hc => ?_) (fun hc => ?_)
  · replace h := h.1 hc
    refine w_iconst (pc' := 27) rfl rfl (v := (-1)) rfl ?_
    exact w_ireturn rfl rfl h
  · replace h := h.2 hc
    refine w_aload_n (pc' := 9) rfl rfl rfl ?_
    refine w_iload_n (pc' := 10) rfl rfl rfl ?_
    refine w_cv (pc' := 13) (cm := xm_Mo_isReplies) (as := [.int x2]) (a := 400) (rest := []) rfl rfl rfl  (xa_Mo_isReplies (Nat.le_of_ble_eq_true rfl)) (show xS0 L 400 = (12, 0) from rfl) rfl (CI.k h fun v2 g2 h => ?_)
    show Wp L xs xm_Mo_voices 13 [.ref 400, .int x1, .int x2, .int x3] [.int v2] g2 _
    refine w_br (pc' := 16) (t := 26) rfl rfl rfl ic_eq (fun hc => ?_) (fun hc => ?_)
    · replace h := h.1 hc
      refine w_iconst (pc' := 27) rfl rfl (v := (-1)) rfl ?_
      exact w_ireturn rfl rfl h
    · replace h := h.2 hc
      refine w_iload_n (pc' := 17) rfl rfl rfl ?_
      refine w_iconst (pc' := 18) rfl rfl (v := 0) rfl ?_
      refine w_bipush (pc' := 20) rfl rfl (v := 99) rfl ?_
      refine w_cs (pc' := 23) (cm := xm_Mo_isIn) (as := [.int x3, .int 0, .int 99]) (rest := []) rfl rfl rfl (Or.inl rfl) (xa_Mo_isIn (Nat.le_of_ble_eq_true rfl)) (CI.k h fun v3 g3 h => ?_)
      show Wp L xs xm_Mo_voices 23 [.ref 400, .int x1, .int x2, .int x3] [.int v3] g3 _
      refine w_br (pc' := 26) (t := 28) rfl rfl rfl ic_ne (fun hc => ?_) (fun hc => ?_)
      · replace h := h.2 hc
        refine w_aload_n (pc' := 29) rfl rfl rfl ?_
        refine w_bipush (pc' := 31) rfl rfl (v := 12) rfl ?_
        refine w_cv (pc' := 34) (cm := xm_Mo_come) (as := [.int 12]) (a := 400) (rest := []) rfl rfl rfl  (xa_Mo_come (Nat.le_of_ble_eq_true rfl)) (show xS0 L 400 = (12, 0) from rfl) rfl (CV.k h fun g4 h => ?_)
        show Wp L xs xm_Mo_voices 34 [.ref 400, .int x1, .int x2, .int x3] [] g4 _
        refine w_aload_n (pc' := 35) rfl rfl rfl ?_
        refine w_iload_n (pc' := 36) rfl rfl rfl ?_
        refine w_cv (pc' := 39) (cm := xm_Mo_tell) (as := [.int x3]) (a := 400) (rest := []) rfl rfl rfl  (xa_Mo_tell (Nat.le_of_ble_eq_true rfl)) (show xS0 L 400 = (12, 0) from rfl) rfl (CI.k h fun v4 g5 h => ?_)
        show Wp L xs xm_Mo_voices 39 [.ref 400, .int x1, .int x2, .int x3] [.int v4] g5 _
        exact w_ireturn rfl rfl h
      · replace h := h.1 (Classical.not_not.mp hc)
        refine w_iconst (pc' := 27) rfl rfl (v := (-1)) rfl ?_
        exact w_ireturn rfl rfl h
theorem t_Mo_lack_0 {L : Nat} {xs : Nat → Int32} {x1 : Int32} {x2 : Int32} {x3 : Int32} {f : Hp} {Q : Int32 → Hp → Prop}  (h : CI L xs xm_Mo_isCouncil [.ref 400, .int x1] f (fun v1 g1 => ((v1 = 0 → Q (-2) g1) ∧ (¬ v1 = 0 → CI L xs xm_Mo_isReplies [.ref 400, .int x2] g1 (fun v2 g2 => ((v2 = 0 → Q (-2) g2) ∧ (¬ v2 = 0 → CI L xs xm_Mo_isIn [.int x3, .int 0, .int 2] g2 (fun v3 g3 => ((v3 = 0 → Q (-2) g3) ∧ (¬ v3 = 0 → CV L xs xm_Mo_come [.ref 400, .int 12] g3 (fun g4 => ((x3 = 2 → Q (g4 400 59) g4) ∧ (¬ x3 = 2 → Wp L xs xm_Mo_lack 53 [.ref 400, .int x1, .int x2, .int x3, .int 0, .int 0, .int 0, .retAddr 0] [] g4 (QI Q)))))))))))))) : CI L xs xm_Mo_lack [.ref 400, .int x1, .int x2, .int x3] f Q := by
  show Wp L xs xm_Mo_lack 0 [.ref 400, .int x1, .int x2, .int x3, .retAddr 0, .retAddr 0, .retAddr 0, .retAddr 0] [] f (QI Q)
  refine w_aload_n (pc' := 1) rfl rfl rfl ?_
  refine w_iload_n (pc' := 2) rfl rfl rfl ?_
  refine w_cv (pc' := 5) (cm := xm_Mo_isCouncil) (as := [.int x1]) (a := 400) (rest := []) rfl rfl rfl  (xa_Mo_isCouncil (Nat.le_of_ble_eq_true rfl)) (show xS0 L 400 = (12, 0) from rfl) rfl (CI.k h fun v1 g1 h => ?_)
  show Wp L xs xm_Mo_lack 5 [.ref 400, .int x1, .int x2, .int x3, .retAddr 0, .retAddr 0, .retAddr 0, .retAddr 0] [.int v1] g1 _
  refine w_br (pc' := 8) (t := 25) rfl rfl rfl ic_eq (fun hc => ?_) (fun hc => ?_)
  · replace h := h.1 hc
    refine w_bipush (pc' := 27) rfl rfl (v := (-2)) rfl ?_
    exact w_ireturn rfl rfl h
  · replace h := h.2 hc
    refine w_aload_n (pc' := 9) rfl rfl rfl ?_
    refine w_iload_n (pc' := 10) rfl rfl rfl ?_
    refine w_cv (pc' := 13) (cm := xm_Mo_isReplies) (as := [.int x2]) (a := 400) (rest := []) rfl rfl rfl  (xa_Mo_isReplies (Nat.le_of_ble_eq_true rfl)) (show xS0 L 400 = (12, 0) from rfl) rfl (CI.k h fun v2 g2 h => ?_)
    show Wp L xs xm_Mo_lack 13 [.ref 400, .int x1, .int x2, .int x3, .retAddr 0, .retAddr 0, .retAddr 0, .retAddr 0] [.int v2] g2 _
    refine w_br (pc' := 16) (t := 25) rfl rfl rfl ic_eq (fun hc => ?_) (fun hc => ?_)
    · replace h := h.1 hc
      refine w_bipush (pc' := 27) rfl rfl (v := (-2)) rfl ?_
      exact w_ireturn rfl rfl h
    · replace h := h.2 hc
      refine w_iload_n (pc' := 17) rfl rfl rfl ?_
      refine w_iconst (pc' := 18) rfl rfl (v := 0) rfl ?_
      refine w_iconst (pc' := 19) rfl rfl (v := 2) rfl ?_
      refine w_cs (pc' := 22) (cm := xm_Mo_isIn) (as := [.int x3, .int 0, .int 2]) (rest := []) rfl rfl rfl (Or.inl rfl) (xa_Mo_isIn (Nat.le_of_ble_eq_true rfl)) (CI.k h fun v3 g3 h => ?_)
      show Wp L xs xm_Mo_lack 22 [.ref 400, .int x1, .int x2, .int x3, .retAddr 0, .retAddr 0, .retAddr 0, .retAddr 0] [.int v3] g3 _
      refine w_br (pc' := 25) (t := 28) rfl rfl rfl ic_ne (fun hc => ?_) (fun hc => ?_)
      · replace h := h.2 hc
        refine w_aload_n (pc' := 29) rfl rfl rfl ?_
        refine w_bipush (pc' := 31) rfl rfl (v := 12) rfl ?_
        refine w_cv (pc' := 34) (cm := xm_Mo_come) (as := [.int 12]) (a := 400) (rest := []) rfl rfl rfl  (xa_Mo_come (Nat.le_of_ble_eq_true rfl)) (show xS0 L 400 = (12, 0) from rfl) rfl (CV.k h fun g4 h => ?_)
        show Wp L xs xm_Mo_lack 34 [.ref 400, .int x1, .int x2, .int x3, .retAddr 0, .retAddr 0, .retAddr 0, .retAddr 0] [] g4 _
        refine w_iload_n (pc' := 35) rfl rfl rfl ?_
        refine w_iconst (pc' := 36) rfl rfl (v := 2) rfl ?_
        refine w_br2 (pc' := 39) (t := 44) rfl rfl rfl ic_ne (fun hc => ?_) (fun hc => ?_)
        · replace h := h.2 hc
          refine w_iconst (pc' := 45) rfl rfl (v := 0) rfl ?_
          refine w_istore (pc' := 47) rfl rfl (xl' := [.ref 400, .int x1, .int x2, .int x3, .int 0, .retAddr 0, .retAddr 0, .retAddr 0]) rfl ?_
          refine w_iconst (pc' := 48) rfl rfl (v := 0) rfl ?_
          refine w_istore (pc' := 50) rfl rfl (xl' := [.ref 400, .int x1, .int x2, .int x3, .int 0, .int 0, .retAddr 0, .retAddr 0]) rfl ?_
          refine w_iconst (pc' := 51) rfl rfl (v := 0) rfl ?_
          refine w_istore (pc' := 53) rfl rfl (xl' := [.ref 400, .int x1, .int x2, .int x3, .int 0, .int 0, .int 0, .retAddr 0]) rfl ?_
          exact h
        · replace h := h.1 (Classical.not_not.mp hc)
          refine w_aload_n (pc' := 40) rfl rfl rfl ?_
          refine w_getI (pc' := 43) rfl rfl rfl rfl rfl (show xS0 L 400 = (12, 0) from rfl) ?_
          exact w_ireturn rfl rfl h
      · replace h := h.1 (Classical.not_not.mp hc)
        refine w_bipush (pc' := 27) rfl rfl (v := (-2)) rfl ?_
        exact w_ireturn rfl rfl h
theorem t_Mo_lack_53 {L : Nat} {xs : Nat → Int32} {x1 : Int32} {x2 : Int32} {x3 : Int32} {x4 : Int32} {x5 : Int32} {x6 : Int32} {x7 : Value} {f : Hp} {Q : Int32 → Hp → Prop} (cx7 : (x7.category != 2) = true) (h : ((x6 < 100 → CI L xs xm_Mo_tell [.ref 400, .int x6] f (fun v1 g1 => CI L xs xm_Mo_bitsOf [.int v1] g1 (fun v2 g2 => ((0 < v2 → Wp L xs xm_Mo_lack 83 [.ref 400, .int x1, .int x2, .int x3, .int x4, .int x5, .int x6, .int v2] [.int 1, .int x5] g2 (QI Q)) ∧ (¬ 0 < v2 → Wp L xs xm_Mo_lack 83 [.ref 400, .int x1, .int x2, .int x3, .int x4, .int x5, .int x6, .int v2] [.int 0, .int x5] g2 (QI Q)))))) ∧ (¬ x6 < 100 → ((x3 = 1 → Q x5 f) ∧ (¬ x3 = 1 → (((f 400 12) < x4 → Q 0 f) ∧ (¬ (f 400 12) < x4 → Q (((f 400 12) + 1) - x4) f))))))) : Wp L xs xm_Mo_lack 53 [.ref 400, .int x1, .int x2, .int x3, .int x4, .int x5, .int x6, x7] [] f (QI Q) := by
  refine w_iload (pc' := 55) rfl rfl rfl ?_
  refine w_bipush (pc' := 57) rfl rfl (v := 100) rfl ?_
  refine w_br2 (pc' := 60) (t := 108) rfl rfl rfl ic_ge (fun hc => ?_) (fun hc => ?_)
  · replace h := h.2 hc
    refine w_iload_n (pc' := 109) rfl rfl rfl ?_
    refine w_iconst (pc' := 110) rfl rfl (v := 1) rfl ?_
    refine w_br2 (pc' := 113) (t := 118) rfl rfl rfl ic_ne (fun hc => ?_) (fun hc => ?_)
    · replace h := h.2 hc
      refine w_iload (pc' := 120) rfl rfl rfl ?_
      refine w_aload_n (pc' := 121) rfl rfl rfl ?_
      refine w_getI (pc' := 124) rfl rfl rfl rfl rfl (show xS0 L 400 = (12, 0) from rfl) ?_
      refine w_br2 (pc' := 127) (t := 131) rfl rfl rfl ic_le (fun hc => ?_) (fun hc => ?_)
      · replace h := h.2 hc
        refine w_aload_n (pc' := 132) rfl rfl rfl ?_
        refine w_getI (pc' := 135) rfl rfl rfl rfl rfl (show xS0 L 400 = (12, 0) from rfl) ?_
        refine w_iconst (pc' := 136) rfl rfl (v := 1) rfl ?_
        refine w_iadd (pc' := 137) rfl rfl ?_
        refine w_iload (pc' := 139) rfl rfl rfl ?_
        refine w_isub (pc' := 140) rfl rfl ?_
        exact w_ireturn rfl rfl h
      · replace h := h.1 (Classical.not_not.mp hc)
        refine w_iconst (pc' := 128) rfl rfl (v := 0) rfl ?_
        refine w_goto (pc' := 140) rfl rfl ?_
        exact w_ireturn rfl rfl h
    · replace h := h.1 (Classical.not_not.mp hc)
      refine w_iload (pc' := 115) rfl rfl rfl ?_
      refine w_goto (pc' := 140) rfl rfl ?_
      exact w_ireturn rfl rfl h
  · replace h := h.1 (Classical.not_not.mp hc)
    refine w_aload_n (pc' := 61) rfl rfl rfl ?_
    refine w_iload (pc' := 63) rfl rfl rfl ?_
    refine w_cv (pc' := 66) (cm := xm_Mo_tell) (as := [.int x6]) (a := 400) (rest := []) rfl rfl rfl  (xa_Mo_tell (Nat.le_of_ble_eq_true rfl)) (show xS0 L 400 = (12, 0) from rfl) rfl (CI.k h fun v1 g1 h => ?_)
    show Wp L xs xm_Mo_lack 66 [.ref 400, .int x1, .int x2, .int x3, .int x4, .int x5, .int x6, x7] [.int v1] g1 _
    refine w_cs (pc' := 69) (cm := xm_Mo_bitsOf) (as := [.int v1]) (rest := []) rfl rfl rfl (Or.inl rfl) (xa_Mo_bitsOf (Nat.le_of_ble_eq_true rfl)) (CI.k h fun v2 g2 h => ?_)
    show Wp L xs xm_Mo_lack 69 [.ref 400, .int x1, .int x2, .int x3, .int x4, .int x5, .int x6, x7] [.int v2] g2 _
    refine w_istore (pc' := 71) rfl rfl (xl' := [.ref 400, .int x1, .int x2, .int x3, .int x4, .int x5, .int x6, .int v2]) rfl ?_
    refine w_iload (pc' := 73) rfl rfl rfl ?_
    refine w_iload (pc' := 75) rfl rfl rfl ?_
    refine w_br (pc' := 78) (t := 82) rfl rfl rfl ic_le (fun hc => ?_) (fun hc => ?_)
    · replace h := h.2 hc
      refine w_iconst (pc' := 83) rfl rfl (v := 0) rfl ?_
      exact h
    · replace h := h.1 (Classical.not_not.mp hc)
      refine w_iconst (pc' := 79) rfl rfl (v := 1) rfl ?_
      refine w_goto (pc' := 83) rfl rfl ?_
      exact h
theorem t_Mo_lack_83 {L : Nat} {xs : Nat → Int32} {x1 : Int32} {x2 : Int32} {x3 : Int32} {x4 : Int32} {x5 : Int32} {x6 : Int32} {x7 : Int32} {s0 : Int32} {s1 : Int32} {f : Hp} {Q : Int32 → Hp → Prop}  (h : ((x4 < x7 → Wp L xs xm_Mo_lack 53 [.ref 400, .int x1, .int x2, .int x3, .int x7, .int (s1 + s0), .int (x6 + 1), .int x7] [] f (QI Q)) ∧ (¬ x4 < x7 → Wp L xs xm_Mo_lack 53 [.ref 400, .int x1, .int x2, .int x3, .int x4, .int (s1 + s0), .int (x6 + 1), .int x7] [] f (QI Q)))) : Wp L xs xm_Mo_lack 83 [.ref 400, .int x1, .int x2, .int x3, .int x4, .int x5, .int x6, .int x7] [.int s0, .int s1] f (QI Q) := by
  refine w_iadd (pc' := 84) rfl rfl ?_
  refine w_istore (pc' := 86) rfl rfl (xl' := [.ref 400, .int x1, .int x2, .int x3, .int x4, .int (s1 + s0), .int x6, .int x7]) rfl ?_
  refine w_iload (pc' := 88) rfl rfl rfl ?_
  refine w_iload (pc' := 90) rfl rfl rfl ?_
  refine w_br2 (pc' := 93) (t := 98) rfl rfl rfl ic_le (fun hc => ?_) (fun hc => ?_)
  · replace h := h.2 hc
    refine w_iload (pc' := 100) rfl rfl rfl ?_
    refine w_istore (pc' := 102) rfl rfl (xl' := [.ref 400, .int x1, .int x2, .int x3, .int x4, .int (s1 + s0), .int x6, .int x7]) rfl ?_
    refine w_iinc (pc' := 105) rfl rfl rfl (v := (x6 + 1)) rfl (xl' := [.ref 400, .int x1, .int x2, .int x3, .int x4, .int (s1 + s0), .int (x6 + 1), .int x7]) rfl ?_
    refine w_goto (pc' := 53) rfl rfl ?_
    exact h
  · replace h := h.1 (Classical.not_not.mp hc)
    refine w_iload (pc' := 95) rfl rfl rfl ?_
    refine w_goto (pc' := 100) rfl rfl ?_
    refine w_istore (pc' := 102) rfl rfl (xl' := [.ref 400, .int x1, .int x2, .int x3, .int x7, .int (s1 + s0), .int x6, .int x7]) rfl ?_
    refine w_iinc (pc' := 105) rfl rfl rfl (v := (x6 + 1)) rfl (xl' := [.ref 400, .int x1, .int x2, .int x3, .int x7, .int (s1 + s0), .int (x6 + 1), .int x7]) rfl ?_
    refine w_goto (pc' := 53) rfl rfl ?_
    exact h
theorem t_Mo_drawn_0 {L : Nat} {xs : Nat → Int32} {x1 : Int32} {x2 : Int32} {x3 : Int32} {x4 : Int32} {x5 : Int32} {f : Hp} {Q : Int32 → Hp → Prop}  (h : CI L xs xm_Mo_isCouncil [.ref 400, .int x1] f (fun v1 g1 => ((v1 = 0 → Q (-2) g1) ∧ (¬ v1 = 0 → CI L xs xm_Mo_isIn [.int x3, .int 0, .int 200] g1 (fun v2 g2 => ((v2 = 0 → Q (-2) g2) ∧ (¬ v2 = 0 → CV L xs xm_Mo_begins [.ref 400] g2 (fun g3 => ∀ g4, g4 = xu g3 400 60 x2 → Wp L xs xm_Mo_drawn 34 [.ref 400, .int x1, .int x2, .int x3, .int x4, .int x5, .int 0] [] g4 (QI Q))))))))) : CI L xs xm_Mo_drawn [.ref 400, .int x1, .int x2, .int x3, .int x4, .int x5] f Q := by
  show Wp L xs xm_Mo_drawn 0 [.ref 400, .int x1, .int x2, .int x3, .int x4, .int x5, .retAddr 0] [] f (QI Q)
  refine w_aload_n (pc' := 1) rfl rfl rfl ?_
  refine w_iload_n (pc' := 2) rfl rfl rfl ?_
  refine w_cv (pc' := 5) (cm := xm_Mo_isCouncil) (as := [.int x1]) (a := 400) (rest := []) rfl rfl rfl  (xa_Mo_isCouncil (Nat.le_of_ble_eq_true rfl)) (show xS0 L 400 = (12, 0) from rfl) rfl (CI.k h fun v1 g1 h => ?_)
  show Wp L xs xm_Mo_drawn 5 [.ref 400, .int x1, .int x2, .int x3, .int x4, .int x5, .retAddr 0] [.int v1] g1 _
  refine w_br (pc' := 8) (t := 19) rfl rfl rfl ic_eq (fun hc => ?_) (fun hc => ?_)
  · replace h := h.1 hc
    refine w_bipush (pc' := 21) rfl rfl (v := (-2)) rfl ?_
    exact w_ireturn rfl rfl h
  · replace h := h.2 hc
    refine w_iload_n (pc' := 9) rfl rfl rfl ?_
    refine w_iconst (pc' := 10) rfl rfl (v := 0) rfl ?_
    refine w_sipush (pc' := 13) rfl rfl (v := 200) rfl ?_
    refine w_cs (pc' := 16) (cm := xm_Mo_isIn) (as := [.int x3, .int 0, .int 200]) (rest := []) rfl rfl rfl (Or.inl rfl) (xa_Mo_isIn (Nat.le_of_ble_eq_true rfl)) (CI.k h fun v2 g2 h => ?_)
    show Wp L xs xm_Mo_drawn 16 [.ref 400, .int x1, .int x2, .int x3, .int x4, .int x5, .retAddr 0] [.int v2] g2 _
    refine w_br (pc' := 19) (t := 22) rfl rfl rfl ic_ne (fun hc => ?_) (fun hc => ?_)
    · replace h := h.2 hc
      refine w_aload_n (pc' := 23) rfl rfl rfl ?_
      refine w_cv (pc' := 26) (cm := xm_Mo_begins) (as := []) (a := 400) (rest := []) rfl rfl rfl  (xa_Mo_begins (Nat.le_of_ble_eq_true rfl)) (show xS0 L 400 = (12, 0) from rfl) rfl (CV.k h fun g3 h => ?_)
      show Wp L xs xm_Mo_drawn 26 [.ref 400, .int x1, .int x2, .int x3, .int x4, .int x5, .retAddr 0] [] g3 _
      refine w_aload_n (pc' := 27) rfl rfl rfl ?_
      refine w_iload_n (pc' := 28) rfl rfl rfl ?_
      refine w_putI (pc' := 31) rfl rfl rfl rfl (show xS0 L 400 = (12, 0) from rfl) ?_
      replace h := h _ rfl
      generalize xu g3 400 60 x2 = g4 at h ⊢
      refine w_iconst (pc' := 32) rfl rfl (v := 0) rfl ?_
      refine w_istore (pc' := 34) rfl rfl (xl' := [.ref 400, .int x1, .int x2, .int x3, .int x4, .int x5, .int 0]) rfl ?_
      exact h
    · replace h := h.1 (Classical.not_not.mp hc)
      refine w_bipush (pc' := 21) rfl rfl (v := (-2)) rfl ?_
      exact w_ireturn rfl rfl h
theorem t_Mo_drawn_34 {L : Nat} {xs : Nat → Int32} {x1 : Int32} {x2 : Int32} {x3 : Int32} {x4 : Int32} {x5 : Int32} {x6 : Int32} {f : Hp} {Q : Int32 → Hp → Prop}  (h : ((x6 < x3 → CV L xs xm_Mo_draws [.ref 400] f (fun g2 => Wp L xs xm_Mo_drawn 34 [.ref 400, .int x1, .int x2, .int x3, .int x4, .int x5, .int (x6 + 1)] [] g2 (QI Q))) ∧ (¬ x6 < x3 → CI L xs xm_Mo_nowOf [.ref 400, .int x4, .int x5] f (fun v1 g1 => Q v1 g1)))) : Wp L xs xm_Mo_drawn 34 [.ref 400, .int x1, .int x2, .int x3, .int x4, .int x5, .int x6] [] f (QI Q) := by
  refine w_iload (pc' := 36) rfl rfl rfl ?_
  refine w_iload_n (pc' := 37) rfl rfl rfl ?_
  refine w_br2 (pc' := 40) (t := 50) rfl rfl rfl ic_ge (fun hc => ?_) (fun hc => ?_)
  · replace h := h.2 hc
    refine w_aload_n (pc' := 51) rfl rfl rfl ?_
    refine w_iload (pc' := 53) rfl rfl rfl ?_
    refine w_iload (pc' := 55) rfl rfl rfl ?_
    refine w_cv (pc' := 58) (cm := xm_Mo_nowOf) (as := [.int x4, .int x5]) (a := 400) (rest := []) rfl rfl rfl  (xa_Mo_nowOf (Nat.le_of_ble_eq_true rfl)) (show xS0 L 400 = (12, 0) from rfl) rfl (CI.k h fun v1 g1 h => ?_)
    show Wp L xs xm_Mo_drawn 58 [.ref 400, .int x1, .int x2, .int x3, .int x4, .int x5, .int x6] [.int v1] g1 _
    exact w_ireturn rfl rfl h
  · replace h := h.1 (Classical.not_not.mp hc)
    refine w_aload_n (pc' := 41) rfl rfl rfl ?_
    refine w_cv (pc' := 44) (cm := xm_Mo_draws) (as := []) (a := 400) (rest := []) rfl rfl rfl  (xa_Mo_draws (Nat.le_of_ble_eq_true rfl)) (show xS0 L 400 = (12, 0) from rfl) rfl (CV.k h fun g2 h => ?_)
    show Wp L xs xm_Mo_drawn 44 [.ref 400, .int x1, .int x2, .int x3, .int x4, .int x5, .int x6] [] g2 _
    refine w_iinc (pc' := 47) rfl rfl rfl (v := (x6 + 1)) rfl (xl' := [.ref 400, .int x1, .int x2, .int x3, .int x4, .int x5, .int (x6 + 1)]) rfl ?_
    refine w_goto (pc' := 34) rfl rfl ?_
    exact h
theorem t_Mo_draws_0 {L : Nat} {xs : Nat → Int32}  {f : Hp} {Q : Hp → Prop}  (h : CI L xs xm_Mo_below [.ref 400, .int 10] f (fun v1 g1 => CI L xs xm_Mo_below [.ref 400, .int (g1 400 13)] g1 (fun v2 g2 => (((g2 400 13) = 1 → Wp L xs xm_Mo_draws 41 [.ref 400, .int v1, .int v2, .retAddr 0, .retAddr 0, .retAddr 0] [.int 0, .int (v2 + 1)] g2 (QV Q)) ∧ (¬ (g2 400 13) = 1 → CI L xs xm_Mo_below [.ref 400, .int ((g2 400 13) - 1)] g2 (fun v3 g3 => Wp L xs xm_Mo_draws 41 [.ref 400, .int v1, .int v2, .retAddr 0, .retAddr 0, .retAddr 0] [.int v3, .int (v2 + 1)] g3 (QV Q))))))) : CV L xs xm_Mo_draws [.ref 400] f Q := by
  show Wp L xs xm_Mo_draws 0 [.ref 400, .retAddr 0, .retAddr 0, .retAddr 0, .retAddr 0, .retAddr 0] [] f (QV Q)
  refine w_aload_n (pc' := 1) rfl rfl rfl ?_
  refine w_bipush (pc' := 3) rfl rfl (v := 10) rfl ?_
  refine w_cv (pc' := 6) (cm := xm_Mo_below) (as := [.int 10]) (a := 400) (rest := []) rfl rfl rfl  (xa_Mo_below (Nat.le_of_ble_eq_true rfl)) (show xS0 L 400 = (12, 0) from rfl) rfl (CI.k h fun v1 g1 h => ?_)
  show Wp L xs xm_Mo_draws 6 [.ref 400, .retAddr 0, .retAddr 0, .retAddr 0, .retAddr 0, .retAddr 0] [.int v1] g1 _
  refine w_istore_n (pc' := 7) rfl rfl (xl' := [.ref 400, .int v1, .retAddr 0, .retAddr 0, .retAddr 0, .retAddr 0]) rfl ?_
  refine w_aload_n (pc' := 8) rfl rfl rfl ?_
  refine w_aload_n (pc' := 9) rfl rfl rfl ?_
  refine w_getI (pc' := 12) rfl rfl rfl rfl rfl (show xS0 L 400 = (12, 0) from rfl) ?_
  refine w_cv (pc' := 15) (cm := xm_Mo_below) (as := [.int (g1 400 13)]) (a := 400) (rest := []) rfl rfl rfl  (xa_Mo_below (Nat.le_of_ble_eq_true rfl)) (show xS0 L 400 = (12, 0) from rfl) rfl (CI.k h fun v2 g2 h => ?_)
  show Wp L xs xm_Mo_draws 15 [.ref 400, .int v1, .retAddr 0, .retAddr 0, .retAddr 0, .retAddr 0] [.int v2] g2 _
  refine w_istore_n (pc' := 16) rfl rfl (xl' := [.ref 400, .int v1, .int v2, .retAddr 0, .retAddr 0, .retAddr 0]) rfl ?_
  refine w_iload_n (pc' := 17) rfl rfl rfl ?_
  refine w_iconst (pc' := 18) rfl rfl (v := 1) rfl ?_
  refine w_iadd (pc' := 19) rfl rfl ?_
  refine w_aload_n (pc' := 20) rfl rfl rfl ?_
  refine w_getI (pc' := 23) rfl rfl rfl rfl rfl (show xS0 L 400 = (12, 0) from rfl) ?_
  refine w_iconst (pc' := 24) rfl rfl (v := 1) rfl ?_
  refine w_br2 (pc' := 27) (t := 31) rfl rfl rfl ic_ne (fun hc => ?_) (fun hc => ?_)
  · replace h := h.2 hc
    refine w_aload_n (pc' := 32) rfl rfl rfl ?_
    refine w_aload_n (pc' := 33) rfl rfl rfl ?_
    refine w_getI (pc' := 36) rfl rfl rfl rfl rfl (show xS0 L 400 = (12, 0) from rfl) ?_
    refine w_iconst (pc' := 37) rfl rfl (v := 1) rfl ?_
    refine w_isub (pc' := 38) rfl rfl ?_
    refine w_cv (pc' := 41) (cm := xm_Mo_below) (as := [.int ((g2 400 13) - 1)]) (a := 400) (rest := [.int (v2 + 1)]) rfl rfl rfl  (xa_Mo_below (Nat.le_of_ble_eq_true rfl)) (show xS0 L 400 = (12, 0) from rfl) rfl (CI.k h fun v3 g3 h => ?_)
    show Wp L xs xm_Mo_draws 41 [.ref 400, .int v1, .int v2, .retAddr 0, .retAddr 0, .retAddr 0] [.int v3, .int (v2 + 1)] g3 _
    exact h
  · replace h := h.1 (Classical.not_not.mp hc)
    refine w_iconst (pc' := 28) rfl rfl (v := 0) rfl ?_
    refine w_goto (pc' := 41) rfl rfl ?_
    exact h
theorem t_Mo_draws_41 {L : Nat} {xs : Nat → Int32} {x1 : Int32} {x2 : Int32} {s0 : Int32} {s1 : Int32} {f : Hp} {Q : Hp → Prop}  (h : (f 400 13) ≠ 0 ∧ CI L xs xm_Mo_below [.ref 400, .int 12] f (fun v1 g1 => ((x1 = 0 → CI L xs xm_Mo_below [.ref 400, .int 10] g1 (fun v2 g2 => CI L xs xm_Mo_does [.ref 400, .int 0, .int x2, .int (1 + v1), .int v2] g2 (fun v3 g3 => Q g3))) ∧ (¬ x1 = 0 → ((x1 = 1 → CI L xs xm_Mo_below [.ref 400, .int 10] g1 (fun v4 g4 => CI L xs xm_Mo_does [.ref 400, .int 0, .int x2, .int (1 + v1), .int v4] g4 (fun v5 g5 => Q g5))) ∧ (¬ x1 = 1 → ((x1 = 2 → CI L xs xm_Mo_does [.ref 400, .int 1, .int x2, .int (jrem (s1 + s0) (f 400 13)), .int (1 + v1)] g1 (fun v6 g6 => Q g6)) ∧ (¬ x1 = 2 → ((x1 = 3 → CI L xs xm_Mo_does [.ref 400, .int 1, .int x2, .int (jrem (s1 + s0) (f 400 13)), .int (1 + v1)] g1 (fun v7 g7 => Q g7)) ∧ (¬ x1 = 3 → ((x1 = 4 → CI L xs xm_Mo_does [.ref 400, .int 2, .int x2, .int (jrem (s1 + s0) (f 400 13)), .int (1 + v1)] g1 (fun v8 g8 => Q g8)) ∧ (¬ x1 = 4 → ((x1 = 5 → CI L xs xm_Mo_does [.ref 400, .int 2, .int x2, .int (jrem (s1 + s0) (f 400 13)), .int (1 + v1)] g1 (fun v9 g9 => Q g9)) ∧ (¬ x1 = 5 → ((x1 = 6 → CI L xs xm_Mo_does [.ref 400, .int 3, .int x2, .int (-1), .int (-1)] g1 (fun v10 g10 => Q g10)) ∧ (¬ x1 = 6 → ((x1 = 7 → CI L xs xm_Mo_does [.ref 400, .int 4, .int x2, .int (jrem (s1 + s0) (f 400 13)), .int (-1)] g1 (fun v11 g11 => Q g11)) ∧ (¬ x1 = 7 → ((x1 = 8 → CI L xs xm_Mo_below [.ref 400, .int 4] g1 (fun v12 g12 => ((v12 = 0 → CI L xs xm_Mo_does [.ref 400, .int 5, .int x2, .int (jrem (s1 + s0) (f 400 13)), .int (-1)] g12 (fun v15 g15 => Q g15)) ∧ (¬ v12 = 0 → ((v12 = 1 → CI L xs xm_Mo_does [.ref 400, .int 6, .int x2, .int (jrem (s1 + s0) (f 400 13)), .int (-1)] g12 (fun v14 g14 => Q g14)) ∧ (¬ v12 = 1 → CI L xs xm_Mo_does [.ref 400, .int 7, .int x2, .int (jrem (s1 + s0) (f 400 13)), .int (-1)] g12 (fun v13 g13 => Q g13))))))) ∧ (¬ x1 = 8 → CI L xs xm_Mo_does [.ref 400, .int 8, .int x2, .int (-1), .int (-1)] g1 (fun v16 g16 => Q g16))))))))))))))))))))) : Wp L xs xm_Mo_draws 41 [.ref 400, .int x1, .int x2, .retAddr 0, .retAddr 0, .retAddr 0] [.int s0, .int s1] f (QV Q) := by
  refine w_iadd (pc' := 42) rfl rfl ?_
  refine w_aload_n (pc' := 43) rfl rfl rfl ?_
  refine w_getI (pc' := 46) rfl rfl rfl rfl rfl (show xS0 L 400 = (12, 0) from rfl) ?_
  obtain ⟨q1, h⟩ := h
  refine w_irem (pc' := 47) rfl rfl q1 ?_
  refine w_istore_n (pc' := 48) rfl rfl (xl' := [.ref 400, .int x1, .int x2, .int (jrem (s1 + s0) (f 400 13)), .retAddr 0, .retAddr 0]) rfl ?_
  refine w_iconst (pc' := 49) rfl rfl (v := 1) rfl ?_
  refine w_aload_n (pc' := 50) rfl rfl rfl ?_
  refine w_bipush (pc' := 52) rfl rfl (v := 12) rfl ?_
  refine w_cv (pc' := 55) (cm := xm_Mo_below) (as := [.int 12]) (a := 400) (rest := [.int 1]) rfl rfl rfl  (xa_Mo_below (Nat.le_of_ble_eq_true rfl)) (show xS0 L 400 = (12, 0) from rfl) rfl (CI.k h fun v1 g1 h => ?_)
  show Wp L xs xm_Mo_draws 55 [.ref 400, .int x1, .int x2, .int (jrem (s1 + s0) (f 400 13)), .retAddr 0, .retAddr 0] [.int v1, .int 1] g1 _
  refine w_iadd (pc' := 56) rfl rfl ?_
  refine w_istore (pc' := 58) rfl rfl (xl' := [.ref 400, .int x1, .int x2, .int (jrem (s1 + s0) (f 400 13)), .int (1 + v1), .retAddr 0]) rfl ?_
  refine w_iload_n (pc' := 59) rfl rfl rfl ?_
  by_cases hs0 : x1 = 0
  · replace h := h.1 hs0
    refine w_ts (o := 49) (t := 108) rfl (by rw [hs0]; decide) (by rw [hs0]; rfl) rfl ?_
    refine w_aload_n (pc' := 109) rfl rfl rfl ?_
    refine w_iconst (pc' := 110) rfl rfl (v := 0) rfl ?_
    refine w_iload_n (pc' := 111) rfl rfl rfl ?_
    refine w_iload (pc' := 113) rfl rfl rfl ?_
    refine w_aload_n (pc' := 114) rfl rfl rfl ?_
    refine w_bipush (pc' := 116) rfl rfl (v := 10) rfl ?_
    refine w_cv (pc' := 119) (cm := xm_Mo_below) (as := [.int 10]) (a := 400) (rest := [.int (1 + v1), .int x2, .int 0, .ref 400]) rfl rfl rfl  (xa_Mo_below (Nat.le_of_ble_eq_true rfl)) (show xS0 L 400 = (12, 0) from rfl) rfl (CI.k h fun v2 g2 h => ?_)
    show Wp L xs xm_Mo_draws 119 [.ref 400, .int x1, .int x2, .int (jrem (s1 + s0) (f 400 13)), .int (1 + v1), .retAddr 0] [.int v2, .int (1 + v1), .int x2, .int 0, .ref 400] g2 _
    refine w_cv (pc' := 122) (cm := xm_Mo_does) (as := [.int 0, .int x2, .int (1 + v1), .int v2]) (a := 400) (rest := []) rfl rfl rfl  (xa_Mo_does (Nat.le_of_ble_eq_true rfl)) (show xS0 L 400 = (12, 0) from rfl) rfl (CI.k h fun v3 g3 h => ?_)
    show Wp L xs xm_Mo_draws 122 [.ref 400, .int x1, .int x2, .int (jrem (s1 + s0) (f 400 13)), .int (1 + v1), .retAddr 0] [.int v3] g3 _
    refine w_popI (pc' := 123) rfl rfl ?_
    refine w_goto (pc' := 226) rfl rfl ?_
    exact w_return rfl rfl h
  replace h := h.2 hs0
  by_cases hs1 : x1 = 1
  · replace h := h.1 hs1
    refine w_ts (o := 49) (t := 108) rfl (by rw [hs1]; decide) (by rw [hs1]; rfl) rfl ?_
    refine w_aload_n (pc' := 109) rfl rfl rfl ?_
    refine w_iconst (pc' := 110) rfl rfl (v := 0) rfl ?_
    refine w_iload_n (pc' := 111) rfl rfl rfl ?_
    refine w_iload (pc' := 113) rfl rfl rfl ?_
    refine w_aload_n (pc' := 114) rfl rfl rfl ?_
    refine w_bipush (pc' := 116) rfl rfl (v := 10) rfl ?_
    refine w_cv (pc' := 119) (cm := xm_Mo_below) (as := [.int 10]) (a := 400) (rest := [.int (1 + v1), .int x2, .int 0, .ref 400]) rfl rfl rfl  (xa_Mo_below (Nat.le_of_ble_eq_true rfl)) (show xS0 L 400 = (12, 0) from rfl) rfl (CI.k h fun v4 g4 h => ?_)
    show Wp L xs xm_Mo_draws 119 [.ref 400, .int x1, .int x2, .int (jrem (s1 + s0) (f 400 13)), .int (1 + v1), .retAddr 0] [.int v4, .int (1 + v1), .int x2, .int 0, .ref 400] g4 _
    refine w_cv (pc' := 122) (cm := xm_Mo_does) (as := [.int 0, .int x2, .int (1 + v1), .int v4]) (a := 400) (rest := []) rfl rfl rfl  (xa_Mo_does (Nat.le_of_ble_eq_true rfl)) (show xS0 L 400 = (12, 0) from rfl) rfl (CI.k h fun v5 g5 h => ?_)
    show Wp L xs xm_Mo_draws 122 [.ref 400, .int x1, .int x2, .int (jrem (s1 + s0) (f 400 13)), .int (1 + v1), .retAddr 0] [.int v5] g5 _
    refine w_popI (pc' := 123) rfl rfl ?_
    refine w_goto (pc' := 226) rfl rfl ?_
    exact w_return rfl rfl h
  replace h := h.2 hs1
  by_cases hs2 : x1 = 2
  · replace h := h.1 hs2
    refine w_ts (o := 67) (t := 126) rfl (by rw [hs2]; decide) (by rw [hs2]; rfl) rfl ?_
    refine w_aload_n (pc' := 127) rfl rfl rfl ?_
    refine w_iconst (pc' := 128) rfl rfl (v := 1) rfl ?_
    refine w_iload_n (pc' := 129) rfl rfl rfl ?_
    refine w_iload_n (pc' := 130) rfl rfl rfl ?_
    refine w_iload (pc' := 132) rfl rfl rfl ?_
    refine w_cv (pc' := 135) (cm := xm_Mo_does) (as := [.int 1, .int x2, .int (jrem (s1 + s0) (f 400 13)), .int (1 + v1)]) (a := 400) (rest := []) rfl rfl rfl  (xa_Mo_does (Nat.le_of_ble_eq_true rfl)) (show xS0 L 400 = (12, 0) from rfl) rfl (CI.k h fun v6 g6 h => ?_)
    show Wp L xs xm_Mo_draws 135 [.ref 400, .int x1, .int x2, .int (jrem (s1 + s0) (f 400 13)), .int (1 + v1), .retAddr 0] [.int v6] g6 _
    refine w_popI (pc' := 136) rfl rfl ?_
    refine w_goto (pc' := 226) rfl rfl ?_
    exact w_return rfl rfl h
  replace h := h.2 hs2
  by_cases hs3 : x1 = 3
  · replace h := h.1 hs3
    refine w_ts (o := 67) (t := 126) rfl (by rw [hs3]; decide) (by rw [hs3]; rfl) rfl ?_
    refine w_aload_n (pc' := 127) rfl rfl rfl ?_
    refine w_iconst (pc' := 128) rfl rfl (v := 1) rfl ?_
    refine w_iload_n (pc' := 129) rfl rfl rfl ?_
    refine w_iload_n (pc' := 130) rfl rfl rfl ?_
    refine w_iload (pc' := 132) rfl rfl rfl ?_
    refine w_cv (pc' := 135) (cm := xm_Mo_does) (as := [.int 1, .int x2, .int (jrem (s1 + s0) (f 400 13)), .int (1 + v1)]) (a := 400) (rest := []) rfl rfl rfl  (xa_Mo_does (Nat.le_of_ble_eq_true rfl)) (show xS0 L 400 = (12, 0) from rfl) rfl (CI.k h fun v7 g7 h => ?_)
    show Wp L xs xm_Mo_draws 135 [.ref 400, .int x1, .int x2, .int (jrem (s1 + s0) (f 400 13)), .int (1 + v1), .retAddr 0] [.int v7] g7 _
    refine w_popI (pc' := 136) rfl rfl ?_
    refine w_goto (pc' := 226) rfl rfl ?_
    exact w_return rfl rfl h
  replace h := h.2 hs3
  by_cases hs4 : x1 = 4
  · replace h := h.1 hs4
    refine w_ts (o := 80) (t := 139) rfl (by rw [hs4]; decide) (by rw [hs4]; rfl) rfl ?_
    refine w_aload_n (pc' := 140) rfl rfl rfl ?_
    refine w_iconst (pc' := 141) rfl rfl (v := 2) rfl ?_
    refine w_iload_n (pc' := 142) rfl rfl rfl ?_
    refine w_iload_n (pc' := 143) rfl rfl rfl ?_
    refine w_iload (pc' := 145) rfl rfl rfl ?_
    refine w_cv (pc' := 148) (cm := xm_Mo_does) (as := [.int 2, .int x2, .int (jrem (s1 + s0) (f 400 13)), .int (1 + v1)]) (a := 400) (rest := []) rfl rfl rfl  (xa_Mo_does (Nat.le_of_ble_eq_true rfl)) (show xS0 L 400 = (12, 0) from rfl) rfl (CI.k h fun v8 g8 h => ?_)
    show Wp L xs xm_Mo_draws 148 [.ref 400, .int x1, .int x2, .int (jrem (s1 + s0) (f 400 13)), .int (1 + v1), .retAddr 0] [.int v8] g8 _
    refine w_popI (pc' := 149) rfl rfl ?_
    refine w_goto (pc' := 226) rfl rfl ?_
    exact w_return rfl rfl h
  replace h := h.2 hs4
  by_cases hs5 : x1 = 5
  · replace h := h.1 hs5
    refine w_ts (o := 80) (t := 139) rfl (by rw [hs5]; decide) (by rw [hs5]; rfl) rfl ?_
    refine w_aload_n (pc' := 140) rfl rfl rfl ?_
    refine w_iconst (pc' := 141) rfl rfl (v := 2) rfl ?_
    refine w_iload_n (pc' := 142) rfl rfl rfl ?_
    refine w_iload_n (pc' := 143) rfl rfl rfl ?_
    refine w_iload (pc' := 145) rfl rfl rfl ?_
    refine w_cv (pc' := 148) (cm := xm_Mo_does) (as := [.int 2, .int x2, .int (jrem (s1 + s0) (f 400 13)), .int (1 + v1)]) (a := 400) (rest := []) rfl rfl rfl  (xa_Mo_does (Nat.le_of_ble_eq_true rfl)) (show xS0 L 400 = (12, 0) from rfl) rfl (CI.k h fun v9 g9 h => ?_)
    show Wp L xs xm_Mo_draws 148 [.ref 400, .int x1, .int x2, .int (jrem (s1 + s0) (f 400 13)), .int (1 + v1), .retAddr 0] [.int v9] g9 _
    refine w_popI (pc' := 149) rfl rfl ?_
    refine w_goto (pc' := 226) rfl rfl ?_
    exact w_return rfl rfl h
  replace h := h.2 hs5
  by_cases hs6 : x1 = 6
  · replace h := h.1 hs6
    refine w_ts (o := 93) (t := 152) rfl (by rw [hs6]; decide) (by rw [hs6]; rfl) rfl ?_
    refine w_aload_n (pc' := 153) rfl rfl rfl ?_
    refine w_iconst (pc' := 154) rfl rfl (v := 3) rfl ?_
    refine w_iload_n (pc' := 155) rfl rfl rfl ?_
    refine w_iconst (pc' := 156) rfl rfl (v := (-1)) rfl ?_
    refine w_iconst (pc' := 157) rfl rfl (v := (-1)) rfl ?_
    refine w_cv (pc' := 160) (cm := xm_Mo_does) (as := [.int 3, .int x2, .int (-1), .int (-1)]) (a := 400) (rest := []) rfl rfl rfl  (xa_Mo_does (Nat.le_of_ble_eq_true rfl)) (show xS0 L 400 = (12, 0) from rfl) rfl (CI.k h fun v10 g10 h => ?_)
    show Wp L xs xm_Mo_draws 160 [.ref 400, .int x1, .int x2, .int (jrem (s1 + s0) (f 400 13)), .int (1 + v1), .retAddr 0] [.int v10] g10 _
    refine w_popI (pc' := 161) rfl rfl ?_
    refine w_goto (pc' := 226) rfl rfl ?_
    exact w_return rfl rfl h
  replace h := h.2 hs6
  by_cases hs7 : x1 = 7
  · replace h := h.1 hs7
    refine w_ts (o := 105) (t := 164) rfl (by rw [hs7]; decide) (by rw [hs7]; rfl) rfl ?_
    refine w_aload_n (pc' := 165) rfl rfl rfl ?_
    refine w_iconst (pc' := 166) rfl rfl (v := 4) rfl ?_
    refine w_iload_n (pc' := 167) rfl rfl rfl ?_
    refine w_iload_n (pc' := 168) rfl rfl rfl ?_
    refine w_iconst (pc' := 169) rfl rfl (v := (-1)) rfl ?_
    refine w_cv (pc' := 172) (cm := xm_Mo_does) (as := [.int 4, .int x2, .int (jrem (s1 + s0) (f 400 13)), .int (-1)]) (a := 400) (rest := []) rfl rfl rfl  (xa_Mo_does (Nat.le_of_ble_eq_true rfl)) (show xS0 L 400 = (12, 0) from rfl) rfl (CI.k h fun v11 g11 h => ?_)
    show Wp L xs xm_Mo_draws 172 [.ref 400, .int x1, .int x2, .int (jrem (s1 + s0) (f 400 13)), .int (1 + v1), .retAddr 0] [.int v11] g11 _
    refine w_popI (pc' := 173) rfl rfl ?_
    refine w_goto (pc' := 226) rfl rfl ?_
    exact w_return rfl rfl h
  replace h := h.2 hs7
  by_cases hs8 : x1 = 8
  · replace h := h.1 hs8
    refine w_ts (o := 117) (t := 176) rfl (by rw [hs8]; decide) (by rw [hs8]; rfl) rfl ?_
    refine w_aload_n (pc' := 177) rfl rfl rfl ?_
    refine w_iconst (pc' := 178) rfl rfl (v := 4) rfl ?_
    refine w_cv (pc' := 181) (cm := xm_Mo_below) (as := [.int 4]) (a := 400) (rest := []) rfl rfl rfl  (xa_Mo_below (Nat.le_of_ble_eq_true rfl)) (show xS0 L 400 = (12, 0) from rfl) rfl (CI.k h fun v12 g12 h => ?_)
    show Wp L xs xm_Mo_draws 181 [.ref 400, .int x1, .int x2, .int (jrem (s1 + s0) (f 400 13)), .int (1 + v1), .retAddr 0] [.int v12] g12 _
    refine w_istore (pc' := 183) rfl rfl (xl' := [.ref 400, .int x1, .int x2, .int (jrem (s1 + s0) (f 400 13)), .int (1 + v1), .int v12]) rfl ?_
    refine w_aload_n (pc' := 184) rfl rfl rfl ?_
    refine w_iload (pc' := 186) rfl rfl rfl ?_
    refine w_br (pc' := 189) (t := 193) rfl rfl rfl ic_ne (fun hc => ?_) (fun hc => ?_)
    · replace h := h.2 hc
      refine w_iload (pc' := 195) rfl rfl rfl ?_
      refine w_iconst (pc' := 196) rfl rfl (v := 1) rfl ?_
      refine w_br2 (pc' := 199) (t := 204) rfl rfl rfl ic_ne (fun hc => ?_) (fun hc => ?_)
      · replace h := h.2 hc
        refine w_bipush (pc' := 206) rfl rfl (v := 7) rfl ?_
        refine w_iload_n (pc' := 207) rfl rfl rfl ?_
        refine w_iload_n (pc' := 208) rfl rfl rfl ?_
        refine w_iconst (pc' := 209) rfl rfl (v := (-1)) rfl ?_
        refine w_cv (pc' := 212) (cm := xm_Mo_does) (as := [.int 7, .int x2, .int (jrem (s1 + s0) (f 400 13)), .int (-1)]) (a := 400) (rest := []) rfl rfl rfl  (xa_Mo_does (Nat.le_of_ble_eq_true rfl)) (show xS0 L 400 = (12, 0) from rfl) rfl (CI.k h fun v13 g13 h => ?_)
        show Wp L xs xm_Mo_draws 212 [.ref 400, .int x1, .int x2, .int (jrem (s1 + s0) (f 400 13)), .int (1 + v1), .int v12] [.int v13] g13 _
        refine w_popI (pc' := 213) rfl rfl ?_
        refine w_goto (pc' := 226) rfl rfl ?_
        exact w_return rfl rfl h
      · replace h := h.1 (Classical.not_not.mp hc)
        refine w_bipush (pc' := 201) rfl rfl (v := 6) rfl ?_
        refine w_goto (pc' := 206) rfl rfl ?_
        refine w_iload_n (pc' := 207) rfl rfl rfl ?_
        refine w_iload_n (pc' := 208) rfl rfl rfl ?_
        refine w_iconst (pc' := 209) rfl rfl (v := (-1)) rfl ?_
        refine w_cv (pc' := 212) (cm := xm_Mo_does) (as := [.int 6, .int x2, .int (jrem (s1 + s0) (f 400 13)), .int (-1)]) (a := 400) (rest := []) rfl rfl rfl  (xa_Mo_does (Nat.le_of_ble_eq_true rfl)) (show xS0 L 400 = (12, 0) from rfl) rfl (CI.k h fun v14 g14 h => ?_)
        show Wp L xs xm_Mo_draws 212 [.ref 400, .int x1, .int x2, .int (jrem (s1 + s0) (f 400 13)), .int (1 + v1), .int v12] [.int v14] g14 _
        refine w_popI (pc' := 213) rfl rfl ?_
        refine w_goto (pc' := 226) rfl rfl ?_
        exact w_return rfl rfl h
    · replace h := h.1 (Classical.not_not.mp hc)
      refine w_iconst (pc' := 190) rfl rfl (v := 5) rfl ?_
      refine w_goto (pc' := 206) rfl rfl ?_
      refine w_iload_n (pc' := 207) rfl rfl rfl ?_
      refine w_iload_n (pc' := 208) rfl rfl rfl ?_
      refine w_iconst (pc' := 209) rfl rfl (v := (-1)) rfl ?_
      refine w_cv (pc' := 212) (cm := xm_Mo_does) (as := [.int 5, .int x2, .int (jrem (s1 + s0) (f 400 13)), .int (-1)]) (a := 400) (rest := []) rfl rfl rfl  (xa_Mo_does (Nat.le_of_ble_eq_true rfl)) (show xS0 L 400 = (12, 0) from rfl) rfl (CI.k h fun v15 g15 h => ?_)
      show Wp L xs xm_Mo_draws 212 [.ref 400, .int x1, .int x2, .int (jrem (s1 + s0) (f 400 13)), .int (1 + v1), .int v12] [.int v15] g15 _
      refine w_popI (pc' := 213) rfl rfl ?_
      refine w_goto (pc' := 226) rfl rfl ?_
      exact w_return rfl rfl h
  replace h := h.2 hs8
  refine w_tsd (t := 216) rfl ?_ rfl ?_
  · have z0 : (x1).toInt ≠ 0 := fun e => hs0 (Int32.toInt_inj.mp e); have z1 : (x1).toInt ≠ 1 := fun e => hs1 (Int32.toInt_inj.mp e); have z2 : (x1).toInt ≠ 2 := fun e => hs2 (Int32.toInt_inj.mp e); have z3 : (x1).toInt ≠ 3 := fun e => hs3 (Int32.toInt_inj.mp e); have z4 : (x1).toInt ≠ 4 := fun e => hs4 (Int32.toInt_inj.mp e); have z5 : (x1).toInt ≠ 5 := fun e => hs5 (Int32.toInt_inj.mp e); have z6 : (x1).toInt ≠ 6 := fun e => hs6 (Int32.toInt_inj.mp e); have z7 : (x1).toInt ≠ 7 := fun e => hs7 (Int32.toInt_inj.mp e); have z8 : (x1).toInt ≠ 8 := fun e => hs8 (Int32.toInt_inj.mp e); omega
  refine w_aload_n (pc' := 217) rfl rfl rfl ?_
  refine w_bipush (pc' := 219) rfl rfl (v := 8) rfl ?_
  refine w_iload_n (pc' := 220) rfl rfl rfl ?_
  refine w_iconst (pc' := 221) rfl rfl (v := (-1)) rfl ?_
  refine w_iconst (pc' := 222) rfl rfl (v := (-1)) rfl ?_
  refine w_cv (pc' := 225) (cm := xm_Mo_does) (as := [.int 8, .int x2, .int (-1), .int (-1)]) (a := 400) (rest := []) rfl rfl rfl  (xa_Mo_does (Nat.le_of_ble_eq_true rfl)) (show xS0 L 400 = (12, 0) from rfl) rfl (CI.k h fun v16 g16 h => ?_)
  show Wp L xs xm_Mo_draws 225 [.ref 400, .int x1, .int x2, .int (jrem (s1 + s0) (f 400 13)), .int (1 + v1), .retAddr 0] [.int v16] g16 _
  refine w_popI (pc' := 226) rfl rfl ?_
  exact w_return rfl rfl h
theorem t_Mo_below_0 {L : Nat} {xs : Nat → Int32} {x1 : Int32} {f : Hp} {Q : Int32 → Hp → Prop}  (h : ∀ g1, g1 = xu f 400 60 (((f 400 60) * 1103515245) + 12345) → x1 ≠ 0 ∧ Q (jrem (jushr (g1 400 60) 16) x1) g1) : CI L xs xm_Mo_below [.ref 400, .int x1] f Q := by
  show Wp L xs xm_Mo_below 0 [.ref 400, .int x1] [] f (QI Q)
  refine w_aload_n (pc' := 1) rfl rfl rfl ?_
  refine w_aload_n (pc' := 2) rfl rfl rfl ?_
  refine w_getI (pc' := 5) rfl rfl rfl rfl rfl (show xS0 L 400 = (12, 0) from rfl) ?_
  refine w_ldcw (pc' := 8) rfl rfl (v := 1103515245) rfl ?_
  refine w_imul (pc' := 9) rfl rfl ?_
  refine w_sipush (pc' := 12) rfl rfl (v := 12345) rfl ?_
  refine w_iadd (pc' := 13) rfl rfl ?_
  refine w_putI (pc' := 16) rfl rfl rfl rfl (show xS0 L 400 = (12, 0) from rfl) ?_
  replace h := h _ rfl
  generalize xu f 400 60 (((f 400 60) * 1103515245) + 12345) = g1 at h ⊢
  refine w_aload_n (pc' := 17) rfl rfl rfl ?_
  refine w_getI (pc' := 20) rfl rfl rfl rfl rfl (show xS0 L 400 = (12, 0) from rfl) ?_
  refine w_bipush (pc' := 22) rfl rfl (v := 16) rfl ?_
  refine w_iushr (pc' := 23) rfl rfl ?_
  refine w_iload_n (pc' := 24) rfl rfl rfl ?_
  obtain ⟨q1, h⟩ := h
  refine w_irem (pc' := 25) rfl rfl q1 ?_
  exact w_ireturn rfl rfl h
theorem t_Mo_count_0 {L : Nat} {xs : Nat → Int32} {x1 : Int32} {f : Hp} {Q : Int32 → Hp → Prop}  (h : CI L xs xm_Mo_isIn [.int x1, .int 0, .int 2] f (fun v1 g1 => ((v1 = 0 → Q (-2) g1) ∧ (¬ v1 = 0 → ∃ k1 : Nat, x1 = iN k1 ∧ k1 < 4680 ∧ Q (g1 401 k1) g1)))) : CI L xs xm_Mo_count [.ref 400, .int x1] f Q := by
  show Wp L xs xm_Mo_count 0 [.ref 400, .int x1] [] f (QI Q)
  refine w_iload_n (pc' := 1) rfl rfl rfl ?_
  refine w_iconst (pc' := 2) rfl rfl (v := 0) rfl ?_
  refine w_iconst (pc' := 3) rfl rfl (v := 2) rfl ?_
  refine w_cs (pc' := 6) (cm := xm_Mo_isIn) (as := [.int x1, .int 0, .int 2]) (rest := []) rfl rfl rfl (Or.inl rfl) (xa_Mo_isIn (Nat.le_of_ble_eq_true rfl)) (CI.k h fun v1 g1 h => ?_)
  show Wp L xs xm_Mo_count 6 [.ref 400, .int x1] [.int v1] g1 _
  refine w_br (pc' := 9) (t := 18) rfl rfl rfl ic_eq (fun hc => ?_) (fun hc => ?_)
  · replace h := h.1 hc
    refine w_bipush (pc' := 20) rfl rfl (v := (-2)) rfl ?_
    exact w_ireturn rfl rfl h
  · replace h := h.2 hc
    refine w_aload_n (pc' := 10) rfl rfl rfl ?_
    have q1 : xR0 400 0 = some 401 ∧ xS0 L 401 = (20, 4680) := (kf_12_0 (show xS0 L 400 = (12, 0) from rfl))
    refine w_getR (pc' := 13) rfl rfl rfl rfl (show xS0 L 400 = (12, 0) from rfl) q1.1 ?_
    refine w_iload_n (pc' := 14) rfl rfl rfl ?_
    obtain ⟨k1, ek1, bk1, h⟩ := h
    refine w_iaload (pc' := 15) (i := k1) rfl rfl q1.2 ek1 bk1 (by omega) ?_
    refine w_goto (pc' := 20) rfl rfl ?_
    exact w_ireturn rfl rfl h
theorem t_Mo_image_0 {L : Nat} {xs : Nat → Int32} {x1 : Int32} {f : Hp} {Q : Int32 → Hp → Prop}  (h : CI L xs xm_Mo_isIn [.int x1, .int 0, .int 2] f (fun v1 g1 => ((v1 = 0 → Q 0 g1) ∧ (¬ v1 = 0 → ∃ k1 : Nat, x1 = iN k1 ∧ k1 < 3 ∧ ∀ g2, g2 = xu g1 402 k1 1 → Wp L xs xm_Mo_image 20 [.ref 400, .int x1, .int 0] [] g2 (QI Q))))) : CI L xs xm_Mo_image [.ref 400, .int x1] f Q := by
  show Wp L xs xm_Mo_image 0 [.ref 400, .int x1, .retAddr 0] [] f (QI Q)
  refine w_iload_n (pc' := 1) rfl rfl rfl ?_
  refine w_iconst (pc' := 2) rfl rfl (v := 0) rfl ?_
  refine w_iconst (pc' := 3) rfl rfl (v := 2) rfl ?_
  refine w_cs (pc' := 6) (cm := xm_Mo_isIn) (as := [.int x1, .int 0, .int 2]) (rest := []) rfl rfl rfl (Or.inl rfl) (xa_Mo_isIn (Nat.le_of_ble_eq_true rfl)) (CI.k h fun v1 g1 h => ?_)
  show Wp L xs xm_Mo_image 6 [.ref 400, .int x1, .retAddr 0] [.int v1] g1 _
  refine w_br (pc' := 9) (t := 11) rfl rfl rfl ic_ne (fun hc => ?_) (fun hc => ?_)
  · replace h := h.2 hc
    refine w_aload_n (pc' := 12) rfl rfl rfl ?_
    have q1 : xR0 400 1 = some 402 ∧ xS0 L 402 = (22, 3) := (kf_12_1 (show xS0 L 400 = (12, 0) from rfl))
    refine w_getR (pc' := 15) rfl rfl rfl rfl (show xS0 L 400 = (12, 0) from rfl) q1.1 ?_
    refine w_iload_n (pc' := 16) rfl rfl rfl ?_
    refine w_iconst (pc' := 17) rfl rfl (v := 1) rfl ?_
    obtain ⟨k1, ek1, bk1, h⟩ := h
    refine w_bastore2 (pc' := 18) (i := k1) rfl rfl q1.2 ek1 bk1 (by omega) (by decide) ?_
    replace h := h _ rfl
    generalize xu g1 402 k1 1 = g2 at h ⊢
    refine w_iconst (pc' := 19) rfl rfl (v := 0) rfl ?_
    refine w_istore_n (pc' := 20) rfl rfl (xl' := [.ref 400, .int x1, .int 0]) rfl ?_
    exact h
  · replace h := h.1 (Classical.not_not.mp hc)
    refine w_iconst (pc' := 10) rfl rfl (v := 0) rfl ?_
    exact w_ireturn rfl rfl h
theorem t_Mo_image_20 {L : Nat} {xs : Nat → Int32} {x1 : Int32} {x2 : Int32} {f : Hp} {Q : Int32 → Hp → Prop}  (h : ((x2 < 1170 → ∃ k1 : Nat, x2 = iN k1 ∧ k1 < 4680 ∧ ∃ k2 : Nat, ((1170 * (x1 + 1)) + x2) = iN k2 ∧ k2 < 4680 ∧ ∀ g1, g1 = xu f 401 k2 (f 401 k1) → Wp L xs xm_Mo_image 20 [.ref 400, .int x1, .int (x2 + 1)] [] g1 (QI Q)) ∧ (¬ x2 < 1170 → Q 1 f))) : Wp L xs xm_Mo_image 20 [.ref 400, .int x1, .int x2] [] f (QI Q) := by
  refine w_iload_n (pc' := 21) rfl rfl rfl ?_
  refine w_sipush (pc' := 24) rfl rfl (v := 1170) rfl ?_
  refine w_br2 (pc' := 27) (t := 53) rfl rfl rfl ic_ge (fun hc => ?_) (fun hc => ?_)
  · replace h := h.2 hc
    refine w_iconst (pc' := 54) rfl rfl (v := 1) rfl ?_
    exact w_ireturn rfl rfl h
  · replace h := h.1 (Classical.not_not.mp hc)
    refine w_aload_n (pc' := 28) rfl rfl rfl ?_
    have q1 : xR0 400 0 = some 401 ∧ xS0 L 401 = (20, 4680) := (kf_12_0 (show xS0 L 400 = (12, 0) from rfl))
    refine w_getR (pc' := 31) rfl rfl rfl rfl (show xS0 L 400 = (12, 0) from rfl) q1.1 ?_
    refine w_sipush (pc' := 34) rfl rfl (v := 1170) rfl ?_
    refine w_iload_n (pc' := 35) rfl rfl rfl ?_
    refine w_iconst (pc' := 36) rfl rfl (v := 1) rfl ?_
    refine w_iadd (pc' := 37) rfl rfl ?_
    refine w_imul (pc' := 38) rfl rfl ?_
    refine w_iload_n (pc' := 39) rfl rfl rfl ?_
    refine w_iadd (pc' := 40) rfl rfl ?_
    refine w_aload_n (pc' := 41) rfl rfl rfl ?_
    have q2 : xR0 400 0 = some 401 ∧ xS0 L 401 = (20, 4680) := (kf_12_0 (show xS0 L 400 = (12, 0) from rfl))
    refine w_getR (pc' := 44) rfl rfl rfl rfl (show xS0 L 400 = (12, 0) from rfl) q2.1 ?_
    refine w_iload_n (pc' := 45) rfl rfl rfl ?_
    obtain ⟨k1, ek1, bk1, h⟩ := h
    refine w_iaload (pc' := 46) (i := k1) rfl rfl q2.2 ek1 bk1 (by omega) ?_
    obtain ⟨k2, ek2, bk2, h⟩ := h
    refine w_iastore (pc' := 47) (i := k2) rfl rfl q1.2 ek2 bk2 (by omega) ?_
    replace h := h _ rfl
    generalize xu f 401 k2 (f 401 k1) = g1 at h ⊢
    refine w_iinc (pc' := 50) rfl rfl rfl (v := (x2 + 1)) rfl (xl' := [.ref 400, .int x1, .int (x2 + 1)]) rfl ?_
    refine w_goto (pc' := 20) rfl rfl ?_
    exact h
theorem t_Mo_again_0 {L : Nat} {xs : Nat → Int32} {x1 : Int32} {f : Hp} {Q : Int32 → Hp → Prop}  (h : CI L xs xm_Mo_isIn [.int x1, .int 0, .int 2] f (fun v1 g1 => ((v1 = 0 → Q 0 g1) ∧ (¬ v1 = 0 → ∃ k1 : Nat, x1 = iN k1 ∧ k1 < 3 ∧ (((g1 402 k1) = 0 → Q 0 g1) ∧ (¬ (g1 402 k1) = 0 → Wp L xs xm_Mo_again 22 [.ref 400, .int x1, .int 0] [] g1 (QI Q))))))) : CI L xs xm_Mo_again [.ref 400, .int x1] f Q := by
  show Wp L xs xm_Mo_again 0 [.ref 400, .int x1, .retAddr 0] [] f (QI Q)
  refine w_iload_n (pc' := 1) rfl rfl rfl ?_
  refine w_iconst (pc' := 2) rfl rfl (v := 0) rfl ?_
  refine w_iconst (pc' := 3) rfl rfl (v := 2) rfl ?_
  refine w_cs (pc' := 6) (cm := xm_Mo_isIn) (as := [.int x1, .int 0, .int 2]) (rest := []) rfl rfl rfl (Or.inl rfl) (xa_Mo_isIn (Nat.le_of_ble_eq_true rfl)) (CI.k h fun v1 g1 h => ?_)
  show Wp L xs xm_Mo_again 6 [.ref 400, .int x1, .retAddr 0] [.int v1] g1 _
  refine w_br (pc' := 9) (t := 18) rfl rfl rfl ic_eq (fun hc => ?_) (fun hc => ?_)
  · replace h := h.1 hc
    refine w_iconst (pc' := 19) rfl rfl (v := 0) rfl ?_
    exact w_ireturn rfl rfl h
  · replace h := h.2 hc
    refine w_aload_n (pc' := 10) rfl rfl rfl ?_
    have q1 : xR0 400 1 = some 402 ∧ xS0 L 402 = (22, 3) := (kf_12_1 (show xS0 L 400 = (12, 0) from rfl))
    refine w_getR (pc' := 13) rfl rfl rfl rfl (show xS0 L 400 = (12, 0) from rfl) q1.1 ?_
    refine w_iload_n (pc' := 14) rfl rfl rfl ?_
    obtain ⟨k1, ek1, bk1, h⟩ := h
    refine w_baload (pc' := 15) (i := k1) rfl rfl q1.2 (Or.inr rfl) ek1 bk1 (by omega) ?_
    refine w_br (pc' := 18) (t := 20) rfl rfl rfl ic_ne (fun hc => ?_) (fun hc => ?_)
    · replace h := h.2 hc
      refine w_iconst (pc' := 21) rfl rfl (v := 0) rfl ?_
      refine w_istore_n (pc' := 22) rfl rfl (xl' := [.ref 400, .int x1, .int 0]) rfl ?_
      exact h
    · replace h := h.1 (Classical.not_not.mp hc)
      refine w_iconst (pc' := 19) rfl rfl (v := 0) rfl ?_
      exact w_ireturn rfl rfl h
theorem t_Mo_again_22 {L : Nat} {xs : Nat → Int32} {x1 : Int32} {x2 : Int32} {f : Hp} {Q : Int32 → Hp → Prop}  (h : ((x2 < 1170 → ∃ k1 : Nat, ((1170 * (x1 + 1)) + x2) = iN k1 ∧ k1 < 4680 ∧ ∃ k2 : Nat, x2 = iN k2 ∧ k2 < 4680 ∧ ∀ g1, g1 = xu f 401 k2 (f 401 k1) → Wp L xs xm_Mo_again 22 [.ref 400, .int x1, .int (x2 + 1)] [] g1 (QI Q)) ∧ (¬ x2 < 1170 → Q 1 f))) : Wp L xs xm_Mo_again 22 [.ref 400, .int x1, .int x2] [] f (QI Q) := by
  refine w_iload_n (pc' := 23) rfl rfl rfl ?_
  refine w_sipush (pc' := 26) rfl rfl (v := 1170) rfl ?_
  refine w_br2 (pc' := 29) (t := 55) rfl rfl rfl ic_ge (fun hc => ?_) (fun hc => ?_)
  · replace h := h.2 hc
    refine w_iconst (pc' := 56) rfl rfl (v := 1) rfl ?_
    exact w_ireturn rfl rfl h
  · replace h := h.1 (Classical.not_not.mp hc)
    refine w_aload_n (pc' := 30) rfl rfl rfl ?_
    have q1 : xR0 400 0 = some 401 ∧ xS0 L 401 = (20, 4680) := (kf_12_0 (show xS0 L 400 = (12, 0) from rfl))
    refine w_getR (pc' := 33) rfl rfl rfl rfl (show xS0 L 400 = (12, 0) from rfl) q1.1 ?_
    refine w_iload_n (pc' := 34) rfl rfl rfl ?_
    refine w_aload_n (pc' := 35) rfl rfl rfl ?_
    have q2 : xR0 400 0 = some 401 ∧ xS0 L 401 = (20, 4680) := (kf_12_0 (show xS0 L 400 = (12, 0) from rfl))
    refine w_getR (pc' := 38) rfl rfl rfl rfl (show xS0 L 400 = (12, 0) from rfl) q2.1 ?_
    refine w_sipush (pc' := 41) rfl rfl (v := 1170) rfl ?_
    refine w_iload_n (pc' := 42) rfl rfl rfl ?_
    refine w_iconst (pc' := 43) rfl rfl (v := 1) rfl ?_
    refine w_iadd (pc' := 44) rfl rfl ?_
    refine w_imul (pc' := 45) rfl rfl ?_
    refine w_iload_n (pc' := 46) rfl rfl rfl ?_
    refine w_iadd (pc' := 47) rfl rfl ?_
    obtain ⟨k1, ek1, bk1, h⟩ := h
    refine w_iaload (pc' := 48) (i := k1) rfl rfl q2.2 ek1 bk1 (by omega) ?_
    obtain ⟨k2, ek2, bk2, h⟩ := h
    refine w_iastore (pc' := 49) (i := k2) rfl rfl q1.2 ek2 bk2 (by omega) ?_
    replace h := h _ rfl
    generalize xu f 401 k2 (f 401 k1) = g1 at h ⊢
    refine w_iinc (pc' := 52) rfl rfl rfl (v := (x2 + 1)) rfl (xl' := [.ref 400, .int x1, .int (x2 + 1)]) rfl ?_
    refine w_goto (pc' := 22) rfl rfl ?_
    exact h
