/-! the words of the class: length and letters -/
theorem jc_ok : ∀ c, c < 128 → jchar (iN c &&& 255) = iN c ∧ narrow .char (.int (iN c)) = .int (iN c) := by decide +kernel
theorem xr_char {m : XM} {c : Nat} (h1 : xmRet m = some .char) (hc : c < 128) : xRet m .ireturn [.int (iN c)] = some (some (.int (iN c))) := by
  unfold xRet
  simp only [h1]
  rw [if_pos (jc_ok c hc).2]
section STRINGS
variable {L : Nat} {xs : Nat → Int32} {f : Hp}
theorem js_coder {Q : Int32 → Hp → Prop} {a n : Nat} (ka : xS0 L a = (42, n)) (h : Q 0 f) : CI L xs xm_js_coder [.ref a] f Q := by
  show Wp L xs xm_js_coder 0 [.ref a] [] f (QI Q)
  refine w_gst5 (pc' := 3) rfl rfl rfl ?_
  refine w_br (pc' := 6) (t := 13) rfl rfl rfl ic_eq (fun hc => absurd hc (by decide)) (fun hc => ?_)
  refine w_aload_n (pc' := 7) rfl rfl rfl ?_
  refine w_getT1 (pc' := 10) rfl rfl rfl rfl ka ?_
  refine w_goto (pc' := 14) rfl rfl ?_
  exact w_ireturn rfl rfl h
theorem js_latin {Q : Int32 → Hp → Prop} {a n : Nat} (ka : xS0 L a = (42, n)) (h : Q 1 f) : CI L xs xm_js_isLatin1 [.ref a] f Q := by
  show Wp L xs xm_js_isLatin1 0 [.ref a] [] f (QI Q)
  refine w_gst5 (pc' := 3) rfl rfl rfl ?_
  refine w_br (pc' := 6) (t := 17) rfl rfl rfl ic_eq (fun hc => absurd hc (by decide)) (fun hc => ?_)
  refine w_aload_n (pc' := 7) rfl rfl rfl ?_
  refine w_getT1 (pc' := 10) rfl rfl rfl rfl ka ?_
  refine w_br (pc' := 13) (t := 17) rfl rfl rfl ic_ne (fun hc => absurd rfl hc) (fun hc => ?_)
  refine w_iconst (pc' := 14) rfl rfl (v := 1) rfl ?_
  refine w_goto (pc' := 18) rfl rfl ?_
  exact w_ireturn rfl rfl h
theorem js_len {Q : Int32 → Hp → Prop} {a n n2 : Nat} (ka : xS0 L a = (42, n2)) (kb : xS0 L (a + 20) = (43, n)) (h : Q (iN n) f) : CI L xs xm_js_length [.ref a] f Q := by
  show Wp L xs xm_js_length 0 [.ref a] [] f (QI Q)
  refine w_aload_n (pc' := 1) rfl rfl rfl ?_
  refine w_getT (pc' := 4) rfl rfl rfl rfl ka ?_
  refine w_alen (pc' := 5) rfl rfl kb rfl ?_
  refine w_aload_n (pc' := 6) rfl rfl rfl ?_
  refine w_cv (pc' := 9) (cm := xm_js_coder) (as := []) (a := a) (rest := [.int (iN n)]) rfl rfl rfl (xa_js_coder (Nat.le_of_ble_eq_true rfl)) ka rfl (CI.k (js_coder ka (Q := fun v g => v = 0 ∧ g = f) ⟨rfl, rfl⟩) fun v1 g1 hv => ?_)
  obtain ⟨rfl, rfl⟩ := hv
  refine w_ishr (pc' := 10) rfl rfl ?_
  rw [show iN n >>> ((0 : Int32) &&& 31) = iN n from by simp]
  exact w_ireturn rfl rfl h
theorem jp_check {Q : Int32 → Hp → Prop} {i n : Nat} (hi : i < n) (hn : n < 2147483648) (h : Q (iN i) f) : CI L xs xm_jp_checkIndex [.int (iN i), .int (iN n), .retAddr 1] f Q := by
  show Wp L xs xm_jp_checkIndex 0 [.int (iN i), .int (iN n), .retAddr 1] [] f (QI Q)
  refine w_iload_n (pc' := 1) rfl rfl rfl ?_
  refine w_br (pc' := 4) (t := 9) rfl rfl rfl ic_lt (fun hc => absurd hc (iN_nn (by omega))) (fun hc => ?_)
  refine w_iload_n (pc' := 5) rfl rfl rfl ?_
  refine w_iload_n (pc' := 6) rfl rfl rfl ?_
  refine w_br2 (pc' := 9) (t := 16) rfl rfl rfl ic_lt (fun hc => ?_) (fun hc => absurd ((iN_lt (b := _) (by omega) (by omega)).mpr (by omega)) hc)
  refine w_iload_n (pc' := 17) rfl rfl rfl ?_
  exact w_ireturn rfl rfl h
theorem js_check {Q : Hp → Prop} {i n : Nat} (hi : i < n) (hn : n < 2147483648) (h : Q f) : CV L xs xm_js_checkIndex [.int (iN i), .int (iN n)] f Q := by
  show Wp L xs xm_js_checkIndex 0 [.int (iN i), .int (iN n)] [] f (QV Q)
  refine w_iload_n (pc' := 1) rfl rfl rfl ?_
  refine w_iload_n (pc' := 2) rfl rfl rfl ?_
  refine w_gst6 (pc' := 5) rfl rfl rfl ?_
  refine w_cs (pc' := 8) (cm := xm_jp_checkIndex) (as := [.int (iN i), .int (iN n), .retAddr 1]) (rest := []) rfl rfl rfl (by first | exact Or.inl rfl | exact Or.inr rfl) (xa_jp_checkIndex (Nat.le_of_ble_eq_true rfl)) (CI.k (jp_check hi hn (Q := fun _ g => g = f) rfl) fun v1 g1 hv => ?_)
  subst hv
  refine w_popI (pc' := 9) rfl rfl ?_
  exact w_return rfl rfl h
theorem jl_char {Q : Int32 → Hp → Prop} {b i n c : Nat} (kb : xS0 L b = (43, n)) (ho : 1000000 ≤ b) (hi : i < n) (hn : n < 2147483648) (hv : xoI xs b i = iN c) (hc : c < 128) (h : Q (iN c) f) : CI L xs xm_jl_charAt [.ref b, .int (iN i)] f Q := by
  show Wp L xs xm_jl_charAt 0 [.ref b, .int (iN i)] [] f (QI Q)
  refine w_iload_n (pc' := 1) rfl rfl rfl ?_
  refine w_aload_n (pc' := 2) rfl rfl rfl ?_
  refine w_alen (pc' := 3) rfl rfl kb rfl ?_
  refine w_cs (pc' := 6) (cm := xm_js_checkIndex) (as := [.int (iN i), .int (iN n)]) (rest := []) rfl rfl rfl (by first | exact Or.inl rfl | exact Or.inr rfl) (xa_js_checkIndex (Nat.le_of_ble_eq_true rfl)) (CV.k (js_check hi hn (Q := fun g => g = f) rfl) fun g1 hg => ?_)
  subst hg
  refine w_aload_n (pc' := 7) rfl rfl rfl ?_
  refine w_iload_n (pc' := 8) rfl rfl rfl ?_
  refine w_baload4 (pc' := 9) rfl rfl kb ho rfl hi hn ?_
  refine w_sipush (pc' := 12) rfl rfl (v := 255) rfl ?_
  refine w_iand (pc' := 13) rfl rfl ?_
  refine w_i2c (pc' := 14) rfl rfl ?_
  rw [hv, (jc_ok c hc).1]
  exact w_ireturn rfl (xr_char rfl hc) h
theorem js_char {Q : Int32 → Hp → Prop} {a i n n2 c : Nat} (ka : xS0 L a = (42, n2)) (kb : xS0 L (a + 20) = (43, n)) (ho : 1000000 ≤ a) (hi : i < n) (hn : n < 2147483648) (hx : xoI xs (a + 20) i = iN c) (hc : c < 128) (h : Q (iN c) f) : CI L xs xm_js_charAt [.ref a, .int (iN i)] f Q := by
  show Wp L xs xm_js_charAt 0 [.ref a, .int (iN i)] [] f (QI Q)
  refine w_aload_n (pc' := 1) rfl rfl rfl ?_
  refine w_cv (pc' := 4) (cm := xm_js_isLatin1) (as := []) (a := a) (rest := []) rfl rfl rfl (xa_js_isLatin1 (Nat.le_of_ble_eq_true rfl)) ka rfl (CI.k (js_latin ka (Q := fun v g => v = 1 ∧ g = f) ⟨rfl, rfl⟩) fun v1 g1 hv => ?_)
  obtain ⟨rfl, rfl⟩ := hv
  refine w_br (pc' := 7) (t := 16) rfl rfl rfl ic_eq (fun hc => absurd hc (by decide)) (fun _ => ?_)
  refine w_aload_n (pc' := 8) rfl rfl rfl ?_
  refine w_getT (pc' := 11) rfl rfl rfl rfl ka ?_
  refine w_iload_n (pc' := 12) rfl rfl rfl ?_
  refine w_cs (pc' := 15) (cm := xm_jl_charAt) (as := [.ref (a + 20), .int (iN i)]) (rest := []) rfl rfl rfl (by first | exact Or.inl rfl | exact Or.inr rfl) (xa_jl_charAt (Nat.le_of_ble_eq_true rfl)) (CI.k (jl_char kb (by omega) hi hn hx hc (Q := fun v g => v = iN c ∧ g = g1) ⟨rfl, rfl⟩) fun v2 g2 hv => ?_)
  obtain ⟨rfl, rfl⟩ := hv
  exact w_ireturn rfl (xr_char rfl hc) h
end STRINGS
