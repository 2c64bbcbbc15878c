/-! the reference's line of a council -/
section COUNCIL
variable {L : Nat} {xs : Nat → Int32} {f g : Hp} {B : Nat → Nat} {n p : Nat} {F : FT} {X : DT} {u u' : Nat → Int32} {D : CD}
theorem shC_0 {v : Nat} (s : shC u D) (fr : ∀ k, ¬ k = 0 → u' k = u k) (e : u' 0 = iN v) : shC u' ((v, D.1.2), D.2) := ⟨e, by rw [fr 1 (by omega)]; exact s.2.1, by rw [fr 2 (by omega)]; exact s.2.2.1, by rw [fr 3 (by omega)]; exact s.2.2.2.1, by rw [fr 4 (by omega)]; exact s.2.2.2.2.1, fun i hi => by rw [fr _ (by omega)]; exact s.2.2.2.2.2.1 i hi, fun j hj => by rw [fr _ (by omega), fr _ (by omega)]; exact s.2.2.2.2.2.2.1 j hj, fun a b ha hb => by rw [fr _ (by omega)]; exact s.2.2.2.2.2.2.2 a b ha hb⟩
theorem shC_1 {v : Nat} (s : shC u D) (fr : ∀ k, ¬ k = 1 → u' k = u k) (e : u' 1 = iN v) : shC u' ((dF D, v, D.1.2.2), D.2) := ⟨by rw [fr 0 (by omega)]; exact s.1, e, by rw [fr 2 (by omega)]; exact s.2.2.1, by rw [fr 3 (by omega)]; exact s.2.2.2.1, by rw [fr 4 (by omega)]; exact s.2.2.2.2.1, fun i hi => by rw [fr _ (by omega)]; exact s.2.2.2.2.2.1 i hi, fun j hj => by rw [fr _ (by omega), fr _ (by omega)]; exact s.2.2.2.2.2.2.1 j hj, fun a b ha hb => by rw [fr _ (by omega)]; exact s.2.2.2.2.2.2.2 a b ha hb⟩
theorem shC_2 {v : Nat} (s : shC u D) (fr : ∀ k, ¬ k = 2 → u' k = u k) (e : u' 2 = iN v) : shC u' ((dF D, dW D, v, D.1.2.2.2), D.2) := ⟨by rw [fr 0 (by omega)]; exact s.1, by rw [fr 1 (by omega)]; exact s.2.1, e, by rw [fr 3 (by omega)]; exact s.2.2.2.1, by rw [fr 4 (by omega)]; exact s.2.2.2.2.1, fun i hi => by rw [fr _ (by omega)]; exact s.2.2.2.2.2.1 i hi, fun j hj => by rw [fr _ (by omega), fr _ (by omega)]; exact s.2.2.2.2.2.2.1 j hj, fun a b ha hb => by rw [fr _ (by omega)]; exact s.2.2.2.2.2.2.2 a b ha hb⟩
theorem shC_3 {v : Nat} (s : shC u D) (fr : ∀ k, ¬ k = 3 → u' k = u k) (e : u' 3 = iN v) : shC u' ((dF D, dW D, dS D, v, dN D), D.2) := ⟨by rw [fr 0 (by omega)]; exact s.1, by rw [fr 1 (by omega)]; exact s.2.1, by rw [fr 2 (by omega)]; exact s.2.2.1, e, by rw [fr 4 (by omega)]; exact s.2.2.2.2.1, fun i hi => by rw [fr _ (by omega)]; exact s.2.2.2.2.2.1 i hi, fun j hj => by rw [fr _ (by omega), fr _ (by omega)]; exact s.2.2.2.2.2.2.1 j hj, fun a b ha hb => by rw [fr _ (by omega)]; exact s.2.2.2.2.2.2.2 a b ha hb⟩
theorem shC_4 {v a : Nat} (s : shC u D) (ha : a < 8) (fr : ∀ k, ¬ k = 5 + a → u' k = u k) (e : u' (5 + a) = iN v) : shC u' (D.1, (fun j => if j = a then v else dA D j), D.2.2) := by
  refine ⟨by rw [fr 0 (by omega)]; exact s.1, by rw [fr 1 (by omega)]; exact s.2.1, by rw [fr 2 (by omega)]; exact s.2.2.1, by rw [fr 3 (by omega)]; exact s.2.2.2.1, by rw [fr 4 (by omega)]; exact s.2.2.2.2.1, fun i hi => ?_, fun j hj => by rw [fr _ (by omega), fr _ (by omega)]; exact s.2.2.2.2.2.2.1 j hj, fun a b ha hb => by rw [fr _ (by omega)]; exact s.2.2.2.2.2.2.2 a b ha hb⟩
  show u' (5 + i) = iN (if i = a then v else dA D i)
  by_cases z : i = a
  · rw [if_pos z, z]; exact e
  · rw [if_neg z, fr _ (by omega)]; exact s.2.2.2.2.2.1 i hi
theorem shC_5 {v w : Nat} (s : shC u D) (hn : dN D < 10) (fr : ∀ k, ¬ k = 4 → ¬ k = 13 + 2 * dN D → ¬ k = 14 + 2 * dN D → u' k = u k) (e1 : u' (13 + 2 * dN D) = iN v) (e2 : u' (14 + 2 * dN D) = iN w) (e3 : u' 4 = iN (dN D + 1)) : shC u' ((dF D, dW D, dS D, dL D, dN D + 1), dA D, (fun j => if j = dN D then v else dO D j), (fun j => if j = dN D then w else dP D j), dD D) := by
  refine ⟨by rw [fr 0 (by omega) (by omega) (by omega)]; exact s.1, by rw [fr 1 (by omega) (by omega) (by omega)]; exact s.2.1, by rw [fr 2 (by omega) (by omega) (by omega)]; exact s.2.2.1, by rw [fr 3 (by omega) (by omega) (by omega)]; exact s.2.2.2.1, e3, fun i hi => by rw [fr _ (by omega) (by omega) (by omega)]; exact s.2.2.2.2.2.1 i hi, fun j hj => ?_, fun a b ha hb => by rw [fr _ (by omega) (by omega) (by omega)]; exact s.2.2.2.2.2.2.2 a b ha hb⟩
  have hj : j < dN D + 1 := hj
  show u' (13 + 2 * j) = iN (if j = dN D then v else dO D j) ∧ u' (14 + 2 * j) = iN (if j = dN D then w else dP D j)
  by_cases z : j = dN D
  · rw [if_pos z, if_pos z, z]; exact ⟨e1, e2⟩
  · rw [if_neg z, if_neg z, fr _ (by omega) (by omega) (by omega), fr _ (by omega) (by omega) (by omega)]
    exact s.2.2.2.2.2.2.1 j (by omega)
theorem shC_6 {v a b : Nat} (s : shC u D) (ha : a < 7) (hb : b < 7) (hn : dN D ≤ 10) (fr : ∀ k, ¬ k = 33 + 7 * a + b → ¬ k = 33 + 7 * b + a → u' k = u k) (e1 : u' (33 + 7 * a + b) = iN v) (e2 : u' (33 + 7 * b + a) = iN v) : shC u' (D.1, dA D, dO D, dP D, fun x y => if (x = b ∧ y = a) ∨ (x = a ∧ y = b) then v else dD D x y) := by
  refine ⟨by rw [fr 0 (by omega) (by omega)]; exact s.1, by rw [fr 1 (by omega) (by omega)]; exact s.2.1, by rw [fr 2 (by omega) (by omega)]; exact s.2.2.1, by rw [fr 3 (by omega) (by omega)]; exact s.2.2.2.1, by rw [fr 4 (by omega) (by omega)]; exact s.2.2.2.2.1, fun i hi => by rw [fr _ (by omega) (by omega)]; exact s.2.2.2.2.2.1 i hi, fun j hj => ?_, fun x y hx hy => ?_⟩
  · have hj : j < dN D := hj
    rw [fr _ (by omega) (by omega), fr _ (by omega) (by omega)]; exact s.2.2.2.2.2.2.1 j hj
  · show u' (33 + 7 * x + y) = iN (if (x = b ∧ y = a) ∨ (x = a ∧ y = b) then v else dD D x y)
    by_cases z : (x = b ∧ y = a) ∨ (x = a ∧ y = b)
    · rw [if_pos z]
      rcases z with ⟨rfl, rfl⟩ | ⟨rfl, rfl⟩
      · exact e2
      · exact e1
    · rw [if_neg z, fr _ (by omega) (by omega)]; exact s.2.2.2.2.2.2.2 x y hx hy
theorem kp5_21 {V : Nat → Int32} : (kp 5 V X).2.1 = X.2.1 := by
  unfold kp
  rw [if_neg (by decide), if_neg (by decide), if_neg (by decide), if_neg (by decide), if_neg (by decide), if_pos rfl]
  split <;> rfl
theorem r_coLine {Q : Hp → Prop} (l : rL B n 0 f p F X) (wx : wfX X) (kT : ∀ g p' F' X', lin B n 0 p F X = (true, p', F', X') → rL B n 0 g p' F' X' → FrV f g → Q g) (kF : ∀ g p' F' X', lin B n 0 p F X = (false, p', F', X') → rF g (1, tS B n p') → g 400 8 = 1 → FrV f g → Q g) : CV L xs xm_Mo_councilLine [.ref 400] f Q := by
  obtain ⟨c, tk, rf, h8, lt, sh⟩ := l
  have c6 := c.1
  refine t_Mo_councilLine_0 (r_wordIn (lo := 1) (hi := 7) (by omega) (by omega) c tk rf h8 (fun z a b g c1 t1 f1 e8 u => ?_) fun z g f1 e8 u => ?_)
  · rw [e8, tk.2.2.1]
    refine brT rfl ?_
    obtain ⟨i, ei⟩ : ∃ i, wI B (tS B n p) (tE B n p) = i + 1 := ⟨wI B (tS B n p) (tE B n p) - 1, by omega⟩
    rw [ei]
    have hi : i < 7 := by omega
    clear a b
    have shg : Sh 0 g F X := sh.fr (u.2.1 9 (by omega)) (u.1 403 (by omega) (by omega))
    obtain ⟨⟨m, hm, h9, em⟩, ⟨cc, hcc, ecc, ecx⟩, sX⟩ := id shg
    have hcc : cc ≤ 10 := hcc
    have ecc : g 403 4 = iN cc := ecc
    have ecx : F.1 = 0 → cc = dN X.1 := ecx
    have sX : F.1 = 0 → shC (g 403) X.1 := sX
    have em : F.1 = 0 → m = X.2.1 := em rfl
    have fno : ¬ i = 5 → fF B n p i F X = F := fun h5 => by
      have ff : fulX i X = false := by
        unfold fulX
        rw [if_neg h5, if_neg (show ¬ i = 16 by omega), if_pos hi]
      unfold fF
      rw [ff]
      rfl
    -- the line's end
    have fin : ∀ (W : Nat → Int32) (h : Hp), Md B n i (nums B n i (arN i) 0 (tE B n p) (fF B n p i F X) (fun _ => -1)) h 0 (arN i) W → Sh 0 h (nums B n i (arN i) 0 (tE B n p) (fF B n p i F X) (fun _ => -1)).2.2.1 (if (nums B n i (arN i) 0 (tE B n p) (fF B n p i F X) (fun _ => -1)).2.2.1.1 = 0 then kp i W X else X) → FrV g h → CV L xs xm_Mo_endsLine [.ref 400] h Q := fun W h md s v => r_fin (t := 0) z ei ⟨Nat.zero_le _, hi⟩ rfl md s (fun g' p' F' X' el l u' => kT g' p' F' X' el l ((u.v.trans v).trans u'.v)) fun g' p' F' X' el f' e' u' => kF g' p' F' X' el f' e' ((u.v.trans v).trans u'.v)
    by_cases i0 : i = 0
    · subst i0
      refine t_Mo_councilLine_25 (brT rfl (r_num (i := 0) (r := 0) (lo := 0) (hi := 2) rfl rfl (by omega) (by omega) (fun y => absurd y.1 (by decide)) (Md.ini (i := 0) (X := X) z tk.1 c1 t1 (by rw [fno (by omega)]; exact f1) e8 lt) fun g1 a a1 a2 md1 u1 g2 e2 => ?_))
      have s2 : FrS g1 g2 := by rw [e2]; exact (FrS.refl g1).put
      refine fin _ g2 (md1.s s2) (shg.same (X' := kp 0 (uV (fun _ => -1) 0 (iN a)) X) rfl ⟨m, hm, by rw [e2, xu_a (by omega), u1.2.1 9 (by omega)]; exact h9, fun _ => em⟩ (by rw [e2]; show xu g1 403 0 _ 403 4 = g 403 4; rw [xu_k (by omega), u1.1 403 (by omega) (by omega)]) rfl fun F0 s => ?_) (u1.v.trans s2.v)
      have := shC_0 (u' := g2 403) (v := a) (sX F0) (fun k hk => by rw [e2, xu_k hk, u1.1 403 (by omega) (by omega)]) (by rw [e2, xu_eq])
      show shC (g2 403) ((nb (iN a), X.1.1.2), X.1.2)
      rw [nb_iN (by omega)]; exact this
    by_cases i1 : i = 1
    · subst i1
      refine t_Mo_councilLine_25 (brF (by decide) (brT rfl (r_num (i := 1) (r := 0) (lo := 1) (hi := 9) rfl rfl (by omega) (by omega) (fun y => absurd y.1 (by decide)) (Md.ini (i := 1) (X := X) z tk.1 c1 t1 (by rw [fno (by omega)]; exact f1) e8 lt) fun g1 a a1 a2 md1 u1 g2 e2 => ?_)))
      have s2 : FrS g1 g2 := by rw [e2]; exact (FrS.refl g1).put
      refine fin _ g2 (md1.s s2) (shg.same (X' := kp 1 (uV (fun _ => -1) 0 (iN a)) X) rfl ⟨m, hm, by rw [e2, xu_a (by omega), u1.2.1 9 (by omega)]; exact h9, fun _ => em⟩ (by rw [e2]; show xu g1 403 1 _ 403 4 = g 403 4; rw [xu_k (by omega), u1.1 403 (by omega) (by omega)]) rfl fun F0 s => ?_) (u1.v.trans s2.v)
      have := shC_1 (u' := g2 403) (v := a) (sX F0) (fun k hk => by rw [e2, xu_k hk, u1.1 403 (by omega) (by omega)]) (by rw [e2, xu_eq])
      show shC (g2 403) ((dF X.1, nb (iN a), X.1.1.2.2), X.1.2)
      rw [nb_iN (by omega)]; exact this
    by_cases i2 : i = 2
    · subst i2
      refine t_Mo_councilLine_25 (brF (by decide) (brF (by decide) (brT rfl (r_num (i := 2) (r := 0) (lo := 1) (hi := 4) rfl rfl (by omega) (by omega) (fun y => absurd y.1 (by decide)) (Md.ini (i := 2) (X := X) z tk.1 c1 t1 (by rw [fno (by omega)]; exact f1) e8 lt) fun g1 a a1 a2 md1 u1 g2 e2 => ?_))))
      have s2 : FrS g1 g2 := by rw [e2]; exact (FrS.refl g1).put
      refine fin _ g2 (md1.s s2) (shg.same (X' := kp 2 (uV (fun _ => -1) 0 (iN a)) X) rfl ⟨m, hm, by rw [e2, xu_a (by omega), u1.2.1 9 (by omega)]; exact h9, fun _ => em⟩ (by rw [e2]; show xu g1 403 2 _ 403 4 = g 403 4; rw [xu_k (by omega), u1.1 403 (by omega) (by omega)]) rfl fun F0 s => ?_) (u1.v.trans s2.v)
      have := shC_2 (u' := g2 403) (v := a) (sX F0) (fun k hk => by rw [e2, xu_k hk, u1.1 403 (by omega) (by omega)]) (by rw [e2, xu_eq])
      show shC (g2 403) ((dF X.1, dW X.1, nb (iN a), X.1.1.2.2.2), X.1.2)
      rw [nb_iN (by omega)]; exact this
    by_cases i3 : i = 3
    · subst i3
      refine t_Mo_councilLine_25 (brF (by decide) (brF (by decide) (brF (by decide) (brT rfl (r_mem (i := 3) (r := 0) rfl rfl (fun y => absurd y.1 (by decide)) h9 hm (Md.ini (i := 3) (X := X) z tk.1 c1 t1 (by rw [fno (by omega)]; exact f1) e8 lt) fun g1 a ha md1 v1 r1 e9 g2 e2 => ?_)))))
      have s2 : FrS g1 g2 := by rw [e2]; exact (FrS.refl g1).put
      refine fin _ g2 (md1.s s2) (shg.same (X' := kp 3 (uV (fun _ => -1) 0 (iN a)) X) rfl ⟨max m (a + 1), by omega, by rw [e2, xu_a (by omega)]; exact e9, fun _ F0 => ?_⟩ (by rw [e2]; show xu g1 403 3 _ 403 4 = g 403 4; rw [xu_k (by omega), r1]) rfl fun F0 s => ?_) (v1.trans s2.v)
      · show max m (a + 1) = max X.2.1 (nb (iN a) + 1)
        rw [nb_iN (by omega), em F0]
      have s3 := sX F0
      have := shC_3 (u' := g2 403) (v := dL X.1 ||| (1 <<< a)) (sX F0) (fun k hk => by rw [e2, xu_k hk, r1]) (by rw [e2, xu_eq, s3.2.2.2.1, or1 _ _ (by omega)])
      show shC (g2 403) ((dF X.1, dW X.1, dS X.1, dL X.1 ||| (1 <<< nb (iN a)), dN X.1), X.1.2)
      rw [nb_iN (by omega)]; exact this
    by_cases i4 : i = 4
    · subst i4
      refine t_Mo_councilLine_25 (brF (by decide) (brF (by decide) (brF (by decide) (brF (by decide) (brT rfl (r_num (i := 4) (r := 1) (lo := 0) (hi := 7) rfl rfl (by omega) (by omega) (fun y => absurd y.1 (by decide)) (Md.ini (i := 4) (X := X) z tk.1 c1 t1 (by rw [fno (by omega)]; exact f1) e8 lt) fun g1 a a1 a2 md1 u1 => r_num (i := 4) (r := 0) (lo := 0) (hi := 99) rfl rfl (by omega) (by omega) (fun y => absurd y.2 (by decide)) md1 fun g2 b b1 b2 md2 u2 => ⟨5 + a, iN_add 5 a, by omega, fun g3 e3 => ?_⟩))))))
      have s3 : FrS g2 g3 := by rw [e3]; exact (FrS.refl g2).put
      have r2 : g2 403 = g 403 := by rw [u2.1 403 (by omega) (by omega), u1.1 403 (by omega) (by omega)]
      refine fin _ g3 (md2.s s3) (shg.same (X' := kp 4 (uV (uV (fun _ => -1) 0 (iN a)) 1 (iN b)) X) rfl ⟨m, hm, by rw [e3, xu_a (by omega), u2.2.1 9 (by omega), u1.2.1 9 (by omega)]; exact h9, fun _ => em⟩ (by rw [e3]; show xu g2 403 (5 + a) _ 403 4 = g 403 4; rw [xu_k (by omega), r2]) rfl fun F0 s => ?_) ((u1.v.trans u2.v).trans s3.v)
      have := shC_4 (u' := g3 403) (v := b) (a := a) (sX F0) (by omega) (fun k hk => by rw [e3, xu_k hk, r2]) (by rw [e3, xu_eq])
      show shC (g3 403) (X.1.1, (fun j => if j = nb (iN a) then nb (iN b) else dA X.1 j), X.1.2.2)
      rw [nb_iN (by omega), nb_iN (by omega)]; exact this
    by_cases i5 : i = 5
    · subst i5
      have hf : F.1 = 0 → (fulX 5 X = true ↔ ¬ cc < cnM 0) := fun F0 => by
        show (dN X.1 == 10) = true ↔ ¬ cc < 10
        rw [beq_iff_eq, ecx F0]
        have := wx.1
        omega
      have go : ∀ h, rB h B n → rtk h B n (tE B n p) → rF h (fF B n p 5 F X) → h 400 8 = 0 → FrU g h → Wp L xs xm_Mo_orderTold 17 [.ref 400, .int (iN (tS B n p)), .retAddr 0, .retAddr 0] [] h (QV fun g17 => CV L xs xm_Mo_endsLine [.ref 400] g17 (fun g18 => Q g18)) := fun h ch th fh h8' uh => by
        refine t_Mo_orderTold_17 (r_num (i := 5) (r := 1) (lo := 0) (hi := 7) rfl rfl (by omega) (by omega) (fun y => absurd y.1 (by decide)) (Md.ini (i := 5) (X := X) z tk.1 ch th fh h8' lt) fun g1 a a1 a2 md1 u1 => r_num (i := 5) (r := 0) (lo := 0) (hi := 99) rfl rfl (by omega) (by omega) (fun y => absurd y.2 (by decide)) md1 fun g2 b b1 b2 md2 u2 => ?_)
        have r2 : g2 403 = g 403 := by rw [u2.1 403 (by omega) (by omega), u1.1 403 (by omega) (by omega), uh.1 403 (by omega) (by omega)]
        have q9 : g2 400 9 = eQ m := by rw [u2.2.1 9 (by omega), u1.2.1 9 (by omega), uh.2.1 9 (by omega)]; exact h9
        have v2 : FrV g g2 := (uh.v.trans u1.v).trans u2.v
        have x4 : g2 403 4 = iN cc := by rw [r2]; exact ecc
        have e9' : F.1 = 0 → m = (kp 5 (uV (uV (fun _ => -1) 0 (iN a)) 1 (iN b)) X).2.1 := fun F0 => by rw [em F0, kp5_21]
        rw [x4, show (iN cc < 10 ↔ cc < 10) from iN_lt (b := 10) (by omega) (by omega)]
        refine ⟨fun y => ⟨13 + 2 * cc, by simp only [lit, iN_add, iN_mul], by omega, fun g3 e3 => ?_⟩, fun y => ?_⟩
        · have y4 : g3 403 4 = iN cc := by rw [e3, xu_k (by omega)]; exact x4
          refine ⟨14 + 2 * cc, by rw [y4]; simp only [lit, iN_add, iN_mul], by omega, fun g4 e4 g5 e5 => ?_⟩
          have w4 : g4 403 4 = iN cc := by rw [e4, xu_k (by omega)]; exact y4
          rw [w4, iN_inc] at e5
          have s5 : FrS g2 g5 := by rw [e5, e4, e3]; exact (((FrS.refl g2).put).put).put
          refine fin _ g5 (md2.s s5) (shg.more (c := cc + 1) (X' := kp 5 (uV (uV (fun _ => -1) 0 (iN a)) 1 (iN b)) X) rfl ⟨m, hm, by rw [e5, xu_a (by omega), e4, xu_a (by omega), e3, xu_a (by omega)]; exact q9, fun _ => e9'⟩ (by rw [e5]; exact xu_eq) (by show cc + 1 ≤ 10; omega) fun F0 nf s => ?_) (v2.trans s5.v)
          have dc := ecx F0
          have ek : kp 5 (uV (uV (fun _ => -1) 0 (iN a)) 1 (iN b)) X = (((dF X.1, dW X.1, dS X.1, dL X.1, dN X.1 + 1), dA X.1, (fun j => if j = dN X.1 then nb (iN a) else dO X.1 j), (fun j => if j = dN X.1 then nb (iN b) else dP X.1 j), dD X.1), X.2) := if_pos (show dN X.1 < 10 by omega)
          rw [ek, nb_iN (by omega), nb_iN (by omega)]
          refine ⟨by show cc + 1 = dN X.1 + 1; omega, ?_⟩
          exact shC_5 (u' := g5 403) (v := a) (w := b) (sX F0) (by omega) (fun k k1 k2 k3 => by rw [e5, xu_k k1, e4, xu_k (by omega), e3, xu_k (by omega), r2]) (by rw [e5, xu_k (by omega), e4, xu_k (by omega), e3, dc, xu_eq]) (by rw [e5, xu_k (by omega), e4, dc, xu_eq]) (by rw [e5, xu_eq, dc])
        · refine fin _ g2 md2 (shg.more (c := cc) (X' := kp 5 (uV (uV (fun _ => -1) 0 (iN a)) 1 (iN b)) X) rfl ⟨m, hm, q9, fun _ => e9'⟩ x4 (by show cc ≤ 10; omega) fun F0 nf s => ?_) v2
          exact absurd ((hf F0).mpr y) nf
      refine t_Mo_councilLine_25 (brF (by decide) (brF (by decide) (brF (by decide) (brF (by decide) (brF (by decide) (brT rfl (t_Mo_orderTold_0 ?_)))))))
      rw [ecc, show (iN cc < 10 ↔ cc < 10) from iN_lt (b := 10) (by omega) (by omega)]
      refine ⟨fun y => go g c1 t1 (by rw [fF_n hf y]; exact f1) e8 (FrU.refl g), fun y => r_full (t := 0) (c := cc) tk.1 c6 f1 e8 lt hf y fun g1 a1 a2 a3 => go g1 (c1.u a2) (by unfold rtk; rw [a3]; exact t1) a1 (by rw [a3]; exact e8) a2⟩
    have i6 : i = 6 := by omega
    subst i6
    refine t_Mo_councilLine_25 (brF (by decide) (brF (by decide) (brF (by decide) (brF (by decide) (brF (by decide) (brF (by decide) (brT rfl (t_Mo_delayTold_0 (r_mem (i := 6) (r := 2) rfl rfl (fun y => absurd y.1 (by decide)) h9 hm (Md.ini (i := 6) (X := X) z tk.1 c1 t1 (by rw [fno (by omega)]; exact f1) e8 lt) fun g1 a ha md1 v1 r1 e9 => r_oth (i := 6) (r := 1) (W := uV (fun _ => -1) 0 (iN a)) rfl rfl rfl e9 (by omega) md1 fun g2 b hb md2 v2 r2 q9 => r_num (i := 6) (r := 0) (lo := 1) (hi := 9) rfl rfl (by omega) (by omega) (fun y => absurd y.1 (by decide)) md2 fun g3 d d1 d2 md3 u3 => ⟨33 + 7 * a + b, by simp only [lit, iN_add, iN_mul], by omega, fun g4 e4 => ⟨33 + 7 * b + a, by simp only [lit, iN_add, iN_mul], by omega, fun g5 e5 => ?_⟩⟩)))))))))
    have s5 : FrS g3 g5 := by rw [e5, e4]; exact ((FrS.refl g3).put).put
    have r3 : g3 403 = g 403 := by rw [u3.1 403 (by omega) (by omega), r2, r1]
    refine fin _ g5 (md3.s s5) (shg.same (X' := kp 6 (uV (uV (uV (fun _ => -1) 0 (iN a)) 1 (iN b)) 2 (iN d)) X) rfl ⟨max (max m (a + 1)) (b + 1), by omega, by rw [e5, xu_a (by omega), e4, xu_a (by omega), u3.2.1 9 (by omega)]; exact q9, fun _ F0 => ?_⟩ (by rw [e5]; show xu g4 403 _ _ 403 4 = g 403 4; rw [xu_k (by omega), e4, xu_k (by omega), r3]) rfl fun F0 s => ?_) (((v1.trans v2).trans u3.v).trans s5.v)
    · show max (max m (a + 1)) (b + 1) = max X.2.1 (max (nb (iN a) + 1) (nb (iN b) + 1))
      rw [nb_iN (by omega), nb_iN (by omega), em F0]
      omega
    have := shC_6 (u' := g5 403) (v := d) (a := a) (b := b) (sX F0) (by omega) (by omega) wx.1 (fun k k1 k2 => by rw [e5, xu_k k2, e4, xu_k k1, r3]) (by
      rw [e5]
      by_cases q : 33 + 7 * a + b = 33 + 7 * b + a
      · rw [q, xu_eq]
      · rw [xu_k q, e4, xu_eq]) (by rw [e5, xu_eq])
    show shC (g5 403) (X.1.1, dA X.1, dO X.1, dP X.1, fun x y => if (x = nb (iN b) ∧ y = nb (iN a)) ∨ (x = nb (iN a) ∧ y = nb (iN b)) then nb (iN d) else dD X.1 x y)
    rw [nb_iN (by omega), nb_iN (by omega), nb_iN (by omega)]; exact this
  · rw [e8, tk.2.2.1]
    refine brF (by decide) (t_Mo_councilLine_25 (brF (by decide) (brF (by decide) (brF (by decide) (brF (by decide) (brF (by decide) (brF (by decide) (brF (by decide) (r_endsL1 e8 (kF g p F X (lin_no fun y => z ⟨y.1, y.2.1, y.2.2⟩) f1 e8 u.v))))))))))
end COUNCIL
