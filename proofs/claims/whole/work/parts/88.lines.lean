/-! the reference's lines of a run and of replies -/
section RUNL
variable {L : Nat} {xs : Nat → Int32} {f g : Hp} {B : Nat → Nat} {n p : Nat} {F : FT} {X : DT} {u u' : Nat → Int32}
theorem shR_1 {D : RD} {a b : Nat} {v w : Int32} (s : shR u D) (fr : ∀ k, ¬ k = 0 → ¬ (1 + 4 * D.1 ≤ k ∧ k ≤ 4 + 4 * D.1) → u' k = u k) (e0 : u' 0 = iN (D.1 + 1)) (e1 : u' (1 + 4 * D.1) = iN a) (e2 : u' (2 + 4 * D.1) = iN b) (e3 : u' (3 + 4 * D.1) = v) (e4 : u' (4 + 4 * D.1) = w) : shR u' (D.1 + 1, (fun k => if k = D.1 then a else D.2.1 k), (fun k => if k = D.1 then b else D.2.2.1 k), (fun k => if k = D.1 then v else D.2.2.2.1 k), fun k => if k = D.1 then w else D.2.2.2.2 k) := by
  refine ⟨e0, fun k hk => ?_⟩
  have hk : k < D.1 + 1 := hk
  show u' (1 + 4 * k) = iN (if k = D.1 then a else D.2.1 k) ∧ u' (2 + 4 * k) = iN (if k = D.1 then b else D.2.2.1 k) ∧ u' (3 + 4 * k) = (if k = D.1 then v else D.2.2.2.1 k) ∧ u' (4 + 4 * k) = (if k = D.1 then w else D.2.2.2.2 k)
  by_cases z : k = D.1
  · rw [if_pos z, if_pos z, if_pos z, if_pos z, z]; exact ⟨e1, e2, e3, e4⟩
  · rw [if_neg z, if_neg z, if_neg z, if_neg z, fr _ (by omega) (by omega), fr _ (by omega) (by omega), fr _ (by omega) (by omega), fr _ (by omega) (by omega)]
    exact s.2 k (by omega)
theorem shP_1 {D : PD} {a b d : Nat} (s : shP u D) (fr : ∀ k, ¬ k = 0 → ¬ (1 + 3 * D.1 ≤ k ∧ k ≤ 3 + 3 * D.1) → u' k = u k) (e0 : u' 0 = iN (D.1 + 1)) (e1 : u' (1 + 3 * D.1) = iN a) (e2 : u' (2 + 3 * D.1) = iN b) (e3 : u' (3 + 3 * D.1) = iN d) : shP u' (D.1 + 1, (fun k => if k = D.1 then a else D.2.1 k), (fun k => if k = D.1 then b else D.2.2.1 k), fun k => if k = D.1 then d else D.2.2.2 k) := by
  refine ⟨e0, fun k hk => ?_⟩
  have hk : k < D.1 + 1 := hk
  show u' (1 + 3 * k) = iN (if k = D.1 then a else D.2.1 k) ∧ u' (2 + 3 * k) = iN (if k = D.1 then b else D.2.2.1 k) ∧ u' (3 + 3 * k) = iN (if k = D.1 then d else D.2.2.2 k)
  by_cases z : k = D.1
  · rw [if_pos z, if_pos z, if_pos z, z]; exact ⟨e1, e2, e3⟩
  · rw [if_neg z, if_neg z, if_neg z, fr _ (by omega) (by omega), fr _ (by omega) (by omega), fr _ (by omega) (by omega)]
    exact s.2 k (by omega)
/-- the last piece of a run's line -/
theorem r_run129 {Q : Hp → Prop} {x1 x2 x3 x4 s0 : Int32} {c : Nat} (hc : c ≤ 40) (e : f 403 0 = iN c) (h1 : ¬ c < 40 → CV L xs xm_Mo_endsLine [.ref 400] f Q) (h2 : c < 40 → ∀ g, FrS f g → g 400 = f 400 → g 403 0 = iN (c + 1) → g 403 (1 + 4 * c) = x2 → g 403 (2 + 4 * c) = x3 → g 403 (3 + 4 * c) = x4 → g 403 (4 + 4 * c) = s0 → (∀ k, ¬ k = 0 → ¬ (1 + 4 * c ≤ k ∧ k ≤ 4 + 4 * c) → g 403 k = f 403 k) → CV L xs xm_Mo_endsLine [.ref 400] g Q) : Wp L xs xm_Mo_runLine 129 [.ref 400, .int x1, .int x2, .int x3, .int x4, .retAddr 0, .retAddr 0] [.int s0] f (QV Q) := by
  refine t_Mo_runLine_129 ?_
  rw [e, show (iN c < 40 ↔ c < 40) from iN_lt (b := 40) (by omega) (by omega)]
  refine ⟨fun y => ⟨1 + 4 * c, by simp only [lit, iN_add, iN_mul], by omega, fun g2 e2 => ⟨2 + 4 * c, by simp only [lit, iN_add, iN_mul]; exact congrArg iN (by omega), by omega, fun g3 e3 => ⟨3 + 4 * c, by simp only [lit, iN_add, iN_mul]; exact congrArg iN (by omega), by omega, fun g4 e4 => ⟨4 + 4 * c, by simp only [lit, iN_add, iN_mul]; exact congrArg iN (by omega), by omega, fun g5 e5 g6 e6 => ?_⟩⟩⟩⟩, h1⟩
  have w5 : g5 403 0 = iN c := by rw [e5, xu_k (by omega), e4, xu_k (by omega), e3, xu_k (by omega), e2, xu_k (by omega)]; exact e
  rw [w5, iN_inc] at e6
  refine h2 y g6 (by rw [e6, e5, e4, e3, e2]; exact (((((FrS.refl f).put).put).put).put).put) (by rw [e6, xu_a (by omega), e5, xu_a (by omega), e4, xu_a (by omega), e3, xu_a (by omega), e2, xu_a (by omega)]) (by rw [e6, xu_eq]) ?_ ?_ ?_ ?_ fun k k0 k1 => ?_
  · rw [e6, xu_k (by omega), e5, xu_k (by omega), e4, xu_k (by omega), e3, xu_k (by omega), e2, xu_eq]
  · rw [e6, xu_k (by omega), e5, xu_k (by omega), e4, xu_k (by omega), e3, xu_eq]
  · rw [e6, xu_k (by omega), e5, xu_k (by omega), e4, xu_eq]
  · rw [e6, xu_k (by omega), e5, xu_eq]
  · rw [e6, xu_k k0, e5, xu_k (by omega), e4, xu_k (by omega), e3, xu_k (by omega), e2, xu_k (by omega)]
theorem kp_run {i : Nat} {W : Nat → Int32} (hi : 7 ≤ i ∧ i < 16) (hc : X.2.2.1.1 < 40) : kp i W X = (X.1, X.2.1, (X.2.2.1.1 + 1, (fun k => if k = X.2.2.1.1 then i - 7 else X.2.2.1.2.1 k), (fun k => if k = X.2.2.1.1 then nb (W 0) else X.2.2.1.2.2.1 k), (fun k => if k = X.2.2.1.1 then W 1 else X.2.2.1.2.2.2.1 k), fun k => if k = X.2.2.1.1 then W 2 else X.2.2.1.2.2.2.2 k), X.2.2.2) := by
  unfold kp
  rw [if_neg (by omega), if_neg (by omega), if_neg (by omega), if_neg (by omega), if_neg (by omega), if_neg (by omega), if_neg (by omega), if_neg (by omega), if_pos hc]
theorem rn_tab : ∀ i, i < 16 → 7 ≤ i → leN i 0 = 0 ∧ moN i 0 = 6 := by decide +kernel
theorem r_ruLine {Q : Hp → Prop} (l : rL B n 1 f p F X) (wx : wfX X) (kT : ∀ g p' F' X', lin B n 1 p F X = (true, p', F', X') → rL B n 1 g p' F' X' → FrV f g → Q g) (kF : ∀ g p' F' X', lin B n 1 p F X = (false, p', F', X') → rF g (1, tS B n p') → g 400 8 = 1 → FrV f g → Q g) : CV L xs xm_Mo_runLine [.ref 400] f Q := by
  obtain ⟨c, tk, rf, h8, lt, sh⟩ := l
  have c6 := c.1
  refine t_Mo_runLine_0 (r_wordIn (lo := 8) (hi := 16) (by omega) (by omega) c tk rf h8 (fun z a b g c1 t1 f1 e8 u => ?_) fun z g f1 e8 u => ?_)
  · rw [e8, tk.2.2.1]
    refine brT rfl ?_
    obtain ⟨i, ei⟩ : ∃ i, wI B (tS B n p) (tE B n p) = i + 1 := ⟨wI B (tS B n p) (tE B n p) - 1, by omega⟩
    rw [ei]
    have hi : 7 ≤ i ∧ i < 16 := by omega
    clear a b
    have shg : Sh 1 g F X := sh.fr (u.2.1 9 (by omega)) (u.1 403 (by omega) (by omega))
    obtain ⟨⟨m, hm, h9, -⟩, ⟨cc, hcc, ecc, ecx⟩, sX⟩ := id shg
    have hcc : cc ≤ 40 := hcc
    have ecc : g 403 0 = iN cc := ecc
    have ecx : F.1 = 0 → cc = X.2.2.1.1 := ecx
    have sX : F.1 = 0 → shR (g 403) X.2.2.1 := sX
    have hf : F.1 = 0 → (fulX i X = true ↔ ¬ cc < cnM 1) := fun F0 => by
      unfold fulX
      rw [if_neg (by omega), if_neg (by omega), if_neg (by omega), beq_iff_eq]
      show X.2.2.1.1 = 40 ↔ ¬ cc < 40
      have := wx.2.2.1
      rw [ecx F0]
      omega
    have tb := rn_tab i hi.2 hi.1
    -- the line's end
    have fin : ∀ (W : Nat → Int32) (h : Hp), Md B n i (nums B n i (arN i) 0 (tE B n p) (fF B n p i F X) (fun _ => -1)) h 0 (arN i) W → (∃ a, a ≤ 6 ∧ W 0 = iN a) → h 403 = g 403 → (∃ m', m' ≤ 7 ∧ h 400 9 = eQ m') → FrV g h → Wp L xs xm_Mo_runLine 129 [.ref 400, .int (iN (tS B n p)), .int (iN (i - 7)), .int (W 0), .int (W 1), .retAddr 0, .retAddr 0] [.int (W 2)] h (QV Q) := fun W h md wa r3 h9' v => by
      obtain ⟨m', hm', h9'⟩ := h9'
      obtain ⟨a, ha, ea⟩ := wa
      refine r_run129 (c := cc) hcc (by rw [r3]; exact ecc) (fun y => ?_) fun y h2 s2 r2 w0 w1 w2 w3 w4 wk => ?_
      · refine r_fin (t := 1) z ei ⟨hi.1, hi.2⟩ rfl md (shg.more (c := cc) rfl ⟨m', hm', h9', fun t0 => by cases t0⟩ (by rw [r3]; exact ecc) hcc fun F0 nf s => absurd ((hf F0).mpr y) nf) (fun g' p' F' X' el l u' => kT g' p' F' X' el l ((u.v.trans v).trans u'.v)) fun g' p' F' X' el f' e' u' => kF g' p' F' X' el f' e' ((u.v.trans v).trans u'.v)
      · refine r_fin (t := 1) z ei ⟨hi.1, hi.2⟩ rfl (md.s s2) (shg.more (c := cc + 1) (X' := kp i W X) rfl ⟨m', hm', by rw [r2]; exact h9', fun t0 => by cases t0⟩ w0 (by show cc + 1 ≤ 40; omega) fun F0 nf s => ?_) (fun g' p' F' X' el l u' => kT g' p' F' X' el l (((u.v.trans v).trans s2.v).trans u'.v)) fun g' p' F' X' el f' e' u' => kF g' p' F' X' el f' e' (((u.v.trans v).trans s2.v).trans u'.v)
        have dc := ecx F0
        subst dc
        rw [kp_run hi y]
        refine ⟨rfl, ?_⟩
        have := shR_1 (u' := h2 403) (a := i - 7) (b := a) (v := W 1) (w := W 2) (sX F0) (fun k k0 k1 => by rw [wk k k0 k1, r3]) w0 w1 (by rw [w2, ea]) w3 w4
        show shR (h2 403) (X.2.2.1.1 + 1, (fun k => if k = X.2.2.1.1 then i - 7 else X.2.2.1.2.1 k), (fun k => if k = X.2.2.1.1 then nb (W 0) else X.2.2.1.2.2.1 k), (fun k => if k = X.2.2.1.1 then W 1 else X.2.2.1.2.2.2.1 k), fun k => if k = X.2.2.1.1 then W 2 else X.2.2.1.2.2.2.2 k)
        rw [ea, nb_iN (by omega)]
        exact this
    have ne : ∀ k : Nat, k < 100 → ¬ i - 7 = k → ¬ iN (i - 7) = iN k := fun k hk h z => h ((iN_inj (by omega) (by omega)).mp z)
    have go : ∀ h, rB h B n → rtk h B n (tE B n p) → rF h (fF B n p i F X) → h 400 8 = 0 → FrU g h → Wp L xs xm_Mo_runLine 41 [.ref 400, .int (iN (tS B n p)), .int (iN (i - 7)), .retAddr 0, .retAddr 0, .retAddr 0, .retAddr 0] [] h (QV Q) := fun h ch th fh h8' uh => by
      have md0 := Md.ini (i := i) (X := X) z tk.1 ch th fh h8' lt
      obtain ⟨r, hr⟩ : ∃ r, arN i = r + 1 := ⟨arN i - 1, by have := (ar_b i (by omega)).1; omega⟩
      generalize hR : nums B n i (arN i) 0 (tE B n p) (fF B n p i F X) (fun _ => -1) = R at md0 fin
      rw [hr] at md0
      refine t_Mo_runLine_41 (r_num (i := i) (lo := 0) (hi := 6) tb.1 tb.2 (by omega) (by omega) (fun y => absurd y.1 (by decide)) md0 fun g1 a a1 a2 md1 u1 => ?_)
      have r1 : g1 403 = g 403 := by rw [u1.1 403 (by omega) (by omega), uh.1 403 (by omega) (by omega)]
      have q1 : g1 400 9 = eQ m := by rw [u1.2.1 9 (by omega), uh.2.1 9 (by omega)]; exact h9
      have v1 : FrV g g1 := uh.v.trans u1.v
      by_cases i7 : i = 7
      · subst i7
        have hr2 : r = 2 := by have : arN 7 = 3 := rfl; omega
        subst hr2
        refine brT rfl (r_num (i := 7) (lo := 1) (hi := 12) rfl rfl (by omega) (by omega) (fun y => absurd y.2 (by decide)) md1 fun g2 b b1 b2 md2 u2 => t_Mo_runLine_92 (brT rfl (r_num (i := 7) (lo := 0) (hi := 9) rfl rfl (by omega) (by omega) (fun y => absurd y.1 (by decide)) md2 fun g3 d d1 d2 md3 u3 => ?_)))
        exact fin _ g3 md3 ⟨a, by omega, rfl⟩ (by rw [u3.1 403 (by omega) (by omega), u2.1 403 (by omega) (by omega), r1]) ⟨m, hm, by rw [u3.2.1 9 (by omega), u2.2.1 9 (by omega)]; exact q1⟩ ((v1.trans u2.v).trans u3.v)
      refine brF (ne 0 (by omega) (by omega)) ?_
      by_cases i8 : i = 8
      · subst i8
        have hr2 : r = 2 := by have : arN 8 = 3 := rfl; omega
        subst hr2
        refine brT rfl (r_oth (i := 8) (W := uV (fun _ => -1) 0 (iN a)) rfl rfl rfl q1 hm md1 fun g2 b hb md2 v2 r2 q2 => t_Mo_runLine_92 (brF (by decide) (brT rfl (r_num (i := 8) (lo := 1) (hi := 12) rfl rfl (by omega) (by omega) (fun y => absurd y.1 (by decide)) md2 fun g3 d d1 d2 md3 u3 => ?_))))
        exact fin _ g3 md3 ⟨a, by omega, rfl⟩ (by rw [u3.1 403 (by omega) (by omega), r2, r1]) ⟨max m (b + 1), by omega, by rw [u3.2.1 9 (by omega)]; exact q2⟩ ((v1.trans v2).trans u3.v)
      refine brF (ne 1 (by omega) (by omega)) ?_
      by_cases i9 : i = 9
      · subst i9
        have hr2 : r = 2 := by have : arN 9 = 3 := rfl; omega
        subst hr2
        refine brT rfl (r_oth (i := 9) (W := uV (fun _ => -1) 0 (iN a)) rfl rfl rfl q1 hm md1 fun g2 b hb md2 v2 r2 q2 => t_Mo_runLine_92 (brF (by decide) (brF (by decide) (brT rfl (r_num (i := 9) (lo := 1) (hi := 12) rfl rfl (by omega) (by omega) (fun y => absurd y.1 (by decide)) md2 fun g3 d d1 d2 md3 u3 => ?_)))))
        exact fin _ g3 md3 ⟨a, by omega, rfl⟩ (by rw [u3.1 403 (by omega) (by omega), r2, r1]) ⟨max m (b + 1), by omega, by rw [u3.2.1 9 (by omega)]; exact q2⟩ ((v1.trans v2).trans u3.v)
      refine brF (ne 2 (by omega) (by omega)) ?_
      have lst : ∀ {x3 s0 : Int32} {h : Hp}, Wp L xs xm_Mo_runLine 129 [.ref 400, .int (iN (tS B n p)), .int (iN (i - 7)), .int x3, .int s0, .retAddr 0, .retAddr 0] [.int (-1)] h (QV Q) → Wp L xs xm_Mo_runLine 92 [.ref 400, .int (iN (tS B n p)), .int (iN (i - 7)), .int x3, .retAddr 0, .retAddr 0, .retAddr 0] [.int s0] h (QV Q) := fun k => t_Mo_runLine_92 (brF (ne 0 (by omega) (by omega)) (brF (ne 1 (by omega) (by omega)) (brF (ne 2 (by omega) (by omega)) k)))
      by_cases i11 : i = 11
      · subst i11
        have hr2 : r = 1 := by have : arN 11 = 2 := rfl; omega
        subst hr2
        refine brT rfl (r_oth (i := 11) (W := uV (fun _ => -1) 0 (iN a)) rfl rfl rfl q1 hm md1 fun g2 b hb md2 v2 r2 q2 => lst ?_)
        exact fin _ g2 md2 ⟨a, by omega, rfl⟩ (by rw [r2, r1]) ⟨max m (b + 1), by omega, q2⟩ (v1.trans v2)
      refine brF (ne 4 (by omega) (by omega)) ?_
      by_cases i12 : i = 12
      · subst i12
        have hr2 : r = 1 := by have : arN 12 = 2 := rfl; omega
        subst hr2
        refine brT rfl (r_oth (i := 12) (W := uV (fun _ => -1) 0 (iN a)) rfl rfl rfl q1 hm md1 fun g2 b hb md2 v2 r2 q2 => lst ?_)
        exact fin _ g2 md2 ⟨a, by omega, rfl⟩ (by rw [r2, r1]) ⟨max m (b + 1), by omega, q2⟩ (v1.trans v2)
      refine brF (ne 5 (by omega) (by omega)) (lst ?_)
      have a1' : arN i = 1 := by
        have q : i = 10 ∨ i = 13 ∨ i = 14 ∨ i = 15 := by omega
        rcases q with q | q | q | q <;> rw [q] <;> rfl
      have hr2 : r = 0 := by omega
      subst hr2
      have md1 : Md B n i R g1 0 (arN i) (uV (fun _ => -1) 0 (iN a)) := by rw [a1']; exact md1
      exact fin _ g1 md1 ⟨a, by omega, rfl⟩ r1 ⟨m, hm, q1⟩ v1
    have e78 : iN (i + 1) - 8 = iN (i - 7) := (iN_sub (a := i + 1) (b := 8) (by omega)).trans (congrArg iN (by omega))
    rw [e78, ecc, show (iN cc < 40 ↔ cc < 40) from iN_lt (b := 40) (by omega) (by omega)]
    refine ⟨fun y => go g c1 t1 (by rw [fF_n (t := 1) hf y]; exact f1) e8 (FrU.refl g), fun y => r_full (t := 1) (c := cc) tk.1 c6 f1 e8 lt hf y fun g1 a1 a2 a3 => go g1 (c1.u a2) (by unfold rtk; rw [a3]; exact t1) a1 (by rw [a3]; exact e8) a2⟩
  · rw [e8]
    have shg : Sh 1 g F X := sh.fr (u.2.1 9 (by omega)) (u.1 403 (by omega) (by omega))
    obtain ⟨-, ⟨cc, hcc, ecc, -⟩, -⟩ := shg
    refine brF (by decide) (t_Mo_runLine_41 (r_numb1 e8 (brF (by decide) (brF (by decide) (brF (by decide) (brF (by decide) (brF (by decide) (t_Mo_runLine_92 (brF (by decide) (brF (by decide) (brF (by decide) (r_run129 (c := cc) hcc ecc (fun y => r_endsL1 e8 (kF g p F X (lin_no fun y => z ⟨y.1, y.2.1, y.2.2⟩) f1 e8 u.v)) fun y h2 s2 r2 _ _ _ _ _ _ => r_endsL1 (by rw [r2]; exact e8) (kF h2 p F X (lin_no fun y => z ⟨y.1, y.2.1, y.2.2⟩) (f1.s s2) (by rw [r2]; exact e8) (u.v.trans s2.v))))))))))))))
/-- the last piece of a line of replies -/
theorem r_rpLine {Q : Hp → Prop} (l : rL B n 2 f p F X) (wx : wfX X) (kT : ∀ g p' F' X', lin B n 2 p F X = (true, p', F', X') → rL B n 2 g p' F' X' → FrV f g → Q g) (kF : ∀ g p' F' X', lin B n 2 p F X = (false, p', F', X') → rF g (1, tS B n p') → g 400 8 = 1 → FrV f g → Q g) : CV L xs xm_Mo_repliesLine [.ref 400] f Q := by
  obtain ⟨c, tk, rf, h8, lt, sh⟩ := l
  have c6 := c.1
  -- laying the reply
  have lay : ∀ (h : Hp) (cc : Nat) (v1 v2 v3 : Int32), cc ≤ 12 → h 403 0 = iN cc → (¬ cc < 12 → CV L xs xm_Mo_endsLine [.ref 400] h Q) → (cc < 12 → ∀ g, FrS h g → g 400 = h 400 → g 403 0 = iN (cc + 1) → g 403 (1 + 3 * cc) = v1 → g 403 (2 + 3 * cc) = v2 → g 403 (3 + 3 * cc) = v3 → (∀ k, ¬ k = 0 → ¬ (1 + 3 * cc ≤ k ∧ k ≤ 3 + 3 * cc) → g 403 k = h 403 k) → CV L xs xm_Mo_endsLine [.ref 400] g Q) → (((h 403 0) < 12 → ∃ k1 : Nat, (1 + (3 * (h 403 0))) = iN k1 ∧ k1 < 161 ∧ ∀ g5, g5 = xu h 403 k1 v1 → ∃ k2 : Nat, ((1 + (3 * (h 403 0))) + 1) = iN k2 ∧ k2 < 161 ∧ ∀ g6, g6 = xu g5 403 k2 v2 → ∃ k3 : Nat, ((1 + (3 * (h 403 0))) + 2) = iN k3 ∧ k3 < 161 ∧ ∀ g7, g7 = xu g6 403 k3 v3 → ∀ g8, g8 = xu g7 403 0 ((g7 403 0) + 1) → CV L xs xm_Mo_endsLine [.ref 400] g8 (fun g9 => Q g9)) ∧ (¬ (h 403 0) < 12 → CV L xs xm_Mo_endsLine [.ref 400] h (fun g4 => Q g4))) := fun h cc v1 v2 v3 hc e h1 h2 => by
    rw [e, show (iN cc < 12 ↔ cc < 12) from iN_lt (b := 12) (by omega) (by omega)]
    refine ⟨fun y => ⟨1 + 3 * cc, by simp only [lit, iN_add, iN_mul], by omega, fun g2 e2 => ⟨2 + 3 * cc, by simp only [lit, iN_add, iN_mul]; exact congrArg iN (by omega), by omega, fun g3 e3 => ⟨3 + 3 * cc, by simp only [lit, iN_add, iN_mul]; exact congrArg iN (by omega), by omega, fun g5 e5 g6 e6 => ?_⟩⟩⟩, h1⟩
    have w5 : g5 403 0 = iN cc := by rw [e5, xu_k (by omega), e3, xu_k (by omega), e2, xu_k (by omega)]; exact e
    rw [w5, iN_inc] at e6
    refine h2 y g6 (by rw [e6, e5, e3, e2]; exact ((((FrS.refl h).put).put).put).put) (by rw [e6, xu_a (by omega), e5, xu_a (by omega), e3, xu_a (by omega), e2, xu_a (by omega)]) (by rw [e6, xu_eq]) ?_ ?_ ?_ fun k k0 k1 => ?_
    · rw [e6, xu_k (by omega), e5, xu_k (by omega), e3, xu_k (by omega), e2, xu_eq]
    · rw [e6, xu_k (by omega), e5, xu_k (by omega), e3, xu_eq]
    · rw [e6, xu_k (by omega), e5, xu_eq]
    · rw [e6, xu_k k0, e5, xu_k (by omega), e3, xu_k (by omega), e2, xu_k (by omega)]
  refine t_Mo_repliesLine_0 (r_wordIn (lo := 17) (hi := 17) (by omega) (by omega) c tk rf h8 (fun z a b g c1 t1 f1 e8 u => ?_) fun z g f1 e8 u => ?_)
  · rw [e8, tk.2.2.1]
    refine brT rfl ?_
    have ei : wI B (tS B n p) (tE B n p) = 16 + 1 := by omega
    clear a b
    have shg : Sh 2 g F X := sh.fr (u.2.1 9 (by omega)) (u.1 403 (by omega) (by omega))
    obtain ⟨⟨m, hm, h9, -⟩, ⟨cc, hcc, ecc, ecx⟩, sX⟩ := id shg
    have hcc : cc ≤ 12 := hcc
    have ecc : g 403 0 = iN cc := ecc
    have ecx : F.1 = 0 → cc = X.2.2.2.1 := ecx
    have sX : F.1 = 0 → shP (g 403) X.2.2.2 := sX
    have hf : F.1 = 0 → (fulX 16 X = true ↔ ¬ cc < cnM 2) := fun F0 => by
      show (X.2.2.2.1 == 12) = true ↔ ¬ cc < 12
      rw [beq_iff_eq]
      have := wx.2.2.2
      rw [ecx F0]
      omega
    have go : ∀ h, rB h B n → rtk h B n (tE B n p) → rF h (fF B n p 16 F X) → h 400 8 = 0 → FrU g h → Wp L xs xm_Mo_repliesLine 38 [.ref 400, .int (iN (tS B n p)), .retAddr 0, .retAddr 0, .retAddr 0, .retAddr 0] [] h (QV Q) := fun h ch th fh h8' uh => by
      refine t_Mo_repliesLine_38 (r_num (i := 16) (r := 2) (lo := 0) (hi := 6) rfl rfl (by omega) (by omega) (fun y => absurd y.1 (by decide)) (Md.ini (i := 16) (X := X) z tk.1 ch th fh h8' lt) fun g1 a a1 a2 md1 u1 => r_num (i := 16) (r := 1) (lo := 0) (hi := 9) rfl rfl (by omega) (by omega) (fun y => absurd y.2 (by decide)) md1 fun g2 b b1 b2 md2 u2 => r_num (i := 16) (r := 0) (lo := 0) (hi := 99) rfl rfl (by omega) (by omega) (fun y => absurd y.1 (by decide)) md2 fun g3 d d1 d2 md3 u3 => ?_)
      have r3 : g3 403 = g 403 := by rw [u3.1 403 (by omega) (by omega), u2.1 403 (by omega) (by omega), u1.1 403 (by omega) (by omega), uh.1 403 (by omega) (by omega)]
      have q3 : g3 400 9 = eQ m := by rw [u3.2.1 9 (by omega), u2.2.1 9 (by omega), u1.2.1 9 (by omega), uh.2.1 9 (by omega)]; exact h9
      have v3 : FrV g g3 := ((uh.v.trans u1.v).trans u2.v).trans u3.v
      refine lay g3 cc _ _ _ hcc (by rw [r3]; exact ecc) (fun y => ?_) fun y h2 s2 r2 w0 w1 w2 w3 wk => ?_
      · refine r_fin (t := 2) z ei ⟨by decide, by decide⟩ rfl md3 (shg.more (c := cc) rfl ⟨m, hm, q3, fun t0 => by cases t0⟩ (by rw [r3]; exact ecc) hcc fun F0 nf s => absurd ((hf F0).mpr y) nf) (fun g' p' F' X' el l u' => kT g' p' F' X' el l ((u.v.trans v3).trans u'.v)) fun g' p' F' X' el f' e' u' => kF g' p' F' X' el f' e' ((u.v.trans v3).trans u'.v)
      · refine r_fin (t := 2) z ei ⟨by decide, by decide⟩ rfl (md3.s s2) (shg.more (c := cc + 1) (X' := kp 16 (uV (uV (uV (fun _ => -1) 0 (iN a)) 1 (iN b)) 2 (iN d)) X) rfl ⟨m, hm, by rw [r2]; exact q3, fun t0 => by cases t0⟩ w0 (by show cc + 1 ≤ 12; omega) fun F0 nf s => ?_) (fun g' p' F' X' el l u' => kT g' p' F' X' el l (((u.v.trans v3).trans s2.v).trans u'.v)) fun g' p' F' X' el f' e' u' => kF g' p' F' X' el f' e' (((u.v.trans v3).trans s2.v).trans u'.v)
        have dc := ecx F0
        subst dc
        have ek : kp 16 (uV (uV (uV (fun _ => -1) 0 (iN a)) 1 (iN b)) 2 (iN d)) X = (X.1, X.2.1, X.2.2.1, (X.2.2.2.1 + 1, (fun k => if k = X.2.2.2.1 then nb (iN a) else X.2.2.2.2.1 k), (fun k => if k = X.2.2.2.1 then nb (iN b) else X.2.2.2.2.2.1 k), fun k => if k = X.2.2.2.1 then nb (iN d) else X.2.2.2.2.2.2 k)) := if_pos y
        rw [ek, nb_iN (by omega), nb_iN (by omega), nb_iN (by omega)]
        refine ⟨rfl, ?_⟩
        exact shP_1 (u' := h2 403) (a := a) (b := b) (d := d) (sX F0) (fun k k0 k1 => by rw [wk k k0 k1, r3]) w0 w1 w2 w3
    rw [ecc, show (iN cc < 12 ↔ cc < 12) from iN_lt (b := 12) (by omega) (by omega)]
    refine ⟨fun y => go g c1 t1 (by rw [fF_n (t := 2) hf y]; exact f1) e8 (FrU.refl g), fun y => r_full (t := 2) (c := cc) tk.1 c6 f1 e8 lt hf y fun g1 a1 a2 a3 => go g1 (c1.u a2) (by unfold rtk; rw [a3]; exact t1) a1 (by rw [a3]; exact e8) a2⟩
  · rw [e8]
    have shg : Sh 2 g F X := sh.fr (u.2.1 9 (by omega)) (u.1 403 (by omega) (by omega))
    obtain ⟨-, ⟨cc, hcc, ecc, -⟩, -⟩ := shg
    have nol := lin_no (X := X) (F := F) (t := 2) (fun y => z ⟨y.1, y.2.1, y.2.2⟩)
    refine brF (by decide) (t_Mo_repliesLine_38 (r_numb1 e8 (r_numb1 e8 (r_numb1 e8 (lay g cc _ _ _ hcc ecc (fun y => r_endsL1 e8 (kF g p F X nol f1 e8 u.v)) fun y h2 s2 r2 _ _ _ _ _ => r_endsL1 (by rw [r2]; exact e8) (kF h2 p F X nol (f1.s s2) (by rw [r2]; exact e8) (u.v.trans s2.v)))))))
end RUNL
