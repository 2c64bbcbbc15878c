/-! tree, behind, blind -/
section OPS2
variable {L : Nat} {xs : Nat → Int32} {f g : Hp} {T : TD}
theorem rC.wf_o {j : Nat} (w : wfT T) (h : j < tZ T 0) : 610 + 82 * j ≤ 692 := by
  have := w.2.2.1 0 (by omega)
  omega
theorem r_isC {Q : Int32 → Hp → Prop} {j : Nat} (w : wfT T) (r : rT f 0 T) (hj : j < tZ T 0) (h1 : ∀ g, cur g (610 + 82 * j) (T.2.2.1 j) → rC g (610 + 82 * j) (T.2.2.1 j) → (∀ a, ¬ a = 400 → g a = f a) → Q 1 g) : CI L xs xm_Mo_isCouncil [.ref 400, .int (iN j)] f Q := by
  have z := w.2.2.1 0 (by omega)
  refine r_isCouncil w r (fun j' g hj' e c e2 => ?_) fun q => absurd rfl (q j hj)
  rw [iN_inj (by omega) (by omega)] at e
  subst e
  have := r.2.2.2.2.2.1 j hj
  rw [Nat.zero_add] at this
  exact h1 g c (this.fr (e2 401 (by omega))) e2
theorem r_isC0 {Q : Int32 → Hp → Prop} {x : Int32} (w : wfT T) (r : rT f 0 T) (q : ∀ j, j < tZ T 0 → ¬ x = iN j) (h0 : Q 0 f) : CI L xs xm_Mo_isCouncil [.ref 400, .int x] f Q := r_isCouncil w r (fun j g hj e => absurd e (q j hj)) fun _ => h0
theorem cur.fr {o : Nat} {D : CD} (h : cur f o D) (e : g 400 = f 400) : cur g o D := by unfold cur; rw [e]; exact h
theorem FrR.of {g' : Hp} (h : ∀ a, ¬ a = 400 → g' a = f a) : FrR f g' := fun a ha => h a (by omega)
theorem r_ordAcc {Q : Int32 → Hp → Prop} {o k : Nat} {D : CD} (c : cur f o D) (r : rC f o D) (w : wfC D) (ho : o ≤ 692) (hk : k < dN D) (h : Q (iN (dO D k)) f) : CI L xs xm_Mo_orderAccount [.ref 400, .int (iN k)] f Q := by
  have wn := w.2.2.2.2.1
  refine t_Mo_orderAccount_0 ⟨o + 13 + 2 * k, by rw [c.1]; simp only [lit, iN_add, iN_mul], by omega, ?_⟩
  rw [(r.2.2.2.2.2.2.1 k hk).1]; exact h
theorem r_ordPlus {Q : Int32 → Hp → Prop} {o k : Nat} {D : CD} (c : cur f o D) (r : rC f o D) (w : wfC D) (ho : o ≤ 692) (hk : k < dN D) (h : Q (iN (dP D k)) f) : CI L xs xm_Mo_orderPlus [.ref 400, .int (iN k)] f Q := by
  have wn := w.2.2.2.2.1
  refine t_Mo_orderPlus_0 ⟨o + 14 + 2 * k, by rw [c.1]; simp only [lit, iN_add, iN_mul], by omega, ?_⟩
  rw [(r.2.2.2.2.2.2.1 k hk).2]; exact h
theorem r_delay {Q : Int32 → Hp → Prop} {o a b : Nat} {D : CD} (c : cur f o D) (r : rC f o D) (ho : o ≤ 692) (ha : a < 7) (hb : b < 7) (h : Q (iN (dD D a b)) f) : CI L xs xm_Mo_delayOf [.ref 400, .int (iN a), .int (iN b)] f Q := by
  refine t_Mo_delayOf_0 ⟨o + 33 + 7 * a + b, by rw [c.1]; simp only [lit, iN_add, iN_mul], by omega, ?_⟩
  rw [r.2.2.2.2.2.2.2 a b ha hb]; exact h
theorem r_laysSheet {Q : Hp → Prop} {o : Nat} {D : CD} (c : cur f o D) (r : rC f o D) (ho : o ≤ 692) (k : ∀ g, (∀ i, i < 8 → g 432 i = acc0 D i) → (∀ x, ¬ x = 432 → g x = f x) → Q g) : CV L xs xm_Mo_laysSheet [.ref 400] f Q := by
  refine t_Mo_laysSheet_0 ?_
  refine for0 8 (fun k l g => l = [.ref 400, .int (iN k)] ∧ (∀ i, i < k → g 432 i = acc0 D i) ∧ ∀ x, ¬ x = 432 → g x = f x) ⟨rfl, fun i hi => absurd hi (by omega), fun _ _ => rfl⟩ ?_ ?_
  · rintro i l g hi ⟨rfl, h1, h2⟩ kk
    refine t_Mo_laysSheet_2 (brT ((iN_lt (b := 8) (by omega) (by omega)).mpr (by omega)) ⟨o + 5 + i, by rw [h2 400 (by omega), c.1]; simp only [lit, iN_add, iN_mul], by omega, i, rfl, by omega, fun g1 e1 => ?_⟩)
    rw [iN_inc]
    refine kk _ g1 ⟨rfl, fun j hj => ?_, fun x hx => by rw [e1, xu_a hx, h2 x hx]⟩
    rw [e1, xu_at]
    by_cases e : j = i
    · subst e; rw [if_pos ⟨rfl, rfl⟩, h2 401 (by omega)]; exact r.2.2.2.2.2.1 j hi
    · rw [if_neg (by omega), h1 j (by omega)]
  · rintro l g ⟨rfl, h1, h2⟩
    exact t_Mo_laysSheet_2 (brF (fun z => absurd ((iN_lt (b := 8) (by omega) (by omega)).mp z) (by omega)) (k g h1 h2))
theorem r_runsSheet {Q : Hp → Prop} {o k : Nat} {D : CD} (c : cur f o D) (r : rC f o D) (w : wfC D) (ho : o ≤ 692) (hk : k < dN D) (kk : Q (xuc f 432 (ro1 D k (f 432)))) : CV L xs xm_Mo_runsSheet [.ref 400, .int (iN k)] f Q := by
  have w7 := w.2.2.2.2.2.2.1 k hk
  refine t_Mo_runsSheet_0 (r_ordAcc c r w ho hk (r_ordAcc c r w ho hk ⟨dO D k, rfl, by omega, r_ordPlus c r w ho hk ⟨dO D k, rfl, by omega, fun g1 e1 => ?_⟩⟩))
  have : g1 = xuc f 432 (ro1 D k (f 432)) := by
    rw [e1]
    funext x i
    rw [xu_at, xuc_at]
    unfold ro1
    by_cases hx : x = 432
    · subst hx
      by_cases hi : i = dO D k
      · rw [if_pos ⟨rfl, hi⟩, if_pos rfl, if_pos hi, hi]
      · rw [if_neg (fun z => hi z.2), if_pos rfl, if_neg hi]
    · rw [if_neg (fun z => hx z.1), if_neg hx]
  rw [this]; exact kk
theorem op_tree (i : Inv f) (x y : Int32) : CI L xs xm_TP_tree [.ref 0, .int x, .int y] f (fun v g => CI L xs xm_Mo_tree [.ref 400, .int x, .int y] g (fun w h => w = v ∧ Inv h)) := by
  obtain ⟨⟨T, w, c, r⟩, im⟩ := id i
  have z1 := w.2.2.1 0 (by omega)
  refine t_TP_tree_0 (c_has (s := 0) k_told (by omega) (c.sz (by omega)) z1 (fun j hj e => br1 ?_) fun q => br0 (t_Mo_tree_0 (r_isC0 w r q (br0 ⟨rfl, i⟩))))
  subst e
  have no : (¬ ∃ n, 1 ≤ n ∧ n ≤ 15 ∧ y = iN n) → CI L xs xm_Mo_tree [.ref 400, .int (iN j), .int y] f (fun w h => w = -1 ∧ Inv h) := by
    intro q
    refine t_Mo_tree_0 (r_isC w r hj fun g cu rc e => br1 ?_)
    exact r_isIn (a := 1) (b := 15) (by omega) (by omega) (fun n h1 h2 e => absurd ⟨n, h1, h2, e⟩ q) fun _ => br0 ⟨rfl, i.fr fun a ha => e a (by omega)⟩
  refine ⟨fun p => no ?_, fun p => ⟨fun p2 => ?_, fun p2 => no ?_⟩⟩
  · rintro ⟨n, h1, h2, rfl⟩
    exact absurd ((iN_lt (b := 1) (by omega) (by omega)).mp p) (by omega)
  · have hy : ∃ n, 1 ≤ n ∧ n ≤ 15 ∧ y = iN n := by
      have p0 : ¬ y < 0 := by
        rw [Int32.lt_iff_toInt_lt] at p ⊢
        have e1 : (1 : Int32).toInt = 1 := by decide
        have e0 : (0 : Int32).toInt = 0 := by decide
        rw [e1] at p
        rw [e0]
        omega
      obtain ⟨n, hn, rfl⟩ := iN_ex (n := 16) (by omega) p0 p2
      refine ⟨n, ?_, by omega, rfl⟩
      rcases Nat.lt_or_ge n 1 with q | q
      · exact absurd ((iN_lt (b := 1) (by omega) (by omega)).mpr q) p
      · exact q
    obtain ⟨n, hn1, hn2, rfl⟩ := hy
    have cc : cC f (7 + 21 * j) _ := c.2.2.2.2.2.1 j hj
    refine ⟨j, rfl, by omega, c_build (kf_1_5 (k_coun (by omega))).2 rfl (by omega) (by omega) fun g1 h1 h2 => ⟨n, rfl, by omega, ?_⟩⟩
    rw [h1 n hn1 (by omega)]
    have hg : FrC f g1 := fun a ha => h2 a (by omega)
    refine t_Mo_tree_0 (r_isC w (r.fr (hg 401 (by omega))) hj fun g cu rc e => br1 ?_)
    refine r_isIn (a := 1) (b := 15) (by omega) (by omega) (fun m h3 h4 e3 => br1 ?_) fun q => absurd rfl (q n hn1 hn2)
    rw [iN_inj (by omega) (by omega)] at e3
    subst e3
    rw [cu.1, show iN (610 + 82 * j) + 5 = iN (610 + 82 * j + 5) from iN_add _ 5]
    refine r_lays rfl rfl (by omega) (by omega) fun g3 h5 h6 => ⟨n, rfl, by omega, ?_, ?_⟩
    · rw [h5 n hn1 (by omega)]
      refine nd_congr (fun i hi => ?_) (by omega)
      rw [rc.2.2.2.2.2.1 i hi]
      exact (cc.2.2.2.2.2.1 i hi).symm
    · exact i.q hg fun a ha => by rw [h6 a (by omega), e a (by omega)]
  · rintro ⟨n, h1, h2, rfl⟩
    exact absurd (((iN_lt (b := 16) (by omega) (by omega)).mpr (by omega))) p2
theorem r_behind {j k : Nat} {y : Int32} (w : wfT T) (r : rT f 0 T) (hj : j < tZ T 0) (hk : k ≤ dN (T.2.2.1 j)) : CI L xs xm_Mo_behind [.ref 400, .int (iN j), .int (iN k), .int y] f (fun w h => FrR f h ∧ (y = 0 → w = nd (roN (T.2.2.1 j) k (acc0 (T.2.2.1 j))) 1) ∧ (∀ m, m < 8 → y = iN (10 + m) → w = roN (T.2.2.1 j) k (acc0 (T.2.2.1 j)) m) ∧ (¬ y = 0 → (∀ m, m < 8 → ¬ y = iN (10 + m)) → w = -1)) := by
  have wc := w.2.2.2.1 j hj
  have ho := rC.wf_o w hj
  have wn := wc.2.2.2.2.1
  refine t_Mo_behind_0 (r_isC w r hj fun g cu rc e => br1 ?_)
  generalize T.2.2.1 j = D at *
  rw [cu.2.2.2.2.2.2.2]
  refine r_isIn (a := 0) (by omega) (by omega) (fun m h3 h4 e3 => br1 ?_) fun q => absurd rfl (q k (by omega) hk)
  refine r_laysSheet cu rc ho fun g2 h1 h2 => ?_
  refine for0 k (fun i l h => l = [.ref 400, .int (iN j), .int (iN k), .int y, .int (iN i)] ∧ (∀ i', i' < 8 → h 432 i' = roN D i (acc0 D) i') ∧ ∀ x, ¬ x = 432 → h x = g x) ⟨rfl, h1, h2⟩ ?_ ?_
  · rintro i l h hi ⟨rfl, a1, a2⟩ kk
    refine t_Mo_behind_29 (brT ((iN_lt (b := _) (by omega) (by omega)).mpr (by omega)) (r_runsSheet (cu.fr (a2 400 (by omega))) (rc.fr (a2 401 (by omega))) wc ho (by omega) ?_))
    rw [iN_inc]
    refine kk _ _ ⟨rfl, fun i' hi' => ?_, fun x hx => by rw [xuc_a hx, a2 x hx]⟩
    rw [xuc_eq]
    exact ro1_congr a1 i' hi'
  · rintro l h ⟨rfl, a1, a2⟩
    have fr : FrR f h := fun a ha => by rw [a2 a (by omega), e a (by omega)]
    refine t_Mo_behind_29 (brF (fun z => absurd ((iN_lt (by omega) (by omega)).mp z) (by omega)) ⟨fun p => ?_, fun p => ?_⟩)
    · refine r_rootOf (o := 0) rfl (by omega) (by omega) fun h2 b1 => ⟨fun a ha => by rw [b1 a (by omega), fr a ha], fun _ => ?_, fun m hm e4 => ?_, fun q => absurd p q⟩
      · refine nd_congr (fun i hi => ?_) (by omega)
        rw [Nat.zero_add]; exact a1 i hi
      · rw [p] at e4
        exact absurd ((iN_inj (a := 0) (by omega) (by omega)).mp e4) (by omega)
    · refine r_isIn (a := 10) (b := 17) (by omega) (by omega) (fun m b1 b2 b3 => br1 ?_) fun q => br0 ⟨fr, fun z => absurd z p, fun m hm e4 => absurd e4 (q _ (by omega) (by omega)), fun _ _ => rfl⟩
      subst b3
      refine ⟨m - 10, iN_sub (b := 10) b1, by omega, fr, fun z => absurd z p, fun m' hm' e4 => ?_, fun _ q => absurd (by rw [show 10 + (m - 10) = m by omega]) (q (m - 10) (by omega))⟩
      rw [iN_inj (by omega) (by omega)] at e4
      rw [a1 _ (by omega), show m - 10 = m' by omega]
theorem op_behind (i : Inv f) (x y z : Int32) : CI L xs xm_TP_behind [.ref 0, .int x, .int y, .int z] f (fun v g => CI L xs xm_Mo_behind [.ref 400, .int x, .int y, .int z] g (fun w h => w = v ∧ Inv h)) := by
  obtain ⟨⟨T, w, c, r⟩, im⟩ := id i
  have z1 := w.2.2.1 0 (by omega)
  refine t_TP_behind_0 (c_has (s := 0) k_told (by omega) (c.sz (by omega)) z1 (fun j hj e => br1 ?_) fun q => br0 (t_Mo_behind_0 (r_isC0 w r q (br0 ⟨rfl, i⟩))))
  subst e
  have wc := w.2.2.2.1 j hj
  have wn := wc.2.2.2.2.1
  have cc : cC f (7 + 21 * j) _ := c.2.2.2.2.2.1 j hj
  have no : (¬ ∃ n, n ≤ dN (T.2.2.1 j) ∧ y = iN n) → CI L xs xm_Mo_behind [.ref 400, .int (iN j), .int y, .int z] f (fun w h => w = -1 ∧ Inv h) := by
    intro q
    refine t_Mo_behind_0 (r_isC w r hj fun g cu rc e => br1 ?_)
    rw [cu.2.2.2.2.2.2.2]
    exact r_isIn (a := 0) (by omega) (by omega) (fun n h1 h2 e => absurd ⟨n, h2, e⟩ q) fun _ => br0 ⟨rfl, i.fr fun a ha => e a (by omega)⟩
  refine ⟨j, rfl, by omega, fun p => no ?_, fun p => ⟨fun p2 => no ?_, fun p2 => ?_⟩⟩
  · rintro ⟨n, h1, rfl⟩
    exact iN_nn (by omega) p
  · rintro ⟨n, h1, rfl⟩
    rw [cc.2.2.2.2.1, iN_lt (by omega) (by omega)] at p2
    omega
  · obtain ⟨n, hn, rfl⟩ := iN_ex0 p
    rw [cc.2.2.2.2.1, iN_lt (by omega) (by omega)] at p2
    refine c_runFirst (k_coun (by omega)) rfl (by omega) (by omega) wc cc (by omega) fun g h1 h2 => ?_
    have hg : FrC f g := fun a ha => h2 a (by omega)
    refine ⟨fun q => ?_, fun q => ⟨fun q2 => ?_, fun q2 => ⟨fun q3 => ?_, fun q3 => ?_⟩⟩⟩
    · refine c_rootOf rfl rfl (by omega) (by omega) fun g2 h3 => ?_
      have hg2 : FrC f g2 := fun a ha => by rw [h3 a (by omega), hg a ha]
      refine CI.mono (r_behind w (r.fr (hg2 401 (by omega))) hj (by omega)) fun v h b => ⟨?_, i.q hg2 b.1⟩
      rw [b.2.1 q]
      exact nd_congr (fun i hi => (h1 i hi).symm) (by omega)
    · refine CI.mono (r_behind w (r.fr (hg 401 (by omega))) hj (by omega)) fun v h b => ⟨?_, i.q hg b.1⟩
      refine b.2.2.2 q fun m hm e => ?_
      rw [e] at q2
      exact absurd ((iN_lt (b := 10) (by omega) (by omega)).mp q2) (by omega)
    · have hz : ∃ m, m < 8 ∧ z = iN (10 + m) := by
        have p0 : ¬ z < 0 := by
          rw [Int32.lt_iff_toInt_lt] at q2 ⊢
          have e1 : (10 : Int32).toInt = 10 := by decide
          have e0 : (0 : Int32).toInt = 0 := by decide
          rw [e1] at q2
          rw [e0]
          omega
        obtain ⟨m, hm, rfl⟩ := iN_ex (n := 18) (by omega) p0 q3
        have : ¬ m < 10 := fun q => q2 ((iN_lt (b := 10) (by omega) (by omega)).mpr q)
        exact ⟨m - 10, by omega, by rw [show 10 + (m - 10) = m by omega]⟩
      obtain ⟨m, hm, rfl⟩ := hz
      refine ⟨m, ?_, hm, ?_⟩
      · have := iN_sub (a := 10 + m) (b := 10) (by omega)
        rw [show 10 + m - 10 = m by omega] at this
        exact this
      · refine CI.mono (r_behind w (r.fr (hg 401 (by omega))) hj (by omega)) fun v h b => ⟨?_, i.q hg b.1⟩
        rw [b.2.2.1 m hm rfl, h1 m hm]
    · refine CI.mono (r_behind w (r.fr (hg 401 (by omega))) hj (by omega)) fun v h b => ⟨?_, i.q hg b.1⟩
      refine b.2.2.2 q fun m hm e => ?_
      rw [e] at q3
      exact q3 ((iN_lt (b := 18) (by omega) (by omega)).mpr (by omega))
end OPS2
