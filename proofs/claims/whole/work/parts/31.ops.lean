/-! blind, council, quorum -/
theorem iN_lo {x : Int32} {a : Nat} (ha : a < 2147483648) (h0 : ¬ x < iN a) : ∃ k, a ≤ k ∧ k < 2147483648 ∧ x = iN k := by
  rw [Int32.lt_iff_toInt_lt, iN_toInt ha] at h0
  have := Int32.toInt_lt x
  refine ⟨x.toInt.toNat, by omega, by omega, ?_⟩
  rw [← Int32.toInt_inj, iN_toInt (by omega)]
  omega
theorem iN_bet {x : Int32} {a b : Nat} (ha : a < 2147483648) (hb : b < 2147483648) (h0 : ¬ x < iN a) (h1 : x < iN b) : ∃ k, a ≤ k ∧ k < b ∧ x = iN k := by
  obtain ⟨k, p, q, rfl⟩ := iN_lo ha h0
  exact ⟨k, p, (iN_lt q hb).mp h1, rfl⟩
theorem iN_neg_lt {x : Int32} (h : x < 0) {n : Nat} (hn : n < 2147483648) : x < iN n := by
  rw [Int32.lt_iff_toInt_lt] at h ⊢
  have h' : x.toInt < 0 := h
  rw [iN_toInt hn]
  omega
theorem iN_neg_ne {x : Int32} (h : x < 0) {n : Nat} (hn : n < 2147483648) : ¬ x = iN n := fun e => by
  subst e
  exact iN_nn hn h
theorem idiv_iN {a b : Nat} (ha : a < 2147483648) (hb : b < 2147483648) : iN a / iN b = iN (a / b) := by
  rw [← Int32.toInt_inj, Int32.toInt_div, iN_toInt ha, iN_toInt hb, iN_toInt (Nat.lt_of_le_of_lt (Nat.div_le_self a b) ha)]
  have e1 : (a : Int).tdiv (b : Int) = ((a / b : Nat) : Int) := by
    rw [Int.ofNat_tdiv]
  rw [e1]
  have h1 : a / b < 2147483648 := Nat.lt_of_le_of_lt (Nat.div_le_self a b) ha
  rw [Int.bmod_def]
  generalize a / b = q at *
  omega
/-- the place of the most, of several the least -/
def bst (p : Nat → Int32) : Nat → Nat
  | 0 => 0
  | n + 1 => if p (bst p n) < p (n + 1) then n + 1 else bst p n
theorem bst_s (p : Nat → Int32) (n : Nat) : bst p (n + 1) = if p (bst p n) < p (n + 1) then n + 1 else bst p n := rfl
theorem bst_le (p : Nat → Int32) : ∀ n, bst p n ≤ n
  | 0 => Nat.le_refl 0
  | n + 1 => by
    have := bst_le p n
    rw [bst_s]
    split <;> omega
theorem bst_congr {p q : Nat → Int32} {k : Nat} (h : ∀ i, i < k → p i = q i) : ∀ n, n < k → bst p n = bst q n
  | 0, _ => rfl
  | n + 1, hn => by
    have b := bst_le q n
    rw [bst_s, bst_s, bst_congr h n (by omega), h _ (by omega), h _ hn]
def sumW (F : Nat → Nat) : Nat → Nat
  | 0 => 0
  | n + 1 => sumW F n + F n
theorem sumW_s (F : Nat → Nat) (n : Nat) : sumW F (n + 1) = sumW F n + F n := rfl
theorem sumW_le (F : Nat → Nat) (b : Nat) (h : ∀ k, F k ≤ b) : ∀ n, sumW F n ≤ n * b
  | 0 => by simp [sumW]
  | n + 1 => by
    have := sumW_le F b h n
    have := h n
    rw [sumW_s, Nat.succ_mul]
    omega
section OPS3
variable {L : Nat} {xs : Nat → Int32} {f g : Hp} {T : TD}
abbrev isBl (D : CD) : Nat → Prop := fun k => nd (ro1 D k (acc0 D)) 1 = nd (acc0 D) 1
theorem c_blindOrders {Q : Int32 → Hp → Prop} {c : Nat} {D : CD} (kc : xS0 L c = (1, 0)) (hc : c + 12 ≤ 249) (w : wfC D) (cc : cC f c D) (kk : ∀ g, (∀ x, ¬ x = 250 → ¬ x = 255 → g x = f x) → Q (iN (bN (isBl D) (dN D))) g) : CI L xs xm_TP_blindOrders [.ref 0, .ref c] f Q := by
  have w5 := w.2.2.2.2.1
  refine t_TP_blindOrders_0 kc (c_rootOf rfl (kf_1_5 kc).2 (by omega) (by omega) fun g h => ?_)
  have e0 : nd (f (c + 1)) 1 = nd (acc0 D) 1 := nd_congr (fun i hi => cc.2.2.2.2.2.1 i hi) (by omega)
  rw [e0]
  refine for0 (dN D) (fun k l g => l = [.ref 0, .ref c, .int (nd (acc0 D) 1), .int (iN (bN (isBl D) k)), .int (iN k)] ∧ ∀ x, ¬ x = 250 → ¬ x = 255 → g x = f x) ⟨rfl, fun x p q => h x p⟩ ?_ ?_
  · rintro k l g hk ⟨rfl, a2⟩ k2
    have cg : cC g c D := cc.fr fun a p1 p2 => a2 a (by omega) (by omega)
    refine t_TP_blindOrders_17 kc (brT (by rw [cg.2.2.2.2.1]; exact ((iN_lt (b := _) (by omega) (by omega)).mpr (by omega))) (c_copyAcc (kf_1_5 kc).2 rfl (by omega) (by omega) fun g1 b1 b2 b3 => ?_))
    have cg1 : cC g1 c D := cg.fr fun a p1 p2 => b3 a (by omega)
    refine c_runOrder kc rfl (by omega) w cg1 hk (c_rootOf rfl rfl (by omega) (by omega) fun g3 h3 => ?_)
    rw [xuc_eq]
    have e1 : nd (ro1 D k (g1 255)) 1 = nd (ro1 D k (acc0 D)) 1 := nd_congr (ro1_congr fun i hi => by rw [b1 i hi]; exact cg.2.2.2.2.2.1 i hi) (by omega)
    rw [e1, iN_inc]
    have fr : ∀ x, ¬ x = 250 → ¬ x = 255 → g3 x = f x := fun x p q => by rw [h3 x p, xuc_a q, b3 x q, a2 x p q]
    refine ⟨fun p => k2 _ _ ⟨?_, fr⟩, fun p => k2 _ _ ⟨?_, fr⟩⟩
    · rw [bN_s, if_pos p, or1 _ _ (by omega)]
    · rw [bN_s, if_neg p]
  · rintro l g ⟨rfl, a2⟩
    have cg : cC g c D := cc.fr fun a p1 p2 => a2 a (by omega) (by omega)
    exact t_TP_blindOrders_17 kc (brF (by rw [cg.2.2.2.2.1]; exact fun z => absurd ((iN_lt (by omega) (by omega)).mp z) (by omega)) (kk g a2))
theorem r_blindOf {Q : Int32 → Hp → Prop} {o : Nat} {D : CD} (c : cur f o D) (r : rC f o D) (w : wfC D) (ho : o ≤ 692) (kk : ∀ g, (∀ x, ¬ x = 404 → ¬ x = 432 → g x = f x) → Q (iN (bN (isBl D) (dN D))) g) : CI L xs xm_Mo_blindOf [.ref 400] f Q := by
  have w5 := w.2.2.2.2.1
  refine t_Mo_blindOf_0 ?_
  refine for0 (dN D) (fun k l g => ∃ v : Value, (v.category != 2) = true ∧ l = [.ref 400, .int (iN (bN (isBl D) k)), .int (iN k), v] ∧ ∀ x, ¬ x = 404 → ¬ x = 432 → g x = f x) ⟨_, rfl, rfl, fun x p q => rfl⟩ ?_ ?_
  · rintro k l g hk ⟨v, hv, rfl, a2⟩ k2
    have cu := c.fr (a2 400 (by omega) (by omega))
    have rc := r.fr (a2 401 (by omega) (by omega))
    refine t_Mo_blindOf_4 hv (brT (by rw [cu.2.2.2.2.2.2.2]; exact ((iN_lt (b := _) (by omega) (by omega)).mpr (by omega))) (r_laysSheet cu rc ho fun g1 b1 b2 => r_rootOf (o := 0) rfl (by omega) (by omega) fun g2 b3 => ?_))
    refine r_runsSheet (cu.fr (by rw [b3 400 (by omega), b2 400 (by omega)])) (rc.fr (by rw [b3 401 (by omega), b2 401 (by omega)])) w ho hk (r_rootOf (o := 0) rfl (by omega) (by omega) fun g4 b5 => ?_)
    have e1 : nd (fun i => g1 432 (0 + i)) 1 = nd (acc0 D) 1 := nd_congr (fun i hi => by rw [Nat.zero_add]; exact b1 i hi) (by omega)
    have e2 : nd (fun i => xuc g2 432 (ro1 D k (g2 432)) 432 (0 + i)) 1 = nd (ro1 D k (acc0 D)) 1 := nd_congr (fun i hi => by rw [Nat.zero_add, xuc_eq]; exact ro1_congr (fun i hi => by rw [b3 432 (by omega)]; exact b1 i hi) i hi) (by omega)
    rw [e1, e2, iN_inc, or0]
    have fr : ∀ x, ¬ x = 404 → ¬ x = 432 → g4 x = f x := fun x p q => by rw [b5 x p, xuc_a q, b3 x p, b2 x q, a2 x p q]
    refine ⟨fun p => k2 _ _ ⟨.int (nd (acc0 D) 1), rfl, ?_, fr⟩, fun p => k2 _ _ ⟨.int (nd (acc0 D) 1), rfl, ?_, fr⟩⟩
    · rw [bN_s, if_pos p, or1 _ _ (by omega)]
    · rw [bN_s, if_neg p]
  · rintro l g ⟨v, hv, rfl, a2⟩
    have cu := c.fr (a2 400 (by omega) (by omega))
    exact t_Mo_blindOf_4 hv (brF (by rw [cu.2.2.2.2.2.2.2]; exact fun z => absurd ((iN_lt (by omega) (by omega)).mp z) (by omega)) (kk g a2))
abbrev unl (a b : Nat → Int32) : Nat → Prop := fun k => ¬ nd a (k + 1) = nd b (k + 1)
theorem c_unlikeNodes {Q : Int32 → Hp → Prop} {s a b na nb : Nat} (ks : xS0 L s = (7, 0)) (ka : xS0 L a = (20, na)) (kb : xS0 L b = (20, nb)) (hna : 8 ≤ na) (hnb : 8 ≤ nb) (ha : a < s ∨ s + 2 < a) (hb : b < s ∨ s + 2 < b) (kk : ∀ g, (∀ x, ¬ x = s + 1 → ¬ x = s + 2 → g x = f x) → Q (iN (cntW (unl (f a) (f b)) 15)) g) : CI L xs xm_Su_unlikeNodes [.ref s, .ref a, .ref b] f Q := by
  refine t_Su_unlikeNodes_0 ks ka kb (c_build ka (kf_7_0 ks).2 hna (by omega) fun g1 a1 a2 => c_build kb (kf_7_1 ks).2 hnb (by omega) fun g2 b1 b2 => ?_)
  refine for0 15 (fun k l g => l = [.ref s, .ref a, .ref b, .int (iN (cntW (unl (f a) (f b)) k)), .int (iN (k + 1))] ∧ g = g2) ⟨rfl, rfl⟩ ?_ ?_
  · rintro k l g hk ⟨rfl, rfl⟩ k2
    refine t_Su_unlikeNodes_21 ks ka kb (brT ((iN_lt (b := 16) (by omega) (by omega)).mpr (by omega)) ⟨k + 1, rfl, by omega, ?_⟩)
    have e1 : g (s + 1) (k + 1) = nd (f a) (k + 1) := by rw [b2 _ (by omega)]; exact a1 _ (by omega) (by omega)
    have e2 : g (s + 2) (k + 1) = nd (f b) (k + 1) := by rw [b1 _ (by omega) (by omega), a2 _ (by omega)]
    rw [e1, e2, iN_inc, iN_inc]
    refine ⟨fun p => k2 _ _ ⟨?_, rfl⟩, fun p => k2 _ _ ⟨?_, rfl⟩⟩
    · rw [cntW_s, if_neg (fun z => z p)]
    · rw [cntW_s, if_pos p]
  · rintro l g ⟨rfl, rfl⟩
    exact t_Su_unlikeNodes_21 ks ka kb (brF (by decide) (kk g fun x p q => by rw [b2 x q, a2 x p]))
theorem unl_congr {a b a' b' : Nat → Int32} (h : ∀ i, i < 8 → a i = a' i) (h2 : ∀ i, i < 8 → b i = b' i) : cntW (unl a b) 15 = cntW (unl a' b') 15 := cntW_congr _ fun k hk => by
  show (¬ _ = _) ↔ (¬ _ = _)
  rw [nd_congr h (by omega), nd_congr h2 (by omega)]
theorem r_pathsOf {Q : Int32 → Hp → Prop} {o : Nat} {D : CD} (c : cur f o D) (r : rC f o D) (w : wfC D) (ho : o ≤ 692) (kk : ∀ g, (∀ i, i < 8 → g 432 i = roN D (dN D) (acc0 D) i) → (∀ x, ¬ x = 404 → ¬ x = 405 → ¬ x = 432 → g x = f x) → Q (iN (cntW (unl (acc0 D) (roN D (dN D) (acc0 D))) 15)) g) : CI L xs xm_Mo_pathsOf [.ref 400] f Q := by
  have w5 := w.2.2.2.2.1
  refine t_Mo_pathsOf_0 ?_
  rw [c.1, show iN o + 5 = iN (o + 5) from iN_add _ 5]
  refine r_lays rfl rfl (by omega) (by omega) fun g1 a1 a2 => ?_
  refine r_laysSheet (c.fr (a2 400 (by omega))) (r.fr (a2 401 (by omega))) ho fun g2 b1 b2 => ?_
  refine for0 (dN D) (fun k l g => l = [.ref 400, .int (iN k), .retAddr 0] ∧ (∀ i, i < 8 → g 432 i = roN D k (acc0 D) i) ∧ ∀ x, ¬ x = 432 → g x = g1 x) ⟨rfl, b1, b2⟩ ?_ ?_
  · rintro k l g hk ⟨rfl, d1, d2⟩ k2
    have cu := c.fr (g := g) (by rw [d2 400 (by omega), a2 400 (by omega)])
    have rc := r.fr (g := g) (by rw [d2 401 (by omega), a2 401 (by omega)])
    refine t_Mo_pathsOf_23 (brT (by rw [cu.2.2.2.2.2.2.2]; exact ((iN_lt (b := _) (by omega) (by omega)).mpr (by omega))) (r_runsSheet cu rc w ho hk ?_))
    rw [iN_inc]
    refine k2 _ _ ⟨rfl, fun i hi => ?_, fun x hx => by rw [xuc_a hx, d2 x hx]⟩
    rw [xuc_eq]
    exact ro1_congr d1 i hi
  · rintro l g ⟨rfl, d1, d2⟩
    have cu := c.fr (g := g) (by rw [d2 400 (by omega), a2 400 (by omega)])
    refine t_Mo_pathsOf_23 (brF (by rw [cu.2.2.2.2.2.2.2]; exact fun z => absurd ((iN_lt (by omega) (by omega)).mp z) (by omega)) (r_lays (o := 0) rfl rfl (by omega) (by omega) fun g3 e1 e2 => ?_))
    refine for0 15 (fun k l g => l = [.ref 400, .int (iN (cntW (unl (acc0 D) (roN D (dN D) (acc0 D))) k)), .int (iN (k + 1))] ∧ g = g3) ⟨rfl, rfl⟩ ?_ ?_
    · rintro k l h hk ⟨rfl, rfl⟩ k2
      refine t_Mo_pathsOf_58 (brT ((iN_lt (b := 16) (by omega) (by omega)).mpr (by omega)) ⟨k + 1, rfl, by omega, ?_⟩)
      have q1 : h 404 (k + 1) = nd (roN D (dN D) (acc0 D)) (k + 1) := by
        rw [e1 _ (by omega) (by omega)]
        exact nd_congr (fun i hi => by rw [Nat.zero_add]; exact d1 i hi) (by omega)
      have q2 : h 405 (k + 1) = nd (acc0 D) (k + 1) := by
        rw [e2 _ (by omega), d2 _ (by omega), a1 _ (by omega) (by omega)]
        exact nd_congr (fun i hi => r.2.2.2.2.2.1 i hi) (by omega)
      rw [q1, q2, iN_inc, iN_inc]
      refine ⟨fun p => k2 _ _ ⟨?_, rfl⟩, fun p => k2 _ _ ⟨?_, rfl⟩⟩
      · rw [cntW_s, if_neg (fun z => z p.symm), show (0 : Int32) = iN 0 from rfl, iN_add]; rfl
      · rw [cntW_s, if_pos (fun z => p z.symm)]
    · rintro l h ⟨rfl, rfl⟩
      refine t_Mo_pathsOf_58 (brF (by decide) (kk h (fun i hi => ?_) fun x p1 p2 p3 => by rw [e2 x p1, d2 x p3, a2 x p2]))
      rw [e2 432 (by omega)]; exact d1 i hi
theorem c_richest {Q : Int32 → Hp → Prop} {c : Nat} {D : CD} (kc : xS0 L c = (1, 0)) (hc : c + 12 ≤ 249) (w : wfC D) (cc : cC f c D) (kk : ∀ g, (∀ x, ¬ x = 255 → g x = f x) → Q (iN (bst (roN D (dN D) (acc0 D)) 7)) g) : CI L xs xm_TP_richest [.ref 0, .ref c] f Q := by
  refine t_TP_richest_0 kc ?_
  rw [cc.2.2.2.2.1]
  refine c_runFirst kc rfl (by omega) (by omega) w cc (Nat.le_refl _) fun g h1 h2 => ?_
  refine for0 7 (fun k l h => l = [.ref 0, .ref c, .int (iN (bst (roN D (dN D) (acc0 D)) k)), .int (iN (k + 1))] ∧ h = g) ⟨rfl, rfl⟩ ?_ ?_
  · rintro k l h hk ⟨rfl, rfl⟩ k2
    have b := bst_le (roN D (dN D) (acc0 D)) k
    refine t_TP_richest_16 kc (brT ((iN_lt (b := 8) (by omega) (by omega)).mpr (by omega)) ⟨k + 1, rfl, by omega, _, rfl, by omega, ?_⟩)
    rw [h1 _ (by omega), h1 _ (by omega), iN_inc]
    refine ⟨fun p => k2 _ _ ⟨?_, rfl⟩, fun p => k2 _ _ ⟨?_, rfl⟩⟩
    · rw [bst_s, if_pos p]
    · rw [bst_s, if_neg p]
  · rintro l h ⟨rfl, rfl⟩
    exact t_TP_richest_16 kc (brF (by decide) (kk h h2))
theorem op_blind (i : Inv f) (x y : Int32) : CI L xs xm_TP_blind [.ref 0, .int x, .int y] f (fun v g => CI L xs xm_Mo_blind [.ref 400, .int x, .int y] g (fun w h => w = v ∧ Inv h)) := by
  obtain ⟨⟨T, w, c, r⟩, im⟩ := id i
  have z1 := w.2.2.1 0 (by omega)
  refine t_TP_blind_0 (c_has (s := 0) k_told (by omega) (c.sz (by omega)) z1 (fun j hj e => br1 ?_) fun q => br0 (t_Mo_blind_0 (r_isC0 w r q (br0 ⟨rfl, i⟩))))
  subst e
  have wc := w.2.2.2.1 j hj
  have ho := rC.wf_o w hj
  have cc : cC f (7 + 21 * j) _ := c.2.2.2.2.2.1 j hj
  have kc : xS0 L (7 + 21 * j) = (1, 0) := k_coun (by omega)
  refine ⟨j, rfl, by omega, fun p => ?_, fun p0 => ⟨fun p => ?_, fun p1 => ⟨fun p => ?_, fun p2 => ?_⟩⟩⟩
  · refine c_blindOrders kc (by omega) wc cc fun g h => ?_
    have hg : FrC f g := fun a ha => h a (by omega) (by omega)
    refine t_Mo_blind_0 (r_isC w (r.fr (hg 401 (by omega))) hj fun g1 cu rc e => br1 (brT p (brT p ?_)))
    exact r_blindOf cu rc wc ho fun g2 b => ⟨rfl, i.q hg fun a ha => by rw [b a (by omega) (by omega), e a (by omega)]⟩
  · refine t_TP_changedNodes_0 kc ?_
    rw [cc.2.2.2.2.1]
    refine c_runFirst kc rfl (by omega) (by omega) wc cc (Nat.le_refl _) fun g h1 h2 => ?_
    refine c_unlikeNodes rfl (kf_1_5 kc).2 rfl (by omega) (by omega) (by omega) (by omega) fun g1 h3 => ?_
    have hg : FrC f g1 := fun a ha => by rw [h3 a (by omega) (by omega), h2 a (by omega)]
    refine t_Mo_blind_0 (r_isC w (r.fr (hg 401 (by omega))) hj fun g2 cu rc e => br1 (brF p0 (brT p (brF p0 ?_))))
    refine r_pathsOf cu rc wc ho fun g3 b1 b2 => ⟨?_, i.q hg fun a ha => by rw [b2 a (by omega) (by omega) (by omega), e a (by omega)]⟩
    refine congrArg iN (unl_congr (fun i hi => ?_) fun i hi => (h1 i hi).symm)
    rw [h2 _ (by omega)]; exact (cc.2.2.2.2.2.1 i hi).symm
  · refine c_richest kc (by omega) wc cc fun g h => ?_
    have hg : FrC f g := fun a ha => h a (by omega)
    refine t_Mo_blind_0 (r_isC w (r.fr (hg 401 (by omega))) hj fun g1 cu rc e => br1 (brF p0 (brF p1 (brT p ?_))))
    refine r_pathsOf cu rc wc ho fun g3 b1 b2 => ?_
    generalize T.2.2.1 j = D at *
    refine for0 7 (fun k l h => l = [.ref 400, .int (iN j), .int y, .int (iN (bst (roN D (dN D) (acc0 D)) k)), .int (iN (k + 1))] ∧ h = g3) ⟨rfl, rfl⟩ ?_ ?_
    · rintro k l h hk ⟨rfl, rfl⟩ k2
      have b := bst_le (roN D (dN D) (acc0 D)) k
      refine t_Mo_blind_54 (brT ((iN_lt (b := 8) (by omega) (by omega)).mpr (by omega)) ⟨k + 1, rfl, by omega, _, rfl, by omega, ?_⟩)
      rw [b1 _ (by omega), b1 _ (by omega), iN_inc]
      refine ⟨fun p => k2 _ _ ⟨?_, rfl⟩, fun p => k2 _ _ ⟨?_, rfl⟩⟩
      · rw [bst_s, if_pos p]
      · rw [bst_s, if_neg p]
    · rintro l h ⟨rfl, rfl⟩
      exact t_Mo_blind_54 (brF (by decide) ⟨rfl, i.q hg fun a ha => by rw [b2 a (by omega) (by omega) (by omega), e a (by omega)]⟩)
  · exact t_Mo_blind_0 (r_isC w r hj fun g1 cu rc e => br1 (brF p0 (brF p1 (brF p2 ⟨rfl, i.fr fun a ha => e a (by omega)⟩))))
end OPS3
