/-! a run followed -/
def fol (D : CD) (R : RD) : Nat → Nat × ST
  | 0 => (0, s0S D)
  | k + 1 => if (fol D R k).1 < k then fol D R k else match stp D (fol D R k).2 (R.2.1 k) (R.2.2.1 k) (nb (R.2.2.2.1 k)) (nb (R.2.2.2.2 k)) with
    | some T => (k + 1, T)
    | none => fol D R k
theorem fol_s (D : CD) (R : RD) (k : Nat) : fol D R (k + 1) = if (fol D R k).1 < k then fol D R k else match stp D (fol D R k).2 (R.2.1 k) (R.2.2.1 k) (nb (R.2.2.2.1 k)) (nb (R.2.2.2.2 k)) with
    | some T => (k + 1, T)
    | none => fol D R k := rfl
theorem fol_some {D : CD} {R : RD} {k : Nat} {T : ST} (e : (fol D R k).1 = k) (s : stp D (fol D R k).2 (R.2.1 k) (R.2.2.1 k) (nb (R.2.2.2.1 k)) (nb (R.2.2.2.2 k)) = some T) : fol D R (k + 1) = (k + 1, T) := by
  rw [fol_s, if_neg (by omega), s]
theorem fol_none {D : CD} {R : RD} {k : Nat} (e : (fol D R k).1 = k) (s : stp D (fol D R k).2 (R.2.1 k) (R.2.2.1 k) (nb (R.2.2.2.1 k)) (nb (R.2.2.2.2 k)) = none) : fol D R (k + 1) = fol D R k := by
  rw [fol_s, if_neg (by omega), s]
theorem fol_le (D : CD) (R : RD) : ∀ k, (fol D R k).1 ≤ k
  | 0 => Nat.le_refl _
  | k + 1 => by
    have := fol_le D R k
    rw [fol_s]
    split
    · omega
    · split
      · exact Nat.le_refl _
      · omega
theorem fol_stop {D : CD} {R : RD} {k : Nat} (h : (fol D R k).1 < k) : ∀ d, fol D R (k + d) = fol D R k
  | 0 => rfl
  | d + 1 => by
    have ih := fol_stop h d
    rw [← Nat.add_assoc, fol_s, if_pos (by rw [ih]; omega), ih]
theorem fol_wf {D : CD} {R : RD} (w : wfC D) (wr : wfR R) : ∀ k, k ≤ R.1 → wfS D (fol D R k).2
  | 0, _ => s0_wf
  | k + 1, h => by
    have ih := fol_wf w wr k (by omega)
    rw [fol_s]
    split
    · exact ih
    · split
      · rename_i T e
        exact stp_wf w ih (wr.2 k (by omega)) e
      · exact ih
def FrJ (f g : Hp) : Prop := ∀ j, 11 ≤ j ∧ j ≤ 18 ∨ j = 47 ∨ j = 55 ∨ j = 60 → g 400 j = f 400 j
section FOLLOW
variable {L : Nat} {xs : Nat → Int32} {f g : Hp} {D : CD} {S S' : ST} {R : RD} {T : TD} {o0 : Nat}
theorem c_follow {Q : Int32 → Hp → Prop} {c r n : Nat} (w : wfC D) (wr : wfR R) (kc : xS0 L c = (1, 0)) (kr : xS0 L r = (6, 0)) (hc : c + 12 ≤ 75) (hr : r + 5 ≤ 75) (cc : cC f c D) (cr : cR f r R) (hn : n < 2147483648) (kk : ∀ g, cA g D (fol D R (min n R.1)).2 → FrZ f g → Q (iN (fol D R (min n R.1)).1) g) : CI L xs xm_As_follow [.ref 75, .ref c, .ref r, .int (iN n)] f Q := by
  have r40 := wr.1
  refine t_As_follow_0 kc kr (c_begin w kc hc cc fun g0 h0 f0 => ?_)
  refine for0 (min n R.1) (fun k l g => l = [.ref 75, .ref c, .ref r, .int (iN n), .int (iN k)] ∧ (fol D R k).1 = k ∧ cA g D (fol D R k).2 ∧ FrZ f g) ⟨rfl, rfl, h0, f0⟩ ?_ ?_
  · rintro k l g hk ⟨rfl, b1, b2, b3⟩ k2
    have cg : cR g r R := cr.fr fun a p q => b3 a (by omega)
    obtain ⟨q1, q2, q3, q4⟩ := cg.2 k (by omega)
    refine t_As_follow_8 kc kr ?_
    rw [cg.1]
    refine brT ((iN_lt (b := _) (by omega) (by omega)).mpr (by omega)) (brT ((iN_lt (b := _) (by omega) (by omega)).mpr (by omega)) ⟨k, rfl, by omega, ?_⟩)
    rw [q1, q2, q3, q4]
    refine c_act w (fol_wf w wr k (by omega)) b2 (wr.2 k (by omega)) (fun T e g1 c1 f1 => br1 ?_) fun e g1 c1 f1 => br0 ?_
    · rw [iN_inc]
      have := fol_some b1 e
      exact k2 _ _ ⟨rfl, by rw [this], by rw [this]; exact c1, b3.trans f1.z⟩
    · have e1 := fol_none b1 e
      have e2 := fol_stop (D := D) (R := R) (k := k + 1) (by rw [e1]; omega) (min n R.1 - (k + 1))
      rw [show k + 1 + (min n R.1 - (k + 1)) = min n R.1 by omega, e1] at e2
      rw [e2, b1] at kk
      exact kk g1 c1 (b3.trans f1.z)
  · rintro l g ⟨rfl, b1, b2, b3⟩
    have cg : cR g r R := cr.fr fun a p q => b3 a (by omega)
    have K := kk g b2 b3
    rw [b1] at K
    refine t_As_follow_8 kc kr ?_
    rw [cg.1, imin_iN (by omega) (by omega)]
    by_cases z : n ≤ R.1
    · exact brF (fun z => absurd ((iN_lt (b := _) (by omega) (by omega)).mp z) (by omega)) K
    · exact brT ((iN_lt (b := _) (by omega) (by omega)).mpr (by omega)) (brF (fun z => absurd ((iN_lt (b := _) (by omega) (by omega)).mp z) (by omega)) K)
theorem r_goes {Q : Hp → Prop} {o n : Nat} (w : wfC D) (wr : wfR R) (cu : cur f o0 D) (rc : rC f o0 D) (ho0 : o0 ≤ 692) (rr : rR f o R) (ho : o + 161 ≤ 4680) (e47 : f 400 47 = iN o) (hn : n < 2147483648) (kk : ∀ g, rM g (fol D R (min n R.1)).2 → g 400 43 = iN (fol D R (min n R.1)).1 → FrM f g → FrJ f g → Q g) : CV L xs xm_Mo_goes [.ref 400, .int (iN n)] f Q := by
  have r40 := wr.1
  refine t_Mo_goes_0 (r_begins w cu rc ho0 fun g0 a1 a2 a3 a4 => ?_)
  refine for0 (min n R.1) (fun k l g => ∃ y : Value, (y.category != 2) = true ∧ l = [.ref 400, .int (iN n), y] ∧ g 400 43 = iN k ∧ (fol D R k).1 = k ∧ rM g (fol D R k).2 ∧ FrM f g ∧ FrJ f g) ⟨_, rfl, rfl, a2, rfl, a1, a3, fun j hj => a4 j (by omega)⟩ ?_ ?_
  · rintro k l g hk ⟨y, hy, rfl, b0, b1, b2, b3, b4⟩ k2
    have rg : rR g o R := rr.fr (b3 401 (by omega) (by omega))
    have cug : cur g o0 D := cu.co fun j p q => b4 j (by omega)
    have rcg : rC g o0 D := rc.fr (b3 401 (by omega) (by omega))
    obtain ⟨q1, q2, q3, q4⟩ := rg.2 k (by omega)
    refine t_Mo_goes_4 hy ?_
    rw [b0, b4 47 (by omega), e47]
    refine brT ((iN_lt (b := _) (by omega) (by omega)).mpr (by omega)) ⟨o, rfl, by omega, ?_⟩
    rw [rg.1]
    refine brT ((iN_lt (b := _) (by omega) (by omega)).mpr (by omega)) ⟨o + 1 + 4 * k, by simp only [lit, iN_add, iN_mul], by omega, o + 2 + 4 * k, by simp only [lit, iN_add, iN_mul]; congr 1; omega, by omega, o + 3 + 4 * k, by simp only [lit, iN_add, iN_mul]; congr 1; omega, by omega, o + 4 + 4 * k, by simp only [lit, iN_add, iN_mul]; congr 1; omega, by omega, ?_⟩
    rw [q1, q2, q3, q4]
    refine r_does w (fol_wf w wr k (by omega)) cug rcg ho0 b2 (wr.2 k (by omega)) (fun T e g1 c1 m1 k1 => br1 fun g2 e2 => ?_) fun e g1 c1 m1 k1 => br0 ?_
    · have x1 : g1 400 43 = iN k := by rw [k1 43 (by omega)]; exact b0
      rw [x1, iN_inc] at e2
      have := fol_some b1 e
      refine k2 _ _ ⟨.int _, rfl, rfl, by rw [e2, xu_eq], by rw [this], ?_, fun x hx hy => ?_, fun j hj => ?_⟩
      · rw [this, e2]; exact c1.fr fun x p q => xu_a (by omega)
      · rw [e2, xu_a hy, m1 x hx hy, b3 x hx hy]
      · rw [e2, xu_k (by omega), k1 j (by omega), b4 j hj]
    · have e1 := fol_none b1 e
      have e2 := fol_stop (D := D) (R := R) (k := k + 1) (by rw [e1]; omega) (min n R.1 - (k + 1))
      rw [show k + 1 + (min n R.1 - (k + 1)) = min n R.1 by omega, e1] at e2
      rw [e2, b1] at kk
      exact kk g1 c1 (by rw [k1 43 (by omega)]; exact b0) (b3.trans m1) fun j hj => by rw [k1 j (by omega), b4 j hj]
  · rintro l g ⟨y, hy, rfl, b0, b1, b2, b3, b4⟩
    have rg : rR g o R := rr.fr (b3 401 (by omega) (by omega))
    have K := kk g b2 (by rw [b1]; exact b0) b3 b4
    refine t_Mo_goes_4 hy ?_
    rw [b0, b4 47 (by omega), e47]
    by_cases z : n ≤ R.1
    · exact brF (fun z => absurd ((iN_lt (b := _) (by omega) (by omega)).mp z) (by omega)) K
    · refine brT ((iN_lt (b := _) (by omega) (by omega)).mpr (by omega)) ⟨o, rfl, by omega, ?_⟩
      rw [rg.1]
      exact brF (fun z => absurd ((iN_lt (b := _) (by omega) (by omega)).mp z) (by omega)) K
/-- a council and a run, told on both sides -/
theorem c_two {A B : Hp → Prop} {x y : Int32} (w : wfT T) (c : cT f 1 T) (h1 : ∀ j r, j < tZ T 0 → r < tZ T 1 → x = iN j → y = iN r → B f) (h0 : ((∀ j, j < tZ T 0 → ¬ x = iN j) ∨ ∀ r, r < tZ T 1 → ¬ y = iN r) → A f) : CI L xs xm_To_has [.ref 1, .int 0, .int x] f (fun v1 g1 => (v1 = 0 → A g1) ∧ (¬ v1 = 0 → CI L xs xm_To_has [.ref 1, .int 1, .int y] g1 (fun v2 g2 => (v2 = 0 → A g2) ∧ (¬ v2 = 0 → B g2)))) := by
  refine c_has (s := 0) k_told (by omega) (c.sz (by omega)) (w.2.2.1 0 (by omega)) (fun j hj e => br1 ?_) fun q => br0 (h0 (Or.inl q))
  exact c_has (s := 1) k_told (by omega) (c.sz (by omega)) (w.2.2.1 1 (by omega)) (fun r hr e2 => br1 (h1 j r hj hr e e2)) fun q => br0 (h0 (Or.inr q))
theorem r_two {A B : Hp → Prop} {j r : Nat} (w : wfT T) (rt : rT f 0 T) (hj : j < tZ T 0) (hr : r < tZ T 1) (kk : ∀ g, cur g (610 + 82 * j) (T.2.2.1 j) → rC g (610 + 82 * j) (T.2.2.1 j) → rR g (774 + 161 * r) (T.2.2.2.1 r) → g 400 47 = iN (774 + 161 * r) → (∀ a, ¬ a = 400 → g a = f a) → B g) : CI L xs xm_Mo_isCouncil [.ref 400, .int (iN j)] f (fun v1 g1 => (v1 = 0 → A g1) ∧ (¬ v1 = 0 → CI L xs xm_Mo_isRun [.ref 400, .int (iN r)] g1 (fun v2 g2 => (v2 = 0 → A g2) ∧ (¬ v2 = 0 → B g2)))) := by
  have z1 := w.2.2.1 1 (by omega)
  refine r_isC w rt hj fun g cu rc e => br1 (r_isRun w (rt.fr (e 401 (by omega))) (fun r' g' hr' er eg => br1 ?_) fun q => absurd rfl (q r hr))
  have := (iN_inj (by omega) (by omega)).mp er
  subst this
  have e4 : g' 401 = f 401 := by rw [eg, xu_a (by omega), e 401 (by omega)]
  have rr : rR f (774 + 161 * r) (T.2.2.2.1 r) := by
    have := rt.2.2.2.2.2.2.1 r hr
    rwa [Nat.zero_add] at this
  refine kk g' (cu.co fun j' p q => by rw [eg, xu_k (by omega)]) (rc.fr (by rw [eg, xu_a (by omega)])) (rr.fr e4) (by rw [eg, xu_eq]) fun a ha => by rw [eg, xu_a ha, e a ha]
theorem r_twoN {A B : Hp → Prop} {x y : Int32} (w : wfT T) (rt : rT f 0 T) (bad : (∀ j, j < tZ T 0 → ¬ x = iN j) ∨ ∀ r, r < tZ T 1 → ¬ y = iN r) (kk : ∀ g, (∀ a, ¬ a = 400 → g a = f a) → A g) : CI L xs xm_Mo_isCouncil [.ref 400, .int x] f (fun v1 g1 => (v1 = 0 → A g1) ∧ (¬ v1 = 0 → CI L xs xm_Mo_isRun [.ref 400, .int y] g1 (fun v2 g2 => (v2 = 0 → A g2) ∧ (¬ v2 = 0 → B g2)))) := by
  refine r_isCouncil w rt (fun j g hj e cu eg => br1 ?_) fun q => br0 (kk f fun _ _ => rfl)
  refine r_isRun w (rt.fr (eg 401 (by omega))) (fun r g' hr er eg' => ?_) fun q => br0 (kk g eg)
  rcases bad with b | b
  · exact absurd e (b j hj)
  · exact absurd er (b r hr)
theorem FrZ.c (h : FrZ f g) : FrC f g := fun a ha => h a (by omega)
theorem FrM.r (h : FrM f g) : FrR f g := fun a ha => h a (by omega) (by omega)
theorem i400 (i : Inv f) (e : ∀ a, ¬ a = 400 → g a = f a) : Inv g := i.fr fun a ha => e a (by omega)
theorem cT_c {j : Nat} (c : cT f 1 T) (hj : j < tZ T 0) : cC f (7 + 21 * j) (T.2.2.1 j) := c.2.2.2.2.2.1 j hj
theorem cT_r {j : Nat} (c : cT f 1 T) (hj : j < tZ T 1) : cR f (19 + 21 * j) (T.2.2.2.1 j) := c.2.2.2.2.2.2.1 j hj
theorem op_stop (i : Inv f) (x y : Int32) : CI L xs xm_TP_stop [.ref 0, .int x, .int y] f (fun v g => CI L xs xm_Mo_stop [.ref 400, .int x, .int y] g (fun w h => w = v ∧ Inv h)) := by
  obtain ⟨⟨T, w, c, rt⟩, im⟩ := id i
  have z0 := w.2.2.1 0 (by omega)
  have z1 := w.2.2.1 1 (by omega)
  refine t_TP_stop_0 (c_two w c (fun j r hj hr ex ey => ?_) fun bad => t_Mo_stop_0 (r_twoN w rt bad fun g e => ⟨rfl, i400 i e⟩))
  subst ex ey
  have wc := w.2.2.2.1 j hj
  have wr := w.2.2.2.2.1 r hr
  refine ⟨j, rfl, by omega, r, rfl, by omega, c_follow (n := 40) wc wr (k_coun (by omega)) (k_run (by omega)) (by omega) (by omega) (cT_c c hj) (cT_r c hr) (by omega) fun g ca fa => ?_⟩
  refine t_Mo_stop_0 (r_two w (rt.fr (fa 401 (by omega))) hj hr fun g2 cu rc rr e47 e => ?_)
  refine r_goes (n := 40) wc wr cu rc (rC.wf_o w hj) rr (by omega) e47 (by omega) fun g3 b1 b2 b3 b4 => ⟨b2, i.q fa.c fun a ha => ?_⟩
  rw [b3 a (by omega) (by omega), e a (by omega)]
/-- a state that is reached -/
def gd (T : TD) (x y z : Int32) (D : CD) (S : ST) : Prop := ∃ j r n, j < tZ T 0 ∧ r < tZ T 1 ∧ x = iN j ∧ y = iN r ∧ z = iN n ∧ n ≤ (T.2.2.2.1 r).1 ∧ (fol (T.2.2.1 j) (T.2.2.2.1 r) n).1 = n ∧ D = T.2.2.1 j ∧ S = (fol (T.2.2.1 j) (T.2.2.2.1 r) n).2
theorem gd_iff {j r n : Nat} (w : wfT T) (hj : j < tZ T 0) (hr : r < tZ T 1) (hn : n < 2147483648) : (∃ D S, gd T (iN j) (iN r) (iN n) D S) ↔ (fol (T.2.2.1 j) (T.2.2.2.1 r) (min n (T.2.2.2.1 r).1)).1 = n := by
  have z0 := w.2.2.1 0 (by omega)
  have z1 := w.2.2.1 1 (by omega)
  constructor
  · rintro ⟨D, S, j', r', n', a1, a2, a3, a4, a5, a6, a7, -, -⟩
    have e1 := (iN_inj (by omega) (by omega)).mp a3
    have e2 := (iN_inj (by omega) (by omega)).mp a4
    have := (w.2.2.2.2.1 r' a2).1
    have e3 := (iN_inj (by omega) (by omega)).mp a5
    subst e1 e2 e3
    rw [Nat.min_eq_left a6]
    exact a7
  · intro h
    have := fol_le (T.2.2.1 j) (T.2.2.2.1 r) (min n (T.2.2.2.1 r).1)
    have le : n ≤ (T.2.2.2.1 r).1 := by omega
    rw [Nat.min_eq_left le] at h
    exact ⟨_, _, j, r, n, hj, hr, rfl, rfl, rfl, le, h, rfl, rfl⟩
theorem gd_w {x y z : Int32} (w : wfT T) (h : gd T x y z D S) : wfC D ∧ wfS D S := by
  obtain ⟨j, r, n, hj, hr, -, -, -, le, -, rfl, rfl⟩ := h
  exact ⟨w.2.2.2.1 j hj, fol_wf (w.2.2.2.1 j hj) (w.2.2.2.2.1 r hr) n le⟩
theorem c_reaches {Q : Int32 → Hp → Prop} {x y z : Int32} (w : wfT T) (c : cT f 1 T) (h1 : ∀ D S, gd T x y z D S → ∀ g, cA g D S → FrZ f g → Q 1 g) (h0 : (¬ ∃ D S, gd T x y z D S) → ∀ g, FrZ f g → Q 0 g) : CI L xs xm_TP_reaches [.ref 0, .int x, .int y, .int z] f Q := by
  have z0 := w.2.2.1 0 (by omega)
  have z1 := w.2.2.1 1 (by omega)
  refine t_TP_reaches_0 (c_two w c (fun j r hj hr ex ey => ?_) fun bad => h0 ?_ f (FrZ.refl f))
  · subst ex ey
    have wc := w.2.2.2.1 j hj
    have wr := w.2.2.2.2.1 r hr
    have r40 := wr.1
    refine ⟨fun p => h0 ?_ f (FrZ.refl f), fun p => ⟨j, rfl, by omega, r, rfl, by omega, ?_⟩⟩
    · rintro ⟨D, S, j', r', n', a1, a2, a3, a4, a5, a6, -⟩
      rw [a5] at p
      have := (w.2.2.2.2.1 r' a2).1
      exact iN_nn (by omega) p
    · obtain ⟨n, hn, rfl⟩ := iN_ex0 p
      refine c_follow wc wr (k_coun (by omega)) (k_run (by omega)) (by omega) (by omega) (cT_c c hj) (cT_r c hr) hn fun g ca fa => ?_
      have le := fol_le (T.2.2.1 j) (T.2.2.2.1 r) (min n (T.2.2.2.1 r).1)
      rw [iN_inj (by omega) (by omega)]
      refine ⟨fun u => h1 _ _ ⟨j, r, n, hj, hr, rfl, rfl, rfl, by omega, by rw [Nat.min_eq_left (by omega)] at u; exact u, rfl, rfl⟩ g (by rw [Nat.min_eq_left (by omega)] at ca; exact ca) fa, fun u => h0 (fun v => u ((gd_iff w hj hr hn).mp v)) g fa⟩
  · rintro ⟨D, S, j', r', n', a1, a2, a3, a4, -⟩
    rcases bad with b | b
    · exact b j' a1 a3
    · exact b r' a2 a4
theorem r_reaches {Q : Int32 → Hp → Prop} {x y z : Int32} (w : wfT T) (rt : rT f 0 T) (h : gd T x y z D S) (kk : ∀ g o0, o0 ≤ 692 → cur g o0 D → rC g o0 D → rM g S → FrM f g → Q 1 g) : CI L xs xm_Mo_isState [.ref 400, .int x, .int y, .int z] f Q := by
  have z1 := w.2.2.1 1 (by omega)
  obtain ⟨j, r, n, hj, hr, rfl, rfl, rfl, le, eq, rfl, rfl⟩ := h
  have wc := w.2.2.2.1 j hj
  have wr := w.2.2.2.2.1 r hr
  have r40 := wr.1
  refine t_Mo_isState_0 (r_two w rt hj hr fun g2 cu rc rr e47 e => brF (iN_nn (by omega)) ?_)
  refine r_goes wc wr cu rc (rC.wf_o w hj) rr (by omega) e47 (by omega) fun g3 b1 b2 b3 b4 => ?_
  rw [Nat.min_eq_left le] at b1 b2
  rw [b2, eq]
  exact brT rfl (kk g3 _ (rC.wf_o w hj) (cu.co fun j' p q => b4 j' (by omega)) (rc.fr (b3 401 (by omega) (by omega))) b1 fun x hx hy => by rw [b3 x hx hy, e x hy])
theorem r_reachesN {Q : Int32 → Hp → Prop} {x y z : Int32} (w : wfT T) (rt : rT f 0 T) (h : ¬ ∃ D S, gd T x y z D S) (kk : ∀ g, FrM f g → Q 0 g) : CI L xs xm_Mo_isState [.ref 400, .int x, .int y, .int z] f Q := by
  have z0 := w.2.2.1 0 (by omega)
  have z1 := w.2.2.1 1 (by omega)
  by_cases bad : (∀ j, j < tZ T 0 → ¬ x = iN j) ∨ ∀ r, r < tZ T 1 → ¬ y = iN r
  · exact t_Mo_isState_0 (r_twoN w rt bad fun g e => kk g fun x hx hy => e x hy)
  · have ⟨q1, q2⟩ := not_or.mp bad
    have ⟨j, q1⟩ := Classical.not_forall.mp q1
    have ⟨r, q2⟩ := Classical.not_forall.mp q2
    have hj : j < tZ T 0 := Classical.byContradiction fun z => q1 fun y => absurd y z
    have hr : r < tZ T 1 := Classical.byContradiction fun z => q2 fun y => absurd y z
    have ex : x = iN j := Classical.byContradiction fun z => q1 fun _ => z
    have ey : y = iN r := Classical.byContradiction fun z => q2 fun _ => z
    subst ex ey
    have wc := w.2.2.2.1 j hj
    have wr := w.2.2.2.2.1 r hr
    have r40 := wr.1
    refine t_Mo_isState_0 (r_two w rt hj hr fun g2 cu rc rr e47 e => ⟨fun p => kk g2 fun x hx hy => e x hy, fun p => ?_⟩)
    obtain ⟨n, hn, rfl⟩ := iN_ex0 p
    have le := fol_le (T.2.2.1 j) (T.2.2.2.1 r) (min n (T.2.2.2.1 r).1)
    refine r_goes wc wr cu rc (rC.wf_o w hj) rr (by omega) e47 hn fun g3 b1 b2 b3 b4 => ?_
    rw [b2, iN_inj (by omega) (by omega)]
    exact brF (fun u => h ((gd_iff w hj hr hn).mpr u)) (kk g3 fun x hx hy => by rw [b3 x hx hy, e x hy])
end FOLLOW
