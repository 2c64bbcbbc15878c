/-! play, pace -/
theorem eQ_lt {n u : Nat} (hn : n < 2147483648) (hu : u < 2147483648) : eQ n < iN u ↔ n < u + 1 := by
  unfold eQ
  by_cases z : n = 0
  · rw [if_pos z]
    refine ⟨fun _ => by omega, fun _ => ?_⟩
    rw [Int32.lt_iff_toInt_lt, iN_toInt hu]
    have : (-1 : Int32).toInt = -1 := by decide
    omega
  · rw [if_neg z, iN_lt (by omega) hu]
    omega
theorem eQ_iN (n : Nat) : iN n = eQ (n + 1) := by
  unfold eQ
  rw [if_neg (by omega)]; rfl
theorem sumW_add {F G : Nat → Nat} : ∀ n, sumW (fun k => F k + G k) n = sumW F n + sumW G n
  | 0 => rfl
  | n + 1 => by rw [sumW_s, sumW_s, sumW_s, sumW_add n]; omega
theorem sumW_swap {F : Nat → Nat → Nat} (n : Nat) : ∀ m, sumW (fun a => sumW (fun b => F a b) n) m = sumW (fun b => sumW (fun a => F a b) m) n
  | 0 => (sumW_0 n fun _ _ => rfl).symm
  | m + 1 => by
    rw [sumW_s, sumW_swap n m, ← sumW_add]
    rfl
theorem mxN_swap {F : Nat → Nat → Nat} (n m : Nat) : mxN (fun a => mxN (fun b => F a b) n) m = mxN (fun b => mxN (fun a => F a b) m) n := eq_of_le fun x => by
  rw [mxN_le, mxN_le]
  constructor
  · intro h b hb
    exact (mxN_le m).mpr fun a ha => (mxN_le n).mp (h a ha) b hb
  · intro h a ha
    exact (mxN_le n).mpr fun b hb => (mxN_le m).mp (h b hb) a ha
theorem cur.co {f g : Hp} {o : Nat} {D : CD} (h : cur f o D) (e : ∀ j, 11 ≤ j → j ≤ 18 → g 400 j = f 400 j) : cur g o D := by
  unfold cur
  rw [e 11 (by omega) (by omega), e 12 (by omega) (by omega), e 13 (by omega) (by omega), e 14 (by omega) (by omega), e 15 (by omega) (by omega), e 16 (by omega) (by omega), e 17 (by omega) (by omega), e 18 (by omega) (by omega)]
  exact h
theorem rTT.fr {f g : Hp} {t : TT} (h : rTT f t) (e : ∀ x, 427 ≤ x → x ≤ 430 → g x = f x) : rTT g t := by
  unfold rTT
  rw [e 427 (by omega) (by omega), e 428 (by omega) (by omega), e 429 (by omega) (by omega), e 430 (by omega) (by omega)]
  exact h
def slw (D : CD) : Nat → Nat × Nat
  | 0 => (0, 0)
  | k + 1 => if k = 0 ∨ (slw D k).2 < dnT D (k + 1) - k then (k + 1, dnT D (k + 1) - k) else slw D k
theorem slw_s (D : CD) (k : Nat) : slw D (k + 1) = if k = 0 ∨ (slw D k).2 < dnT D (k + 1) - k then (k + 1, dnT D (k + 1) - k) else slw D k := rfl
def slP (D : CD) (v : Int32) : Prop := ((∃ s, 1 ≤ s ∧ s ≤ dN D ∧ dnT D s = 1000000) ∧ v = -1) ∨ ((∀ s, 1 ≤ s → s ≤ dN D → ¬ dnT D s = 1000000) ∧ v = if dN D = 0 then -1 else iN (slw D (dN D)).1)
theorem slP_u {D : CD} {v v' : Int32} (h : slP D v) (h' : slP D v') : v' = v := by
  rcases h with ⟨⟨s, a1, a2, a3⟩, e⟩ | ⟨a, e⟩
  · rcases h' with ⟨-, e'⟩ | ⟨b, -⟩
    · rw [e, e']
    · exact absurd a3 (b s a1 a2)
  · rcases h' with ⟨⟨s, a1, a2, a3⟩, -⟩ | ⟨-, e'⟩
    · exact absurd a3 (a s a1 a2)
    · rw [e, e']
abbrev TW (D : CD) (w : Nat) : CD := ((dF D, w, dS D, dL D, dN D), D.2)
abbrev SM (D : CD) (m : Nat) : CD := ((dF D, dW D, dS D, dL D ||| (1 <<< m), dN D), D.2)
theorem TW_wf {D : CD} {w : Nat} (h : wfC D) (hw : 1 ≤ w ∧ w ≤ 9) : wfC (TW D w) := ⟨h.1, hw, h.2.2⟩
theorem SM_wf {D : CD} {m : Nat} (h : wfC D) (hm : m < 3 * dF D + 1) : wfC (SM D m) := ⟨h.1, h.2.1, h.2.2.1, Nat.or_lt_two_pow h.2.2.2.1 (by rw [Nat.one_shiftLeft]; exact Nat.pow_lt_pow_right (by omega) hm), h.2.2.2.2⟩
def tgP (D : CD) (v : Int32) : Prop := (dN D = 0 ∧ v = -1) ∨ (¬ dN D = 0 ∧ dnT (TW D 9) (dN D) = 1000000 ∧ v = -1) ∨ (¬ dN D = 0 ∧ ¬ dnT (TW D 9) (dN D) = 1000000 ∧ ∃ w, 1 ≤ w ∧ w ≤ 9 ∧ v = iN w ∧ dnT (TW D w) (dN D) = dnT (TW D 9) (dN D) ∧ ∀ w', 1 ≤ w' → w' < w → ¬ dnT (TW D w') (dN D) = dnT (TW D 9) (dN D))
theorem tgP_u {D : CD} {v v' : Int32} (h : tgP D v) (h' : tgP D v') : v' = v := by
  rcases h with ⟨a, e⟩ | ⟨a, b, e⟩ | ⟨a, b, w, w1, w2, e, w3, w4⟩
  · rcases h' with ⟨-, e'⟩ | ⟨a', -⟩ | ⟨a', -⟩
    · rw [e, e']
    · exact absurd a a'
    · exact absurd a a'
  · rcases h' with ⟨a', -⟩ | ⟨-, -, e'⟩ | ⟨-, b', -⟩
    · exact absurd a' a
    · rw [e, e']
    · exact absurd b b'
  · rcases h' with ⟨a', -⟩ | ⟨-, b', -⟩ | ⟨-, -, u, u1, u2, e', u3, u4⟩
    · exact absurd a' a
    · exact absurd b' b
    · rw [e, e']
      rcases Nat.lt_trichotomy u w with z | z | z
      · exact absurd u3 (w4 u u1 z)
      · rw [z]
      · exact absurd w3 (u4 w w1 z)
def SPARE (D : CD) : Nat := if dN D = 0 then 0 else bN (fun m => ¬ dnT (SM D m) (dN D) = 1000000) (3 * dF D + 1)
section PACE
variable {L : Nat} {xs : Nat → Int32} {f g : Hp} {T : TD} {D : CD} {t : TT}
theorem c_slowest {Q : Int32 → Hp → Prop} (w : wfC D) (cc : cC f 234 D) (ct : cTT f (ttF D)) (kk : ∀ v g, slP D v → (∀ x, ¬ x = 233 → g x = f x) → Q v g) : CI L xs xm_Tt_slowest [.ref 200] f Q := by
  have w5 := w.2.2.2.2.1
  refine t_Tt_slowest_0 ?_
  refine for0 (dN D) (fun k l g => ∃ (y : Value) (x1 x2 : Int32), (y.category != 2) = true ∧ l = [.ref 200, .int x1, .int x2, .int (iN (k + 1)), y] ∧ (k = 0 → x1 = -1 ∧ x2 = -1) ∧ (¬ k = 0 → x1 = iN (slw D k).1 ∧ x2 = iN (slw D k).2 ∧ (slw D k).2 ≤ 360) ∧ (∀ s, 1 ≤ s → s ≤ k → ¬ dnT D s = 1000000) ∧ ∀ x, ¬ x = 233 → g x = f x) ⟨_, _, _, rfl, rfl, fun _ => ⟨rfl, rfl⟩, fun z => absurd rfl z, fun s h1 h2 => absurd h1 (by omega), fun _ _ => rfl⟩ ?_ ?_
  · rintro k l g hk ⟨y, x1, x2, hy, rfl, i0, i1, fi, fr⟩ k2
    have cg : cC g 234 D := cc.fr fun a p q => fr a (by omega)
    have ctg : cTT g (ttF D) := fun m i hm hi => by
      rw [fr _ (by omega), fr _ (by omega), fr _ (by omega), fr _ (by omega)]; exact ct m i hm hi
    have db := dnT_bt w (s := k + 1) (by omega)
    have dl := dnT_lo w (s := k + 1) (by omega)
    refine t_Tt_slowest_6 hy (brF (by rw [cg.2.2.2.2.1]; exact (fun z => absurd ((iN_lt (b := _) (by omega) (by omega)).mp z) (by omega))) (brF (fun z => absurd ((iN_lt (a := 10) (by omega) (by omega)).mp z) (by omega)) (c_doneAt w cg ctg (by omega) fun g1 fr1 => ?_)))
    have fr2 : ∀ x, ¬ x = 233 → g1 x = f x := fun x hx => by rw [fr1 x hx, fr x hx]
    rw [show iN (k + 1) - 1 = iN k from iN_sub (b := 1) (by omega), iN_sub (by omega), iN_inc]
    refine ⟨fun p => kk _ g1 (Or.inl ⟨⟨k + 1, by omega, by omega, (iN_inj (b := 1000000) (by omega) (by omega)).mp p⟩, rfl⟩) fr2, fun p => ?_⟩
    have p : ¬ dnT D (k + 1) = 1000000 := fun z => p (by rw [z]; rfl)
    have fi' : ∀ s, 1 ≤ s → s ≤ k + 1 → ¬ dnT D s = 1000000 := fun s h1 h2 => by
      by_cases z : s = k + 1
      · rw [z]; exact p
      · exact fi s h1 (by omega)
    by_cases z : k = 0
    · obtain ⟨e1, e2⟩ := i0 z
      subst e1 e2
      refine brT ?_ (k2 _ _ ⟨_, _, _, rfl, rfl, fun y => absurd y (by omega), fun _ => ?_, fi', fr2⟩)
      · rw [show (-1 : Int32) = eQ 0 from rfl, eQ_lt (by omega) (by omega)]; omega
      · rw [slw_s, if_pos (Or.inl z)]
        exact ⟨rfl, rfl, by show dnT D (k + 1) - k ≤ 360; omega⟩
    · obtain ⟨e1, e2, e3⟩ := i1 z
      subst e1 e2
      rw [iN_lt (by omega) (by omega)]
      refine ⟨fun q => k2 _ _ ⟨_, _, _, rfl, rfl, fun y => absurd y (by omega), fun _ => ?_, fi', fr2⟩, fun q => k2 _ _ ⟨_, _, _, rfl, rfl, fun y => absurd y (by omega), fun _ => ?_, fi', fr2⟩⟩
      · rw [slw_s, if_pos (Or.inr q)]
        exact ⟨rfl, rfl, by show dnT D (k + 1) - k ≤ 360; omega⟩
      · rw [slw_s, if_neg (fun y => y.elim z q)]
        exact ⟨rfl, rfl, e3⟩
  · rintro l g ⟨y, x1, x2, hy, rfl, i0, i1, fi, fr⟩
    have cg : cC g 234 D := cc.fr fun a p q => fr a (by omega)
    refine t_Tt_slowest_6 hy (brT (by rw [cg.2.2.2.2.1]; exact ((iN_lt (b := _) (by omega) (by omega)).mpr (by omega))) (kk _ g (Or.inr ⟨fi, ?_⟩) fr))
    by_cases z : dN D = 0
    · rw [if_pos z]; exact (i0 z).1
    · rw [if_neg z]; exact (i1 z).1
theorem c_tightest {Q : Int32 → Hp → Prop} {c : Nat} (kc : xS0 L c = (1, 0)) (hc : c + 12 ≤ 200) (w : wfC D) (cc : cC f c D) (kk : ∀ v g, tgP D v → (∀ x, x < 200 ∨ 246 ≤ x → g x = f x) → Q v g) : CI L xs xm_Tt_tightest [.ref 200, .ref c] f Q := by
  have w5 := w.2.2.2.2.1
  refine t_Tt_tightest_0 kc ?_
  rw [cc.2.2.2.1]
  refine c_plan (W := 9) (D := TW D 9) kc hc (TW_wf w (by omega)) w cc rfl fun g1 a1 a2 a3 a4 a5 => ?_
  have c1 : cC g1 c D := cc.fr fun a p q => a5 a (by omega)
  rw [c1.2.2.2.2.1]
  by_cases n0 : dN D = 0
  · rw [n0]
    refine c_doneAt0 a1 (TW_wf w (by omega)) fun g2 fr2 => ?_
    have c2 : cC g2 c D := c1.fr fun a p q => fr2 a (by omega)
    rw [c2.2.2.2.2.1, n0]
    exact brT rfl (kk _ g2 (Or.inl ⟨n0, rfl⟩) fun x hx => by rw [fr2 x (by omega), a5 x hx])
  · have db := dnT_bt (TW_wf (w := 9) w (by omega)) (s := dN D) (by omega)
    refine c_doneAt (D := TW D 9) (TW_wf w (by omega)) a1 a2 (by omega) fun g2 fr2 => ?_
    have c2 : cC g2 c D := c1.fr fun a p q => fr2 a (by omega)
    have f2 : ∀ x, x < 200 ∨ 246 ≤ x → g2 x = f x := fun x hx => by rw [fr2 x (by omega), a5 x hx]
    rw [c2.2.2.2.2.1]
    refine brF (fun z => n0 ((iN_inj (b := 0) (by omega) (by omega)).mp z)) ⟨fun p => kk _ g2 (Or.inr (Or.inl ⟨n0, (iN_inj (b := 1000000) (by omega) (by omega)).mp p, rfl⟩)) f2, fun p => ?_⟩
    have p : ¬ dnT (TW D 9) (dN D) = 1000000 := fun z => p (by rw [z]; rfl)
    refine for0 8 (fun k l g => l = [.ref 200, .ref c, .int (iN (dnT (TW D 9) (dN D))), .int (iN (k + 1))] ∧ (∀ w', 1 ≤ w' → w' < k + 1 → ¬ dnT (TW D w') (dN D) = dnT (TW D 9) (dN D)) ∧ ∀ x, x < 200 ∨ 246 ≤ x → g x = f x) ⟨rfl, fun w' h1 h2 => absurd h1 (by omega), f2⟩ ?_ ?_
    · rintro k l g hk ⟨rfl, i1, fr⟩ k2
      have cg : cC g c D := cc.fr fun a p q => fr a (by omega)
      refine t_Tt_tightest_37 kc (brT ((iN_lt (b := 9) (by omega) (by omega)).mpr (by omega)) ?_)
      rw [cg.2.2.2.1]
      refine c_plan (W := k + 1) (D := TW D (k + 1)) kc hc (TW_wf w (by omega)) w cg rfl fun g3 b1 b2 b3 b4 b5 => ?_
      have c3 : cC g3 c D := cg.fr fun a p q => b5 a (by omega)
      have dk := dnT_bt (TW_wf (w := k + 1) w (by omega)) (s := dN D) (by omega)
      rw [c3.2.2.2.2.1]
      refine c_doneAt (D := TW D (k + 1)) (TW_wf w (by omega)) b1 b2 (by omega) fun g4 fr4 => ?_
      have f4 : ∀ x, x < 200 ∨ 246 ≤ x → g4 x = f x := fun x hx => by rw [fr4 x (by omega), b5 x hx, fr x hx]
      rw [iN_inj (by omega) (by omega), iN_inc]
      refine ⟨fun q => kk _ g4 (Or.inr (Or.inr ⟨n0, p, k + 1, by omega, by omega, rfl, q, i1⟩)) f4, fun q => k2 _ _ ⟨rfl, fun w' h1 h2 => ?_, f4⟩⟩
      by_cases z : w' = k + 1
      · rw [z]; exact q
      · exact i1 w' h1 (by omega)
    · rintro l g ⟨rfl, i1, fr⟩
      exact t_Tt_tightest_37 kc (brF (by decide) (kk _ g (Or.inr (Or.inr ⟨n0, p, 9, by omega, by omega, rfl, rfl, i1⟩)) fr))
theorem c_spare {Q : Int32 → Hp → Prop} {c : Nat} (kc : xS0 L c = (1, 0)) (hc : c + 12 ≤ 200) (w : wfC D) (cc : cC f c D) (kk : ∀ g, (∀ x, x < 200 ∨ 246 ≤ x → g x = f x) → Q (iN (SPARE D)) g) : CI L xs xm_Tt_spareOnes [.ref 200, .ref c] f Q := by
  have w5 := w.2.2.2.2.1
  have hF := w.1
  refine t_Tt_spareOnes_0 kc ?_
  by_cases n0 : dN D = 0
  · refine t_Tt_spareOnes_4 kc (c_members kc cc.1 (brT ((iN_lt (a := 0) (by omega) (by omega)).mpr (by omega)) ?_))
    rw [cc.2.2.2.2.1, n0]
    refine brF (by decide) ?_
    have := kk f fun _ _ => rfl
    rw [show SPARE D = 0 from if_pos n0] at this
    exact this
  · rw [show SPARE D = bN (fun m => ¬ dnT (SM D m) (dN D) = 1000000) (3 * dF D + 1) from if_neg n0] at kk
    refine for0 (3 * dF D + 1) (fun k l g => l = [.ref 200, .ref c, .int (iN (bN (fun m => ¬ dnT (SM D m) (dN D) = 1000000) k)), .int (iN k)] ∧ ∀ x, x < 200 ∨ 246 ≤ x → g x = f x) ⟨rfl, fun _ _ => rfl⟩ ?_ ?_
    · rintro k l g hk ⟨rfl, fr⟩ k2
      have cg : cC g c D := cc.fr fun a p q => fr a (by omega)
      refine t_Tt_spareOnes_4 kc (c_members kc cg.1 (brT ((iN_lt (b := _) (by omega) (by omega)).mpr (by omega)) (brT (by rw [cg.2.2.2.2.1]; exact ((iN_lt (a := 0) (by omega) (by omega)).mpr (by omega))) ?_)))
      rw [cg.2.1, cg.2.2.2.1, or1 _ _ (by omega)]
      refine c_plan (D := SM D k) kc hc (SM_wf w hk) w cg rfl fun g3 b1 b2 b3 b4 b5 => ?_
      have c3 : cC g3 c D := cg.fr fun a p q => b5 a (by omega)
      have dk := dnT_bt (SM_wf w hk) (s := dN D) (by omega)
      rw [c3.2.2.2.2.1]
      refine c_doneAt (D := SM D k) (SM_wf w hk) b1 b2 (by omega) fun g4 fr4 => ?_
      have f4 : ∀ x, x < 200 ∨ 246 ≤ x → g4 x = f x := fun x hx => by rw [fr4 x (by omega), b5 x hx, fr x hx]
      rw [iN_inc, or1 _ _ (by omega)]
      refine ⟨fun p => k2 _ _ ⟨?_, f4⟩, fun p => k2 _ _ ⟨?_, f4⟩⟩
      · rw [bN_s, if_neg (fun z => z ((iN_inj (b := 1000000) (by omega) (by omega)).mp p))]
      · rw [bN_s, if_pos (fun z => p (by rw [z]; rfl))]
    · rintro l g ⟨rfl, fr⟩
      have cg : cC g c D := cc.fr fun a p q => fr a (by omega)
      exact t_Tt_spareOnes_4 kc (c_members kc cg.1 (brF (fun z => absurd ((iN_lt (b := _) (by omega) (by omega)).mp z) (by omega)) (kk g fr)))
theorem r_sends {Q : Hp → Prop} {o m v a b : Nat} (w : wfC D) (hm : m < 7) (cu : cur f o D) (rc : rDl f o D) (ho : o ≤ 692) (hv : v ≤ 360 ∨ v = 1000000) (h1 : f 400 53 = iN a) (h2 : f 400 54 = eQ b) (hb : b ≤ 400) (kk : ∀ g, g 400 53 = iN (a + sdN D v m) → g 400 54 = eQ (max b (qtN D v m)) → (∀ j, ¬ j = 53 → ¬ j = 54 → g 400 j = f 400 j) → (∀ x, ¬ x = 400 → g x = f x) → Q g) : CV L xs xm_Mo_sends [.ref 400, .int (iN (rEn v)), .int (iN m)] f Q := by
  have hF := w.1
  have lv := rEn_le v
  refine t_Mo_sends_0 ?_
  by_cases big : v ≤ 400
  · have e1 : sdN D v m = cntW (fun b => ¬ b = m ∧ hon D b = true) (3 * dF D + 1) := if_pos big
    have e2 : qtN D v m = mxN (fun b => if ¬ b = m ∧ hon D b = true then v + dD D m b + 1 else 0) (3 * dF D + 1) := if_pos big
    rw [e1, e2] at kk
    rw [rEn_id (by omega)]
    refine brF (fun z => absurd ((iN_lt (a := 400) (by omega) (by omega)).mp z) (by omega)) ?_
    have bd : ∀ n, n ≤ 3 * dF D + 1 → mxN (fun b => if ¬ b = m ∧ hon D b = true then v + dD D m b + 1 else 0) n ≤ 400 := fun n hn => (mxN_le n).mpr fun i hi => by
      show (if ¬ i = m ∧ hon D i = true then v + dD D m i + 1 else 0) ≤ 400
      have := (w.2.2.2.2.2.2.2 m i hm (by omega)).2
      split <;> omega
    refine for0 (3 * dF D + 1) (fun k l g => l = [.ref 400, .int (iN v), .int (iN m), .int (iN k)] ∧ g 400 53 = iN (a + cntW (fun b => ¬ b = m ∧ hon D b = true) k) ∧ g 400 54 = eQ (max b (mxN (fun b => if ¬ b = m ∧ hon D b = true then v + dD D m b + 1 else 0) k)) ∧ (∀ j, ¬ j = 53 → ¬ j = 54 → g 400 j = f 400 j) ∧ ∀ x, ¬ x = 400 → g x = f x) ⟨rfl, h1, by rw [h2]; congr 1; unfold mxN; omega, fun _ _ _ => rfl, fun _ _ => rfl⟩ ?_ ?_
    · rintro k l g hk ⟨rfl, b1, b2, b3, b4⟩ k2
      have cg : cur g o D := cu.co fun j p q => b3 j (by omega) (by omega)
      have rg := rc.fr (b4 401 (by omega))
      have d9 := (w.2.2.2.2.2.2.2 m k hm (by omega)).2
      have bk := bd k (by omega)
      refine t_Mo_sends_10 ?_
      rw [cg.2.2.1, iN_inc]
      refine brT ((iN_lt (b := _) (by omega) (by omega)).mpr (by omega)) ⟨fun p => k2 _ _ ⟨rfl, ?_, ?_, b3, b4⟩, fun p => r_liar w cg hk (fun hh => br0 fun g2 e2 => ?_) fun hh => br1 (k2 _ _ ⟨rfl, ?_, ?_, b3, b4⟩)⟩
      · rw [b1, cntW_s, if_neg (fun z => z.1 ((iN_inj (by omega) (by omega)).mp p))]
      · rw [b2, mxN_s, if_neg (fun z => z.1 ((iN_inj (by omega) (by omega)).mp p)), Nat.max_zero]
      · have p : ¬ k = m := fun z => p (by rw [z])
        have cg2 : cur g2 o D := cg.co fun j p q => by rw [e2, xu_k (by omega)]
        have rg2 := rg.fr (g := g2) (by rw [e2, xu_a (by omega)])
        have q53 : g2 400 53 = iN (a + cntW (fun b => ¬ b = m ∧ hon D b = true) (k + 1)) := by rw [e2, xu_eq, b1, iN_inc, cntW_s, if_pos ⟨p, hh⟩]; rfl
        have q54 : g2 400 54 = eQ (max b (mxN (fun b => if ¬ b = m ∧ hon D b = true then v + dD D m b + 1 else 0) k)) := by rw [e2, xu_k (by omega)]; exact b2
        have nx : mxN (fun b => if ¬ b = m ∧ hon D b = true then v + dD D m b + 1 else 0) (k + 1) = max (mxN (fun b => if ¬ b = m ∧ hon D b = true then v + dD D m b + 1 else 0) k) (v + dD D m k + 1) := by rw [mxN_s, if_pos ⟨p, hh⟩]
        refine r_delayD cg2 rg2 ho hm (by omega) ?_
        rw [q54, iN_add, eQ_lt (by omega) (by omega)]
        refine ⟨fun y => r_delayD cg2 rg2 ho hm (by omega) fun g6 e6 => k2 _ _ ⟨rfl, ?_, ?_, fun j p q => by rw [e6, xu_k q, e2, xu_k p, b3 j p q], fun x hx => by rw [e6, xu_a hx, e2, xu_a hx, b4 x hx]⟩, fun y g4 e4 => k2 _ _ ⟨rfl, ?_, ?_, fun j p q => by rw [e4, xu_k q, e2, xu_k p, b3 j p q], fun x hx => by rw [e4, xu_a hx, e2, xu_a hx, b4 x hx]⟩⟩
        · rw [e6, xu_k (by omega)]; exact q53
        · rw [e6, xu_eq, iN_add, eQ_iN, nx]; congr 1; omega
        · rw [e4, xu_k (by omega)]; exact q53
        · rw [e4, xu_eq, nx]; congr 1; omega
      · rw [b1, cntW_s, if_neg (fun z => by rw [hh] at z; cases z.2)]
      · rw [b2, mxN_s, if_neg (fun z => by rw [hh] at z; cases z.2), Nat.max_zero]
    · rintro l g ⟨rfl, b1, b2, b3, b4⟩
      have cg : cur g o D := cu.co fun j p q => b3 j (by omega) (by omega)
      refine t_Mo_sends_10 ?_
      rw [cg.2.2.1]
      exact brF (fun z => absurd ((iN_lt (b := _) (by omega) (by omega)).mp z) (by omega)) (kk g b1 b2 b3 b4)
  · have e1 : sdN D v m = 0 := if_neg big
    have e2 : qtN D v m = 0 := if_neg big
    rw [e1, e2] at kk
    have ev : rEn v = 99999999 := if_pos (by omega)
    rw [ev]
    exact brT (by decide) (kk f h1 (by rw [h2]; congr 1; omega) (fun _ _ _ => rfl) fun _ _ => rfl)
theorem r_sendsAll0 {Q : Hp → Prop} {o : Nat} (w : wfC D) (wm : wfM D 10 t) (cu : cur f o D) (rc : rDl f o D) (ho : o ≤ 692) (rt : rTT f t) (kk : ∀ g, g 400 53 = iN (sumW (fun i => sumW (fun m => sdS D t (i + 1) m) (3 * dF D + 1)) 10) → g 400 54 = eQ (mxN (fun i => mxN (fun m => qtS D t (i + 1) m) (3 * dF D + 1)) 10) → (∀ j, ¬ j = 53 → ¬ j = 54 → g 400 j = f 400 j) → (∀ x, ¬ x = 400 → g x = f x) → Q g) : CV L xs xm_Mo_sendsAll [.ref 400] f Q := by
  have hF := w.1
  have w3 := w.2.2.1
  have bs : ∀ m s, 1 ≤ s → s ≤ 10 → (t.1 m s ≤ 360 ∨ t.1 m s = 1000000) ∧ (t.2.1 m s ≤ 360 ∨ t.2.1 m s = 1000000) ∧ (t.2.2.1 m s ≤ 360 ∨ t.2.2.1 m s = 1000000) := fun m s h1 h2 => by
    obtain ⟨b1, b2, b3, b4⟩ := wm.2.2.2.2.2 m s h1
    unfold bt at b1 b2 b3
    omega
  have bS : ∀ m s, m < 7 → 1 ≤ s → s ≤ 10 → qtS D t s m ≤ 400 := fun m s hm h1 h2 => qtS_le w hm ⟨h1, h2⟩ wm
  have bI : ∀ m n, m < 7 → n ≤ 10 → mxN (fun i => qtS D t (i + 1) m) n ≤ 400 := fun m n hm hn => (mxN_le n).mpr fun i hi => bS m (i + 1) hm (by omega) (by omega)
  obtain ⟨SA, hSA⟩ : ∃ SA : Nat → Nat, ∀ m, SA m = sumW (fun i => sdS D t (i + 1) m) 10 := ⟨_, fun _ => rfl⟩
  obtain ⟨QA, hQA⟩ : ∃ QA : Nat → Nat, ∀ m, QA m = mxN (fun i => qtS D t (i + 1) m) 10 := ⟨_, fun _ => rfl⟩
  have bO : ∀ n, n ≤ 7 → mxN QA n ≤ 400 := fun n hn => (mxN_le n).mpr fun m hm => by rw [hQA]; exact bI m 10 (by omega) (by omega)
  have eS : sumW (fun i => sumW (fun m => sdS D t (i + 1) m) (3 * dF D + 1)) 10 = sumW SA (3 * dF D + 1) := (sumW_swap _ _).trans (sumW_congr _ fun m _ => (hSA m).symm)
  have eT : mxN (fun i => mxN (fun m => qtS D t (i + 1) m) (3 * dF D + 1)) 10 = mxN QA (3 * dF D + 1) := (mxN_swap _ _).trans (mxN_congr _ fun m _ => (hQA m).symm)
  rw [eS, eT] at kk
  refine t_Mo_sendsAll_0 fun g1 e1 g2 e2 => ?_
  have j2 : ∀ j, ¬ j = 53 → ¬ j = 54 → g2 400 j = f 400 j := fun j p q => by rw [e2, xu_k q, e1, xu_k p]
  have x2 : ∀ x, ¬ x = 400 → g2 x = f x := fun x p => by rw [e2, xu_a p, e1, xu_a p]
  refine for0 (3 * dF D + 1) (fun k l g => ∃ y : Value, (y.category != 2) = true ∧ l = [.ref 400, .int (iN k), y] ∧ g 400 53 = iN (sumW SA k) ∧ g 400 54 = eQ (mxN QA k) ∧ (∀ j, ¬ j = 53 → ¬ j = 54 → g 400 j = f 400 j) ∧ ∀ x, ¬ x = 400 → g x = f x) ⟨_, rfl, rfl, by rw [e2, xu_k (by omega), e1, xu_eq]; rfl, by rw [e2, xu_eq]; rfl, j2, x2⟩ ?_ ?_
  · rintro k l g hk ⟨y, hy, rfl, b1, b2, b3, b4⟩ k2
    have cg : cur g o D := cu.co fun j p q => b3 j (by omega) (by omega)
    have bk := bO k (by omega)
    refine t_Mo_sendsAll_12 hy ?_
    rw [cg.2.2.1]
    refine brT ((iN_lt (b := _) (by omega) (by omega)).mpr (by omega)) ?_
    refine for0 10 (fun i l h => l = [.ref 400, .int (iN k), .int (iN (i + 1))] ∧ h 400 53 = iN (sumW SA k + sumW (fun i => sdS D t (i + 1) k) i) ∧ h 400 54 = eQ (max (mxN QA k) (mxN (fun i => qtS D t (i + 1) k) i)) ∧ (∀ j, ¬ j = 53 → ¬ j = 54 → h 400 j = f 400 j) ∧ ∀ x, ¬ x = 400 → h x = f x) ⟨rfl, by rw [b1]; rfl, by rw [b2, show mxN (fun i => qtS D t (i + 1) k) 0 = 0 from rfl, Nat.max_zero], b3, b4⟩ ?_ ?_
    · rintro i l h hi ⟨rfl, d1, d2, d3, d4⟩ k3
      obtain ⟨v1, v2, v3⟩ := bs k (i + 1) (by omega) (by omega)
      obtain ⟨t1, t2, t3, t4⟩ := rt k (i + 1) (by omega) (by omega) (by omega)
      have bi := bI k i (by omega) (by omega)
      have y1 := qtN_lt (m := k) w (by omega) (v1.imp id fun z => by omega)
      have y2 := qtN_lt (m := k) w (by omega) (v2.imp id fun z => by omega)
      have hd : (i + 1) % dS D < 5 := Nat.lt_of_lt_of_le (Nat.mod_lt _ (by omega)) (by omega)
      have cm : ∀ {h' : Hp}, (∀ j, ¬ j = 53 → ¬ j = 54 → h' 400 j = f 400 j) → cur h' o D := fun z => cu.co fun j p q => z j (by omega) (by omega)
      refine t_Mo_sendsAll_22 (brF (fun z => absurd ((iN_lt (a := 10) (by omega) (by omega)).mp z) (by omega)) (r_at ⟨13 * k + (i + 1), rfl, by omega, ?_⟩))
      rw [d4 427 (by omega), t1]
      refine r_sends w (by omega) (cm d3) (rc.fr (d4 401 (by omega))) ho v1 d1 d2 (by omega) fun h1 p1 p2 p3 p4 => r_at ⟨13 * k + (i + 1), rfl, by omega, ?_⟩
      have p3' : ∀ j, ¬ j = 53 → ¬ j = 54 → h1 400 j = f 400 j := fun j p q => by rw [p3 j p q, d3 j p q]
      have p4' : ∀ x, ¬ x = 400 → h1 x = f x := fun x p => by rw [p4 x p, d4 x p]
      rw [p4' 428 (by omega), t2]
      refine r_sends w (by omega) (cm p3') (rc.fr (p4' 401 (by omega))) ho v2 p1 p2 (by omega) fun h2 q1 q2 q3 q4 => ?_
      have q3' : ∀ j, ¬ j = 53 → ¬ j = 54 → h2 400 j = f 400 j := fun j p q => by rw [q3 j p q, p3' j p q]
      have q4' : ∀ x, ¬ x = 400 → h2 x = f x := fun x p => by rw [q4 x p, p4' x p]
      have c2 : cur h2 o D := cm q3'
      rw [c2.2.2.2.2.2.1, jrem_iN (by omega) (by omega), iN_inc]
      refine ⟨fun z => absurd ((iN_inj (b := 0) (by omega) (by omega)).mp z) (by omega), fun p => r_at ⟨13 * k + (i + 1), rfl, by omega, ?_⟩, fun p => k3 _ _ ⟨rfl, ?_, ?_, q3', q4'⟩⟩
      · have p := (iN_inj (b := 0) (by omega) (by omega)).mp p
        rw [q4' 429 (by omega), t3]
        refine r_sends w (by omega) c2 (rc.fr (q4' 401 (by omega))) ho v3 q1 q2 (by omega) fun h3 r1 r2 r3 r4 => k3 _ _ ⟨rfl, ?_, ?_, fun j p q => by rw [r3 j p q, q3' j p q], fun x p => by rw [r4 x p, q4' x p]⟩
        · rw [r1, sumW_s]
          unfold sdS
          rw [if_pos p]; exact congrArg iN (by omega)
        · rw [r2, mxN_s]
          unfold qtS
          rw [if_pos p]; exact congrArg eQ (by omega)
      · have p : ¬ (i + 1) % dS D = 0 := fun z => p (by rw [z]; rfl)
        rw [q1, sumW_s]
        unfold sdS
        rw [if_neg p]; exact congrArg iN (by omega)
      · have p : ¬ (i + 1) % dS D = 0 := fun z => p (by rw [z]; rfl)
        rw [q2, mxN_s]
        unfold qtS
        rw [if_neg p]; exact congrArg eQ (by omega)
    · rintro l h ⟨rfl, d1, d2, d3, d4⟩
      refine t_Mo_sendsAll_22 (brT (by decide) ?_)
      rw [iN_inc]
      exact k2 _ _ ⟨_, rfl, rfl, by rw [d1, ← hSA k]; rfl, by rw [d2, ← hQA k]; rfl, d3, d4⟩
  · rintro l g ⟨y, hy, rfl, b1, b2, b3, b4⟩
    have cg : cur g o D := cu.co fun j p q => b3 j (by omega) (by omega)
    refine t_Mo_sendsAll_12 hy ?_
    rw [cg.2.2.1]
    exact brF (fun z => absurd ((iN_lt (b := _) (by omega) (by omega)).mp z) (by omega)) (kk g b1 b2 b3 b4)
theorem r_sendsAll {Q : Hp → Prop} {o : Nat} (w : wfC D) (cu : cur f o D) (rc : rDl f o D) (ho : o ≤ 692) (rt : rTT f (ttF D)) (kk : ∀ g, g 400 53 = iN (SENT D) → g 400 54 = eQ (QUIET D) → (∀ j, ¬ j = 53 → ¬ j = 54 → g 400 j = f 400 j) → (∀ x, ¬ x = 400 → g x = f x) → Q g) : CV L xs xm_Mo_sendsAll [.ref 400] f Q := r_sendsAll0 w (wfM_F w) cu rc ho rt kk
theorem r_doneOf {Q : Int32 → Hp → Prop} {o s : Nat} (w : wfC D) (cu : cur f o D) (rt : rTT f (ttF D)) (hs : 1 ≤ s ∧ s ≤ 10) (kk : ∀ g, (∀ x, ¬ x = 431 → g x = f x) → Q (iN (rEn (dnT D s))) g) : CI L xs xm_Mo_doneOf [.ref 400, .int (iN s)] f Q := by
  have hF := w.1
  have wm := wfM_F w
  refine t_Mo_doneOf_0 ?_
  refine for0 7 (fun k l g => l = [.ref 400, .int (iN s), .int (iN k)] ∧ (∀ b, b < k → b < 3 * dF D + 1 → g 431 b = iN (rEn ((ttF D).2.2.1 b s))) ∧ ∀ x, ¬ x = 431 → g x = f x) ⟨rfl, fun b hb => absurd hb (by omega), fun _ _ => rfl⟩ ?_ ?_
  · rintro k l g hk ⟨rfl, b1, b2⟩ k2
    have cg := cu.fr (b2 400 (by omega))
    have fin : ∀ (v : Int32) (g2 : Hp), (k < 3 * dF D + 1 → v = iN (rEn ((ttF D).2.2.1 k s))) → g2 = xu g 431 k v → Wp L xs xm_Mo_doneOf 2 [.ref 400, .int (iN s), .int (iN k + 1)] [] g2 (QI Q) := by
      intro v g2 ev e2
      rw [iN_inc]
      refine k2 _ _ ⟨rfl, fun b hb hb2 => ?_, fun x hx => by rw [e2, xu_a hx, b2 x hx]⟩
      rw [e2, xu_at]
      by_cases e : b = k
      · subst e
        rw [if_pos ⟨rfl, rfl⟩, ev hb2]
      · rw [if_neg (by omega), b1 b (by omega) hb2]
    refine t_Mo_doneOf_2 (brT ((iN_lt (b := 7) (by omega) (by omega)).mpr (by omega)) ?_)
    rw [cg.2.2.1]
    by_cases hM : k < 3 * dF D + 1
    · refine brT ((iN_lt (b := _) (by omega) (by omega)).mpr (by omega)) (r_at ⟨13 * k + s, rfl, by omega, k, rfl, hk, fun g5 e5 => fin _ g5 (fun _ => ?_) e5⟩)
      rw [b2 429 (by omega)]
      exact (rt k s hk hs.1 hs.2).2.2.1
    · exact brF (fun z => absurd ((iN_lt (b := _) (by omega) (by omega)).mp z) (by omega)) ⟨k, rfl, hk, fun g3 e3 => fin _ g3 (fun z => absurd z hM) e3⟩
  · rintro l g ⟨rfl, b1, b2⟩
    have cg := cu.fr (b2 400 (by omega))
    have db := dnT_bt w hs
    have go : ∀ {Q' : Int32 → Hp → Prop}, Q' (iN (rEn (dnT D s))) g → CI L xs xm_Mo_manyCome [.ref 400, .int (iN (dF D + 1))] g Q' := fun h => r_manyCome (r := fun m => (ttF D).2.2.1 m s) cg.2.2.1 (by omega) (by omega) (fun b hb => b1 b (by omega) hb) (fun b _ => (wm.inf b s hs.2).2.1.1) h
    refine t_Mo_doneOf_2 (brF (by decide) ?_)
    rw [cg.2.1, iN_inc]
    refine go ?_
    rw [cg.2.1, iN_inc]
    have K := kk g b2
    rcases db with z | z
    · rw [rEn_id (by omega)] at K go ⊢
      exact brF (fun z => absurd ((iN_lt (a := 400) (by omega) (by omega)).mp z) (by omega)) (go K)
    · rw [z] at K ⊢
      exact brT (by decide) K
theorem r_slowestOf {Q : Int32 → Hp → Prop} {o : Nat} (w : wfC D) (cu : cur f o D) (rt : rTT f (ttF D)) (kk : ∀ v g, slP D v → (∀ x, ¬ x = 431 → g x = f x) → Q v g) : CI L xs xm_Mo_slowestOf [.ref 400] f Q := by
  have w5 := w.2.2.2.2.1
  refine t_Mo_slowestOf_0 ?_
  refine for0 (dN D) (fun k l g => ∃ (y : Value) (x1 x2 : Int32), (y.category != 2) = true ∧ l = [.ref 400, .int x1, .int x2, .int (iN (k + 1)), y] ∧ (k = 0 → x1 = -1) ∧ (¬ k = 0 → x1 = iN (slw D k).1 ∧ (slw D k).1 ≤ 10 ∧ x2 = iN (slw D k).2 ∧ (slw D k).2 ≤ 360) ∧ (∀ s, 1 ≤ s → s ≤ k → ¬ dnT D s = 1000000) ∧ ∀ x, ¬ x = 431 → g x = f x) ⟨_, _, _, rfl, rfl, fun _ => rfl, fun z => absurd rfl z, fun s h1 h2 => absurd h1 (by omega), fun _ _ => rfl⟩ ?_ ?_
  · rintro k l g hk ⟨y, x1, x2, hy, rfl, i0, i1, fi, fr⟩ k2
    have cg := cu.fr (fr 400 (by omega))
    have db := dnT_bt w (s := k + 1) (by omega)
    have dl := dnT_lo w (s := k + 1) (by omega)
    have lr := rEn_le (dnT D (k + 1))
    refine t_Mo_slowestOf_6 hy (brF (by rw [cg.2.2.2.2.2.2.2]; exact (fun z => absurd ((iN_lt (b := _) (by omega) (by omega)).mp z) (by omega))) (r_doneOf w cg (rt.fr fun x p q => fr x (by omega)) (by omega) fun g1 fr1 => ?_))
    have fr2 : ∀ x, ¬ x = 431 → g1 x = f x := fun x hx => by rw [fr1 x hx, fr x hx]
    have cg1 := cu.fr (fr2 400 (by omega))
    rw [show (99999999 : Int32) = iN 99999999 from rfl, iN_lt (by omega) (by omega), rEn_far (by omega)]
    refine ⟨fun p => ?_, fun p => kk _ g1 (Or.inl ⟨⟨k + 1, by omega, by omega, by omega⟩, rfl⟩) fr2⟩
    refine r_doneOf w cg1 (rt.fr fun x p q => fr2 x (by omega)) (by omega) fun g2 fr3 => ?_
    have fr4 : ∀ x, ¬ x = 431 → g2 x = f x := fun x hx => by rw [fr3 x hx, fr2 x hx]
    rw [rEn_id p, show iN (k + 1) - 1 = iN k from iN_sub (b := 1) (by omega), iN_sub (by omega), iN_inc]
    have fi' : ∀ s, 1 ≤ s → s ≤ k + 1 → ¬ dnT D s = 1000000 := fun s h1 h2 => by
      by_cases z : s = k + 1
      · rw [z]; omega
      · exact fi s h1 (by omega)
    by_cases z : k = 0
    · have e1 := i0 z
      subst e1
      refine brT rfl (k2 _ _ ⟨_, _, _, rfl, rfl, fun y => absurd y (by omega), fun _ => ?_, fi', fr4⟩)
      rw [slw_s, if_pos (Or.inl z)]
      exact ⟨rfl, by show k + 1 ≤ 10; omega, rfl, by show dnT D (k + 1) - k ≤ 360; omega⟩
    · obtain ⟨e1, e0, e2, e3⟩ := i1 z
      subst e1 e2
      refine brF (iN_ne1 (by omega)) ?_
      rw [iN_lt (by omega) (by omega)]
      refine ⟨fun q => k2 _ _ ⟨_, _, _, rfl, rfl, fun y => absurd y (by omega), fun _ => ?_, fi', fr4⟩, fun q => k2 _ _ ⟨_, _, _, rfl, rfl, fun y => absurd y (by omega), fun _ => ?_, fi', fr4⟩⟩
      · rw [slw_s, if_pos (Or.inr q)]
        exact ⟨rfl, by show k + 1 ≤ 10; omega, rfl, by show dnT D (k + 1) - k ≤ 360; omega⟩
      · rw [slw_s, if_neg (fun y => y.elim z q)]
        exact ⟨rfl, e0, rfl, e3⟩
  · rintro l g ⟨y, x1, x2, hy, rfl, i0, i1, fi, fr⟩
    have cg := cu.fr (fr 400 (by omega))
    refine t_Mo_slowestOf_6 hy (brT (by rw [cg.2.2.2.2.2.2.2]; exact ((iN_lt (b := _) (by omega) (by omega)).mpr (by omega))) (kk _ g (Or.inr ⟨fi, ?_⟩) fr))
    by_cases z : dN D = 0
    · rw [if_pos z]; exact i0 z
    · rw [if_neg z]; exact (i1 z).1
end PACE
