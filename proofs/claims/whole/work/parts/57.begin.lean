/-! the beginning of a run -/
def s0S (D : CD) : ST := fun j _ k => if j = 1 then 1 else if j = 6 then iN (dA D k) else if j = 5 ∨ j = 8 ∨ (11 ≤ j ∧ j ≤ 15) then -1 else 0
theorem s0_m {D : CD} {j m k : Nat} (h : j = 5 ∨ j = 8 ∨ (11 ≤ j ∧ j ≤ 15)) : s0S D j m k = -1 := by
  unfold s0S
  rw [if_neg (by omega), if_neg (by omega), if_pos h]
theorem s0_0 {D : CD} {j m k : Nat} (h : ¬ j = 1 ∧ ¬ j = 6 ∧ ¬ (j = 5 ∨ j = 8 ∨ (11 ≤ j ∧ j ≤ 15))) : s0S D j m k = 0 := by
  unfold s0S
  rw [if_neg h.1, if_neg h.2.1, if_neg h.2.2]
theorem s0_1 {D : CD} {m k : Nat} : s0S D 1 m k = 1 := rfl
theorem s0_6 {D : CD} {m k : Nat} : s0S D 6 m k = iN (dA D k) := rfl
theorem s0_wf {D : CD} : wfS D (s0S D) := by
  refine ⟨fun m hm => ⟨⟨0, by omega, s0_0 (by omega)⟩, Or.inr s0_1, ⟨0, by omega, s0_0 (by omega)⟩, ⟨0, by omega, s0_0 (by omega)⟩, Or.inl (s0_m (by omega))⟩, fun m s hm a b => ⟨Or.inl (s0_m (by omega)), ⟨0, by omega, s0_0 (by omega)⟩, ⟨0, by omega, s0_0 (by omega)⟩, fun _ => ⟨s0_0 (by omega), s0_0 (by omega)⟩, Or.inl (s0_m (by omega)), Or.inl (s0_m (by omega))⟩, fun m b hm hb => Or.inl (s0_m (by omega)), fun m hm z => ?_, fun m hm z s a b => s0_m (by omega), fun m a hm ha z => absurd (s0_m (by omega)) z, s0_0 (by omega), fun v hv => ⟨Or.inl (s0_0 (by omega)), fun z => absurd (s0_0 (by omega)) z⟩⟩
  rw [s0_1] at z
  exact absurd z (by decide)
theorem xu_n {f : Hp} {a k a' k' : Nat} {v : Int32} (h : ¬ k' = k) : xu f a k v a' k' = f a' k' := by rw [xu_at, if_neg (fun z => h z.2)]
/-- as FrA, but the first row may change -/
def FrZ (f g : Hp) : Prop := ∀ x, x < 75 ∨ 200 ≤ x → g x = f x
theorem FrZ.refl (f : Hp) : FrZ f f := fun _ _ => rfl
theorem FrZ.trans {f g h : Hp} (a : FrZ f g) (b : FrZ g h) : FrZ f h := fun x hx => by rw [b x hx, a x hx]
theorem FrA.z {f g : Hp} (a : FrA f g) : FrZ f g := fun x hx => a x (by omega)
section BEGIN
variable {L : Nat} {xs : Nat → Int32} {f g : Hp} {D : CD} {S S' : ST} {o0 : Nat}
theorem c_forgetRaw {Q : Hp → Prop} {m : Nat} (hm : m < 7) (kk : ∀ g, (∀ s, 1 ≤ s → s ≤ 12 → g (93 + 11 * m + 3) s = -1 ∧ g (93 + 11 * m + 4) s = 0 ∧ g (93 + 11 * m + 5) s = 0) → (∀ x, ¬ x = 93 + 11 * m + 3 → ¬ x = 93 + 11 * m + 4 → ¬ x = 93 + 11 * m + 5 → g x = f x) → Q g) : CV L xs xm_Me_forgetAccepted [.ref (93 + 11 * m), .int 12] f Q := by
  refine t_Me_forgetAccepted_0 (k_mem hm) ?_
  refine for0 12 (fun k l g => l = [.ref (93 + 11 * m), .int 12, .int (iN (k + 1))] ∧ (∀ s, 1 ≤ s → s ≤ k → g (93 + 11 * m + 3) s = -1 ∧ g (93 + 11 * m + 4) s = 0 ∧ g (93 + 11 * m + 5) s = 0) ∧ ∀ x, ¬ x = 93 + 11 * m + 3 → ¬ x = 93 + 11 * m + 4 → ¬ x = 93 + 11 * m + 5 → g x = f x) ⟨rfl, fun s a b => absurd a (by omega), fun _ _ _ _ => rfl⟩ ?_ ?_
  · rintro k l g hk ⟨rfl, b1, b2⟩ k2
    refine t_Me_forgetAccepted_2 (k_mem hm) (brF (fun z => absurd ((iN_lt (a := 12) (by omega) (by omega)).mp z) (by omega)) (brF (fun z => absurd ((iN_lt (a := 12) (by omega) (by omega)).mp z) (by omega)) ⟨k + 1, rfl, by omega, fun g1 e1 g2 e2 g3 e3 => ?_⟩))
    subst e1 e2 e3
    rw [iN_inc]
    refine k2 _ _ ⟨rfl, fun s a b => ?_, fun x p q r => by rw [xu_a r, xu_a q, xu_a p]; exact b2 x p q r⟩
    by_cases z : s = k + 1
    · subst z
      refine ⟨?_, ?_, xu_eq⟩
      · rw [xu_a (by omega), xu_a (by omega), xu_eq]
      · rw [xu_a (by omega), xu_eq]
    · obtain ⟨c1, c2, c3⟩ := b1 s a (by omega)
      refine ⟨?_, ?_, ?_⟩
      · rw [xu_n z, xu_n z, xu_n z]; exact c1
      · rw [xu_n z, xu_n z, xu_n z]; exact c2
      · rw [xu_n z, xu_n z, xu_n z]; exact c3
  · rintro l g ⟨rfl, b1, b2⟩
    exact t_Me_forgetAccepted_2 (k_mem hm) (brT (by decide) (kk g b1 b2))
theorem c_meBegin {Q : Hp → Prop} {m : Nat} (hm : m < 7) (cc : cC f 77 D) (kk : ∀ g, cMem g (93 + 11 * m) D (s0S D) m → (∀ x, x < 93 + 11 * m ∨ 104 + 11 * m ≤ x → g x = f x) → Q g) : CV L xs xm_Me_begin [.ref (93 + 11 * m), .ref 77] f Q := by
  have ka : xS0 L (93 + 11 * m) = (2, 0) := k_mem hm
  have kc : xS0 L 77 = (1, 0) := rfl
  refine t_Me_begin_0 ka kc fun g1 e1 g2 e2 g3 e3 g4 e4 g5 e5 g6 e6 => ?_
  have n6 : ∀ x, ¬ x = 93 + 11 * m → g6 x = f x := fun x hx => by rw [e6, xu_a hx, e5, xu_a hx, e4, xu_a hx, e3, xu_a hx, e2, xu_a hx, e1, xu_a hx]
  refine c_quorumSize (F := dF D) kc (by rw [n6 _ (by omega)]; exact cc.1) fun g8 e8 g9 e9 => ?_
  have x8 : g8 77 1 = iN (dW D) := by rw [e8, xu_a (by omega), n6 _ (by omega)]; exact cc.2.1
  rw [x8] at e9
  have n9 : ∀ x, ¬ x = 93 + 11 * m → g9 x = f x := fun x hx => by rw [e9, xu_a hx, e8, xu_a hx, n6 x hx]
  have v9 : g9 (93 + 11 * m) 0 = 0 ∧ g9 (93 + 11 * m) 1 = 1 ∧ g9 (93 + 11 * m) 2 = 0 ∧ g9 (93 + 11 * m) 3 = 0 ∧ g9 (93 + 11 * m) 4 = 0 ∧ g9 (93 + 11 * m) 5 = -1 ∧ g9 (93 + 11 * m) 6 = iN (2 * dF D + 1) ∧ g9 (93 + 11 * m) 7 = iN (dW D) := by
    subst e9 e8 e6 e5 e4 e3 e2 e1
    refine ⟨?_, ?_, ?_, ?_, ?_, ?_, ?_, ?_⟩ <;> simp [xu_at]
  refine c_copyAcc (kf_1_5 kc).2 (kf_2_8 ka).2 (by omega) (by omega) fun g10 a1 _ a2 => ?_
  refine c_forgetRaw hm fun g11 b1 b2 => ?_
  refine fill_go (kf_2_13 ka).2 fun g12 c1 c2 => fill_go (kf_2_14 ka).2 fun g13 d1 d2 => fill_go (kf_2_15 ka).2 fun g14 i1 i2 => fill_go (kf_2_16 ka).2 fun g15 j1 j2 => fill_go (kf_2_17 ka).2 fun g16 l1 l2 => ?_
  have n16 : ∀ x, ¬ x = 93 + 11 * m + 6 → ¬ x = 93 + 11 * m + 7 → ¬ x = 93 + 11 * m + 8 → ¬ x = 93 + 11 * m + 9 → ¬ x = 93 + 11 * m + 10 → g16 x = g11 x := fun x p q r s t => by rw [l2 x t, j2 x s, i2 x r, d2 x q, c2 x p]
  have h0 : g16 (93 + 11 * m) = g9 (93 + 11 * m) := by rw [n16 _ (by omega) (by omega) (by omega) (by omega) (by omega), b2 _ (by omega) (by omega) (by omega), a2 _ (by omega)]
  refine kk g16 ⟨fun j hj => ?_, by rw [h0]; exact v9.2.2.2.2.2.2.1, by rw [h0]; exact v9.2.2.2.2.2.2.2, fun i hi => ?_, fun z => absurd (s0_m (by omega)) z, fun j s hj p q => ?_, fun b hb => ?_, fun b hb z => absurd (s0_m (by omega)) z⟩ fun x hx => ?_
  · rw [h0]
    rcases (show j = 0 ∨ j = 1 ∨ j = 2 ∨ j = 3 ∨ j = 4 ∨ j = 5 by omega) with rfl | rfl | rfl | rfl | rfl | rfl
    · rw [v9.1]; exact (s0_0 (by omega)).symm
    · rw [v9.2.1]; rfl
    · rw [v9.2.2.1]; exact (s0_0 (by omega)).symm
    · rw [v9.2.2.2.1]; exact (s0_0 (by omega)).symm
    · rw [v9.2.2.2.2.1]; exact (s0_0 (by omega)).symm
    · rw [v9.2.2.2.2.2.1]; exact (s0_m (by omega)).symm
  · rw [n16 _ (by omega) (by omega) (by omega) (by omega) (by omega), b2 _ (by omega) (by omega) (by omega), a1 i hi, n9 _ (by omega), s0_6]
    exact cc.2.2.2.2.2.1 i hi
  · rcases (show j = 0 ∨ j = 1 ∨ j = 2 ∨ j = 3 ∨ j = 4 ∨ j = 5 by omega) with rfl | rfl | rfl | rfl | rfl | rfl
    · rw [s0_m (by omega), n16 _ (by omega) (by omega) (by omega) (by omega) (by omega)]; exact (b1 s p q).1
    · rw [s0_0 (by omega), n16 _ (by omega) (by omega) (by omega) (by omega) (by omega)]; exact (b1 s p q).2.1
    · rw [s0_0 (by omega), n16 _ (by omega) (by omega) (by omega) (by omega) (by omega)]; exact (b1 s p q).2.2
    · rw [s0_m (by omega), l2 _ (by omega), j2 _ (by omega), i2 _ (by omega), d2 _ (by omega)]; exact c1 s (by omega)
    · rw [s0_m (by omega), l2 _ (by omega), j2 _ (by omega), i2 _ (by omega)]; exact d1 s (by omega)
    · rw [s0_m (by omega), l2 _ (by omega), j2 _ (by omega)]; exact i1 s (by omega)
  · rw [s0_m (by omega), l2 _ (by omega)]; exact j1 b (by omega)
  · rw [n16 _ (by omega) (by omega) (by omega) (by omega) (by omega), b2 _ (by omega) (by omega) (by omega), a2 _ (by omega), n9 _ (by omega)]
theorem cMem.fr {a m : Nat} (h : cMem f a D S m) (e : ∀ x, a ≤ x → x < a + 11 → g x = f x) : cMem g a D S m := by
  obtain ⟨a1, a2, a3, a4, a5, a6, a7, a8⟩ := h
  refine ⟨fun j hj => by rw [e _ (by omega) (by omega)]; exact a1 j hj, by rw [e _ (by omega) (by omega)]; exact a2, by rw [e _ (by omega) (by omega)]; exact a3, fun i hi => by rw [e _ (by omega) (by omega)]; exact a4 i hi, fun z i hi => by rw [e _ (by omega) (by omega)]; exact a5 z i hi, fun j s hj p q => by rw [e _ (by omega) (by omega)]; exact a6 j s hj p q, fun b hb => by rw [e _ (by omega) (by omega)]; exact a7 b hb, fun b hb z => by rw [e _ (by omega) (by omega)]; exact a8 b hb z⟩
theorem c_begin {Q : Hp → Prop} {c : Nat} (w : wfC D) (kc : xS0 L c = (1, 0)) (hc : c + 12 ≤ 75) (cc : cC f c D) (kk : ∀ g, cA g D (s0S D) → FrZ f g → Q g) : CV L xs xm_As_begin [.ref 75, .ref c] f Q := by
  have k7 : xS0 L 77 = (1, 0) := rfl
  refine t_As_begin_0 kc (c_coTake k7 kc (by omega) fun g1 p1 p2 => ?_)
  have c1 : cC g1 77 D := p1.co w cc
  refine c_members k7 c1.1 fun g3 e3 => ?_
  have c3 : cC g3 77 D := c1.fr fun a p q => by rw [e3, xu_a (by omega)]
  refine c_quorumSize k7 c3.1 fun g5 e5 => ?_
  have n5 : ∀ x, ¬ x = 75 → g5 x = g1 x := fun x hx => by rw [e5, xu_a hx, e3, xu_a hx]
  have c5 : cC g5 77 D := c1.fr fun a p q => n5 a (by omega)
  have v4 : g5 75 4 = iN (3 * dF D + 1) := by rw [e5, xu_k (by omega), e3, xu_eq]
  have v5 : g5 75 5 = iN (2 * dF D + 1) := by rw [e5, xu_eq]
  refine for0 7 (fun k l g => l = [.ref 75, .ref c, .int (iN k)] ∧ (∀ m, m < k → cMem g (93 + 11 * m) D (s0S D) m) ∧ ∀ x, x < 93 ∨ 170 ≤ x → g x = g5 x) ⟨rfl, fun m hm => absurd hm (by omega), fun _ _ => rfl⟩ ?_ ?_
  · rintro k l g hk ⟨rfl, b1, b2⟩ k2
    refine t_As_begin_32 kc (brT ((iN_lt (b := 7) (by omega) (by omega)).mpr (by omega)) ⟨k, rfl, by omega, c_meBegin hk (c5.fr fun a p q => b2 a (by omega)) fun g6 d1 d2 => ?_⟩)
    rw [iN_inc]
    refine k2 _ _ ⟨rfl, fun m hm => ?_, fun x hx => by rw [d2 x (by omega), b2 x hx]⟩
    by_cases z : m = k
    · rw [z]; exact d1
    · exact (b1 m (by omega)).fr fun x p q => d2 x (by omega)
  · rintro l g ⟨rfl, b1, b2⟩
    refine t_As_begin_32 kc (brF (fun z => absurd ((iN_lt (b := 7) (by omega) (by omega)).mp z) (by omega)) ?_)
    refine for0 10 (fun k l g' => l = [.ref 75, .ref c, .int (iN k)] ∧ (∀ v, v < k → g' (170 + 3 * v) 0 = 0) ∧ ∀ x, x < 170 ∨ 200 ≤ x → g' x = g x) ⟨rfl, fun m hm => absurd hm (by omega), fun _ _ => rfl⟩ ?_ ?_
    · rintro k l g' hk ⟨rfl, d1, d2⟩ k2
      refine t_As_begin_59 kc (brF (fun z => absurd ((iN_lt (a := 9) (by omega) (by omega)).mp z) (by omega)) ⟨k, rfl, by omega, c_mgClear (k_view hk) fun g6 i0 _ _ _ _ i5 => ?_⟩)
      rw [iN_inc]
      refine k2 _ _ ⟨rfl, fun v hv => ?_, fun x hx => by rw [i5 x (by omega), d2 x hx]⟩
      by_cases z : v = k
      · rw [z]; exact i0
      · rw [i5 _ (by omega)]; exact d1 v (by omega)
    · rintro l g' ⟨rfl, d1, d2⟩
      refine t_As_begin_59 kc (brT (by decide) (kk g' ⟨?_, ?_, ?_, fun m hm => ?_, fun v hv => ?_⟩ fun x hx => ?_))
      · exact c5.fr fun a p q => by rw [d2 a (by omega), b2 a (by omega)]
      · rw [d2 _ (by omega), b2 _ (by omega)]; exact v4
      · rw [d2 _ (by omega), b2 _ (by omega)]; exact v5
      · exact (b1 m hm).fr fun x p q => d2 x (by omega)
      · refine ⟨?_, fun z => absurd (s0_0 (by omega)) z⟩
        rw [d1 v hv]; exact (s0_0 (by omega)).symm
      · rw [d2 x (by omega), b2 x (by omega), n5 x (by omega), p2 x (by omega)]
theorem r_begins {Q : Hp → Prop} (w : wfC D) (cu : cur f o0 D) (rc : rC f o0 D) (ho0 : o0 ≤ 692) (kk : ∀ g, rM g (s0S D) → g 400 43 = 0 → FrM f g → (∀ j, ¬ j = 43 → g 400 j = f 400 j) → Q g) : CV L xs xm_Mo_begins [.ref 400] f Q := by
  refine t_Mo_begins_0 fun g0 e0 => ?_
  have n0 : ∀ x, ¬ x = 400 → g0 x = f x := fun x hx => by rw [e0, xu_a hx]
  have o1 : g0 400 11 = iN o0 := by rw [e0, xu_k (by omega)]; exact cu.1
  refine for0 7 (fun k l g => ∃ y : Value, (y.category != 2) = true ∧ l = [.ref 400, .int (iN k), y] ∧ (∀ j m, j < 6 → m < k → g (406 + j) m = s0S D j m 0) ∧ (∀ m i, m < k → i < 8 → g 412 (8 * m + i) = iN (dA D i)) ∧ ∀ x, x < 406 ∨ 413 ≤ x → g x = g0 x) ⟨_, rfl, rfl, fun j m _ hm => absurd hm (by omega), fun m i hm => absurd hm (by omega), fun _ _ => rfl⟩ ?_ ?_
  · rintro k l g hk ⟨y, hy, rfl, b1, b2, b3⟩ k2
    refine t_Mo_begins_7 hy (brT ((iN_lt (b := 7) (by omega) (by omega)).mpr (by omega)) ⟨k, rfl, by omega, fun g1 e1 g2 e2 g3 e3 g4 e4 g5 e5 g6 e6 => ?_⟩)
    have v6 : ∀ j m, j < 6 → m < k + 1 → g6 (406 + j) m = s0S D j m 0 := fun j m hj hm => by
      by_cases z : m = k
      · subst z
        rcases (show j = 0 ∨ j = 1 ∨ j = 2 ∨ j = 3 ∨ j = 4 ∨ j = 5 by omega) with rfl | rfl | rfl | rfl | rfl | rfl
        · rw [s0_0 (by omega), e6, xu_a (by omega), e5, xu_a (by omega), e4, xu_a (by omega), e3, xu_a (by omega), e2, xu_a (by omega), e1, xu_eq]
        · rw [s0_1, e6, xu_a (by omega), e5, xu_a (by omega), e4, xu_a (by omega), e3, xu_a (by omega), e2, xu_eq]
        · rw [s0_0 (by omega), e6, xu_a (by omega), e5, xu_a (by omega), e4, xu_a (by omega), e3, xu_eq]
        · rw [s0_0 (by omega), e6, xu_a (by omega), e5, xu_a (by omega), e4, xu_eq]
        · rw [s0_0 (by omega), e6, xu_a (by omega), e5, xu_eq]
        · rw [s0_m (by omega), e6, xu_eq]
      · rw [e6, xu_n z, e5, xu_n z, e4, xu_n z, e3, xu_n z, e2, xu_n z, e1, xu_n z]; exact b1 j m hj (by omega)
    have n6 : ∀ x, x < 406 ∨ 412 ≤ x → g6 x = g x := fun x hx => by rw [e6, xu_a (by omega), e5, xu_a (by omega), e4, xu_a (by omega), e3, xu_a (by omega), e2, xu_a (by omega), e1, xu_a (by omega)]
    refine for0 8 (fun i l' g' => l' = [.ref 400, .int (iN k), .int (iN i)] ∧ (∀ m i', m < 7 → i' < 8 → g' 412 (8 * m + i') = if m = k ∧ i' < i then iN (dA D i') else g 412 (8 * m + i')) ∧ ∀ x, ¬ x = 412 → g' x = g6 x) ⟨rfl, fun m i' _ _ => by rw [if_neg (by omega), n6 _ (by omega)], fun _ _ => rfl⟩ ?_ ?_
    · rintro i l' g' hi ⟨rfl, d1, d2⟩ k3
      refine t_Mo_begins_57 (brT ((iN_lt (b := 8) (by omega) (by omega)).mpr (by omega)) ⟨o0 + 5 + i, ?_, by omega, 8 * k + i, by simp only [lit, iN_add, iN_mul], by omega, fun g7 e7 => ?_⟩)
      · rw [d2 _ (by omega), n6 _ (by omega), b3 _ (by omega), o1]
        simp only [lit, iN_add]
      · have x7 : g' 401 (o0 + 5 + i) = iN (dA D i) := by
          rw [d2 _ (by omega), n6 _ (by omega), b3 _ (by omega), n0 _ (by omega)]; exact rc.2.2.2.2.2.1 i hi
        rw [x7] at e7
        rw [iN_inc]
        refine k3 _ _ ⟨rfl, fun m i' hm hi' => ?_, fun x hx => by rw [e7, xu_a hx, d2 x hx]⟩
        rw [e7, xu_at]
        by_cases z : m = k ∧ i' = i
        · obtain ⟨rfl, rfl⟩ := z
          rw [if_pos ⟨rfl, rfl⟩, if_pos ⟨rfl, by omega⟩]
        · rw [if_neg (by omega), d1 m i' hm hi']
          by_cases u : m = k ∧ i' < i
          · rw [if_pos u, if_pos (by omega)]
          · rw [if_neg u, if_neg (by omega)]
    · rintro l' g' ⟨rfl, d1, d2⟩
      refine t_Mo_begins_57 (brF (fun z => absurd ((iN_lt (b := 8) (by omega) (by omega)).mp z) (by omega)) ?_)
      rw [iN_inc]
      refine k2 _ _ ⟨.int (iN 8), rfl, rfl, fun j m hj hm => by rw [d2 _ (by omega)]; exact v6 j m hj hm, fun m i hm hi => ?_, fun x hx => by rw [d2 x (by omega), n6 x (by omega), b3 x hx]⟩
      rw [d1 m i (by omega) hi]
      by_cases z : m = k
      · rw [if_pos ⟨z, hi⟩]
      · rw [if_neg (fun u => z u.1)]; exact b2 m i (by omega) hi
  · rintro l g ⟨y, hy, rfl, b1, b2, b3⟩
    refine t_Mo_begins_7 hy (brF (fun z => absurd ((iN_lt (b := 7) (by omega) (by omega)).mp z) (by omega)) ?_)
    refine for0 91 (fun k l' g' => l' = [.ref 400, .int (iN k), y] ∧ (∀ i, i < k → g' 414 i = -1 ∧ g' 415 i = 0 ∧ g' 416 i = 0 ∧ g' 417 i = -1 ∧ g' 418 i = -1 ∧ g' 419 i = -1) ∧ ∀ x, x < 414 ∨ 420 ≤ x → g' x = g x) ⟨rfl, fun i hi => absurd hi (by omega), fun _ _ => rfl⟩ ?_ ?_
    · rintro k l' g' hk ⟨rfl, d1, d2⟩ k2
      refine t_Mo_begins_101 hy (brT ((iN_lt (b := 91) (by omega) (by omega)).mpr (by omega)) ⟨k, rfl, by omega, fun g1 e1 g2 e2 g3 e3 g4 e4 g5 e5 g6 e6 => ?_⟩)
      rw [iN_inc]
      refine k2 _ _ ⟨rfl, fun i hi => ?_, fun x hx => by rw [e6, xu_a (by omega), e5, xu_a (by omega), e4, xu_a (by omega), e3, xu_a (by omega), e2, xu_a (by omega), e1, xu_a (by omega), d2 x hx]⟩
      by_cases z : i = k
      · subst z
        refine ⟨?_, ?_, ?_, ?_, ?_, ?_⟩
        · rw [e6, xu_a (by omega), e5, xu_a (by omega), e4, xu_a (by omega), e3, xu_a (by omega), e2, xu_a (by omega), e1, xu_eq]
        · rw [e6, xu_a (by omega), e5, xu_a (by omega), e4, xu_a (by omega), e3, xu_a (by omega), e2, xu_eq]
        · rw [e6, xu_a (by omega), e5, xu_a (by omega), e4, xu_a (by omega), e3, xu_eq]
        · rw [e6, xu_a (by omega), e5, xu_a (by omega), e4, xu_eq]
        · rw [e6, xu_a (by omega), e5, xu_eq]
        · rw [e6, xu_eq]
      · simp only [e6, e5, e4, e3, e2, e1, xu_n z]
        exact d1 i (by omega)
    · rintro l' g' ⟨rfl, d1, d2⟩
      refine t_Mo_begins_101 hy (brF (fun z => absurd ((iN_lt (b := 91) (by omega) (by omega)).mp z) (by omega)) ?_)
      refine for0 49 (fun k l' h' => l' = [.ref 400, .int (iN k), y] ∧ (∀ i, i < k → h' 420 i = -1) ∧ ∀ x, ¬ x = 420 → h' x = g' x) ⟨rfl, fun i hi => absurd hi (by omega), fun _ _ => rfl⟩ ?_ ?_
      · rintro k l' h' hk ⟨rfl, i1, i2⟩ k2
        refine t_Mo_begins_157 hy (brT ((iN_lt (b := 49) (by omega) (by omega)).mpr (by omega)) ⟨k, rfl, by omega, fun g1 e1 => ?_⟩)
        rw [iN_inc]
        refine k2 _ _ ⟨rfl, fun i hi => ?_, fun x hx => by rw [e1, xu_a hx, i2 x hx]⟩
        by_cases z : i = k
        · rw [z, e1, xu_eq]
        · rw [e1, xu_k z]; exact i1 i (by omega)
      · rintro l' h' ⟨rfl, i1, i2⟩
        refine t_Mo_begins_157 hy (brF (fun z => absurd ((iN_lt (b := 49) (by omega) (by omega)).mp z) (by omega)) ?_)
        refine for0 10 (fun k l' p' => l' = [.ref 400, .int (iN k), y] ∧ (∀ i, i < k → p' 422 i = 0) ∧ ∀ x, ¬ x = 422 → p' x = h' x) ⟨rfl, fun i hi => absurd hi (by omega), fun _ _ => rfl⟩ ?_ ?_
        · rintro k l' p' hk ⟨rfl, j1, j2⟩ k2
          refine t_Mo_begins_178 hy (brT ((iN_lt (b := 10) (by omega) (by omega)).mpr (by omega)) ⟨k, rfl, by omega, fun g1 e1 => ?_⟩)
          rw [iN_inc]
          refine k2 _ _ ⟨rfl, fun i hi => ?_, fun x hx => by rw [e1, xu_a hx, j2 x hx]⟩
          by_cases z : i = k
          · rw [z, e1, xu_eq]
          · rw [e1, xu_k z]; exact j1 i (by omega)
        · rintro l' p' ⟨rfl, j1, j2⟩
          have nx : ∀ x, x < 406 → p' x = g0 x := fun x hx => by rw [j2 x (by omega), i2 x (by omega), d2 x (by omega), b3 x (by omega)]
          refine t_Mo_begins_178 hy (brF (fun z => absurd ((iN_lt (b := 10) (by omega) (by omega)).mp z) (by omega)) (kk p' ⟨fun j m hj hm => ?_, fun m i hm hi => ?_, fun m i hm hi z => absurd (s0_m (by omega)) z, fun j m s hj hm p q => ?_, fun m b hm hb => ?_, fun m b hm hb z => absurd (s0_m (by omega)) z, fun v hv => ⟨?_, fun z => absurd (s0_0 (by omega)) z⟩⟩ ?_ (fun x hx hy' => ?_) fun j hj => ?_))
          · rw [j2 _ (by omega), i2 _ (by omega), d2 _ (by omega)]; exact b1 j m hj hm
          · rw [j2 _ (by omega), i2 _ (by omega), d2 _ (by omega), s0_6]; exact b2 m i hm hi
          · rw [j2 _ (by omega), i2 _ (by omega)]
            obtain ⟨q1, q2, q3, q4, q5, q6⟩ := d1 (13 * m + s) (by omega)
            rcases (show j = 0 ∨ j = 1 ∨ j = 2 ∨ j = 3 ∨ j = 4 ∨ j = 5 by omega) with rfl | rfl | rfl | rfl | rfl | rfl
            · rw [s0_m (by omega)]; exact q1
            · rw [s0_0 (by omega)]; exact q2
            · rw [s0_0 (by omega)]; exact q3
            · rw [s0_m (by omega)]; exact q4
            · rw [s0_m (by omega)]; exact q5
            · rw [s0_m (by omega)]; exact q6
          · rw [j2 _ (by omega), s0_m (by omega)]; exact i1 _ (by omega)
          · rw [j1 v hv]; exact (s0_0 (by omega)).symm
          · rw [nx _ (by omega), e0, xu_eq]
          · by_cases z : x < 406
            · rw [nx x z, n0 x hy']
            · rw [j2 x (by omega), i2 x (by omega), d2 x (by omega), b3 x (by omega), n0 x hy']
          · rw [nx _ (by omega), e0, xu_k hj]
end BEGIN
