/-! image, again: all that is told is copied -/
def cpC (f g : Hp) (c d : Nat) : Prop := (∀ k, k < 5 → g d k = f c k) ∧ (∀ i, i < 8 → g (d + 1) i = f (c + 1) i) ∧ (∀ i, i < 10 → g (d + 2) i = f (c + 2) i ∧ g (d + 3) i = f (c + 3) i) ∧ ∀ a b, a < 7 → b < 7 → g (d + 5 + a) b = f (c + 5 + a) b
def cpR (f g : Hp) (c d : Nat) : Prop := g d 0 = f c 0 ∧ ∀ k, k < 40 → g (d + 1) k = f (c + 1) k ∧ g (d + 2) k = f (c + 2) k ∧ g (d + 3) k = f (c + 3) k ∧ g (d + 4) k = f (c + 4) k
def cpP (f g : Hp) (c d : Nat) : Prop := g d 0 = f c 0 ∧ ∀ k, k < 12 → g (d + 1) k = f (c + 1) k ∧ g (d + 2) k = f (c + 2) k ∧ g (d + 3) k = f (c + 3) k
section COPY
variable {L : Nat} {xs : Nat → Int32} {f g h : Hp} {T : TD} {c d : Nat}
theorem cpC.co {D : CD} (w : wfC D) (p : cpC f g c d) (cc : cC f c D) : cC g d D := by
  obtain ⟨c1, c2, c3, c4, c5, c6, c7, c8⟩ := cc
  obtain ⟨p1, p2, p3, p4⟩ := p
  have wn := w.2.2.2.2.1
  exact ⟨by rw [p1 _ (by omega)]; exact c1, by rw [p1 _ (by omega)]; exact c2, by rw [p1 _ (by omega)]; exact c3, by rw [p1 _ (by omega)]; exact c4, by rw [p1 _ (by omega)]; exact c5, fun i hi => by rw [p2 i hi]; exact c6 i hi, fun j hj => by rw [(p3 j (by omega)).1, (p3 j (by omega)).2]; exact c7 j hj, fun a b ha hb => by rw [p4 a b ha hb]; exact c8 a b ha hb⟩
theorem cpR.co {D : RD} (w : wfR D) (p : cpR f g c d) (cc : cR f c D) : cR g d D := by
  have wn := w.1
  refine ⟨by rw [p.1]; exact cc.1, fun k hk => ?_⟩
  obtain ⟨p1, p2, p3, p4⟩ := p.2 k (by omega)
  rw [p1, p2, p3, p4]
  exact cc.2 k hk
theorem cpP.co {D : PD} (w : wfP D) (p : cpP f g c d) (cc : cP f c D) : cP g d D := by
  have wn := w.1
  refine ⟨by rw [p.1]; exact cc.1, fun k hk => ?_⟩
  obtain ⟨p1, p2, p3⟩ := p.2 k (by omega)
  rw [p1, p2, p3]
  exact cc.2 k hk
theorem cpC.fr (p : cpC f g c d) (e : ∀ a, d ≤ a → a < d + 12 → h a = g a) : cpC f h c d := by
  obtain ⟨p1, p2, p3, p4⟩ := p
  exact ⟨fun k hk => by rw [e d (by omega) (by omega)]; exact p1 k hk, fun k hk => by rw [e (d + 1) (by omega) (by omega)]; exact p2 k hk, fun k hk => by rw [e (d + 2) (by omega) (by omega), e (d + 3) (by omega) (by omega)]; exact p3 k hk, fun a b ha hb => by rw [e (d + 5 + a) (by omega) (by omega)]; exact p4 a b ha hb⟩
theorem cpR.fr (p : cpR f g c d) (e : ∀ a, d ≤ a → a < d + 5 → h a = g a) : cpR f h c d := by
  unfold cpR
  rw [e d (by omega) (by omega), e (d + 1) (by omega) (by omega), e (d + 2) (by omega) (by omega), e (d + 3) (by omega) (by omega), e (d + 4) (by omega) (by omega)]
  exact p
theorem cpP.fr (p : cpP f g c d) (e : ∀ a, d ≤ a → a < d + 4 → h a = g a) : cpP f h c d := by
  unfold cpP
  rw [e d (by omega) (by omega), e (d + 1) (by omega) (by omega), e (d + 2) (by omega) (by omega), e (d + 3) (by omega) (by omega)]
  exact p
theorem cpC.src {f' : Hp} (p : cpC f g c d) (e : ∀ a, c ≤ a → a < c + 12 → f a = f' a) : cpC f' g c d := by
  obtain ⟨p1, p2, p3, p4⟩ := p
  exact ⟨fun k hk => by rw [← e c (by omega) (by omega)]; exact p1 k hk, fun k hk => by rw [← e (c + 1) (by omega) (by omega)]; exact p2 k hk, fun k hk => by rw [← e (c + 2) (by omega) (by omega), ← e (c + 3) (by omega) (by omega)]; exact p3 k hk, fun a b ha hb => by rw [← e (c + 5 + a) (by omega) (by omega)]; exact p4 a b ha hb⟩
theorem cpR.src {f' : Hp} (p : cpR f g c d) (e : ∀ a, c ≤ a → a < c + 5 → f a = f' a) : cpR f' g c d := by
  unfold cpR
  rw [← e c (by omega) (by omega), ← e (c + 1) (by omega) (by omega), ← e (c + 2) (by omega) (by omega), ← e (c + 3) (by omega) (by omega), ← e (c + 4) (by omega) (by omega)]
  exact p
theorem cpP.src {f' : Hp} (p : cpP f g c d) (e : ∀ a, c ≤ a → a < c + 4 → f a = f' a) : cpP f' g c d := by
  unfold cpP
  rw [← e c (by omega) (by omega), ← e (c + 1) (by omega) (by omega), ← e (c + 2) (by omega) (by omega), ← e (c + 3) (by omega) (by omega)]
  exact p
theorem c_coTake {Q : Hp → Prop} (kd : xS0 L d = (1, 0)) (kc : xS0 L c = (1, 0)) (hd : d + 12 ≤ c ∨ c + 12 ≤ d) (kk : ∀ g, cpC f g c d → (∀ x, x < d ∨ d + 12 ≤ x → g x = f x) → Q g) : CV L xs xm_Co_take [.ref d, .ref c] f Q := by
  refine t_Co_take_0 kd kc fun g1 e1 g2 e2 g3 e3 g4 e4 g5 e5 => c_copyAcc (kf_1_5 kc).2 (kf_1_5 kd).2 (by omega) (by omega) fun g6 a1 a2 a3 g7 e7 g8 e8 => ?_
  have hcd : ¬ c = d := by omega
  have n5 : ∀ x, ¬ x = d → g5 x = f x := fun x hx => by rw [e5, xu_a hx, e4, xu_a hx, e3, xu_a hx, e2, xu_a hx, e1, xu_a hx]
  have d5 : ∀ k, k < 5 → g5 d k = f c k := fun k hk => by
    have : k = 0 ∨ k = 1 ∨ k = 2 ∨ k = 3 ∨ k = 4 := by omega
    subst e5 e4 e3 e2 e1
    rcases this with t | t | t | t | t <;> subst t <;> simp [xu_at, hcd]
  have n8 : ∀ x, ¬ x = d + 1 → ¬ x = d + 2 → ¬ x = d + 3 → g8 x = g5 x := fun x p q r => by rw [e8, xuc_a r, e7, xuc_a q, a3 x p]
  have q1 : ∀ i, i < 8 → g8 (d + 1) i = f (c + 1) i := fun i hi => by rw [e8, xuc_a (by omega), e7, xuc_a (by omega), a1 i hi, n5 _ (by omega)]
  have q2 : ∀ i, i < 10 → g8 (d + 2) i = f (c + 2) i ∧ g8 (d + 3) i = f (c + 3) i := fun i hi => by
    refine ⟨?_, ?_⟩
    · rw [e8, xuc_a (by omega), e7, xuc_eq, cpy_at, if_pos hi, a3 _ (by omega), n5 _ (by omega)]
    · rw [e8, xuc_eq, cpy_at, if_pos hi, e7, xuc_a (by omega), a3 _ (by omega), n5 _ (by omega)]
  refine for0 7 (fun k l g => l = [.ref d, .ref c, .int (iN k)] ∧ (∀ a, a < k → ∀ b, b < 7 → g (d + 5 + a) b = f (c + 5 + a) b) ∧ ∀ x, x < d + 5 ∨ d + 12 ≤ x → g x = g8 x) ⟨rfl, fun a ha => absurd ha (by omega), fun _ _ => rfl⟩ ?_ ?_
  · rintro k l g hk ⟨rfl, b1, b2⟩ k2
    refine t_Co_take_83 kd kc (brT ((iN_lt (b := 7) (by omega) (by omega)).mpr (by omega)) ⟨k, rfl, by omega, fun h1 e => ?_⟩)
    rw [iN_inc]
    refine k2 _ _ ⟨rfl, fun a ha b hb => ?_, fun x hx => by rw [e, xuc_a (by omega), b2 x hx]⟩
    rw [e, xuc_at]
    by_cases t : a = k
    · subst t
      rw [if_pos rfl, cpy_at, if_pos hb, b2 _ (by omega), n8 _ (by omega) (by omega) (by omega), n5 _ (by omega)]
    · rw [if_neg (by omega)]; exact b1 a (by omega) b hb
  · rintro l g ⟨rfl, b1, b2⟩
    refine t_Co_take_83 kd kc (brF (by decide) (kk g ⟨fun k hk => ?_, fun i hi => ?_, fun i hi => ?_, fun a b ha hb => b1 a ha b hb⟩ fun x hx => ?_))
    · rw [b2 d (by omega), n8 d (by omega) (by omega) (by omega)]; exact d5 k hk
    · rw [b2 _ (by omega)]; exact q1 i hi
    · rw [b2 _ (by omega), b2 _ (by omega)]; exact q2 i hi
    · rw [b2 x (by omega), n8 x (by omega) (by omega) (by omega), n5 x (by omega)]
theorem c_ruTake {Q : Hp → Prop} (kd : xS0 L d = (6, 0)) (kc : xS0 L c = (6, 0)) (hd : d + 5 ≤ c ∨ c + 5 ≤ d) (kk : ∀ g, cpR f g c d → (∀ x, x < d ∨ d + 5 ≤ x → g x = f x) → Q g) : CV L xs xm_Ru_take [.ref d, .ref c] f Q := by
  refine t_Ru_take_0 kd kc fun g1 e1 g2 e2 g3 e3 g4 e4 g5 e5 => kk g5 ⟨?_, fun k hk => ⟨?_, ?_, ?_, ?_⟩⟩ fun x hx => ?_
  · rw [e5, xuc_a (by omega), e4, xuc_a (by omega), e3, xuc_a (by omega), e2, xuc_a (by omega), e1, xu_eq]
  · rw [e5, xuc_a (by omega), e4, xuc_a (by omega), e3, xuc_a (by omega), e2, xuc_eq, cpy_at, if_pos hk, e1, xu_a (by omega)]
  · rw [e5, xuc_a (by omega), e4, xuc_a (by omega), e3, xuc_eq, cpy_at, if_pos hk, e2, xuc_a (by omega), e1, xu_a (by omega)]
  · rw [e5, xuc_a (by omega), e4, xuc_eq, cpy_at, if_pos hk, e3, xuc_a (by omega), e2, xuc_a (by omega), e1, xu_a (by omega)]
  · rw [e5, xuc_eq, cpy_at, if_pos hk, e4, xuc_a (by omega), e3, xuc_a (by omega), e2, xuc_a (by omega), e1, xu_a (by omega)]
  · rw [e5, xuc_a (by omega), e4, xuc_a (by omega), e3, xuc_a (by omega), e2, xuc_a (by omega), e1, xu_a (by omega)]
theorem c_rpTake {Q : Hp → Prop} (kd : xS0 L d = (5, 0)) (kc : xS0 L c = (5, 0)) (hd : d + 4 ≤ c ∨ c + 4 ≤ d) (kk : ∀ g, cpP f g c d → (∀ x, x < d ∨ d + 4 ≤ x → g x = f x) → Q g) : CV L xs xm_Rp_take [.ref d, .ref c] f Q := by
  refine t_Rp_take_0 kd kc fun g1 e1 g2 e2 g3 e3 g4 e4 => kk g4 ⟨?_, fun k hk => ⟨?_, ?_, ?_⟩⟩ fun x hx => ?_
  · rw [e4, xuc_a (by omega), e3, xuc_a (by omega), e2, xuc_a (by omega), e1, xu_eq]
  · rw [e4, xuc_a (by omega), e3, xuc_a (by omega), e2, xuc_eq, cpy_at, if_pos hk, e1, xu_a (by omega)]
  · rw [e4, xuc_a (by omega), e3, xuc_eq, cpy_at, if_pos hk, e2, xuc_a (by omega), e1, xu_a (by omega)]
  · rw [e4, xuc_eq, cpy_at, if_pos hk, e3, xuc_a (by omega), e2, xuc_a (by omega), e1, xu_a (by omega)]
  · rw [e4, xuc_a (by omega), e3, xuc_a (by omega), e2, xuc_a (by omega), e1, xu_a (by omega)]
theorem c_toTake {Q : Hp → Prop} {t u : Nat} (kt : xS0 L t = (10, 0)) (ku : xS0 L u = (10, 0)) (hd : t + 48 ≤ u ∨ u + 48 ≤ t) (w : wfT T) (cT0 : cT f u T) (kk : ∀ g, cT g t T → (∀ x, x < t ∨ t + 48 ≤ x → g x = f x) → Q g) : CV L xs xm_To_take [.ref t, .ref u] f Q := by
  obtain ⟨w1, w2, w3, w4, w5, w6⟩ := id w
  obtain ⟨c1, c2, c3, c4, c5, c6, c7, c8⟩ := id cT0
  have z0 := w3 0 (by omega)
  have z1 := w3 1 (by omega)
  have z2 := w3 2 (by omega)
  refine t_To_take_0 kt ku fun g1 e1 g2 e2 g3 e3 g4 e4 g5 e5 => ?_
  have hut : ¬ u = t := by omega
  have hut1 : ¬ u = t + 1 := by omega
  have n5 : ∀ x, ¬ x = t → ¬ x = t + 1 → ¬ x = t + 2 → g5 x = f x := fun x p q r => by rw [e5, xuc_a r, e4, xu_a p, e3, xu_a p, e2, xu_a p, e1, xuc_a q]
  have h1 : g5 t 1 = f u 1 := by rw [e5, xuc_a (by omega), e4, xu_k (by omega), e3, xu_k (by omega), e2, xu_eq, e1, xuc_a hut1]
  have h2 : g5 t 2 = f u 2 := by rw [e5, xuc_a (by omega), e4, xu_k (by omega), e3, xu_eq, e2, xu_a hut, e1, xuc_a hut1]
  have h3 : g5 t 3 = f u 3 := by rw [e5, xuc_a (by omega), e4, xu_eq, e3, xu_a hut, e2, xu_a hut, e1, xuc_a hut1]
  have h4 : ∀ i, i < 600 → g5 (t + 1) i = f (u + 1) i := fun i hi => by rw [e5, xuc_a (by omega), e4, xu_a (by omega), e3, xu_a (by omega), e2, xu_a (by omega), e1, xuc_eq, cpy_at, if_pos hi]
  have h5 : ∀ i, i < 3 → g5 (t + 2) i = f (u + 2) i := fun i hi => by rw [e5, xuc_eq, cpy_at, if_pos hi, e4, xu_a (by omega), e3, xu_a (by omega), e2, xu_a (by omega), e1, xuc_a (by omega)]
  refine for0 2 (fun k l g => l = [.ref t, .ref u, .int (iN k)] ∧ (∀ a, a < k → cpC f g (u + 6 + 21 * a) (t + 6 + 21 * a) ∧ cpR f g (u + 18 + 21 * a) (t + 18 + 21 * a) ∧ cpP f g (u + 23 + 21 * a) (t + 23 + 21 * a)) ∧ ∀ x, x < t + 6 ∨ t + 48 ≤ x → g x = g5 x) ⟨rfl, fun a ha => absurd ha (by omega), fun _ _ => rfl⟩ ?_ ?_
  · rintro k l g hk ⟨rfl, b1, b2⟩ k2
    have hx : ∀ x, x < t ∨ t + 48 ≤ x → g x = f x := fun x hx => by rw [b2 x (by omega), n5 x (by omega) (by omega) (by omega)]
    have kc1 := (ke_26 (kf_10_5 kt).2 hk).2
    have kc2 := (ke_26 (kf_10_5 ku).2 hk).2
    have kr1 := (ke_27 (kf_10_6 kt).2 hk).2
    have kr2 := (ke_27 (kf_10_6 ku).2 hk).2
    have kp1 := (ke_28 (kf_10_7 kt).2 hk).2
    have kp2 := (ke_28 (kf_10_7 ku).2 hk).2
    rw [show t + 3 + 3 + 21 * k = t + 6 + 21 * k by omega] at kc1
    rw [show u + 3 + 3 + 21 * k = u + 6 + 21 * k by omega] at kc2
    rw [show t + 4 + 14 + 21 * k = t + 18 + 21 * k by omega] at kr1
    rw [show u + 4 + 14 + 21 * k = u + 18 + 21 * k by omega] at kr2
    rw [show t + 5 + 18 + 21 * k = t + 23 + 21 * k by omega] at kp1
    rw [show u + 5 + 18 + 21 * k = u + 23 + 21 * k by omega] at kp2
    refine t_To_take_56 kt ku (brT ((iN_lt (b := 2) (by omega) (by omega)).mpr (by omega)) ⟨k, rfl, by omega, c_coTake kc1 kc2 (by omega) fun h1 p1 q1 => c_ruTake kr1 kr2 (by omega) fun h2 p2 q2 => c_rpTake kp1 kp2 (by omega) fun h3 p3 q3 => ?_⟩)
    rw [iN_inc]
    refine k2 _ _ ⟨rfl, fun a ha => ?_, fun x hx => by rw [q3 x (by omega), q2 x (by omega), q1 x (by omega), b2 x hx]⟩
    by_cases e : a = k
    · subst e
      refine ⟨(p1.fr fun x y z => by rw [q3 x (by omega), q2 x (by omega)]).src fun x y z => hx x (by omega), (p2.fr fun x y z => by rw [q3 x (by omega)]).src fun x y z => by rw [q1 x (by omega), hx x (by omega)], p3.src fun x y z => by rw [q2 x (by omega), q1 x (by omega), hx x (by omega)]⟩
    · obtain ⟨r1, r2, r3⟩ := b1 a (by omega)
      exact ⟨r1.fr fun x y z => by rw [q3 x (by omega), q2 x (by omega), q1 x (by omega)], r2.fr fun x y z => by rw [q3 x (by omega), q2 x (by omega), q1 x (by omega)], r3.fr fun x y z => by rw [q3 x (by omega), q2 x (by omega), q1 x (by omega)]⟩
  · rintro l g ⟨rfl, b1, b2⟩
    refine t_To_take_56 kt ku (brF (by decide) (kk g ⟨?_, ?_, ?_, fun i hi => ?_, fun s hs => ?_, fun k hk => ?_, fun k hk => ?_, fun k hk => ?_⟩ fun x hx => by rw [b2 x (by omega), n5 x (by omega) (by omega) (by omega)]))
    · rw [b2 t (by omega), h1]; exact c1
    · rw [b2 t (by omega), h2]; exact c2
    · rw [b2 t (by omega), h3]; exact c3
    · rw [b2 _ (by omega), h4 i hi]; exact c4 i hi
    · rw [b2 _ (by omega), h5 s hs]; exact c5 s hs
    · exact (b1 k (by omega)).1.co (w4 k hk) (c6 k hk)
    · exact (b1 k (by omega)).2.1.co (w5 k hk) (c7 k hk)
    · exact (b1 k (by omega)).2.2.co (w6 k hk) (c8 k hk)
/-- the reference's rows, moved -/
theorem rC.mv {o o' : Nat} {D : CD} (h : rC f o D) (w : wfC D) (e : ∀ i, i < 82 → g 401 (o' + i) = f 401 (o + i)) : rC g o' D := by
  obtain ⟨c1, c2, c3, c4, c5, c6, c7, c8⟩ := h
  have wn := w.2.2.2.2.1
  have e0 := e 0 (by omega)
  rw [Nat.add_zero, Nat.add_zero] at e0
  refine ⟨by rw [e0]; exact c1, by rw [e 1 (by omega)]; exact c2, by rw [e 2 (by omega)]; exact c3, by rw [e 3 (by omega)]; exact c4, by rw [e 4 (by omega)]; exact c5, fun i hi => ?_, fun j hj => ⟨?_, ?_⟩, fun a b ha hb => ?_⟩
  · rw [Nat.add_assoc, e _ (by omega), ← Nat.add_assoc]; exact c6 i hi
  · rw [Nat.add_assoc, e _ (by omega), ← Nat.add_assoc]; exact (c7 j hj).1
  · rw [Nat.add_assoc, e _ (by omega), ← Nat.add_assoc]; exact (c7 j hj).2
  · rw [show o' + 33 + 7 * a + b = o' + (33 + 7 * a + b) by omega, e _ (by omega), show o + (33 + 7 * a + b) = o + 33 + 7 * a + b by omega]; exact c8 a b ha hb
theorem rR.mv {o o' : Nat} {D : RD} (h : rR f o D) (w : wfR D) (e : ∀ i, i < 161 → g 401 (o' + i) = f 401 (o + i)) : rR g o' D := by
  obtain ⟨c1, c2⟩ := h
  have wn := w.1
  have e0 := e 0 (by omega)
  rw [Nat.add_zero, Nat.add_zero] at e0
  refine ⟨by rw [e0]; exact c1, fun k hk => ?_⟩
  obtain ⟨d1, d2, d3, d4⟩ := c2 k hk
  refine ⟨?_, ?_, ?_, ?_⟩
  · rw [Nat.add_assoc, e _ (by omega), ← Nat.add_assoc]; exact d1
  · rw [Nat.add_assoc, e _ (by omega), ← Nat.add_assoc]; exact d2
  · rw [Nat.add_assoc, e _ (by omega), ← Nat.add_assoc]; exact d3
  · rw [Nat.add_assoc, e _ (by omega), ← Nat.add_assoc]; exact d4
theorem rP.mv {o o' : Nat} {D : PD} (h : rP f o D) (w : wfP D) (e : ∀ i, i < 37 → g 401 (o' + i) = f 401 (o + i)) : rP g o' D := by
  obtain ⟨c1, c2⟩ := h
  have wn := w.1
  have e0 := e 0 (by omega)
  rw [Nat.add_zero, Nat.add_zero] at e0
  refine ⟨by rw [e0]; exact c1, fun k hk => ?_⟩
  obtain ⟨d1, d2, d3⟩ := c2 k hk
  refine ⟨?_, ?_, ?_⟩
  · rw [Nat.add_assoc, e _ (by omega), ← Nat.add_assoc]; exact d1
  · rw [Nat.add_assoc, e _ (by omega), ← Nat.add_assoc]; exact d2
  · rw [Nat.add_assoc, e _ (by omega), ← Nat.add_assoc]; exact d3
theorem rT.mv {o o' : Nat} (h : rT f o T) (w : wfT T) (e : ∀ i, i < 1170 → g 401 (o' + i) = f 401 (o + i)) : rT g o' T := by
  obtain ⟨w1, w2, w3, w4, w5, w6⟩ := id w
  obtain ⟨c1, c2, c3, c4, c5, c6, c7, c8⟩ := h
  have z0 := w3 0 (by omega)
  have z1 := w3 1 (by omega)
  have z2 := w3 2 (by omega)
  refine ⟨by rw [e _ (by omega)]; exact c1, by rw [e _ (by omega)]; exact c2, by rw [e _ (by omega)]; exact c3, fun i hi => ?_, fun s hs => by rw [e _ (by omega)]; exact c5 s hs, fun k hk => (c6 k hk).mv (w4 k hk) fun i hi => ?_, fun k hk => (c7 k hk).mv (w5 k hk) fun i hi => ?_, fun k hk => (c8 k hk).mv (w6 k hk) fun i hi => ?_⟩
  · rw [Nat.add_assoc, e _ (by omega), ← Nat.add_assoc]; exact c4 i hi
  · rw [show o' + 610 + 82 * k + i = o' + (610 + 82 * k + i) by omega, e _ (by omega), show o + (610 + 82 * k + i) = o + 610 + 82 * k + i by omega]
  · rw [show o' + 774 + 161 * k + i = o' + (774 + 161 * k + i) by omega, e _ (by omega), show o + (774 + 161 * k + i) = o + 774 + 161 * k + i by omega]
  · rw [show o' + 1096 + 37 * k + i = o' + (1096 + 37 * k + i) by omega, e _ (by omega), show o + (1096 + 37 * k + i) = o + 1096 + 37 * k + i by omega]
theorem Img.fr {k : Nat} (h : Img f k) (e1 : g 50 k = f 50 k) (e2 : g 402 k = f 402 k) (e3 : ∀ a, 256 + 48 * k ≤ a → a < 256 + 48 * k + 48 → g a = f a) (e4 : ∀ i, 1170 + 1170 * k ≤ i → i < 1170 + 1170 * k + 1170 → g 401 i = f 401 i) : Img g k := by
  rcases h with ⟨p, q⟩ | ⟨p, q, T, w, h1, h2⟩
  · exact Or.inl ⟨by rw [e1]; exact p, by rw [e2]; exact q⟩
  · exact Or.inr ⟨by rw [e1]; exact p, by rw [e2]; exact q, T, w, h1.fr w e3, h2.co w e4⟩
theorem k_img {k : Nat} (h : k < 3) : xS0 L (256 + 48 * k) = (10, 0) := by
  have : k = 0 ∨ k = 1 ∨ k = 2 := by omega
  rcases this with e | e | e <;> subst e <;> rfl
theorem r_image {Q : Int32 → Hp → Prop} {k : Nat} (hk : k < 3) (kk : ∀ g, g 402 k = 1 → (∀ j, ¬ j = k → g 402 j = f 402 j) → (∀ i, i < 1170 → g 401 (1170 + 1170 * k + i) = f 401 i) → (∀ i, i < 1170 + 1170 * k ∨ 1170 + 1170 * k + 1170 ≤ i → g 401 i = f 401 i) → (∀ x, ¬ x = 401 → ¬ x = 402 → g x = f x) → Q 1 g) : CI L xs xm_Mo_image [.ref 400, .int (iN k)] f Q := by
  refine t_Mo_image_0 (r_isIn (a := 0) (b := 2) (by omega) (by omega) (fun m _ hm e => br1 ⟨k, rfl, hk, fun g2 e2 => ?_⟩) fun q => absurd rfl (q k (by omega) (by omega)))
  refine for0 1170 (fun n l g => l = [.ref 400, .int (iN k), .int (iN n)] ∧ (∀ i, i < n → g 401 (1170 + 1170 * k + i) = f 401 i) ∧ (∀ i, i < 1170 + 1170 * k ∨ 1170 + 1170 * k + 1170 ≤ i → g 401 i = f 401 i) ∧ ∀ x, ¬ x = 401 → g x = g2 x) ⟨rfl, fun i hi => absurd hi (by omega), fun i _ => by rw [e2, xu_a (by omega)], fun _ _ => rfl⟩ ?_ ?_
  · rintro n l g hn ⟨rfl, b1, b2, b3⟩ k2
    refine t_Mo_image_20 (brT ((iN_lt (b := 1170) (by omega) (by omega)).mpr (by omega)) ⟨n, rfl, by omega, 1170 + 1170 * k + n, ?_, by omega, fun g3 e3 => ?_⟩)
    · rw [iN_inc, show 1170 * iN (k + 1) = iN (1170 * (k + 1)) from iN_mul 1170 _, iN_add]
      congr 1; omega
    · rw [iN_inc]
      refine k2 _ _ ⟨rfl, fun i hi => ?_, fun i hi => by rw [e3, xu_k (by omega), b2 i hi], fun x hx => by rw [e3, xu_a hx, b3 x hx]⟩
      rw [e3, xu_at]
      by_cases t : i = n
      · subst t; rw [if_pos ⟨rfl, rfl⟩, b2 i (by omega)]
      · rw [if_neg (by omega), b1 i (by omega)]
  · rintro l g ⟨rfl, b1, b2, b3⟩
    exact t_Mo_image_20 (brF (by decide) (kk g (by rw [b3 402 (by omega), e2, xu_eq]) (fun j hj => by rw [b3 402 (by omega), e2, xu_k hj]) b1 b2 fun x p q => by rw [b3 x p, e2, xu_a q]))
theorem r_again {Q : Int32 → Hp → Prop} {k : Nat} (hk : k < 3) (h1 : f 402 k = 1) (kk : ∀ g, (∀ i, i < 1170 → g 401 i = f 401 (1170 + 1170 * k + i)) → (∀ i, 1170 ≤ i → g 401 i = f 401 i) → (∀ x, ¬ x = 401 → g x = f x) → Q 1 g) : CI L xs xm_Mo_again [.ref 400, .int (iN k)] f Q := by
  refine t_Mo_again_0 (r_isIn (a := 0) (b := 2) (by omega) (by omega) (fun m _ hm e => br1 ⟨k, rfl, hk, ?_⟩) fun q => absurd rfl (q k (by omega) (by omega)))
  rw [h1]
  refine br1 ?_
  refine for0 1170 (fun n l g => l = [.ref 400, .int (iN k), .int (iN n)] ∧ (∀ i, i < n → g 401 i = f 401 (1170 + 1170 * k + i)) ∧ (∀ i, 1170 ≤ i → g 401 i = f 401 i) ∧ ∀ x, ¬ x = 401 → g x = f x) ⟨rfl, fun i hi => absurd hi (by omega), fun i _ => rfl, fun _ _ => rfl⟩ ?_ ?_
  · rintro n l g hn ⟨rfl, b1, b2, b3⟩ k2
    refine t_Mo_again_22 (brT ((iN_lt (b := 1170) (by omega) (by omega)).mpr (by omega)) ⟨1170 + 1170 * k + n, ?_, by omega, n, rfl, by omega, fun g3 e3 => ?_⟩)
    · rw [iN_inc, show 1170 * iN (k + 1) = iN (1170 * (k + 1)) from iN_mul 1170 _, iN_add]
      congr 1; omega
    · rw [iN_inc]
      refine k2 _ _ ⟨rfl, fun i hi => ?_, fun i hi => by rw [e3, xu_k (by omega), b2 i hi], fun x hx => by rw [e3, xu_a hx, b3 x hx]⟩
      rw [e3, xu_at]
      by_cases t : i = n
      · subst t; rw [if_pos ⟨rfl, rfl⟩, b2 _ (by omega)]
      · rw [if_neg (by omega), b1 i (by omega)]
  · rintro l g ⟨rfl, b1, b2, b3⟩
    exact t_Mo_again_22 (brF (by decide) (kk g b1 b2 b3))
theorem op_image (i : Inv f) (x : Int32) : CI L xs xm_TP_image [.ref 0, .int x] f (fun v g => CI L xs xm_Mo_image [.ref 400, .int x] g (fun w h => w = v ∧ Inv h)) := by
  obtain ⟨⟨T, w, c, r⟩, im⟩ := id i
  have no : (¬ (∃ j, j < 3 ∧ x = iN j)) → CI L xs xm_Mo_image [.ref 400, .int x] f (fun w h => w = 0 ∧ Inv h) := fun q => t_Mo_image_0 (r_isIn (a := 0) (b := 2) (by omega) (by omega) (fun j _ h e => absurd ⟨j, by omega, e⟩ q) fun _ => br0 ⟨rfl, i⟩)
  refine t_TP_image_0 ⟨fun p => no ?_, fun p => ⟨fun p2 => ?_, fun p2 => no ?_⟩⟩
  · rintro ⟨j, hj, rfl⟩
    exact iN_nn (by omega) p
  · obtain ⟨k, hk, rfl⟩ := iN_ex (n := 3) (by omega) p p2
    refine ⟨k, rfl, hk, c_toTake (k_img hk) k_told (by omega) w c fun g1 h1 h2 g2 e2 => ?_⟩
    refine r_image hk fun g3 a1 a2 a3 a4 a5 => ⟨rfl, ?_⟩
    have E : ∀ y, ¬ y = 401 → ¬ y = 402 → ¬ y = 50 → g3 y = g1 y := fun y p q s => by rw [a5 y p q, e2, xu_a s]
    have F : ∀ y, g2 401 y = f 401 y := fun y => by rw [e2, xu_a (by omega), h2 401 (by omega)]
    refine ⟨⟨T, w, c.fr w fun a p q => ?_, r.co w fun a p q => ?_⟩, fun k' hk' => ?_⟩
    · rw [E a (by omega) (by omega) (by omega), h2 a (by omega)]
    · rw [a4 a (by omega), F]
    · by_cases e : k' = k
      · subst e
        refine Or.inr ⟨by rw [a5 50 (by omega) (by omega), e2, xu_eq], a1, T, w, h1.fr w fun a p q => E a (by omega) (by omega) (by omega), r.mv w fun i hi => ?_⟩
        rw [a3 i hi, F, Nat.zero_add]
      · refine (im k' hk').fr ?_ ?_ (fun a p q => ?_) fun a p q => ?_
        · rw [a5 50 (by omega) (by omega), e2, xu_k e, h2 50 (by omega)]
        · rw [a2 k' e, e2, xu_a (by omega), h2 402 (by omega)]
        · rw [E a (by omega) (by omega) (by omega), h2 a (by omega)]
        · rw [a4 a (by omega), F]
  · rintro ⟨j, hj, rfl⟩
    exact p2 ((iN_lt (b := 3) (by omega) (by omega)).mpr hj)
theorem op_again (i : Inv f) (x : Int32) : CI L xs xm_TP_again [.ref 0, .int x] f (fun v g => CI L xs xm_Mo_again [.ref 400, .int x] g (fun w h => w = v ∧ Inv h)) := by
  obtain ⟨⟨T, w, c, r⟩, im⟩ := id i
  have no : (¬ (∃ j, j < 3 ∧ x = iN j)) → CI L xs xm_Mo_again [.ref 400, .int x] f (fun w h => w = 0 ∧ Inv h) := fun q => t_Mo_again_0 (r_isIn (a := 0) (b := 2) (by omega) (by omega) (fun j _ h e => absurd ⟨j, by omega, e⟩ q) fun _ => br0 ⟨rfl, i⟩)
  refine t_TP_again_0 ⟨fun p => no ?_, fun p => ⟨fun p2 => ?_, fun p2 => no ?_⟩⟩
  · rintro ⟨j, hj, rfl⟩
    exact iN_nn (by omega) p
  · obtain ⟨k, hk, rfl⟩ := iN_ex (n := 3) (by omega) p p2
    refine ⟨k, rfl, hk, ?_⟩
    rcases im k hk with ⟨q1, q2⟩ | ⟨q1, q2, T', w', c', r'⟩
    · rw [q1]
      refine br0 ?_
      refine t_Mo_again_0 (r_isIn (a := 0) (b := 2) (by omega) (by omega) (fun m _ hm e => br1 ⟨k, rfl, hk, ?_⟩) fun q => absurd rfl (q k (by omega) (by omega)))
      rw [q2]
      exact br0 ⟨rfl, i⟩
    · rw [q1]
      refine br1 (c_toTake k_told (k_img hk) (by omega) w' c' fun g1 h1 h2 => ?_)
      refine r_again hk (by rw [h2 402 (by omega)]; exact q2) fun g3 a1 a2 a3 => ⟨rfl, ?_⟩
      have F : ∀ y, g1 401 y = f 401 y := fun y => by rw [h2 401 (by omega)]
      refine ⟨⟨T', w', h1.fr w' fun a p q => a3 a (by omega), r'.mv w' fun i hi => ?_⟩, fun k' hk' => ?_⟩
      · rw [Nat.zero_add, a1 i hi, F]
      · refine (im k' hk').fr ?_ ?_ (fun a p q => ?_) fun a p q => ?_
        · rw [a3 50 (by omega), h2 50 (by omega)]
        · rw [a3 402 (by omega), h2 402 (by omega)]
        · rw [a3 a (by omega), h2 a (by omega)]
        · rw [a2 a (by omega), F]
  · rintro ⟨j, hj, rfl⟩
    exact p2 ((iN_lt (b := 3) (by omega) (by omega)).mpr hj)
end COPY
