/-! what a line tells, kept by the class -/
abbrev DT : Type := CD × Nat × RD × PD
def kp (i : Nat) (V : Nat → Int32) (X : DT) : DT :=
  if i = 0 then (((nb (V 0), X.1.1.2), X.1.2), X.2)
  else if i = 1 then (((dF X.1, nb (V 0), X.1.1.2.2), X.1.2), X.2)
  else if i = 2 then (((dF X.1, dW X.1, nb (V 0), X.1.1.2.2.2), X.1.2), X.2)
  else if i = 3 then (((dF X.1, dW X.1, dS X.1, dL X.1 ||| (1 <<< nb (V 0)), dN X.1), X.1.2), max X.2.1 (nb (V 0) + 1), X.2.2)
  else if i = 4 then ((X.1.1, (fun j => if j = nb (V 0) then nb (V 1) else dA X.1 j), X.1.2.2), X.2)
  else if i = 5 then (if dN X.1 < 10 then (((dF X.1, dW X.1, dS X.1, dL X.1, dN X.1 + 1), dA X.1, (fun j => if j = dN X.1 then nb (V 0) else dO X.1 j), (fun j => if j = dN X.1 then nb (V 1) else dP X.1 j), dD X.1), X.2) else X)
  else if i = 6 then ((X.1.1, dA X.1, dO X.1, dP X.1, fun x y => if (x = nb (V 1) ∧ y = nb (V 0)) ∨ (x = nb (V 0) ∧ y = nb (V 1)) then nb (V 2) else dD X.1 x y), max X.2.1 (max (nb (V 0) + 1) (nb (V 1) + 1)), X.2.2)
  else if i = 16 then (if X.2.2.2.1 < 12 then (X.1, X.2.1, X.2.2.1, (X.2.2.2.1 + 1, (fun k => if k = X.2.2.2.1 then nb (V 0) else X.2.2.2.2.1 k), (fun k => if k = X.2.2.2.1 then nb (V 1) else X.2.2.2.2.2.1 k), fun k => if k = X.2.2.2.1 then nb (V 2) else X.2.2.2.2.2.2 k)) else X)
  else (if X.2.2.1.1 < 40 then (X.1, X.2.1, (X.2.2.1.1 + 1, (fun k => if k = X.2.2.1.1 then i - 7 else X.2.2.1.2.1 k), (fun k => if k = X.2.2.1.1 then nb (V 0) else X.2.2.1.2.2.1 k), (fun k => if k = X.2.2.1.1 then V 1 else X.2.2.1.2.2.2.1 k), fun k => if k = X.2.2.1.1 then V 2 else X.2.2.1.2.2.2.2 k), X.2.2.2) else X)
/-- the numbers of a line, as they may be -/
def wfV (i : Nat) (V : Nat → Int32) : Prop := (∀ k, k < arN i → ∃ v, V k = iN v ∧ leN i k ≤ v ∧ v ≤ moN i k) ∧ ∀ k, k < 3 → arN i ≤ k → V k = -1
def wfX (X : DT) : Prop := dN X.1 ≤ 10 ∧ X.2.1 ≤ 7 ∧ X.2.2.1.1 ≤ 40 ∧ X.2.2.2.1 ≤ 12
def cX (f : Hp) (X : DT) : Prop := cC f 52 X.1 ∧ f 51 11 = eQ X.2.1 ∧ cR f 64 X.2.2.1 ∧ cP f 69 X.2.2.2
section KEEP
variable {L : Nat} {xs : Nat → Int32} {f g : Hp} {X : DT} {V : Nat → Int32}
theorem cR.fr1 {R : RD} (h : cR f 64 R) (e : ∀ a, 64 ≤ a → a < 69 → g a = f a) : cR g 64 R := h.fr fun a p q => e a p (by omega)
theorem cP.fr1 {R : PD} (h : cP f 69 R) (e : ∀ a, 69 ≤ a → a < 73 → g a = f a) : cP g 69 R := by
  unfold cP
  rw [e 69 (by omega) (by omega), e (69 + 1) (by omega) (by omega), e (69 + 2) (by omega) (by omega), e (69 + 3) (by omega) (by omega)]
  exact h
theorem c_keep {Q : Hp → Prop} {i : Nat} (hi : i < 17) (h : cX f X) (wx : wfX X) (hV : ∀ k, k < 3 → f 74 k = V k) (wv : wfV i V) (kk : ∀ g, cX g (kp i V X) → (∀ x, x < 51 ∨ 73 ≤ x → g x = f x) → (∀ j, ¬ j = 11 → g 51 j = f 51 j) → Q g) : CV L xs xm_Re_keep [.ref 51, .int (iN i)] f Q := by
  obtain ⟨hc, hm, hr, hp⟩ := h
  obtain ⟨w1, w2, w3, w4⟩ := wx
  obtain ⟨v0, e0, a0, b0⟩ := wv.1 0 (by have := (ar_b i hi).1; omega)
  have lb0 := le_b i hi 0 (by omega)
  have n0 : nb (V 0) = v0 := by rw [e0, nb_iN (by omega)]
  refine t_Re_keep_0 ?_
  rw [hV 0 (by omega), hV 1 (by omega), hV 2 (by omega)]
  have ne : ∀ k : Nat, k < 2147483648 → ¬ i = k → ¬ iN i = iN k := fun k hk h z => h ((iN_inj (by omega) hk).mp z)
  by_cases i16 : i = 16
  · subst i16
    obtain ⟨v1, e1, a1, b1⟩ := wv.1 1 (by decide)
    obtain ⟨v2, e2, a2, b2⟩ := wv.1 2 (by decide)
    have lb1 := le_b 16 (by omega) 1 (by omega)
    have lb2 := le_b 16 (by omega) 2 (by omega)
    have n1 : nb (V 1) = v1 := by rw [e1, nb_iN (by omega)]
    have n2 : nb (V 2) = v2 := by rw [e2, nb_iN (by omega)]
    refine brT rfl (t_Rp_add_0 rfl ?_)
    rw [hp.1, show (iN X.2.2.2.1 < 12 ↔ X.2.2.2.1 < 12) from iN_lt (b := 12) (by omega) (by omega)]
    unfold kp at kk
    simp only [show ¬ (16 : Nat) = 0 by decide, show ¬ (16 : Nat) = 1 by decide, show ¬ (16 : Nat) = 2 by decide, show ¬ (16 : Nat) = 3 by decide, show ¬ (16 : Nat) = 4 by decide, show ¬ (16 : Nat) = 5 by decide, show ¬ (16 : Nat) = 6 by decide, if_false, if_true] at kk
    refine ⟨fun z => ⟨X.2.2.2.1, rfl, z, fun g1 q1 => ⟨X.2.2.2.1, by rw [q1, xu_a (by omega)]; exact hp.1, z, fun g2 q2 => ⟨X.2.2.2.1, by rw [q2, xu_a (by omega), q1, xu_a (by omega)]; exact hp.1, z, fun g3 q3 g4 q4 => ?_⟩⟩⟩, fun z => ?_⟩
    · rw [if_pos z] at kk
      have x3 : g3 69 0 = iN X.2.2.2.1 := by rw [q3, xu_a (by omega), q2, xu_a (by omega), q1, xu_a (by omega)]; exact hp.1
      rw [x3, iN_inc] at q4
      have fr : ∀ x, x < 69 ∨ 73 ≤ x → g4 x = f x := fun x hx => by rw [q4, xu_a (by omega), q3, xu_a (by omega), q2, xu_a (by omega), q1, xu_a (by omega)]
      refine kk g4 ⟨hc.fr fun a p q => fr a (by omega), by rw [fr 51 (by omega)]; exact hm, hr.fr1 fun a p q => fr a (by omega), by rw [q4, xu_eq], fun k hk => ?_⟩ (fun x hx => fr x (by omega)) fun j _ => by rw [fr 51 (by omega)]
      by_cases zk : k = X.2.2.2.1
      · subst zk
        refine ⟨?_, ?_, ?_⟩
        · rw [q4, xu_a (by omega), q3, xu_a (by omega), q2, xu_a (by omega), q1, xu_eq, e0]
          show iN v0 = iN (if X.2.2.2.1 = X.2.2.2.1 then nb (iN v0) else _)
          rw [if_pos rfl, nb_iN (by omega)]
        · rw [q4, xu_a (by omega), q3, xu_a (by omega), q2, xu_eq, e1]
          show iN v1 = iN (if X.2.2.2.1 = X.2.2.2.1 then nb (iN v1) else _)
          rw [if_pos rfl, nb_iN (by omega)]
        · rw [q4, xu_a (by omega), q3, xu_eq, e2]
          show iN v2 = iN (if X.2.2.2.1 = X.2.2.2.1 then nb (iN v2) else _)
          rw [if_pos rfl, nb_iN (by omega)]
      · have hk' : k < X.2.2.2.1 + 1 := hk
        obtain ⟨o1, o2, o3⟩ := hp.2 k (by omega)
        refine ⟨?_, ?_, ?_⟩
        · rw [q4, xu_a (by omega), q3, xu_a (by omega), q2, xu_a (by omega), q1, xu_k zk, o1]
          exact congrArg iN (if_neg zk).symm
        · rw [q4, xu_a (by omega), q3, xu_a (by omega), q2, xu_k zk, q1, xu_a (by omega), o2]
          exact congrArg iN (if_neg zk).symm
        · rw [q4, xu_a (by omega), q3, xu_k zk, q2, xu_a (by omega), q1, xu_a (by omega), o3]
          exact congrArg iN (if_neg zk).symm
    · rw [if_neg z] at kk
      exact kk f ⟨hc, hm, hr, hp⟩ (fun _ _ => rfl) fun _ _ => rfl
  · refine brF (ne 16 (by omega) i16) ?_
    by_cases i0 : i = 0
    · subst i0
      refine brT rfl fun g1 q1 => ?_
      rw [e0] at q1
      have fr : ∀ x, ¬ x = 52 → g1 x = f x := fun x hx => by rw [q1, xu_a hx]
      refine kk g1 ⟨⟨?_, ?_, ?_, ?_, ?_, ?_, ?_, ?_⟩, by rw [fr 51 (by omega)]; exact hm, hr.fr1 fun a p q => fr a (by omega), hp.fr1 fun a p q => fr a (by omega)⟩ (fun x hx => fr x (by omega)) fun j _ => by rw [fr 51 (by omega)]
      · rw [q1, xu_eq]; show iN v0 = iN (nb (V 0)); rw [n0]
      · rw [q1, xu_k (by omega)]; exact hc.2.1
      · rw [q1, xu_k (by omega)]; exact hc.2.2.1
      · rw [q1, xu_k (by omega)]; exact hc.2.2.2.1
      · rw [q1, xu_k (by omega)]; exact hc.2.2.2.2.1
      · rw [fr _ (by omega)]; exact hc.2.2.2.2.2.1
      · rw [fr _ (by omega), fr _ (by omega)]; exact hc.2.2.2.2.2.2.1
      · intro a b p q; rw [fr _ (by omega)]; exact hc.2.2.2.2.2.2.2 a b p q
    refine brF (ne 0 (by omega) i0) ?_
    by_cases i1 : i = 1
    · subst i1
      refine brT rfl fun g1 q1 => ?_
      rw [e0] at q1
      have fr : ∀ x, ¬ x = 52 → g1 x = f x := fun x hx => by rw [q1, xu_a hx]
      refine kk g1 ⟨⟨?_, ?_, ?_, ?_, ?_, ?_, ?_, ?_⟩, by rw [fr 51 (by omega)]; exact hm, hr.fr1 fun a p q => fr a (by omega), hp.fr1 fun a p q => fr a (by omega)⟩ (fun x hx => fr x (by omega)) fun j _ => by rw [fr 51 (by omega)]
      · rw [q1, xu_k (by omega)]; exact hc.1
      · rw [q1, xu_eq]; show iN v0 = iN (nb (V 0)); rw [n0]
      · rw [q1, xu_k (by omega)]; exact hc.2.2.1
      · rw [q1, xu_k (by omega)]; exact hc.2.2.2.1
      · rw [q1, xu_k (by omega)]; exact hc.2.2.2.2.1
      · rw [fr _ (by omega)]; exact hc.2.2.2.2.2.1
      · rw [fr _ (by omega), fr _ (by omega)]; exact hc.2.2.2.2.2.2.1
      · intro a b p q; rw [fr _ (by omega)]; exact hc.2.2.2.2.2.2.2 a b p q
    refine brF (ne 1 (by omega) i1) ?_
    by_cases i2 : i = 2
    · subst i2
      refine brT rfl fun g1 q1 => ?_
      rw [e0] at q1
      have fr : ∀ x, ¬ x = 52 → g1 x = f x := fun x hx => by rw [q1, xu_a hx]
      refine kk g1 ⟨⟨?_, ?_, ?_, ?_, ?_, ?_, ?_, ?_⟩, by rw [fr 51 (by omega)]; exact hm, hr.fr1 fun a p q => fr a (by omega), hp.fr1 fun a p q => fr a (by omega)⟩ (fun x hx => fr x (by omega)) fun j _ => by rw [fr 51 (by omega)]
      · rw [q1, xu_k (by omega)]; exact hc.1
      · rw [q1, xu_k (by omega)]; exact hc.2.1
      · rw [q1, xu_eq]; show iN v0 = iN (nb (V 0)); rw [n0]
      · rw [q1, xu_k (by omega)]; exact hc.2.2.2.1
      · rw [q1, xu_k (by omega)]; exact hc.2.2.2.2.1
      · rw [fr _ (by omega)]; exact hc.2.2.2.2.2.1
      · rw [fr _ (by omega), fr _ (by omega)]; exact hc.2.2.2.2.2.2.1
      · intro a b p q; rw [fr _ (by omega)]; exact hc.2.2.2.2.2.2.2 a b p q
    refine brF (ne 2 (by omega) i2) ?_
    by_cases i3 : i = 3
    · subst i3
      refine brT rfl fun g1 q1 g2 q2 => ?_
      have b6 : v0 ≤ 6 := b0
      have x1 : g1 51 11 = eQ X.2.1 := by rw [q1, xu_a (by omega)]; exact hm
      rw [x1, e0, eQ_max (by omega) (by omega)] at q2
      rw [hc.2.2.2.1, e0, or1 _ _ (by omega)] at q1
      have fr : ∀ x, ¬ x = 52 → ¬ x = 51 → g2 x = f x := fun x hx hy => by rw [q2, xu_a hy, q1, xu_a hx]
      refine kk g2 ⟨⟨?_, ?_, ?_, ?_, ?_, ?_, ?_, ?_⟩, ?_, hr.fr1 fun a p q => fr a (by omega) (by omega), hp.fr1 fun a p q => fr a (by omega) (by omega)⟩ (fun x hx => fr x (by omega) (by omega)) fun j hj => by rw [q2, xu_k hj, q1, xu_a (by omega)]
      · rw [q2, xu_a (by omega), q1, xu_k (by omega)]; exact hc.1
      · rw [q2, xu_a (by omega), q1, xu_k (by omega)]; exact hc.2.1
      · rw [q2, xu_a (by omega), q1, xu_k (by omega)]; exact hc.2.2.1
      · rw [q2, xu_a (by omega), q1, xu_eq]; show iN (dL X.1 ||| 1 <<< v0) = iN (dL X.1 ||| (1 <<< nb (V 0))); rw [n0]
      · rw [q2, xu_a (by omega), q1, xu_k (by omega)]; exact hc.2.2.2.2.1
      · rw [fr _ (by omega) (by omega)]; exact hc.2.2.2.2.2.1
      · rw [fr _ (by omega) (by omega), fr _ (by omega) (by omega)]; exact hc.2.2.2.2.2.2.1
      · intro a b p q; rw [fr _ (by omega) (by omega)]; exact hc.2.2.2.2.2.2.2 a b p q
      · rw [q2, xu_eq]; show eQ (max X.2.1 (v0 + 1)) = eQ (max X.2.1 (nb (V 0) + 1)); rw [n0]
    refine brF (ne 3 (by omega) i3) ?_
    by_cases i4 : i = 4
    · subst i4
      have b7 : v0 ≤ 7 := b0
      obtain ⟨v1, e1, a1, b1⟩ := wv.1 1 (by decide)
      have lb1 := le_b 4 (by omega) 1 (by omega)
      have n1 : nb (V 1) = v1 := by rw [e1, nb_iN (by omega)]
      refine brT rfl ⟨v0, e0, by omega, fun g1 q1 => ?_⟩
      rw [e1] at q1
      have fr : ∀ x, ¬ x = 53 → g1 x = f x := fun x hx => by rw [q1, xu_a hx]
      refine kk g1 ⟨⟨?_, ?_, ?_, ?_, ?_, ?_, ?_, ?_⟩, by rw [fr 51 (by omega)]; exact hm, hr.fr1 fun a p q => fr a (by omega), hp.fr1 fun a p q => fr a (by omega)⟩ (fun x hx => fr x (by omega)) fun j _ => by rw [fr 51 (by omega)]
      · rw [fr _ (by omega)]; exact hc.1
      · rw [fr _ (by omega)]; exact hc.2.1
      · rw [fr _ (by omega)]; exact hc.2.2.1
      · rw [fr _ (by omega)]; exact hc.2.2.2.1
      · rw [fr _ (by omega)]; exact hc.2.2.2.2.1
      · intro j hj
        show g1 53 j = iN (if j = nb (V 0) then nb (V 1) else dA X.1 j)
        rw [n0, n1]
        by_cases z : j = v0
        · rw [z, q1, xu_eq, if_pos rfl]
        · rw [q1, xu_k z, if_neg z]; exact hc.2.2.2.2.2.1 j hj
      · rw [fr _ (by omega), fr _ (by omega)]; exact hc.2.2.2.2.2.2.1
      · intro a b p q; rw [fr _ (by omega)]; exact hc.2.2.2.2.2.2.2 a b p q
    refine brF (ne 4 (by omega) i4) ?_
    by_cases i5 : i = 5
    · subst i5
      obtain ⟨v1, e1, a1, b1⟩ := wv.1 1 (by decide)
      have lb1 := le_b 5 (by omega) 1 (by omega)
      have n1 : nb (V 1) = v1 := by rw [e1, nb_iN (by omega)]
      refine brT rfl (t_Co_addOrder_0 rfl ?_)
      rw [hc.2.2.2.2.1, show (iN (dN X.1) < 10 ↔ dN X.1 < 10) from iN_lt (b := 10) (by omega) (by omega)]
      unfold kp at kk
      simp only [show ¬ (5 : Nat) = 0 by decide, show ¬ (5 : Nat) = 1 by decide, show ¬ (5 : Nat) = 2 by decide, show ¬ (5 : Nat) = 3 by decide, show ¬ (5 : Nat) = 4 by decide, if_false, if_true] at kk
      refine ⟨fun z => ⟨dN X.1, rfl, z, fun g1 q1 => ⟨dN X.1, by rw [q1, xu_a (by omega)]; exact hc.2.2.2.2.1, z, fun g2 q2 g3 q3 => ?_⟩⟩, fun z => ?_⟩
      · rw [if_pos z] at kk
        have x2 : g2 52 4 = iN (dN X.1) := by rw [q2, xu_a (by omega), q1, xu_a (by omega)]; exact hc.2.2.2.2.1
        rw [x2, iN_inc] at q3
        rw [e1] at q2
        rw [e0] at q1
        have fr : ∀ x, ¬ x = 52 → ¬ x = 54 → ¬ x = 55 → g3 x = f x := fun x p q r => by rw [q3, xu_a p, q2, xu_a r, q1, xu_a q]
        have sc : ∀ j, ¬ j = 4 → g3 52 j = f 52 j := fun j hj => by rw [q3, xu_k hj, q2, xu_a (by omega), q1, xu_a (by omega)]
        refine kk g3 ⟨⟨?_, ?_, ?_, ?_, ?_, ?_, ?_, ?_⟩, by rw [fr 51 (by omega) (by omega) (by omega)]; exact hm, hr.fr1 fun a p q => fr a (by omega) (by omega) (by omega), hp.fr1 fun a p q => fr a (by omega) (by omega) (by omega)⟩ (fun x hx => fr x (by omega) (by omega) (by omega)) fun j _ => by rw [fr 51 (by omega) (by omega) (by omega)]
        · rw [sc _ (by omega)]; exact hc.1
        · rw [sc _ (by omega)]; exact hc.2.1
        · rw [sc _ (by omega)]; exact hc.2.2.1
        · rw [sc _ (by omega)]; exact hc.2.2.2.1
        · rw [q3, xu_eq]
        · rw [fr _ (by omega) (by omega) (by omega)]; exact hc.2.2.2.2.2.1
        · intro j hj
          have hj : j < dN X.1 + 1 := hj
          show g3 54 j = iN (if j = dN X.1 then nb (V 0) else dO X.1 j) ∧ g3 55 j = iN (if j = dN X.1 then nb (V 1) else dP X.1 j)
          rw [n0, n1]
          by_cases y : j = dN X.1
          · rw [if_pos y, if_pos y, y, q3, xu_a (by omega), xu_a (by omega), q2, xu_a (by omega), xu_eq, q1, xu_eq]
            exact ⟨rfl, rfl⟩
          · rw [if_neg y, if_neg y, q3, xu_a (by omega), xu_a (by omega), q2, xu_a (by omega), xu_k y, q1, xu_k y, xu_a (by omega)]
            exact hc.2.2.2.2.2.2.1 j (by omega)
        · intro a b p q; rw [fr _ (by omega) (by omega) (by omega)]; exact hc.2.2.2.2.2.2.2 a b p q
      · rw [if_neg z] at kk
        exact kk f ⟨hc, hm, hr, hp⟩ (fun _ _ => rfl) fun _ _ => rfl
    refine brF (ne 5 (by omega) i5) ?_
    by_cases i6 : i = 6
    · subst i6
      obtain ⟨v1, e1, a1, b1⟩ := wv.1 1 (by decide)
      obtain ⟨v2, e2, a2, b2⟩ := wv.1 2 (by decide)
      have b6 : v0 ≤ 6 := b0
      have c6 : v1 ≤ 6 := b1
      have d9 : v2 ≤ 9 := b2
      have n1 : nb (V 1) = v1 := by rw [e1, nb_iN (by omega)]
      have n2 : nb (V 2) = v2 := by rw [e2, nb_iN (by omega)]
      refine brT rfl ⟨v0, e0, by omega, v1, e1, by omega, fun g1 q1 g2 q2 g3 q3 => ?_⟩
      have x2 : g2 51 11 = eQ X.2.1 := by rw [q2, xu_a (by omega), q1, xu_a (by omega)]; exact hm
      rw [x2, e0, e1, imax_iN (by omega) (by omega), eQ_max (by omega) (by omega)] at q3
      rw [e2] at q1 q2
      have fr : ∀ x, ¬ x = 51 → x < 57 ∨ 64 ≤ x → g3 x = f x := fun x p q => by rw [q3, xu_a p, q2, xu_a (by omega), q1, xu_a (by omega)]
      refine kk g3 ⟨⟨?_, ?_, ?_, ?_, ?_, ?_, ?_, ?_⟩, ?_, hr.fr1 fun a p q => fr a (by omega) (by omega), hp.fr1 fun a p q => fr a (by omega) (by omega)⟩ (fun x hx => fr x (by omega) (by omega)) fun j hj => by rw [q3, xu_k hj, q2, xu_a (by omega), q1, xu_a (by omega)]
      · rw [fr _ (by omega) (by omega)]; exact hc.1
      · rw [fr _ (by omega) (by omega)]; exact hc.2.1
      · rw [fr _ (by omega) (by omega)]; exact hc.2.2.1
      · rw [fr _ (by omega) (by omega)]; exact hc.2.2.2.1
      · rw [fr _ (by omega) (by omega)]; exact hc.2.2.2.2.1
      · rw [fr _ (by omega) (by omega)]; exact hc.2.2.2.2.2.1
      · rw [fr _ (by omega) (by omega), fr _ (by omega) (by omega)]; exact hc.2.2.2.2.2.2.1
      · intro a b p q
        show g3 (57 + a) b = iN (if (a = nb (V 1) ∧ b = nb (V 0)) ∨ (a = nb (V 0) ∧ b = nb (V 1)) then nb (V 2) else dD X.1 a b)
        rw [n0, n1, n2, q3, xu_a (by omega), q2, xu_at]
        by_cases y : a = v1 ∧ b = v0
        · rw [if_pos (by omega), if_pos (Or.inl y)]
        · rw [if_neg (by omega), q1, xu_at]
          by_cases y2 : a = v0 ∧ b = v1
          · rw [if_pos (by omega), if_pos (Or.inr y2)]
          · rw [if_neg (by omega), if_neg (fun u => u.elim y y2)]; exact hc.2.2.2.2.2.2.2 a b p q
      · rw [q3, xu_eq]
        show eQ (max X.2.1 (max v0 v1 + 1)) = eQ (max X.2.1 (max (nb (V 0) + 1) (nb (V 1) + 1)))
        rw [n0, n1]; congr 1; omega
    refine brF (ne 6 (by omega) i6) (t_Ru_add_0 rfl ?_)
    rw [hr.1, show (iN X.2.2.1.1 < 40 ↔ X.2.2.1.1 < 40) from iN_lt (b := 40) (by omega) (by omega), show iN i - 7 = iN (i - 7) from iN_sub (b := 7) (by omega), e0]
    unfold kp at kk
    simp only [if_neg i0, if_neg i1, if_neg i2, if_neg i3, if_neg i4, if_neg i5, if_neg i6, if_neg i16] at kk
    refine ⟨fun z => ⟨X.2.2.1.1, rfl, z, fun g1 q1 => ⟨X.2.2.1.1, by rw [q1, xu_a (by omega)]; exact hr.1, z, fun g2 q2 => ⟨X.2.2.1.1, by rw [q2, xu_a (by omega), q1, xu_a (by omega)]; exact hr.1, z, fun g3 q3 => ⟨X.2.2.1.1, by rw [q3, xu_a (by omega), q2, xu_a (by omega), q1, xu_a (by omega)]; exact hr.1, z, fun g4 q4 g5 q5 => ?_⟩⟩⟩⟩, fun z => ?_⟩
    · rw [if_pos z] at kk
      have x4 : g4 64 0 = iN X.2.2.1.1 := by rw [q4, xu_a (by omega), q3, xu_a (by omega), q2, xu_a (by omega), q1, xu_a (by omega)]; exact hr.1
      rw [x4, iN_inc] at q5
      have fr : ∀ x, x < 64 ∨ 69 ≤ x → g5 x = f x := fun x hx => by rw [q5, xu_a (by omega), q4, xu_a (by omega), q3, xu_a (by omega), q2, xu_a (by omega), q1, xu_a (by omega)]
      refine kk g5 ⟨hc.fr fun a p q => fr a (by omega), by rw [fr 51 (by omega)]; exact hm, ⟨by rw [q5, xu_eq], fun k hk => ?_⟩, hp.fr1 fun a p q => fr a (by omega)⟩ (fun x hx => fr x (by omega)) fun j _ => by rw [fr 51 (by omega)]
      have hk : k < X.2.2.1.1 + 1 := hk
      have r1 : g5 65 k = if k = X.2.2.1.1 then iN (i - 7) else f 65 k := by
        rw [q5, xu_a (by omega), q4, xu_a (by omega), q3, xu_a (by omega), q2, xu_a (by omega), q1, xu_at]
        by_cases y : k = X.2.2.1.1
        · rw [if_pos ⟨rfl, y⟩, if_pos y]
        · rw [if_neg (fun u => y u.2), if_neg y]
      have r2 : g5 66 k = if k = X.2.2.1.1 then iN v0 else f 66 k := by
        rw [q5, xu_a (by omega), q4, xu_a (by omega), q3, xu_a (by omega), q2, xu_at]
        by_cases y : k = X.2.2.1.1
        · rw [if_pos ⟨rfl, y⟩, if_pos y]
        · rw [if_neg (fun u => y u.2), if_neg y, q1, xu_a (by omega)]
      have r3 : g5 67 k = if k = X.2.2.1.1 then V 1 else f 67 k := by
        rw [q5, xu_a (by omega), q4, xu_a (by omega), q3, xu_at]
        by_cases y : k = X.2.2.1.1
        · rw [if_pos ⟨rfl, y⟩, if_pos y]
        · rw [if_neg (fun u => y u.2), if_neg y, q2, xu_a (by omega), q1, xu_a (by omega)]
      have r4 : g5 68 k = if k = X.2.2.1.1 then V 2 else f 68 k := by
        rw [q5, xu_a (by omega), q4, xu_at]
        by_cases y : k = X.2.2.1.1
        · rw [if_pos ⟨rfl, y⟩, if_pos y]
        · rw [if_neg (fun u => y u.2), if_neg y, q3, xu_a (by omega), q2, xu_a (by omega), q1, xu_a (by omega)]
      show g5 65 k = iN (if k = X.2.2.1.1 then i - 7 else X.2.2.1.2.1 k) ∧ g5 66 k = iN (if k = X.2.2.1.1 then nb (V 0) else X.2.2.1.2.2.1 k) ∧ g5 67 k = (if k = X.2.2.1.1 then V 1 else X.2.2.1.2.2.2.1 k) ∧ g5 68 k = if k = X.2.2.1.1 then V 2 else X.2.2.1.2.2.2.2 k
      rw [r1, r2, r3, r4, n0]
      by_cases y : k = X.2.2.1.1
      · simp only [if_pos y]
        exact ⟨trivial, trivial, trivial, trivial⟩
      · simp only [if_neg y]
        exact hr.2 k (by omega)
    · rw [if_neg z] at kk
      exact kk f ⟨hc, hm, hr, hp⟩ (fun _ _ => rfl) fun _ _ => rfl
end KEEP
