/-! the class's next token -/
def vv (B : Nat → Nat) (s d : Nat) : Nat := if d = 0 then 0 else if d = 1 then B s - 48 else 10 * (B s - 48) + (B (s + 1) - 48)
theorem isG_iff {b : Nat} : isG b = true ↔ 48 ≤ b ∧ b ≤ 57 := by
  unfold isG
  rw [Bool.and_eq_true, decide_eq_true_iff, decide_eq_true_iff]
theorem isL_iff {b : Nat} : isL b = true ↔ 97 ≤ b ∧ b ≤ 122 := by
  unfold isL
  rw [Bool.and_eq_true, decide_eq_true_iff, decide_eq_true_iff]
section NEXT
variable {L : Nat} {xs : Nat → Int32} {f g : Hp} {B : Nat → Nat} {n : Nat}
theorem c_readNum {Q : Hp → Prop} {f0 : Hp} {s : Nat} (kk : ∀ g e, Fr7 f0 g → g 51 8 = iN s → g 51 9 = iN e → e = rE isG B n s → g 51 7 = iN (if e - s ≤ 2 then 2 else 4) → (e - s ≤ 2 → g 51 10 = iN (vv B s (e - s))) → Q g) (c0 : cB f0 B n) : ∀ k q (f : Hp), Fr7 f0 f → f 51 8 = iN s → f 51 9 = iN q → s ≤ q → (q - s ≤ 2 → f 51 10 = iN (vv B s (q - s))) → n - q = k → q ≤ n → rE isG B n q = rE isG B n s → Wp L xs xm_Re_readNumber 5 [.ref 51] [] f (QV Q)
  | k, q, f, fr, h8, h9, hs, hv, hk, hq, he => by
    have c := c0.fr fr
    have h6 := c.1
    have stop : rE isG B n q = q → Wp L xs xm_Re_readNumber 72 [.ref 51] [] f (QV Q) := fun e => by
      refine t_Re_readNumber_72 ?_
      rw [h9, h8, iN_sub hs]
      have ee : q = rE isG B n s := by rw [← he, e]
      by_cases z : q - s ≤ 2
      · refine brF (fun z => absurd ((iN_lt (a := 2) (by omega) (by omega)).mp z) (by omega)) fun g1 e1 => ?_
        subst e1
        exact kk _ q (fr.put (by omega)) (by rw [xu_k (by omega)]; exact h8) (by rw [xu_k (by omega)]; exact h9) ee (by rw [xu_eq, if_pos z]; rfl) fun _ => by rw [xu_k (by omega)]; exact hv z
      · refine brT ((iN_lt (a := 2) (by omega) (by omega)).mpr (by omega)) fun g1 e1 => ?_
        subst e1
        exact kk _ q (fr.put (by omega)) (by rw [xu_k (by omega)]; exact h8) (by rw [xu_k (by omega)]; exact h9) ee (by rw [xu_eq, if_neg z]; rfl) fun y => absurd y z
    refine t_Re_readNumber_5 ?_
    rw [h9, c.2.1]
    by_cases z : q < n
    · obtain ⟨b1, b2⟩ := c.2.2 q (by omega)
      refine brT ((iN_lt (b := _) (by omega) (by omega)).mpr (by omega)) ⟨q, rfl, by omega, ?_⟩
      rw [b2]
      refine c_isDig b1 (fun y => br1 ⟨q, h9, by omega, fun g2 e2 g3 e3 => ?_⟩) fun y => br0 (stop (rE_n y))
      have yb := isG_iff.mp y
      have x9 : g2 51 9 = iN q := by rw [e2, xu_k (by omega)]; exact h9
      rw [x9, iN_inc] at e3
      refine c_readNum kk c0 (k - 1) (q + 1) g3 (by rw [e3, e2]; exact (fr.put (by omega)).put (by omega)) (by rw [e3, xu_k (by omega), e2, xu_k (by omega)]; exact h8) (by rw [e3, xu_eq]) (by omega) (fun w => ?_) (by omega) (by omega) (by rw [← he, rE_y z y])
      rw [e3, xu_k (by omega), e2, xu_eq, b2, (sgn_ok _ b1).2.2.2.2.1 y, hv (by omega), show iN (vv B s (q - s)) * 10 = iN (vv B s (q - s) * 10) from iN_mul _ 10, iN_add]
      have v9 : vv B s (q - s) ≤ 9 ∨ q - s = 2 := by
        unfold vv
        rcases (show q - s = 0 ∨ q - s = 1 ∨ q - s = 2 by omega) with d | d | d
        · rw [d]; exact Or.inl (by simp)
        · rw [d]
          have sq : s < q := by omega
          have := rE_b (P := isG) (B := B) (n := n) (q := s) (by omega)
          have ge := (rE_b (P := isG) (B := B) (n := n) (q := q) hq).1
          have := isG_iff.mp (this.2.2.1 s (by omega) (by rw [← he]; omega))
          simp
          omega
        · exact Or.inr d
      have v9 := v9.resolve_right (by omega)
      rw [show iN (vv B s (q - s) * 10 + B q) - 48 = iN (vv B s (q - s) * 10 + B q - 48) from iN_sub (b := 48) (by omega), show jrem (iN (vv B s (q - s) * 10 + B q - 48)) 1000 = iN ((vv B s (q - s) * 10 + B q - 48) % 1000) from jrem_iN (b := 1000) (by omega) (by omega), Nat.mod_eq_of_lt (by omega)]
      congr 1
      rcases (show q - s = 0 ∨ q - s = 1 by omega) with d | d
      · have : q = s := by omega
        subst this
        rw [show q + 1 - q = 1 by omega, d]
        unfold vv
        simp
      · have : q = s + 1 := by omega
        subst this
        rw [show s + 1 + 1 - s = 2 by omega, d]
        unfold vv
        simp
        omega
    · exact brF (fun z => absurd ((iN_lt (b := _) (by omega) (by omega)).mp z) (by omega)) (stop (rE_z (by omega)))
  termination_by k q => n - q
theorem c_next {Q : Hp → Prop} {p : Nat} (c : cB f B n) (hp : p ≤ n) (h9 : f 51 9 = iN p) (kk : ∀ g, Fr7 f g → g 51 7 = iN (tK B n p) → g 51 8 = iN (tS B n p) → g 51 9 = iN (tE B n p) → (tK B n p = 2 → g 51 10 = iN (tV B n p)) → Q g) : CV L xs xm_Re_next [.ref 51] f Q := by
  have h6 := c.1
  refine t_Re_next_0 ?_
  rw [h9]
  refine c_skip c _ p rfl hp (t_Re_next_41 fun g1 e1 g2 e2 => ?_)
  obtain ⟨q0, q1⟩ := tS_le (B := B) hp
  have fr2 : Fr7 f g2 := by rw [e2, e1]; exact ((Fr7.refl f).put (by omega)).put (by omega)
  have x8 : g2 51 8 = iN (tS B n p) := by rw [e2, xu_k (by omega), e1, xu_eq]
  have x9 : g2 51 9 = iN (tS B n p) := by rw [e2, xu_eq]
  have c2 := c.fr fr2
  rw [c2.2.1]
  by_cases z : tS B n p < n
  · obtain ⟨b1, b2⟩ := c2.2.2 (tS B n p) (by omega)
    refine brT ((iN_lt (b := _) (by omega) (by omega)).mpr (by omega)) ⟨tS B n p, rfl, by omega, ?_⟩
    rw [b2]
    have nz : ¬ n ≤ tS B n p := by omega
    refine c_isLet b1 (fun y => br1 ?_) fun y => br0 ?_
    · have eE : tE B n p = rE isL B n (tS B n p) := by unfold tE; rw [if_neg nz, if_pos y]
      have eK : tK B n p = 1 := by unfold tK; rw [if_neg nz, if_pos y]
      exact c_readWord (B := B) (n := n) (q0 := tS B n p) (fun g fr w8 e w9 w7 we => kk g (fr2.trans fr) (by rw [w7, eK]; rfl) (by rw [w8]; exact x8) (by rw [w9, eE, we]) fun h => absurd h (by rw [eK]; decide)) c2 _ (tS B n p) g2 (Fr7.refl g2) rfl x9 rfl q1 rfl
    · rw [b2]
      refine c_isDig b1 (fun y2 => br1 ?_) fun y2 => br0 ?_
      · have eE : tE B n p = rE isG B n (tS B n p) := by unfold tE; rw [if_neg nz, if_neg y, if_pos y2]
        have eK : tK B n p = if rE isG B n (tS B n p) - tS B n p ≤ 2 then 2 else 4 := by unfold tK; rw [if_neg nz, if_neg y, if_pos y2]
        refine t_Re_readNumber_0 fun g3 e3 => ?_
        refine c_readNum (B := B) (n := n) (s := tS B n p) (fun g e fr w8 w9 we w7 wv => ?_) c2 _ (tS B n p) g3 (by rw [e3]; exact (Fr7.refl g2).put (by omega)) (by rw [e3, xu_k (by omega)]; exact x8) (by rw [e3, xu_k (by omega)]; exact x9) (Nat.le_refl _) (fun _ => by rw [e3, xu_eq, Nat.sub_self]; rfl) rfl q1 rfl
        subst we
        refine kk g (fr2.trans fr) (by rw [w7, eK]) w8 (by rw [w9, eE]) fun h => ?_
        have le : rE isG B n (tS B n p) - tS B n p ≤ 2 := by
          rw [eK] at h
          split at h
          · assumption
          · cases h
        rw [wv le]
        unfold tV vv
        rw [eE]
        have pos : tS B n p < rE isG B n (tS B n p) := by
          rw [rE_y z y2]
          have := (rE_b (P := isG) (B := B) (n := n) (q := tS B n p + 1) (by omega)).1
          omega
        rw [if_neg (by omega)]
      · have eE : tE B n p = tS B n p + 1 := by unfold tE; rw [if_neg nz, if_neg y, if_neg y2]
        have s59 := (sgn_ok _ b1).2.2.1
        rw [b2]
        refine ⟨fun h g7 e7 g8 e8 => ?_, fun h g5 e5 g6 e6 => ?_⟩
        · have eK : tK B n p = 3 := by unfold tK; rw [if_neg nz, if_neg y, if_neg y2, if_pos (s59.mp h)]
          refine kk g8 (by rw [e8, e7]; exact (fr2.put (by omega)).put (by omega)) (by rw [e8, xu_k (by omega), e7, xu_eq, eK]; rfl) (by rw [e8, xu_k (by omega), e7, xu_k (by omega)]; exact x8) (by rw [e8, xu_eq, eE, iN_inc]) fun h => absurd h (by rw [eK]; decide)
        · have eK : tK B n p = 4 := by unfold tK; rw [if_neg nz, if_neg y, if_neg y2, if_neg (fun u => h (s59.mpr u))]
          refine kk g6 (by rw [e6, e5]; exact (fr2.put (by omega)).put (by omega)) (by rw [e6, xu_k (by omega), e5, xu_eq, eK]; rfl) (by rw [e6, xu_k (by omega), e5, xu_k (by omega)]; exact x8) (by rw [e6, xu_eq, eE, iN_inc]) fun h => absurd h (by rw [eK]; decide)
  · have eE : tE B n p = tS B n p := by unfold tE; rw [if_pos (by omega)]
    have eK : tK B n p = 0 := by unfold tK; rw [if_pos (by omega)]
    refine brF (fun z => absurd ((iN_lt (b := _) (by omega) (by omega)).mp z) (by omega)) fun g3 e3 => ?_
    exact kk g3 (by rw [e3]; exact fr2.put (by omega)) (by rw [e3, xu_eq, eK]; rfl) (by rw [e3, xu_k (by omega)]; exact x8) (by rw [e3, xu_k (by omega), eE]; exact x9) fun h => absurd h (by rw [eK]; decide)
end NEXT
