/-! a whole text, read by the class -/
def prs (B : Nat → Nat) (n t : Nat) : Nat → Nat → FT → DT → FT × DT
  | 0, _, F, X => (F, X)
  | k + 1, p, F, X => if tK B n p = 0 then (F, X) else if (lin B n t p F X).1 = true then prs B n t k (lin B n t p F X).2.1 (lin B n t p F X).2.2.1 (lin B n t p F X).2.2.2 else ((1, tS B n (lin B n t p F X).2.1), (lin B n t p F X).2.2.2)
theorem prs_s (B : Nat → Nat) (n t k p : Nat) (F : FT) (X : DT) : prs B n t (k + 1) p F X = if tK B n p = 0 then (F, X) else if (lin B n t p F X).1 = true then prs B n t k (lin B n t p F X).2.1 (lin B n t p F X).2.2.1 (lin B n t p F X).2.2.2 else ((1, tS B n (lin B n t p F X).2.1), (lin B n t p F X).2.2.2) := rfl
def X0 : DT := (((1, 4, 2, 0, 0), fun _ => 0, fun _ => 0, fun _ => 0, fun _ _ => 1), 0, (0, fun _ => 0, fun _ => 0, fun _ => 0, fun _ => 0), (0, fun _ => 0, fun _ => 0, fun _ => 0))
/-- a liar or a delay of one who is no member -/
def fin4 (n : Nat) (R : FT × DT) : FT := if R.2.2.1 ≤ 3 * dF R.2.1 + 1 then R.1 else nt R.1 4 n
theorem nums_p {B : Nat → Nat} {n i : Nat} : ∀ r k p F V, p ≤ n → p ≤ (nums B n i r k p F V).2.1 ∧ (nums B n i r k p F V).2.1 ≤ n
  | 0, k, p, F, V, h => ⟨Nat.le_refl _, h⟩
  | r + 1, k, p, F, V, h => by
    rw [nums_s]
    split
    · have a := tS_le (B := B) h
      have b := tE_le (B := B) h
      have := nums_p (B := B) (i := i) r (k + 1) (tE B n p) (if okN i k (tV B n p) (uV V k (iN (tV B n p)) 0) then F else nt F 2 (tS B n p)) (uV V k (iN (tV B n p))) b.2
      omega
    · exact ⟨Nat.le_refl _, h⟩
theorem kp_wf {i : Nat} {V : Nat → Int32} {X : DT} (hi : i < 17) (wx : wfX X) (wv : wfV i V) : wfX (kp i V X) := by
  obtain ⟨w1, w2, w3, w4⟩ := id wx
  obtain ⟨v0, e0, a0, b0⟩ := wv.1 0 (by have := (ar_b i hi).1; omega)
  have lb0 := le_b i hi 0 (by omega)
  have n0 : nb (V 0) = v0 := by rw [e0, nb_iN (by omega)]
  unfold kp
  by_cases i0 : i = 0
  · rw [if_pos i0]; exact ⟨w1, w2, w3, w4⟩
  rw [if_neg i0]
  by_cases i1 : i = 1
  · rw [if_pos i1]; exact ⟨w1, w2, w3, w4⟩
  rw [if_neg i1]
  by_cases i2 : i = 2
  · rw [if_pos i2]; exact ⟨w1, w2, w3, w4⟩
  rw [if_neg i2]
  by_cases i3 : i = 3
  · rw [if_pos i3]
    subst i3
    have : v0 ≤ 6 := b0
    refine ⟨w1, ?_, w3, w4⟩
    show max X.2.1 (nb (V 0) + 1) ≤ 7
    omega
  rw [if_neg i3]
  by_cases i4 : i = 4
  · rw [if_pos i4]; exact ⟨w1, w2, w3, w4⟩
  rw [if_neg i4]
  by_cases i5 : i = 5
  · rw [if_pos i5]
    split
    · refine ⟨?_, w2, w3, w4⟩
      show dN X.1 + 1 ≤ 10
      omega
    · exact wx
  rw [if_neg i5]
  by_cases i6 : i = 6
  · rw [if_pos i6]
    subst i6
    obtain ⟨v1, e1, a1, b1⟩ := wv.1 1 (by decide)
    have : v0 ≤ 6 := b0
    have h1 : v1 ≤ 6 := b1
    have n1 : nb (V 1) = v1 := by rw [e1, nb_iN (by omega)]
    refine ⟨w1, ?_, w3, w4⟩
    show max X.2.1 (max (nb (V 0) + 1) (nb (V 1) + 1)) ≤ 7
    omega
  rw [if_neg i6]
  split
  · split
    · refine ⟨w1, w2, w3, ?_⟩
      show X.2.2.2.1 + 1 ≤ 12
      omega
    · exact wx
  · split
    · refine ⟨w1, w2, ?_, w4⟩
      show X.2.2.1.1 + 1 ≤ 40
      omega
    · exact wx
/-- a line: onward, and what is kept is as it may be -/
theorem lin_wf {B : Nat → Nat} {n t p : Nat} {F : FT} {X : DT} (hp : p ≤ n) (ht : t < 3) (wx : wfX X) : wfX (lin B n t p F X).2.2.2 ∧ p ≤ (lin B n t p F X).2.1 ∧ (lin B n t p F X).2.1 ≤ n ∧ ((lin B n t p F X).1 = true → p < (lin B n t p F X).2.1) := by
  have b3 : lo3 t ≤ lo3 (t + 1) ∧ lo3 (t + 1) ≤ 17 := by
    rcases (show t = 0 ∨ t = 1 ∨ t = 2 by omega) with rfl | rfl | rfl <;> decide
  by_cases z : tK B n p = 1 ∧ lo3 t < wI B (tS B n p) (tE B n p) ∧ wI B (tS B n p) (tE B n p) ≤ lo3 (t + 1)
  · obtain ⟨z1, z2, z3⟩ := z
    obtain ⟨i, hi⟩ : ∃ i, wI B (tS B n p) (tE B n p) = i + 1 := ⟨wI B (tS B n p) (tE B n p) - 1, by omega⟩
    have h3 : lo3 t ≤ i ∧ i < lo3 (t + 1) := by omega
    have a := tS_le (B := B) hp
    have b := tE_le (B := B) hp
    obtain ⟨⟨bo, p', F', V'⟩, er⟩ : ∃ r, nums B n i (arN i) 0 (tE B n p) (fF B n p i F X) (fun _ => -1) = r := ⟨_, rfl⟩
    have np := nums_p (B := B) (n := n) (i := i) (arN i) 0 (tE B n p) (fF B n p i F X) (fun _ => -1) b.2
    rw [er] at np
    have np1 : tE B n p ≤ p' := np.1
    have np2 : p' ≤ n := np.2
    by_cases y : bo = true ∧ tK B n p' = 3
    · obtain ⟨rfl, y⟩ := y
      rw [lin_t z1 hi h3 er y]
      have a' := tS_le (B := B) np2
      have nz : ¬ n ≤ tS B n p' := fun q => by unfold tK at y; rw [if_pos q] at y; cases y
      have e' : tE B n p' = tS B n p' + 1 := by
        unfold tK at y
        unfold tE
        rw [if_neg nz] at y ⊢
        by_cases l : isL (B (tS B n p')) = true
        · rw [if_pos l] at y; cases y
        · rw [if_neg l] at y ⊢
          by_cases g : isG (B (tS B n p')) = true
          · rw [if_pos g] at y
            split at y <;> cases y
          · rw [if_neg g]
      refine ⟨?_, by show p ≤ tE B n p'; omega, by show tE B n p' ≤ n; omega, fun _ => by show p < tE B n p'; omega⟩
      show wfX (if F'.1 = 0 then kp i V' X else X)
      split
      · rename_i f0
        have nv := nums_V (B := B) (n := n) (i := i) (arN i) 0 (tE B n p) (fF B n p i F X) (fun _ => -1) (fun j hj => absurd hj (by omega)) (fun _ _ => rfl) (by rw [er]) (by rw [er]; exact f0)
        rw [er] at nv
        exact kp_wf (by omega) wx ⟨fun k hk => nv.1 k (by omega), fun k hk h => nv.2 k (by omega)⟩
      · exact wx
    · rw [lin_f z1 hi h3 er y]
      exact ⟨wx, by show p ≤ p'; omega, np2, fun h => by cases h⟩
  · rw [lin_no z]
    exact ⟨wx, Nat.le_refl _, hp, fun h => by cases h⟩
section READ
variable {L : Nat} {xs : Nat → Int32} {B : Nat → Nat} {n : Nat}
theorem c_read117 {Q : Hp → Prop} {t : Nat} {x1 nx1 : Nat} {y z : Int32} {F : FT} {X : DT} {f : Hp} (k1 : xS0 L x1 = (21, nx1)) (hF : dF X.1 ≤ 2) (c : cB f B n) (cf : cF f F) (cx : cX f X) (wx : wfX X) (kk : ∀ g, cF g (fin4 n (F, X)) → cX g X → FrT f g → Q g) : Wp L xs xm_Re_read 117 [.ref 51, .ref x1, .int y, .int z, .int (iN t)] [] f (QV Q) := by
  have c6 := c.1
  have w2 := wx.2.1
  refine t_Re_read_117 k1 (c_members (F := dF X.1) rfl cx.1.1 ?_)
  rw [cx.2.1]
  have key : eQ X.2.1 < iN (3 * dF X.1 + 1) ↔ X.2.1 ≤ 3 * dF X.1 + 1 := by
    unfold eQ
    by_cases z : X.2.1 = 0
    · rw [if_pos z]
      refine ⟨fun _ => by omega, fun _ => ?_⟩
      rw [Int32.lt_iff_toInt_lt, iN_toInt (by omega)]
      have : (-1 : Int32).toInt = -1 := by decide
      omega
    · rw [if_neg z, iN_lt (by omega) (by omega)]; omega
  rw [key]
  unfold fin4 at kk
  refine ⟨fun z => ?_, fun z => ?_⟩
  · have kk := kk f
    rw [if_pos z] at kk
    exact kk cf cx fun _ _ => rfl
  · rw [c.2.1]
    refine c_note (c := 4) cf (by omega) fun g a b d => ?_
    have kk := kk g
    rw [if_neg z] at kk
    exact kk a (cx.fr (fun x p q => b x (by omega)) (d 11 (by omega) (by omega))) fun x hx => b x (by omega)
end READ
