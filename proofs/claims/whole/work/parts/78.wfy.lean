/-! what is kept of a text is as it may be -/
def wfY (X : DT) : Prop := dF X.1 ≤ 2 ∧ (1 ≤ dW X.1 ∧ dW X.1 ≤ 9) ∧ (1 ≤ dS X.1 ∧ dS X.1 ≤ 4) ∧ dL X.1 < 2 ^ X.2.1 ∧ (∀ i, i < 8 → dA X.1 i < 100) ∧ (∀ j, j < dN X.1 → dO X.1 j < 8 ∧ dP X.1 j < 100) ∧ (∀ a b, a < 7 → b < 7 → 1 ≤ dD X.1 a b ∧ dD X.1 a b ≤ 9) ∧ wfR X.2.2.1 ∧ wfP X.2.2.2
theorem X0_wf : wfX X0 ∧ wfY X0 := by
  refine ⟨⟨by decide, by decide, by decide, by decide⟩, by decide, by decide, by decide, by decide, fun i _ => ?_, fun j h => ?_, fun a b _ _ => ?_, ⟨by decide, fun k h => ?_⟩, by decide, fun k h => ?_⟩
  · show 0 < 100; omega
  · exact absurd h (Nat.not_lt_zero _)
  · show 1 ≤ 1 ∧ 1 ≤ 9; omega
  · exact absurd h (Nat.not_lt_zero _)
  · exact absurd h (Nat.not_lt_zero _)
theorem kp_wfy {i : Nat} {V : Nat → Int32} {X : DT} (hi : i < 17) (wx : wfX X) (wy : wfY X) (wv : wfV i V) : wfY (kp i V X) := by
  obtain ⟨w1, w2, w3, w4⟩ := id wx
  obtain ⟨y1, y2, y3, y4, y5, y6, y7, y8, y9⟩ := id wy
  obtain ⟨v0, e0, a0, b0⟩ := wv.1 0 (by have := (ar_b i hi).1; omega)
  have lb0 := le_b i hi 0 (by omega)
  have n0 : nb (V 0) = v0 := by rw [e0, nb_iN (by omega)]
  unfold kp
  by_cases i0 : i = 0
  · rw [if_pos i0]; subst i0
    have : v0 ≤ 2 := b0
    refine ⟨?_, y2, y3, y4, y5, y6, y7, y8, y9⟩
    show nb (V 0) ≤ 2; omega
  rw [if_neg i0]
  by_cases i1 : i = 1
  · rw [if_pos i1]; subst i1
    have : v0 ≤ 9 := b0
    have : 1 ≤ v0 := a0
    refine ⟨y1, ?_, y3, y4, y5, y6, y7, y8, y9⟩
    show 1 ≤ nb (V 0) ∧ nb (V 0) ≤ 9; omega
  rw [if_neg i1]
  by_cases i2 : i = 2
  · rw [if_pos i2]; subst i2
    have : v0 ≤ 4 := b0
    have : 1 ≤ v0 := a0
    refine ⟨y1, y2, ?_, y4, y5, y6, y7, y8, y9⟩
    show 1 ≤ nb (V 0) ∧ nb (V 0) ≤ 4; omega
  rw [if_neg i2]
  by_cases i3 : i = 3
  · rw [if_pos i3]
    refine ⟨y1, y2, y3, ?_, y5, y6, y7, y8, y9⟩
    show dL X.1 ||| (1 <<< nb (V 0)) < 2 ^ max X.2.1 (nb (V 0) + 1)
    refine Nat.or_lt_two_pow (Nat.lt_of_lt_of_le y4 (Nat.pow_le_pow_right (by omega) (by omega))) ?_
    rw [Nat.one_shiftLeft]
    exact Nat.lt_of_lt_of_le (Nat.pow_lt_pow_right (by omega) (show nb (V 0) < nb (V 0) + 1 by omega)) (Nat.pow_le_pow_right (by omega) (by omega))
  rw [if_neg i3]
  by_cases i4 : i = 4
  · rw [if_pos i4]; subst i4
    obtain ⟨v1, e1, a1, b1⟩ := wv.1 1 (by decide)
    have b1 : v1 ≤ 99 := b1
    have n1 : nb (V 1) = v1 := by rw [e1, nb_iN (by omega)]
    refine ⟨y1, y2, y3, y4, fun j hj => ?_, y6, y7, y8, y9⟩
    show (if j = nb (V 0) then nb (V 1) else dA X.1 j) < 100
    split
    · omega
    · exact y5 j hj
  rw [if_neg i4]
  by_cases i5 : i = 5
  · rw [if_pos i5]; subst i5
    obtain ⟨v1, e1, a1, b1⟩ := wv.1 1 (by decide)
    have b1 : v1 ≤ 99 := b1
    have b0 : v0 ≤ 7 := b0
    have n1 : nb (V 1) = v1 := by rw [e1, nb_iN (by omega)]
    split
    · refine ⟨y1, y2, y3, y4, y5, fun j hj => ?_, y7, y8, y9⟩
      have hj : j < dN X.1 + 1 := hj
      show (if j = dN X.1 then nb (V 0) else dO X.1 j) < 8 ∧ (if j = dN X.1 then nb (V 1) else dP X.1 j) < 100
      by_cases z : j = dN X.1
      · rw [if_pos z, if_pos z]; omega
      · rw [if_neg z, if_neg z]; exact y6 j (by omega)
    · exact wy
  rw [if_neg i5]
  by_cases i6 : i = 6
  · rw [if_pos i6]; subst i6
    obtain ⟨v2, e2, a2, b2⟩ := wv.1 2 (by decide)
    have b2 : v2 ≤ 9 := b2
    have a2 : 1 ≤ v2 := a2
    have n2 : nb (V 2) = v2 := by rw [e2, nb_iN (by omega)]
    refine ⟨y1, y2, y3, ?_, y5, y6, fun a b ha hb => ?_, y8, y9⟩
    · show dL X.1 < 2 ^ max X.2.1 (max (nb (V 0) + 1) (nb (V 1) + 1))
      exact Nat.lt_of_lt_of_le y4 (Nat.pow_le_pow_right (by omega) (by omega))
    · show 1 ≤ (if (a = nb (V 1) ∧ b = nb (V 0)) ∨ (a = nb (V 0) ∧ b = nb (V 1)) then nb (V 2) else dD X.1 a b) ∧ (if (a = nb (V 1) ∧ b = nb (V 0)) ∨ (a = nb (V 0) ∧ b = nb (V 1)) then nb (V 2) else dD X.1 a b) ≤ 9
      split
      · omega
      · exact y7 a b ha hb
  rw [if_neg i6]
  by_cases i16 : i = 16
  · rw [if_pos i16]; subst i16
    obtain ⟨v1, e1, a1, b1⟩ := wv.1 1 (by decide)
    obtain ⟨v2, e2, a2, b2⟩ := wv.1 2 (by decide)
    have b0 : v0 ≤ 6 := b0
    have b1 : v1 ≤ 9 := b1
    have b2 : v2 ≤ 99 := b2
    have n1 : nb (V 1) = v1 := by rw [e1, nb_iN (by omega)]
    have n2 : nb (V 2) = v2 := by rw [e2, nb_iN (by omega)]
    split
    · refine ⟨y1, y2, y3, y4, y5, y6, y7, y8, ⟨?_, fun k hk => ?_⟩⟩
      · show X.2.2.2.1 + 1 ≤ 12; omega
      · have hk : k < X.2.2.2.1 + 1 := hk
        show (if k = X.2.2.2.1 then nb (V 0) else X.2.2.2.2.1 k) ≤ 6 ∧ (if k = X.2.2.2.1 then nb (V 1) else X.2.2.2.2.2.1 k) ≤ 9 ∧ (if k = X.2.2.2.1 then nb (V 2) else X.2.2.2.2.2.2 k) ≤ 99
        by_cases z : k = X.2.2.2.1
        · rw [if_pos z, if_pos z, if_pos z]; omega
        · rw [if_neg z, if_neg z, if_neg z]; exact y9.2 k (by omega)
    · exact wy
  rw [if_neg i16]
  split
  · refine ⟨y1, y2, y3, y4, y5, y6, y7, ⟨?_, fun k hk => ?_⟩, y9⟩
    · show X.2.2.1.1 + 1 ≤ 40; omega
    · have hk : k < X.2.2.1.1 + 1 := hk
      show (if k = X.2.2.1.1 then i - 7 else X.2.2.1.2.1 k) ≤ 8 ∧ (if k = X.2.2.1.1 then nb (V 0) else X.2.2.1.2.2.1 k) ≤ 6 ∧ ((if k = X.2.2.1.1 then i - 7 else X.2.2.1.2.1 k) = 0 → (∃ p, 1 ≤ p ∧ p ≤ 12 ∧ (if k = X.2.2.1.1 then V 1 else X.2.2.1.2.2.2.1 k) = iN p) ∧ ∃ o, o ≤ 9 ∧ (if k = X.2.2.1.1 then V 2 else X.2.2.1.2.2.2.2 k) = iN o) ∧ ((if k = X.2.2.1.1 then i - 7 else X.2.2.1.2.1 k) = 1 ∨ (if k = X.2.2.1.1 then i - 7 else X.2.2.1.2.1 k) = 2 → (∃ b, b ≤ 6 ∧ (if k = X.2.2.1.1 then V 1 else X.2.2.1.2.2.2.1 k) = iN b) ∧ ∃ p, 1 ≤ p ∧ p ≤ 12 ∧ (if k = X.2.2.1.1 then V 2 else X.2.2.1.2.2.2.2 k) = iN p) ∧ ((if k = X.2.2.1.1 then i - 7 else X.2.2.1.2.1 k) = 4 ∨ (if k = X.2.2.1.1 then i - 7 else X.2.2.1.2.1 k) = 5 → ∃ b, b ≤ 6 ∧ (if k = X.2.2.1.1 then V 1 else X.2.2.1.2.2.2.1 k) = iN b)
      by_cases z : k = X.2.2.1.1
      · simp only [if_pos z]
        have m6 : v0 ≤ 6 := by
          have : ∀ i, i < 16 → 7 ≤ i → moN i 0 = 6 := by decide +kernel
          have := this i (by omega) (by omega)
          omega
        refine ⟨by omega, by omega, fun h => ?_, fun h => ?_, fun h => ?_⟩
        · have : i = 7 := by omega
          subst this
          obtain ⟨v1, e1, a1, b1⟩ := wv.1 1 (by decide)
          obtain ⟨v2, e2, a2, b2⟩ := wv.1 2 (by decide)
          exact ⟨⟨v1, a1, b1, e1⟩, v2, b2, e2⟩
        · rcases (show i = 8 ∨ i = 9 by omega) with q | q
          · subst q
            obtain ⟨v1, e1, a1, b1⟩ := wv.1 1 (by decide)
            obtain ⟨v2, e2, a2, b2⟩ := wv.1 2 (by decide)
            exact ⟨⟨v1, b1, e1⟩, v2, a2, b2, e2⟩
          · subst q
            obtain ⟨v1, e1, a1, b1⟩ := wv.1 1 (by decide)
            obtain ⟨v2, e2, a2, b2⟩ := wv.1 2 (by decide)
            exact ⟨⟨v1, b1, e1⟩, v2, a2, b2, e2⟩
        · rcases (show i = 11 ∨ i = 12 by omega) with q | q
          · subst q
            obtain ⟨v1, e1, a1, b1⟩ := wv.1 1 (by decide)
            exact ⟨v1, b1, e1⟩
          · subst q
            obtain ⟨v1, e1, a1, b1⟩ := wv.1 1 (by decide)
            exact ⟨v1, b1, e1⟩
      · simp only [if_neg z]
        exact y8.2 k (by omega)
  · exact wy
