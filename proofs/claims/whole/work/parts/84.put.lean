/-! a text is laid: what is told then -/
def upT (T : TD) (t k : Nat) (X : DT) : TD := (T.1, ((if t = 0 ∧ k = T.2.1.1 then T.2.1.1 + 1 else T.2.1.1), (if t = 1 ∧ k = T.2.1.2.1 then T.2.1.2.1 + 1 else T.2.1.2.1), (if t = 2 ∧ k = T.2.1.2.2 then T.2.1.2.2 + 1 else T.2.1.2.2)), (fun j => if t = 0 ∧ j = k then X.1 else T.2.2.1 j), (fun j => if t = 1 ∧ j = k then X.2.2.1 else T.2.2.2.1 j), fun j => if t = 2 ∧ j = k then X.2.2.2 else T.2.2.2.2 j)
theorem upT_z {T : TD} {t k s : Nat} {X : DT} (hs : s < 3) : tZ (upT T t k X) s = if t = s ∧ k = tZ T s then tZ T s + 1 else tZ T s := by
  rcases (show s = 0 ∨ s = 1 ∨ s = 2 by omega) with rfl | rfl | rfl <;> rfl
theorem wfC_X {X : DT} (wx : wfX X) (wy : wfY X) (h4 : X.2.1 ≤ 3 * dF X.1 + 1) : wfC X.1 := ⟨wy.1, wy.2.1, wy.2.2.1, Nat.lt_of_lt_of_le wy.2.2.2.1 (Nat.pow_le_pow_right (by omega) h4), wx.1, wy.2.2.2.2.1, wy.2.2.2.2.2.1, wy.2.2.2.2.2.2.1⟩
theorem upT_wf {T : TD} {t k : Nat} {X : DT} (w : wfT T) (hk : k < 2) (wx : wfX X) (wy : wfY X) (h4 : X.2.1 ≤ 3 * dF X.1 + 1) : wfT (upT T t k X) := by
  obtain ⟨w1, w2, w3, w4, w5, w6⟩ := w
  refine ⟨w1, w2, fun s hs => ?_, fun j hj => ?_, fun j hj => ?_, fun j hj => ?_⟩
  · have := w3 s hs
    rw [upT_z hs]
    split <;> omega
  · rw [upT_z (by omega)] at hj
    show wfC (if t = 0 ∧ j = k then X.1 else T.2.2.1 j)
    by_cases z : t = 0 ∧ j = k
    · rw [if_pos z]; exact wfC_X wx wy h4
    · rw [if_neg z]
      refine w4 j ?_
      split at hj <;> omega
  · rw [upT_z (by omega)] at hj
    show wfR (if t = 1 ∧ j = k then X.2.2.1 else T.2.2.2.1 j)
    by_cases z : t = 1 ∧ j = k
    · rw [if_pos z]; exact wy.2.2.2.2.2.2.2.1
    · rw [if_neg z]
      refine w5 j ?_
      split at hj <;> omega
  · rw [upT_z (by omega)] at hj
    show wfP (if t = 2 ∧ j = k then X.2.2.2 else T.2.2.2.2 j)
    by_cases z : t = 2 ∧ j = k
    · rw [if_pos z]; exact wy.2.2.2.2.2.2.2.2
    · rw [if_neg z]
      refine w6 j ?_
      split at hj <;> omega
