/-! what holds as the law's loop begins -/
set_option maxRecDepth 100000 in
theorem xσ2_T : ∀ k, k < 600 → xσ2.2.2.1 2 k = 0 ∧ xσ2.2.2.1 401 (10 + k) = 0 := by decide +kernel
theorem inv_of {f : Hp} (hI : f 1 1 = 0 ∧ f 1 2 = 0 ∧ f 1 3 = -1 ∧ (∀ k, k < 3 → f 3 k = 0) ∧ (∀ k, k < 3 → f 50 k = 0) ∧ (∀ k, k < 10 → f 401 k = if k = 6 then -1 else 0) ∧ (∀ k, k < 3 → f 402 k = 0)) (hT : ∀ k, k < 600 → f 2 k = 0 ∧ f 401 (10 + k) = 0) : Inv f := by
  obtain ⟨a1, a2, a3, a4, a5, a6, a7⟩ := hI
  have s0 : sgn 0 = 0 := by decide
  have z0 : ∀ s, tZ ((0, 0, -1, fun _ => 0), (0, 0, 0), (fun _ => X0.1), (fun _ => X0.2.2.1), fun _ => X0.2.2.2) s = 0 := fun s => by
    unfold tZ
    split
    · rfl
    · split <;> rfl
  have r6 : ∀ k, k < 10 → ¬ k = 6 → f 401 k = 0 := fun k hk h => by rw [a6 k hk, if_neg h]
  refine ⟨⟨((0, 0, -1, fun _ => 0), (0, 0, 0), (fun _ => X0.1), (fun _ => X0.2.2.1), fun _ => X0.2.2.2), ⟨by show 0 ≤ 600; omega, fun i _ => by show 0 < 256; omega, fun s _ => by rw [z0]; omega, fun k h => absurd h (by rw [z0]; omega), fun k h => absurd h (by rw [z0]; omega), fun k h => absurd h (by rw [z0]; omega)⟩, ⟨a1, a2, a3, fun i hi => ?_, fun s hs => ?_, fun k h => absurd h (by rw [z0]; omega), fun k h => absurd h (by rw [z0]; omega), fun k h => absurd h (by rw [z0]; omega)⟩, ⟨r6 4 (by omega) (by omega), r6 5 (by omega) (by omega), ?_, fun i hi => ?_, fun s hs => ?_, fun k h => absurd h (by rw [z0]; omega), fun k h => absurd h (by rw [z0]; omega), fun k h => absurd h (by rw [z0]; omega)⟩⟩, fun k hk => Or.inl ⟨a5 k hk, a7 k hk⟩⟩
  · show f 2 i = sgn 0
    rw [s0]; exact (hT i hi).1
  · rw [z0]; exact a4 s hs
  · have := a6 6 (by omega)
    rw [if_pos rfl] at this
    exact this
  · rw [Nat.zero_add]; exact (hT i hi).2
  · rw [z0, Nat.zero_add]; exact r6 s (by omega) (by omega)
theorem inv0 : Inv xσ2.2.2.1 := inv_of xσ2_I xσ2_T
