/-! the reference's members told -/
section MEMB
variable {L : Nat} {xs : Nat → Int32} {f : Hp}
theorem eQ_lt7 {m a : Nat} (hm : m ≤ 7) (ha : a ≤ 99) : eQ m < iN a ↔ m < a + 1 := by
  unfold eQ
  by_cases z : m = 0
  · rw [if_pos z]
    refine ⟨fun _ => by omega, fun _ => ?_⟩
    rw [Int32.lt_iff_toInt_lt, iN_toInt (by omega)]
    have : (-1 : Int32).toInt = -1 := by decide
    omega
  · rw [if_neg z, iN_lt (by omega) (by omega)]; omega
theorem r_memb {Q : Int32 → Hp → Prop} (num : CI L xs xm_Mo_numbered [.ref 400, .int 0, .int 6] f (fun v g => ∃ a m, v = iN a ∧ a ≤ 6 ∧ g 400 9 = eQ m ∧ m ≤ 7 ∧ ∀ g', (∀ x, ¬ x = 400 → g' x = g x) → (∀ j, ¬ j = 9 → g' 400 j = g 400 j) → g' 400 9 = eQ (max m (a + 1)) → Q (iN a) g')) : CI L xs xm_Mo_memberTold [.ref 400] f Q := by
  refine t_Mo_memberTold_0 (CI.mono num fun v g h => ?_)
  obtain ⟨a, m, rfl, ha, h9, hm, kk⟩ := h
  rw [h9, eQ_lt7 hm (by omega)]
  refine ⟨fun z g3 e3 => ?_, fun z g2 e2 => ?_⟩
  · refine kk g3 (fun x hx => by rw [e3, xu_a hx]) (fun j hj => by rw [e3, xu_k hj]) ?_
    rw [e3, xu_eq, show max m (a + 1) = a + 1 by omega]
    unfold eQ
    rw [if_neg (by omega)]; rfl
  · refine kk g2 (fun x hx => by rw [e2, xu_a hx]) (fun j hj => by rw [e2, xu_k hj]) ?_
    rw [e2, xu_eq, show max m (a + 1) = m by omega]
end MEMB
