theorem lit (n : Nat) : (no_index (OfNat.ofNat n) : Int32) = iN n := rfl
theorem lit_t1 {a b : Nat} : 774 + 161 * iN a + 1 + 4 * iN b = iN (774 + 161 * a + 1 + 4 * b) := by
  simp only [lit, iN_add, iN_mul]
