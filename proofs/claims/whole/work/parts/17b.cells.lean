set_option maxRecDepth 100000 in
theorem xσ2_S : ∀ a, a < 435 → xσ2.2.1 a = xLS.getD a (99, 0) := by decide +kernel
def xBd (a : Nat) : Nat := if (xLS.getD a (99, 0)).1 ≤ 12 then xNf (xLS.getD a (99, 0)).1 else if 23 ≤ (xLS.getD a (99, 0)).1 then (xLS.getD a (99, 0)).2 else 0
set_option maxRecDepth 100000 in
theorem xσ2_R : ∀ a, a < 435 → ∀ k, k < xBd a → ((xLS.getD a (99, 0)).1 ≤ 12 → xFk (xLS.getD a (99, 0)).1 k = 2) → xσ2.2.2.2 a k = xR0 a k := by decide +kernel
set_option maxRecDepth 100000 in
theorem xσ2_I : xσ2.2.2.1 1 1 = 0 ∧ xσ2.2.2.1 1 2 = 0 ∧ xσ2.2.2.1 1 3 = -1 ∧ (∀ k, k < 3 → xσ2.2.2.1 3 k = 0) ∧ (∀ k, k < 3 → xσ2.2.2.1 50 k = 0) ∧ (∀ k, k < 10 → xσ2.2.2.1 401 k = if k = 6 then -1 else 0) ∧ (∀ k, k < 3 → xσ2.2.2.1 402 k = 0) := by decide +kernel
