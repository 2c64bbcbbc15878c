/-! A TEXT, line by line: faults, bounds -/
abbrev FT : Type := Nat × Nat
def nt (F : FT) (c p : Nat) : FT := if F.1 = 0 then (c, p) else F
def arN (i : Nat) : Nat := [1, 1, 1, 1, 2, 2, 3, 3, 3, 3, 1, 2, 2, 1, 1, 1, 3].getD i 0
def leN (i k : Nat) : Nat := [0, 0, 0, 1, 0, 0, 1, 0, 0, 0, 0, 0, 0, 0, 0, 0, 0, 0, 0, 0, 1, 0, 1, 0, 0, 0, 1, 0, 0, 1, 0, 0, 0, 0, 0, 0, 0, 0, 0, 0, 0, 0, 0, 0, 0, 0, 0, 0, 0, 0, 0].getD (3 * i + k) 0
def moN (i k : Nat) : Nat := [2, 0, 0, 9, 0, 0, 4, 0, 0, 6, 0, 0, 7, 99, 0, 7, 99, 0, 6, 6, 9, 6, 12, 9, 6, 6, 12, 6, 6, 12, 6, 0, 0, 6, 6, 0, 6, 6, 0, 6, 0, 0, 6, 0, 0, 6, 0, 0, 6, 9, 99].getD (3 * i + k) 0
def twN (i : Nat) : Bool := i == 6 || i == 8 || i == 9 || i == 11 || i == 12
abbrev okN (i k v : Nat) (v0 : Int32) : Prop := leN i k ≤ v ∧ v ≤ moN i k ∧ ¬ (k = 1 ∧ twN i = true ∧ iN v = v0)
theorem ar_b : ∀ i, i < 17 → 1 ≤ arN i ∧ arN i ≤ 3 := by decide +kernel
theorem le_b : ∀ i, i < 17 → ∀ k, k < 3 → leN i k ≤ 99 ∧ moN i k ≤ 99 := by decide +kernel
section SPEC
variable {L : Nat} {xs : Nat → Int32} {f g : Hp} {B : Nat → Nat} {n : Nat} {F : FT}
theorem x_tab2 {i : Nat} (hi : i < 17) : xoI xs 1000002 i = iN (arN i) := by
  have e : xoI xs 1000002 i = (xTab.getD 2 []).getD i 0 := by
    unfold xoI
    rw [if_neg (by omega), if_pos (by omega)]
  have all : ∀ i, i < 17 → (xTab.getD 2 []).getD i 0 = iN (arN i) := by decide +kernel
  rw [e]; exact all i hi
theorem x_tab3 {i k : Nat} (hi : i < 17) (hk : k < 3) : xoI xs 1000003 (3 * i + k) = iN (leN i k) := by
  have e : xoI xs 1000003 (3 * i + k) = (xTab.getD 3 []).getD (3 * i + k) 0 := by
    unfold xoI
    rw [if_neg (by omega), if_pos (by omega)]
  have all : ∀ i, i < 17 → ∀ k, k < 3 → (xTab.getD 3 []).getD (3 * i + k) 0 = iN (leN i k) := by decide +kernel
  rw [e]; exact all i hi k hk
theorem x_tab4 {i k : Nat} (hi : i < 17) (hk : k < 3) : xoI xs 1000004 (3 * i + k) = iN (moN i k) := by
  have e : xoI xs 1000004 (3 * i + k) = (xTab.getD 4 []).getD (3 * i + k) 0 := by
    unfold xoI
    rw [if_neg (by omega), if_pos (by omega)]
  have all : ∀ i, i < 17 → ∀ k, k < 3 → (xTab.getD 4 []).getD (3 * i + k) 0 = iN (moN i k) := by decide +kernel
  rw [e]; exact all i hi k hk
/-- the class's fault so far -/
def cF (f : Hp) (F : FT) : Prop := F.1 ≤ 4 ∧ f 51 3 = iN F.1 ∧ f 51 4 = if F.1 = 0 then -1 else iN F.2
theorem c_note {Q : Hp → Prop} {c p : Nat} (h : cF f F) (hc : 1 ≤ c ∧ c ≤ 4) (kk : ∀ g, cF g (nt F c p) → (∀ x, ¬ x = 51 → g x = f x) → (∀ j, ¬ j = 3 → ¬ j = 4 → g 51 j = f 51 j) → Q g) : CV L xs xm_Re_note [.ref 51, .int (iN c), .int (iN p)] f Q := by
  have h4 := h.1
  refine t_Re_note_0 ?_
  rw [h.2.1, show (iN F.1 = 0 ↔ F.1 = 0) from iN_inj (b := 0) (by omega) (by omega)]
  unfold nt at kk
  refine ⟨fun z g1 e1 g2 e2 => ?_, fun z => ?_⟩
  · rw [if_pos z] at kk
    subst e1 e2
    exact kk _ ⟨hc.2, by rw [xu_k (by omega), xu_eq], by rw [xu_eq]; exact (if_neg (show ¬ c = 0 by omega)).symm⟩ (fun x hx => by rw [xu_a hx, xu_a hx]) fun j a b => by rw [xu_k b, xu_k a]
  · rw [if_neg z] at kk
    exact kk f h (fun _ _ => rfl) fun _ _ _ => rfl
theorem c_two2 {Q : Int32 → Hp → Prop} {i : Nat} (hi : i < 17) (h1 : twN i = true → Q 1 f) (h0 : ¬ twN i = true → Q 0 f) : CI L xs xm_Re_tellsTwoMembers [.int (iN i)] f Q := by
  refine t_Re_tellsTwoMembers_0 ?_
  rcases (show i = 0 ∨ i = 1 ∨ i = 2 ∨ i = 3 ∨ i = 4 ∨ i = 5 ∨ i = 6 ∨ i = 7 ∨ i = 8 ∨ i = 9 ∨ i = 10 ∨ i = 11 ∨ i = 12 ∨ 13 ≤ i by omega) with rfl | rfl | rfl | rfl | rfl | rfl | rfl | rfl | rfl | rfl | rfl | rfl | rfl | z
  · exact brF (by decide) (brF (by decide) (brF (by decide) (brF (by decide) (brF (by decide) (brF (by decide) (brF (by decide) (h0 (by decide))))))))
  · exact brF (by decide) (brF (by decide) (brF (by decide) (brF (by decide) (brF (by decide) (brF (by decide) (brF (by decide) (h0 (by decide))))))))
  · exact brF (by decide) (brF (by decide) (brF (by decide) (brF (by decide) (brF (by decide) (brF (by decide) (brF (by decide) (h0 (by decide))))))))
  · exact brF (by decide) (brF (by decide) (brF (by decide) (brF (by decide) (brF (by decide) (brF (by decide) (brF (by decide) (h0 (by decide))))))))
  · exact brF (by decide) (brF (by decide) (brF (by decide) (brF (by decide) (brF (by decide) (brF (by decide) (brF (by decide) (h0 (by decide))))))))
  · exact brF (by decide) (brF (by decide) (brF (by decide) (brF (by decide) (brF (by decide) (brF (by decide) (brF (by decide) (h0 (by decide))))))))
  · exact brT rfl (h1 rfl)
  · exact brF (by decide) (brT rfl (h0 (by decide)))
  · exact brF (by decide) (brF (by decide) (brT rfl (h1 rfl)))
  · exact brF (by decide) (brF (by decide) (brF (by decide) (brT rfl (h1 rfl))))
  · exact brF (by decide) (brF (by decide) (brF (by decide) (brF (by decide) (brT rfl (h0 (by decide))))))
  · exact brF (by decide) (brF (by decide) (brF (by decide) (brF (by decide) (brF (by decide) (brT rfl (h1 rfl))))))
  · exact brF (by decide) (brF (by decide) (brF (by decide) (brF (by decide) (brF (by decide) (brF (by decide) (brT rfl (h1 rfl)))))))
  · have t0 : ¬ twN i = true := by
      unfold twN
      simp
      omega
    exact brF (fun z => absurd ((iN_inj (b := 6) (by omega) (by omega)).mp z) (by omega)) (brF (fun z => absurd ((iN_inj (b := 7) (by omega) (by omega)).mp z) (by omega)) (brF (fun z => absurd ((iN_inj (b := 8) (by omega) (by omega)).mp z) (by omega)) (brF (fun z => absurd ((iN_inj (b := 9) (by omega) (by omega)).mp z) (by omega)) (brF (fun z => absurd ((iN_inj (b := 10) (by omega) (by omega)).mp z) (by omega)) (brF (fun z => absurd ((iN_inj (b := 11) (by omega) (by omega)).mp z) (by omega)) (brF (fun z => absurd ((iN_inj (b := 12) (by omega) (by omega)).mp z) (by omega)) (h0 t0)))))))
theorem c_mayBe {Q : Int32 → Hp → Prop} {i k v : Nat} (hi : i < 17) (hk : k < 3) (hv : v ≤ 99) (e : f 74 k = iN v) (h1 : okN i k v (f 74 0) → Q 1 f) (h0 : ¬ okN i k v (f 74 0) → Q 0 f) : CI L xs xm_Re_mayBe [.ref 51, .int (iN i), .int (iN k)] f Q := by
  have lb := le_b i hi k hk
  refine t_Re_mayBe_0 ⟨k, rfl, hk, 3 * i + k, by simp only [lit, iN_add, iN_mul], by omega, ?_⟩
  rw [x_tab3 hi hk, x_tab4 hi hk, e, iN_lt (by omega) (by omega), iN_lt (by omega) (by omega)]
  refine ⟨fun z => h0 fun y => by have := y.1; omega, fun z => ⟨fun z2 => h0 fun y => by have := y.2.1; omega, fun z2 => ⟨fun z3 => ?_, fun z3 => ?_⟩⟩⟩
  · have z3 : k = 1 := (iN_inj (b := 1) (by omega) (by omega)).mp z3
    refine c_two2 hi (fun t => br1 ⟨fun u => h0 fun y => y.2.2 ⟨z3, t, u⟩, fun u => h1 ⟨by omega, by omega, fun y => u y.2.2⟩⟩) fun t => br0 (h1 ⟨by omega, by omega, fun y => t y.2.1⟩)
  · exact h1 ⟨by omega, by omega, fun y => z3 ((iN_inj (b := 1) (by omega) (by omega)).mpr y.1)⟩
end SPEC
