/-! the reference's words: numbers to the base 32 -/
def qN (n : Nat) : Int64 := Int64.ofNat n
theorem qN_toInt {n : Nat} (h : n < 9223372036854775808) : (qN n).toInt = n := Int64.toInt_ofNat_of_lt h
theorem qN_inj {a b : Nat} (ha : a < 9223372036854775808) (hb : b < 9223372036854775808) : qN a = qN b ↔ a = b := by
  rw [← Int64.toInt_inj, qN_toInt ha, qN_toInt hb]; omega
theorem qN_add (a b : Nat) : qN a + qN b = qN (a + b) := by unfold qN; exact (Int64.ofNat_add a b).symm
theorem qN_mul (a b : Nat) : qN a * qN b = qN (a * b) := by unfold qN; exact (Int64.ofNat_mul a b).symm
theorem qN_sub {a b : Nat} (h : b ≤ a) : qN a - qN b = qN (a - b) := by
  have e : qN a = qN (a - b) + qN b := by rw [qN_add]; congr 1; omega
  rw [e]
  apply Int64.toInt_inj.mp
  simp
theorem qN_b : ∀ b, b < 256 → (iN b).toInt64 = qN b := by decide +kernel
theorem lg_0 {a b : Nat} (ha : a < 9223372036854775808) (hb : b < 9223372036854775808) : lg_cmp (qN a) (qN b) = 0 ↔ a = b := by
  unfold lg_cmp
  by_cases z : a = b
  · subst z
    rw [if_neg (by rw [gt_iff_lt, Int64.lt_iff_toInt_lt]; omega), if_pos rfl]
    exact ⟨fun _ => rfl, fun _ => rfl⟩
  · refine ⟨fun h => ?_, fun h => absurd h z⟩
    split at h
    · exact absurd h (by decide)
    · split at h
      · rename_i e
        exact (qN_inj ha hb).mp e
      · exact absurd h (by decide)
def cod : List Nat → Nat → Nat
  | [], c => c
  | x :: l, c => cod l (32 * c + x)
def wT : List (List Nat) := [[6, 1, 21, 12, 20, 19], [23, 9, 14, 4, 15, 23], [19, 20, 5, 16], [12, 9, 1, 18], [1, 3, 3, 15, 21, 14, 20], [15, 18, 4, 5, 18], [4, 5, 12, 1, 25], [16, 18, 15, 16, 15, 19, 5], [16, 18, 5, 16, 1, 18, 5], [3, 15, 13, 13, 9, 20], [18, 21, 14], [13, 1, 18, 11], [6, 5, 20, 3, 8], [4, 15, 21, 2, 20], [22, 9, 5, 23], [5, 14, 20, 5, 18], [18, 5, 16, 12, 25]]
def wC (i : Nat) : Nat := cod (wT.getD i []) 0
def wxN (c : Nat) : Nat → Nat → Nat
  | 0, _ => 99
  | k + 1, i => if c = wC i then i + 1 else wxN c k (i + 1)
def wix (c : Nat) : Nat := wxN c 17 0
theorem wxN_s (c k i : Nat) : wxN c (k + 1) i = if c = wC i then i + 1 else wxN c k (i + 1) := rfl
theorem wC_lt : ∀ i, i < 17 → wC i < 1099511627776 := by decide +kernel
section WORDS2
variable {L : Nat} {xs : Nat → Int32} {f g : Hp} {B : Nat → Nat} {n : Nat}
theorem r_eight {Q : Int64 → Hp → Prop} {x0 x1 x2 x3 x4 x5 x6 x7 : Int32} {d : Nat} (hv : (((((((x0 * 32) + x1) * 32) + x2) * 32) + x3)).toInt64 * 1048576 + (((((((x4 * 32) + x5) * 32) + x6) * 32) + x7)).toInt64 = qN d) (h : Q (qN d) f) : CL L xs xm_Mo_eight [.int x0, .int x1, .int x2, .int x3, .int x4, .int x5, .int x6, .int x7] f Q := t_Mo_eight_0 (t_Mo_four_0 (t_Mo_four_0 (by rw [hv]; exact h)))
theorem r_four {Q : Int64 → Hp → Prop} {x0 x1 x2 x3 : Int32} {d : Nat} (hv : (((((((x0 * 32) + x1) * 32) + x2) * 32) + x3)).toInt64 = qN d) (h : Q (qN d) f) : CL L xs xm_Mo_four [.int x0, .int x1, .int x2, .int x3] f Q := t_Mo_four_0 (by rw [hv]; exact h)
theorem wstep {P : Nat → Prop} {X : Prop} {c k i : Nat} (hc : c < 1099511627776) (hi : i < 17) (h : P (wxN c (k + 1) i)) (nx : P (wxN c k (i + 1)) → X) : (lg_cmp (qN c) (qN (wC i)) = 0 → P (i + 1)) ∧ (¬ lg_cmp (qN c) (qN (wC i)) = 0 → X) := by
  have := wC_lt i hi
  rw [lg_0 (by omega) (by omega)]
  refine ⟨fun z => ?_, fun z => nx ?_⟩
  · rw [wxN_s, if_pos z] at h; exact h
  · rw [wxN_s, if_neg z] at h; exact h
theorem r_wordOf {Q : Int32 → Hp → Prop} {c : Nat} (hc : c < 1099511627776) (kk : Q (iN (wix c)) f) : CI L xs xm_Mo_wordOf [.long (qN c)] f Q := by
  unfold wix at kk
  refine t_Mo_wordOf_0 ?_
  refine r_eight (d := wC 0) (by decide +kernel) (wstep (P := fun w => Q (iN w) f) hc (by omega) kk fun kk => ?_)
  refine r_eight (d := wC 1) (by decide +kernel) (wstep (P := fun w => Q (iN w) f) hc (by omega) kk fun kk => ?_)
  refine r_four (d := wC 2) (by decide +kernel) (wstep (P := fun w => Q (iN w) f) hc (by omega) kk fun kk => ?_)
  refine r_four (d := wC 3) (by decide +kernel) (wstep (P := fun w => Q (iN w) f) hc (by omega) kk fun kk => ?_)
  refine r_eight (d := wC 4) (by decide +kernel) (wstep (P := fun w => Q (iN w) f) hc (by omega) kk fun kk => ?_)
  refine r_eight (d := wC 5) (by decide +kernel) (wstep (P := fun w => Q (iN w) f) hc (by omega) kk fun kk => ?_)
  refine r_eight (d := wC 6) (by decide +kernel) (wstep (P := fun w => Q (iN w) f) hc (by omega) kk fun kk => ?_)
  refine r_eight (d := wC 7) (by decide +kernel) (wstep (P := fun w => Q (iN w) f) hc (by omega) kk fun kk => ?_)
  refine r_eight (d := wC 8) (by decide +kernel) (wstep (P := fun w => Q (iN w) f) hc (by omega) kk fun kk => ?_)
  refine r_eight (d := wC 9) (by decide +kernel) (wstep (P := fun w => Q (iN w) f) hc (by omega) kk fun kk => ?_)
  refine r_four (d := wC 10) (by decide +kernel) (wstep (P := fun w => Q (iN w) f) hc (by omega) kk fun kk => ?_)
  refine r_four (d := wC 11) (by decide +kernel) (wstep (P := fun w => Q (iN w) f) hc (by omega) kk fun kk => ?_)
  refine r_eight (d := wC 12) (by decide +kernel) (wstep (P := fun w => Q (iN w) f) hc (by omega) kk fun kk => ?_)
  refine r_eight (d := wC 13) (by decide +kernel) (wstep (P := fun w => Q (iN w) f) hc (by omega) kk fun kk => ?_)
  refine r_four (d := wC 14) (by decide +kernel) (wstep (P := fun w => Q (iN w) f) hc (by omega) kk fun kk => ?_)
  refine r_eight (d := wC 15) (by decide +kernel) (wstep (P := fun w => Q (iN w) f) hc (by omega) kk fun kk => ?_)
  refine r_eight (d := wC 16) (by decide +kernel) (wstep (P := fun w => Q (iN w) f) hc (by omega) kk fun kk => ?_)
  exact kk
end WORDS2
