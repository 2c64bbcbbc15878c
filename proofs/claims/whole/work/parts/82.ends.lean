/-! the reference's line: its word, its end, its members -/
section ENDS
variable {L : Nat} {xs : Nat → Int32} {f g : Hp} {B : Nat → Nat} {n : Nat} {F : FT}
theorem rK_2 {p : Nat} : rK (tK B n p) (wI B (tS B n p) (tE B n p)) = 2 ↔ tK B n p = 3 := by
  have := tK_le (B := B) (n := n) (p := p)
  unfold rK
  refine ⟨fun h => ?_, fun h => by rw [if_neg (by omega), if_neg (by omega), if_pos h]⟩
  split at h
  · split at h <;> cases h
  · split at h
    · cases h
    · split at h
      · assumption
      · omega
theorem rK_3 {p : Nat} : rK (tK B n p) (wI B (tS B n p) (tE B n p)) = 3 ↔ tK B n p = 1 ∧ ¬ wI B (tS B n p) (tE B n p) = 99 := by
  have := tK_le (B := B) (n := n) (p := p)
  unfold rK
  refine ⟨fun h => ?_, fun h => by rw [if_pos h.1, if_neg h.2]⟩
  split at h
  · split at h
    · cases h
    · exact ⟨by assumption, by assumption⟩
  · split at h
    · cases h
    · split at h
      · cases h
      · omega
theorem rF.u5 {p : Nat} (h : rF f F) (e : Fr5 f g) (_ : p = p) : rF g F := ⟨h.1, h.2.1, by rw [e.1 401 (by omega)]; exact h.2.2.1, by rw [e.1 401 (by omega)]; exact h.2.2.2⟩
theorem r_endsL {Q : Hp → Prop} {p : Nat} (c : rB f B n) (tk : rtk f B n p) (rf : rF f F) (h8 : f 400 8 = 0) (h1 : tK B n p = 3 → ∀ g, rB g B n → rtk g B n (tE B n p) → rF g F → g 400 8 = 0 → FrU f g → Q g) (h0 : ¬ tK B n p = 3 → ∀ g, rF g (1, tS B n p) → g 400 8 = 1 → FrU f g → Q g) : CV L xs xm_Mo_endsLine [.ref 400] f Q := by
  have c6 := c.1
  have k4 := rK_le (w := wI B (tS B n p) (tE B n p)) (tK_le (B := B) (n := n) (p := p))
  obtain ⟨s1, s2⟩ := tS_le (B := B) tk.1
  refine t_Mo_endsLine_0 ?_
  rw [h8]
  refine brT rfl ?_
  rw [tk.2.1, show (iN (rK (tK B n p) (wI B (tS B n p) (tE B n p))) = 2 ↔ _ = 2) from iN_inj (b := 2) (by omega) (by omega), rK_2]
  exact ⟨fun z => r_on c tk fun g a b fr => h1 z g a b (rf.u5 (p := p) fr rfl) (by rw [fr.2 8 (by omega)]; exact h8) fr.u, fun z => r_ends h8 tk.2.2.1 (by omega) fun g a b d _ => h0 z g a b d⟩
theorem r_endsL1 {Q : Hp → Prop} (h8 : f 400 8 = 1) (kk : Q f) : CV L xs xm_Mo_endsLine [.ref 400] f Q := t_Mo_endsLine_0 (brF (by rw [h8]; decide) (r_ends1 h8 kk))
theorem r_wordIn {Q : Int32 → Hp → Prop} {p lo hi : Nat} (hlo : lo ≤ 20) (hhi : hi ≤ 20) (c : rB f B n) (tk : rtk f B n p) (rf : rF f F) (h8 : f 400 8 = 0) (h1 : tK B n p = 1 → lo ≤ wI B (tS B n p) (tE B n p) → wI B (tS B n p) (tE B n p) ≤ hi → ∀ g, rB g B n → rtk g B n (tE B n p) → rF g F → g 400 8 = 0 → FrU f g → Q (iN (wI B (tS B n p) (tE B n p))) g) (h0 : ¬ (tK B n p = 1 ∧ lo ≤ wI B (tS B n p) (tE B n p) ∧ wI B (tS B n p) (tE B n p) ≤ hi) → ∀ g, rF g (1, tS B n p) → g 400 8 = 1 → FrU f g → Q 0 g) : CI L xs xm_Mo_wordIn [.ref 400, .int (iN lo), .int (iN hi)] f Q := by
  have c6 := c.1
  have k4 := rK_le (w := wI B (tS B n p) (tE B n p)) (tK_le (B := B) (n := n) (p := p))
  obtain ⟨s1, s2⟩ := tS_le (B := B) tk.1
  have w99 : wI B (tS B n p) (tE B n p) ≤ 99 := by
    rcases wI_99 (B := B) (s := tS B n p) (e := tE B n p) with h | ⟨i, a, h⟩ <;> omega
  have no : ¬ (tK B n p = 1 ∧ lo ≤ wI B (tS B n p) (tE B n p) ∧ wI B (tS B n p) (tE B n p) ≤ hi) → ∀ {h : Hp}, h = f → CV L xs xm_Mo_ends [.ref 400] h (fun g => Q 0 g) := fun z {h} e => by
    subst e
    exact r_ends h8 tk.2.2.1 (by omega) fun g a b d _ => h0 z g a b d
  refine t_Mo_wordIn_0 ?_
  rw [h8]
  refine brT rfl ?_
  rw [tk.2.1, show (iN (rK (tK B n p) (wI B (tS B n p) (tE B n p))) = 3 ↔ _ = 3) from iN_inj (b := 3) (by omega) (by omega), rK_3]
  refine ⟨fun z => ?_, fun z => no (fun y => z ⟨y.1, by omega⟩) rfl⟩
  rw [tk.2.2.2.2.2 z.1]
  refine r_isIn (by omega) (by omega) (fun j a b e => br1 ?_) fun nn => br0 (no (fun y => nn _ y.2.1 y.2.2 rfl) rfl)
  have ev := (iN_inj (by omega) (by omega)).mp e
  refine r_on c tk fun g a' b' fr => ?_
  rw [tk.2.2.2.2.2 z.1]
  exact h1 z.1 (by omega) (by omega) g a' b' (rf.u5 (p := p) fr rfl) (by rw [fr.2 8 (by omega)]; exact h8) fr.u
end ENDS
