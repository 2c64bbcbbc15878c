/-! what is forgotten, cut; votes counted -/
def fgA (S : ST) (m u : Nat) : ST := fun j m' k => if m' = m ∧ 1 ≤ k ∧ k ≤ u ∧ 8 ≤ j ∧ j ≤ 10 then (if j = 8 then -1 else 0) else S j m' k
def fgP (S : ST) (m u : Nat) : ST := fun j m' k => if m' = m ∧ 1 ≤ k ∧ k ≤ u ∧ 11 ≤ j ∧ j ≤ 12 then -1 else S j m' k
def cutS (S : ST) (m p : Nat) : ST := fgP (fgA (su S 2 m 0 (iN p)) m p) m p
theorem fgA_0 (S : ST) (m : Nat) : fgA S m 0 = S := by
  funext j m' k
  exact if_neg (by omega)
theorem fgP_0 (S : ST) (m : Nat) : fgP S m 0 = S := by
  funext j m' k
  exact if_neg (by omega)
theorem fgA_s (S : ST) (m u : Nat) : su (su (su (fgA S m u) 8 m (u + 1) (-1)) 9 m (u + 1) 0) 10 m (u + 1) 0 = fgA S m (u + 1) := by
  funext j m' k
  simp only [su_at, fgA]
  repeat' split
  all_goals first | rfl | (exfalso; omega)
theorem fgP_s (S : ST) (m u : Nat) : su (su (fgP S m u) 11 m (u + 1) (-1)) 12 m (u + 1) (-1) = fgP S m (u + 1) := by
  funext j m' k
  simp only [su_at, fgP]
  repeat' split
  all_goals first | rfl | (exfalso; omega)
theorem fgAP_s (S : ST) (m u : Nat) : su (su (fgA (fgP (fgA S m u) m u) m (u + 1)) 11 m (u + 1) (-1)) 12 m (u + 1) (-1) = fgP (fgA S m (u + 1)) m (u + 1) := by
  funext j m' k
  simp only [su_at, fgA, fgP]
  repeat' split
  all_goals first | rfl | (exfalso; omega)
theorem fgA_s1 (S : ST) (m u : Nat) : su (su (su (fgP (fgA S m u) m u) 8 m (u + 1) (-1)) 9 m (u + 1) 0) 10 m (u + 1) 0 = fgA (fgP (fgA S m u) m u) m (u + 1) := by
  funext j m' k
  simp only [su_at, fgA, fgP]
  repeat' split
  all_goals first | rfl | (exfalso; omega)
theorem cutS_off {S : ST} {m p j m' k : Nat} (h : ¬ m' = m ∨ 13 ≤ j ∨ j < 2 ∨ (2 < j ∧ j < 8)) : cutS S m p j m' k = S j m' k := by
  unfold cutS fgP fgA su
  rw [if_neg (by omega), if_neg (by omega), if_neg (by omega)]
theorem cutS_low {S : ST} {m p : Nat} : cutS S m p 2 m 0 = iN p := by
  unfold cutS fgP fgA
  rw [if_neg (by omega), if_neg (by omega), su_eq]
/-- as wfS, but this member's votes may want counting -/
def wfE (D : CD) (S : ST) (m0 : Nat) : Prop := (∀ m, m < 7 → (∃ v, v ≤ 9 ∧ S 0 m 0 = iN v) ∧ (S 1 m 0 = 0 ∨ S 1 m 0 = 1) ∧ (∃ l, l ≤ 12 ∧ S 2 m 0 = iN l) ∧ (∃ r, r ≤ 12 ∧ S 3 m 0 = iN r) ∧ (S 5 m 0 = -1 ∨ ∃ p, 1 ≤ p ∧ p ≤ 12 ∧ S 5 m 0 = iN p)) ∧ (∀ m s, m < 7 → 1 ≤ s → s ≤ 12 → (S 8 m s = -1 ∨ ordI D (S 8 m s)) ∧ (∃ b, b < 128 ∧ S 9 m s = iN b) ∧ (∃ b, b < 128 ∧ S 10 m s = iN b) ∧ (S 8 m s = -1 → S 9 m s = 0 ∧ S 10 m s = 0) ∧ (S 11 m s = -1 ∨ ((∃ v, v ≤ 9 ∧ S 11 m s = iN v) ∧ ordI D (S 12 m s))) ∧ (S 13 m s = -1 ∨ ordI D (S 13 m s))) ∧ (∀ m b, m < 7 → b < 7 → S 14 m b = -1 ∨ ((∃ p, 1 ≤ p ∧ p ≤ 12 ∧ S 14 m b = iN p) ∧ b < 3 * dF D + 1)) ∧ (∀ m, m < 7 → S 1 m 0 = 0 → (∃ v, 1 ≤ v ∧ v ≤ 9 ∧ S 0 m 0 = iN v) ∧ ∀ s, 1 ≤ s → s ≤ 12 → S 8 m s = -1) ∧ (∀ m, m < 7 → hon D m = false → ∀ s, 1 ≤ s → s ≤ 12 → S 8 m s = -1) ∧ (∀ m a, m < 7 → ¬ m = m0 → a < 3 * dF D + 1 → ¬ S 14 m a = -1 → S 2 m 0 < S 14 m a → cntW (fun b => S 14 m b = S 14 m a ∧ S 15 m b = S 15 m a) (3 * dF D + 1) < 2 * dF D + 1) ∧ S 16 0 0 = 0 ∧ ∀ v, v < 10 → (S 16 v 0 = 0 ∨ S 16 v 0 = 1) ∧ (¬ S 16 v 0 = 0 → (∃ p, p ≤ 12 ∧ S 17 v 0 = iN p) ∧ (∃ p, p ≤ 12 ∧ S 18 v 0 = iN p) ∧ ∀ s, 1 ≤ s → s ≤ 12 → S 17 v 0 < iN s → ¬ S 18 v 0 < iN s → ordI D (S 19 v s))
theorem wfS.e {D : CD} {S : ST} (h : wfS D S) (m0 : Nat) : wfE D S m0 := ⟨h.1, h.2.1, h.2.2.1, h.2.2.2.1, h.2.2.2.2.1, fun m a p _ => h.2.2.2.2.2.1 m a p, h.2.2.2.2.2.2⟩
theorem wfE.s {D : CD} {S : ST} {m0 : Nat} (h : wfE D S m0) (n : ∀ a, a < 3 * dF D + 1 → ¬ S 14 m0 a = -1 → S 2 m0 0 < S 14 m0 a → cntW (fun b => S 14 m0 b = S 14 m0 a ∧ S 15 m0 b = S 15 m0 a) (3 * dF D + 1) < 2 * dF D + 1) : wfS D S := ⟨h.1, h.2.1, h.2.2.1, h.2.2.2.1, h.2.2.2.2.1, fun m a p q => by
  by_cases z : m = m0
  · rw [z]; exact n a q
  · exact h.2.2.2.2.2.1 m a p z q, h.2.2.2.2.2.2⟩
/-- other members stay, and this one's numbers are as they may be -/
theorem wfE.mem {D : CD} {S T : ST} {m : Nat} (h : wfE D S m) (hm : m < 7) (e : ∀ j m' k, ¬ m' = m ∨ 16 ≤ j → T j m' k = S j m' k) (n1 : (∃ v, v ≤ 9 ∧ T 0 m 0 = iN v) ∧ (T 1 m 0 = 0 ∨ T 1 m 0 = 1) ∧ (∃ l, l ≤ 12 ∧ T 2 m 0 = iN l) ∧ (∃ r, r ≤ 12 ∧ T 3 m 0 = iN r) ∧ (T 5 m 0 = -1 ∨ ∃ p, 1 ≤ p ∧ p ≤ 12 ∧ T 5 m 0 = iN p)) (n2 : ∀ s, 1 ≤ s → s ≤ 12 → (T 8 m s = -1 ∨ ordI D (T 8 m s)) ∧ (∃ b, b < 128 ∧ T 9 m s = iN b) ∧ (∃ b, b < 128 ∧ T 10 m s = iN b) ∧ (T 8 m s = -1 → T 9 m s = 0 ∧ T 10 m s = 0) ∧ (T 11 m s = -1 ∨ ((∃ v, v ≤ 9 ∧ T 11 m s = iN v) ∧ ordI D (T 12 m s))) ∧ (T 13 m s = -1 ∨ ordI D (T 13 m s))) (n3 : ∀ b, b < 7 → T 14 m b = -1 ∨ ((∃ p, 1 ≤ p ∧ p ≤ 12 ∧ T 14 m b = iN p) ∧ b < 3 * dF D + 1)) (n4 : T 1 m 0 = 0 → (∃ v, 1 ≤ v ∧ v ≤ 9 ∧ T 0 m 0 = iN v) ∧ ∀ s, 1 ≤ s → s ≤ 12 → T 8 m s = -1) (n5 : hon D m = false → ∀ s, 1 ≤ s → s ≤ 12 → T 8 m s = -1) : wfE D T m := by
  obtain ⟨h1, h2, h3, h4, h5, h6, h7, h8⟩ := h
  refine ⟨fun m' hm' => ?_, fun m' s' hm' a b => ?_, fun m' b hm' hb => ?_, fun m' hm' z => ?_, fun m' hm' z s' a b => ?_, fun m' a hm' nm ha z1 z2 => ?_, by rw [e _ _ _ (Or.inr (by omega))]; exact h7, fun v hv => ?_⟩
  · by_cases y : m' = m
    · rw [y]; exact n1
    · rw [e _ _ _ (Or.inl y), e _ _ _ (Or.inl y), e _ _ _ (Or.inl y), e _ _ _ (Or.inl y), e _ _ _ (Or.inl y)]; exact h1 m' hm'
  · by_cases y : m' = m
    · rw [y]; exact n2 s' a b
    · rw [e _ _ _ (Or.inl y), e _ _ _ (Or.inl y), e _ _ _ (Or.inl y), e _ _ _ (Or.inl y), e _ _ _ (Or.inl y), e _ _ _ (Or.inl y)]; exact h2 m' s' hm' a b
  · by_cases y : m' = m
    · rw [y]; exact n3 b hb
    · rw [e _ _ _ (Or.inl y)]; exact h3 m' b hm' hb
  · by_cases y : m' = m
    · rw [y] at z ⊢; exact n4 z
    · rw [e _ _ _ (Or.inl y)] at z
      refine ⟨by rw [e _ _ _ (Or.inl y)]; exact (h4 m' hm' z).1, fun s a b => by rw [e _ _ _ (Or.inl y)]; exact (h4 m' hm' z).2 s a b⟩
  · by_cases y : m' = m
    · rw [y] at z ⊢; exact n5 z s' a b
    · rw [e _ _ _ (Or.inl y)]; exact h5 m' hm' z s' a b
  · rw [e _ _ _ (Or.inl nm)] at z1
    rw [e _ _ _ (Or.inl nm), e _ _ _ (Or.inl nm)] at z2
    have : cntW (fun b => T 14 m' b = T 14 m' a ∧ T 15 m' b = T 15 m' a) (3 * dF D + 1) = cntW (fun b => S 14 m' b = S 14 m' a ∧ S 15 m' b = S 15 m' a) (3 * dF D + 1) := cntW_congr _ fun b _ => by rw [e _ _ _ (Or.inl nm), e _ _ _ (Or.inl nm), e _ _ _ (Or.inl nm), e _ _ _ (Or.inl nm)]
    rw [this]
    exact h6 m' a hm' nm ha z1 z2
  · have := h8 v hv
    rw [e _ _ _ (Or.inr (show 16 ≤ 16 by omega)), e _ _ _ (Or.inr (show 16 ≤ 17 by omega)), e _ _ _ (Or.inr (show 16 ≤ 18 by omega))]
    refine ⟨this.1, fun z => ⟨(this.2 z).1, (this.2 z).2.1, fun s' a b c d => ?_⟩⟩
    rw [e _ _ _ (Or.inr (show 16 ≤ 19 by omega))]
    exact (this.2 z).2.2 s' a b c d
theorem wfE.cut {D : CD} {S : ST} {m p : Nat} (h : wfE D S m) (hm : m < 7) (hp : p ≤ 12) : wfE D (cutS S m p) m := by
  obtain ⟨h1, h2, h3, h4, h5, h6, h7, h8⟩ := id h
  obtain ⟨c1, c2, c3, c4, c5⟩ := h1 m hm
  have e8 : ∀ s, 1 ≤ s → cutS S m p 8 m s = if s ≤ p then -1 else S 8 m s := fun s h1 => by
    unfold cutS fgP fgA su
    rw [if_neg (by omega)]
    by_cases z : s ≤ p
    · rw [if_pos (by omega), if_pos rfl, if_pos z]
    · rw [if_neg (by omega), if_neg (by omega), if_neg z]
  have e9 : ∀ j s, 9 ≤ j → j ≤ 10 → 1 ≤ s → cutS S m p j m s = if s ≤ p then 0 else S j m s := fun j s a b h1 => by
    unfold cutS fgP fgA su
    rw [if_neg (by omega)]
    by_cases z : s ≤ p
    · rw [if_pos (by omega), if_neg (by omega), if_pos z]
    · rw [if_neg (by omega), if_neg (by omega), if_neg z]
  have e11 : ∀ j s, 11 ≤ j → j ≤ 12 → 1 ≤ s → cutS S m p j m s = if s ≤ p then -1 else S j m s := fun j s a b h1 => by
    unfold cutS fgP fgA su
    by_cases z : s ≤ p
    · rw [if_pos (by omega), if_pos z]
    · rw [if_neg (by omega), if_neg (by omega), if_neg (by omega), if_neg z]
  refine h.mem hm (fun j m' k z => cutS_off (by omega)) ?_ (fun s a b => ?_) (fun b hb => ?_) (fun z => ?_) fun z s a b => ?_
  · rw [cutS_off (by omega), cutS_off (by omega), cutS_low, cutS_off (by omega), cutS_off (by omega)]
    exact ⟨c1, c2, ⟨p, hp, rfl⟩, c4, c5⟩
  · obtain ⟨d1, d2, d3, d4, d5, d6⟩ := h2 m s hm a b
    rw [e8 s a, e9 9 s (by omega) (by omega) a, e9 10 s (by omega) (by omega) a, e11 11 s (by omega) (by omega) a, e11 12 s (by omega) (by omega) a, cutS_off (by omega)]
    by_cases z : s ≤ p
    · rw [if_pos z, if_pos z, if_pos z, if_pos z]
      exact ⟨Or.inl rfl, ⟨0, by omega, rfl⟩, ⟨0, by omega, rfl⟩, fun _ => ⟨rfl, rfl⟩, Or.inl rfl, d6⟩
    · rw [if_neg z, if_neg z, if_neg z, if_neg z, if_neg z]
      exact ⟨d1, d2, d3, d4, d5, d6⟩
  · rw [cutS_off (by omega)]; exact h3 m b hm hb
  · rw [cutS_off (by omega)] at z
    refine ⟨by rw [cutS_off (by omega)]; exact (h4 m hm z).1, fun s a b => ?_⟩
    rw [e8 s a]
    split
    · rfl
    · exact (h4 m hm z).2 s a b
  · rw [e8 s a]
    split
    · rfl
    · exact h5 m hm z s a b
def cvS (D : CD) (S : ST) (m : Nat) : Nat → ST
  | 0 => S
  | a + 1 => if ¬ S 14 m a = -1 ∧ nb (cvS D S m a 2 m 0) < nb (S 14 m a) ∧ 2 * dF D + 1 ≤ cntW (fun b => S 14 m b = S 14 m a ∧ S 15 m b = S 15 m a) (3 * dF D + 1) then cutS (cvS D S m a) m (nb (S 14 m a)) else cvS D S m a
theorem cvS_s (D : CD) (S : ST) (m a : Nat) : cvS D S m (a + 1) = if ¬ S 14 m a = -1 ∧ nb (cvS D S m a 2 m 0) < nb (S 14 m a) ∧ 2 * dF D + 1 ≤ cntW (fun b => S 14 m b = S 14 m a ∧ S 15 m b = S 15 m a) (3 * dF D + 1) then cutS (cvS D S m a) m (nb (S 14 m a)) else cvS D S m a := rfl
theorem cvS_off {D : CD} {S : ST} {m j m' k : Nat} (h : ¬ m' = m ∨ 13 ≤ j ∨ j < 2 ∨ (2 < j ∧ j < 8)) : ∀ a, cvS D S m a j m' k = S j m' k
  | 0 => rfl
  | a + 1 => by
    rw [cvS_s]
    split
    · rw [cutS_off h, cvS_off h a]
    · exact cvS_off h a
theorem cvS_wf {D : CD} {S : ST} {m : Nat} (h : wfE D S m) (hm : m < 7) : ∀ a, a ≤ 7 → wfE D (cvS D S m a) m
  | 0, _ => h
  | a + 1, ha => by
    rw [cvS_s]
    split
    · rename_i z
      refine (cvS_wf h hm a (by omega)).cut hm ?_
      rcases h.2.2.1 m a hm (by omega) with y | ⟨⟨p, p1, p2, e⟩, -⟩
      · exact absurd y z.1
      · rw [e, nb_iN (by omega)]; exact p2
    · exact cvS_wf h hm a (by omega)
theorem cvS_mono {D : CD} {S : ST} {m : Nat} (h : wfE D S m) (hm : m < 7) (a : Nat) : ∀ d, a + d ≤ 7 → nb (cvS D S m a 2 m 0) ≤ nb (cvS D S m (a + d) 2 m 0)
  | 0, _ => Nat.le_refl _
  | d + 1, hd => by
    have ih := cvS_mono h hm a d (by omega)
    rw [← Nat.add_assoc, cvS_s]
    split
    · rename_i z
      rcases h.2.2.1 m (a + d) hm (by omega) with y | ⟨⟨p, p1, p2, e⟩, -⟩
      · exact absurd y z.1
      · have z2 := z.2.1
        have ep : nb (S 14 m (a + d)) = p := by rw [e, nb_iN (by omega)]
        rw [ep] at z2
        rw [cutS_low, ep, nb_iN (n := p) (by omega)]
        omega
    · exact ih
theorem cvS_fin {D : CD} {S : ST} {m : Nat} (w : wfC D) (h : wfE D S m) (hm : m < 7) : wfS D (cvS D S m (3 * dF D + 1)) := by
  have hF := w.1
  refine (cvS_wf h hm (3 * dF D + 1) (by omega)).s fun a ha z1 z2 => ?_
  have o14 : ∀ b, cvS D S m (3 * dF D + 1) 14 m b = S 14 m b := fun b => cvS_off (by omega) _
  have o15 : ∀ b, cvS D S m (3 * dF D + 1) 15 m b = S 15 m b := fun b => cvS_off (by omega) _
  rw [o14] at z1 z2
  have ec : cntW (fun b => cvS D S m (3 * dF D + 1) 14 m b = cvS D S m (3 * dF D + 1) 14 m a ∧ cvS D S m (3 * dF D + 1) 15 m b = cvS D S m (3 * dF D + 1) 15 m a) (3 * dF D + 1) = cntW (fun b => S 14 m b = S 14 m a ∧ S 15 m b = S 15 m a) (3 * dF D + 1) := cntW_congr _ fun b _ => by rw [o14, o14, o15, o15]
  rw [ec]
  refine Classical.byContradiction fun y => ?_
  obtain ⟨l, hl, el⟩ := ((cvS_wf h hm (3 * dF D + 1) (by omega)).1 m hm).2.2.1
  rcases h.2.2.1 m a hm (by omega) with y2 | ⟨⟨p, p1, p2, e⟩, -⟩
  · exact z1 y2
  · rw [el, e, iN_lt (by omega) (by omega)] at z2
    have m1 := cvS_mono h hm (a + 1) (3 * dF D + 1 - (a + 1)) (by omega)
    have m0 := cvS_mono h hm a (3 * dF D + 1 - a) (by omega)
    rw [show a + 1 + (3 * dF D + 1 - (a + 1)) = 3 * dF D + 1 by omega, el, nb_iN (by omega)] at m1
    rw [show a + (3 * dF D + 1 - a) = 3 * dF D + 1 by omega, el, nb_iN (by omega)] at m0
    have ep : nb (S 14 m a) = p := by rw [e, nb_iN (by omega)]
    rw [cvS_s, if_pos ⟨z1, by rw [ep]; omega, by omega⟩, cutS_low, ep, nb_iN (n := p) (by omega)] at m1
    omega
/-- where nothing wants counting, counting changes nothing -/
theorem cvS_id {D : CD} {S : ST} {m : Nat} (h : wfS D S) (hm : m < 7) : ∀ a, a ≤ 3 * dF D + 1 → a ≤ 7 → cvS D S m a = S
  | 0, _, _ => rfl
  | a + 1, ha, h7 => by
    rw [cvS_s, cvS_id h hm a (by omega) (by omega), if_neg]
    rintro ⟨z1, z2, z3⟩
    obtain ⟨l, hl, el⟩ := (h.1 m hm).2.2.1
    rcases h.2.2.1 m a hm (by omega) with y2 | ⟨⟨p, p1, p2, e⟩, -⟩
    · exact z1 y2
    · rw [el, e, nb_iN (by omega), nb_iN (by omega)] at z2
      have := h.2.2.2.2.2.1 m a hm (by omega) z1 (by rw [el, e, iN_lt (by omega) (by omega)]; exact z2)
      omega
section VOTES
variable {L : Nat} {xs : Nat → Int32} {f g : Hp} {D : CD} {S S' : ST} {o0 : Nat}
theorem c_forgetA {Q : Hp → Prop} {m u : Nat} (h : cA f D S) (hm : m < 7) (hu : u ≤ 12) (kk : ∀ g, cA g D (fgA S m u) → FrA f g → Q g) : CV L xs xm_Me_forgetAccepted [.ref (93 + 11 * m), .int (iN u)] f Q := by
  refine t_Me_forgetAccepted_0 (k_mem hm) ?_
  refine for0 u (fun k l g => l = [.ref (93 + 11 * m), .int (iN u), .int (iN (k + 1))] ∧ cA g D (fgA S m k) ∧ FrA f g) ⟨rfl, by rw [fgA_0]; exact h, FrA.refl f⟩ ?_ ?_
  · rintro k l g hk ⟨rfl, b1, b2⟩ k2
    refine t_Me_forgetAccepted_2 (k_mem hm) (brF (fun z => absurd ((iN_lt (b := _) (by omega) (by omega)).mp z) (by omega)) (brF (fun z => absurd ((iN_lt (a := 12) (by omega) (by omega)).mp z) (by omega)) ⟨k + 1, rfl, by omega, fun g1 e1 g2 e2 g3 e3 => ?_⟩))
    subst e1 e2 e3
    rw [iN_inc]
    refine k2 _ _ ⟨rfl, ?_, ((b2.put (j := 3) hm (by omega)).put (j := 4) hm (by omega)).put (j := 5) hm (by omega)⟩
    rw [← fgA_s]
    exact ((b1.ar (j := 0) hm (by omega)).ar (j := 1) hm (by omega)).ar (j := 2) hm (by omega)
  · rintro l g ⟨rfl, b1, b2⟩
    exact t_Me_forgetAccepted_2 (k_mem hm) (brT ((iN_lt (b := _) (by omega) (by omega)).mpr (by omega)) (kk g b1 b2))
theorem c_forgetP {Q : Hp → Prop} {m u : Nat} (h : cA f D S) (hm : m < 7) (hu : u ≤ 12) (kk : ∀ g, cA g D (fgP S m u) → FrA f g → Q g) : CV L xs xm_Me_forgetProofs [.ref (93 + 11 * m), .int (iN u)] f Q := by
  refine t_Me_forgetProofs_0 (k_mem hm) ?_
  refine for0 u (fun k l g => l = [.ref (93 + 11 * m), .int (iN u), .int (iN (k + 1))] ∧ cA g D (fgP S m k) ∧ FrA f g) ⟨rfl, by rw [fgP_0]; exact h, FrA.refl f⟩ ?_ ?_
  · rintro k l g hk ⟨rfl, b1, b2⟩ k2
    refine t_Me_forgetProofs_2 (k_mem hm) (brF (fun z => absurd ((iN_lt (b := _) (by omega) (by omega)).mp z) (by omega)) (brF (fun z => absurd ((iN_lt (a := 12) (by omega) (by omega)).mp z) (by omega)) ⟨k + 1, rfl, by omega, fun g1 e1 g2 e2 => ?_⟩))
    subst e1 e2
    rw [iN_inc]
    refine k2 _ _ ⟨rfl, ?_, (b2.put (j := 6) hm (by omega)).put (j := 7) hm (by omega)⟩
    rw [← fgP_s]
    exact (b1.ar (j := 3) hm (by omega)).ar (j := 4) hm (by omega)
  · rintro l g ⟨rfl, b1, b2⟩
    exact t_Me_forgetProofs_2 (k_mem hm) (brT ((iN_lt (b := _) (by omega) (by omega)).mpr (by omega)) (kk g b1 b2))
theorem not_lt_m1 {n : Nat} (hn : n < 2147483648) : ¬ iN n < -1 := by
  rw [Int32.lt_iff_toInt_lt, iN_toInt hn]
  have : (-1 : Int32).toInt = -1 := by decide
  omega
theorem c_countVotes {Q : Hp → Prop} {m : Nat} (w : wfC D) (we : wfE D S m) (h : cA f D S) (hm : m < 7) (kk : ∀ g, cA g D (cvS D S m (3 * dF D + 1)) → FrA f g → Q g) : CV L xs xm_Me_countVotes [.ref (93 + 11 * m)] f Q := by
  have hF := w.1
  refine t_Me_countVotes_0 (k_mem hm) ?_
  refine for0 7 (fun a l g => ∃ y y2 : Value, (y.category != 2) = true ∧ (y2.category != 2) = true ∧ l = [.ref (93 + 11 * m), .int (iN a), y, y2] ∧ cA g D (cvS D S m a) ∧ FrA f g) ⟨_, _, rfl, rfl, rfl, h, FrA.refl f⟩ ?_ ?_
  · rintro a l g ha ⟨y, y2, hy, hy2, rfl, b1, b2⟩ k2
    have o14 : ∀ b, cvS D S m a 14 m b = S 14 m b := fun b => cvS_off (by omega) _
    have o15 : ∀ b, cvS D S m a 15 m b = S 15 m b := fun b => cvS_off (by omega) _
    have g9 : ∀ b, b < 7 → g (93 + 11 * m + 9) b = S 14 m b := fun b hb => by rw [(b1.2.2.2.1 m hm).2.2.2.2.2.2.1 b hb, o14]
    have g10 : ∀ b, b < 7 → ¬ S 14 m b = -1 → g (93 + 11 * m + 10) b = S 15 m b := fun b hb z => by rw [(b1.2.2.2.1 m hm).2.2.2.2.2.2.2 b hb (by rw [o14]; exact z), o15]
    obtain ⟨l0, hl0, el⟩ := ((cvS_wf we hm a (by omega)).1 m hm).2.2.1
    refine t_Me_countVotes_2 (k_mem hm) hy hy2 (brT ((iN_lt (b := 7) (by omega) (by omega)).mpr (by omega)) ?_)
    refine for0 7 (fun b l g' => ∃ n, l = [.ref (93 + 11 * m), .int (iN a), .int (iN n), .int (iN b)] ∧ g' = g ∧ n ≤ b ∧ (¬ S 14 m a = -1 → n = cntW (fun b => S 14 m b = S 14 m a ∧ S 15 m b = S 15 m a) b)) ⟨0, rfl, rfl, Nat.le_refl _, fun _ => rfl⟩ ?_ ?_
    · rintro b l g' hb ⟨n, rfl, rfl, hn, en⟩ k3
      refine t_Me_countVotes_12 (k_mem hm) (brT ((iN_lt (b := 7) (by omega) (by omega)).mpr (by omega)) ⟨b, rfl, hb, a, rfl, ha, ?_⟩)
      rw [g9 b hb, g9 a ha, iN_inc, iN_inc]
      refine ⟨fun p => ⟨fun p2 => k3 _ _ ⟨n + 1, rfl, rfl, by omega, fun z => ?_⟩, fun p2 => k3 _ _ ⟨n, rfl, rfl, by omega, fun z => ?_⟩⟩, fun p => k3 _ _ ⟨n, rfl, rfl, by omega, fun z => ?_⟩⟩
      · rw [g10 b hb (by rw [p]; exact z), g10 a ha z] at p2
        rw [cnt_pos (p := fun b => S 14 m b = S 14 m a ∧ S 15 m b = S 15 m a) (n := b) ⟨p, p2⟩, en z]
      · rw [g10 b hb (by rw [p]; exact z), g10 a ha z] at p2
        rw [cnt_neg (p := fun b => S 14 m b = S 14 m a ∧ S 15 m b = S 15 m a) (n := b) (fun u => p2 u.2), en z]
      · rw [cnt_neg (p := fun b => S 14 m b = S 14 m a ∧ S 15 m b = S 15 m a) (n := b) (fun u => p u.1), en z]
    · rintro l g' ⟨n, rfl, rfl, hn, en⟩
      refine t_Me_countVotes_12 (k_mem hm) (brF (by decide) ⟨a, rfl, ha, ?_⟩)
      rw [b1.s hm (by omega), el, g9 a ha, (b1.2.2.2.1 m hm).2.1, iN_inc, iN_lt (a := n) (by omega) (by omega)]
      rcases we.2.2.1 m a hm ha with z | ⟨⟨p, p1, p2, ep⟩, hM⟩
      · rw [z]
        refine brF (not_lt_m1 (by omega)) (k2 _ _ ⟨_, _, rfl, rfl, rfl, ?_, b2⟩)
        rw [cvS_s, if_neg (fun u => u.1 z)]; exact b1
      · have z : ¬ S 14 m a = -1 := by rw [ep]; exact iN_ne1 (by omega)
        have e7 : n = cntW (fun b => S 14 m b = S 14 m a ∧ S 15 m b = S 15 m a) (3 * dF D + 1) := by
          rw [en z]
          have := cnt_up (fun b => (S 14 m b = S 14 m a ∧ S 15 m b = S 15 m a) ∧ b < 7) (3 * dF D + 1) (7 - (3 * dF D + 1)) fun b hb u => by
            rcases we.2.2.1 m b hm u.2 with v | ⟨-, v⟩
            · exact z (by rw [← u.1.1]; exact v)
            · omega
          rw [show 3 * dF D + 1 + (7 - (3 * dF D + 1)) = 7 by omega] at this
          have c1 : cntW (fun b => (S 14 m b = S 14 m a ∧ S 15 m b = S 15 m a) ∧ b < 7) 7 = cntW (fun b => S 14 m b = S 14 m a ∧ S 15 m b = S 15 m a) 7 := cntW_congr _ fun b hb => ⟨fun u => u.1, fun u => ⟨u, hb⟩⟩
          have c2 : cntW (fun b => (S 14 m b = S 14 m a ∧ S 15 m b = S 15 m a) ∧ b < 7) (3 * dF D + 1) = cntW (fun b => S 14 m b = S 14 m a ∧ S 15 m b = S 15 m a) (3 * dF D + 1) := cntW_congr _ fun b hb => ⟨fun u => u.1, fun u => ⟨u, by omega⟩⟩
          rw [← c1, this, c2]
        rw [ep, iN_lt (by omega) (by omega)]
        have eb : nb (cvS D S m a 2 m 0) = l0 := by rw [el, nb_iN (by omega)]
        have ev : nb (S 14 m a) = p := by rw [ep, nb_iN (by omega)]
        refine ⟨fun q => ⟨fun q2 => k2 _ _ ⟨_, _, rfl, rfl, rfl, ?_, b2⟩, fun q2 g1 e1 => ?_⟩, fun q => k2 _ _ ⟨_, _, rfl, rfl, rfl, ?_, b2⟩⟩
        · rw [cvS_s, if_neg (fun u => by have := u.2.2; omega)]; exact b1
        · have c1 : cA g1 D (su (cvS D S m a) 2 m 0 (iN p)) := by rw [e1]; exact b1.sc (j := 2) hm (by omega)
          have f1 : FrA f g1 := by rw [e1]; exact b2.put0 hm
          rw [show g1 (93 + 11 * m) 2 = iN p by rw [e1, xu_eq]]
          refine c_forgetA c1 hm p2 fun g2 c2 f2 => ?_
          rw [show g2 (93 + 11 * m) 2 = iN p by rw [c2.s hm (by omega)]; unfold fgA; rw [if_neg (by omega), su_eq]]
          refine c_forgetP c2 hm p2 fun g3 c3 f3 => k2 _ _ ⟨_, _, rfl, rfl, rfl, ?_, (f1.trans f2).trans f3⟩
          rw [cvS_s, if_pos ⟨z, by omega, by omega⟩, ev]
          exact c3
        · rw [cvS_s, if_neg (fun u => by have := u.2.1; omega)]; exact b1
  · rintro l g ⟨y, y2, hy, hy2, rfl, b1, b2⟩
    refine t_Me_countVotes_2 (k_mem hm) hy hy2 (brF (by decide) (kk g ?_ b2))
    have : ∀ d, 3 * dF D + 1 + d ≤ 7 → cvS D S m (3 * dF D + 1 + d) = cvS D S m (3 * dF D + 1) := by
      intro d
      induction d with
      | zero => exact fun _ => rfl
      | succ d ih =>
        intro hd
        rw [← Nat.add_assoc, cvS_s, ih (by omega), if_neg]
        rintro ⟨u, -⟩
        rcases we.2.2.1 m (3 * dF D + 1 + d) hm (by omega) with v | ⟨-, v⟩
        · exact u v
        · omega
    have := this (7 - (3 * dF D + 1)) (by omega)
    rw [show 3 * dF D + 1 + (7 - (3 * dF D + 1)) = 7 by omega] at this
    rw [← this]
    exact b1
theorem r_forgets {Q : Hp → Prop} {m s : Nat} (h : rM f S) (hm : m < 7) (hs : 1 ≤ s ∧ s ≤ 12) (kk : ∀ g, rM g (su (su (su S 8 m s (-1)) 9 m s 0) 10 m s 0) → FrM f g → FrK f g → Q g) : CV L xs xm_Mo_forgets [.ref 400, .int (iN m), .int (iN s)] f Q := by
  refine t_Mo_forgets_0 (r_at ⟨13 * m + s, rfl, by omega, fun g2 e2 => r_at ⟨13 * m + s, rfl, by omega, fun g4 e4 => r_at ⟨13 * m + s, rfl, by omega, fun g6 e6 => ?_⟩⟩⟩)
  subst e2 e4 e6
  exact kk _ (((h.ar (j := 0) hm (by omega) hs).ar (j := 1) hm (by omega) hs).ar (j := 2) hm (by omega) hs) ((((FrM.refl f).put (by omega)).put (by omega)).put (by omega)) ((((FrK.refl f).put (by omega)).put (by omega)).put (by omega))
theorem r_cuts {Q : Hp → Prop} {m p : Nat} (h : rM f S) (hm : m < 7) (hp : p ≤ 12) (kk : ∀ g, rM g (cutS S m p) → FrM f g → FrK f g → Q g) : CV L xs xm_Mo_cuts [.ref 400, .int (iN m), .int (iN p)] f Q := by
  refine t_Mo_cuts_0 ⟨m, rfl, hm, fun g1 e1 => ?_⟩
  have h1 : rM g1 (su S 2 m 0 (iN p)) := by rw [e1]; exact h.sc (j := 2) hm (by omega)
  refine for0 p (fun k l g => l = [.ref 400, .int (iN m), .int (iN p), .int (iN (k + 1))] ∧ rM g (fgP (fgA (su S 2 m 0 (iN p)) m k) m k) ∧ FrM f g ∧ FrK f g) ⟨rfl, by rw [fgA_0, fgP_0]; exact h1, by rw [e1]; exact (FrM.refl f).put (by omega), by rw [e1]; exact (FrK.refl f).put (by omega)⟩ ?_ ?_
  · rintro k l g hk ⟨rfl, b1, b2, b3⟩ k2
    refine t_Mo_cuts_9 (brT ((iN_lt (b := 13) (by omega) (by omega)).mpr (by omega)) (brF (fun z => absurd ((iN_lt (b := _) (by omega) (by omega)).mp z) (by omega)) (r_forgets b1 hm (by omega) fun g2 c1 c2 c3 => r_at ⟨13 * m + (k + 1), rfl, by omega, fun g3 e3 => r_at ⟨13 * m + (k + 1), rfl, by omega, fun g5 e5 => ?_⟩⟩)))
    subst e3 e5
    rw [iN_inc]
    refine k2 _ _ ⟨rfl, ?_, ((b2.trans c2).put (by omega)).put (by omega), ((b3.trans c3).put (by omega)).put (by omega)⟩
    rw [← fgAP_s, ← fgA_s1]
    exact (c1.ar (j := 3) hm (by omega) (by omega)).ar (j := 4) hm (by omega) (by omega)
  · rintro l g ⟨rfl, b1, b2, b3⟩
    have K := kk g b1 b2 b3
    refine t_Mo_cuts_9 ?_
    by_cases z : p + 1 < 13
    · exact brT ((iN_lt (b := 13) (by omega) (by omega)).mpr (by omega)) (brT ((iN_lt (b := _) (by omega) (by omega)).mpr (by omega)) K)
    · exact brF (fun z => absurd ((iN_lt (b := 13) (by omega) (by omega)).mp z) (by omega)) K
theorem r_counts {Q : Hp → Prop} {m : Nat} (w : wfC D) (we : wfE D S m) (cu : cur f o0 D) (h : rM f S) (hm : m < 7) (kk : ∀ g, rM g (cvS D S m (3 * dF D + 1)) → FrM f g → FrK f g → Q g) : CV L xs xm_Mo_counts [.ref 400, .int (iN m)] f Q := by
  have hF := w.1
  refine t_Mo_counts_0 ?_
  refine for0 (3 * dF D + 1) (fun a l g => ∃ y y2 y3 : Value, (y.category != 2) = true ∧ (y2.category != 2) = true ∧ (y3.category != 2) = true ∧ l = [.ref 400, .int (iN m), .int (iN a), y, y2, y3] ∧ rM g (cvS D S m a) ∧ FrM f g ∧ FrK f g) ⟨_, _, _, rfl, rfl, rfl, rfl, h, FrM.refl f, FrK.refl f⟩ ?_ ?_
  · rintro a l g ha ⟨y, y2, y3, hy, hy2, hy3, rfl, b1, b2, b3⟩ k2
    have cg := cu.k b3
    have o14 : ∀ b, cvS D S m a 14 m b = S 14 m b := fun b => cvS_off (by omega) _
    have o15 : ∀ b, cvS D S m a 15 m b = S 15 m b := fun b => cvS_off (by omega) _
    have g9 : ∀ b, b < 7 → g 420 (7 * m + b) = S 14 m b := fun b hb => by rw [b1.2.2.2.2.1 m b hm hb, o14]
    have g10 : ∀ b, b < 7 → ¬ S 14 m b = -1 → g 421 (7 * m + b) = S 15 m b := fun b hb z => by rw [b1.2.2.2.2.2.1 m b hm hb (by rw [o14]; exact z), o15]
    obtain ⟨l0, hl0, el⟩ := ((cvS_wf we hm a (by omega)).1 m hm).2.2.1
    refine t_Mo_counts_2 hy hy2 hy3 ?_
    rw [cg.2.2.1]
    refine brT ((iN_lt (b := _) (by omega) (by omega)).mpr (by omega)) ⟨7 * m + a, by simp only [lit, iN_add, iN_mul], by omega, ?_⟩
    rw [g9 a (by omega), iN_inc]
    refine ⟨fun z => k2 _ _ ⟨_, _, _, rfl, hy2, hy3, rfl, ?_, b2, b3⟩, fun z => ⟨m, rfl, hm, ?_⟩⟩
    · rw [cvS_s, if_neg (fun u => u.1 z)]; exact b1
    · rcases we.2.2.1 m a hm (by omega) with zz | ⟨⟨p, p1, p2, ep⟩, hM⟩
      · exact absurd zz z
      have eb : nb (cvS D S m a 2 m 0) = l0 := by rw [el, nb_iN (by omega)]
      have ev : nb (S 14 m a) = p := by rw [ep, nb_iN (by omega)]
      rw [show g 408 m = iN l0 from (b1.s (j := 2) hm (by omega)).trans el, ep, iN_lt (by omega) (by omega)]
      refine ⟨fun q => ?_, fun q => k2 _ _ ⟨_, _, _, rfl, hy2, hy3, rfl, ?_, b2, b3⟩⟩
      · refine for0 (3 * dF D + 1) (fun b l g' => l = [.ref 400, .int (iN m), .int (iN a), .int (iN p), .int (iN (cntW (fun b => S 14 m b = S 14 m a ∧ S 15 m b = S 15 m a) b)), .int (iN b)] ∧ g' = g) ⟨rfl, rfl⟩ ?_ ?_
        · rintro b l g' hb ⟨rfl, rfl⟩ k3
          refine t_Mo_counts_46 ?_
          rw [cg.2.2.1]
          refine brT ((iN_lt (b := _) (by omega) (by omega)).mpr (by omega)) ⟨7 * m + b, by simp only [lit, iN_add, iN_mul], by omega, ?_⟩
          rw [g9 b (by omega), add0, iN_inc, iN_inc, ← ep]
          refine ⟨fun u => ⟨7 * m + a, by simp only [lit, iN_add, iN_mul], by omega, ?_⟩, fun u => k3 _ _ ⟨?_, rfl⟩⟩
          · rw [g10 b (by omega) (by rw [u]; exact z), g10 a (by omega) z]
            refine ⟨fun u2 => k3 _ _ ⟨?_, rfl⟩, fun u2 => k3 _ _ ⟨?_, rfl⟩⟩
            · rw [cnt_pos (p := fun b => S 14 m b = S 14 m a ∧ S 15 m b = S 15 m a) (n := b) ⟨u, u2⟩, ep]
            · rw [cnt_neg (p := fun b => S 14 m b = S 14 m a ∧ S 15 m b = S 15 m a) (n := b) (fun v => u2 v.2), ep]
          · rw [cnt_neg (p := fun b => S 14 m b = S 14 m a ∧ S 15 m b = S 15 m a) (n := b) (fun v => u v.1), ep]
        · rintro l g' ⟨rfl, rfl⟩
          have cl := cntW_le (fun b => S 14 m b = S 14 m a ∧ S 15 m b = S 15 m a) (3 * dF D + 1)
          refine t_Mo_counts_46 ?_
          rw [cg.2.2.1]
          refine brF (fun z => absurd ((iN_lt (b := _) (by omega) (by omega)).mp z) (by omega)) ?_
          rw [cg.2.2.2.1, iN_lt (by omega) (by omega), iN_inc]
          refine ⟨fun u => k2 _ _ ⟨_, _, _, rfl, rfl, rfl, rfl, ?_, b2, b3⟩, fun u => r_cuts b1 hm p2 fun g2 c1 c2 c3 => k2 _ _ ⟨_, _, _, rfl, rfl, rfl, rfl, ?_, b2.trans c2, b3.trans c3⟩⟩
          · rw [cvS_s, if_neg (fun v => by have := v.2.2; omega)]; exact b1
          · rw [cvS_s, if_pos ⟨z, by omega, by omega⟩, ev]; exact c1
      · rw [cvS_s, if_neg (fun v => by have := v.2.1; omega)]; exact b1
  · rintro l g ⟨y, y2, y3, hy, hy2, hy3, rfl, b1, b2, b3⟩
    refine t_Mo_counts_2 hy hy2 hy3 ?_
    rw [(cu.k b3).2.2.1]
    exact brF (fun z => absurd ((iN_lt (b := _) (by omega) (by omega)).mp z) (by omega)) (kk g b1 b2 b3)
end VOTES
