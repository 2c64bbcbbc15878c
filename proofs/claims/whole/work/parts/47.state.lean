/-! MEMBERS: what both sides hold of a run, as one table (field, member or view, place). Fields: 0 view, 1 active, 2 low, 3 ran, 4 asked, 5 mark, 6 accounts, 7 the mark's accounts, 8 accepted, 9 prepares, 10 commits, 11 proof's view, 12 proof's order, 13 order run, 14 vote's place, 15 vote's root; of views: 16 made, 17 from, 18 upto, 19 orders -/
abbrev ST : Type := Nat → Nat → Nat → Int32
def su (S : ST) (j m k : Nat) (v : Int32) : ST := fun j' m' k' => if j' = j ∧ m' = m ∧ k' = k then v else S j' m' k'
theorem su_at {S : ST} {j m k j' m' k' : Nat} {v : Int32} : su S j m k v j' m' k' = if j' = j ∧ m' = m ∧ k' = k then v else S j' m' k' := rfl
theorem su_eq {S : ST} {j m k : Nat} {v : Int32} : su S j m k v j m k = v := if_pos ⟨rfl, rfl, rfl⟩
theorem su_j {S : ST} {j m k j' m' k' : Nat} {v : Int32} (h : ¬ j' = j) : su S j m k v j' m' k' = S j' m' k' := if_neg (fun z => h z.1)
theorem su_m {S : ST} {j m k j' m' k' : Nat} {v : Int32} (h : ¬ m' = m) : su S j m k v j' m' k' = S j' m' k' := if_neg (fun z => h z.2.1)
theorem su_k {S : ST} {j m k j' m' k' : Nat} {v : Int32} (h : ¬ k' = k) : su S j m k v j' m' k' = S j' m' k' := if_neg (fun z => h z.2.2)
def cMem (f : Hp) (a : Nat) (D : CD) (S : ST) (m : Nat) : Prop := (∀ j, j < 6 → f a j = S j m 0) ∧ f a 6 = iN (2 * dF D + 1) ∧ f a 7 = iN (dW D) ∧ (∀ i, i < 8 → f (a + 1) i = S 6 m i) ∧ (¬ S 5 m 0 = -1 → ∀ i, i < 8 → f (a + 2) i = S 7 m i) ∧ (∀ j s, j < 6 → 1 ≤ s → s ≤ 12 → f (a + 3 + j) s = S (8 + j) m s) ∧ (∀ b, b < 7 → f (a + 9) b = S 14 m b) ∧ ∀ b, b < 7 → ¬ S 14 m b = -1 → f (a + 10) b = S 15 m b
def cVw (f : Hp) (a : Nat) (S : ST) (v : Nat) : Prop := f a 0 = S 16 v 0 ∧ (¬ S 16 v 0 = 0 → f a 1 = S 17 v 0 ∧ f a 2 = S 18 v 0 ∧ ∀ s, 1 ≤ s → s ≤ 12 → S 17 v 0 < iN s → ¬ S 18 v 0 < iN s → f (a + 1) s = S 19 v s)
def cA (f : Hp) (D : CD) (S : ST) : Prop := cC f 77 D ∧ f 75 4 = iN (3 * dF D + 1) ∧ f 75 5 = iN (2 * dF D + 1) ∧ (∀ m, m < 7 → cMem f (93 + 11 * m) D S m) ∧ ∀ v, v < 10 → cVw f (170 + 3 * v) S v
def rM (f : Hp) (S : ST) : Prop := (∀ j m, j < 6 → m < 7 → f (406 + j) m = S j m 0) ∧ (∀ m i, m < 7 → i < 8 → f 412 (8 * m + i) = S 6 m i) ∧ (∀ m i, m < 7 → i < 8 → ¬ S 5 m 0 = -1 → f 413 (8 * m + i) = S 7 m i) ∧ (∀ j m s, j < 6 → m < 7 → 1 ≤ s → s ≤ 12 → f (414 + j) (13 * m + s) = S (8 + j) m s) ∧ (∀ m b, m < 7 → b < 7 → f 420 (7 * m + b) = S 14 m b) ∧ (∀ m b, m < 7 → b < 7 → ¬ S 14 m b = -1 → f 421 (7 * m + b) = S 15 m b) ∧ ∀ v, v < 10 → f 422 v = S 16 v 0 ∧ (¬ S 16 v 0 = 0 → f 423 v = S 17 v 0 ∧ f 424 v = S 18 v 0 ∧ ∀ s, 1 ≤ s → s ≤ 12 → f 425 (13 * v + s) = if S 17 v 0 < iN s ∧ ¬ S 18 v 0 < iN s then S 19 v s else -1)
/-- what may be: numbers in their ranges, who is not active has accepted nothing, no votes that would have cut -/
def ordI (D : CD) (x : Int32) : Prop := x = 10 ∨ ∃ o, o < dN D ∧ x = iN o
def wfS (D : CD) (S : ST) : Prop := (∀ m, m < 7 → (∃ v, v ≤ 9 ∧ S 0 m 0 = iN v) ∧ (S 1 m 0 = 0 ∨ S 1 m 0 = 1) ∧ (∃ l, l ≤ 12 ∧ S 2 m 0 = iN l) ∧ (∃ r, r ≤ 12 ∧ S 3 m 0 = iN r) ∧ (S 5 m 0 = -1 ∨ ∃ p, 1 ≤ p ∧ p ≤ 12 ∧ S 5 m 0 = iN p)) ∧ (∀ m s, m < 7 → 1 ≤ s → s ≤ 12 → (S 8 m s = -1 ∨ ordI D (S 8 m s)) ∧ (∃ b, b < 128 ∧ S 9 m s = iN b) ∧ (∃ b, b < 128 ∧ S 10 m s = iN b) ∧ (S 8 m s = -1 → S 9 m s = 0 ∧ S 10 m s = 0) ∧ (S 11 m s = -1 ∨ ((∃ v, v ≤ 9 ∧ S 11 m s = iN v) ∧ ordI D (S 12 m s))) ∧ (S 13 m s = -1 ∨ ordI D (S 13 m s))) ∧ (∀ m b, m < 7 → b < 7 → S 14 m b = -1 ∨ ((∃ p, 1 ≤ p ∧ p ≤ 12 ∧ S 14 m b = iN p) ∧ b < 3 * dF D + 1)) ∧ (∀ m, m < 7 → S 1 m 0 = 0 → (∃ v, 1 ≤ v ∧ v ≤ 9 ∧ S 0 m 0 = iN v) ∧ ∀ s, 1 ≤ s → s ≤ 12 → S 8 m s = -1) ∧ (∀ m, m < 7 → hon D m = false → ∀ s, 1 ≤ s → s ≤ 12 → S 8 m s = -1) ∧ (∀ m a, m < 7 → a < 3 * dF D + 1 → ¬ S 14 m a = -1 → S 2 m 0 < S 14 m a → cntW (fun b => S 14 m b = S 14 m a ∧ S 15 m b = S 15 m a) (3 * dF D + 1) < 2 * dF D + 1) ∧ S 16 0 0 = 0 ∧ ∀ v, v < 10 → (S 16 v 0 = 0 ∨ S 16 v 0 = 1) ∧ (¬ S 16 v 0 = 0 → (∃ p, p ≤ 12 ∧ S 17 v 0 = iN p) ∧ (∃ p, p ≤ 12 ∧ S 18 v 0 = iN p) ∧ ∀ s, 1 ≤ s → s ≤ 12 → S 17 v 0 < iN s → ¬ S 18 v 0 < iN s → ordI D (S 19 v s))
def FrA (f g : Hp) : Prop := ∀ x, x < 76 ∨ 200 ≤ x → g x = f x
def FrM (f g : Hp) : Prop := ∀ x, x < 404 ∨ 426 < x → ¬ x = 400 → g x = f x
/-- the small numbers of the reference's own row stay -/
def FrK (f g : Hp) : Prop := ∀ j, 11 ≤ j ∧ j ≤ 18 ∨ j = 43 ∨ j = 47 ∨ j = 55 ∨ j = 60 → g 400 j = f 400 j
theorem FrA.refl (f : Hp) : FrA f f := fun _ _ => rfl
theorem FrA.trans {f g h : Hp} (a : FrA f g) (b : FrA g h) : FrA f h := fun x hx => by rw [b x hx, a x hx]
theorem FrM.refl (f : Hp) : FrM f f := fun _ _ _ => rfl
theorem FrM.trans {f g h : Hp} (a : FrM f g) (b : FrM g h) : FrM f h := fun x hx hy => by rw [b x hx hy, a x hx hy]
theorem FrK.refl (f : Hp) : FrK f f := fun _ _ => rfl
theorem FrK.trans {f g h : Hp} (a : FrK f g) (b : FrK g h) : FrK f h := fun x hx => by rw [b x hx, a x hx]
theorem FrM.put {f g : Hp} {a k : Nat} {v : Int32} (h : FrM f g) (ha : 404 ≤ a ∧ a ≤ 426) : FrM f (xu g a k v) := fun x hx hy => by rw [xu_a (by omega)]; exact h x hx hy
theorem FrK.put {f g : Hp} {a k : Nat} {v : Int32} (h : FrK f g) (ha : ¬ a = 400) : FrK f (xu g a k v) := fun j hj => by rw [xu_a (by omega)]; exact h j hj
section STATE
variable {L : Nat} {xs : Nat → Int32} {f g : Hp} {D : CD} {S S' : ST}
theorem cA.upd {m : Nat} (h : cA f D S) (hm : m < 7) (e : ∀ x, 75 ≤ x → x < 200 → ¬ (93 + 11 * m ≤ x ∧ x < 104 + 11 * m) → ¬ (90 ≤ x ∧ x ≤ 92) → g x = f x) (eS : ∀ j m' k, ¬ m' = m ∨ 16 ≤ j → S' j m' k = S j m' k) (n : cMem g (93 + 11 * m) D S' m) : cA g D S' := by
  obtain ⟨h1, h2, h3, h4, h5⟩ := h
  refine ⟨h1.fr fun a p q => e a (by omega) (by omega) (by omega) (by omega), by rw [e 75 (by omega) (by omega) (by omega) (by omega)]; exact h2, by rw [e 75 (by omega) (by omega) (by omega) (by omega)]; exact h3, fun m' hm' => ?_, fun v hv => ?_⟩
  · by_cases z : m' = m
    · rw [z]; exact n
    · obtain ⟨a1, a2, a3, a4, a5, a6, a7, a8⟩ := h4 m' hm'
      have ee : ∀ i, i < 11 → g (93 + 11 * m' + i) = f (93 + 11 * m' + i) := fun i hi => e _ (by omega) (by omega) (by omega) (by omega)
      have e0 := ee 0 (by omega)
      rw [Nat.add_zero] at e0
      refine ⟨fun j hj => by rw [e0, eS _ _ _ (Or.inl z)]; exact a1 j hj, by rw [e0]; exact a2, by rw [e0]; exact a3, fun i hi => by rw [ee 1 (by omega), eS _ _ _ (Or.inl z)]; exact a4 i hi, fun hq i hi => ?_, fun j s hj h1 h2 => ?_, fun b hb => by rw [ee 9 (by omega), eS _ _ _ (Or.inl z)]; exact a7 b hb, fun b hb hq => ?_⟩
      · rw [eS _ _ _ (Or.inl z)] at hq
        rw [ee 2 (by omega), eS _ _ _ (Or.inl z)]; exact a5 hq i hi
      · rw [show 93 + 11 * m' + 3 + j = 93 + 11 * m' + (3 + j) by omega, ee (3 + j) (by omega), eS _ _ _ (Or.inl z), ← Nat.add_assoc]
        exact a6 j s hj h1 h2
      · rw [eS _ _ _ (Or.inl z)] at hq
        rw [ee 10 (by omega), eS _ _ _ (Or.inl z)]; exact a8 b hb hq
  · obtain ⟨a1, a2⟩ := h5 v hv
    have e0 := e (170 + 3 * v) (by omega) (by omega) (by omega) (by omega)
    have e1 := e (170 + 3 * v + 1) (by omega) (by omega) (by omega) (by omega)
    have q16 := eS 16 v 0 (Or.inr (by omega))
    have q17 := eS 17 v 0 (Or.inr (by omega))
    have q18 := eS 18 v 0 (Or.inr (by omega))
    refine ⟨by rw [e0, q16]; exact a1, fun hq => ?_⟩
    rw [q16] at hq
    obtain ⟨b1, b2, b3⟩ := a2 hq
    refine ⟨by rw [e0, q17]; exact b1, by rw [e0, q18]; exact b2, fun s h1 h2 h3 h4 => ?_⟩
    rw [q17] at h3
    rw [q18] at h4
    rw [e1, eS 19 v s (Or.inr (by omega))]; exact b3 s h1 h2 h3 h4
/-- one write of the class in a member's rows -/
theorem cMem.sc {a m j : Nat} {v : Int32} (h : cMem f a D S m) (hj : j < 5) : cMem (xu f a j v) a D (su S j m 0 v) m := by
  obtain ⟨a1, a2, a3, a4, a5, a6, a7, a8⟩ := h
  refine ⟨fun j' hj' => ?_, by rw [xu_k (by omega)]; exact a2, by rw [xu_k (by omega)]; exact a3, fun i hi => by rw [xu_a (by omega), su_j (by omega)]; exact a4 i hi, fun hq i hi => ?_, fun j' s hj' h1 h2 => by rw [xu_a (by omega), su_j (by omega)]; exact a6 j' s hj' h1 h2, fun b hb => by rw [xu_a (by omega), su_j (by omega)]; exact a7 b hb, fun b hb hq => ?_⟩
  · by_cases z : j' = j
    · subst z; rw [xu_eq, su_eq]
    · rw [xu_k z, su_j z]; exact a1 j' hj'
  · rw [su_j (by omega)] at hq
    rw [xu_a (by omega), su_j (by omega)]; exact a5 hq i hi
  · rw [su_j (by omega)] at hq
    rw [xu_a (by omega), su_j (by omega)]; exact a8 b hb hq
theorem cMem.ar {a m j s : Nat} {v : Int32} (h : cMem f a D S m) (hj : j < 6) : cMem (xu f (a + 3 + j) s v) a D (su S (8 + j) m s v) m := by
  obtain ⟨a1, a2, a3, a4, a5, a6, a7, a8⟩ := h
  refine ⟨fun j' hj' => by rw [xu_a (by omega), su_j (by omega)]; exact a1 j' hj', by rw [xu_a (by omega)]; exact a2, by rw [xu_a (by omega)]; exact a3, fun i hi => by rw [xu_a (by omega), su_j (by omega)]; exact a4 i hi, fun hq i hi => ?_, fun j' s' hj' h1 h2 => ?_, fun b hb => by rw [xu_a (by omega), su_j (by omega)]; exact a7 b hb, fun b hb hq => ?_⟩
  · rw [su_j (by omega)] at hq
    rw [xu_a (by omega), su_j (by omega)]; exact a5 hq i hi
  · by_cases z : j' = j ∧ s' = s
    · obtain ⟨rfl, rfl⟩ := z; rw [xu_eq, su_eq]
    · rw [xu_at, if_neg (fun y => z ⟨by omega, y.2⟩), su_at, if_neg (fun y => z ⟨by omega, y.2.2⟩)]; exact a6 j' s' hj' h1 h2
  · rw [su_j (by omega)] at hq
    rw [xu_a (by omega), su_j (by omega)]; exact a8 b hb hq
theorem cA.sc {m j : Nat} {v : Int32} (h : cA f D S) (hm : m < 7) (hj : j < 5) : cA (xu f (93 + 11 * m) j v) D (su S j m 0 v) := h.upd hm (fun x _ _ p _ => by rw [xu_a (by omega)]) (fun j' m' k z => by
  rcases z with z | z
  · rw [su_m z]
  · rw [su_j (by omega)]) ((h.2.2.2.1 m hm).sc hj)
theorem cA.ar {m j s : Nat} {v : Int32} (h : cA f D S) (hm : m < 7) (hj : j < 6) : cA (xu f (93 + 11 * m + 3 + j) s v) D (su S (8 + j) m s v) := h.upd hm (fun x _ _ p _ => by rw [xu_a (by omega)]) (fun j' m' k z => by
  rcases z with z | z
  · rw [su_m z]
  · rw [su_j (by omega)]) ((h.2.2.2.1 m hm).ar hj)
theorem rM.sc {m j : Nat} {v : Int32} (h : rM f S) (hm : m < 7) (hj : j < 5) : rM (xu f (406 + j) m v) (su S j m 0 v) := by
  obtain ⟨a1, a2, a3, a4, a5, a6, a7⟩ := h
  refine ⟨fun j' m' hj' hm' => ?_, fun m' i hm' hi => by rw [xu_a (by omega), su_j (by omega)]; exact a2 m' i hm' hi, fun m' i hm' hi hq => ?_, fun j' m' s hj' hm' h1 h2 => by rw [xu_a (by omega), su_j (by omega)]; exact a4 j' m' s hj' hm' h1 h2, fun m' b hm' hb => by rw [xu_a (by omega), su_j (by omega)]; exact a5 m' b hm' hb, fun m' b hm' hb hq => ?_, fun v' hv => ?_⟩
  · by_cases z : j' = j ∧ m' = m
    · obtain ⟨rfl, rfl⟩ := z; rw [xu_eq, su_eq]
    · rw [xu_at, if_neg (fun y => z ⟨by omega, y.2⟩), su_at, if_neg (fun y => z ⟨y.1, y.2.1⟩)]; exact a1 j' m' hj' hm'
  · rw [su_j (by omega)] at hq
    rw [xu_a (by omega), su_j (by omega)]; exact a3 m' i hm' hi hq
  · rw [su_j (by omega)] at hq
    rw [xu_a (by omega), su_j (by omega)]; exact a6 m' b hm' hb hq
  · simp only [xu_a (f := f) (a := 406 + j) (k := m) (v := v) (show ¬ 422 = 406 + j by omega), xu_a (f := f) (a := 406 + j) (k := m) (v := v) (show ¬ 423 = 406 + j by omega), xu_a (f := f) (a := 406 + j) (k := m) (v := v) (show ¬ 424 = 406 + j by omega), xu_a (f := f) (a := 406 + j) (k := m) (v := v) (show ¬ 425 = 406 + j by omega), su_j (S := S) (m := m) (k := 0) (v := v) (show ¬ 16 = j by omega), su_j (S := S) (m := m) (k := 0) (v := v) (show ¬ 17 = j by omega), su_j (S := S) (m := m) (k := 0) (v := v) (show ¬ 18 = j by omega), su_j (S := S) (m := m) (k := 0) (v := v) (show ¬ 19 = j by omega)]
    exact a7 v' hv
theorem rM.ar {m j s : Nat} {v : Int32} (h : rM f S) (hm : m < 7) (hj : j < 6) (hs : 1 ≤ s ∧ s ≤ 12) : rM (xu f (414 + j) (13 * m + s) v) (su S (8 + j) m s v) := by
  obtain ⟨a1, a2, a3, a4, a5, a6, a7⟩ := h
  refine ⟨fun j' m' hj' hm' => by rw [xu_a (by omega), su_j (by omega)]; exact a1 j' m' hj' hm', fun m' i hm' hi => by rw [xu_a (by omega), su_j (by omega)]; exact a2 m' i hm' hi, fun m' i hm' hi hq => ?_, fun j' m' s' hj' hm' h1 h2 => ?_, fun m' b hm' hb => by rw [xu_a (by omega), su_j (by omega)]; exact a5 m' b hm' hb, fun m' b hm' hb hq => ?_, fun v' hv => ?_⟩
  · rw [su_j (by omega)] at hq
    rw [xu_a (by omega), su_j (by omega)]; exact a3 m' i hm' hi hq
  · by_cases z : j' = j ∧ m' = m ∧ s' = s
    · obtain ⟨rfl, rfl, rfl⟩ := z; rw [xu_eq, su_eq]
    · rw [xu_at, if_neg (fun y => z ⟨by omega, by omega, by omega⟩), su_at, if_neg (fun y => z ⟨by omega, y.2⟩)]; exact a4 j' m' s' hj' hm' h1 h2
  · rw [su_j (by omega)] at hq
    rw [xu_a (by omega), su_j (by omega)]; exact a6 m' b hm' hb hq
  · simp only [xu_a (f := f) (a := 414 + j) (k := 13 * m + s) (v := v) (show ¬ 422 = 414 + j by omega), xu_a (f := f) (a := 414 + j) (k := 13 * m + s) (v := v) (show ¬ 423 = 414 + j by omega), xu_a (f := f) (a := 414 + j) (k := 13 * m + s) (v := v) (show ¬ 424 = 414 + j by omega), xu_a (f := f) (a := 414 + j) (k := 13 * m + s) (v := v) (show ¬ 425 = 414 + j by omega), su_j (S := S) (m := m) (k := s) (v := v) (show ¬ 16 = 8 + j by omega), su_j (S := S) (m := m) (k := s) (v := v) (show ¬ 17 = 8 + j by omega), su_j (S := S) (m := m) (k := s) (v := v) (show ¬ 18 = 8 + j by omega), su_j (S := S) (m := m) (k := s) (v := v) (show ¬ 19 = 8 + j by omega)]
    exact a7 v' hv
theorem cA.s {m j : Nat} (h : cA f D S) (hm : m < 7) (hj : j < 6) : f (93 + 11 * m) j = S j m 0 := (h.2.2.2.1 m hm).1 j hj
theorem cA.a {m j s : Nat} (h : cA f D S) (hm : m < 7) (hj : j < 6) (h1 : 1 ≤ s) (h2 : s ≤ 12) : f (93 + 11 * m + 3 + j) s = S (8 + j) m s := (h.2.2.2.1 m hm).2.2.2.2.2.1 j s hj h1 h2
theorem cA.fr (h : cA f D S) (e : ∀ x, 75 ≤ x → x < 200 → ¬ (90 ≤ x ∧ x ≤ 92) → g x = f x) : cA g D S := by
  refine h.upd (m := 0) (by omega) (fun x p q _ r => e x p q r) (fun _ _ _ _ => rfl) ?_
  have ee : ∀ i, i < 11 → g (93 + 11 * 0 + i) = f (93 + 11 * 0 + i) := fun i hi => e _ (by omega) (by omega) (by omega)
  have := h.2.2.2.1 0 (by omega)
  unfold cMem at this ⊢
  have e0 := ee 0 (by omega)
  rw [Nat.add_zero] at e0
  rw [e0, ee 1 (by omega), ee 2 (by omega), ee 9 (by omega), ee 10 (by omega)]
  refine ⟨this.1, this.2.1, this.2.2.1, this.2.2.2.1, this.2.2.2.2.1, fun j s hj h1 h2 => ?_, this.2.2.2.2.2.2⟩
  rw [show 93 + 11 * 0 + 3 + j = 93 + 11 * 0 + (3 + j) by omega, ee (3 + j) (by omega), ← Nat.add_assoc]
  exact this.2.2.2.2.2.1 j s hj h1 h2
theorem rM.fr (h : rM f S) (e : ∀ x, 406 ≤ x → x ≤ 425 → g x = f x) : rM g S := by
  obtain ⟨a1, a2, a3, a4, a5, a6, a7⟩ := h
  refine ⟨fun j m hj hm => by rw [e _ (by omega) (by omega)]; exact a1 j m hj hm, by rw [e _ (by omega) (by omega)]; exact a2, by rw [e _ (by omega) (by omega)]; exact a3, fun j m s hj hm h1 h2 => by rw [e _ (by omega) (by omega)]; exact a4 j m s hj hm h1 h2, by rw [e _ (by omega) (by omega)]; exact a5, by rw [e _ (by omega) (by omega)]; exact a6, ?_⟩
  rw [e 422 (by omega) (by omega), e 423 (by omega) (by omega), e 424 (by omega) (by omega), e 425 (by omega) (by omega)]
  exact a7
/-- small questions of the class -/
theorem c_isPlace {Q : Int32 → Hp → Prop} {x : Int32} (h1 : ∀ s, 1 ≤ s → s ≤ 12 → x = iN s → Q 1 f) (h0 : (∀ s, 1 ≤ s → s ≤ 12 → ¬ x = iN s) → Q 0 f) : CI L xs xm_TP_isPlace [.int x] f Q := by
  refine t_TP_isPlace_0 ⟨fun p => h0 fun s p1 p2 e => ?_, fun p => ⟨fun p2 => h0 fun s p3 p4 e => ?_, fun p2 => ?_⟩⟩
  · subst e
    exact absurd ((iN_lt (b := 1) (by omega) (by omega)).mp p) (by omega)
  · subst e
    exact absurd ((iN_lt (a := 12) (by omega) (by omega)).mp p2) (by omega)
  · obtain ⟨n, a, b, rfl⟩ := iN_lo (a := 1) (by omega) p
    refine h1 n a ?_ rfl
    rcases Nat.lt_or_ge 12 n with q | q
    · exact absurd (((iN_lt (a := 12) (by omega) (by omega)).mpr (by omega))) p2
    · exact q
theorem c_isP {Q : Int32 → Hp → Prop} {s : Nat} (hs : 1 ≤ s ∧ s ≤ 12) (h : Q 1 f) : CI L xs xm_TP_isPlace [.int (iN s)] f Q := c_isPlace (fun _ _ _ _ => h) fun q => absurd rfl (q s hs.1 hs.2)
theorem c_isSeat {Q : Int32 → Hp → Prop} {m : Nat} (w : wfC D) (h : cA f D S) (hm : m < 2147483648) (h1 : m < 3 * dF D + 1 → Q 1 f) (h0 : ¬ m < 3 * dF D + 1 → Q 0 f) : CI L xs xm_As_isSeat [.ref 75, .int (iN m)] f Q := by
  have hF := w.1
  refine t_As_isSeat_0 (brF (iN_nn hm) ?_)
  rw [h.2.1, iN_lt hm (by omega)]
  exact ⟨h1, h0⟩
theorem c_asHon {Q : Int32 → Hp → Prop} {m : Nat} (w : wfC D) (h : cA f D S) (hm : m < 2147483648) (h1 : hon D m = true → Q 1 f) (h0 : hon D m = false → Q 0 f) : CI L xs xm_As_isHonest [.ref 75, .int (iN m)] f Q := by
  have hF := w.1
  have hp := pow7 hF
  have w4 := w.2.2.2.1
  refine t_As_isHonest_0 (brF (iN_nn hm) ?_)
  rw [h.2.1, iN_lt hm (by omega), show f 77 3 = iN (dL D) from h.1.2.2.2.1]
  refine ⟨fun p => ?_, fun p => h0 ?_⟩
  · rw [bit1 (by omega) (by omega)]
    cases hb : (dL D).testBit m with
    | true =>
      refine brF (by decide) (h0 ?_)
      cases hh : hon D m with
      | false => rfl
      | true => have := (hon_iff.mp hh).2; rw [hb] at this; cases this
    | false => exact brT (by decide) (h1 (hon_iff.mpr ⟨p, hb⟩))
  · cases hh : hon D m with
    | false => rfl
    | true => exact absurd (hon_iff.mp hh).1 p
theorem c_prim {Q : Int32 → Hp → Prop} {v : Nat} (w : wfC D) (h : cA f D S) (hv : v < 2147483648) (k : Q (iN (v % (3 * dF D + 1))) f) : CI L xs xm_As_primaryOf [.ref 75, .int (iN v)] f Q := by
  have hF := w.1
  refine t_As_primaryOf_0 ?_
  rw [h.2.1, jrem_iN hv (by omega)]
  exact brT ((iN_lt (a := 0) (by omega) (by omega)).mpr (by omega)) ⟨fun z => absurd ((iN_inj (b := 0) (by omega) (by omega)).mp z) (by omega), k⟩
theorem c_within {Q : Int32 → Hp → Prop} {m s l : Nat} (w : wfC D) (h : cA f D S) (hm : m < 7) (kM : xS0 L (93 + 11 * m) = (2, 0)) (hs : 1 ≤ s ∧ s ≤ 12) (hl : S 2 m 0 = iN l) (hl2 : l ≤ 12) (h1 : l < s ∧ s ≤ l + dW D → Q 1 f) (h0 : ¬ (l < s ∧ s ≤ l + dW D) → Q 0 f) : CI L xs xm_Me_isWithin [.ref (93 + 11 * m), .int (iN s)] f Q := by
  have w2 := w.2.1
  refine t_Me_isWithin_0 kM (c_isP hs (br1 ?_))
  rw [h.s hm (by omega), hl, (h.2.2.2.1 m hm).2.2.1, iN_add, iN_lt (by omega) (by omega), iN_lt (by omega) (by omega)]
  exact ⟨fun p => ⟨fun p2 => h0 (by omega), fun p2 => h1 (by omega)⟩, fun p => h0 (by omega)⟩
theorem c_hasAcc {Q : Int32 → Hp → Prop} {m s : Nat} (h : cA f D S) (hm : m < 7) (kM : xS0 L (93 + 11 * m) = (2, 0)) (hs : 1 ≤ s ∧ s ≤ 12) (h1 : ¬ S 8 m s = -1 → Q 1 f) (h0 : S 8 m s = -1 → Q 0 f) : CI L xs xm_Me_hasAccepted [.ref (93 + 11 * m), .int (iN s)] f Q := by
  refine t_Me_hasAccepted_0 kM (brF (fun z => absurd ((iN_lt (b := 1) (by omega) (by omega)).mp z) (by omega)) (brF (fun z => absurd ((iN_lt (a := 12) (by omega) (by omega)).mp z) (by omega)) ⟨s, rfl, by omega, ?_⟩))
  rw [h.a (j := 0) hm (by omega) hs.1 hs.2]
  exact ⟨h0, h1⟩
theorem k_mem {m : Nat} (h : m < 7) : xS0 L (93 + 11 * m) = (2, 0) := by
  have := (ke_24 (L := L) (a := 89) rfl h).2
  rwa [show 89 + 4 + 11 * m = 93 + 11 * m by omega] at this
end STATE
