/-! a line, read by the class -/
def uV (V : Nat → Int32) (k : Nat) (v : Int32) : Nat → Int32 := fun j => if j = k then v else V j
def nums (B : Nat → Nat) (n i : Nat) : Nat → Nat → Nat → FT → (Nat → Int32) → Bool × Nat × FT × (Nat → Int32)
  | 0, _, p, F, V => (true, p, F, V)
  | r + 1, k, p, F, V => if tK B n p = 2 then nums B n i r (k + 1) (tE B n p) (if okN i k (tV B n p) (uV V k (iN (tV B n p)) 0) then F else nt F 2 (tS B n p)) (uV V k (iN (tV B n p))) else (false, p, F, V)
theorem nums_s (B : Nat → Nat) (n i r k p : Nat) (F : FT) (V : Nat → Int32) : nums B n i (r + 1) k p F V = if tK B n p = 2 then nums B n i r (k + 1) (tE B n p) (if okN i k (tV B n p) (uV V k (iN (tV B n p)) 0) then F else nt F 2 (tS B n p)) (uV V k (iN (tV B n p))) else (false, p, F, V) := rfl
def fulX (i : Nat) (X : DT) : Bool := if i = 5 then dN X.1 == 10 else if i = 16 then X.2.2.2.1 == 12 else if i < 7 then false else X.2.2.1.1 == 40
def lin (B : Nat → Nat) (n t p : Nat) (F : FT) (X : DT) : Bool × Nat × FT × DT :=
  if tK B n p = 1 ∧ lo3 t < wI B (tS B n p) (tE B n p) ∧ wI B (tS B n p) (tE B n p) ≤ lo3 (t + 1) then
    (if (nums B n (wI B (tS B n p) (tE B n p) - 1) (arN (wI B (tS B n p) (tE B n p) - 1)) 0 (tE B n p) (if fulX (wI B (tS B n p) (tE B n p) - 1) X = true then nt F 3 (tS B n p) else F) (fun _ => -1)).1 = true ∧ tK B n (nums B n (wI B (tS B n p) (tE B n p) - 1) (arN (wI B (tS B n p) (tE B n p) - 1)) 0 (tE B n p) (if fulX (wI B (tS B n p) (tE B n p) - 1) X = true then nt F 3 (tS B n p) else F) (fun _ => -1)).2.1 = 3 then
      (true, tE B n (nums B n (wI B (tS B n p) (tE B n p) - 1) (arN (wI B (tS B n p) (tE B n p) - 1)) 0 (tE B n p) (if fulX (wI B (tS B n p) (tE B n p) - 1) X = true then nt F 3 (tS B n p) else F) (fun _ => -1)).2.1, (nums B n (wI B (tS B n p) (tE B n p) - 1) (arN (wI B (tS B n p) (tE B n p) - 1)) 0 (tE B n p) (if fulX (wI B (tS B n p) (tE B n p) - 1) X = true then nt F 3 (tS B n p) else F) (fun _ => -1)).2.2.1, if (nums B n (wI B (tS B n p) (tE B n p) - 1) (arN (wI B (tS B n p) (tE B n p) - 1)) 0 (tE B n p) (if fulX (wI B (tS B n p) (tE B n p) - 1) X = true then nt F 3 (tS B n p) else F) (fun _ => -1)).2.2.1.1 = 0 then kp (wI B (tS B n p) (tE B n p) - 1) (nums B n (wI B (tS B n p) (tE B n p) - 1) (arN (wI B (tS B n p) (tE B n p) - 1)) 0 (tE B n p) (if fulX (wI B (tS B n p) (tE B n p) - 1) X = true then nt F 3 (tS B n p) else F) (fun _ => -1)).2.2.2 X else X)
    else (false, (nums B n (wI B (tS B n p) (tE B n p) - 1) (arN (wI B (tS B n p) (tE B n p) - 1)) 0 (tE B n p) (if fulX (wI B (tS B n p) (tE B n p) - 1) X = true then nt F 3 (tS B n p) else F) (fun _ => -1)).2.1, (nums B n (wI B (tS B n p) (tE B n p) - 1) (arN (wI B (tS B n p) (tE B n p) - 1)) 0 (tE B n p) (if fulX (wI B (tS B n p) (tE B n p) - 1) X = true then nt F 3 (tS B n p) else F) (fun _ => -1)).2.2.1, X))
  else (false, p, F, X)
theorem nt_0 {F : FT} {c p : Nat} (hc : ¬ c = 0) : ¬ (nt F c p).1 = 0 := by
  unfold nt
  split
  · exact hc
  · assumption
/-- a fault stays; where none is left, all numbers are as they may be -/
theorem nums_F {B : Nat → Nat} {n i : Nat} : ∀ r k p F V, (nums B n i r k p F V).2.2.1.1 = 0 → F.1 = 0
  | 0, k, p, F, V, h => h
  | r + 1, k, p, F, V, h => by
    rw [nums_s] at h
    split at h
    · have := nums_F r _ _ _ _ h
      split at this
      · exact this
      · exact absurd this (nt_0 (by decide))
    · exact h
theorem nums_V {B : Nat → Nat} {n i : Nat} : ∀ r k p F V, (∀ j, j < k → ∃ v, V j = iN v ∧ leN i j ≤ v ∧ v ≤ moN i j) → (∀ j, k ≤ j → V j = -1) → (nums B n i r k p F V).1 = true → (nums B n i r k p F V).2.2.1.1 = 0 → (∀ j, j < k + r → ∃ v, (nums B n i r k p F V).2.2.2 j = iN v ∧ leN i j ≤ v ∧ v ≤ moN i j) ∧ ∀ j, k + r ≤ j → (nums B n i r k p F V).2.2.2 j = -1
  | 0, k, p, F, V, h1, h2, _, _ => ⟨fun j hj => h1 j (by omega), fun j hj => h2 j (by omega)⟩
  | r + 1, k, p, F, V, h1, h2, h3, h4 => by
    rw [nums_s] at h3 h4 ⊢
    by_cases z : tK B n p = 2
    · rw [if_pos z] at h3 h4 ⊢
      have h0 := nums_F r _ _ _ _ h4
      have ok : okN i k (tV B n p) (uV V k (iN (tV B n p)) 0) := Classical.byContradiction fun y => by
        rw [if_neg y] at h0
        exact nt_0 (by decide) h0
      have := nums_V r (k + 1) _ _ (uV V k (iN (tV B n p))) (fun j hj => ?_) (fun j hj => ?_) h3 h4
      · rw [show k + (r + 1) = k + 1 + r by omega]; exact this
      · unfold uV
        by_cases y : j = k
        · rw [if_pos y]; subst y; exact ⟨_, rfl, ok.1, ok.2.1⟩
        · rw [if_neg y]; exact h1 j (by omega)
      · unfold uV
        rw [if_neg (by omega)]; exact h2 j (by omega)
    · rw [if_neg z] at h3; cases h3
section LINES
variable {L : Nat} {xs : Nat → Int32} {f g : Hp} {B : Nat → Nat} {n : Nat} {F : FT} {X : DT} {V : Nat → Int32}
def tok (f : Hp) (B : Nat → Nat) (n p : Nat) : Prop := p ≤ n ∧ f 51 7 = iN (tK B n p) ∧ f 51 8 = iN (tS B n p) ∧ f 51 9 = iN (tE B n p) ∧ (tK B n p = 2 → f 51 10 = iN (tV B n p))
def FrT (f g : Hp) : Prop := ∀ x, x < 51 ∨ 75 ≤ x → g x = f x
theorem FrT.trans {f g h : Hp} (a : FrT f g) (b : FrT g h) : FrT f h := fun x hx => by rw [b x hx, a x hx]
theorem tK_le {p : Nat} : tK B n p ≤ 4 := by
  unfold tK
  repeat' split
  all_goals omega
theorem cX.fr (h : cX f X) (e : ∀ x, 52 ≤ x → x < 73 → g x = f x) (e2 : g 51 11 = f 51 11) : cX g X := ⟨h.1.fr fun a p q => e a p (by omega), by rw [e2]; exact h.2.1, h.2.2.1.fr1 fun a p q => e a (by omega) (by omega), h.2.2.2.fr1 fun a p q => e a (by omega) (by omega)⟩
theorem cF.fr (h : cF f F) (e3 : g 51 3 = f 51 3) (e4 : g 51 4 = f 51 4) : cF g F := ⟨h.1, by rw [e3]; exact h.2.1, by rw [e4]; exact h.2.2⟩
/-- on to the next token -/
theorem c_on {Q : Hp → Prop} {p : Nat} (c : cB f B n) (tk : tok f B n p) (kk : ∀ g, cB g B n → tok g B n (tE B n p) → Fr7 f g → Q g) : CV L xs xm_Re_next [.ref 51] f Q := by
  have le := tE_le (B := B) tk.1
  exact c_next c le.2 tk.2.2.2.1 fun g fr a b c' d => kk g (c.fr fr) ⟨le.2, a, b, c', d⟩ fr
theorem tV_le {p : Nat} (h : tK B n p = 2) (hp : p ≤ n) : tV B n p ≤ 99 := by
  obtain ⟨a, b⟩ := tS_le (B := B) hp
  have nz : ¬ n ≤ tS B n p := fun z => by unfold tK at h; rw [if_pos z] at h; cases h
  have nl : ¬ isL (B (tS B n p)) = true := fun z => by unfold tK at h; rw [if_neg nz, if_pos z] at h; cases h
  have g : isG (B (tS B n p)) = true := Classical.byContradiction fun z => by
    unfold tK at h; rw [if_neg nz, if_neg nl, if_neg z] at h
    split at h <;> cases h
  have eE : tE B n p = rE isG B n (tS B n p) := by unfold tE; rw [if_neg nz, if_neg nl, if_pos g]
  have two : rE isG B n (tS B n p) - tS B n p ≤ 2 := Classical.byContradiction fun z => by
    unfold tK at h; rw [if_neg nz, if_neg nl, if_pos g, if_neg z] at h; cases h
  obtain ⟨q1, q2, q3, q4⟩ := rE_b (P := isG) (B := B) b
  have d0 := isG_iff.mp g
  unfold tV
  rw [eE]
  split
  · omega
  · rename_i z
    by_cases y : tS B n p + 1 < rE isG B n (tS B n p)
    · have d1 := isG_iff.mp (q3 (tS B n p + 1) (by omega) y)
      omega
    · exfalso
      have : tS B n p < rE isG B n (tS B n p) := by
        rw [rE_y (by omega) g]
        have := (rE_b (P := isG) (B := B) (n := n) (q := tS B n p + 1) (by omega)).1
        omega
      omega
end LINES
