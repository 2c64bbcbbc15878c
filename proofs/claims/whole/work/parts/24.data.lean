/-! WHAT IS TOLD, as both sides hold it: councils, runs, replies, all that is told -/
abbrev CD : Type := (Nat × Nat × Nat × Nat × Nat) × (Nat → Nat) × (Nat → Nat) × (Nat → Nat) × (Nat → Nat → Nat)
abbrev dF (D : CD) : Nat := D.1.1
abbrev dW (D : CD) : Nat := D.1.2.1
abbrev dS (D : CD) : Nat := D.1.2.2.1
abbrev dL (D : CD) : Nat := D.1.2.2.2.1
abbrev dN (D : CD) : Nat := D.1.2.2.2.2
abbrev dA (D : CD) : Nat → Nat := D.2.1
abbrev dO (D : CD) : Nat → Nat := D.2.2.1
abbrev dP (D : CD) : Nat → Nat := D.2.2.2.1
abbrev dD (D : CD) : Nat → Nat → Nat := D.2.2.2.2
def wfC (D : CD) : Prop := dF D ≤ 2 ∧ (1 ≤ dW D ∧ dW D ≤ 9) ∧ (1 ≤ dS D ∧ dS D ≤ 4) ∧ dL D < 2 ^ (3 * dF D + 1) ∧ dN D ≤ 10 ∧ (∀ i, i < 8 → dA D i < 100) ∧ (∀ j, j < dN D → dO D j < 8 ∧ dP D j < 100) ∧ ∀ a b, a < 7 → b < 7 → 1 ≤ dD D a b ∧ dD D a b ≤ 9
def cC (f : Hp) (c : Nat) (D : CD) : Prop := f c 0 = iN (dF D) ∧ f c 1 = iN (dW D) ∧ f c 2 = iN (dS D) ∧ f c 3 = iN (dL D) ∧ f c 4 = iN (dN D) ∧ (∀ i, i < 8 → f (c + 1) i = iN (dA D i)) ∧ (∀ j, j < dN D → f (c + 2) j = iN (dO D j) ∧ f (c + 3) j = iN (dP D j)) ∧ ∀ a b, a < 7 → b < 7 → f (c + 5 + a) b = iN (dD D a b)
def rC (f : Hp) (o : Nat) (D : CD) : Prop := f 401 o = iN (dF D) ∧ f 401 (o + 1) = iN (dW D) ∧ f 401 (o + 2) = iN (dS D) ∧ f 401 (o + 3) = iN (dL D) ∧ f 401 (o + 4) = iN (dN D) ∧ (∀ i, i < 8 → f 401 (o + 5 + i) = iN (dA D i)) ∧ (∀ j, j < dN D → f 401 (o + 13 + 2 * j) = iN (dO D j) ∧ f 401 (o + 14 + 2 * j) = iN (dP D j)) ∧ ∀ a b, a < 7 → b < 7 → f 401 (o + 33 + 7 * a + b) = iN (dD D a b)
abbrev RD : Type := Nat × (Nat → Nat) × (Nat → Nat) × (Nat → Int32) × (Nat → Int32)
def wfR (R : RD) : Prop := R.1 ≤ 40 ∧ ∀ k, k < R.1 → R.2.1 k ≤ 8 ∧ R.2.2.1 k ≤ 6 ∧ (R.2.1 k = 0 → (∃ p, 1 ≤ p ∧ p ≤ 12 ∧ R.2.2.2.1 k = iN p) ∧ ∃ o, o ≤ 9 ∧ R.2.2.2.2 k = iN o) ∧ (R.2.1 k = 1 ∨ R.2.1 k = 2 → (∃ b, b ≤ 6 ∧ R.2.2.2.1 k = iN b) ∧ ∃ p, 1 ≤ p ∧ p ≤ 12 ∧ R.2.2.2.2 k = iN p) ∧ (R.2.1 k = 4 ∨ R.2.1 k = 5 → ∃ b, b ≤ 6 ∧ R.2.2.2.1 k = iN b)
def cR (f : Hp) (r : Nat) (R : RD) : Prop := f r 0 = iN R.1 ∧ ∀ k, k < R.1 → f (r + 1) k = iN (R.2.1 k) ∧ f (r + 2) k = iN (R.2.2.1 k) ∧ f (r + 3) k = R.2.2.2.1 k ∧ f (r + 4) k = R.2.2.2.2 k
def rR (f : Hp) (o : Nat) (R : RD) : Prop := f 401 o = iN R.1 ∧ ∀ k, k < R.1 → f 401 (o + 1 + 4 * k) = iN (R.2.1 k) ∧ f 401 (o + 2 + 4 * k) = iN (R.2.2.1 k) ∧ f 401 (o + 3 + 4 * k) = R.2.2.2.1 k ∧ f 401 (o + 4 + 4 * k) = R.2.2.2.2 k
abbrev PD : Type := Nat × (Nat → Nat) × (Nat → Nat) × (Nat → Nat)
def wfP (R : PD) : Prop := R.1 ≤ 12 ∧ ∀ k, k < R.1 → R.2.1 k ≤ 6 ∧ R.2.2.1 k ≤ 9 ∧ R.2.2.2 k ≤ 99
def cP (f : Hp) (r : Nat) (R : PD) : Prop := f r 0 = iN R.1 ∧ ∀ k, k < R.1 → f (r + 1) k = iN (R.2.1 k) ∧ f (r + 2) k = iN (R.2.2.1 k) ∧ f (r + 3) k = iN (R.2.2.2 k)
def rP (f : Hp) (o : Nat) (R : PD) : Prop := f 401 o = iN R.1 ∧ ∀ k, k < R.1 → f 401 (o + 1 + 3 * k) = iN (R.2.1 k) ∧ f 401 (o + 2 + 3 * k) = iN (R.2.2.1 k) ∧ f 401 (o + 3 + 3 * k) = iN (R.2.2.2 k)
/-- all that is told: (tape's length, fault, its place, tape), how many of each sort, the texts -/
abbrev TD : Type := (Nat × Int32 × Int32 × (Nat → Nat)) × (Nat × Nat × Nat) × (Nat → CD) × (Nat → RD) × (Nat → PD)
def tZ (T : TD) (s : Nat) : Nat := if s = 0 then T.2.1.1 else if s = 1 then T.2.1.2.1 else T.2.1.2.2
def sgn (u : Nat) : Int32 := (iN u).toInt8.toInt32
def wfT (T : TD) : Prop := T.1.1 ≤ 600 ∧ (∀ i, i < 600 → T.1.2.2.2 i < 256) ∧ (∀ s, s < 3 → tZ T s ≤ 2) ∧ (∀ k, k < tZ T 0 → wfC (T.2.2.1 k)) ∧ (∀ k, k < tZ T 1 → wfR (T.2.2.2.1 k)) ∧ ∀ k, k < tZ T 2 → wfP (T.2.2.2.2 k)
def cT (f : Hp) (t : Nat) (T : TD) : Prop := f t 1 = iN T.1.1 ∧ f t 2 = T.1.2.1 ∧ f t 3 = T.1.2.2.1 ∧ (∀ i, i < 600 → f (t + 1) i = sgn (T.1.2.2.2 i)) ∧ (∀ s, s < 3 → f (t + 2) s = iN (tZ T s)) ∧ (∀ k, k < tZ T 0 → cC f (t + 6 + 21 * k) (T.2.2.1 k)) ∧ (∀ k, k < tZ T 1 → cR f (t + 18 + 21 * k) (T.2.2.2.1 k)) ∧ ∀ k, k < tZ T 2 → cP f (t + 23 + 21 * k) (T.2.2.2.2 k)
def rT (f : Hp) (o : Nat) (T : TD) : Prop := f 401 (o + 4) = iN T.1.1 ∧ f 401 (o + 5) = T.1.2.1 ∧ f 401 (o + 6) = T.1.2.2.1 ∧ (∀ i, i < 600 → f 401 (o + 10 + i) = iN (T.1.2.2.2 i)) ∧ (∀ s, s < 3 → f 401 (o + s) = iN (tZ T s)) ∧ (∀ k, k < tZ T 0 → rC f (o + 610 + 82 * k) (T.2.2.1 k)) ∧ (∀ k, k < tZ T 1 → rR f (o + 774 + 161 * k) (T.2.2.2.1 k)) ∧ ∀ k, k < tZ T 2 → rP f (o + 1096 + 37 * k) (T.2.2.2.2 k)
def Img (f : Hp) (k : Nat) : Prop := (f 50 k = 0 ∧ f 402 k = 0) ∨ (f 50 k = 1 ∧ f 402 k = 1 ∧ ∃ T, wfT T ∧ cT f (256 + 48 * k) T ∧ rT f (1170 + 1170 * k) T)
def Inv (f : Hp) : Prop := (∃ T, wfT T ∧ cT f 1 T ∧ rT f 0 T) ∧ ∀ k, k < 3 → Img f k
/-- only the class's own rows for work have changed; only the reference's -/
def FrC (f g : Hp) : Prop := ∀ a, a < 51 ∨ 256 ≤ a → g a = f a
def FrR (f g : Hp) : Prop := ∀ a, a < 400 ∨ a = 401 ∨ a = 402 → g a = f a
theorem FrC.refl (f : Hp) : FrC f f := fun _ _ => rfl
theorem FrR.refl (f : Hp) : FrR f f := fun _ _ => rfl
theorem FrC.trans {f g h : Hp} (h1 : FrC f g) (h2 : FrC g h) : FrC f h := fun a ha => (h2 a ha).trans (h1 a ha)
theorem FrR.trans {f g h : Hp} (h1 : FrR f g) (h2 : FrR g h) : FrR f h := fun a ha => (h2 a ha).trans (h1 a ha)
theorem FrC.put {f g : Hp} {a k : Nat} {v : Int32} (h : FrC f g) (ha : 51 ≤ a ∧ a < 256) : FrC f (xu g a k v) := fun b hb => by rw [xu_a (by omega)]; exact h b hb
theorem FrC.row {f g : Hp} {a : Nat} {r : Nat → Int32} (h : FrC f g) (ha : 51 ≤ a ∧ a < 256) : FrC f (xuc g a r) := fun b hb => by rw [xuc_a (by omega)]; exact h b hb
theorem FrR.put {f g : Hp} {a k : Nat} {v : Int32} (h : FrR f g) (ha : 400 ≤ a ∧ ¬ a = 401 ∧ ¬ a = 402) : FrR f (xu g a k v) := fun b hb => by rw [xu_a (by omega)]; exact h b hb
theorem FrR.row {f g : Hp} {a : Nat} {r : Nat → Int32} (h : FrR f g) (ha : 400 ≤ a ∧ ¬ a = 401 ∧ ¬ a = 402) : FrR f (xuc g a r) := fun b hb => by rw [xuc_a (by omega)]; exact h b hb
theorem cC.fr {f g : Hp} {c : Nat} {D : CD} (h : cC f c D) (e : ∀ a, c ≤ a → a < c + 12 → g a = f a) : cC g c D := by
  obtain ⟨h1, h2, h3, h4, h5, h6, h7, h8⟩ := h
  unfold cC
  rw [e c (by omega) (by omega), e (c + 1) (by omega) (by omega), e (c + 2) (by omega) (by omega), e (c + 3) (by omega) (by omega)]
  exact ⟨h1, h2, h3, h4, h5, h6, h7, fun a b ha hb => by rw [e (c + 5 + a) (by omega) (by omega)]; exact h8 a b ha hb⟩
theorem cR.fr {f g : Hp} {c : Nat} {D : RD} (h : cR f c D) (e : ∀ a, c ≤ a → a < c + 5 → g a = f a) : cR g c D := by
  unfold cR
  rw [e c (by omega) (by omega), e (c + 1) (by omega) (by omega), e (c + 2) (by omega) (by omega), e (c + 3) (by omega) (by omega), e (c + 4) (by omega) (by omega)]
  exact h
theorem cP.fr {f g : Hp} {c : Nat} {D : PD} (h : cP f c D) (e : ∀ a, c ≤ a → a < c + 4 → g a = f a) : cP g c D := by
  unfold cP
  rw [e c (by omega) (by omega), e (c + 1) (by omega) (by omega), e (c + 2) (by omega) (by omega), e (c + 3) (by omega) (by omega)]
  exact h
theorem rC.fr {f g : Hp} {o : Nat} {D : CD} (h : rC f o D) (e : g 401 = f 401) : rC g o D := by unfold rC; rw [e]; exact h
theorem rR.fr {f g : Hp} {o : Nat} {D : RD} (h : rR f o D) (e : g 401 = f 401) : rR g o D := by unfold rR; rw [e]; exact h
theorem rP.fr {f g : Hp} {o : Nat} {D : PD} (h : rP f o D) (e : g 401 = f 401) : rP g o D := by unfold rP; rw [e]; exact h
theorem rT.fr {f g : Hp} {o : Nat} {T : TD} (h : rT f o T) (e : g 401 = f 401) : rT g o T := by
  obtain ⟨h1, h2, h3, h4, h5, h6, h7, h8⟩ := h
  unfold rT
  rw [e]
  exact ⟨h1, h2, h3, h4, h5, fun k hk => (h6 k hk).fr e, fun k hk => (h7 k hk).fr e, fun k hk => (h8 k hk).fr e⟩
theorem cT.fr {f g : Hp} {t : Nat} {T : TD} (w : wfT T) (h : cT f t T) (e : ∀ a, t ≤ a → a < t + 48 → g a = f a) : cT g t T := by
  obtain ⟨h1, h2, h3, h4, h5, h6, h7, h8⟩ := h
  obtain ⟨w1, w2, w3, w4⟩ := w
  have z0 := w3 0 (by omega)
  have z1 := w3 1 (by omega)
  have z2 := w3 2 (by omega)
  unfold cT
  rw [e t (by omega) (by omega), e (t + 1) (by omega) (by omega), e (t + 2) (by omega) (by omega)]
  exact ⟨h1, h2, h3, h4, h5, fun k hk => (h6 k hk).fr fun a h1 h2 => e a (by omega) (by omega), fun k hk => (h7 k hk).fr fun a h1 h2 => e a (by omega) (by omega), fun k hk => (h8 k hk).fr fun a h1 h2 => e a (by omega) (by omega)⟩
theorem Inv.fr {f g : Hp} (h : Inv f) (e : ∀ a, a < 51 ∨ (256 ≤ a ∧ a < 400) ∨ a = 401 ∨ a = 402 → g a = f a) : Inv g := by
  obtain ⟨⟨T, w, h1, h2⟩, h3⟩ := h
  refine ⟨⟨T, w, h1.fr w fun a p q => e a (by omega), h2.fr (e 401 (by omega))⟩, fun k hk => ?_⟩
  rcases h3 k hk with ⟨p, q⟩ | ⟨p, q, T, w, h1, h2⟩
  · exact Or.inl ⟨by rw [e 50 (by omega)]; exact p, by rw [e 402 (by omega)]; exact q⟩
  · exact Or.inr ⟨by rw [e 50 (by omega)]; exact p, by rw [e 402 (by omega)]; exact q, T, w, h1.fr w fun a p q => e a (by omega), h2.fr (e 401 (by omega))⟩
theorem Inv.q {f g h : Hp} (i : Inv f) (h1 : FrC f g) (h2 : FrR g h) : Inv h := i.fr fun a ha => by rw [h2 a (by omega), h1 a (by omega)]
section BASE
variable {L : Nat} {xs : Nat → Int32} {f : Hp} {Q : Int32 → Hp → Prop}
theorem c_has {t s n : Nat} {k : Int32} (kt : xS0 L t = (10, 0)) (hs : s < 3) (hz : f (t + 2) s = iN n) (hn : n ≤ 2) (h1 : ∀ j, j < n → k = iN j → Q 1 f) (h0 : (∀ j, j < n → ¬ k = iN j) → Q 0 f) : CI L xs xm_To_has [.ref t, .int (iN s), .int k] f Q := by
  refine t_To_has_0 kt (brF (iN_nn (by omega)) (brT ((iN_lt (b := 3) (by omega) (by omega)).mpr hs) ⟨fun p => h0 fun j hj e => ?_, fun p => ⟨fun p2 => ⟨s, rfl, hs, ?_, ?_⟩, fun p2 => h0 fun j hj e => ?_⟩⟩))
  · subst e; exact iN_nn (by omega) p
  · intro p3
    rw [hz] at p3
    obtain ⟨j, hj, e⟩ := iN_ex (by omega) p p3
    exact h1 j hj e
  · intro p3
    refine h0 fun j hj e => p3 ?_
    rw [hz, e, iN_lt (by omega) (by omega)]
    exact hj
  · subst e
    exact p2 ((iN_lt (b := 2) (by omega) (by omega)).mpr (by omega))
theorem r_isIn {x : Int32} {a b : Nat} (ha : a < 2147483648) (hb : b < 2147483648) (h1 : ∀ j, a ≤ j → j ≤ b → x = iN j → Q 1 f) (h0 : (∀ j, a ≤ j → j ≤ b → ¬ x = iN j) → Q 0 f) : CI L xs xm_Mo_isIn [.int x, .int (iN a), .int (iN b)] f Q := by
  refine t_Mo_isIn_0 ⟨fun p => h0 fun j p1 p2 e => ?_, fun p => ⟨fun p2 => h0 fun j p3 p4 e => ?_, fun p2 => ?_⟩⟩
  · subst e
    rw [iN_lt (by omega) (by omega)] at p
    omega
  · subst e
    rw [iN_lt (by omega) (by omega)] at p2
    omega
  · rw [Int32.lt_iff_toInt_lt, iN_toInt ha] at p
    rw [Int32.lt_iff_toInt_lt, iN_toInt hb] at p2
    refine h1 x.toInt.toNat (by omega) (by omega) ?_
    rw [← Int32.toInt_inj, iN_toInt (by omega)]
    omega
/-- the bound may be one too low: there is none then -/
theorem r_isIn0 {x y : Int32} {n : Nat} (hn : n < 2147483648) (hy : y = iN n - 1) (h1 : ∀ j, j < n → x = iN j → Q 1 f) (h0 : (∀ j, j < n → ¬ x = iN j) → Q 0 f) : CI L xs xm_Mo_isIn [.int x, .int 0, .int y] f Q := by
  subst hy
  by_cases z : n = 0
  · subst z
    refine t_Mo_isIn_0 ⟨fun p => h0 fun j p1 => absurd p1 (by omega), fun p => ⟨fun p2 => h0 fun j p1 => absurd p1 (by omega), fun p2 => ?_⟩⟩
    exfalso
    rw [Int32.lt_iff_toInt_lt] at p p2
    have e1 : (iN 0 - 1).toInt = -1 := by decide
    have e2 : (0 : Int32).toInt = 0 := by decide
    rw [e1] at p2
    rw [e2] at p
    omega
  · have e : iN n - 1 = iN (n - 1) := iN_sub (b := 1) (by omega)
    rw [e]
    exact r_isIn (a := 0) (by omega) (by omega) (fun j _ hj => h1 j (by omega)) fun q => h0 fun j hj => q j (by omega) (by omega)
theorem r_isOf {s n : Nat} {k : Int32} (hs : s < 3) (hz : f 401 s = iN n) (hn : n ≤ 2) (h1 : ∀ j, j < n → k = iN j → Q 1 f) (h0 : (∀ j, j < n → ¬ k = iN j) → Q 0 f) : CI L xs xm_Mo_isOf [.ref 400, .int (iN s), .int k] f Q := by
  refine t_Mo_isOf_0 ⟨s, rfl, by omega, r_isIn0 (n := n) (by omega) (by rw [hz]) (fun j hj e => ⟨Or.inr rfl, h1 j hj e⟩) fun q => ⟨Or.inl rfl, h0 q⟩⟩
end BASE
