/-! TOKENS: what both readers see at a place of the bytes -/
def isL (b : Nat) : Bool := decide (97 ≤ b) && decide (b ≤ 122)
def isG (b : Nat) : Bool := decide (48 ≤ b) && decide (b ≤ 57)
def isW (b : Nat) : Bool := b == 32 || b == 10
def rnP (P : Nat → Bool) (B : Nat → Nat) : Nat → Nat → Nat
  | 0, q => q
  | k + 1, q => if P (B q) = true then rnP P B k (q + 1) else q
theorem rnP_s (P : Nat → Bool) (B : Nat → Nat) (k q : Nat) : rnP P B (k + 1) q = if P (B q) = true then rnP P B k (q + 1) else q := rfl
/-- the end of the run that begins at q -/
def rE (P : Nat → Bool) (B : Nat → Nat) (n q : Nat) : Nat := rnP P B (n - q) q
theorem rE_y {P : Nat → Bool} {B : Nat → Nat} {n q : Nat} (h : q < n) (p : P (B q) = true) : rE P B n q = rE P B n (q + 1) := by
  unfold rE
  rw [show n - q = (n - (q + 1)) + 1 by omega, rnP_s, if_pos p]
theorem rE_n {P : Nat → Bool} {B : Nat → Nat} {n q : Nat} (p : ¬ P (B q) = true) : rE P B n q = q := by
  unfold rE
  cases n - q with
  | zero => rfl
  | succ k => rw [rnP_s, if_neg p]
theorem rE_z {P : Nat → Bool} {B : Nat → Nat} {n q : Nat} (h : n ≤ q) : rE P B n q = q := by
  unfold rE
  rw [show n - q = 0 by omega]; rfl
theorem rnP_b (P : Nat → Bool) (B : Nat → Nat) : ∀ k q, q ≤ rnP P B k q ∧ rnP P B k q ≤ q + k ∧ (∀ i, q ≤ i → i < rnP P B k q → P (B i) = true) ∧ (rnP P B k q < q + k → ¬ P (B (rnP P B k q)) = true)
  | 0, q => ⟨Nat.le_refl _, Nat.le_refl _, fun i a b => absurd b (by unfold rnP; omega), fun h => absurd h (by unfold rnP; omega)⟩
  | k + 1, q => by
    rw [rnP_s]
    by_cases z : P (B q) = true
    · rw [if_pos z]
      obtain ⟨a, b, c, d⟩ := rnP_b P B k (q + 1)
      refine ⟨by omega, by omega, fun i p r => ?_, fun h => d (by omega)⟩
      by_cases y : i = q
      · rw [y]; exact z
      · exact c i (by omega) r
    · rw [if_neg z]
      exact ⟨Nat.le_refl _, by omega, fun i a b => absurd b (by omega), fun _ => z⟩
theorem rE_b {P : Nat → Bool} {B : Nat → Nat} {n q : Nat} (h : q ≤ n) : q ≤ rE P B n q ∧ rE P B n q ≤ n ∧ (∀ i, q ≤ i → i < rE P B n q → P (B i) = true) ∧ (rE P B n q < n → ¬ P (B (rE P B n q)) = true) := by
  obtain ⟨a, b, c, d⟩ := rnP_b P B (n - q) q
  unfold rE
  exact ⟨a, by omega, c, fun h => d (by omega)⟩
/-- start, kind (0 end, 1 word, 2 number, 3 semicolon, 4 else), end, value -/
def tS (B : Nat → Nat) (n p : Nat) : Nat := rE isW B n p
def tE (B : Nat → Nat) (n p : Nat) : Nat := if n ≤ tS B n p then tS B n p else if isL (B (tS B n p)) = true then rE isL B n (tS B n p) else if isG (B (tS B n p)) = true then rE isG B n (tS B n p) else tS B n p + 1
def tK (B : Nat → Nat) (n p : Nat) : Nat := if n ≤ tS B n p then 0 else if isL (B (tS B n p)) = true then 1 else if isG (B (tS B n p)) = true then (if rE isG B n (tS B n p) - tS B n p ≤ 2 then 2 else 4) else if B (tS B n p) = 59 then 3 else 4
def tV (B : Nat → Nat) (n p : Nat) : Nat := if tE B n p - tS B n p = 1 then B (tS B n p) - 48 else 10 * (B (tS B n p) - 48) + (B (tS B n p + 1) - 48)
theorem tS_le {B : Nat → Nat} {n p : Nat} (h : p ≤ n) : p ≤ tS B n p ∧ tS B n p ≤ n := ⟨(rE_b h).1, (rE_b h).2.1⟩
theorem tE_le {B : Nat → Nat} {n p : Nat} (h : p ≤ n) : tS B n p ≤ tE B n p ∧ tE B n p ≤ n := by
  obtain ⟨a, b⟩ := tS_le (B := B) h
  unfold tE
  split
  · omega
  · split
    · exact ⟨(rE_b b).1, (rE_b b).2.1⟩
    · split
      · exact ⟨(rE_b b).1, (rE_b b).2.1⟩
      · omega
theorem sgn_ok : ∀ b, b < 256 → (sgn b = 32 ↔ b = 32) ∧ (sgn b = 10 ↔ b = 10) ∧ (sgn b = 59 ↔ b = 59) ∧ (isL b = true → sgn b = iN b) ∧ (isG b = true → sgn b = iN b) ∧ ((¬ sgn b < 97 ∧ ¬ 122 < sgn b) ↔ isL b = true) ∧ ((¬ sgn b < 48 ∧ ¬ 57 < sgn b) ↔ isG b = true) := by decide +kernel
theorem iN_ok : ∀ b, b < 256 → (iN b = 32 ↔ b = 32) ∧ (iN b = 10 ↔ b = 10) ∧ (iN b = 59 ↔ b = 59) ∧ ((¬ iN b < 97 ∧ ¬ 122 < iN b) ↔ isL b = true) ∧ ((¬ iN b < 48 ∧ ¬ 57 < iN b) ↔ isG b = true) := by decide +kernel
theorem isW_iff {b : Nat} : isW b = true ↔ b = 10 ∨ b = 32 := by
  unfold isW
  rw [Bool.or_eq_true, beq_iff_eq, beq_iff_eq]
  exact or_comm
section SCAN
variable {L : Nat} {xs : Nat → Int32} {f g : Hp} {B : Nat → Nat} {n : Nat}
theorem c_isLet {Q : Int32 → Hp → Prop} {b : Nat} (hb : b < 256) (h1 : isL b = true → Q 1 f) (h0 : ¬ isL b = true → Q 0 f) : CI L xs xm_Re_isLetter [.int (sgn b)] f Q := by
  have s := (sgn_ok b hb).2.2.2.2.2.1
  exact t_Re_isLetter_0 ⟨fun p => h0 fun z => (s.mpr z).1 p, fun p => ⟨fun p2 => h0 fun z => (s.mpr z).2 p2, fun p2 => h1 (s.mp ⟨p, p2⟩)⟩⟩
theorem c_isDig {Q : Int32 → Hp → Prop} {b : Nat} (hb : b < 256) (h1 : isG b = true → Q 1 f) (h0 : ¬ isG b = true → Q 0 f) : CI L xs xm_Re_isDigit [.int (sgn b)] f Q := by
  have s := (sgn_ok b hb).2.2.2.2.2.2
  exact t_Re_isDigit_0 ⟨fun p => h0 fun z => (s.mpr z).1 p, fun p => ⟨fun p2 => h0 fun z => (s.mpr z).2 p2, fun p2 => h1 (s.mp ⟨p, p2⟩)⟩⟩
theorem r_isLet {Q : Int32 → Hp → Prop} {b : Nat} (hb : b < 256) (h1 : isL b = true → Q 1 f) (h0 : ¬ isL b = true → Q 0 f) : CI L xs xm_Mo_isLetter [.int (iN b)] f Q := by
  have s := (iN_ok b hb).2.2.2.1
  exact t_Mo_isLetter_0 ⟨fun p => h0 fun z => (s.mpr z).1 p, fun p => ⟨fun p2 => h0 fun z => (s.mpr z).2 p2, fun p2 => h1 (s.mp ⟨p, p2⟩)⟩⟩
theorem r_isDig {Q : Int32 → Hp → Prop} {b : Nat} (hb : b < 256) (h1 : isG b = true → Q 1 f) (h0 : ¬ isG b = true → Q 0 f) : CI L xs xm_Mo_isDigit [.int (iN b)] f Q := by
  have s := (iN_ok b hb).2.2.2.2
  exact t_Mo_isDigit_0 ⟨fun p => h0 fun z => (s.mpr z).1 p, fun p => ⟨fun p2 => h0 fun z => (s.mpr z).2 p2, fun p2 => h1 (s.mp ⟨p, p2⟩)⟩⟩
/-- the class's reader over these bytes -/
def cB (f : Hp) (B : Nat → Nat) (n : Nat) : Prop := n ≤ 600 ∧ f 51 6 = iN n ∧ ∀ i, i < 600 → B i < 256 ∧ f 73 i = sgn (B i)
/-- only the token's own numbers change -/
def Fr7 (f g : Hp) : Prop := (∀ x, ¬ x = 51 → g x = f x) ∧ ∀ j, ¬ (7 ≤ j ∧ j ≤ 10) → g 51 j = f 51 j
theorem Fr7.refl (f : Hp) : Fr7 f f := ⟨fun _ _ => rfl, fun _ _ => rfl⟩
theorem Fr7.trans {f g h : Hp} (a : Fr7 f g) (b : Fr7 g h) : Fr7 f h := ⟨fun x hx => by rw [b.1 x hx, a.1 x hx], fun j hj => by rw [b.2 j hj, a.2 j hj]⟩
theorem Fr7.put {k : Nat} {v : Int32} (a : Fr7 f g) (hk : 7 ≤ k ∧ k ≤ 10) : Fr7 f (xu g 51 k v) := ⟨fun x hx => by rw [xu_a hx, a.1 x hx], fun j hj => by rw [xu_k (by omega), a.2 j hj]⟩
theorem cB.fr (h : cB f B n) (e : Fr7 f g) : cB g B n := ⟨h.1, by rw [e.2 6 (by omega)]; exact h.2.1, fun i hi => by rw [e.1 73 (by omega)]; exact h.2.2 i hi⟩
theorem c_skip {Q : Hp → Prop} (c : cB f B n) : ∀ k p, n - p = k → p ≤ n → Wp L xs xm_Re_next 41 [.ref 51, .int (iN (tS B n p))] [] f (QV Q) → Wp L xs xm_Re_next 5 [.ref 51, .int (iN p)] [] f (QV Q)
  | 0, p, hk, hp, kk => by
    have h6 := c.1
    have e : tS B n p = p := rE_z (by omega)
    rw [e] at kk
    refine t_Re_next_5 ?_
    rw [c.2.1]
    exact brF (fun z => absurd ((iN_lt (b := _) (by omega) (by omega)).mp z) (by omega)) kk
  | k + 1, p, hk, hp, kk => by
    have h6 := c.1
    obtain ⟨b1, b2⟩ := c.2.2 p (by omega)
    obtain ⟨s1, s2, -⟩ := sgn_ok _ b1
    refine t_Re_next_5 ?_
    rw [c.2.1]
    refine brT ((iN_lt (b := _) (by omega) (by omega)).mpr (by omega)) ⟨p, rfl, by omega, ?_⟩
    rw [b2, iN_inc]
    by_cases z : isW (B p) = true
    · have e : tS B n p = tS B n (p + 1) := rE_y (by omega) z
      rw [e] at kk
      have K := c_skip c k (p + 1) (by omega) (by omega) kk
      refine ⟨fun _ => K, fun q => brT (s2.mpr ((isW_iff.mp z).resolve_right fun y => q (s1.mpr y))) K⟩
    · have e : tS B n p = p := rE_n z
      rw [e] at kk
      exact brF (fun y => z (isW_iff.mpr (Or.inr (s1.mp y)))) (brF (fun y => z (isW_iff.mpr (Or.inl (s2.mp y)))) kk)
theorem c_readWord {Q : Hp → Prop} {f0 : Hp} {q0 : Nat} (kk : ∀ g, Fr7 f0 g → g 51 8 = f0 51 8 → ∀ e, g 51 9 = iN e → g 51 7 = 1 → e = rE isL B n q0 → Q g) (c0 : cB f0 B n) : ∀ k q (f : Hp), Fr7 f0 f → f 51 8 = f0 51 8 → f 51 9 = iN q → n - q = k → q ≤ n → rE isL B n q = rE isL B n q0 → CV L xs xm_Re_readWord [.ref 51] f Q
  | k, q, f, fr, h8, h9, hk, hq, he => by
    have c := c0.fr fr
    have h6 := c.1
    have stop : rE isL B n q = q → Q (xu f 51 7 1) := fun e => kk _ (fr.put (by omega)) (by rw [xu_k (by omega)]; exact h8) q (by rw [xu_k (by omega)]; exact h9) xu_eq (by rw [← he, e])
    refine t_Re_readWord_0 ?_
    rw [h9, c.2.1]
    by_cases z : q < n
    · obtain ⟨b1, b2⟩ := c.2.2 q (by omega)
      refine brT ((iN_lt (b := _) (by omega) (by omega)).mpr (by omega)) ⟨q, rfl, by omega, ?_⟩
      rw [b2]
      refine c_isLet b1 (fun y => br1 fun g4 e4 => ?_) fun y => br0 fun g3 e3 => ?_
      · rw [h9, iN_inc] at e4
        subst e4
        exact c_readWord kk c0 (k - 1) (q + 1) _ (fr.put (by omega)) (by rw [xu_k (by omega)]; exact h8) xu_eq (by omega) (by omega) (by rw [← he, rE_y z y])
      · subst e3
        exact stop (rE_n y)
    · refine brF (fun z => absurd ((iN_lt (b := _) (by omega) (by omega)).mp z) (by omega)) fun g1 e1 => ?_
      subst e1
      exact stop (rE_z (by omega))
  termination_by k q => n - q
end SCAN
