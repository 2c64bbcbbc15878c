/-! the reference's next token -/
def cdN (B : Nat → Nat) (s : Nat) : Nat → Nat
  | 0 => 0
  | d + 1 => 32 * cdN B s d + (B (s + d) - 96)
theorem cdN_s (B : Nat → Nat) (s d : Nat) : cdN B s (d + 1) = 32 * cdN B s d + (B (s + d) - 96) := rfl
def wI (B : Nat → Nat) (s e : Nat) : Nat := if 8 < e - s then 99 else wix (cdN B s (e - s))
def rK (k w : Nat) : Nat := if k = 1 then (if w = 99 then 4 else 3) else if k = 2 then 1 else if k = 3 then 2 else k
theorem cdN_lt {B : Nat → Nat} {s : Nat} : ∀ d, (∀ i, s ≤ i → i < s + d → isL (B i) = true) → cdN B s d < 32 ^ d
  | 0, _ => by unfold cdN; omega
  | d + 1, h => by
    have ih := cdN_lt d fun i a b => h i a (by omega)
    have := isL_iff.mp (h (s + d) (by omega) (by omega))
    rw [cdN_s, Nat.pow_succ]
    omega
section ADV
variable {L : Nat} {xs : Nat → Int32} {f g : Hp} {B : Nat → Nat} {n : Nat}
def rB (f : Hp) (B : Nat → Nat) (n : Nat) : Prop := n ≤ 600 ∧ f 400 2 = iN n ∧ ∀ i, i < 600 → B i < 256 ∧ f 401 (10 + i) = iN (B i)
def Fr5 (f g : Hp) : Prop := (∀ x, ¬ x = 400 → g x = f x) ∧ ∀ j, ¬ (3 ≤ j ∧ j ≤ 7) → g 400 j = f 400 j
theorem Fr5.refl (f : Hp) : Fr5 f f := ⟨fun _ _ => rfl, fun _ _ => rfl⟩
theorem Fr5.trans {f g h : Hp} (a : Fr5 f g) (b : Fr5 g h) : Fr5 f h := ⟨fun x hx => by rw [b.1 x hx, a.1 x hx], fun j hj => by rw [b.2 j hj, a.2 j hj]⟩
theorem Fr5.put {k : Nat} {v : Int32} (a : Fr5 f g) (hk : 3 ≤ k ∧ k ≤ 7) : Fr5 f (xu g 400 k v) := ⟨fun x hx => by rw [xu_a hx, a.1 x hx], fun j hj => by rw [xu_k (by omega), a.2 j hj]⟩
theorem rB.fr (h : rB f B n) (e : Fr5 f g) : rB g B n := ⟨h.1, by rw [e.2 2 (by omega)]; exact h.2.1, fun i hi => by rw [e.1 401 (by omega)]; exact h.2.2 i hi⟩
theorem r_byte {Q : Int32 → Hp → Prop} {p : Nat} (c : rB f B n) (hp : p ≤ 600) (h1 : p < n → Q (iN (B p)) f) (h0 : ¬ p < n → Q (-1) f) : CI L xs xm_Mo_byteAt [.ref 400, .int (iN p)] f Q := by
  have h6 := c.1
  refine t_Mo_byteAt_0 ?_
  rw [c.2.1, iN_lt (by omega) (by omega)]
  refine ⟨fun z => ⟨10 + p, by simp only [lit, iN_add], by omega, ?_⟩, h0⟩
  rw [(c.2.2 p (by omega)).2]; exact h1 z
theorem r_letN {Q : Int32 → Hp → Prop} (h0 : Q 0 f) : CI L xs xm_Mo_isLetter [.int (-1)] f Q := t_Mo_isLetter_0 (brT (by decide) h0)
theorem r_digN {Q : Int32 → Hp → Prop} (h0 : Q 0 f) : CI L xs xm_Mo_isDigit [.int (-1)] f Q := t_Mo_isDigit_0 (brT (by decide) h0)
theorem r_adW {Q : Hp → Prop} {f0 : Hp} {s : Nat} {x1 : Int32} (kk : ∀ g e, Fr5 f0 g → g 400 4 = iN s → g 400 3 = iN e → e = rE isL B n s → g 400 7 = iN (wI B s e) → g 400 5 = iN (if wI B s e = 99 then 4 else 3) → Q g) (c0 : rB f0 B n) : ∀ k q (f : Hp), Fr5 f0 f → f 400 4 = iN s → f 400 3 = iN q → s ≤ q → (∀ i, s ≤ i → i < q → isL (B i) = true) → n - q = k → q ≤ n → rE isL B n q = rE isL B n s → Wp L xs xm_Mo_advance 77 [.ref 400, .int x1, .long (qN (cdN B s (min (q - s) 8))), .retAddr 0] [] f (QV Q)
  | k, q, f, fr, h4, h3, hs, hl, hk, hq, he => by
    have c := c0.fr fr
    have h6 := c.1
    have cl : cdN B s (min (q - s) 8) < 1099511627776 := by
      have := cdN_lt (B := B) (s := s) (min (q - s) 8) fun i a b => hl i a (by omega)
      exact Nat.lt_of_lt_of_le this (Nat.le_trans (Nat.pow_le_pow_right (by omega) (show min (q - s) 8 ≤ 8 by omega)) (by decide))
    have stop : rE isL B n q = q → ((8 < ((f 400 3) - (f 400 4)) → Wp L xs xm_Mo_advance 162 [.ref 400, .int x1, .long (qN (cdN B s (min (q - s) 8))), .retAddr 0] [.int 99, .ref 400] f (QV Q)) ∧ (¬ 8 < ((f 400 3) - (f 400 4)) → CI L xs xm_Mo_wordOf [.long (qN (cdN B s (min (q - s) 8)))] f (fun v3 g3 => Wp L xs xm_Mo_advance 162 [.ref 400, .int x1, .long (qN (cdN B s (min (q - s) 8))), .retAddr 0] [.int v3, .ref 400] g3 (QV Q)))) := fun e => by
      have ee : q = rE isL B n s := by rw [← he, e]
      have fin : ∀ w, w = wI B s q → Wp L xs xm_Mo_advance 162 [.ref 400, .int x1, .long (qN (cdN B s (min (q - s) 8))), .retAddr 0] [.int (iN w), .ref 400] f (QV Q) := fun w hw => by
        have wl : w ≤ 99 := by
          rw [hw]; unfold wI
          split
          · omega
          · unfold wix
            have : ∀ k i c, i + k ≤ 17 → wxN c k i ≤ 99 := fun k => by
              induction k with
              | zero => intro i c _; exact Nat.le_refl _
              | succ k ih =>
                intro i c h
                rw [wxN_s]
                split
                · omega
                · exact ih (i + 1) c (by omega)
            exact this 17 0 _ (by omega)
        refine t_Mo_advance_162 fun g1 e1 => ?_
        have x7 : g1 400 7 = iN w := by rw [e1, xu_eq]
        rw [x7]
        by_cases z : w = 99
        · refine brT (by rw [z]; rfl) fun g3 e3 => ?_
          subst e3 e1
          exact kk _ q ((fr.put (by omega)).put (by omega)) (by rw [xu_k (by omega), xu_k (by omega)]; exact h4) (by rw [xu_k (by omega), xu_k (by omega)]; exact h3) ee (by rw [xu_k (by omega), xu_eq, hw]) (by rw [xu_eq, ← hw, if_pos z]; rfl)
        · refine brF (fun y => z ((iN_inj (b := 99) (by omega) (by omega)).mp y)) fun g3 e3 => ?_
          subst e3 e1
          exact kk _ q ((fr.put (by omega)).put (by omega)) (by rw [xu_k (by omega), xu_k (by omega)]; exact h4) (by rw [xu_k (by omega), xu_k (by omega)]; exact h3) ee (by rw [xu_k (by omega), xu_eq, hw]) (by rw [xu_eq, ← hw, if_neg z]; rfl)
      rw [h3, h4, iN_sub hs, show (8 < iN (q - s) ↔ 8 < q - s) from iN_lt (a := 8) (by omega) (by omega)]
      refine ⟨fun z => fin 99 (by unfold wI; rw [if_pos z]), fun z => r_wordOf cl (fin _ ?_)⟩
      unfold wI
      rw [if_neg z, Nat.min_eq_left (by omega)]
    refine t_Mo_advance_77 ?_
    rw [h3]
    by_cases z : q < n
    · obtain ⟨b1, b2⟩ := c.2.2 q (by omega)
      refine r_byte c (by omega) (fun _ => r_isLet b1 (fun y => br1 ?_) fun y => br0 (stop (rE_n y))) fun u => absurd z u
      have yb := isL_iff.mp y
      rw [h3, h4, iN_sub hs, show (iN (q - s) < 8 ↔ q - s < 8) from iN_lt (b := 8) (by omega) (by omega)]
      have nx : ∀ g6, g6 = xu f 400 3 (iN (q + 1)) → Wp L xs xm_Mo_advance 77 [.ref 400, .int x1, .long (qN (cdN B s (min (q + 1 - s) 8))), .retAddr 0] [] g6 (QV Q) := fun g6 e6 => by
        refine r_adW kk c0 (k - 1) (q + 1) g6 (by rw [e6]; exact fr.put (by omega)) (by rw [e6, xu_k (by omega)]; exact h4) (by rw [e6, xu_eq]) (by omega) (fun i a b => ?_) (by omega) (by omega) (by rw [← he, rE_y z y])
        by_cases v : i = q
        · rw [v]; exact y
        · exact hl i a (by omega)
      refine ⟨fun u => r_byte c (by omega) (fun _ g6 e6 => ?_) fun u => absurd z u, fun u g4 e4 => ?_⟩
      · rw [h3, iN_inc] at e6
        rw [qN_b (B q) b1, show (32 : Int64) = qN 32 from rfl, qN_mul, qN_add, show (96 : Int64) = qN 96 from rfl, qN_sub (by omega)]
        have := nx g6 e6
        rw [show min (q + 1 - s) 8 = min (q - s) 8 + 1 by omega, cdN_s, show s + min (q - s) 8 = q by omega] at this
        rw [show 32 * cdN B s (min (q - s) 8) + B q - 96 = 32 * cdN B s (min (q - s) 8) + (B q - 96) by omega]
        exact this
      · rw [iN_inc] at e4
        have := nx g4 e4
        rw [show min (q + 1 - s) 8 = min (q - s) 8 by omega] at this
        exact this
    · exact r_byte c (by omega) (fun u => absurd u z) fun _ => r_letN (br0 (stop (rE_z (by omega))))
  termination_by k q => n - q
end ADV
