/-! a line, read by the class: the loop -/
section LINES2
variable {L : Nat} {xs : Nat → Int32} {B : Nat → Nat} {n : Nat} {X : DT}
def fF (B : Nat → Nat) (n p i : Nat) (F : FT) (X : DT) : FT := if fulX i X = true then nt F 3 (tS B n p) else F
theorem lin_no {t p : Nat} {F : FT} (h : ¬ (tK B n p = 1 ∧ lo3 t < wI B (tS B n p) (tE B n p) ∧ wI B (tS B n p) (tE B n p) ≤ lo3 (t + 1))) : lin B n t p F X = (false, p, F, X) := if_neg h
theorem lin_t {t p i p' : Nat} {F F' : FT} {V' : Nat → Int32} (h1 : tK B n p = 1) (h2 : wI B (tS B n p) (tE B n p) = i + 1) (h3 : lo3 t ≤ i ∧ i < lo3 (t + 1)) (er : nums B n i (arN i) 0 (tE B n p) (fF B n p i F X) (fun _ => -1) = (true, p', F', V')) (h4 : tK B n p' = 3) : lin B n t p F X = (true, tE B n p', F', if F'.1 = 0 then kp i V' X else X) := by
  unfold lin
  unfold fF at er
  rw [if_pos ⟨h1, by omega, by omega⟩, h2, Nat.add_sub_cancel, er, if_pos ⟨rfl, h4⟩]
theorem lin_f {t p i p' : Nat} {F F' : FT} {V' : Nat → Int32} {b : Bool} (h1 : tK B n p = 1) (h2 : wI B (tS B n p) (tE B n p) = i + 1) (h3 : lo3 t ≤ i ∧ i < lo3 (t + 1)) (er : nums B n i (arN i) 0 (tE B n p) (fF B n p i F X) (fun _ => -1) = (b, p', F', V')) (h4 : ¬ (b = true ∧ tK B n p' = 3)) : lin B n t p F X = (false, p', F', X) := by
  unfold lin
  unfold fF at er
  rw [if_pos ⟨h1, by omega, by omega⟩, h2, Nat.add_sub_cancel, er, if_neg h4]
theorem c_numsL {Q : Int32 → Hp → Prop} {i t : Nat} (hi : i < 17) : ∀ r k p (F : FT) (V : Nat → Int32) (f : Hp), k + r = arN i → cB f B n → tok f B n p → cF f F → cX f X → (∀ j, j < 3 → f 74 j = V j) → (∀ g p' F' V', nums B n i r k p F V = (true, p', F', V') → cB g B n → tok g B n p' → cF g F' → cX g X → (∀ j, j < 3 → g 74 j = V' j) → FrT f g → Wp L xs xm_Re_readLine 44 [.ref 51, .int (iN t), .int (iN i), .int (iN (arN i))] [] g (QI Q)) → (∀ g p' F' V', nums B n i r k p F V = (false, p', F', V') → cB g B n → tok g B n p' → cF g F' → cX g X → FrT f g → Q 0 g) → Wp L xs xm_Re_readLine 44 [.ref 51, .int (iN t), .int (iN i), .int (iN k)] [] f (QI Q)
  | 0, k, p, F, V, f, hk, c, tk, cf, cx, hV, h1, _ => by
    rw [show k = arN i by omega]
    exact h1 f p F V rfl c tk cf cx hV fun _ _ => rfl
  | r + 1, k, p, F, V, f, hk, c, tk, cf, cx, hV, h1, h0 => by
    have ab := ar_b i hi
    have k4 := tK_le (B := B) (n := n) (p := p)
    have s9 := tS_le (B := B) tk.1
    have c6 := c.1
    refine t_Re_readLine_44 ⟨i, rfl, hi, ?_⟩
    rw [x_tab2 hi, tk.2.1, show (iN (tK B n p) = 2 ↔ tK B n p = 2) from iN_inj (b := 2) (by omega) (by omega)]
    refine brT ((iN_lt (b := _) (by omega) (by omega)).mpr (by omega)) ⟨fun z => ⟨k, rfl, by omega, fun g4 e4 => ?_⟩, fun z => h0 f p F V (by rw [nums_s, if_neg z]) c tk cf cx fun _ _ => rfl⟩
    have v99 := tV_le z tk.1
    rw [tk.2.2.2.2 z] at e4
    have fr4 : ∀ x, ¬ x = 74 → g4 x = f x := fun x hx => by rw [e4, xu_a hx]
    have c4 : cB g4 B n := ⟨c.1, by rw [fr4 51 (by omega)]; exact c.2.1, fun j hj => by rw [fr4 73 (by omega)]; exact c.2.2 j hj⟩
    have t4 : tok g4 B n p := by unfold tok; rw [fr4 51 (by omega)]; exact tk
    have f4 : cF g4 F := cf.fr (by rw [fr4 51 (by omega)]) (by rw [fr4 51 (by omega)])
    have x4 : cX g4 X := cx.fr (fun x a b => fr4 x (by omega)) (by rw [fr4 51 (by omega)])
    have v4 : ∀ j, j < 3 → g4 74 j = uV V k (iN (tV B n p)) j := fun j hj => by
      unfold uV
      by_cases y : j = k
      · rw [if_pos y, y, e4, xu_eq]
      · rw [if_neg y, e4, xu_k y]; exact hV j hj
    have T4 : FrT f g4 := fun x hx => fr4 x (by omega)
    have z0 := v4 0 (by omega)
    have es := nums_s B n i r k p F V
    rw [if_pos z] at es
    refine c_mayBe hi (by omega) v99 (by rw [e4, xu_eq]) (fun ok => br1 ?_) fun ok => br0 ?_
    · rw [z0] at ok
      rw [if_pos ok] at es
      refine c_on c4 t4 fun g c5 t5 fr => ?_
      rw [iN_inc]
      have T5 : FrT f g := fun x hx => by rw [fr.1 x (by omega), T4 x hx]
      refine c_numsL hi r (k + 1) (tE B n p) F (uV V k (iN (tV B n p))) g (by omega) c5 t5 (f4.fr (fr.2 3 (by omega)) (fr.2 4 (by omega))) (x4.fr (fun x a b => fr.1 x (by omega)) (fr.2 11 (by omega))) (fun j hj => by rw [fr.1 74 (by omega)]; exact v4 j hj) (fun g' p' F' V' e a b c d e' T => h1 g' p' F' V' (by rw [es]; exact e) a b c d e' (T5.trans T)) fun g' p' F' V' e a b c d T => h0 g' p' F' V' (by rw [es]; exact e) a b c d (T5.trans T)
    · rw [z0] at ok
      rw [if_neg ok] at es
      rw [t4.2.2.1]
      refine c_note (c := 2) f4 (by omega) fun g5 f5 a5 b5 => ?_
      have c5 : cB g5 B n := ⟨c.1, by rw [b5 6 (by omega) (by omega)]; exact c4.2.1, fun j hj => by rw [a5 73 (by omega)]; exact c4.2.2 j hj⟩
      have t5 : tok g5 B n p := ⟨t4.1, by rw [b5 7 (by omega) (by omega)]; exact t4.2.1, by rw [b5 8 (by omega) (by omega)]; exact t4.2.2.1, by rw [b5 9 (by omega) (by omega)]; exact t4.2.2.2.1, fun h => by rw [b5 10 (by omega) (by omega)]; exact t4.2.2.2.2 h⟩
      refine c_on c5 t5 fun g c6 t6 fr => ?_
      rw [iN_inc]
      have T6 : FrT f g := fun x hx => by rw [fr.1 x (by omega), a5 x (by omega), T4 x hx]
      refine c_numsL hi r (k + 1) (tE B n p) _ (uV V k (iN (tV B n p))) g (by omega) c6 t6 (f5.fr (fr.2 3 (by omega)) (fr.2 4 (by omega))) (x4.fr (fun x a b => by rw [fr.1 x (by omega), a5 x (by omega)]) (by rw [fr.2 11 (by omega), b5 11 (by omega) (by omega)])) (fun j hj => by rw [fr.1 74 (by omega), a5 74 (by omega)]; exact v4 j hj) (fun g' p' F' V' e a b c d e' T => h1 g' p' F' V' (by rw [es]; exact e) a b c d e' (T6.trans T)) fun g' p' F' V' e a b c d T => h0 g' p' F' V' (by rw [es]; exact e) a b c d (T6.trans T)
theorem c_isFullR {Q : Int32 → Hp → Prop} {i : Nat} {f : Hp} (hi : i < 17) (cx : cX f X) (wx : wfX X) (h1 : fulX i X = true → Q 1 f) (h0 : ¬ fulX i X = true → Q 0 f) : CI L xs xm_Re_isFull [.ref 51, .int (iN i)] f Q := by
  obtain ⟨w1, w2, w3, w4⟩ := wx
  refine t_Re_isFull_0 ?_
  rw [cx.1.2.2.2.2.1, cx.2.2.1.1, cx.2.2.2.1, show (iN i = 5 ↔ i = 5) from iN_inj (b := 5) (by omega) (by omega), show (iN i = 16 ↔ i = 16) from iN_inj (b := 16) (by omega) (by omega), show (iN i < 7 ↔ i < 7) from iN_lt (b := 7) (by omega) (by omega), show (iN (dN X.1) = 10 ↔ dN X.1 = 10) from iN_inj (b := 10) (by omega) (by omega), show (iN X.2.2.2.1 = 12 ↔ X.2.2.2.1 = 12) from iN_inj (b := 12) (by omega) (by omega), show (iN X.2.2.1.1 = 40 ↔ X.2.2.1.1 = 40) from iN_inj (b := 40) (by omega) (by omega)]
  unfold fulX at h1 h0
  refine ⟨fun z => ?_, fun z => ?_⟩
  · rw [if_pos z, beq_iff_eq] at h1 h0
    exact ⟨h1, h0⟩
  rw [if_neg z] at h1 h0
  refine ⟨fun z2 => ?_, fun z2 => ?_⟩
  · rw [if_pos z2, beq_iff_eq] at h1 h0
    exact ⟨h1, h0⟩
  rw [if_neg z2] at h1 h0
  refine ⟨fun z3 => ?_, fun z3 => ?_⟩
  · rw [if_pos z3] at h0
    exact h0 (by decide)
  rw [if_neg z3, beq_iff_eq] at h1 h0
  exact ⟨h1, h0⟩
theorem c_readLine {Q : Int32 → Hp → Prop} {t p : Nat} {F : FT} {f : Hp} (ht : t < 3) (c : cB f B n) (tk : tok f B n p) (cf : cF f F) (cx : cX f X) (wx : wfX X) (h1 : ∀ g p' F' X', lin B n t p F X = (true, p', F', X') → cB g B n → tok g B n p' → cF g F' → cX g X' → FrT f g → Q 1 g) (h0 : ∀ g p' F' X', lin B n t p F X = (false, p', F', X') → cB g B n → tok g B n p' → FrT f g → Q 0 g) : CI L xs xm_Re_readLine [.ref 51, .int (iN t)] f Q := by
  have k4 := tK_le (B := B) (n := n) (p := p)
  have c6 := c.1
  obtain ⟨s1, s2⟩ := tS_le (B := B) tk.1
  obtain ⟨q1, q2⟩ := tE_le (B := B) tk.1
  have bad : ¬ (tK B n p = 1 ∧ lo3 t < wI B (tS B n p) (tE B n p) ∧ wI B (tS B n p) (tE B n p) ≤ lo3 (t + 1)) → Q 0 f := fun z => h0 f p F X (lin_no z) c tk fun _ _ => rfl
  by_cases kw : tK B n p = 1
  · have nz : ¬ n ≤ tS B n p := fun z => by unfold tK at kw; rw [if_pos z] at kw; cases kw
    have yl : isL (B (tS B n p)) = true := Classical.byContradiction fun z => by
      unfold tK at kw; rw [if_neg nz, if_neg z] at kw
      split at kw
      · split at kw <;> cases kw
      · split at kw <;> cases kw
    have eE : tE B n p = rE isL B n (tS B n p) := by unfold tE; rw [if_neg nz, if_pos yl]
    have hl : ∀ j, tS B n p ≤ j → j < tE B n p → isL (B j) = true := by rw [eE]; exact (rE_b s2).2.2.1
    have b3 : lo3 t ≤ lo3 (t + 1) ∧ lo3 (t + 1) ≤ 17 := by
      rcases (show t = 0 ∨ t = 1 ∨ t = 2 by omega) with rfl | rfl | rfl <;> decide
    refine t_Re_readLine_0 (c_lineOf ht c (by rw [tk.2.1, kw]; rfl) q1 q2 hl tk.2.2.1 tk.2.2.2.1 (fun i a b wi => brF (iN_ne1 (by omega)) ?_) fun no => brT rfl (bad fun z => no (wI B (tS B n p) (tE B n p) - 1) (by omega) (by omega) (by omega)))
    have hi : i < 17 := by omega
    -- the line's numbers, from a state with this fault
    have go : ∀ g, cB g B n → tok g B n p → cF g (fF B n p i F X) → cX g X → FrT f g → CV L xs xm_Re_next [.ref 51] g (fun g3 => CV L xs xm_ja_fill [.ref 74, .int (-1)] g3 (fun g4 => Wp L xs xm_Re_readLine 44 [.ref 51, .int (iN t), .int (iN i), .int 0] [] g4 (QI Q))) := fun g cg tg fg xg T => by
      refine c_on cg tg fun g3 c3 t3 fr => fill_go rfl fun g4 u1 u2 => ?_
      have T4 : FrT f g4 := fun x hx => by rw [u2 x (by omega), fr.1 x (by omega), T x hx]
      have c4 : cB g4 B n := ⟨c3.1, by rw [u2 51 (by omega)]; exact c3.2.1, fun j hj => by rw [u2 73 (by omega)]; exact c3.2.2 j hj⟩
      have t4 : tok g4 B n (tE B n p) := by unfold tok; rw [u2 51 (by omega)]; exact t3
      have f4 : cF g4 (fF B n p i F X) := fg.fr (by rw [u2 51 (by omega), fr.2 3 (by omega)]) (by rw [u2 51 (by omega), fr.2 4 (by omega)])
      have x4 : cX g4 X := xg.fr (fun x a b => by rw [u2 x (by omega), fr.1 x (by omega)]) (by rw [u2 51 (by omega), fr.2 11 (by omega)])
      refine c_numsL hi (arN i) 0 (tE B n p) (fF B n p i F X) (fun _ => -1) g4 (by omega) c4 t4 f4 x4 (fun j hj => u1 j hj) (fun g5 p' F' V' er c5 t5 f5 x5 v5 T5 => ?_) fun g5 p' F' V' er c5 t5 f5 x5 T5 => h0 g5 p' F' X (lin_f kw wi ⟨a, b⟩ er (by rintro ⟨z, _⟩; cases z)) c5 t5 (T4.trans T5)
      have k4' := tK_le (B := B) (n := n) (p := p')
      have T05 := T4.trans T5
      refine t_Re_readLine_44 ⟨i, rfl, hi, ?_⟩
      have ab := ar_b i hi
      rw [x_tab2 hi, t5.2.1, show (iN (tK B n p') = 3 ↔ tK B n p' = 3) from iN_inj (b := 3) (by omega) (by omega)]
      refine brF (fun z => absurd ((iN_lt (b := _) (by omega) (by omega)).mp z) (by omega)) ⟨fun z => ?_, fun z => h0 g5 p' F' X (lin_f kw wi ⟨a, b⟩ er (fun y => z y.2)) c5 t5 T05⟩
      have el := lin_t kw wi ⟨a, b⟩ er z
      have F4 := f5.1
      rw [f5.2.1, show (iN F'.1 = 0 ↔ F'.1 = 0) from iN_inj (b := 0) (by omega) (by omega)]
      refine ⟨fun y => ?_, fun y => ?_⟩
      · rw [if_pos y] at el
        have nv := nums_V (B := B) (n := n) (i := i) (arN i) 0 (tE B n p) (fF B n p i F X) (fun _ => -1) (fun j hj => absurd hj (by omega)) (fun _ _ => rfl) (by rw [er]) (by rw [er]; exact y)
        rw [er] at nv
        refine c_keep (V := V') hi x5 wx v5 ⟨fun k hk => nv.1 k (by omega), fun k hk h => nv.2 k (by omega)⟩ fun g6 x6 a6 b6 => ?_
        have c6' : cB g6 B n := ⟨c5.1, by rw [b6 6 (by omega)]; exact c5.2.1, fun j hj => by rw [a6 73 (by omega)]; exact c5.2.2 j hj⟩
        have t6 : tok g6 B n p' := ⟨t5.1, by rw [b6 7 (by omega)]; exact t5.2.1, by rw [b6 8 (by omega)]; exact t5.2.2.1, by rw [b6 9 (by omega)]; exact t5.2.2.2.1, fun h => by rw [b6 10 (by omega)]; exact t5.2.2.2.2 h⟩
        refine c_on c6' t6 fun g7 c7 t7 fr7 => h1 g7 _ _ _ el c7 t7 (f5.fr (by rw [fr7.2 3 (by omega), b6 3 (by omega)]) (by rw [fr7.2 4 (by omega), b6 4 (by omega)])) (x6.fr (fun x a b => fr7.1 x (by omega)) (fr7.2 11 (by omega))) fun x hx => by rw [fr7.1 x (by omega), a6 x (by omega), T05 x hx]
      · rw [if_neg y] at el
        refine c_on c5 t5 fun g7 c7 t7 fr7 => h1 g7 _ _ _ el c7 t7 (f5.fr (fr7.2 3 (by omega)) (fr7.2 4 (by omega))) (x5.fr (fun x a b => fr7.1 x (by omega)) (fr7.2 11 (by omega))) fun x hx => by rw [fr7.1 x (by omega), T05 x hx]
    refine c_isFullR hi cx wx (fun z => br1 ?_) fun z => br0 (go f c tk (by unfold fF; rw [if_neg z]; exact cf) cx fun _ _ => rfl)
    rw [tk.2.2.1]
    refine c_note (c := 3) cf (by omega) fun g5 f5 a5 b5 => go g5 ⟨c.1, by rw [b5 6 (by omega) (by omega)]; exact c.2.1, fun j hj => by rw [a5 73 (by omega)]; exact c.2.2 j hj⟩ ⟨tk.1, by rw [b5 7 (by omega) (by omega)]; exact tk.2.1, by rw [b5 8 (by omega) (by omega)]; exact tk.2.2.1, by rw [b5 9 (by omega) (by omega)]; exact tk.2.2.2.1, fun h => by rw [b5 10 (by omega) (by omega)]; exact tk.2.2.2.2 h⟩ (by unfold fF; rw [if_pos z]; exact f5) (cx.fr (fun x a b => a5 x (by omega)) (b5 11 (by omega) (by omega))) fun x hx => a5 x (by omega)
  · refine t_Re_readLine_0 (t_Re_lineOf_0 ?_)
    rw [tk.2.1]
    exact brF (fun z => kw ((iN_inj (b := 1) (by omega) (by omega)).mp z)) (brT rfl (bad fun z => kw z.1))
end LINES2
