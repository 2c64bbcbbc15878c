/-! a whole text, read by the class: the loop -/
section READ2
variable {L : Nat} {xs : Nat → Int32} {B : Nat → Nat} {n : Nat}
theorem k_dl : ∀ k, k < 7 → xS0 L (52 + 5 + k) = (20, 7) := fun k hk => by
  rcases (show k = 0 ∨ k = 1 ∨ k = 2 ∨ k = 3 ∨ k = 4 ∨ k = 5 ∨ k = 6 by omega) with rfl | rfl | rfl | rfl | rfl | rfl | rfl <;> rfl
theorem c_coClear {Q : Hp → Prop} {f : Hp} (kk : ∀ g, cC g 52 X0.1 → (∀ x, x < 52 ∨ 64 ≤ x → g x = f x) → Q g) : CV L xs xm_Co_clear [.ref 52] f Q := by
  have kc : xS0 L 52 = (1, 0) := rfl
  refine t_Co_clear_0 kc fun g1 e1 g2 e2 g3 e3 g4 e4 g5 e5 => fill_go (kf_1_5 kc).2 fun g6 a1 a2 => ?_
  have v5 : g5 52 0 = 1 ∧ g5 52 1 = 4 ∧ g5 52 2 = 2 ∧ g5 52 3 = 0 ∧ g5 52 4 = 0 := by
    subst e5 e4 e3 e2 e1
    refine ⟨?_, ?_, ?_, ?_, ?_⟩ <;> simp [xu_at]
  have n5 : ∀ x, ¬ x = 52 → g5 x = f x := fun x hx => by rw [e5, xu_a hx, e4, xu_a hx, e3, xu_a hx, e2, xu_a hx, e1, xu_a hx]
  refine for0 7 (fun k l g => l = [.ref 52, .int (iN k)] ∧ (∀ a b, a < k → b < 7 → g (57 + a) b = 1) ∧ ∀ x, x < 57 ∨ 64 ≤ x → g x = g6 x) ⟨rfl, fun a b h => absurd h (by omega), fun _ _ => rfl⟩ ?_ ?_
  · rintro k l g hk ⟨rfl, b1, b2⟩ k2
    refine t_Co_clear_35 kc (brT ((iN_lt (b := 7) (by omega) (by omega)).mpr (by omega)) ⟨k, rfl, hk, fill_go (k_dl k hk) fun g7 c1 c2 => ?_⟩)
    rw [iN_inc]
    refine k2 _ _ ⟨rfl, fun a b ha hb => ?_, fun x hx => by rw [c2 x (by omega), b2 x hx]⟩
    by_cases z : a = k
    · rw [z]; exact c1 b hb
    · rw [c2 _ (by omega)]; exact b1 a b (by omega) hb
  · rintro l g ⟨rfl, b1, b2⟩
    refine t_Co_clear_35 kc (brF (fun z => absurd ((iN_lt (b := 7) (by omega) (by omega)).mp z) (by omega)) (kk g ⟨?_, ?_, ?_, ?_, ?_, fun i hi => ?_, fun j hj => absurd hj (Nat.not_lt_zero _), fun a b ha hb => b1 a b ha hb⟩ fun x hx => ?_))
    · rw [b2 _ (by omega), a2 _ (by omega)]; exact v5.1
    · rw [b2 _ (by omega), a2 _ (by omega)]; exact v5.2.1
    · rw [b2 _ (by omega), a2 _ (by omega)]; exact v5.2.2.1
    · rw [b2 _ (by omega), a2 _ (by omega)]; exact v5.2.2.2.1
    · rw [b2 _ (by omega), a2 _ (by omega)]; exact v5.2.2.2.2
    · rw [b2 _ (by omega)]; exact a1 i hi
    · rw [b2 x (by omega), a2 x (by omega), n5 x (by omega)]
theorem lin_wfy {t p : Nat} {F : FT} {X : DT} (ht : t < 3) (wx : wfX X) (wy : wfY X) : wfY (lin B n t p F X).2.2.2 := by
  have b3 : lo3 t ≤ lo3 (t + 1) ∧ lo3 (t + 1) ≤ 17 := by
    rcases (show t = 0 ∨ t = 1 ∨ t = 2 by omega) with rfl | rfl | rfl <;> decide
  by_cases z : tK B n p = 1 ∧ lo3 t < wI B (tS B n p) (tE B n p) ∧ wI B (tS B n p) (tE B n p) ≤ lo3 (t + 1)
  · obtain ⟨z1, z2, z3⟩ := z
    obtain ⟨i, hi⟩ : ∃ i, wI B (tS B n p) (tE B n p) = i + 1 := ⟨wI B (tS B n p) (tE B n p) - 1, by omega⟩
    have h3 : lo3 t ≤ i ∧ i < lo3 (t + 1) := by omega
    obtain ⟨⟨bo, p', F', V'⟩, er⟩ : ∃ r, nums B n i (arN i) 0 (tE B n p) (fF B n p i F X) (fun _ => -1) = r := ⟨_, rfl⟩
    by_cases y : bo = true ∧ tK B n p' = 3
    · obtain ⟨rfl, y⟩ := y
      rw [lin_t z1 hi h3 er y]
      show wfY (if F'.1 = 0 then kp i V' X else X)
      split
      · rename_i f0
        have nv := nums_V (B := B) (n := n) (i := i) (arN i) 0 (tE B n p) (fF B n p i F X) (fun _ => -1) (fun j hj => absurd hj (by omega)) (fun _ _ => rfl) (by rw [er]) (by rw [er]; exact f0)
        rw [er] at nv
        exact kp_wfy (by omega) wx wy ⟨fun k hk => nv.1 k (by omega), fun k hk h => nv.2 k (by omega)⟩
      · exact wy
    · rw [lin_f z1 hi h3 er y]; exact wy
  · rw [lin_no z]; exact wy
theorem c_readL {Q : Hp → Prop} {t x1 nx1 : Nat} {y : Int32} {f0 : Hp} (ht : t < 3) (k1 : xS0 L x1 = (21, nx1)) {R0 : FT × DT} (kk : ∀ g, cF g (fin4 n R0) → ((fin4 n R0).1 = 0 → cX g R0.2) → FrT f0 g → Q g) : ∀ k m p F X (f : Hp), k + m = 600 → cB f B n → tok f B n p → cF f F → cX f X → wfX X → wfY X → FrT f0 f → prs B n t k p F X = R0 → Wp L xs xm_Re_read 74 [.ref 51, .ref x1, .int y, .int (iN t), .int (iN m)] [] f (QV Q)
  | 0, m, p, F, X, f, hm, c, tk, cf, cx, wx, wy, T, e => by
    refine t_Re_read_74 k1 (brF (fun z => absurd ((iN_lt (b := 600) (by omega) (by omega)).mp z) (by omega)) (c_read117 k1 wy.1 c cf cx wx fun g a b d => ?_))
    have : R0 = (F, X) := e.symm
    subst this
    exact kk g a (fun _ => b) (T.trans d)
  | k + 1, m, p, F, X, f, hm, c, tk, cf, cx, wx, wy, T, e => by
    have k4 := tK_le (B := B) (n := n) (p := p)
    rw [prs_s] at e
    refine t_Re_read_74 k1 (brT ((iN_lt (b := 600) (by omega) (by omega)).mpr (by omega)) ?_)
    rw [tk.2.1, show (iN (tK B n p) = 0 ↔ tK B n p = 0) from iN_inj (b := 0) (by omega) (by omega)]
    refine ⟨fun z => c_read117 k1 wy.1 c cf cx wx fun g a b d => ?_, fun z => ?_⟩
    · rw [if_pos z] at e
      subst e
      exact kk g a (fun _ => b) (T.trans d)
    · rw [if_neg z] at e
      have lw := lin_wf (B := B) (F := F) tk.1 ht wx
      have ly := lin_wfy (B := B) (n := n) (p := p) (F := F) ht wx wy
      refine c_readLine ht c tk cf cx wx (fun g p' F' X' el a b d e' T' => br1 ?_) fun g p' F' X' el a b T' => br0 fun g2 e2 g3 e3 => ?_
      · rw [el] at e lw ly
        rw [iN_inc]
        exact c_readL ht k1 kk k (m + 1) p' F' X' g (by omega) a b d e' lw.1 ly (T.trans T') (by simpa using e)
      · rw [el] at e
        have e : R0 = ((1, tS B n p'), X') := by
          rw [← e]; exact if_neg (fun h => by cases h)
        subst e
        have f4 : fin4 n ((1, tS B n p'), X') = (1, tS B n p') := by
          unfold fin4
          split
          · rfl
          · exact if_neg (show ¬ (1 : Nat) = 0 by decide)
        have x2 : g2 51 8 = iN (tS B n p') := by rw [e2, xu_k (by omega)]; exact b.2.2.1
        rw [x2] at e3
        rw [f4] at kk
        refine kk g3 ⟨by show 1 ≤ 4; omega, by rw [e3, xu_k (by omega), e2, xu_eq]; rfl, by rw [e3, xu_eq]; exact (if_neg (show ¬ (1 : Nat) = 0 by decide)).symm⟩ (fun h => by cases h) fun x hx => ?_
        rw [e3, xu_a (by omega), e2, xu_a (by omega), T' x hx, T x hx]
end READ2
