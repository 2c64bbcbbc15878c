/-! a whole text, read by the class: the whole -/
section READ3
variable {L : Nat} {xs : Nat → Int32} {B : Nat → Nat} {n : Nat}
theorem X0_x {f : Hp} (h1 : cC f 52 X0.1) (h2 : f 51 11 = -1) (h3 : f 64 0 = 0) (h4 : f 69 0 = 0) : cX f X0 := ⟨h1, h2, ⟨h3, fun k h => absurd h (Nat.not_lt_zero _)⟩, h4, fun k h => absurd h (Nat.not_lt_zero _)⟩
theorem c_read {Q : Hp → Prop} {t : Nat} {f : Hp} (ht : t < 3) (hn : n ≤ 600) (hB : ∀ i, i < 600 → B i < 256 ∧ f 2 i = sgn (B i)) (kk : ∀ g, cF g (fin4 n (prs B n t 600 0 (0, 0) X0)) → ((fin4 n (prs B n t 600 0 (0, 0) X0)).1 = 0 → cX g (prs B n t 600 0 (0, 0) X0).2) → FrT f g → Q g) : CV L xs xm_Re_read [.ref 51, .ref 2, .int (iN n), .int (iN t)] f Q := by
  have k1 : xS0 L 2 = (21, 600) := rfl
  refine t_Re_read_0 k1 ⟨by omega, fun g1 e1 g2 e2 g3 e3 g4 e4 g5 e5 => ?_⟩
  rw [show imin (iN n) 600 = iN n from by rw [show (600 : Int32) = iN 600 from rfl, imin_iN (by omega) (by omega), Nat.min_eq_left hn]] at e2
  have n5 : ∀ x, ¬ x = 51 → g5 x = g1 x := fun x hx => by rw [e5, xu_a hx, e4, xu_a hx, e3, xu_a hx, e2, xu_a hx]
  have v5 : g5 51 6 = iN n ∧ g5 51 3 = 0 ∧ g5 51 4 = -1 ∧ g5 51 11 = -1 := by
    subst e5 e4 e3 e2
    refine ⟨?_, ?_, ?_, ?_⟩ <;> simp [xu_at]
  refine c_coClear fun g6 h6 f6 g7 e7 g8 e8 g9 e9 => ?_
  have n9 : ∀ x, ¬ x = 64 → ¬ x = 69 → ¬ x = 51 → g9 x = g6 x := fun x a b c => by rw [e9, xu_a c, e8, xu_a b, e7, xu_a a]
  have r51 : ∀ j, ¬ j = 9 → g9 51 j = g5 51 j := fun j hj => by rw [e9, xu_k hj, e8, xu_a (by omega), e7, xu_a (by omega), f6 51 (by omega)]
  have b9 : cB g9 B n := by
    refine ⟨hn, by rw [r51 6 (by omega)]; exact v5.1, fun i hi => ⟨(hB i hi).1, ?_⟩⟩
    rw [n9 73 (by omega) (by omega) (by omega), f6 73 (by omega), n5 73 (by omega), e1, xuc_eq, cpy_at, if_pos hi]
    exact (hB i hi).2
  have f9 : cF g9 (0, 0) := ⟨by show 0 ≤ 4; omega, by rw [r51 3 (by omega)]; exact v5.2.1, by rw [r51 4 (by omega)]; exact v5.2.2.1⟩
  have x9 : cX g9 X0 := X0_x (h6.fr fun a p q => n9 a (by omega) (by omega) (by omega)) (by rw [r51 11 (by omega)]; exact v5.2.2.2) (by rw [e9, xu_a (by omega), e8, xu_a (by omega), e7, xu_eq]) (by rw [e9, xu_a (by omega), e8, xu_eq])
  have T9 : FrT f g9 := fun x hx => by rw [n9 x (by omega) (by omega) (by omega), f6 x (by omega), n5 x (by omega), e1, xuc_a (by omega)]
  refine c_next b9 (p := 0) (by omega) (by rw [e9, xu_eq]; rfl) fun g fr w7 w8 w9 wv => ?_
  exact c_readL (f0 := f) ht k1 kk 600 0 0 (0, 0) X0 g (by omega) (b9.fr fr) ⟨by omega, w7, w8, w9, wv⟩ (f9.fr (fr.2 3 (by omega)) (fr.2 4 (by omega))) (x9.fr (fun x a b => fr.1 x (by omega)) (fr.2 11 (by omega))) X0_wf.1 X0_wf.2 (fun x hx => by rw [fr.1 x (by omega), T9 x hx]) rfl
end READ3
