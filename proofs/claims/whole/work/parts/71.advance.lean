/-! the reference's next token: numbers, the whole -/
section ADV2
variable {L : Nat} {xs : Nat → Int32} {f g : Hp} {B : Nat → Nat} {n : Nat}
theorem r_adN {Q : Hp → Prop} {f0 : Hp} {s : Nat} {x1 : Int32} (kk : ∀ g e, Fr5 f0 g → g 400 4 = iN s → g 400 3 = iN e → e = rE isG B n s → g 400 5 = iN (if e - s ≤ 2 then 1 else 4) → (e - s ≤ 2 → g 400 6 = iN (vv B s (e - s))) → Q g) (c0 : rB f0 B n) : ∀ k q (f : Hp), Fr5 f0 f → f 400 4 = iN s → f 400 3 = iN q → s ≤ q → (∀ i, s ≤ i → i < q → isG (B i) = true) → (q - s ≤ 2 → f 400 6 = iN (vv B s (q - s))) → n - q = k → q ≤ n → rE isG B n q = rE isG B n s → Wp L xs xm_Mo_advance 198 [.ref 400, .int x1, .retAddr 0, .retAddr 0] [] f (QV Q)
  | k, q, f, fr, h4, h3, hs, hl, hv, hk, hq, he => by
    have c := c0.fr fr
    have h6 := c.1
    have stop : rE isG B n q = q → ((2 < ((f 400 3) - (f 400 4)) → ∀ g4, g4 = xu f 400 5 4 → Q g4) ∧ (¬ 2 < ((f 400 3) - (f 400 4)) → ∀ g3, g3 = xu f 400 5 1 → Q g3)) := fun e => by
      have ee : q = rE isG B n s := by rw [← he, e]
      rw [h3, h4, iN_sub hs, show (2 < iN (q - s) ↔ 2 < q - s) from iN_lt (a := 2) (by omega) (by omega)]
      refine ⟨fun z g4 e4 => ?_, fun z g3 e3 => ?_⟩
      · subst e4
        exact kk _ q (fr.put (by omega)) (by rw [xu_k (by omega)]; exact h4) (by rw [xu_k (by omega)]; exact h3) ee (by rw [xu_eq, if_neg (by omega)]; rfl) fun y => absurd y (by omega)
      · subst e3
        exact kk _ q (fr.put (by omega)) (by rw [xu_k (by omega)]; exact h4) (by rw [xu_k (by omega)]; exact h3) ee (by rw [xu_eq, if_pos (by omega)]; rfl) fun y => by rw [xu_k (by omega)]; exact hv y
    refine t_Mo_advance_198 ?_
    rw [h3]
    by_cases z : q < n
    · obtain ⟨b1, b2⟩ := c.2.2 q (by omega)
      refine r_byte c (by omega) (fun _ => r_isDig b1 (fun y => br1 ?_) fun y => br0 (stop (rE_n y))) fun u => absurd z u
      have yb := isG_iff.mp y
      have hl' : ∀ i, s ≤ i → i < q + 1 → isG (B i) = true := fun i a b => by
        by_cases v : i = q
        · rw [v]; exact y
        · exact hl i a (by omega)
      rw [h3, h4, iN_sub hs, show (iN (q - s) < 2 ↔ q - s < 2) from iN_lt (b := 2) (by omega) (by omega)]
      refine ⟨fun u => r_byte c (by omega) (fun _ g7 e7 g8 e8 => ?_) fun u => absurd z u, fun u g5 e5 => ?_⟩
      · have v7 : g7 400 3 = iN q := by rw [e7, xu_k (by omega)]; exact h3
        rw [v7, iN_inc] at e8
        refine r_adN kk c0 (k - 1) (q + 1) g8 (by rw [e8, e7]; exact (fr.put (by omega)).put (by omega)) (by rw [e8, xu_k (by omega), e7, xu_k (by omega)]; exact h4) (by rw [e8, xu_eq]) (by omega) hl' (fun w => ?_) (by omega) (by omega) (by rw [← he, rE_y z y])
        rw [e8, xu_k (by omega), e7, xu_eq, hv (by omega), show 10 * iN (vv B s (q - s)) = iN (10 * vv B s (q - s)) from iN_mul 10 _, iN_add, show iN (10 * vv B s (q - s) + B q) - 48 = iN (10 * vv B s (q - s) + B q - 48) from iN_sub (b := 48) (by omega)]
        congr 1
        rcases (show q - s = 0 ∨ q - s = 1 by omega) with d | d
        · have : q = s := by omega
          subst this
          rw [show q + 1 - q = 1 by omega, d]
          unfold vv
          simp
        · have : q = s + 1 := by omega
          subst this
          rw [show s + 1 + 1 - s = 2 by omega, d]
          unfold vv
          simp
          omega
      · rw [iN_inc] at e5
        exact r_adN kk c0 (k - 1) (q + 1) g5 (by rw [e5]; exact fr.put (by omega)) (by rw [e5, xu_k (by omega)]; exact h4) (by rw [e5, xu_eq]) (by omega) hl' (fun w => absurd w (by omega)) (by omega) (by omega) (by rw [← he, rE_y z y])
    · exact r_byte c (by omega) (fun u => absurd u z) fun _ => r_digN (br0 (stop (rE_z (by omega))))
  termination_by k q => n - q
theorem r_advance {Q : Hp → Prop} {f0 : Hp} {p0 : Nat} (kk : ∀ g, Fr5 f0 g → g 400 5 = iN (rK (tK B n p0) (wI B (tS B n p0) (tE B n p0))) → g 400 4 = iN (tS B n p0) → g 400 3 = iN (tE B n p0) → (tK B n p0 = 2 → g 400 6 = iN (tV B n p0)) → (tK B n p0 = 1 → g 400 7 = iN (wI B (tS B n p0) (tE B n p0))) → Q g) (c0 : rB f0 B n) : ∀ k p (f : Hp), Fr5 f0 f → f 400 3 = iN p → n - p = k → p ≤ n → tS B n p = tS B n p0 → CV L xs xm_Mo_advance [.ref 400] f Q
  | k, p, f, fr, h3, hk, hp, he => by
    have c := c0.fr fr
    have h6 := c.1
    have next : p < n → isW (B p) = true → ∀ g2, g2 = xu f 400 3 (iN (p + 1)) → Wp L xs xm_Mo_advance 0 [.ref 400, .retAddr 0, .retAddr 0, .retAddr 0] [] g2 (QV Q) := fun z y g2 e2 => by
      exact r_advance kk c0 (k - 1) (p + 1) g2 (by rw [e2]; exact fr.put (by omega)) (by rw [e2, xu_eq]) (by omega) (by omega) (by rw [← he]; exact (rE_y z y).symm)
    refine t_Mo_advance_0 ?_
    rw [h3]
    by_cases z : p < n
    · obtain ⟨b1, b2⟩ := c.2.2 p (by omega)
      obtain ⟨s1, s2, s3, -⟩ := iN_ok _ b1
      refine r_byte c (by omega) (fun _ => ⟨fun y g2 e2 => ?_, fun y => ?_⟩) fun u => absurd z u
      · rw [h3, iN_inc] at e2
        exact next z (isW_iff.mpr (Or.inl (s2.mp y))) g2 e2
      rw [h3]
      refine r_byte c (by omega) (fun _ => ⟨fun y2 g13 e13 => ?_, fun y2 g4 e4 => ?_⟩) fun u => absurd z u
      · rw [h3, iN_inc] at e13
        exact next z (isW_iff.mpr (Or.inr (s1.mp y2))) g13 e13
      have nw : ¬ isW (B p) = true := fun u => (isW_iff.mp u).elim (fun u => y (s2.mpr u)) fun u => y2 (s1.mpr u)
      have eS : tS B n p = p := rE_n nw
      have eS0 : tS B n p0 = p := by rw [← he, eS]
      rw [h3] at e4
      have fr4 : Fr5 f0 g4 := by rw [e4]; exact fr.put (by omega)
      have c4 := c0.fr fr4
      have x3 : g4 400 3 = iN p := by rw [e4, xu_k (by omega)]; exact h3
      have x4 : g4 400 4 = iN p := by rw [e4, xu_eq]
      have nz : ¬ n ≤ p := by omega
      rw [x3]
      refine r_byte c4 (by omega) (fun _ => brF (iN_nn (by omega)) (r_isLet b1 (fun v => br1 ?_) fun v => br0 (r_isDig b1 (fun v2 => br1 fun g11 e11 => ?_) fun v2 => br0 fun g8 e8 => ?_))) fun u => absurd z u
      · have eE : tE B n p0 = rE isL B n p := by unfold tE; rw [eS0, if_neg nz, if_pos v]
        have eK : tK B n p0 = 1 := by unfold tK; rw [eS0, if_neg nz, if_pos v]
        have := r_adW (L := L) (xs := xs) (B := B) (n := n) (s := p) (x1 := iN (B p)) (Q := Q) (f0 := g4) (fun g e fr' w4 w3 we w7 w5 => kk g (fr4.trans fr') (by rw [w5, eK, eS0, eE, ← we]; rfl) (by rw [w4, eS0]) (by rw [w3, eE, we]) (fun h => absurd h (by rw [eK]; decide)) fun _ => by rw [w7, eS0, eE, ← we]) c4 _ p g4 (Fr5.refl g4) x4 x3 (Nat.le_refl _) (fun i a b => absurd a (by omega)) rfl (by omega) rfl
        rw [Nat.sub_self] at this
        exact this
      · have eE : tE B n p0 = rE isG B n p := by unfold tE; rw [eS0, if_neg nz, if_neg v, if_pos v2]
        have eK : tK B n p0 = if rE isG B n p - p ≤ 2 then 2 else 4 := by unfold tK; rw [eS0, if_neg nz, if_neg v, if_pos v2]
        refine r_adN (s := p) (fun g e fr' w4 w3 we w5 wv => ?_) c4 _ p g11 (by rw [e11]; exact (Fr5.refl g4).put (by omega)) (by rw [e11, xu_k (by omega)]; exact x4) (by rw [e11, xu_k (by omega)]; exact x3) (Nat.le_refl _) (fun i a b => absurd a (by omega)) (fun _ => by rw [e11, xu_eq, Nat.sub_self]; rfl) rfl (by omega) rfl
        have pos : p < rE isG B n p := by
          rw [rE_y z v2]
          have := (rE_b (P := isG) (B := B) (n := n) (q := p + 1) (by omega)).1
          omega
        refine kk g (fr4.trans fr') ?_ (by rw [w4, eS0]) (by rw [w3, eE, we]) (fun h => ?_) fun h => ?_
        · rw [w5, eK, ← we]
          split <;> rfl
        · have le : e - p ≤ 2 := by
            rw [eK, ← we] at h
            split at h
            · assumption
            · cases h
          rw [wv le]
          unfold tV vv
          rw [eE, eS0, ← we, if_neg (by omega)]
        · rw [eK] at h
          split at h <;> cases h
      · have eE : tE B n p0 = p + 1 := by unfold tE; rw [eS0, if_neg nz, if_neg v, if_neg v2]
        rw [x3, iN_inc] at e8
        have f8 : Fr5 f0 g8 := by rw [e8]; exact fr4.put (by omega)
        have y4 : g8 400 4 = iN p := by rw [e8, xu_k (by omega)]; exact x4
        have y3 : g8 400 3 = iN (p + 1) := by rw [e8, xu_eq]
        refine ⟨fun h g10 e10 => ?_, fun h g9 e9 => ?_⟩
        · have eK : tK B n p0 = 3 := by unfold tK; rw [eS0, if_neg nz, if_neg v, if_neg v2, if_pos (s3.mp h)]
          exact kk g10 (by rw [e10]; exact f8.put (by omega)) (by rw [e10, xu_eq, eK]; rfl) (by rw [e10, xu_k (by omega), eS0]; exact y4) (by rw [e10, xu_k (by omega), eE]; exact y3) (fun h => absurd h (by rw [eK]; decide)) fun h => absurd h (by rw [eK]; decide)
        · have eK : tK B n p0 = 4 := by unfold tK; rw [eS0, if_neg nz, if_neg v, if_neg v2, if_neg (fun u => h (s3.mpr u))]
          exact kk g9 (by rw [e9]; exact f8.put (by omega)) (by rw [e9, xu_eq, eK]; rfl) (by rw [e9, xu_k (by omega), eS0]; exact y4) (by rw [e9, xu_k (by omega), eE]; exact y3) (fun h => absurd h (by rw [eK]; decide)) fun h => absurd h (by rw [eK]; decide)
    · have eS : tS B n p = p := rE_z (by omega)
      have eS0 : tS B n p0 = p := by rw [← he, eS]
      have eE : tE B n p0 = p := by unfold tE; rw [eS0, if_pos (by omega)]
      have eK : tK B n p0 = 0 := by unfold tK; rw [eS0, if_pos (by omega)]
      refine r_byte c (by omega) (fun u => absurd u z) fun _ => brF (by decide) ?_
      rw [h3]
      refine r_byte c (by omega) (fun u => absurd u z) fun _ => brF (by decide) fun g4 e4 => ?_
      rw [h3] at e4
      have fr4 : Fr5 f0 g4 := by rw [e4]; exact fr.put (by omega)
      have x3 : g4 400 3 = iN p := by rw [e4, xu_k (by omega)]; exact h3
      have x4 : g4 400 4 = iN p := by rw [e4, xu_eq]
      rw [x3]
      refine r_byte (c0.fr fr4) (by omega) (fun u => absurd u z) fun _ => brT (by decide) fun g12 e12 => ?_
      exact kk g12 (by rw [e12]; exact fr4.put (by omega)) (by rw [e12, xu_eq, eK]; rfl) (by rw [e12, xu_k (by omega), eS0]; exact x4) (by rw [e12, xu_k (by omega), eE]; exact x3) (fun h => absurd h (by rw [eK]; decide)) fun h => absurd h (by rw [eK]; decide)
  termination_by k p => n - p
end ADV2
