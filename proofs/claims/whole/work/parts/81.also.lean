/-! the reference's faults, numbers -/
section ALSO
variable {L : Nat} {xs : Nat → Int32} {f g : Hp} {B : Nat → Nat} {n : Nat} {F : FT}
def rF (f : Hp) (F : FT) : Prop := F.1 ≤ 4 ∧ F.2 ≤ 600 ∧ f 401 5 = iN F.1 ∧ f 401 6 = if F.1 = 0 then -1 else iN F.2
/-- what the reader may change beside its sheet -/
def FrU (f g : Hp) : Prop := (∀ x, ¬ x = 400 → ¬ x = 401 → g x = f x) ∧ (∀ j, ¬ (3 ≤ j ∧ j ≤ 8) → g 400 j = f 400 j) ∧ ∀ j, ¬ j = 5 → ¬ j = 6 → g 401 j = f 401 j
theorem FrU.refl (f : Hp) : FrU f f := ⟨fun _ _ _ => rfl, fun _ _ => rfl, fun _ _ _ => rfl⟩
theorem FrU.trans {h : Hp} (a : FrU f g) (b : FrU g h) : FrU f h := ⟨fun x p q => by rw [b.1 x p q, a.1 x p q], fun j p => by rw [b.2.1 j p, a.2.1 j p], fun j p q => by rw [b.2.2 j p q, a.2.2 j p q]⟩
theorem Fr5.u (a : Fr5 f g) : FrU f g := ⟨fun x p _ => a.1 x p, fun j p => a.2 j (by omega), fun j _ _ => by rw [a.1 401 (by omega)]⟩
theorem rB.u (h : rB f B n) (e : FrU f g) : rB g B n := ⟨h.1, by rw [e.2.1 2 (by omega)]; exact h.2.1, fun i hi => by rw [e.2.2 (10 + i) (by omega) (by omega)]; exact h.2.2 i hi⟩
def rtk (f : Hp) (B : Nat → Nat) (n p : Nat) : Prop := p ≤ n ∧ f 400 5 = iN (rK (tK B n p) (wI B (tS B n p) (tE B n p))) ∧ f 400 4 = iN (tS B n p) ∧ f 400 3 = iN (tE B n p) ∧ (tK B n p = 2 → f 400 6 = iN (tV B n p)) ∧ (tK B n p = 1 → f 400 7 = iN (wI B (tS B n p) (tE B n p)))
theorem rK_le {k w : Nat} (h : k ≤ 4) : rK k w ≤ 4 := by
  unfold rK
  repeat' split
  all_goals omega
theorem rK_1 {p : Nat} : rK (tK B n p) (wI B (tS B n p) (tE B n p)) = 1 ↔ tK B n p = 2 := by
  have := tK_le (B := B) (n := n) (p := p)
  unfold rK
  refine ⟨fun h => ?_, fun h => by rw [if_neg (by omega), if_pos h]⟩
  split at h
  · split at h <;> cases h
  · split at h
    · assumption
    · split at h
      · cases h
      · omega
theorem r_also {Q : Hp → Prop} {c p : Nat} (h : rF f F) (h8 : f 400 8 = 0) (hc : 1 ≤ c ∧ c ≤ 4) (hp : p ≤ 600) (le : ¬ F.1 = 0 → F.2 < p ∨ (F.2 = p ∧ F.1 ≤ c)) (kk : ∀ g, rF g (nt F c p) → FrU f g → g 400 = f 400 → Q g) : CV L xs xm_Mo_also [.ref 400, .int (iN c), .int (iN p)] f Q := by
  obtain ⟨h1, h2, h3, h4⟩ := h
  refine t_Mo_also_0 ?_
  rw [h8]
  refine brT rfl ?_
  rw [h3, h4, show (iN F.1 = 0 ↔ F.1 = 0) from iN_inj (b := 0) (by omega) (by omega)]
  unfold nt at kk
  refine ⟨fun z => ?_, fun z => ?_⟩
  · rw [if_pos z] at kk
    refine t_Mo_also_49 fun g1 e1 g2 e2 => ?_
    subst e1 e2
    exact kk _ ⟨hc.2, hp, by rw [xu_k (by omega), xu_eq], by rw [xu_eq]; exact (if_neg (show ¬ c = 0 by omega)).symm⟩ ⟨fun x _ q => by rw [xu_a q, xu_a q], fun j _ => by rw [xu_a (by omega), xu_a (by omega)], fun j a b => by rw [xu_k b, xu_k a]⟩ (by rw [xu_a (by omega), xu_a (by omega)])
  · rw [if_neg z] at kk ⊢
    have K := kk f ⟨h1, h2, h3, by rw [if_neg z, h4, if_neg z]⟩ (FrU.refl f) rfl
    rw [iN_lt (by omega) (by omega), iN_inj (by omega) (by omega), iN_lt (by omega) (by omega)]
    refine ⟨fun _ => K, fun u => ?_⟩
    have := (le z).resolve_left u
    exact brT this.1 (brF (by omega) K)
theorem r_ends {Q : Hp → Prop} {q : Nat} (h8 : f 400 8 = 0) (h4 : f 400 4 = iN q) (hq : q ≤ 600) (kk : ∀ g, rF g (1, q) → g 400 8 = 1 → FrU f g → (∀ j, ¬ j = 8 → g 400 j = f 400 j) → Q g) : CV L xs xm_Mo_ends [.ref 400] f Q := by
  refine t_Mo_ends_0 ?_
  rw [h8]
  refine brT rfl fun g1 e1 g2 e2 g3 e3 => ?_
  have x2 : g2 400 4 = iN q := by rw [e2, xu_a (by omega), e1, xu_k (by omega)]; exact h4
  rw [x2] at e3
  refine kk g3 ⟨by show 1 ≤ 4; omega, hq, by rw [e3, xu_k (by omega), e2, xu_eq]; rfl, by rw [e3, xu_eq]; exact (if_neg (show ¬ (1 : Nat) = 0 by decide)).symm⟩ (by rw [e3, xu_a (by omega), e2, xu_a (by omega), e1, xu_eq]) ⟨fun x a b => by rw [e3, xu_a b, e2, xu_a b, e1, xu_a a], fun j hj => by rw [e3, xu_a (by omega), e2, xu_a (by omega), e1, xu_k (by omega)], fun j a b => by rw [e3, xu_k b, e2, xu_k a, e1, xu_a (by omega)]⟩ fun j hj => by rw [e3, xu_a (by omega), e2, xu_a (by omega), e1, xu_k hj]
theorem r_ends1 {Q : Hp → Prop} (h8 : f 400 8 = 1) (kk : Q f) : CV L xs xm_Mo_ends [.ref 400] f Q := t_Mo_ends_0 (brF (by rw [h8]; decide) kk)
theorem r_on {Q : Hp → Prop} {p : Nat} (c : rB f B n) (tk : rtk f B n p) (kk : ∀ g, rB g B n → rtk g B n (tE B n p) → Fr5 f g → Q g) : CV L xs xm_Mo_advance [.ref 400] f Q := by
  have le := tE_le (B := B) tk.1
  exact r_advance (p0 := tE B n p) (fun g fr a b d e w => kk g (c.fr fr) ⟨le.2, a, b, d, e, w⟩ fr) c _ (tE B n p) f (Fr5.refl f) tk.2.2.2.1 rfl le.2 rfl
/-- a number between two bounds, where nothing has ended -/
theorem r_numb {Q : Int32 → Hp → Prop} {p lo hi : Nat} (c : rB f B n) (tk : rtk f B n p) (rf : rF f F) (h8 : f 400 8 = 0) (hl : lo ≤ 99) (hh : hi ≤ 99) (le : ¬ F.1 = 0 → F.2 < tS B n p ∨ (F.2 = tS B n p ∧ F.1 ≤ 2)) (h1 : tK B n p = 2 → lo ≤ tV B n p ∧ tV B n p ≤ hi → ∀ g, rB g B n → rtk g B n (tE B n p) → rF g F → g 400 8 = 0 → FrU f g → Q (iN (tV B n p)) g) (h2 : tK B n p = 2 → ¬ (lo ≤ tV B n p ∧ tV B n p ≤ hi) → ∀ g, rB g B n → rtk g B n (tE B n p) → rF g (nt F 2 (tS B n p)) → g 400 8 = 0 → FrU f g → Q (iN lo) g) (h0 : ¬ tK B n p = 2 → ∀ g, rF g (1, tS B n p) → g 400 8 = 1 → FrU f g → Q (iN lo) g) : CI L xs xm_Mo_numbered [.ref 400, .int (iN lo), .int (iN hi)] f Q := by
  have c6 := c.1
  have k4 := rK_le (w := wI B (tS B n p) (tE B n p)) (tK_le (B := B) (n := n) (p := p))
  obtain ⟨s1, s2⟩ := tS_le (B := B) tk.1
  refine t_Mo_numbered_0 ?_
  rw [h8]
  refine brT rfl ?_
  rw [tk.2.1, show (iN (rK (tK B n p) (wI B (tS B n p) (tE B n p))) = 1 ↔ _ = 1) from iN_inj (b := 1) (by omega) (by omega), rK_1]
  refine ⟨fun z => ?_, fun z => r_ends h8 tk.2.2.1 (by omega) fun g a b d _ => h0 z g a b d⟩
  have v99 := tV_le z tk.1
  rw [tk.2.2.2.2.1 z]
  refine r_isIn (by omega) (by omega) (fun j a b e => br1 ?_) fun no => br0 ?_
  · have ev := (iN_inj (by omega) (by omega)).mp e
    refine t_Mo_numbered_44 (r_on c tk fun g c1 t1 fr => r_isIn (by omega) (by omega) (fun _ _ _ _ => br1 ?_) fun no => absurd rfl (no (tV B n p) (by omega) (by omega)))
    refine h1 z (by omega) g c1 t1 ⟨rf.1, rf.2.1, by rw [fr.1 401 (by omega)]; exact rf.2.2.1, by rw [fr.1 401 (by omega)]; exact rf.2.2.2⟩ (by rw [fr.2 8 (by omega)]; exact h8) fr.u
  · have bad : ¬ (lo ≤ tV B n p ∧ tV B n p ≤ hi) := fun y => no (tV B n p) y.1 y.2 rfl
    rw [tk.2.2.1]
    refine r_also (c := 2) rf h8 (by omega) (by omega) le fun g1 f1 u1 e1 => ?_
    have c1 := c.u u1
    have t1 : rtk g1 B n p := by unfold rtk; rw [e1]; exact tk
    refine t_Mo_numbered_44 (r_on c1 t1 fun g c2 t2 fr => r_isIn (by omega) (by omega) (fun j a b e => absurd e (no j a b)) fun _ => br0 ?_)
    refine h2 z bad g c2 t2 ⟨f1.1, f1.2.1, by rw [fr.1 401 (by omega)]; exact f1.2.2.1, by rw [fr.1 401 (by omega)]; exact f1.2.2.2⟩ (by rw [fr.2 8 (by omega), e1]; exact h8) (u1.trans fr.u)
theorem r_numb1 {Q : Int32 → Hp → Prop} {lo hi : Int32} (h8 : f 400 8 = 1) (kk : Q lo f) : CI L xs xm_Mo_numbered [.ref 400, .int lo, .int hi] f Q := t_Mo_numbered_0 (brF (by rw [h8]; decide) (r_ends1 h8 kk))
end ALSO
