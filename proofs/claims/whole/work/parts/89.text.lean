/-! the reference's text, whole -/
section TEXT
variable {L : Nat} {xs : Nat → Int32} {B : Nat → Nat} {n : Nat}
def FrW (f g : Hp) : Prop := (∀ x, ¬ x = 400 → ¬ x = 401 → ¬ x = 403 → g x = f x) ∧ ∀ j, ¬ j = 5 → ¬ j = 6 → g 401 j = f 401 j
theorem FrW.trans {f g h : Hp} (a : FrW f g) (b : FrW g h) : FrW f h := ⟨fun x p q r => by rw [b.1 x p q r, a.1 x p q r], fun j p q => by rw [b.2 j p q, a.2 j p q]⟩
theorem FrV.w {f g : Hp} (a : FrV f g) : FrW f g := ⟨a.1, a.2.2⟩
theorem FrW.refl (f : Hp) : FrW f f := ⟨fun _ _ _ _ => rfl, fun _ _ _ => rfl⟩
theorem rK_0 {p : Nat} : rK (tK B n p) (wI B (tS B n p) (tE B n p)) = 0 ↔ tK B n p = 0 := by
  have := tK_le (B := B) (n := n) (p := p)
  unfold rK
  refine ⟨fun h => ?_, fun h => by rw [if_neg (by omega), if_neg (by omega), if_neg (by omega)]; exact h⟩
  split at h
  · split at h <;> cases h
  · split at h
    · cases h
    · split at h
      · cases h
      · exact h
theorem kp_21 {i : Nat} {V : Nat → Int32} {X : DT} (hi : 7 ≤ i) : (kp i V X).2.1 = X.2.1 := by
  unfold kp
  rw [if_neg (by omega), if_neg (by omega), if_neg (by omega), if_neg (by omega), if_neg (by omega), if_neg (by omega), if_neg (by omega)]
  split
  · split <;> rfl
  · split <;> rfl
/-- a line of a run or of replies tells no member of the council -/
theorem lin_21 {t p : Nat} {F : FT} {X : DT} (ht : t < 3) (h0 : ¬ t = 0) : (lin B n t p F X).2.2.2.2.1 = X.2.1 := by
  have b3 : 7 ≤ lo3 t := by
    rcases (show t = 1 ∨ t = 2 by omega) with rfl | rfl <;> decide
  by_cases z : tK B n p = 1 ∧ lo3 t < wI B (tS B n p) (tE B n p) ∧ wI B (tS B n p) (tE B n p) ≤ lo3 (t + 1)
  · obtain ⟨z1, z2, z3⟩ := z
    obtain ⟨i, hi⟩ : ∃ i, wI B (tS B n p) (tE B n p) = i + 1 := ⟨wI B (tS B n p) (tE B n p) - 1, by omega⟩
    have h3 : lo3 t ≤ i ∧ i < lo3 (t + 1) := by omega
    obtain ⟨⟨bo, p', F', V'⟩, er⟩ : ∃ r, nums B n i (arN i) 0 (tE B n p) (fF B n p i F X) (fun _ => -1) = r := ⟨_, rfl⟩
    by_cases y : bo = true ∧ tK B n p' = 3
    · obtain ⟨rfl, y⟩ := y
      rw [lin_t z1 hi h3 er y]
      show (if F'.1 = 0 then kp i V' X else X).2.1 = X.2.1
      split
      · exact kp_21 (by omega)
      · rfl
    · rw [lin_f z1 hi h3 er y]
  · rw [lin_no z]
theorem r_anyL {t p : Nat} {F : FT} {X : DT} {f : Hp} {x2 x3 : Int32} {Q2 : Int32 → Hp → Prop} (ht : t < 3) (l : rL B n t f p F X) (wx : wfX X) (kT : ∀ g p' F' X', lin B n t p F X = (true, p', F', X') → rL B n t g p' F' X' → FrV f g → Wp L xs xm_Mo_text 161 [.ref 400, .int (iN t), .int x2, .int x3, .retAddr 0] [] g (QI Q2)) (kF : ∀ g p' F' X', lin B n t p F X = (false, p', F', X') → rF g (1, tS B n p') → g 400 8 = 1 → FrV f g → Wp L xs xm_Mo_text 161 [.ref 400, .int (iN t), .int x2, .int x3, .retAddr 0] [] g (QI Q2)) : ((iN t = 0 → CV L xs xm_Mo_councilLine [.ref 400] f (fun g1 => Wp L xs xm_Mo_text 161 [.ref 400, .int (iN t), .int x2, .int x3, .retAddr 0] [] g1 (QI Q2))) ∧ (¬ iN t = 0 → ((iN t = 1 → CV L xs xm_Mo_runLine [.ref 400] f (fun g2 => Wp L xs xm_Mo_text 161 [.ref 400, .int (iN t), .int x2, .int x3, .retAddr 0] [] g2 (QI Q2))) ∧ (¬ iN t = 1 → CV L xs xm_Mo_repliesLine [.ref 400] f (fun g3 => Wp L xs xm_Mo_text 161 [.ref 400, .int (iN t), .int x2, .int x3, .retAddr 0] [] g3 (QI Q2)))))) := by
  rcases (show t = 0 ∨ t = 1 ∨ t = 2 by omega) with rfl | rfl | rfl
  · exact brT rfl (r_coLine l wx kT kF)
  · exact brF (by decide) (brT rfl (r_ruLine l wx kT kF))
  · exact brF (by decide) (brF (by decide) (r_rpLine l wx kT kF))
/-- behind the last line -/
theorem r_225 {Q : Int32 → Hp → Prop} {t : Nat} {F : FT} {X : DT} {f : Hp} {x2 x3 : Int32} (ht : t < 3) (wx : wfX X) (wy : wfY X) (h0 : ¬ t = 0 → X.2.1 = 0) (rf : rF f F) (h8 : F.1 = 0 → f 400 8 = 0 ∧ f 400 4 = iN n) (hn : n ≤ 600) (sh : F.1 = 0 → Sh t f F X) (kk : ∀ g, rF g (fin4 n (F, X)) → ((fin4 n (F, X)).1 = 0 → shT t (g 403) X) → FrW f g → Wp L xs xm_Mo_text 262 [.ref 400, .int (iN t), .int x2, .int x3, .retAddr 0] [] g (QI Q)) : Wp L xs xm_Mo_text 225 [.ref 400, .int (iN t), .int x2, .int x3, .retAddr 0] [] f (QI Q) := by
  have r1 := rf.1
  have w2 := wx.2.1
  have y1 := wy.1
  unfold fin4 at kk
  by_cases F0 : F.1 = 0
  · obtain ⟨⟨m, hm, h9, em⟩, _, s⟩ := sh F0
    have s := s F0
    by_cases t0 : t = 0
    · subst t0
      have em := em rfl F0
      subst em
      have s : shC (f 403) X.1 := s
      refine t_Mo_text_225 (brT rfl (brT (by rw [rf.2.2.1, F0]; rfl) ?_))
      rw [s.1, h9, (h8 F0).2]
      have key : 3 * iN (dF X.1) < eQ X.2.1 ↔ ¬ X.2.1 ≤ 3 * dF X.1 + 1 := by
        rw [show (3 : Int32) = iN 3 from rfl, iN_mul]
        unfold eQ
        by_cases z : X.2.1 = 0
        · rw [if_pos z]
          refine ⟨fun h => ?_, fun h => by omega⟩
          rw [Int32.lt_iff_toInt_lt, iN_toInt (by omega)] at h
          have : (-1 : Int32).toInt = -1 := by decide
          omega
        · rw [if_neg z, iN_lt (by omega) (by omega)]; omega
      rw [key]
      refine ⟨fun z => ?_, fun z => ?_⟩
      · rw [if_neg z] at kk
        exact r_also (c := 4) rf (h8 F0).1 (by omega) hn (fun y => absurd F0 y) fun g a b _ => kk g a (fun y => absurd y (nt_0 (by decide))) b.v.w
      · have z : X.2.1 ≤ 3 * dF X.1 + 1 := Classical.byContradiction z
        rw [if_pos z] at kk
        exact kk f rf (fun _ => s) (FrW.refl f)
    · rw [if_pos (show X.2.1 ≤ 3 * dF X.1 + 1 by have := h0 t0; omega)] at kk
      refine t_Mo_text_225 (brF (fun z => t0 ((iN_inj (b := 0) (by omega) (by omega)).mp z)) (kk f rf (fun _ => s) (FrW.refl f)))
  · have K : Wp L xs xm_Mo_text 262 [.ref 400, .int (iN t), .int x2, .int x3, .retAddr 0] [] f (QI Q) := by
      refine kk f ?_ (fun y => ?_) (FrW.refl f)
      · show rF f (if X.2.1 ≤ 3 * dF X.1 + 1 then F else nt F 4 n)
        rw [nt_f F0, ite_self]; exact rf
      · have y : (if X.2.1 ≤ 3 * dF X.1 + 1 then F else nt F 4 n).1 = 0 := y
        rw [nt_f F0, ite_self] at y
        exact absurd y F0
    refine t_Mo_text_225 ⟨fun _ => brF (fun z => F0 ?_) K, fun _ => K⟩
    rw [rf.2.2.1] at z
    exact (iN_inj (b := 0) (by omega) (by omega)).mp z
theorem r_tend {Q : Int32 → Hp → Prop} {t p : Nat} {F : FT} {X : DT} {f f0 : Hp} {x2 x3 : Int32} (ht : t < 3) (kk : ∀ g, rF g (fin4 n (F, X)) → ((fin4 n (F, X)).1 = 0 → shT t (g 403) X) → FrW f0 g → Wp L xs xm_Mo_text 262 [.ref 400, .int (iN t), .int x2, .int x3, .retAddr 0] [] g (QI Q)) (l : rL B n t f p F X) (wx : wfX X) (wy : wfY X) (h21 : ¬ t = 0 → X.2.1 = 0) (T : FrW f0 f) (z : tK B n p = 0) : Wp L xs xm_Mo_text 161 [.ref 400, .int (iN t), .int x2, .int x3, .retAddr 0] [] f (QI Q) := by
  obtain ⟨c, tk, rf, h8, lt, sh⟩ := l
  have c6 := c.1
  obtain ⟨s1, s2⟩ := tS_le (B := B) tk.1
  have k4 := rK_le (w := wI B (tS B n p) (tE B n p)) (tK_le (B := B) (n := n) (p := p))
  have en : tS B n p = n := by
    have : n ≤ tS B n p := Classical.byContradiction fun q => by
      unfold tK at z
      rw [if_neg q] at z
      split at z
      · cases z
      · split at z
        · split at z <;> cases z
        · split at z <;> cases z
    omega
  refine t_Mo_text_161 ?_
  rw [h8]
  refine brT rfl ?_
  rw [tk.2.1, show (iN (rK (tK B n p) (wI B (tS B n p) (tE B n p))) = 0 ↔ _ = 0) from iN_inj (b := 0) (by omega) (by omega), rK_0]
  exact brT z (r_225 ht wx wy h21 rf (fun _ => ⟨h8, by rw [tk.2.2.1, en]⟩) c6 (fun _ => sh) (fun g a b d => kk g a b (T.trans d)))
theorem r_textL {Q : Int32 → Hp → Prop} {t : Nat} {x2 x3 : Int32} {f0 : Hp} (ht : t < 3) {R0 : FT × DT} (kk : ∀ g, rF g (fin4 n R0) → ((fin4 n R0).1 = 0 → shT t (g 403) R0.2) → FrW f0 g → Wp L xs xm_Mo_text 262 [.ref 400, .int (iN t), .int x2, .int x3, .retAddr 0] [] g (QI Q)) : ∀ k p F X (f : Hp), n ≤ p + k → rL B n t f p F X → wfX X → wfY X → (¬ t = 0 → X.2.1 = 0) → FrW f0 f → prs B n t k p F X = R0 → Wp L xs xm_Mo_text 161 [.ref 400, .int (iN t), .int x2, .int x3, .retAddr 0] [] f (QI Q)
  | 0, p, F, X, f, hk, l, wx, wy, h21, T, e => by
    have e : R0 = (F, X) := e.symm
    subst e
    obtain ⟨s1, s2⟩ := tS_le (B := B) l.2.1.1
    exact r_tend ht kk l wx wy h21 T (by unfold tK; rw [if_pos (by omega)])
  | k + 1, p, F, X, f, hk, l, wx, wy, h21, T, e => by
    rw [prs_s] at e
    by_cases z : tK B n p = 0
    · rw [if_pos z] at e
      subst e
      exact r_tend ht kk l wx wy h21 T z
    rw [if_neg z] at e
    have hp := l.2.1.1
    have c6 := l.1.1
    have k4 := rK_le (w := wI B (tS B n p) (tE B n p)) (tK_le (B := B) (n := n) (p := p))
    have lw := lin_wf (B := B) (F := F) hp ht wx
    have ly := lin_wfy (B := B) (n := n) (p := p) (F := F) ht wx wy
    have l2 := fun h0 => lin_21 (B := B) (n := n) (p := p) (F := F) (X := X) ht h0
    refine t_Mo_text_161 ?_
    rw [l.2.2.2.1]
    refine brT rfl ?_
    rw [l.2.1.2.1, show (iN (rK (tK B n p) (wI B (tS B n p) (tE B n p))) = 0 ↔ _ = 0) from iN_inj (b := 0) (by omega) (by omega), rK_0]
    refine brF z (r_anyL ht l wx (fun g p' F' X' el l' v => ?_) fun g p' F' X' el f' e8 v => ?_)
    · rw [el] at e lw ly l2
      have pl : p < p' := lw.2.2.2 rfl
      exact r_textL ht kk k p' F' X' g (by omega) l' lw.1 ly (fun h0 => (l2 h0).trans (h21 h0)) (T.trans v.w) (by simpa using e)
    · rw [el] at e lw ly l2
      have e : R0 = ((1, tS B n p'), X') := by
        rw [← e]; exact if_neg (fun h => by cases h)
      subst e
      refine t_Mo_text_161 (brF (by rw [e8]; decide) ?_)
      exact r_225 ht lw.1 ly (fun h0 => (l2 h0).trans (h21 h0)) f' (fun h => by cases h) c6 (fun h => by cases h) (fun g a b d => kk g a b ((T.trans v.w).trans d))
theorem X0_sh {t : Nat} {f : Hp} (ht : t < 3) (h9 : f 400 9 = -1) (h0 : t = 0 → shC (f 403) X0.1) (h1 : ¬ t = 0 → f 403 0 = 0) : Sh t f (0, 0) X0 := by
  rcases (show t = 0 ∨ t = 1 ∨ t = 2 by omega) with rfl | rfl | rfl
  · exact ⟨⟨0, by omega, h9, fun _ _ => rfl⟩, ⟨0, by omega, (h0 rfl).2.2.2.2.1, fun _ => rfl⟩, fun _ => h0 rfl⟩
  · exact ⟨⟨0, by omega, h9, fun _ _ => rfl⟩, ⟨0, by omega, h1 (by decide), fun _ => rfl⟩, fun _ => ⟨h1 (by decide), fun k h => absurd h (Nat.not_lt_zero _)⟩⟩
  · exact ⟨⟨0, by omega, h9, fun _ _ => rfl⟩, ⟨0, by omega, h1 (by decide), fun _ => rfl⟩, fun _ => ⟨h1 (by decide), fun k h => absurd h (Nat.not_lt_zero _)⟩⟩
theorem r_text71 {Q : Int32 → Hp → Prop} {t : Nat} {x2 : Int32} {f : Hp} (ht : t < 3) (c : rB f B n) (rf : rF f (0, 0)) (kk : ∀ g x3, rF g (fin4 n (prs B n t 600 0 (0, 0) X0)) → ((fin4 n (prs B n t 600 0 (0, 0) X0)).1 = 0 → shT t (g 403) (prs B n t 600 0 (0, 0) X0).2) → FrW f g → Wp L xs xm_Mo_text 262 [.ref 400, .int (iN t), .int x2, .int x3, .retAddr 0] [] g (QI Q)) : Wp L xs xm_Mo_text 71 [.ref 400, .int (iN t), .int x2, .retAddr 0, .retAddr 0] [] f (QI Q) := by
  have c6 := c.1
  refine t_Mo_text_71 fun g1 e1 g2 e2 g3 e3 => ?_
  have n3 : ∀ x, ¬ x = 400 → g3 x = f x := fun x hx => by rw [e3, xu_a hx, e2, xu_a hx, e1, xu_a hx]
  have v3 : g3 400 3 = 0 ∧ g3 400 8 = 0 ∧ g3 400 9 = -1 ∧ g3 400 2 = iN n := by
    refine ⟨?_, ?_, ?_, ?_⟩
    · rw [e3, xu_k (by omega), e2, xu_k (by omega), e1, xu_eq]
    · rw [e3, xu_k (by omega), e2, xu_eq]
    · rw [e3, xu_eq]
    · rw [e3, xu_k (by omega), e2, xu_k (by omega), e1, xu_k (by omega)]; exact c.2.1
  -- on from a cleared sheet
  have go : ∀ h x3, (∀ x, ¬ x = 403 → h x = g3 x) → (t = 0 → shC (h 403) X0.1) → (¬ t = 0 → h 403 0 = 0) → CV L xs xm_Mo_advance [.ref 400] h (fun g1 => Wp L xs xm_Mo_text 161 [.ref 400, .int (iN t), .int x2, .int x3, .retAddr 0] [] g1 (QI Q)) := fun h x3 n4 s0 s1 => by
    have cb : rB h B n := ⟨c6, by rw [n4 400 (by omega)]; exact v3.2.2.2, fun i hi => by rw [n4 401 (by omega), n3 401 (by omega)]; exact c.2.2 i hi⟩
    refine r_advance (p0 := 0) (fun g fr a b d e w => ?_) cb _ 0 h (Fr5.refl h) (by rw [n4 400 (by omega)]; exact v3.1) rfl (by omega) rfl
    have tk : rtk g B n 0 := ⟨by omega, a, b, d, e, w⟩
    have f1 : rF g (0, 0) := by
      unfold rF
      rw [fr.1 401 (by omega), n4 401 (by omega), n3 401 (by omega)]; exact rf
    have T : FrW f g := ⟨fun x p q r => by rw [fr.1 x p, n4 x r, n3 x p], fun j _ _ => by rw [fr.1 401 (by omega), n4 401 (by omega), n3 401 (by omega)]⟩
    refine r_textL ht (fun g' => kk g' x3) 600 0 (0, 0) X0 g (by omega) ⟨cb.fr fr, tk, f1, by rw [fr.2 8 (by omega), n4 400 (by omega)]; exact v3.2.1, fun y => absurd rfl y, ?_⟩ X0_wf.1 X0_wf.2 (fun _ => rfl) T rfl
    exact X0_sh ht (by rw [fr.2 9 (by omega), n4 400 (by omega)]; exact v3.2.2.1) (fun z => by rw [fr.1 403 (by omega)]; exact s0 z) fun z => by rw [fr.1 403 (by omega)]; exact s1 z
  refine for0 161 (fun k l g => l = [.ref 400, .int (iN t), .int x2, .int (iN k), .retAddr 0] ∧ (∀ j, j < k → g 403 j = 0) ∧ ∀ x, ¬ x = 403 → g x = g3 x) ⟨rfl, fun j h => absurd h (by omega), fun _ _ => rfl⟩ ?_ ?_
  · rintro k l g hk ⟨rfl, b1, b2⟩ k2
    refine t_Mo_text_88 (brT ((iN_lt (b := 161) (by omega) (by omega)).mpr (by omega)) ⟨k, rfl, hk, fun g5 e5 => ?_⟩)
    rw [iN_inc]
    refine k2 _ _ ⟨rfl, fun j hj => ?_, fun x hx => by rw [e5, xu_a hx, b2 x hx]⟩
    by_cases z : j = k
    · rw [z, e5, xu_eq]
    · rw [e5, xu_k z]; exact b1 j (by omega)
  · rintro l g ⟨rfl, b1, b2⟩
    refine t_Mo_text_88 (brF (fun z => absurd ((iN_lt (b := 161) (by omega) (by omega)).mp z) (by omega)) ⟨fun z => ?_, fun z => go g _ b2 (fun y => absurd (by rw [y]; rfl) z) fun _ => b1 0 (by omega)⟩)
    intro g2' e2' g3' e3' g4 e4
    have t0 : t = 0 := (iN_inj (b := 0) (by omega) (by omega)).mp z
    have n4 : ∀ x, ¬ x = 403 → g4 x = g3 x := fun x hx => by rw [e4, xu_a hx, e3', xu_a hx, e2', xu_a hx, b2 x hx]
    have v4 : g4 403 0 = 1 ∧ g4 403 1 = 4 ∧ g4 403 2 = 2 ∧ ∀ j, 3 ≤ j → j < 161 → g4 403 j = 0 := by
      refine ⟨?_, ?_, ?_, fun j h3 hj => ?_⟩
      · rw [e4, xu_k (by omega), e3', xu_k (by omega), e2', xu_eq]
      · rw [e4, xu_k (by omega), e3', xu_eq]
      · rw [e4, xu_eq]
      · rw [e4, xu_k (by omega), e3', xu_k (by omega), e2', xu_k (by omega)]; exact b1 j hj
    refine for0 49 (fun k l g => l = [.ref 400, .int (iN t), .int x2, .int (iN k), .retAddr 0] ∧ (∀ j, j < k → g 403 (33 + j) = 1) ∧ (∀ j, j < 33 → g 403 j = g4 403 j) ∧ ∀ x, ¬ x = 403 → g x = g4 x) ⟨rfl, fun j h => absurd h (by omega), fun _ _ => rfl, fun _ _ => rfl⟩ ?_ ?_
    · rintro k l g hk ⟨rfl, c1, c3, c2⟩ k2
      refine t_Mo_text_135 (brT ((iN_lt (b := 49) (by omega) (by omega)).mpr (by omega)) ⟨33 + k, iN_add 33 k, by omega, fun g5 e5 => ?_⟩)
      rw [iN_inc]
      refine k2 _ _ ⟨rfl, fun j hj => ?_, fun j hj => by rw [e5, xu_k (by omega)]; exact c3 j hj, fun x hx => by rw [e5, xu_a hx, c2 x hx]⟩
      by_cases z : j = k
      · rw [z, e5, xu_eq]
      · rw [e5, xu_k (by omega)]; exact c1 j (by omega)
    · rintro l g ⟨rfl, c1, c3, c2⟩
      refine t_Mo_text_135 (brF (fun z => absurd ((iN_lt (b := 49) (by omega) (by omega)).mp z) (by omega)) (go g _ (fun x hx => by rw [c2 x hx, n4 x hx]) (fun _ => ?_) fun y => absurd t0 y))
      refine ⟨by rw [c3 0 (by omega)]; exact v4.1, by rw [c3 1 (by omega)]; exact v4.2.1, by rw [c3 2 (by omega)]; exact v4.2.2.1, by rw [c3 3 (by omega)]; exact v4.2.2.2 3 (by omega) (by omega), by rw [c3 4 (by omega)]; exact v4.2.2.2 4 (by omega) (by omega), fun i hi => by rw [c3 (5 + i) (by omega)]; exact v4.2.2.2 _ (by omega) (by omega), fun j hj => absurd hj (Nat.not_lt_zero _), fun a b ha hb => ?_⟩
      have := c1 (7 * a + b) (by omega)
      rw [← Nat.add_assoc] at this
      exact this
end TEXT
