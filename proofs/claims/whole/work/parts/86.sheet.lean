/-! the reference's sheet, a line's end -/
def shC (u : Nat → Int32) (D : CD) : Prop := u 0 = iN (dF D) ∧ u 1 = iN (dW D) ∧ u 2 = iN (dS D) ∧ u 3 = iN (dL D) ∧ u 4 = iN (dN D) ∧ (∀ i, i < 8 → u (5 + i) = iN (dA D i)) ∧ (∀ j, j < dN D → u (13 + 2 * j) = iN (dO D j) ∧ u (14 + 2 * j) = iN (dP D j)) ∧ ∀ a b, a < 7 → b < 7 → u (33 + 7 * a + b) = iN (dD D a b)
def shR (u : Nat → Int32) (R : RD) : Prop := u 0 = iN R.1 ∧ ∀ k, k < R.1 → u (1 + 4 * k) = iN (R.2.1 k) ∧ u (2 + 4 * k) = iN (R.2.2.1 k) ∧ u (3 + 4 * k) = R.2.2.2.1 k ∧ u (4 + 4 * k) = R.2.2.2.2 k
def shP (u : Nat → Int32) (R : PD) : Prop := u 0 = iN R.1 ∧ ∀ k, k < R.1 → u (1 + 3 * k) = iN (R.2.1 k) ∧ u (2 + 3 * k) = iN (R.2.2.1 k) ∧ u (3 + 3 * k) = iN (R.2.2.2 k)
def shT (t : Nat) (u : Nat → Int32) (X : DT) : Prop := if t = 0 then shC u X.1 else if t = 1 then shR u X.2.2.1 else shP u X.2.2.2
def cnI (t : Nat) : Nat := if t = 0 then 4 else 0
def cnM (t : Nat) : Nat := if t = 0 then 10 else if t = 1 then 40 else 12
def cnX (t : Nat) (X : DT) : Nat := if t = 0 then dN X.1 else if t = 1 then X.2.2.1.1 else X.2.2.2.1
theorem shT_n {t : Nat} {u : Nat → Int32} {X : DT} (h : shT t u X) : u (cnI t) = iN (cnX t X) := by
  unfold shT at h
  unfold cnI cnX
  by_cases z : t = 0
  · rw [if_pos z] at h ⊢
    rw [if_pos z]; exact h.2.2.2.2.1
  · rw [if_neg z] at h ⊢
    rw [if_neg z]
    by_cases y : t = 1
    · rw [if_pos y] at h ⊢; exact h.1
    · rw [if_neg y] at h ⊢; exact h.1
/-- the sheet: what is told where there is no fault; else its count alone -/
def Sh (t : Nat) (f : Hp) (F : FT) (X : DT) : Prop := (∃ m, m ≤ 7 ∧ f 400 9 = eQ m ∧ (t = 0 → F.1 = 0 → m = X.2.1)) ∧ (∃ c, c ≤ cnM t ∧ f 403 (cnI t) = iN c ∧ (F.1 = 0 → c = cnX t X)) ∧ (F.1 = 0 → shT t (f 403) X)
def rL (B : Nat → Nat) (n t : Nat) (f : Hp) (p : Nat) (F : FT) (X : DT) : Prop := rB f B n ∧ rtk f B n p ∧ rF f F ∧ f 400 8 = 0 ∧ (¬ F.1 = 0 → F.2 < tS B n p) ∧ Sh t f F X
section SHEET
variable {L : Nat} {xs : Nat → Int32} {f g : Hp} {B : Nat → Nat} {n i t p : Nat} {F : FT} {R : NR} {W : Nat → Int32} {X : DT}
theorem Sh.fr (h : Sh t f F X) (e1 : g 400 9 = f 400 9) (e2 : g 403 = f 403) : Sh t g F X := by
  unfold Sh
  rw [e1, e2]; exact h
theorem r_fin {Q : Hp → Prop} (h1 : tK B n p = 1) (h2 : wI B (tS B n p) (tE B n p) = i + 1) (h3 : lo3 t ≤ i ∧ i < lo3 (t + 1)) (hR : nums B n i (arN i) 0 (tE B n p) (fF B n p i F X) (fun _ => -1) = R) (md : Md B n i R f 0 (arN i) W) (sh : Sh t f R.2.2.1 (if R.2.2.1.1 = 0 then kp i W X else X)) (kT : ∀ g p' F' X', lin B n t p F X = (true, p', F', X') → rL B n t g p' F' X' → FrU f g → Q g) (kF : ∀ g p' F' X', lin B n t p F X = (false, p', F', X') → rF g (1, tS B n p') → g 400 8 = 1 → FrU f g → Q g) : CV L xs xm_Mo_endsLine [.ref 400] f Q := by
  rcases md with ⟨h8, c, p', F', V, tk, rf, lt, er, ev⟩ | ⟨h8, er, rf⟩
  · have er' : nums B n i (arN i) 0 (tE B n p) (fF B n p i F X) (fun _ => -1) = (true, p', F', V) := hR.trans er.symm
    subst er
    have le := tE_le (B := B) tk.1
    have ls := tS_le (B := B) le.2
    refine r_endsL c tk rf h8 (fun z g c1 t1 f1 e8 u => ?_) fun z g f1 e8 u => kF g p' F' X (lin_f h1 h2 h3 er' (fun y => z y.2)) f1 e8 u
    have tl := tE_lt (B := B) (n := n) (p := p') (by omega) tk.1
    refine kT g _ _ _ (lin_t h1 h2 h3 er' z) ⟨c1, t1, f1, e8, fun y => by have := lt y; omega, ?_⟩ u
    have sh : Sh t f F' (if F'.1 = 0 then kp i W X else X) := sh
    refine Sh.fr ?_ (u.2.1 9 (by omega)) (u.1 403 (by omega) (by omega))
    by_cases F0 : F'.1 = 0
    · rw [if_pos F0] at sh ⊢
      rw [ev F0]; exact sh
    · rw [if_neg F0] at sh ⊢; exact sh
  · obtain ⟨b, p', F', V'⟩ := R
    have eb : b = false := er
    subst eb
    exact r_endsL1 h8 (kF f p' F' X (lin_f h1 h2 h3 hR (fun y => by cases y.1)) rf h8 (FrU.refl f))
/-- the numbers' fault is none: no fault before, and room -/
theorem nums_0 (hR : nums B n i (arN i) 0 (tE B n p) (fF B n p i F X) (fun _ => -1) = R) (h : R.2.2.1.1 = 0) : F.1 = 0 ∧ ¬ fulX i X = true := by
  have := nums_F (B := B) (n := n) (i := i) (arN i) 0 (tE B n p) (fF B n p i F X) (fun _ => -1) (by rw [hR]; exact h)
  have F0 : F.1 = 0 := Classical.byContradiction fun q => by
    rw [fF_f q] at this; exact q this
  refine ⟨F0, fun z => ?_⟩
  unfold fF at this
  rw [if_pos z] at this
  exact nt_0 (by decide) this
/-- the same count, with no fault told before -/
theorem Sh.same {X' : DT} (h : Sh t f F X) (hR : nums B n i (arN i) 0 (tE B n p) (fF B n p i F X) (fun _ => -1) = R) (e9 : ∃ m', m' ≤ 7 ∧ g 400 9 = eQ m' ∧ (t = 0 → F.1 = 0 → m' = X'.2.1)) (ec : g 403 (cnI t) = f 403 (cnI t)) (en : cnX t X' = cnX t X) (es : F.1 = 0 → shT t (f 403) X → shT t (g 403) X') : Sh t g R.2.2.1 (if R.2.2.1.1 = 0 then X' else X) := by
  obtain ⟨_, ⟨c, hc, e, ecx⟩, h3⟩ := h
  obtain ⟨m', a1, a2, a3⟩ := e9
  by_cases z : R.2.2.1.1 = 0
  · rw [if_pos z]
    obtain ⟨F0, _⟩ := nums_0 hR z
    exact ⟨⟨m', a1, a2, fun t0 _ => a3 t0 F0⟩, ⟨c, hc, by rw [ec]; exact e, fun _ => by rw [en]; exact ecx F0⟩, fun _ => es F0 (h3 F0)⟩
  · rw [if_neg z]
    exact ⟨⟨m', a1, a2, fun _ y => absurd y z⟩, ⟨c, hc, by rw [ec]; exact e, fun y => absurd y z⟩, fun y => absurd y z⟩
/-- one more -/
theorem Sh.more {X' : DT} {c : Nat} (h : Sh t f F X) (hR : nums B n i (arN i) 0 (tE B n p) (fF B n p i F X) (fun _ => -1) = R) (e9 : ∃ m', m' ≤ 7 ∧ g 400 9 = eQ m' ∧ (t = 0 → F.1 = 0 → m' = X'.2.1)) (ec : g 403 (cnI t) = iN c) (hc : c ≤ cnM t) (es : F.1 = 0 → ¬ fulX i X = true → shT t (f 403) X → c = cnX t X' ∧ shT t (g 403) X') : Sh t g R.2.2.1 (if R.2.2.1.1 = 0 then X' else X) := by
  obtain ⟨_, _, h3⟩ := h
  obtain ⟨m', a1, a2, a3⟩ := e9
  by_cases z : R.2.2.1.1 = 0
  · rw [if_pos z]
    obtain ⟨F0, nf⟩ := nums_0 hR z
    have := es F0 nf (h3 F0)
    exact ⟨⟨m', a1, a2, fun t0 _ => a3 t0 F0⟩, ⟨c, hc, ec, fun _ => this.1⟩, fun _ => this.2⟩
  · rw [if_neg z]
    exact ⟨⟨m', a1, a2, fun _ y => absurd y z⟩, ⟨c, hc, ec, fun y => absurd y z⟩, fun y => absurd y z⟩
/-- the numbers begin, after the line's word -/
theorem Md.ini (z : tK B n p = 1) (hp : p ≤ n) (c1 : rB g B n) (t1 : rtk g B n (tE B n p)) (f1 : rF g (fF B n p i F X)) (e8 : g 400 8 = 0) (lt : ¬ F.1 = 0 → F.2 < tS B n p) : Md B n i (nums B n i (arN i) 0 (tE B n p) (fF B n p i F X) (fun _ => -1)) g (arN i) 0 (fun _ => -1) := by
  have le := tE_le (B := B) hp
  have ls := tS_le (B := B) le.2
  have tl := tE_lt (B := B) (n := n) (p := p) (by omega) hp
  refine Or.inl ⟨e8, c1, _, _, _, t1, f1, fun y => ?_, rfl, fun _ => rfl⟩
  unfold fF at y ⊢
  split
  · exact nt_lt (fun y => by have := lt y; omega) (by omega)
  · rename_i q
    rw [if_neg q] at y
    have := lt y; omega
/-- the line is full: told at its word -/
theorem r_full {Q : Hp → Prop} {c : Nat} (hp : p ≤ n) (hn : n ≤ 600) (rf : rF f F) (h8 : f 400 8 = 0) (lt : ¬ F.1 = 0 → F.2 < tS B n p) (hf : F.1 = 0 → (fulX i X = true ↔ ¬ c < cnM t)) (hc : ¬ c < cnM t) (kk : ∀ g, rF g (fF B n p i F X) → FrU f g → g 400 = f 400 → Q g) : CV L xs xm_Mo_also [.ref 400, .int 3, .int (iN (tS B n p))] f Q := by
  obtain ⟨s1, s2⟩ := tS_le (B := B) hp
  refine r_also (c := 3) rf h8 (by omega) (by omega) (fun y => Or.inl (lt y)) fun g a b d => kk g ?_ b d
  by_cases F0 : F.1 = 0
  · unfold fF
    rw [if_pos ((hf F0).mpr hc)]; exact a
  · rw [fF_f F0]
    rw [nt_f F0] at a; exact a
theorem fF_n {c : Nat} (hf : F.1 = 0 → (fulX i X = true ↔ ¬ c < cnM t)) (hc : c < cnM t) : fF B n p i F X = F := by
  by_cases F0 : F.1 = 0
  · unfold fF
    rw [if_neg fun y => (hf F0).mp y hc]
  · exact fF_f F0
end SHEET
