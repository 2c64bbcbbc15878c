/-! the reference's line: numbers one by one, the sheet -/
abbrev NR : Type := Bool × Nat × FT × (Nat → Int32)
theorem tE_lt {B : Nat → Nat} {n p : Nat} (h : ¬ tK B n p = 0) (hp : p ≤ n) : tS B n p < tE B n p := by
  obtain ⟨a, b⟩ := tS_le (B := B) hp
  have nz : ¬ n ≤ tS B n p := fun z => h (by unfold tK; rw [if_pos z])
  unfold tE
  rw [if_neg nz]
  by_cases l : isL (B (tS B n p)) = true
  · rw [if_pos l, rE_y (by omega) l]
    have := (rE_b (P := isL) (B := B) (n := n) (q := tS B n p + 1) (by omega)).1
    omega
  · rw [if_neg l]
    by_cases g : isG (B (tS B n p)) = true
    · rw [if_pos g, rE_y (by omega) g]
      have := (rE_b (P := isG) (B := B) (n := n) (q := tS B n p + 1) (by omega)).1
      omega
    · rw [if_neg g]; omega
theorem nt_lt {F : FT} {c q x : Nat} (h : ¬ F.1 = 0 → F.2 < x) (hq : q < x) : (nt F c q).2 < x := by
  unfold nt
  split
  · exact hq
  · exact h (by assumption)
theorem nt_f {F : FT} {c q : Nat} (h : ¬ F.1 = 0) : nt F c q = F := if_neg h
theorem fF_f {B : Nat → Nat} {n p i : Nat} {F : FT} {X : DT} (h : ¬ F.1 = 0) : fF B n p i F X = F := by
  unfold fF
  rw [nt_f h, ite_self]
/-- within a line: r numbers are left from the k-th on; W is what they answered -/
def Md (B : Nat → Nat) (n i : Nat) (R : NR) (f : Hp) (r k : Nat) (W : Nat → Int32) : Prop := (f 400 8 = 0 ∧ rB f B n ∧ ∃ p F V, rtk f B n p ∧ rF f F ∧ (¬ F.1 = 0 → F.2 < tS B n p) ∧ nums B n i r k p F V = R ∧ (F.1 = 0 → V = W)) ∨ (f 400 8 = 1 ∧ R.1 = false ∧ rF f (1, tS B n R.2.1))
def FrV (f g : Hp) : Prop := (∀ x, ¬ x = 400 → ¬ x = 401 → ¬ x = 403 → g x = f x) ∧ (∀ j, ¬ (3 ≤ j ∧ j ≤ 9) → g 400 j = f 400 j) ∧ ∀ j, ¬ j = 5 → ¬ j = 6 → g 401 j = f 401 j
theorem FrV.refl (f : Hp) : FrV f f := ⟨fun _ _ _ _ => rfl, fun _ _ => rfl, fun _ _ _ => rfl⟩
theorem FrV.trans {f g h : Hp} (a : FrV f g) (b : FrV g h) : FrV f h := ⟨fun x p q r => by rw [b.1 x p q r, a.1 x p q r], fun j p => by rw [b.2.1 j p, a.2.1 j p], fun j p q => by rw [b.2.2 j p q, a.2.2 j p q]⟩
theorem FrU.v {f g : Hp} (a : FrU f g) : FrV f g := ⟨fun x p q _ => a.1 x p q, fun j p => a.2.1 j (by omega), a.2.2⟩
/-- only the sheet and the greatest member told change -/
def FrS (f g : Hp) : Prop := (∀ x, ¬ x = 400 → ¬ x = 403 → g x = f x) ∧ ∀ j, ¬ j = 9 → g 400 j = f 400 j
theorem FrS.refl (f : Hp) : FrS f f := ⟨fun _ _ _ => rfl, fun _ _ => rfl⟩
theorem FrS.trans {f g h : Hp} (a : FrS f g) (b : FrS g h) : FrS f h := ⟨fun x p q => by rw [b.1 x p q, a.1 x p q], fun j p => by rw [b.2 j p, a.2 j p]⟩
theorem FrS.v {f g : Hp} (a : FrS f g) : FrV f g := ⟨fun x p _ r => a.1 x p r, fun j p => a.2 j (by omega), fun j _ _ => by rw [a.1 401 (by omega) (by omega)]⟩
theorem FrS.put {f g : Hp} {k : Nat} {v : Int32} (a : FrS f g) : FrS f (xu g 403 k v) := ⟨fun x p q => by rw [xu_a q, a.1 x p q], fun j p => by rw [xu_a (by omega), a.2 j p]⟩
section MODE
variable {L : Nat} {xs : Nat → Int32} {f g : Hp} {B : Nat → Nat} {n i : Nat} {F : FT} {R : NR} {W : Nat → Int32}
theorem rB.s (h : rB f B n) (e : FrS f g) : rB g B n := ⟨h.1, by rw [e.2 2 (by omega)]; exact h.2.1, fun i hi => by rw [e.1 401 (by omega) (by omega)]; exact h.2.2 i hi⟩
theorem rF.s (h : rF f F) (e : FrS f g) : rF g F := by unfold rF; rw [e.1 401 (by omega) (by omega)]; exact h
theorem rtk.s {p : Nat} (h : rtk f B n p) (e : FrS f g) : rtk g B n p := by
  unfold rtk
  rw [e.2 5 (by omega), e.2 4 (by omega), e.2 3 (by omega), e.2 6 (by omega), e.2 7 (by omega)]
  exact h
theorem Md.s {r k : Nat} (h : Md B n i R f r k W) (e : FrS f g) : Md B n i R g r k W := by
  rcases h with ⟨h8, c, p, F, V, tk, rf, lt, er, ev⟩ | ⟨h8, er, rf⟩
  · exact Or.inl ⟨by rw [e.2 8 (by omega)]; exact h8, c.s e, p, F, V, tk.s e, rf.s e, lt, er, ev⟩
  · exact Or.inr ⟨by rw [e.2 8 (by omega)]; exact h8, er, rf.s e⟩
theorem r_num {Q : Int32 → Hp → Prop} {r k lo hi : Nat} (el : leN i k = lo) (eh : moN i k = hi) (hl : lo ≤ 99) (hh : hi ≤ 99) (htw : ¬ (k = 1 ∧ twN i = true)) (md : Md B n i R f (r + 1) k W) (kk : ∀ g a, lo ≤ a → a ≤ max lo hi → Md B n i R g r (k + 1) (uV W k (iN a)) → FrU f g → Q (iN a) g) : CI L xs xm_Mo_numbered [.ref 400, .int (iN lo), .int (iN hi)] f Q := by
  rcases md with ⟨h8, c, p, F, V, tk, rf, lt, er, ev⟩ | ⟨h8, er, rf⟩
  · rw [nums_s] at er
    have le := tE_le (B := B) tk.1
    have ls := tS_le (B := B) le.2
    refine r_numb c tk rf h8 hl hh (fun z => Or.inl (lt z)) (fun z ok g c1 t1 f1 e8 u => ?_) (fun z bad g c1 t1 f1 e8 u => ?_) fun z g f1 e8 u => ?_
    · have tl := tE_lt (B := B) (n := n) (p := p) (by omega) tk.1
      have ok' : okN i k (tV B n p) (uV V k (iN (tV B n p)) 0) := ⟨by rw [el]; exact ok.1, by rw [eh]; exact ok.2, fun y => htw ⟨y.1, y.2.1⟩⟩
      rw [if_pos z, if_pos ok'] at er
      exact kk g _ ok.1 (by omega) (Or.inl ⟨e8, c1, _, F, _, t1, f1, fun y => by have := lt y; omega, er, fun y => by rw [ev y]⟩) u
    · have tl := tE_lt (B := B) (n := n) (p := p) (by omega) tk.1
      have no' : ¬ okN i k (tV B n p) (uV V k (iN (tV B n p)) 0) := fun y => bad ⟨by rw [← el]; exact y.1, by rw [← eh]; exact y.2.1⟩
      rw [if_pos z, if_neg no'] at er
      exact kk g lo (Nat.le_refl _) (by omega) (Or.inl ⟨e8, c1, _, nt F 2 (tS B n p), _, t1, f1, fun _ => nt_lt (fun y => by have := lt y; omega) (by omega), er, fun y => absurd y (nt_0 (by decide))⟩) u
    · rw [if_neg z] at er
      exact kk g lo (Nat.le_refl _) (by omega) (Or.inr ⟨e8, by rw [← er], by rw [← er]; exact f1⟩) u
  · exact r_numb1 h8 (kk f lo (Nat.le_refl _) (by omega) (Or.inr ⟨h8, er, rf⟩) (FrU.refl f))
theorem r_mem {Q : Int32 → Hp → Prop} {r k m : Nat} (el : leN i k = 0) (eh : moN i k = 6) (htw : ¬ (k = 1 ∧ twN i = true)) (h9 : f 400 9 = eQ m) (hm : m ≤ 7) (md : Md B n i R f (r + 1) k W) (kk : ∀ g a, a ≤ 6 → Md B n i R g r (k + 1) (uV W k (iN a)) → FrV f g → g 403 = f 403 → g 400 9 = eQ (max m (a + 1)) → Q (iN a) g) : CI L xs xm_Mo_memberTold [.ref 400] f Q := by
  refine r_memb (r_num (lo := 0) (hi := 6) el eh (by omega) (by omega) htw md fun g a _ ha md1 u => ⟨a, m, rfl, by omega, by rw [u.2.1 9 (by omega)]; exact h9, hm, fun g' n1 n2 e9 => ?_⟩)
  have s : FrS g g' := ⟨fun x p _ => n1 x p, n2⟩
  exact kk g' a (by omega) (md1.s s) (u.v.trans s.v) (by rw [n1 403 (by omega), u.1 403 (by omega) (by omega)]) e9
theorem r_oth {Q : Int32 → Hp → Prop} {r m : Nat} (el : leN i 1 = 0) (eh : moN i 1 = 6) (tw : twN i = true) (h9 : f 400 9 = eQ m) (hm : m ≤ 7) (md : Md B n i R f (r + 1) 1 W) (kk : ∀ g a, a ≤ 6 → Md B n i R g r 2 (uV W 1 (iN a)) → FrV f g → g 403 = f 403 → g 400 9 = eQ (max m (a + 1)) → Q (iN a) g) : CI L xs xm_Mo_otherTold [.ref 400, .int (W 0)] f Q := by
  -- after the number
  have go : ∀ g a, a ≤ 6 → Md B n i R g r 2 (uV W 1 (iN a)) → FrU f g → ∃ a' m', iN a = iN a' ∧ a' ≤ 6 ∧ g 400 9 = eQ m' ∧ m' ≤ 7 ∧ ∀ g', (∀ x, ¬ x = 400 → g' x = g x) → (∀ j, ¬ j = 9 → g' 400 j = g 400 j) → g' 400 9 = eQ (max m' (a' + 1)) → Q (iN a') g' := fun g a ha md1 u => ⟨a, m, rfl, ha, by rw [u.2.1 9 (by omega)]; exact h9, hm, fun g' n1 n2 e9 => by
    have s : FrS g g' := ⟨fun x p _ => n1 x p, n2⟩
    exact kk g' a ha (md1.s s) (u.v.trans s.v) (by rw [n1 403 (by omega), u.1 403 (by omega) (by omega)]) e9⟩
  refine t_Mo_otherTold_0 ?_
  rcases md with ⟨h8, c, p, F, V, tk, rf, lt, er, ev⟩ | ⟨h8, er, rf⟩
  · have c6 := c.1
    have k4 := rK_le (w := wI B (tS B n p) (tE B n p)) (tK_le (B := B) (n := n) (p := p))
    have le := tE_le (B := B) tk.1
    have ls := tS_le (B := B) le.2
    have ls0 := tS_le (B := B) tk.1
    rw [nums_s] at er
    rw [h8]
    refine brT rfl ?_
    rw [tk.2.1, show (iN (rK (tK B n p) (wI B (tS B n p) (tE B n p))) = 1 ↔ _ = 1) from iN_inj (b := 1) (by omega) (by omega), rK_1]
    -- what is known of the fault after the number
    have key : ∀ F1, tK B n p = 2 → F1 = (if okN i 1 (tV B n p) (uV V 1 (iN (tV B n p)) 0) then F else nt F 2 (tS B n p)) → ∀ g a, rB g B n → rtk g B n (tE B n p) → rF g F1 → g 400 8 = 0 → (F1.1 = 0 → a = tV B n p) → Md B n i R g r 2 (uV W 1 (iN a)) := fun F1 z e1 g a c1 t1 f1 e8 ea => by
      have tl := tE_lt (B := B) (n := n) (p := p) (by omega) tk.1
      rw [if_pos z, ← e1] at er
      refine Or.inl ⟨e8, c1, _, F1, _, t1, f1, fun y => ?_, er, fun y => ?_⟩
      · rw [e1]
        split
        · rename_i ok
          rw [e1, if_pos ok] at y
          have := lt y; omega
        · exact nt_lt (fun y => by have := lt y; omega) (by omega)
      · have F0 : F.1 = 0 := Classical.byContradiction fun q => by
          rw [e1, nt_f q, ite_self] at y; exact q y
        rw [ev F0, ea y]
    refine ⟨fun z => ?_, fun z => r_memb (r_numb (lo := 0) (hi := 6) c tk rf h8 (by omega) (by omega) (fun z => Or.inl (lt z)) (fun y => absurd y z) (fun y => absurd y z) fun _ g f1 e8 u => ?_)⟩
    · have u0 : uV V 1 (iN (tV B n p)) 0 = V 0 := rfl
      have v99 := tV_le z tk.1
      rw [u0] at key
      rw [tk.2.2.2.2.1 z]
      refine ⟨fun eq => ?_, fun ne => ?_⟩
      · rw [tk.2.2.1]
        have nok : nt F 2 (tS B n p) = (if okN i 1 (tV B n p) (V 0) then F else nt F 2 (tS B n p)) := by
          by_cases F0 : F.1 = 0
          · have no' : ¬ okN i 1 (tV B n p) (V 0) := fun y => y.2.2 ⟨rfl, tw, by rw [ev F0]; exact eq⟩
            rw [if_neg no']
          · rw [nt_f F0, ite_self]
        refine r_also (c := 2) rf h8 (by omega) (by omega) (fun y => Or.inl (lt y)) fun g4 f4 u4 e4 => ?_
        have t4 : rtk g4 B n p := by unfold rtk; rw [e4]; exact tk
        refine r_memb (r_numb (lo := 0) (hi := 6) (c.u u4) t4 f4 (by rw [e4]; exact h8) (by omega) (by omega) (fun y => ?_) (fun _ ok g c1 t1 f1 e8 u => go g _ ok.2 (key _ z nok g _ c1 t1 f1 e8 fun _ => rfl) (u4.trans u)) (fun _ bad g c1 t1 f1 e8 u => go g 0 (by omega) (key _ z nok g 0 c1 t1 ?_ e8 fun y => absurd y (nt_0 (by decide))) (u4.trans u)) fun y => absurd z y)
        · unfold nt at y ⊢
          split
          · exact Or.inr ⟨rfl, by show 2 ≤ 2; omega⟩
          · exact Or.inl (lt (by assumption))
        · rw [nt_f (nt_0 (by decide))] at f1; exact f1
      · refine r_memb (r_numb (lo := 0) (hi := 6) c tk rf h8 (by omega) (by omega) (fun z => Or.inl (lt z)) (fun _ ok g c1 t1 f1 e8 u => go g _ ok.2 (key _ z ?_ g _ c1 t1 f1 e8 fun _ => rfl) u) (fun _ bad g c1 t1 f1 e8 u => go g 0 (by omega) (key _ z ?_ g 0 c1 t1 f1 e8 fun y => absurd y (nt_0 (by decide))) u) fun y => absurd z y)
        · by_cases F0 : F.1 = 0
          · have ok' : okN i 1 (tV B n p) (V 0) := ⟨by omega, by omega, fun y => ne (by rw [← ev F0]; exact y.2.2)⟩
            rw [if_pos ok']
          · rw [nt_f F0, ite_self]
        · have no' : ¬ okN i 1 (tV B n p) (V 0) := fun y => bad ⟨by omega, by have := y.2.1; omega⟩
          rw [if_neg no']
    · rw [if_neg z] at er
      exact go g 0 (by omega) (Or.inr ⟨e8, by rw [← er], by rw [← er]; exact f1⟩) u
  · refine brF (by rw [h8]; decide) (r_memb (r_numb1 h8 (go f 0 (by omega) (Or.inr ⟨h8, er, rf⟩) (FrU.refl f))))
end MODE
