/-! SUMS of accounts; accounts behind orders -/
def comb (x y : Int32) : Int32 := jrem (31 * x + 17 * y + 7) 9973
def nd (a : Nat → Int32) (k : Nat) : Int32 := if 8 ≤ k then a (k - 8) else if 4 ≤ k then comb (a (2 * k - 8)) (a (2 * k - 7)) else if 2 ≤ k then comb (comb (a (4 * k - 8)) (a (4 * k - 7))) (comb (a (4 * k - 6)) (a (4 * k - 5))) else comb (comb (comb (a 0) (a 1)) (comb (a 2) (a 3))) (comb (comb (a 4) (a 5)) (comb (a 6) (a 7)))
theorem nd_step (a : Nat → Int32) {k : Nat} (h1 : 1 ≤ k) (h2 : k < 8) : nd a k = comb (nd a (2 * k)) (nd a (2 * k + 1)) := by
  have : k = 1 ∨ k = 2 ∨ k = 3 ∨ k = 4 ∨ k = 5 ∨ k = 6 ∨ k = 7 := by omega
  rcases this with e | e | e | e | e | e | e <;> subst e <;> rfl
theorem nd_leaf (a : Nat → Int32) (k : Nat) : nd a (8 + k) = a k := by
  unfold nd
  rw [if_pos (by omega), show 8 + k - 8 = k by omega]
theorem nd_congr {a b : Nat → Int32} (h : ∀ i, i < 8 → a i = b i) {k : Nat} (hk : k < 16) : nd a k = nd b k := by
  unfold nd
  by_cases h8 : 8 ≤ k
  · rw [if_pos h8, if_pos h8, h _ (by omega)]
  · rw [if_neg h8, if_neg h8]
    by_cases h4 : 4 ≤ k
    · rw [if_pos h4, if_pos h4, h _ (by omega), h _ (by omega)]
    · rw [if_neg h4, if_neg h4]
      by_cases h2 : 2 ≤ k
      · rw [if_pos h2, if_pos h2, h _ (by omega), h _ (by omega), h _ (by omega), h _ (by omega)]
      · rw [if_neg h2, if_neg h2, h 0 (by omega), h 1 (by omega), h 2 (by omega), h 3 (by omega), h 4 (by omega), h 5 (by omega), h 6 (by omega), h 7 (by omega)]
section SUMS
variable {L : Nat} {xs : Nat → Int32} {f : Hp}
theorem c_build {Q : Hp → Prop} {a b na : Nat} (ka : xS0 L a = (20, na)) (kb : xS0 L b = (20, 16)) (hna : 8 ≤ na) (hab : ¬ a = b) (k : ∀ g, (∀ k, 1 ≤ k → k < 16 → g b k = nd (f a) k) → (∀ x, ¬ x = b → g x = f x) → Q g) : CV L xs xm_Su_build [.ref a, .ref b] f Q := by
  refine t_Su_build_0 ka kb ?_
  refine for0 8 (fun k l g => l = [.ref a, .ref b, .int (iN k)] ∧ (∀ i, i < k → g b (8 + i) = f a i) ∧ ∀ x, ¬ x = b → g x = f x) ⟨rfl, fun i hi => absurd hi (by omega), fun _ _ => rfl⟩ ?_ ?_
  · rintro i l g hi ⟨rfl, h1, h2⟩ kk
    refine t_Su_build_2 ka kb (brT ((iN_lt (b := 8) (by omega) (by omega)).mpr (by omega)) ⟨i, rfl, by omega, 8 + i, iN_add 8 i, by omega, fun g1 e1 => ?_⟩)
    rw [iN_inc]
    refine kk _ g1 ⟨rfl, fun j hj => ?_, fun x hx => by rw [e1, xu_a hx, h2 x hx]⟩
    rw [e1, xu_at]
    by_cases e : j = i
    · subst e; rw [if_pos ⟨rfl, rfl⟩, h2 a hab]
    · rw [if_neg (by omega), h1 j (by omega)]
  · rintro l g ⟨rfl, h1, h2⟩
    refine t_Su_build_2 ka kb (brF (fun z => absurd ((iN_lt (b := 8) (by omega) (by omega)).mp z) (by omega)) ?_)
    refine for0 7 (fun k l g => l = [.ref a, .ref b, .int (iN (7 - k))] ∧ (∀ i, 8 - k ≤ i → i < 16 → g b i = nd (f a) i) ∧ ∀ x, ¬ x = b → g x = f x) ⟨rfl, fun i p q => ?_, h2⟩ ?_ ?_
    · have := h1 (i - 8) (by omega)
      rw [show 8 + (i - 8) = i by omega] at this
      rw [this, show i = 8 + (i - 8) by omega, nd_leaf, show 8 + (i - 8) - 8 = i - 8 by omega]
    · rintro i l g hi ⟨rfl, h1, h2⟩ kk
      refine t_Su_build_26 ka kb (brF (fun z => absurd ((iN_lt (b := 1) (by omega) (by omega)).mp z) (by omega)) ⟨2 * (7 - i), iN_mul 2 _, by omega, 2 * (7 - i) + 1, by simp only [lit, iN_add, iN_mul], by omega, 7 - i, rfl, by omega, fun g1 e1 => ?_⟩)
      rw [iN_dec (by omega), show 7 - i - 1 = 7 - (i + 1) by omega]
      refine kk _ g1 ⟨rfl, fun j p q => ?_, fun x hx => by rw [e1, xu_a hx, h2 x hx]⟩
      rw [e1, xu_at]
      by_cases e : j = 7 - i
      · subst e
        rw [if_pos ⟨rfl, rfl⟩, h1 _ (by omega) (by omega), h1 _ (by omega) (by omega)]; exact (nd_step _ (k := 7 - i) (by omega) (by omega)).symm
      · rw [if_neg (by omega), h1 j (by omega) q]
    · rintro l g ⟨rfl, h1, h2⟩
      exact t_Su_build_26 ka kb (brT (by decide) (k g (fun i p q => h1 i (by omega) q) h2))
theorem r_lays {Q : Hp → Prop} {a b o nb : Nat} (ka : xS0 L a = (20, 16)) (kb : xS0 L b = (20, nb)) (ho : o + 8 ≤ nb) (hab : ¬ b = a) (k : ∀ g, (∀ k, 1 ≤ k → k < 16 → g a k = nd (fun i => f b (o + i)) k) → (∀ x, ¬ x = a → g x = f x) → Q g) : CV L xs xm_Mo_laysSums [.ref a, .ref b, .int (iN o)] f Q := by
  have hnb := k_len kb rfl
  refine t_Mo_laysSums_0 ka kb ?_
  refine for0 8 (fun k l g => l = [.ref a, .ref b, .int (iN o), .int (iN k)] ∧ (∀ i, i < k → g a (8 + i) = f b (o + i)) ∧ ∀ x, ¬ x = a → g x = f x) ⟨rfl, fun i hi => absurd hi (by omega), fun _ _ => rfl⟩ ?_ ?_
  · rintro i l g hi ⟨rfl, h1, h2⟩ kk
    refine t_Mo_laysSums_2 ka kb (brT ((iN_lt (b := 8) (by omega) (by omega)).mpr (by omega)) ⟨o + i, iN_add o i, by omega, 8 + i, iN_add 8 i, by omega, fun g1 e1 => ?_⟩)
    rw [iN_inc]
    refine kk _ g1 ⟨rfl, fun j hj => ?_, fun x hx => by rw [e1, xu_a hx, h2 x hx]⟩
    rw [e1, xu_at]
    by_cases e : j = i
    · subst e; rw [if_pos ⟨rfl, rfl⟩, h2 b hab]
    · rw [if_neg (by omega), h1 j (by omega)]
  · rintro l g ⟨rfl, h1, h2⟩
    refine t_Mo_laysSums_2 ka kb (brF (fun z => absurd ((iN_lt (b := 8) (by omega) (by omega)).mp z) (by omega)) ?_)
    refine for0 7 (fun k l g => l = [.ref a, .ref b, .int (iN o), .int (iN (7 - k))] ∧ (∀ i, 8 - k ≤ i → i < 16 → g a i = nd (fun i => f b (o + i)) i) ∧ ∀ x, ¬ x = a → g x = f x) ⟨rfl, fun i p q => ?_, h2⟩ ?_ ?_
    · have := h1 (i - 8) (by omega)
      rw [show 8 + (i - 8) = i by omega] at this
      rw [this, show i = 8 + (i - 8) by omega, nd_leaf, show 8 + (i - 8) - 8 = i - 8 by omega]
    · rintro i l g hi ⟨rfl, h1, h2⟩ kk
      refine t_Mo_laysSums_28 ka kb (brT ((iN_lt (a := 0) (by omega) (by omega)).mpr (by omega)) ⟨2 * (7 - i), iN_mul 2 _, by omega, 2 * (7 - i) + 1, by simp only [lit, iN_add, iN_mul], by omega, 7 - i, rfl, by omega, fun g1 e1 => ?_⟩)
      rw [iN_dec (by omega), show 7 - i - 1 = 7 - (i + 1) by omega]
      refine kk _ g1 ⟨rfl, fun j p q => ?_, fun x hx => by rw [e1, xu_a hx, h2 x hx]⟩
      rw [e1, xu_at]
      by_cases e : j = 7 - i
      · subst e
        rw [if_pos ⟨rfl, rfl⟩, h1 _ (by omega) (by omega), h1 _ (by omega) (by omega)]; exact (nd_step _ (k := 7 - i) (by omega) (by omega)).symm
      · rw [if_neg (by omega), h1 j (by omega) q]
    · rintro l g ⟨rfl, h1, h2⟩
      exact t_Mo_laysSums_28 ka kb (brF (by decide) (k g (fun i p q => h1 i (by omega) q) h2))
theorem c_rootOf {Q : Int32 → Hp → Prop} {s a na : Nat} (ks : xS0 L s = (7, 0)) (ka : xS0 L a = (20, na)) (hna : 8 ≤ na) (hab : ¬ a = s + 1) (k : ∀ g, (∀ x, ¬ x = s + 1 → g x = f x) → Q (nd (f a) 1) g) : CI L xs xm_Su_rootOf [.ref s, .ref a] f Q := by
  refine t_Su_rootOf_0 ks ka (c_build ka (kf_7_0 ks).2 hna hab fun g h1 h2 => ?_)
  rw [h1 1 (by omega) (by omega)]
  exact k g h2
theorem r_rootOf {Q : Int32 → Hp → Prop} {b o nb : Nat} (kb : xS0 L b = (20, nb)) (ho : o + 8 ≤ nb) (hab : ¬ b = 404) (k : ∀ g, (∀ x, ¬ x = 404 → g x = f x) → Q (nd (fun i => f b (o + i)) 1) g) : CI L xs xm_Mo_rootOf [.ref 400, .ref b, .int (iN o)] f Q := by
  refine t_Mo_rootOf_0 kb (r_lays rfl kb ho hab fun g h1 h2 => ?_)
  rw [h1 1 (by omega) (by omega)]
  exact k g h2
/-- accounts behind an order; behind the first k -/
def ro1 (D : CD) (k : Nat) (a : Nat → Int32) : Nat → Int32 := fun i => if i = dO D k then jrem (a i + iN (dP D k)) 100 else a i
def roN (D : CD) : Nat → (Nat → Int32) → Nat → Int32
  | 0, a => a
  | k + 1, a => ro1 D k (roN D k a)
def acc0 (D : CD) : Nat → Int32 := fun i => iN (dA D i)
theorem c_runOrder {Q : Hp → Prop} {c k p np : Nat} {D : CD} (kc : xS0 L c = (1, 0)) (kp : xS0 L p = (20, np)) (hnp : 8 ≤ np) (w : wfC D) (cc : cC f c D) (hk : k < dN D) (kk : Q (xuc f p (ro1 D k (f p)))) : CV L xs xm_Co_runOrder [.ref c, .int (iN k), .ref p] f Q := by
  obtain ⟨-, -, -, -, w5, w6, w7, -⟩ := w
  obtain ⟨-, -, -, -, c5, -, c7, -⟩ := cc
  obtain ⟨o1, o2⟩ := c7 k hk
  have w7 := w7 k hk
  refine t_Co_runOrder_0 kc kp (brF (iN_nn (by omega)) (brT (by rw [c5]; exact ((iN_lt (b := _) (by omega) (by omega)).mpr (by omega))) (brT ((iN_lt (b := 10) (by omega) (by omega)).mpr (by omega)) ⟨k, rfl, by omega, dO D k, o1, by omega, fun g1 e1 => ?_⟩)))
  have : g1 = xuc f p (ro1 D k (f p)) := by
    rw [e1, o2]
    funext x i
    rw [xu_at, xuc_at]
    unfold ro1
    by_cases hx : x = p
    · subst hx
      by_cases hi : i = dO D k
      · rw [if_pos ⟨rfl, hi⟩, if_pos rfl, if_pos hi, hi]
      · rw [if_neg (fun z => hi z.2), if_pos rfl, if_neg hi]
    · rw [if_neg (fun z => hx z.1), if_neg hx]
  rw [this]; exact kk
theorem c_copyAcc {Q : Hp → Prop} {a b na nb : Nat} (ka : xS0 L a = (20, na)) (kb : xS0 L b = (20, nb)) (ha : 8 ≤ na) (hb : 8 ≤ nb) (k : ∀ g, (∀ i, i < 8 → g b i = f a i) → (∀ i, 8 ≤ i → g b i = f b i) → (∀ x, ¬ x = b → g x = f x) → Q g) : CV L xs xm_TP_copyAccounts [.ref a, .ref b] f Q := by
  refine t_TP_copyAccounts_0 ka kb ⟨ha, hb, fun g1 e1 => k g1 (fun i hi => ?_) (fun i hi => ?_) fun x hx => by rw [e1, xuc_a hx]⟩
  · rw [e1, xuc_eq, cpy_at, if_pos hi]
  · rw [e1, xuc_eq, cpy_at, if_neg (by omega)]
theorem ro1_congr {D : CD} {k : Nat} {a b : Nat → Int32} (h : ∀ i, i < 8 → a i = b i) : ∀ i, i < 8 → ro1 D k a i = ro1 D k b i := by
  intro i hi
  unfold ro1
  rw [h i hi]
theorem c_runFirst {Q : Hp → Prop} {c n p np : Nat} {D : CD} (kc : xS0 L c = (1, 0)) (kp : xS0 L p = (20, np)) (hnp : 8 ≤ np) (hd : p < c ∨ c + 12 ≤ p) (w : wfC D) (cc : cC f c D) (hn : n ≤ dN D) (kk : ∀ g, (∀ i, i < 8 → g p i = roN D n (acc0 D) i) → (∀ x, ¬ x = p → g x = f x) → Q g) : CV L xs xm_Co_runFirst [.ref c, .int (iN n), .ref p] f Q := by
  have w5 := w.2.2.2.2.1
  refine t_Co_runFirst_0 kc kp (c_copyAcc (kf_1_5 kc).2 kp (by omega) hnp fun g h1 h2 h3 => ?_)
  refine for0 n (fun k l g => l = [.ref c, .int (iN n), .ref p, .int (iN k)] ∧ (∀ i, i < 8 → g p i = roN D k (acc0 D) i) ∧ ∀ x, ¬ x = p → g x = f x) ⟨rfl, fun i hi => by rw [h1 i hi]; exact cc.2.2.2.2.2.1 i hi, h3⟩ ?_ ?_
  · rintro k l g hk ⟨rfl, a1, a2⟩ k2
    have cg : cC g c D := cc.fr fun a p1 p2 => a2 a (by omega)
    refine t_Co_runFirst_10 kc kp (brT ((iN_lt (b := _) (by omega) (by omega)).mpr (by omega)) (brT (by rw [cg.2.2.2.2.1]; exact ((iN_lt (b := _) (by omega) (by omega)).mpr (by omega))) (c_runOrder kc kp hnp w cg (by omega) ?_)))
    rw [iN_inc]
    refine k2 _ _ ⟨rfl, fun i hi => ?_, fun x hx => by rw [xuc_a hx, a2 x hx]⟩
    rw [xuc_eq]
    exact ro1_congr a1 i hi
  · rintro l g ⟨rfl, a1, a2⟩
    exact t_Co_runFirst_10 kc kp (brF (fun z => absurd ((iN_lt (by omega) (by omega)).mp z) (by omega)) (kk g a1 a2))
end SUMS
