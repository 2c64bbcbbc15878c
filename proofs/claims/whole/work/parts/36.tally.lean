/-! replies: what is told last, voices, matches -/
def hRes (M : Nat) (R : PD) : Nat → Nat → Int32
  | 0, _ => -1
  | k + 1, m => if R.2.1 k = m ∧ m < M then iN (R.2.2.2 k) else hRes M R k m
def hVw (M : Nat) (R : PD) : Nat → Nat → Int32
  | 0, _ => -1
  | k + 1, m => if R.2.1 k = m ∧ m < M then iN (R.2.2.1 k) else hVw M R k m
def hFk (M : Nat) (R : PD) : Nat → Nat
  | 0 => 0
  | k + 1 => if R.2.1 k < M ∧ ¬ hRes M R k (R.2.1 k) = -1 ∧ ¬ hRes M R k (R.2.1 k) = iN (R.2.2.2 k) then hFk M R k ||| (1 <<< R.2.1 k) else hFk M R k
theorem hRes_s (M : Nat) (R : PD) (k m : Nat) : hRes M R (k + 1) m = if R.2.1 k = m ∧ m < M then iN (R.2.2.2 k) else hRes M R k m := rfl
theorem hVw_s (M : Nat) (R : PD) (k m : Nat) : hVw M R (k + 1) m = if R.2.1 k = m ∧ m < M then iN (R.2.2.1 k) else hVw M R k m := rfl
theorem hFk_s (M : Nat) (R : PD) (k : Nat) : hFk M R (k + 1) = if R.2.1 k < M ∧ ¬ hRes M R k (R.2.1 k) = -1 ∧ ¬ hRes M R k (R.2.1 k) = iN (R.2.2.2 k) then hFk M R k ||| (1 <<< R.2.1 k) else hFk M R k := rfl
theorem hRes_r {M : Nat} {R : PD} (w : wfP R) : ∀ k, k ≤ R.1 → ∀ m, hRes M R k m = -1 ∨ ∃ r, r < 100 ∧ hRes M R k m = iN r
  | 0, _, m => Or.inl rfl
  | k + 1, h, m => by
    rw [hRes_s]
    split
    · exact Or.inr ⟨_, by have := (w.2 k (by omega)).2.2; omega, rfl⟩
    · exact hRes_r w k (by omega) m
theorem hVw_r {M : Nat} {R : PD} (w : wfP R) : ∀ k, k ≤ R.1 → ∀ m, ¬ hRes M R k m = -1 → ∃ r, r < 10 ∧ hVw M R k m = iN r
  | 0, _, m, z => absurd rfl z
  | k + 1, h, m, z => by
    rw [hRes_s] at z
    rw [hVw_s]
    split
    · exact ⟨_, by have := (w.2 k (by omega)).2.1; omega, rfl⟩
    · rename_i q
      rw [if_neg q] at z
      exact hVw_r w k (by omega) m z
abbrev voc (M : Nat) (q : Nat → Int32) (r : Int32) : Nat := bN (fun m => q m = r) M
theorem voc_s (k : Nat) (q : Nat → Int32) (r : Int32) : voc (k + 1) q r = if q k = r then voc k q r ||| (1 <<< k) else voc k q r := rfl
/-- the most of what fits -/
def mxI (p : Nat → Prop) [DecidablePred p] (v : Nat → Int32) (b : Int32) : Nat → Int32
  | 0 => b
  | n + 1 => if p n then imax (mxI p v b n) (v n) else mxI p v b n
theorem mxI_s (p : Nat → Prop) [DecidablePred p] (v : Nat → Int32) (b : Int32) (n : Nat) : mxI p v b (n + 1) = if p n then imax (mxI p v b n) (v n) else mxI p v b n := rfl
theorem imax_iN {a b : Nat} (ha : a < 2147483648) (hb : b < 2147483648) : imax (iN a) (iN b) = iN (max a b) := by
  unfold imax
  by_cases h : a < b
  · rw [if_pos ((iN_lt ha hb).mpr h), show max a b = b by omega]
  · rw [if_neg (fun z => h ((iN_lt ha hb).mp z)), show max a b = a by omega]
theorem imax_m1 {b : Nat} (hb : b < 2147483648) : imax (-1) (iN b) = iN b := by
  unfold imax
  rw [if_pos]
  rw [Int32.lt_iff_toInt_lt, iN_toInt hb]
  have : (-1 : Int32).toInt = -1 := by decide
  omega
theorem mxI_two (p : Nat → Prop) [DecidablePred p] (v : Nat → Int32) : ∀ n, (∀ m, m < n → p m → ∃ r, r < 10 ∧ v m = iN r) → (∃ r, r < 10 ∧ mxI p v 0 n = iN r ∧ mxI p v (-1) n = iN r) ∨ ((∀ m, m < n → ¬ p m) ∧ mxI p v 0 n = 0 ∧ mxI p v (-1) n = -1)
  | 0, _ => Or.inr ⟨fun m hm => absurd hm (by omega), rfl, rfl⟩
  | n + 1, h => by
    rw [mxI_s, mxI_s]
    by_cases hp : p n
    · rw [if_pos hp, if_pos hp]
      obtain ⟨r, hr, e⟩ := h n (by omega) hp
      rw [e]
      rcases mxI_two p v n (fun m hm => h m (by omega)) with ⟨s, hs, e1, e2⟩ | ⟨-, e1, e2⟩
      · refine Or.inl ⟨max s r, by omega, ?_, ?_⟩
        · rw [e1, imax_iN (by omega) (by omega)]
        · rw [e2, imax_iN (by omega) (by omega)]
      · refine Or.inl ⟨r, hr, ?_, ?_⟩
        · rw [e1, show (0 : Int32) = iN 0 from rfl, imax_iN (by omega) (by omega), show max 0 r = r by omega]
        · rw [e2, imax_m1 (by omega)]
    · rw [if_neg hp, if_neg hp]
      rcases mxI_two p v n (fun m hm => h m (by omega)) with q | ⟨q, e1, e2⟩
      · exact Or.inl q
      · refine Or.inr ⟨fun m hm => ?_, e1, e2⟩
        by_cases t : m = n
        · rw [t]; exact hp
        · exact q m (by omega)
theorem mxI_congr (p : Nat → Prop) [DecidablePred p] (v v' : Nat → Int32) (b : Int32) : ∀ n, (∀ m, m < n → p m → v m = v' m) → mxI p v b n = mxI p v' b n
  | 0, _ => rfl
  | n + 1, h => by
    rw [mxI_s, mxI_s, mxI_congr p v v' b n fun m hm => h m (by omega)]
    by_cases hp : p n
    · rw [if_pos hp, if_pos hp, h n (by omega) hp]
    · rw [if_neg hp, if_neg hp]
/-- a match with this reply -/
def mtP (F : Nat) (R : PD) (k : Nat) : Prop := R.2.1 k < 3 * F + 1 ∧ F < bcn (voc (3 * F + 1) (hRes (3 * F + 1) R (k + 1)) (iN (R.2.2.2 k)))
def mtV (F : Nat) (R : PD) (k : Nat) (b : Int32) : Int32 := mxI (fun m => (voc (3 * F + 1) (hRes (3 * F + 1) R (k + 1)) (iN (R.2.2.2 k))).testBit m = true) (hVw (3 * F + 1) R (k + 1)) b (3 * F + 1)
def mtS (F : Nat) (R : PD) (n : Nat) (a b c : Int32) : Prop := (a = -1 ∧ b = -1 ∧ c = -1 ∧ ∀ k, k < n → ¬ mtP F R k) ∨ ∃ k, k < n ∧ mtP F R k ∧ (∀ i, i < k → ¬ mtP F R i) ∧ a = iN k ∧ b = iN (R.2.2.2 k) ∧ c = mtV F R k (-1)
section TALLY
variable {L : Nat} {xs : Nat → Int32} {f g : Hp} {T : TD}
theorem fill_go {Q : Hp → Prop} {a n : Nat} {v : Int32} (ka : xS0 L a = (20, n)) (kk : ∀ g, (∀ i, i < n → g a i = v) → (∀ x, ¬ x = a → g x = f x) → Q g) : CV L xs xm_ja_fill [.ref a, .int v] f Q := by
  have hn := k_len ka rfl
  refine t_ja_fill_0 ka ?_
  refine for0 n (fun k l g => l = [.ref a, .int v, .int (iN k), .int (iN n)] ∧ (∀ i, i < k → g a i = v) ∧ ∀ x, ¬ x = a → g x = f x) ⟨rfl, fun i hi => absurd hi (by omega), fun _ _ => rfl⟩ ?_ ?_
  · rintro k l g hk ⟨rfl, b1, b2⟩ k2
    refine t_ja_fill_5 ka (brT ((iN_lt (b := _) (by omega) (by omega)).mpr (by omega)) ⟨k, rfl, hk, fun g1 e1 => ?_⟩)
    rw [iN_inc]
    refine k2 _ _ ⟨rfl, fun i hi => ?_, fun x hx => by rw [e1, xu_a hx, b2 x hx]⟩
    rw [e1, xu_at]
    by_cases t : i = k
    · rw [if_pos ⟨rfl, t⟩]
    · rw [if_neg (by omega), b1 i (by omega)]
  · rintro l g ⟨rfl, b1, b2⟩
    exact t_ja_fill_5 ka (brF (fun z => absurd ((iN_lt (b := _) (by omega) (by omega)).mp z) (by omega)) (kk g b1 b2))
theorem c_voicesOf {Q : Int32 → Hp → Prop} {M : Nat} {r : Int32} (hM : f 246 5 = iN M) (h7 : M ≤ 7) (kk : Q (iN (voc M (f 248) r)) f) : CI L xs xm_Ta_voicesOf [.ref 246, .int r] f Q := by
  refine t_Ta_voicesOf_0 ?_
  refine for0 M (fun k l g => l = [.ref 246, .int r, .int (iN (voc k (f 248) r)), .int (iN k)] ∧ g = f) ⟨rfl, rfl⟩ ?_ ?_
  · rintro k l g hk ⟨rfl, rfl⟩ k2
    refine t_Ta_voicesOf_4 ?_
    rw [hM, iN_inc, or1 _ _ (by omega)]
    refine brT ((iN_lt (b := _) (by omega) (by omega)).mpr (by omega)) ⟨k, rfl, by omega, fun p => k2 _ _ ⟨?_, rfl⟩, fun p => k2 _ _ ⟨?_, rfl⟩⟩
    · rw [voc_s, if_pos p]
    · rw [voc_s, if_neg p]
  · rintro l g ⟨rfl, rfl⟩
    refine t_Ta_voicesOf_4 ?_
    rw [hM]
    exact brF (fun z => absurd ((iN_lt (b := _) (by omega) (by omega)).mp z) (by omega)) kk
theorem r_tell {Q : Int32 → Hp → Prop} {M : Nat} {r : Int32} (hM : f 400 13 = iN M) (h7 : M ≤ 7) (kk : Q (iN (voc M (f 433) r)) f) : CI L xs xm_Mo_tell [.ref 400, .int r] f Q := by
  refine t_Mo_tell_0 ?_
  refine for0 M (fun k l g => l = [.ref 400, .int r, .int (iN (voc k (f 433) r)), .int (iN k)] ∧ g = f) ⟨rfl, rfl⟩ ?_ ?_
  · rintro k l g hk ⟨rfl, rfl⟩ k2
    refine t_Mo_tell_4 ?_
    rw [hM, iN_inc, or1 _ _ (by omega), or0]
    refine brT ((iN_lt (b := _) (by omega) (by omega)).mpr (by omega)) ⟨k, rfl, by omega, fun p => k2 _ _ ⟨?_, rfl⟩, fun p => k2 _ _ ⟨?_, rfl⟩⟩
    · rw [voc_s, if_pos p]
    · rw [voc_s, if_neg p]
  · rintro l g ⟨rfl, rfl⟩
    refine t_Mo_tell_4 ?_
    rw [hM]
    exact brF (fun z => absurd ((iN_lt (b := _) (by omega) (by omega)).mp z) (by omega)) kk
theorem voc_congr {M : Nat} {p q : Nat → Int32} {r : Int32} (h : ∀ m, m < M → p m = q m) : voc M p r = voc M q r := bN_congr M fun m hm => by rw [h m hm]
theorem voc_lt {M : Nat} {q : Nat → Int32} {r : Int32} (h7 : M ≤ 7) : voc M q r < 128 := Nat.lt_of_lt_of_le (bN_lt _ M) (Nat.pow_le_pow_right (n := 2) (by omega) h7)
theorem c_hearOne {Q : Hp → Prop} {F k : Nat} {R : PD} (hF : F ≤ 2) (hm : R.2.1 k < 3 * F + 1) (h8 : f 248 (R.2.1 k) = hRes (3 * F + 1) R k (R.2.1 k)) (h3 : f 246 3 = iN (hFk (3 * F + 1) R k)) (kk : ∀ g, g 246 3 = iN (hFk (3 * F + 1) R (k + 1)) → (∀ j, ¬ j = 3 → g 246 j = f 246 j) → (∀ m, g 247 m = if R.2.1 k = m then iN (R.2.2.1 k) else f 247 m) → (∀ m, g 248 m = if R.2.1 k = m then iN (R.2.2.2 k) else f 248 m) → (∀ x, ¬ x = 246 → ¬ x = 247 → ¬ x = 248 → g x = f x) → Q g) : CV L xs xm_Ta_hearOne [.ref 246, .int (iN (R.2.1 k)), .int (iN (R.2.2.1 k)), .int (iN (R.2.2.2 k))] f Q := by
  have tl : ∀ g : Hp, g 246 3 = iN (hFk (3 * F + 1) R (k + 1)) → (∀ j, ¬ j = 3 → g 246 j = f 246 j) → (∀ x, ¬ x = 246 → g x = f x) → Wp L xs xm_Ta_hearOne 32 [.ref 246, .int (iN (R.2.1 k)), .int (iN (R.2.2.1 k)), .int (iN (R.2.2.2 k))] [] g (QV Q) := by
    intro g h1 h2 h4
    refine t_Ta_hearOne_32 ⟨R.2.1 k, rfl, by omega, fun g1 e1 g2 e2 => kk g2 ?_ (fun j hj => ?_) (fun m => ?_) (fun m => ?_) fun x p q r => by rw [e2, xu_a r, e1, xu_a q, h4 x p]⟩
    · rw [e2, xu_a (by omega), e1, xu_a (by omega)]; exact h1
    · rw [e2, xu_a (by omega), e1, xu_a (by omega)]; exact h2 j hj
    · rw [e2, xu_a (by omega), e1, xu_at]
      by_cases t : R.2.1 k = m
      · rw [if_pos ⟨rfl, t.symm⟩, if_pos t]
      · rw [if_neg (fun z => t z.2.symm), if_neg t, h4 247 (by omega)]
    · rw [e2, xu_at]
      by_cases t : R.2.1 k = m
      · rw [if_pos ⟨rfl, t.symm⟩, if_pos t]
      · rw [if_neg (fun z => t z.2.symm), if_neg t, e1, xu_a (by omega), h4 248 (by omega)]
  refine t_Ta_hearOne_0 ⟨R.2.1 k, rfl, by omega, ?_⟩
  rw [h8]
  refine ⟨fun p => tl f ?_ (fun _ _ => rfl) fun _ _ => rfl, fun p => ⟨fun p2 => tl f ?_ (fun _ _ => rfl) fun _ _ => rfl, fun p2 g1 e1 => tl g1 ?_ (fun j hj => by rw [e1, xu_k hj]) fun x hx => by rw [e1, xu_a hx]⟩⟩
  · rw [h3, hFk_s, if_neg (fun z => z.2.1 p)]
  · rw [h3, hFk_s, if_neg (fun z => z.2.2 p2)]
  · rw [e1, xu_eq, h3, or1 _ _ (by omega), hFk_s, if_pos ⟨hm, p, p2⟩]
theorem c_noteMatch {Q : Hp → Prop} {F k : Nat} {R : PD} (hF : F ≤ 2) (w : wfP R) (hk : k < R.1) (hm : R.2.1 k < 3 * F + 1) (h4 : f 246 4 = iN F) (h5 : f 246 5 = iN (3 * F + 1)) (h7 : ∀ m, m < 3 * F + 1 → f 247 m = hVw (3 * F + 1) R (k + 1) m) (h8 : ∀ m, m < 3 * F + 1 → f 248 m = hRes (3 * F + 1) R (k + 1) m) (hs : mtS F R k (f 246 0) (f 246 1) (f 246 2)) (kk : ∀ g, mtS F R (k + 1) (g 246 0) (g 246 1) (g 246 2) → (∀ j, 3 ≤ j → g 246 j = f 246 j) → (∀ x, ¬ x = 246 → g x = f x) → Q g) : CV L xs xm_Ta_noteMatch [.ref 246, .int (iN k), .int (iN (R.2.2.2 k))] f Q := by
  have ev : voc (3 * F + 1) (f 248) (iN (R.2.2.2 k)) = voc (3 * F + 1) (hRes (3 * F + 1) R (k + 1)) (iN (R.2.2.2 k)) := voc_congr h8
  have hv := voc_lt (M := 3 * F + 1) (q := hRes (3 * F + 1) R (k + 1)) (r := iN (R.2.2.2 k)) (by omega)
  have hb := bcn_le (voc (3 * F + 1) (hRes (3 * F + 1) R (k + 1)) (iN (R.2.2.2 k)))
  refine t_Ta_noteMatch_0 (c_voicesOf h5 (by omega) ?_)
  rw [ev]
  refine ⟨fun p => c_bitCount hv ?_, fun p => ?_⟩
  · have none : ∀ i, i < k → ¬ mtP F R i := by
      rcases hs with ⟨-, -, -, q⟩ | ⟨i, hi, -, -, e, -⟩
      · exact q
      · rw [p] at e
        exact absurd e.symm (iN_ne1 (by have := w.1; omega))
    have three : f 246 0 = -1 ∧ f 246 1 = -1 ∧ f 246 2 = -1 := by
      rcases hs with ⟨a, b, c, q⟩ | ⟨i, hi, -, -, e, -⟩
      · exact ⟨a, b, c⟩
      · rw [p] at e
        exact absurd e.symm (iN_ne1 (by have := w.1; omega))
    rw [h4, iN_lt (by omega) (by omega)]
    refine ⟨fun p2 g3 e3 g4 e4 => ?_, fun p2 => kk f ?_ (fun _ _ => rfl) fun _ _ => rfl⟩
    · have q0 : g4 246 0 = iN k := by rw [e4, xu_k (by omega), e3, xu_eq]
      have q1 : g4 246 1 = iN (R.2.2.2 k) := by rw [e4, xu_eq]
      have q2 : ∀ j, 2 ≤ j → g4 246 j = f 246 j := fun j hj => by rw [e4, xu_k (by omega), e3, xu_k (by omega)]
      have q3 : ∀ x, ¬ x = 246 → g4 x = f x := fun x hx => by rw [e4, xu_a hx, e3, xu_a hx]
      obtain ⟨V, hV⟩ : ∃ V, V = voc (3 * F + 1) (hRes (3 * F + 1) R (k + 1)) (iN (R.2.2.2 k)) := ⟨_, rfl⟩
      rw [← hV] at hv ⊢
      refine for0 (3 * F + 1) (fun n l g => l = [.ref 246, .int (iN k), .int (iN (R.2.2.2 k)), .int (iN V), .int (iN n)] ∧ g 246 2 = mxI (fun m => V.testBit m = true) (hVw (3 * F + 1) R (k + 1)) (-1) n ∧ (∀ j, ¬ j = 2 → g 246 j = g4 246 j) ∧ ∀ x, ¬ x = 246 → g x = f x) ⟨rfl, by rw [q2 2 (by omega)]; exact three.2.2, fun _ _ => rfl, q3⟩ ?_ ?_
      · rintro n l g hn ⟨rfl, b1, b2, b3⟩ k2
        refine t_Ta_noteMatch_39 ?_
        rw [b2 5 (by omega), q2 5 (by omega), h5, iN_inc]
        refine brT ((iN_lt (b := _) (by omega) (by omega)).mpr (by omega)) (c_hasBit (by omega) (by omega) (fun t => br1 ⟨n, rfl, by omega, fun g2 e2 => ?_⟩) fun t => br0 ?_)
        · refine k2 _ _ ⟨rfl, ?_, fun j hj => by rw [e2, xu_k hj, b2 j hj], fun x hx => by rw [e2, xu_a hx, b3 x hx]⟩
          rw [e2, xu_eq, b1, b3 247 (by omega), h7 n hn, mxI_s, if_pos t]
        · refine k2 _ _ ⟨rfl, ?_, b2, b3⟩
          rw [b1, mxI_s, if_neg (by rw [t]; decide)]
      · rintro l g ⟨rfl, b1, b2, b3⟩
        refine t_Ta_noteMatch_39 ?_
        rw [b2 5 (by omega), q2 5 (by omega), h5]
        refine brF (fun z => absurd ((iN_lt (b := _) (by omega) (by omega)).mp z) (by omega)) (kk g (Or.inr ⟨k, by omega, ⟨hm, p2⟩, none, ?_, ?_, ?_⟩) (fun j hj => by rw [b2 j (by omega), q2 j (by omega)]) b3)
        · rw [b2 0 (by omega), q0]
        · rw [b2 1 (by omega), q1]
        · rw [b1, hV]; rfl
    · refine Or.inl ⟨three.1, three.2.1, three.2.2, fun i hi => ?_⟩
      by_cases t : i = k
      · rw [t]; exact fun z => p2 z.2
      · exact none i (by omega)
  · refine kk f ?_ (fun _ _ => rfl) fun _ _ => rfl
    rcases hs with ⟨a, -⟩ | ⟨i, hi, q⟩
    · exact absurd a p
    · exact Or.inr ⟨i, by omega, q⟩
/-- all that the replies say -/
def hrd (g : Hp) (F : Nat) (R : PD) : Prop := g 246 3 = iN (hFk (3 * F + 1) R R.1) ∧ g 246 4 = iN F ∧ g 246 5 = iN (3 * F + 1) ∧ (∀ m, m < 3 * F + 1 → g 248 m = hRes (3 * F + 1) R R.1 m) ∧ mtS F R R.1 (g 246 0) (g 246 1) (g 246 2)
theorem c_hear {Q : Hp → Prop} {c p : Nat} {D : CD} {R : PD} (kc : xS0 L c = (1, 0)) (kp : xS0 L p = (5, 0)) (hc : c + 12 ≤ 246) (hp : p + 4 ≤ 246) (w : wfC D) (wp : wfP R) (cc : cC f c D) (cp : cP f p R) (kk : ∀ g, hrd g (dF D) R → (∀ x, x < 246 ∨ 249 ≤ x → g x = f x) → Q g) : CV L xs xm_Ta_hear [.ref 246, .ref c, .ref p] f Q := by
  have hF := w.1
  have c1 := cc.1
  refine t_Ta_hear_0 kc kp fun g1 e1 g2 e2 g3 e3 g4 e4 g5 e5 => ?_
  have f5 : ∀ x, ¬ x = 246 → g5 x = f x := fun x hx => by rw [e5, xu_a hx, e4, xu_a hx, e3, xu_a hx, e2, xu_a hx, e1, xu_a hx]
  have f4 : g4 c 0 = iN (dF D) := by rw [e4, xu_a (by omega), e3, xu_a (by omega), e2, xu_a (by omega), e1, xu_a (by omega)]; exact c1
  generalize hFe : dF D = F at *
  refine c_members (F := F) kc (by rw [f5 c (by omega)]; exact c1) fun g7 e7 => fill_go rfl fun g8 a1 a2 => fill_go rfl fun g9 b1 b2 => ?_
  have f9 : ∀ x, x < 246 ∨ 249 ≤ x → g9 x = f x := fun x hx => by rw [b2 x (by omega), a2 x (by omega), e7, xu_a (by omega), f5 x (by omega)]
  have q9 : g9 246 = g7 246 := by rw [b2 246 (by omega), a2 246 (by omega)]
  refine for0 R.1 (fun k l g => ∃ v : Value, (v.category != 2) = true ∧ l = [.ref 246, .ref c, .ref p, .int (iN k), v] ∧ g 246 3 = iN (hFk (3 * F + 1) R k) ∧ g 246 4 = iN F ∧ g 246 5 = iN (3 * F + 1) ∧ (∀ m, m < 3 * F + 1 → g 247 m = hVw (3 * F + 1) R k m) ∧ (∀ m, m < 3 * F + 1 → g 248 m = hRes (3 * F + 1) R k m) ∧ mtS F R k (g 246 0) (g 246 1) (g 246 2) ∧ ∀ x, x < 246 ∨ 249 ≤ x → g x = f x) ⟨_, rfl, rfl, ?_, ?_, ?_, fun m hm => ?_, fun m hm => ?_, ?_, f9⟩ ?_ ?_
  · rw [q9, e7, xu_k (by omega), e5, xu_k (by omega), e4, xu_eq]; rfl
  · rw [q9, e7, xu_k (by omega), e5, xu_eq, f4]
  · rw [q9, e7, xu_eq]
  · rw [b2 247 (by omega), a1 m (by omega)]; rfl
  · rw [b1 m (by omega)]; rfl
  · refine Or.inl ⟨?_, ?_, ?_, fun k hk => absurd hk (by omega)⟩
    · rw [q9, e7, xu_k (by omega), e5, xu_k (by omega), e4, xu_k (by omega), e3, xu_k (by omega), e2, xu_k (by omega), e1, xu_eq]
    · rw [q9, e7, xu_k (by omega), e5, xu_k (by omega), e4, xu_k (by omega), e3, xu_k (by omega), e2, xu_eq]
    · rw [q9, e7, xu_k (by omega), e5, xu_k (by omega), e4, xu_k (by omega), e3, xu_eq]
  · rintro k l g hk ⟨v, hv, rfl, d1, d2, d3, d4, d5, d6, d7⟩ k2
    have w1 := wp.1
    obtain ⟨w2, w3, w4⟩ := wp.2 k hk
    have cg : cP g p R := cp.fr fun a p1 p2 => d7 a (by omega)
    obtain ⟨r1, r2, r3⟩ := cg.2 k hk
    refine t_Ta_hear_54 kc kp hv (brT (by rw [cg.1]; exact ((iN_lt (b := _) (by omega) (by omega)).mpr (by omega))) ⟨k, rfl, by omega, ?_⟩)
    rw [r1, iN_inc]
    refine c_cohas (F := F) kc (by rw [d7 c (by omega)]; exact c1) hF (fun m hm e => br1 ?_) fun q => br0 (k2 _ _ ⟨_, rfl, rfl, ?_, d2, d3, fun m hm => ?_, fun m hm => ?_, ?_, d7⟩)
    · rw [iN_inj (by omega) (by omega)] at e
      have hm' : R.2.1 k < 3 * F + 1 := by omega
      rw [r2, r3]
      refine c_hearOne hF hm' (d5 _ hm') d1 fun g2 s1 s2 s3 s4 s5 => ?_
      have cg2 : cP g2 p R := cg.fr fun a p1 p2 => s5 a (by omega) (by omega) (by omega)
      rw [(cg2.2 k hk).2.2]
      refine c_noteMatch hF wp hk hm' (by rw [s2 4 (by omega)]; exact d2) (by rw [s2 5 (by omega)]; exact d3) (fun m hm => ?_) (fun m hm => ?_) (by rw [s2 0 (by omega), s2 1 (by omega), s2 2 (by omega)]; exact d6) fun g3 t1 t2 t3 => k2 _ _ ⟨_, rfl, rfl, ?_, ?_, ?_, fun m hm => ?_, fun m hm => ?_, t1, fun x hx => by rw [t3 x (by omega), s5 x (by omega) (by omega) (by omega), d7 x hx]⟩
      · rw [s3, hVw_s]
        by_cases t : R.2.1 k = m
        · rw [if_pos t, if_pos ⟨t, hm⟩]
        · rw [if_neg t, if_neg (fun z => t z.1), d4 m hm]
      · rw [s4, hRes_s]
        by_cases t : R.2.1 k = m
        · rw [if_pos t, if_pos ⟨t, hm⟩]
        · rw [if_neg t, if_neg (fun z => t z.1), d5 m hm]
      · rw [t2 3 (by omega), s1]
      · rw [t2 4 (by omega), s2 4 (by omega), d2]
      · rw [t2 5 (by omega), s2 5 (by omega), d3]
      · rw [t3 247 (by omega), s3, hVw_s]
        by_cases t : R.2.1 k = m
        · rw [if_pos t, if_pos ⟨t, hm⟩]
        · rw [if_neg t, if_neg (fun z => t z.1), d4 m hm]
      · rw [t3 248 (by omega), s4, hRes_s]
        by_cases t : R.2.1 k = m
        · rw [if_pos t, if_pos ⟨t, hm⟩]
        · rw [if_neg t, if_neg (fun z => t z.1), d5 m hm]
    · rw [d1, hFk_s, if_neg (fun z => q _ z.1 rfl)]
    · rw [hVw_s, if_neg (fun z => q _ z.2 (by rw [z.1])), d4 m hm]
    · rw [hRes_s, if_neg (fun z => q _ z.2 (by rw [z.1])), d5 m hm]
    · rcases d6 with ⟨x1, x2, x3, x4⟩ | ⟨i, hi, x⟩
      · refine Or.inl ⟨x1, x2, x3, fun i hi => ?_⟩
        by_cases t : i = k
        · rw [t]; exact fun z => q _ z.1 rfl
        · exact x4 i (by omega)
      · exact Or.inr ⟨i, by omega, x⟩
  · rintro l g ⟨v, hv, rfl, d1, d2, d3, d4, d5, d6, d7⟩
    have w1 := wp.1
    have cg : cP g p R := cp.fr fun a p1 p2 => d7 a (by omega)
    exact t_Ta_hear_54 kc kp hv (brF (by rw [cg.1]; exact (fun z => absurd ((iN_lt (b := _) (by omega) (by omega)).mp z) (by omega))) (kk g ⟨d1, d2, d3, d5, d6⟩ d7))
theorem c_tallies {Q : Int32 → Hp → Prop} {x y : Int32} (w : wfT T) (c : cT f 1 T) (h0 : (¬ ∃ j, j < tZ T 0 ∧ x = iN j) → Q 0 f) (h0' : (∃ j, j < tZ T 0 ∧ x = iN j) → (¬ ∃ j, j < tZ T 2 ∧ y = iN j) → Q 0 f) (h1 : ∀ j k g, j < tZ T 0 → k < tZ T 2 → x = iN j → y = iN k → hrd g (dF (T.2.2.1 j)) (T.2.2.2.2 k) → FrC f g → Q 1 g) : CI L xs xm_TP_tallies [.ref 0, .int x, .int y] f Q := by
  have z0 := w.2.2.1 0 (by omega)
  have z2 := w.2.2.1 2 (by omega)
  refine t_TP_tallies_0 (c_has (s := 0) k_told (by omega) (c.sz (by omega)) z0 (fun j hj e => br1 ?_) fun q => br0 (h0 fun ⟨j, hj, e⟩ => q j hj e))
  refine c_has (s := 2) k_told (by omega) (c.sz (by omega)) z2 (fun k hk e2 => br1 ?_) fun q => br0 (h0' ⟨j, hj, e⟩ fun ⟨j, hj, e⟩ => q j hj e)
  subst e
  subst e2
  refine ⟨j, rfl, by omega, k, rfl, by omega, c_hear (k_coun (by omega)) (k_rep (by omega)) (by omega) (by omega) (w.2.2.2.1 j hj) (w.2.2.2.2.2 k hk) (c.2.2.2.2.2.1 j hj) (c.2.2.2.2.2.2.2 k hk) fun g a b => h1 j k g hj hk rfl rfl a fun a ha => b a (by omega)⟩
/-- the reference hears the first of them -/
theorem r_come {Q : Hp → Prop} {F n q : Nat} {R : PD} (hF : F ≤ 2) (wp : wfP R) (hM : f 400 13 = iN (3 * F + 1)) (hq : f 400 56 = iN q) (hq2 : q ≤ 1133) (rp : rP f q R) (hn : n < 2147483648) {N : Nat} (hN : N = min n R.1) (kk : ∀ g, (∀ m, m < 7 → g 433 m = hRes (3 * F + 1) R N m) → (∀ m, m < 7 → ¬ hRes (3 * F + 1) R N m = -1 → g 434 m = hVw (3 * F + 1) R N m) → g 400 59 = iN (hFk (3 * F + 1) R N) → (∀ j, ¬ j = 59 → g 400 j = f 400 j) → (∀ x, ¬ x = 400 → ¬ x = 433 → ¬ x = 434 → g x = f x) → Q g) : CV L xs xm_Mo_come [.ref 400, .int (iN n)] f Q := by
  refine t_Mo_come_0 fun g1 e1 => ?_
  refine for0 7 (fun k l g => l = [.ref 400, .int (iN n), .int (iN k), .retAddr 0, .retAddr 0] ∧ (∀ m, m < k → g 433 m = -1) ∧ ∀ x, ¬ x = 433 → g x = g1 x) ⟨rfl, fun m hm => absurd hm (by omega), fun _ _ => rfl⟩ ?_ ?_
  · rintro k l g hk ⟨rfl, b1, b2⟩ k2
    refine t_Mo_come_7 (brT ((iN_lt (b := 7) (by omega) (by omega)).mpr (by omega)) ⟨k, rfl, hk, fun g2 e2 => ?_⟩)
    rw [iN_inc]
    refine k2 _ _ ⟨rfl, fun m hm => ?_, fun x hx => by rw [e2, xu_a hx, b2 x hx]⟩
    rw [e2, xu_at]
    by_cases t : m = k
    · rw [if_pos ⟨rfl, t⟩]
    · rw [if_neg (by omega), b1 m (by omega)]
  · rintro l g2 ⟨rfl, b1, b2⟩
    refine t_Mo_come_7 (brF (by decide) ?_)
    have w1 := wp.1
    refine for0 N (fun k l g => ∃ v v2 : Value, (v.category != 2) = true ∧ (v2.category != 2) = true ∧ l = [.ref 400, .int (iN n), .int (iN k), v, v2] ∧ (∀ m, m < 7 → g 433 m = hRes (3 * F + 1) R k m) ∧ (∀ m, m < 7 → ¬ hRes (3 * F + 1) R k m = -1 → g 434 m = hVw (3 * F + 1) R k m) ∧ g 400 59 = iN (hFk (3 * F + 1) R k) ∧ (∀ j, ¬ j = 59 → g 400 j = f 400 j) ∧ ∀ x, ¬ x = 400 → ¬ x = 433 → ¬ x = 434 → g x = f x) ⟨_, _, rfl, rfl, rfl, fun m hm => b1 m hm, fun m hm z => absurd rfl z, ?_, fun j hj => ?_, fun x p q r => ?_⟩ ?_ ?_
    · rw [b2 400 (by omega), e1, xu_eq]; rfl
    · rw [b2 400 (by omega), e1, xu_k hj]
    · rw [b2 x q, e1, xu_a p]
    · rintro k l g hk ⟨v, v2, hv, hv2, rfl, d1, d2, d3, d4, d5⟩ k2
      have rg : rP g q R := rp.fr (d5 401 (by omega) (by omega) (by omega))
      obtain ⟨r1, r2, r3⟩ := rg.2 k (by omega)
      obtain ⟨w2, w3, w4⟩ := wp.2 k (by omega)
      have g56 : g 400 56 = iN q := by rw [d4 56 (by omega), hq]
      refine t_Mo_come_28 hv hv2 (brT ((iN_lt (b := _) (by omega) (by omega)).mpr (by omega)) ⟨q, g56, by omega, brT (by rw [rg.1]; exact ((iN_lt (b := _) (by omega) (by omega)).mpr (by omega))) ⟨q + 1 + 3 * k, by rw [g56]; simp only [lit, iN_add, iN_mul], by omega, q + 3 + 3 * k, by rw [g56]; simp only [lit, iN_add, iN_mul], by omega, ?_⟩⟩)
      rw [r1, r3]
      refine r_isMember (F := F) (by rw [d4 13 (by omega), hM]) hF (fun m hm e => br1 ?_) fun z => br0 ?_
      · rw [iN_inj (by omega) (by omega)] at e
        have hm' : R.2.1 k < 3 * F + 1 := by omega
        refine ⟨R.2.1 k, rfl, by omega, ?_⟩
        rw [d1 _ (by omega), d3]
        have fin : ∀ s0 : Int32, iN (hFk (3 * F + 1) R k) ||| s0 = iN (hFk (3 * F + 1) R (k + 1)) → Wp L xs xm_Mo_come 123 [.ref 400, .int (iN n), .int (iN k), .int (iN (R.2.1 k)), .int (iN (R.2.2.2 k))] [.int s0, .int (iN (hFk (3 * F + 1) R k)), .ref 400] g (QV Q) := by
          intro s0 es
          refine t_Mo_come_123 fun h1 x1 => ⟨R.2.1 k, rfl, by omega, fun h2 x2 => ⟨q + 2 + 3 * k, ?_, by omega, fun h3 x3 => ?_⟩⟩
          · rw [x2, xu_a (by omega), x1, xu_k (by omega), g56]; simp only [lit, iN_add, iN_mul]
          · have y401 : h2 401 (q + 2 + 3 * k) = iN (R.2.2.1 k) := by rw [x2, xu_a (by omega), x1, xu_a (by omega)]; exact r2
            rw [y401] at x3
            rw [iN_inc]
            refine k2 _ _ ⟨_, _, rfl, rfl, rfl, fun m hm => ?_, fun m hm z => ?_, ?_, fun j hj => ?_, fun x p q r => ?_⟩
            · rw [x3, xu_a (by omega), x2, xu_at, hRes_s]
              by_cases t : R.2.1 k = m
              · rw [if_pos ⟨rfl, t.symm⟩, if_pos ⟨t, by omega⟩]
              · rw [if_neg (fun z => t z.2.symm), if_neg (fun z => t z.1), x1, xu_a (by omega), d1 m hm]
            · rw [x3, xu_at, hVw_s]
              rw [hRes_s] at z
              by_cases t : R.2.1 k = m
              · rw [if_pos ⟨rfl, t.symm⟩, if_pos ⟨t, by omega⟩]
              · rw [if_neg (fun z => t z.1)] at z
                rw [if_neg (fun z => t z.2.symm), if_neg (fun z => t z.1), x2, xu_a (by omega), x1, xu_a (by omega), d2 m hm z]
            · rw [x3, xu_a (by omega), x2, xu_a (by omega), x1, xu_eq, es]
            · rw [x3, xu_a (by omega), x2, xu_a (by omega), x1, xu_k hj, d4 j hj]
            · rw [x3, xu_a r, x2, xu_a q, x1, xu_a p, d5 x p q r]
        refine ⟨fun p => fin 0 ?_, fun p => ⟨fun p2 => fin 0 ?_, fun p2 => fin _ ?_⟩⟩
        · rw [or0, hFk_s, if_neg (fun z => z.2.1 p)]
        · rw [or0, hFk_s, if_neg (fun z => z.2.2 p2)]
        · rw [or1 _ _ (by omega), hFk_s, if_pos ⟨hm', p, p2⟩]
      · rw [iN_inc]
        refine k2 _ _ ⟨_, _, rfl, rfl, rfl, fun m hm => ?_, fun m hm z2 => ?_, ?_, d4, d5⟩
        · rw [hRes_s, if_neg (fun y => z _ y.2 (by rw [y.1])), d1 m hm]
        · rw [hRes_s, if_neg (fun y => z _ y.2 (by rw [y.1]))] at z2
          rw [hVw_s, if_neg (fun y => z _ y.2 (by rw [y.1])), d2 m hm z2]
        · rw [d3, hFk_s, if_neg (fun y => z _ y.1 rfl)]
    · rintro l g ⟨v, v2, hv, hv2, rfl, d1, d2, d3, d4, d5⟩
      have rg : rP g q R := rp.fr (d5 401 (by omega) (by omega) (by omega))
      have g56 : g 400 56 = iN q := by rw [d4 56 (by omega), hq]
      have fin := kk g d1 d2 d3 d4 d5
      refine t_Mo_come_28 hv hv2 ?_
      by_cases t : N < n
      · refine brT ((iN_lt (b := _) (by omega) (by omega)).mpr (by omega)) ⟨q, g56, by omega, brF (by rw [rg.1]; exact fun z => absurd ((iN_lt (by omega) (by omega)).mp z) (by omega)) fin⟩
      · exact brF (fun z => absurd ((iN_lt (b := _) (by omega) (by omega)).mp z) (by omega)) fin
end TALLY
