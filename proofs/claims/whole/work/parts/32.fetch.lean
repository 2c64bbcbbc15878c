/-! accounts fetched by sums: differ -/
def wt (u : Nat → Bool) (k : Nat) : Bool := (decide (k < 2) || u (k / 2)) && ((decide (k < 4) || u (k / 4)) && (decide (k < 8) || u (k / 8)))
def dif (a b : Nat → Int32) : Nat → Bool := fun k => !decide (a k = b k)
def tak (u : Nat → Bool) (i : Nat) : Bool := wt u (8 + i) && u (8 + i)
def askN (u : Nat → Bool) : Nat := cntW (fun j => 1 ≤ j ∧ wt u j = true) 16
theorem wt_1 (u : Nat → Bool) : wt u 1 = true := by simp [wt]
theorem wt_up {u : Nat → Bool} {j : Nat} (h : 2 ≤ j) (h2 : j < 16) : wt u j = true ↔ wt u (j / 2) = true ∧ u (j / 2) = true := by
  unfold wt
  rw [show j / 2 / 2 = j / 4 by omega, show j / 2 / 4 = j / 8 by omega]
  simp only [Bool.and_eq_true, Bool.or_eq_true, decide_eq_true_iff]
  constructor
  · rintro ⟨a, b, c⟩
    exact ⟨⟨b.imp (fun z => by omega) id, c.imp (fun z => by omega) id, Or.inl (by omega)⟩, a.resolve_left (by omega)⟩
  · rintro ⟨⟨a, b, c⟩, d⟩
    exact ⟨Or.inr d, a.imp (fun z => by omega) id, b.imp (fun z => by omega) id⟩
theorem tb3 (n j : Nat) : (3 <<< n).testBit j = true ↔ j = n ∨ j = n + 1 := by
  rw [Nat.testBit_shiftLeft, show (3 : Nat) = 2 ^ 2 - 1 from rfl, Nat.testBit_two_pow_sub_one]
  simp only [Bool.and_eq_true, decide_eq_true_iff]
  omega
theorem tb1 (n j : Nat) : (1 <<< n).testBit j = true ↔ j = n := by
  rw [Nat.one_shiftLeft, Nat.testBit_two_pow]
  simp only [decide_eq_true_iff]
  omega
theorem tb2 (j : Nat) : (2 : Nat).testBit j = true ↔ j = 1 := by
  have := Nat.testBit_two_pow (n := 1) (m := j)
  rw [show (2 : Nat) ^ 1 = 2 from rfl] at this
  rw [this, decide_eq_true_iff]
  omega
theorem cnt_pos {p : Nat → Prop} [DecidablePred p] {n : Nat} (h : p n) : cntW p (n + 1) = cntW p n + 1 := if_pos h
theorem cnt_neg {p : Nat → Prop} [DecidablePred p] {n : Nat} (h : ¬ p n) : cntW p (n + 1) = cntW p n := if_neg h
theorem orlt {a b n : Nat} (ha : a < 2 ^ n) (hb : b < 2 ^ n) : a ||| b < 2 ^ n := Nat.or_lt_two_pow ha hb
theorem ask_two (u : Nat → Bool) : ∀ k, 1 ≤ k → k ≤ 8 → cntW (fun j => 1 ≤ j ∧ wt u j = true) (2 * k) = 1 + 2 * cntW (fun j => 1 ≤ j ∧ (wt u j = true ∧ u j = true)) k
  | 0, h, _ => absurd h (by omega)
  | 1, _, _ => by
    show cntW _ 2 = 1 + 2 * cntW _ 1
    rw [cntW_s, cntW_s, cntW_s, if_pos ⟨by omega, wt_1 u⟩, if_neg (fun z => absurd z.1 (by omega)), if_neg (fun z => absurd z.1 (by omega))]
    rfl
  | k + 2, _, h => by
    have ih := ask_two u (k + 1) (by omega) (by omega)
    have e3 : cntW (fun j => 1 ≤ j ∧ (wt u j = true ∧ u j = true)) (k + 2) = if 1 ≤ k + 1 ∧ (wt u (k + 1) = true ∧ u (k + 1) = true) then cntW (fun j => 1 ≤ j ∧ (wt u j = true ∧ u j = true)) (k + 1) + 1 else cntW (fun j => 1 ≤ j ∧ (wt u j = true ∧ u j = true)) (k + 1) := rfl
    rw [show 2 * (k + 2) = 2 * (k + 1) + 1 + 1 by omega, cntW_s, cntW_s, e3, ih]
    have e1 := wt_up (u := u) (j := 2 * (k + 1)) (by omega) (by omega)
    have e2 := wt_up (u := u) (j := 2 * (k + 1) + 1) (by omega) (by omega)
    rw [show 2 * (k + 1) / 2 = k + 1 by omega] at e1
    rw [show (2 * (k + 1) + 1) / 2 = k + 1 by omega] at e2
    by_cases hu : wt u (k + 1) = true ∧ u (k + 1) = true
    · rw [if_pos ⟨by omega, e2.mpr hu⟩, if_pos ⟨by omega, e1.mpr hu⟩, if_pos ⟨by omega, hu⟩]; omega
    · rw [if_neg (fun z => hu (e2.mp z.2)), if_neg (fun z => hu (e1.mp z.2)), if_neg (fun z => hu z.2)]
section FETCH
variable {L : Nat} {xs : Nat → Int32} {f g : Hp} {T : TD}
theorem c_fetch {Q : Hp → Prop} {s a b na nb : Nat} {u : Nat → Bool} (ks : xS0 L s = (7, 0)) (ka : xS0 L a = (20, na)) (kb : xS0 L b = (20, nb)) (hna : 8 ≤ na) (hnb : 8 ≤ nb) (ha : a < s ∨ s + 2 < a) (hb : b < s ∨ s + 2 < b) (hab : ¬ b = a) (hu : ∀ k, 1 ≤ k → k < 16 → (u k = true ↔ ¬ nd (f a) k = nd (f b) k)) (kk : ∀ g, g s 2 = iN (askN u) → g s 3 = iN (bN (fun i => tak u i = true) 8) → (∀ i, i < 8 → g a i = if tak u i = true then f b i else f a i) → (∀ i, 8 ≤ i → g a i = f a i) → (∀ x, ¬ x = s → ¬ x = s + 1 → ¬ x = s + 2 → ¬ x = a → g x = f x) → Q g) : CV L xs xm_Su_fetch [.ref s, .ref a, .ref b] f Q := by
  refine t_Su_fetch_0 ks ka kb (c_build ka (kf_7_0 ks).2 hna (by omega) fun g1 a1 a2 => c_build kb (kf_7_1 ks).2 hnb (by omega) fun g2 b1 b2 g3 e3 g4 e4 => ?_)
  have o1 : ∀ k, 1 ≤ k → k < 16 → g4 (s + 1) k = nd (f a) k := fun k p q => by rw [e4, xu_a (by omega), e3, xu_a (by omega), b2 _ (by omega), a1 k p q]
  have o2 : ∀ k, 1 ≤ k → k < 16 → g4 (s + 2) k = nd (f b) k := fun k p q => by rw [e4, xu_a (by omega), e3, xu_a (by omega), b1 k p q, a2 b (by omega)]
  have o3 : ∀ x, ¬ x = s → ¬ x = s + 1 → ¬ x = s + 2 → g4 x = f x := fun x p1 p2 p3 => by rw [e4, xu_a p1, e3, xu_a p1, b2 x p3, a2 x p2]
  have ou : ∀ k, 1 ≤ k → k < 16 → (u k = true ↔ ¬ g4 (s + 1) k = g4 (s + 2) k) := fun k p q => by rw [o1 k p q, o2 k p q]; exact hu k p q
  have p2 : g4 s 2 = 0 := by rw [e4, xu_k (by omega), e3, xu_eq]
  have p3 : g4 s 3 = 0 := by rw [e4, xu_eq]
  refine for0 15 (fun k l g => ∃ W, l = [.ref s, .ref a, .ref b, .int (iN W), .int (iN (k + 1))] ∧ W < 65536 ∧ (∀ j, 1 ≤ j → j < 16 → (W.testBit j = true ↔ wt u j = true ∧ (j = 1 ∨ j / 2 ≤ k))) ∧ g s 2 = iN (cntW (fun j => 1 ≤ j ∧ wt u j = true) (k + 1)) ∧ g s 3 = iN (bN (fun i => tak u i = true) (k - 7)) ∧ (∀ i, i < 8 → g a i = if tak u i = true ∧ i + 8 ≤ k then f b i else f a i) ∧ (∀ i, 8 ≤ i → g a i = f a i) ∧ (∀ x, ¬ x = s → ¬ x = a → g x = g4 x)) ⟨2, rfl, by omega, fun j h1 h2 => ?_, ?_, p3, fun i hi => ?_, fun i hi => by rw [o3 a (by omega) (by omega) (by omega)], fun x _ _ => rfl⟩ ?_ ?_
  · rw [tb2]
    constructor
    · intro e; subst e; exact ⟨wt_1 u, Or.inl rfl⟩
    · rintro ⟨-, e⟩; omega
  · rw [p2, cntW_s, if_neg (fun z => absurd z.1 (by omega))]; rfl
  · rw [o3 a (by omega) (by omega) (by omega), if_neg (fun z => absurd z.2 (by omega))]
  · rintro k l g hk ⟨W, rfl, hW, iW, i2, i3, ia, ia8, ifr⟩ k2
    have nb : W.testBit (k + 1) = true ↔ wt u (k + 1) = true := by
      rw [iW (k + 1) (by omega) (by omega)]
      exact ⟨fun z => z.1, fun z => ⟨z, by omega⟩⟩
    have un : u (k + 1) = true ↔ ¬ g (s + 1) (k + 1) = g (s + 2) (k + 1) := by
      rw [ifr (s + 1) (by omega) (by omega), ifr (s + 2) (by omega) (by omega)]
      exact ou _ (by omega) (by omega)
    have ch : ∀ j, 2 ≤ j → j < 16 → j / 2 = k + 1 → (wt u j = true ↔ wt u (k + 1) = true ∧ u (k + 1) = true) := fun j p q e => by rw [wt_up p q, e]
    have tk : 7 ≤ k → (tak u (k - 7) = true ↔ wt u (k + 1) = true ∧ u (k + 1) = true) := fun h7 => by
      unfold tak
      rw [show 8 + (k - 7) = k + 1 by omega, Bool.and_eq_true]
    have stay : ¬ (wt u (k + 1) = true ∧ u (k + 1) = true) → (∀ j, 1 ≤ j → j < 16 → (W.testBit j = true ↔ wt u j = true ∧ (j = 1 ∨ j / 2 ≤ k + 1))) ∧ bN (fun i => tak u i = true) (k + 1 - 7) = bN (fun i => tak u i = true) (k - 7) ∧ ∀ i, i < 8 → (if tak u i = true ∧ i + 8 ≤ k + 1 then f b i else f a i) = if tak u i = true ∧ i + 8 ≤ k then f b i else f a i := by
      intro hn
      refine ⟨fun j p q => ?_, ?_, fun i hi => ?_⟩
      · rw [iW j p q]
        by_cases e : j / 2 = k + 1
        · have := ch j (by omega) q e
          exact ⟨fun z => ⟨z.1, by omega⟩, fun z => absurd (this.mp z.1) hn⟩
        · exact ⟨fun z => ⟨z.1, by omega⟩, fun z => ⟨z.1, by omega⟩⟩
      · by_cases h7 : 7 ≤ k
        · rw [show k + 1 - 7 = (k - 7) + 1 by omega, bN_s, if_neg (fun z => hn ((tk h7).mp z))]
        · rw [show k + 1 - 7 = 0 by omega, show k - 7 = 0 by omega]
      · by_cases e : i + 8 = k + 1
        · have : ¬ tak u i = true := fun z => by
            rw [show i = k - 7 by omega] at z
            exact hn ((tk (by omega)).mp z)
          rw [if_neg (fun z => this z.1), if_neg (fun z => this z.1)]
        · by_cases e2 : i + 8 ≤ k
          · by_cases e3 : tak u i = true
            · rw [if_pos ⟨e3, by omega⟩, if_pos ⟨e3, e2⟩]
            · rw [if_neg (fun z => e3 z.1), if_neg (fun z => e3 z.1)]
          · rw [if_neg (fun z => absurd z.2 (by omega)), if_neg (fun z => absurd z.2 (by omega))]
    refine t_Su_fetch_31 ks ka kb (brT ((iN_lt (b := 16) (by omega) (by omega)).mpr (by omega)) (c_hasBit (by omega) (by omega) (fun hb => br1 fun g5 e5 => ⟨k + 1, rfl, by omega, ?_⟩) fun hb => br0 ?_))
    · have hw := nb.mp hb
      have f1 : g5 (s + 1) = g (s + 1) := by rw [e5, xu_a (by omega)]
      have f2 : g5 (s + 2) = g (s + 2) := by rw [e5, xu_a (by omega)]
      have c2 : g5 s 2 = iN (cntW (fun j => 1 ≤ j ∧ wt u j = true) (k + 1 + 1)) := by rw [e5, xu_eq, i2, iN_inc, cnt_pos (p := fun j => 1 ≤ j ∧ wt u j = true) (n := k + 1) ⟨by omega, hw⟩]
      have c3 : g5 s 3 = g s 3 := by rw [e5, xu_k (by omega)]
      have ca : g5 a = g a := by rw [e5, xu_a (by omega)]
      have cx : ∀ x, ¬ x = s → ¬ x = a → g5 x = g4 x := fun x p q => by rw [e5, xu_a p, ifr x p q]
      rw [f1, f2]
      refine ⟨fun p => ?_, fun p => ⟨fun p8 => ?_, fun p8 g6 e6 => ⟨k - 7, ?_, by omega, by omega, fun g7 e7 => ?_⟩⟩⟩
      · obtain ⟨s1, s2, s3⟩ := stay (fun z => (un.mp z.2) p)
        rw [iN_inc]
        exact k2 _ _ ⟨W, rfl, hW, s1, c2, by rw [c3, i3, s2], fun i hi => by rw [ca, ia i hi, s3 i hi], fun i hi => by rw [ca, ia8 i hi], cx⟩
      · have hu1 := un.mpr p
        have k8 : k + 1 < 8 := (iN_lt (b := 8) (by omega) (by omega)).mp p8
        rw [iN_inc, show 2 * iN (k + 1) = iN (2 * (k + 1)) from iN_mul 2 _, show (3 : Int32) = iN 3 from rfl, iN_shl (by omega), iN_or]
        refine k2 _ _ ⟨_, rfl, orlt (n := 16) hW ?_, fun j p q => ?_, c2, ?_, fun i hi => ?_, fun i hi => by rw [ca, ia8 i hi], cx⟩
        · have : k + 1 = 1 ∨ k + 1 = 2 ∨ k + 1 = 3 ∨ k + 1 = 4 ∨ k + 1 = 5 ∨ k + 1 = 6 ∨ k + 1 = 7 := by omega
          rcases this with e | e | e | e | e | e | e <;> rw [e] <;> decide
        · rw [Nat.testBit_or, Bool.or_eq_true, iW j p q, tb3]
          by_cases e : j / 2 = k + 1
          · have := (ch j (by omega) q e).mpr ⟨hw, hu1⟩
            exact ⟨fun _ => ⟨this, by omega⟩, fun _ => Or.inr (by omega)⟩
          · exact ⟨fun z => ⟨by rcases z with z | z; exact z.1; omega, by omega⟩, fun z => Or.inl ⟨z.1, by omega⟩⟩
        · rw [c3, i3, show k + 1 - 7 = 0 by omega, show k - 7 = 0 by omega]
        · rw [ca, ia i hi, if_neg (fun z => absurd z.2 (by omega)), if_neg (fun z => absurd z.2 (by omega))]
      · have : ¬ k + 1 < 8 := fun z => p8 ((iN_lt (b := 8) (by omega) (by omega)).mpr z)
        rw [show k - 7 = k + 1 - 8 by omega]
        exact iN_sub (b := 8) (by omega)
      · have k8 : ¬ k + 1 < 8 := fun z => p8 ((iN_lt (b := 8) (by omega) (by omega)).mpr z)
        have hu1 := un.mpr p
        have ht := (tk (by omega)).mpr ⟨hw, hu1⟩
        rw [show iN (k + 1) - 8 = iN (k + 1 - 8) from iN_sub (b := 8) (by omega), show k + 1 - 8 = k - 7 by omega, c3, i3, or1 _ _ (by omega)] at e6
        rw [iN_inc]
        have cb : g6 b = f b := by rw [e6, xu_a (by omega), cx b (by omega) hab, o3 b (by omega) (by omega) (by omega)]
        refine k2 _ _ ⟨W, rfl, hW, fun j p q => ?_, by rw [e7, xu_a (by omega), e6, xu_k (by omega)]; exact c2, ?_, fun i hi => ?_, fun i hi => by rw [e7, xu_k (by omega), e6, xu_a (by omega), ca, ia8 i hi], fun x p q => by rw [e7, xu_a q, e6, xu_a p, cx x p q]⟩
        · rw [iW j p q]
          exact ⟨fun z => ⟨z.1, by omega⟩, fun z => ⟨z.1, by omega⟩⟩
        · rw [e7, xu_a (by omega), e6, xu_eq, show k + 1 - 7 = (k - 7) + 1 by omega, bN_s, if_pos ht]
        · rw [e7, xu_at, cb]
          by_cases e : i = k - 7
          · subst e
            rw [if_pos ⟨rfl, rfl⟩, if_pos ⟨ht, by omega⟩]
          · rw [if_neg (fun z => e z.2), e6, xu_a (by omega), ca, ia i hi]
            by_cases e3 : tak u i = true ∧ i + 8 ≤ k
            · rw [if_pos e3, if_pos ⟨e3.1, by omega⟩]
            · rw [if_neg e3, if_neg (fun z => e3 ⟨z.1, by omega⟩)]
    · have hw : ¬ wt u (k + 1) = true := fun z => by rw [nb.mpr z] at hb; cases hb
      obtain ⟨s1, s2, s3⟩ := stay (fun z => hw z.1)
      rw [iN_inc]
      exact k2 _ _ ⟨W, rfl, hW, s1, by rw [cnt_neg (p := fun j => 1 ≤ j ∧ wt u j = true) (n := k + 1) (fun z => hw z.2)]; exact i2, by rw [s2]; exact i3, fun i hi => by rw [ia i hi, s3 i hi], ia8, ifr⟩
  · rintro l g ⟨W, rfl, hW, iW, i2, i3, ia, ia8, ifr⟩
    refine t_Su_fetch_31 ks ka kb (brF (by decide) (kk g i2 i3 (fun i hi => ?_) ia8 fun x p q r t => by rw [ifr x p t, o3 x p q r]))
    rw [ia i hi]
    by_cases e3 : tak u i = true
    · rw [if_pos e3, if_pos ⟨e3, by omega⟩]
    · rw [if_neg e3, if_neg (fun z => e3 z.1)]
theorem r_sk64 {Q : Hp → Prop} {u : Nat → Bool} {U n b : Nat} (hn : n < 8) (hb : b ≤ 2 * n + 1) (hb1 : 1 ≤ b) (hU : U < 65536) (hu : u b = true ↔ ¬ f 404 b = f 405 b) (kk : ∀ U', U' < 65536 → (∀ j, U'.testBit j = true ↔ U.testBit j = true ∨ (j = b ∧ u b = true)) → Wp L xs xm_Mo_seeks 64 [.ref 400, .int (iN U'), .int (iN n), .int (iN (b + 1))] [] f (QV Q)) : Wp L xs xm_Mo_seeks 64 [.ref 400, .int (iN U), .int (iN n), .int (iN b)] [] f (QV Q) := by
  refine t_Mo_seeks_64 (brF ?_ ⟨b, rfl, by omega, fun p => ?_, fun p => ?_⟩)
  · rw [show 2 * iN n + 1 = iN (2 * n + 1) by simp only [lit, iN_add, iN_mul]]
    exact (fun z => absurd ((iN_lt (b := _) (by omega) (by omega)).mp z) (by omega))
  · rw [or0, iN_inc]
    exact kk U hU fun j => ⟨Or.inl, fun z => z.elim id fun z => absurd p (hu.mp z.2)⟩
  · rw [or1 _ _ (by omega), iN_inc]
    refine kk _ (orlt (n := 16) hU ?_) fun j => ?_
    · rw [Nat.one_shiftLeft]
      exact Nat.pow_lt_pow_right (by omega) (by omega)
    · rw [Nat.testBit_or, Bool.or_eq_true, tb1]
      exact ⟨fun z => z.imp id fun z => ⟨z, hu.mpr p⟩, fun z => z.imp id fun z => z.1⟩
theorem r_seeks {Q : Hp → Prop} (u : Nat → Bool) (hu : ∀ k, 1 ≤ k → k < 16 → (u k = true ↔ ¬ f 404 k = f 405 k)) (kk : ∀ g, g 400 21 = iN (askN u) → g 400 22 = iN (bN (fun i => tak u i = true) 8) → (∀ j, ¬ j = 21 → ¬ j = 22 → g 400 j = f 400 j) → (∀ x, ¬ x = 400 → g x = f x) → Q g) : CV L xs xm_Mo_seeks [.ref 400] f Q := by
  refine t_Mo_seeks_0 fun g1 e1 g2 e2 => ?_
  have q1 : g2 400 21 = 1 := by rw [e2, xu_k (by omega), e1, xu_eq]
  have q2 : g2 400 22 = 0 := by rw [e2, xu_eq]
  have q3 : ∀ j, ¬ j = 21 → ¬ j = 22 → g2 400 j = f 400 j := fun j p q => by rw [e2, xu_k q, e1, xu_k p]
  have q4 : ∀ x, ¬ x = 400 → g2 x = f x := fun x p => by rw [e2, xu_a p, e1, xu_a p]
  have main : ∀ U0, U0 < 65536 → (∀ j, 1 ≤ j → j < 16 → (U0.testBit j = true ↔ j = 1 ∧ u 1 = true)) → Wp L xs xm_Mo_seeks 33 [.ref 400, .int (iN U0), .int 1, .retAddr 0] [] g2 (QV Q) := by
    intro U0 hU0 iU0
    refine for0 7 (fun k l g => ∃ U v, Value.category v != 2 ∧ l = [.ref 400, .int (iN U), .int (iN (k + 1)), v] ∧ U < 65536 ∧ (∀ j, 1 ≤ j → j < 16 → (U.testBit j = true ↔ (wt u j = true ∧ u j = true) ∧ (j = 1 ∨ j / 2 ≤ k))) ∧ g 400 21 = iN (1 + 2 * cntW (fun j => 1 ≤ j ∧ (wt u j = true ∧ u j = true)) (k + 1)) ∧ g 400 22 = 0 ∧ (∀ j, ¬ j = 21 → ¬ j = 22 → g 400 j = f 400 j) ∧ ∀ x, ¬ x = 400 → g x = f x) ⟨U0, _, rfl, rfl, hU0, fun j h1 h2 => ?_, ?_, q2, q3, q4⟩ ?_ ?_
    · rw [iU0 j h1 h2]
      constructor
      · rintro ⟨rfl, z⟩; exact ⟨⟨wt_1 u, z⟩, Or.inl rfl⟩
      · rintro ⟨z, z2⟩
        have : j = 1 := by omega
        subst this
        exact ⟨rfl, z.2⟩
    · rw [q1, cntW_s, if_neg (fun z => absurd z.1 (by omega))]; rfl
    · rintro k l g hk ⟨U, v, hv, rfl, hU, iU, i1, i2, i3, i4⟩ k2
      have nb : U.testBit (k + 1) = true ↔ wt u (k + 1) = true ∧ u (k + 1) = true := by
        rw [iU (k + 1) (by omega) (by omega)]
        exact ⟨fun z => z.1, fun z => ⟨z, by omega⟩⟩
      have ch : ∀ j, 2 ≤ j → j < 16 → j / 2 = k + 1 → (wt u j = true ↔ wt u (k + 1) = true ∧ u (k + 1) = true) := fun j p q e => by rw [wt_up p q, e]
      refine t_Mo_seeks_33 hv (brT ((iN_lt (b := 8) (by omega) (by omega)).mpr (by omega)) ?_)
      rw [bit1 (by omega) (by omega)]
      by_cases hb : U.testBit (k + 1) = true
      · rw [if_pos hb]
        refine brF (by decide) fun g5 e5 => ?_
        have f404 : g5 404 = f 404 := by rw [e5, xu_a (by omega), i4 404 (by omega)]
        have f405 : g5 405 = f 405 := by rw [e5, xu_a (by omega), i4 405 (by omega)]
        have uu : ∀ b, 1 ≤ b → b < 16 → (u b = true ↔ ¬ g5 404 b = g5 405 b) := fun b p q => by rw [f404, f405]; exact hu b p q
        rw [show 2 * iN (k + 1) = iN (2 * (k + 1)) from iN_mul 2 _]
        refine r_sk64 (u := u) (by omega) (by omega) (by omega) hU (uu _ (by omega) (by omega)) fun U1 h1 t1 => ?_
        refine r_sk64 (u := u) (by omega) (by omega) (by omega) h1 (uu _ (by omega) (by omega)) fun U2 h2 t2 => ?_
        refine t_Mo_seeks_64 (brT ?_ ?_)
        · rw [show 2 * iN (k + 1) + 1 = iN (2 * (k + 1) + 1) by simp only [lit, iN_add, iN_mul]]
          exact ((iN_lt (b := _) (by omega) (by omega)).mpr (by omega))
        · rw [iN_inc]
          have hn := nb.mp hb
          refine k2 _ _ ⟨U2, _, rfl, rfl, h2, fun j p q => ?_, ?_, by rw [e5, xu_k (by omega)]; exact i2, fun j p q => by rw [e5, xu_k p, i3 j p q], fun x p => by rw [e5, xu_a p, i4 x p]⟩
          · rw [t2, t1, iU j p q]
            by_cases e : j / 2 = k + 1
            · have hj := (ch j (by omega) q e).mpr hn
              have : j = 2 * (k + 1) ∨ j = 2 * (k + 1) + 1 := by omega
              constructor
              · rintro ((⟨z, z2⟩ | ⟨z, z2⟩) | ⟨z, z2⟩)
                · exact ⟨z, by omega⟩
                · exact ⟨⟨hj, by rw [z]; exact z2⟩, by omega⟩
                · exact ⟨⟨hj, by rw [z]; exact z2⟩, by omega⟩
              · rintro ⟨⟨z, z2⟩, z3⟩
                rcases this with t | t
                · exact Or.inl (Or.inr ⟨t, by rw [← t]; exact z2⟩)
                · exact Or.inr ⟨t, by rw [← t]; exact z2⟩
            · constructor
              · rintro ((⟨z, z2⟩ | ⟨z, z2⟩) | ⟨z, z2⟩)
                · exact ⟨z, by omega⟩
                · omega
                · omega
              · rintro ⟨z, z2⟩
                exact Or.inl (Or.inl ⟨z, by omega⟩)
          · rw [e5, xu_eq, i1, cnt_pos (p := fun j => 1 ≤ j ∧ (wt u j = true ∧ u j = true)) (n := k + 1) ⟨by omega, hn⟩, show (2 : Int32) = iN 2 from rfl, iN_add]
            congr 1
      · rw [if_neg hb]
        refine brT (by decide) ?_
        have hn : ¬ (wt u (k + 1) = true ∧ u (k + 1) = true) := fun z => hb (nb.mpr z)
        rw [iN_inc]
        refine k2 _ _ ⟨U, v, hv, rfl, hU, fun j p q => ?_, ?_, i2, i3, i4⟩
        · rw [iU j p q]
          by_cases e : j / 2 = k + 1
          · have := ch j (by omega) q e
            exact ⟨fun z => ⟨z.1, by omega⟩, fun z => absurd (this.mp z.1.1) hn⟩
          · exact ⟨fun z => ⟨z.1, by omega⟩, fun z => ⟨z.1, by omega⟩⟩
        · rw [i1, cnt_neg (p := fun j => 1 ≤ j ∧ (wt u j = true ∧ u j = true)) (n := k + 1) (fun z => hn z.2)]
    · rintro l g ⟨U, v, hv, rfl, hU, iU, i1, i2, i3, i4⟩
      refine t_Mo_seeks_33 hv (brF (by decide) ?_)
      have hask : g 400 21 = iN (askN u) := by
        rw [i1]
        exact congrArg iN (ask_two u 8 (by omega) (by omega)).symm
      refine for0 8 (fun k l h => l = [.ref 400, .int (iN U), .int (iN k), v] ∧ h 400 22 = iN (bN (fun i => tak u i = true) k) ∧ (∀ j, ¬ j = 22 → h 400 j = g 400 j) ∧ ∀ x, ¬ x = 400 → h x = f x) ⟨rfl, i2, fun _ _ => rfl, i4⟩ ?_ ?_
      · rintro k l h hk ⟨rfl, a1, a2, a3⟩ k2
        refine t_Mo_seeks_112 hv (brT ((iN_lt (b := 8) (by omega) (by omega)).mpr (by omega)) fun h1 e1 => ?_)
        rw [show 8 + iN k = iN (8 + k) from iN_add 8 k, bit1 (by omega) (by omega), iN_shl (by omega), a1, iN_or] at e1
        rw [iN_inc]
        refine k2 _ _ ⟨rfl, ?_, fun j p => by rw [e1, xu_k p, a2 j p], fun x p => by rw [e1, xu_a p, a3 x p]⟩
        rw [e1, xu_eq, bN_s]
        have hb : U.testBit (8 + k) = true ↔ tak u k = true := by
          rw [iU _ (by omega) (by omega)]
          unfold tak
          rw [Bool.and_eq_true]
          exact ⟨fun z => z.1, fun z => ⟨z, by omega⟩⟩
        by_cases ht : tak u k = true
        · rw [if_pos (hb.mpr ht), if_pos ht]
        · rw [if_neg (fun z => ht (hb.mp z)), if_neg ht, Nat.zero_shiftLeft, Nat.or_zero]
      · rintro l h ⟨rfl, a1, a2, a3⟩
        exact t_Mo_seeks_112 hv (brF (by decide) (kk h (by rw [a2 21 (by omega)]; exact hask) a1 (fun j p q => by rw [a2 j q, i3 j p q]) a3))
  refine ⟨fun p => ?_, fun p => ?_⟩
  · rw [q4 404 (by omega), q4 405 (by omega)] at p
    refine main 0 (by omega) fun j h1 h2 => ?_
    rw [Nat.zero_testBit]
    exact ⟨fun z => absurd z (by decide), fun z => absurd p ((hu 1 (by omega) (by omega)).mp z.2)⟩
  · rw [q4 404 (by omega), q4 405 (by omega)] at p
    refine main 2 (by omega) fun j h1 h2 => ?_
    rw [tb2]
    exact ⟨fun z => ⟨z, (hu 1 (by omega) (by omega)).mpr p⟩, fun z => z.1⟩
end FETCH
