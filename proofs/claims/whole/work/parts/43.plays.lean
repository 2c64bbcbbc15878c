/-! PLAY in the reference -/
def rEn (t : Nat) : Nat := if 1000000 ≤ t then 99999999 else t
theorem rEn_lt {a b : Nat} (ha : a ≤ 1000000) (hb : b ≤ 1000000) : rEn a < rEn b ↔ a < b := by
  unfold rEn
  split <;> split <;> omega
theorem rEn_le (a : Nat) : rEn a ≤ 99999999 := by
  unfold rEn
  split <;> omega
theorem rEn_inf : rEn 1000000 = 99999999 := rfl
theorem rEn_far {a : Nat} (ha : a ≤ 1000000) : rEn a < 99999999 ↔ a < 1000000 := by
  unfold rEn
  split <;> omega
theorem rEn_id {a : Nat} (ha : a < 1000000) : rEn a = a := if_neg (by omega)
def rTT (f : Hp) (t : TT) : Prop := ∀ m i, m < 7 → 1 ≤ i → i ≤ 10 → f 427 (13 * m + i) = iN (rEn (t.1 m i)) ∧ f 428 (13 * m + i) = iN (rEn (t.2.1 m i)) ∧ f 429 (13 * m + i) = iN (rEn (t.2.2.1 m i)) ∧ f 430 (13 * m + i) = iN (rEn (t.2.2.2 m i))
def rDl (f : Hp) (o : Nat) (D : CD) : Prop := ∀ a b, a < 7 → b < 7 → f 401 (o + 33 + 7 * a + b) = iN (dD D a b)
theorem rDl.fr {f g : Hp} {o : Nat} {D : CD} (h : rDl f o D) (e : g 401 = f 401) : rDl g o D := by unfold rDl; rw [e]; exact h
section PLAYS
variable {L : Nat} {xs : Nat → Int32} {f g : Hp} {T : TD} {D : CD} {t : TT}
theorem r_at {Q : Int32 → Hp → Prop} {m s : Nat} (kk : Q (iN (13 * m + s)) f) : CI L xs xm_Mo_at [.int (iN m), .int (iN s)] f Q := by
  refine t_Mo_at_0 ?_
  rw [show 13 * iN m + iN s = iN (13 * m + s) by simp only [lit, iN_add, iN_mul]]
  exact kk
theorem r_later {Q : Int32 → Hp → Prop} {a b : Nat} (ha : a ≤ 1000000) (hb : b ≤ 1000000) (kk : Q (iN (rEn (max a b))) f) : CI L xs xm_Mo_later [.int (iN (rEn a)), .int (iN (rEn b))] f Q := by
  have la := rEn_le a
  have lb := rEn_le b
  refine t_Mo_later_0 ?_
  rw [show (99999999 : Int32) = iN 99999999 from rfl, iN_lt (by omega) (by omega), iN_lt (by omega) (by omega), iN_lt (by omega) (by omega), rEn_far ha, rEn_far hb, rEn_lt hb ha]
  refine ⟨fun p => ⟨fun p2 => ⟨fun p3 => ?_, fun p3 => ?_⟩, fun p2 => ?_⟩, fun p => ?_⟩
  · rw [show max a b = a by omega] at kk; exact kk
  · rw [show max a b = b by omega] at kk; exact kk
  · rw [show max a b = 1000000 by omega] at kk; exact kk
  · rw [show max a b = 1000000 by omega] at kk; exact kk
theorem r_behindBy {Q : Int32 → Hp → Prop} {a d : Nat} (ha : a ≤ 1000000) (hd : a < 1000000 → a + d < 1000000) (kk : Q (iN (rEn (addT a d))) f) : CI L xs xm_Mo_behindBy [.int (iN (rEn a)), .int (iN d)] f Q := by
  have la := rEn_le a
  refine t_Mo_behindBy_0 ?_
  rw [show (99999999 : Int32) = iN 99999999 from rfl, iN_lt (by omega) (by omega), rEn_far ha]
  unfold addT at kk
  refine ⟨fun p => ?_, fun p => ?_⟩
  · rw [if_neg (by omega), rEn_id (hd p)] at kk
    rw [rEn_id p, iN_add]
    exact kk
  · rw [if_pos (by omega)] at kk
    exact kk
theorem r_lowFrom {Q : Int32 → Hp → Prop} {m p b : Nat} {x : Int32} {C : Nat → Nat} (hm : m < 7) (hC : ∀ s, 1 ≤ s → s ≤ 10 → f 430 (13 * m + s) = iN (rEn (C s))) (hb : ∀ s, C s ≤ 1000000) (hx : plc x p) (hb1 : b ≤ 11) (kk : Q (iN (rEn (low C p b))) f) : CI L xs xm_Mo_lowFrom [.ref 400, .int (iN m), .int x, .int (iN b)] f Q := by
  rcases hx with ⟨rfl, hx⟩ | ⟨h1, h2, rfl⟩
  · exact t_Mo_lowFrom_0 (brF hx kk)
  · have e : low C p b = mnT C p (b - p) := if_neg (by omega)
    rw [e] at kk
    refine t_Mo_lowFrom_0 (brT ((iN_lt (a := 0) (by omega) (by omega)).mpr (by omega)) ?_)
    refine for0 (b - p) (fun k l g => l = [.ref 400, .int (iN m), .int (iN p), .int (iN b), .int (iN (rEn (mnT C p k))), .int (iN (p + k))] ∧ g = f) ⟨rfl, rfl⟩ ?_ ?_
    · rintro k l g hk ⟨rfl, rfl⟩ k2
      have i1 := mnT_inf C p k
      have i2 := hb (p + k)
      have l1 := rEn_le (mnT C p k)
      have l2 := rEn_le (C (p + k))
      refine t_Mo_lowFrom_14 (brT ((iN_lt (b := _) (by omega) (by omega)).mpr (by omega)) (r_at ⟨13 * m + (p + k), rfl, by omega, ?_⟩))
      rw [hC _ (by omega) (by omega), iN_lt (by omega) (by omega), rEn_lt i2 i1, iN_inc]
      refine ⟨fun q => r_at ⟨13 * m + (p + k), rfl, by omega, ?_⟩, fun q => k2 _ _ ⟨?_, rfl⟩⟩
      · rw [hC _ (by omega) (by omega)]
        refine k2 _ _ ⟨?_, rfl⟩
        rw [mnT_s, Nat.min_eq_right (by omega)]; rfl
      · rw [mnT_s, Nat.min_eq_left (by omega)]; rfl
    · rintro l g ⟨rfl, rfl⟩
      exact t_Mo_lowFrom_14 (brF (fun z => absurd ((iN_lt (b := _) (by omega) (by omega)).mp z) (by omega)) kk)
theorem r_liar {Q : Int32 → Hp → Prop} {o m : Nat} (w : wfC D) (cu : cur f o D) (hm : m < 3 * dF D + 1) (h1 : hon D m = true → Q 0 f) (h0 : hon D m = false → Q 1 f) : CI L xs xm_Mo_isLiar [.ref 400, .int (iN m)] f Q := by
  have hF := w.1
  have hp := pow7 hF
  have w4 := w.2.2.2.1
  refine r_isLiar cu.2.2.2.2.2.2.1 (by omega) (by omega) (fun hb => h0 ?_) fun hb => h1 (hon_iff.mpr ⟨hm, hb⟩)
  cases hh : hon D m with
  | false => rfl
  | true => have := (hon_iff.mp hh).2; rw [hb] at this; cases this
theorem r_delayD {Q : Int32 → Hp → Prop} {o a b : Nat} (c : cur f o D) (r : rDl f o D) (ho : o ≤ 692) (ha : a < 7) (hb : b < 7) (h : Q (iN (dD D a b)) f) : CI L xs xm_Mo_delayOf [.ref 400, .int (iN a), .int (iN b)] f Q := by
  refine t_Mo_delayOf_0 ⟨o + 33 + 7 * a + b, by rw [c.1]; simp only [lit, iN_add, iN_mul], by omega, ?_⟩
  rw [r a b ha hb]; exact h
theorem r_laysComes {Q : Hp → Prop} {o x1 m s : Nat} {X : Nat → Nat → Nat} (kx : xS0 L x1 = (20, 91)) (w : wfC D) (cu : cur f o D) (rc : rDl f o D) (ho : o ≤ 692) (hm : m < 7) (hs : 1 ≤ s ∧ s ≤ 10) (hx1 : ¬ x1 = 431) (hX : ∀ b, b < 7 → f x1 (13 * b + s) = iN (rEn (X b s))) (iX : ∀ b, X b s ≤ 400 ∨ X b s = 1000000) (li : ∀ b, hon D b = false → X b s = 1000000) (kk : ∀ g, (∀ b, b < 3 * dF D + 1 → g 431 b = iN (rEn (wds D X m s b))) → (∀ x, ¬ x = 431 → g x = f x) → Q g) : CV L xs xm_Mo_laysComes [.ref 400, .ref x1, .int (iN m), .int (iN s)] f Q := by
  have hF := w.1
  refine t_Mo_laysComes_0 kx ?_
  refine for0 7 (fun k l g => l = [.ref 400, .ref x1, .int (iN m), .int (iN s), .int (iN k)] ∧ (∀ b, b < k → b < 3 * dF D + 1 → g 431 b = iN (rEn (wds D X m s b))) ∧ ∀ x, ¬ x = 431 → g x = f x) ⟨rfl, fun b hb => absurd hb (by omega), fun _ _ => rfl⟩ ?_ ?_
  · rintro k l g hk ⟨rfl, b1, b2⟩ k2
    have cg := cu.fr (b2 400 (by omega))
    have rg := rc.fr (b2 401 (by omega))
    have fin : ∀ (v : Int32) (g2 : Hp), (k < 3 * dF D + 1 → v = iN (rEn (wds D X m s k))) → g2 = xu g 431 k v → Wp L xs xm_Mo_laysComes 3 [.ref 400, .ref x1, .int (iN m), .int (iN s), .int (iN k + 1)] [] g2 (QV Q) := by
      intro v g2 ev e2
      rw [iN_inc]
      refine k2 _ _ ⟨rfl, fun b hb hb2 => ?_, fun x hx => by rw [e2, xu_a hx, b2 x hx]⟩
      rw [e2, xu_at]
      by_cases e : b = k
      · subst e
        rw [if_pos ⟨rfl, rfl⟩, ev hb2]
      · rw [if_neg (by omega), b1 b (by omega) hb2]
    refine t_Mo_laysComes_3 kx (brT ((iN_lt (b := 7) (by omega) (by omega)).mpr (by omega)) ?_)
    rw [cg.2.2.1]
    by_cases hM : k < 3 * dF D + 1
    · refine brT ((iN_lt (b := _) (by omega) (by omega)).mpr (by omega)) (r_liar w cg hM (fun hh => br0 ⟨fun p => r_at ⟨13 * k + s, rfl, by omega, k, rfl, hk, fun g8 e8 => fin _ g8 (fun _ => ?_) e8⟩, fun p => r_at ⟨13 * k + s, rfl, by omega, ?_⟩⟩) fun hh => br1 ⟨k, rfl, hk, fun g9 e9 => fin _ g9 (fun _ => ?_) e9⟩)
      · have p := (iN_inj (by omega) (by omega)).mp p
        rw [b2 x1 hx1, hX k hk]
        unfold wds
        rw [if_pos p]
      · have p : ¬ k = m := fun z => p (by rw [z])
        rw [b2 x1 hx1, hX k hk]
        have d9 := (w.2.2.2.2.2.2.2 k m hk hm).2
        refine r_delayD cg rg ho hk hm (r_behindBy (by have := iX k; omega) (fun z => by have := iX k; omega) ⟨k, rfl, hk, fun g6 e6 => fin _ g6 (fun _ => ?_) e6⟩)
        unfold wds
        rw [if_neg p]
      · unfold wds
        rw [li k hh]
        split
        · rfl
        · rfl
    · exact brF (fun z => absurd ((iN_lt (b := _) (by omega) (by omega)).mp z) (by omega)) ⟨k, rfl, hk, fun g1 e1 => fin _ g1 (fun z => absurd z hM) e1⟩
  · rintro l g ⟨rfl, b1, b2⟩
    exact t_Mo_laysComes_3 kx (brF (by decide) (kk g (fun b hb => b1 b (by omega) hb) b2))
theorem r_manyCome {Q : Int32 → Hp → Prop} {k M : Nat} {r : Nat → Nat} (hM : f 400 13 = iN M) (h7 : M ≤ 7) (hk : k < 2147483648) (h : ∀ b, b < M → f 431 b = iN (rEn (r b))) (hb : ∀ b, b < M → r b ≤ 1000000) (kk : Q (iN (rEn (kt r M k))) f) : CI L xs xm_Mo_manyCome [.ref 400, .int (iN k)] f Q := by
  refine t_Mo_manyCome_0 ?_
  refine for0 M (fun a l g => ∃ v v2 : Value, (v.category != 2) = true ∧ (v2.category != 2) = true ∧ l = [.ref 400, .int (iN k), .int (iN (rEn (kth r M k a))), .int (iN a), v, v2] ∧ g = f) ⟨_, _, rfl, rfl, rfl, rfl⟩ ?_ ?_
  · rintro a l g ha ⟨v, v2, hv, hv2, rfl, rfl⟩ k2
    have ki : kth r M k a ≤ 1000000 := (kth_le a).mpr (Or.inl (Nat.le_refl _))
    have ba := hb a ha
    have la := rEn_le (r a)
    have lk := rEn_le (kth r M k a)
    refine t_Mo_manyCome_6 hv hv2 ?_
    rw [hM]
    refine brT ((iN_lt (b := _) (by omega) (by omega)).mpr (by omega)) ?_
    refine for0 M (fun b l h => l = [.ref 400, .int (iN k), .int (iN (rEn (kth r M k a))), .int (iN a), .int (iN (cntW (fun i => r i ≤ r a) b)), .int (iN b)] ∧ h = g) ⟨rfl, rfl⟩ ?_ ?_
    · rintro b l h' hb' ⟨rfl, rfl⟩ k3
      have bb := hb b hb'
      have lb := rEn_le (r b)
      refine t_Mo_manyCome_20 ?_
      rw [hM]
      refine brT ((iN_lt (b := _) (by omega) (by omega)).mpr (by omega)) ⟨b, rfl, by omega, a, rfl, by omega, ?_⟩
      rw [h a ha, h b hb', iN_lt (by omega) (by omega), rEn_lt ba bb, add0, iN_inc, iN_inc]
      refine ⟨fun p => k3 _ _ ⟨?_, rfl⟩, fun p => k3 _ _ ⟨?_, rfl⟩⟩
      · rw [cntW_s, if_neg (by omega)]
      · rw [cntW_s, if_pos (by omega)]
    · rintro l h' ⟨rfl, rfl⟩
      have cl := cntW_le (fun i => r i ≤ r a) M
      refine t_Mo_manyCome_20 ?_
      rw [hM]
      refine brF (fun z => absurd ((iN_lt (b := _) (by omega) (by omega)).mp z) (by omega)) ?_
      rw [iN_lt (by omega) hk, iN_inc]
      refine ⟨fun p => k2 _ _ ⟨.int (iN (cntW (fun i => r i ≤ r a) M)), .int (iN M), rfl, rfl, ?_, rfl⟩, fun p => ⟨a, rfl, by omega, ?_⟩⟩
      · rw [kth_s, if_neg (by omega)]
      · rw [h a ha, iN_lt (by omega) (by omega), rEn_lt ba ki]
        refine ⟨fun q => k2 _ _ ⟨.int (iN (cntW (fun i => r i ≤ r a) M)), .int (iN M), rfl, rfl, ?_, rfl⟩, fun q => k2 _ _ ⟨.int (iN (cntW (fun i => r i ≤ r a) M)), .int (iN M), rfl, rfl, ?_, rfl⟩⟩
        · rw [kth_s, if_pos (by omega), Nat.min_eq_right (by omega)]
        · rw [kth_s, if_pos (by omega), Nat.min_eq_left (by omega)]
  · rintro l g ⟨v, v2, hv, hv2, rfl, rfl⟩
    refine t_Mo_manyCome_6 hv hv2 ?_
    rw [hM]
    exact brF (fun z => absurd ((iN_lt (b := _) (by omega) (by omega)).mp z) (by omega)) kk
/-- what the reference accepts at a place: as the class does, or never behind the last order -/
def rA (D : CD) (s : Nat) (t : TT) : Nat → Nat → Nat := if s ≤ dN D then upA D s t else t.1
theorem r_playsAccepts {Q : Hp → Prop} {o s : Nat} (w : wfC D) (h0 : hon D 0 = true) (hs : 1 ≤ s ∧ s ≤ 10) (wm : wfM D (s - 1) t) (cu : cur f o D) (rc : rDl f o D) (ho : o ≤ 692) (rt : rTT f t) (bA : ∀ m, bt (upA D s t m s) (s - 1) (36 * (s - 1) + 9)) (kk : ∀ g, (∀ m i, m < 7 → 1 ≤ i → i ≤ 10 → g 427 (13 * m + i) = iN (rEn (rA D s t m i))) → (∀ x, ¬ x = 427 → g x = f x) → Q g) : CV L xs xm_Mo_playsAccepts [.ref 400, .int (iN s)] f Q := by
  have hF := w.1
  have w5 := w.2.2.2.2.1
  have inf := wm.inf
  have up := wm.2.2.2.1
  have wl : ∀ m i, t.2.2.2 m i ≤ 1000000 := fun m i => by
    by_cases z : i ≤ 10
    · exact (inf m i z).2.2.1
    · rw [(up m i (by omega)).2.2.2]; exact Nat.le_refl _
  have cutL : ∀ m, low (t.2.2.2 m) (s - dW D) s = low (t.2.2.2 m) (s - dW D) 11 := fun m => (low_cut (by omega) fun i h1 h2 => (up m i (by omega)).2.2.2).symm
  obtain ⟨own, hown⟩ : ∃ own, own = if s ≤ dN D then s - 1 else 1000000 := ⟨_, rfl⟩
  have iown : own ≤ 1000000 := by rw [hown]; split <;> omega
  have l0 := low_inf (t.2.2.2 0) (s - dW D) 11
  have a0i : t.1 0 (s - 1) ≤ 1000000 := (inf 0 (s - 1) (by omega)).1.1
  obtain ⟨a0, ha0⟩ : ∃ a0, a0 = max (max own (low (t.2.2.2 0) (s - dW D) 11)) (t.1 0 (s - 1)) := ⟨_, rfl⟩
  have ia0 : a0 ≤ 1000000 := by omega
  have e0 : rA D s t 0 s = a0 := by
    unfold rA
    rw [ha0, hown]
    by_cases z : s ≤ dN D
    · rw [if_pos z, if_pos z]
      unfold upA sA sA0
      rw [if_pos ⟨rfl, h0⟩, if_pos rfl]
      omega
    · rw [if_neg z, if_neg z, (up 0 s (by omega)).1]
      omega
  have ba0 : a0 ≤ 400 ∨ a0 = 1000000 := by
    rw [← e0]
    unfold rA
    by_cases z : s ≤ dN D
    · rw [if_pos z]; have := bt_inf (bA 0) (by omega); omega
    · rw [if_neg z]; right; exact (up 0 s (by omega)).1
  have tail : ∀ (g2 : Hp) (x : Int32), (∀ m i, m < 7 → 1 ≤ i → i ≤ 10 → g2 427 (13 * m + i) = iN (rEn (if i = s ∧ m = 0 then a0 else t.1 m i))) → (∀ x, ¬ x = 427 → g2 x = f x) → Wp L xs xm_Mo_playsAccepts 70 [.ref 400, .int (iN s), .int x, .int 1] [] g2 (QV Q) := by
    intro g2 x hg hfr
    refine for0 (3 * dF D) (fun k l g => l = [.ref 400, .int (iN s), .int x, .int (iN (k + 1))] ∧ (∀ m i, m < 7 → 1 ≤ i → i ≤ 10 → g 427 (13 * m + i) = iN (rEn (if i = s ∧ m ≤ k then rA D s t m i else t.1 m i))) ∧ ∀ x, ¬ x = 427 → g x = f x) ⟨rfl, fun m i hm hi hi2 => ?_, hfr⟩ ?_ ?_
    · rw [hg m i hm hi hi2]
      by_cases z : i = s ∧ m = 0
      · obtain ⟨rfl, rfl⟩ := z
        rw [if_pos ⟨rfl, rfl⟩, if_pos ⟨rfl, Nat.le_refl _⟩, e0]
      · rw [if_neg z, if_neg (fun y => z ⟨y.1, by omega⟩)]
    · rintro k l g hk ⟨rfl, b1, b2⟩ k2
      have cg := cu.fr (b2 400 (by omega))
      have rg := rc.fr (b2 401 (by omega))
      have d9 := (w.2.2.2.2.2.2.2 0 (k + 1) (by omega) (by omega)).2
      have fin : ∀ (v : Int32) (g3 : Hp), v = iN (rEn (rA D s t (k + 1) s)) → g3 = xu g 427 (13 * (k + 1) + s) v → Wp L xs xm_Mo_playsAccepts 70 [.ref 400, .int (iN s), .int x, .int (iN (k + 1) + 1)] [] g3 (QV Q) := by
        intro v g3 ev e3
        rw [iN_inc]
        refine k2 _ _ ⟨rfl, fun m i hm hi hi2 => ?_, fun x hx => by rw [e3, xu_a hx, b2 x hx]⟩
        rw [e3, xu_at]
        by_cases z : m = k + 1 ∧ i = s
        · obtain ⟨rfl, rfl⟩ := z
          rw [if_pos ⟨rfl, rfl⟩, if_pos ⟨rfl, Nat.le_refl _⟩, ev]
        · rw [if_neg (by omega), b1 m i hm hi hi2]
          by_cases y : i = s ∧ m ≤ k
          · rw [if_pos y, if_pos ⟨y.1, by omega⟩]
          · rw [if_neg y, if_neg (fun u => y ⟨u.1, by omega⟩)]
      refine t_Mo_playsAccepts_70 ?_
      rw [cg.2.2.1]
      refine brT ((iN_lt (b := _) (by omega) (by omega)).mpr (by omega)) (r_at (r_liar w cg (by omega) (fun hh => br0 (r_at (m := 0) ⟨13 * 0 + s, rfl, by omega, ?_⟩)) fun hh => br1 ⟨13 * (k + 1) + s, rfl, by omega, fun g9 e9 => fin _ g9 ?_ e9⟩))
      · have q1 := b1 0 s (by omega) hs.1 hs.2
        rw [if_pos ⟨rfl, Nat.zero_le _⟩, e0] at q1
        rw [q1]
        refine r_delayD (a := 0) cg rg ho (by omega) (by omega) (r_behindBy ia0 (fun z => by omega) ?_)
        rw [cg.2.2.2.2.1]
        have li := low_inf (t.2.2.2 (k + 1)) (s - dW D) 11
        have iad : addT a0 (dD D 0 (k + 1)) ≤ 1000000 := by unfold addT; split <;> omega
        refine r_lowFrom (C := t.2.2.2 (k + 1)) (by omega) (fun i h1 h2 => by rw [b2 _ (by omega)]; exact (rt (k + 1) i (by omega) h1 h2).2.2.2) (wl (k + 1)) (plc_sub hs.2 w.2.1) (by omega) ?_
        rw [cutL (k + 1)]
        refine r_later iad li ⟨13 * (k + 1) + s, rfl, by omega, fun g8 e8 => fin _ g8 ?_ e8⟩
        unfold rA
        by_cases z : s ≤ dN D
        · rw [if_pos z]
          unfold upA sA
          rw [if_pos ⟨rfl, hh⟩, if_neg (by omega)]
          have : a0 = sA0 D t s := by
            rw [← e0]
            unfold rA upA sA
            rw [if_pos z, if_pos ⟨rfl, h0⟩, if_pos rfl]
          rw [this]
        · rw [if_neg z, (up (k + 1) s (by omega)).1]
          have : a0 = 1000000 := by
            rw [← e0]
            unfold rA
            rw [if_neg z, (up 0 s (by omega)).1]
          rw [this]
          unfold addT
          rw [if_pos (by omega), Nat.max_eq_left li]
      · unfold rA
        have e1 : t.1 (k + 1) s = 1000000 := (up (k + 1) s (by omega)).1
        by_cases z : s ≤ dN D
        · rw [if_pos z]
          unfold upA
          rw [if_neg (fun y => by rw [hh] at y; cases y.2), e1]; rfl
        · rw [if_neg z, e1]; rfl
    · rintro l g ⟨rfl, b1, b2⟩
      have cg := cu.fr (b2 400 (by omega))
      refine t_Mo_playsAccepts_70 ?_
      rw [cg.2.2.1]
      refine brF (fun z => absurd ((iN_lt (b := _) (by omega) (by omega)).mp z) (by omega)) (kk g (fun m i hm hi hi2 => ?_) b2)
      rw [b1 m i hm hi hi2]
      by_cases z : i = s ∧ m ≤ 3 * dF D
      · rw [if_pos z]
      · rw [if_neg z]
        unfold rA
        by_cases y : s ≤ dN D
        · rw [if_pos y]
          unfold upA
          rw [if_neg (fun u => z ⟨u.1, by have := (hon_iff.mp u.2).1; omega⟩)]
        · rw [if_neg y]
  have mid : ∀ x : Int32, x = iN (rEn own) → Wp L xs xm_Mo_playsAccepts 17 [.ref 400, .int (iN s), .retAddr 0, .retAddr 0] [.int x] f (QV Q) := by
    intro x hx
    subst hx
    refine t_Mo_playsAccepts_17 ?_
    rw [cu.2.2.2.2.1]
    refine r_lowFrom (m := 0) (C := t.2.2.2 0) (by omega) (fun i h1 h2 => (rt 0 i (by omega) h1 h2).2.2.2) (wl 0) (plc_sub hs.2 w.2.1) (by omega) ?_
    rw [cutL 0]
    refine r_later iown l0 (r_at (m := 0) ⟨fun p => ⟨13 * 0 + s, rfl, by omega, fun g7 e7 => tail g7 _ (fun m i hm hi hi2 => ?_) fun x hx => by rw [e7, xu_a hx]⟩, fun p => ?_⟩)
    · have p := (iN_inj (b := 1) (by omega) (by omega)).mp p
      rw [e7, xu_at]
      by_cases z : i = s ∧ m = 0
      · obtain ⟨rfl, rfl⟩ := z
        rw [if_pos ⟨rfl, rfl⟩, if_pos ⟨rfl, rfl⟩]
        congr 2
        rw [ha0]
        subst p
        have := wm.1 0
        show max own (low (t.2.2.2 0) (1 - dW D) 11) = max (max own (low (t.2.2.2 0) (1 - dW D) 11)) (t.1 0 0)
        omega
      · rw [if_neg (by omega), if_neg z]
        exact (rt m i hm hi hi2).1
    · have p : ¬ s = 1 := fun z => p (by rw [z]; rfl)
      rw [show iN s - 1 = iN (s - 1) from iN_sub (b := 1) hs.1]
      refine r_at (m := 0) ⟨13 * 0 + (s - 1), rfl, by omega, ?_⟩
      rw [(rt 0 (s - 1) (by omega) (by omega) (by omega)).1]
      refine r_later (by omega) a0i ⟨13 * 0 + s, rfl, by omega, fun g6 e6 => tail g6 _ (fun m i hm hi hi2 => ?_) fun x hx => by rw [e6, xu_a hx]⟩
      rw [e6, xu_at]
      by_cases z : i = s ∧ m = 0
      · obtain ⟨rfl, rfl⟩ := z
        rw [if_pos ⟨rfl, rfl⟩, if_pos ⟨rfl, rfl⟩, ha0]
      · rw [if_neg (by omega), if_neg z]
        exact (rt m i hm hi hi2).1
  refine t_Mo_playsAccepts_0 ?_
  rw [cu.2.2.2.2.2.2.2]
  by_cases z : s ≤ dN D
  · refine brF (fun z => absurd ((iN_lt (b := _) (by omega) (by omega)).mp z) (by omega)) (mid _ ?_)
    rw [hown, if_pos z, rEn_id (by omega)]
    exact iN_sub (b := 1) hs.1
  · refine brT ((iN_lt (b := _) (by omega) (by omega)).mpr (by omega)) (mid _ ?_)
    rw [hown, if_neg z]; rfl
end PLAYS
