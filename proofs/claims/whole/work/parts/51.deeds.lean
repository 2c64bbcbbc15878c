/-! checkpoints, run, mark, fetch, doubt -/
def acS (S : ST) (m : Nat) (A : Nat → Int32) : ST := fun j m' k => if j = 6 ∧ m' = m ∧ k < 8 then A k else S j m' k
def chkS (S : ST) (m : Nat) : ST := fun j m' k => if m' = m ∧ j = 5 ∧ k = 0 then S 3 m 0 else if m' = m ∧ j = 7 ∧ k < 8 then S 6 m k else if m' = m ∧ j = 14 ∧ k = m then S 3 m 0 else if m' = m ∧ j = 15 ∧ k = m then nd (S 6 m) 1 else S j m' k
theorem chkS_off {S : ST} {m j m' k : Nat} (h : ¬ m' = m ∨ (¬ j = 5 ∧ ¬ j = 7 ∧ ¬ j = 14 ∧ ¬ j = 15)) : chkS S m j m' k = S j m' k := by
  unfold chkS
  rw [if_neg (by omega), if_neg (by omega), if_neg (by omega), if_neg (by omega)]
theorem chkS_5 {S : ST} {m : Nat} : chkS S m 5 m 0 = S 3 m 0 := if_pos ⟨rfl, rfl, rfl⟩
theorem chkS_7 {S : ST} {m k : Nat} (h : k < 8) : chkS S m 7 m k = S 6 m k := by
  unfold chkS
  rw [if_neg (by omega), if_pos ⟨rfl, rfl, h⟩]
theorem chkS_14 {S : ST} {m b : Nat} : chkS S m 14 m b = if b = m then S 3 m 0 else S 14 m b := by
  unfold chkS
  rw [if_neg (by omega), if_neg (by omega)]
  by_cases z : b = m
  · rw [if_pos ⟨rfl, rfl, z⟩, if_pos z]
  · rw [if_neg (by omega), if_neg (by omega), if_neg z]
theorem chkS_15 {S : ST} {m b : Nat} : chkS S m 15 m b = if b = m then nd (S 6 m) 1 else S 15 m b := by
  unfold chkS
  rw [if_neg (by omega), if_neg (by omega), if_neg (by omega)]
  by_cases z : b = m
  · rw [if_pos ⟨rfl, rfl, z⟩, if_pos z]
  · rw [if_neg (by omega), if_neg z]
theorem wfE_chk {D : CD} {S : ST} {m r : Nat} (w : wfC D) (h : wfS D S) (hm : m < 3 * dF D + 1) (er : S 3 m 0 = iN r) (hr : 1 ≤ r ∧ r ≤ 12) : wfE D (chkS S m) m := by
  have hF := w.1
  obtain ⟨h1, h2, h3, h4, h5, -⟩ := id h
  obtain ⟨c1, c2, c3, c4, c5⟩ := h1 m (by omega)
  refine (h.e m).mem (by omega) (fun j m' k z => chkS_off (by omega)) ?_ (fun s a b => ?_) (fun b hb => ?_) (fun z => ?_) fun z s a b => ?_
  · rw [chkS_off (by omega), chkS_off (by omega), chkS_off (by omega), chkS_off (by omega), chkS_5]
    exact ⟨c1, c2, c3, c4, Or.inr ⟨r, hr.1, hr.2, er⟩⟩
  · rw [chkS_off (by omega), chkS_off (by omega), chkS_off (by omega), chkS_off (by omega), chkS_off (by omega), chkS_off (by omega)]
    exact h2 m s (by omega) a b
  · rw [chkS_14]
    by_cases z : b = m
    · rw [if_pos z]; exact Or.inr ⟨⟨r, hr.1, hr.2, er⟩, by omega⟩
    · rw [if_neg z]; exact h3 m b (by omega) hb
  · rw [chkS_off (by omega)] at z
    refine ⟨by rw [chkS_off (by omega)]; exact (h4 m (by omega) z).1, fun s a b => by rw [chkS_off (by omega)]; exact (h4 m (by omega) z).2 s a b⟩
  · rw [chkS_off (by omega)]; exact h5 m (by omega) z s a b
theorem wfS_mem {D : CD} {S T : ST} {m : Nat} (h : wfS D S) (hm : m < 7) (e : ∀ j m' k, ¬ m' = m ∨ 14 ≤ j → T j m' k = S j m' k) (e2 : T 2 m 0 = S 2 m 0) (n1 : (∃ v, v ≤ 9 ∧ T 0 m 0 = iN v) ∧ (T 1 m 0 = 0 ∨ T 1 m 0 = 1) ∧ (∃ l, l ≤ 12 ∧ T 2 m 0 = iN l) ∧ (∃ r, r ≤ 12 ∧ T 3 m 0 = iN r) ∧ (T 5 m 0 = -1 ∨ ∃ p, 1 ≤ p ∧ p ≤ 12 ∧ T 5 m 0 = iN p)) (n2 : ∀ s, 1 ≤ s → s ≤ 12 → (T 8 m s = -1 ∨ ordI D (T 8 m s)) ∧ (∃ b, b < 128 ∧ T 9 m s = iN b) ∧ (∃ b, b < 128 ∧ T 10 m s = iN b) ∧ (T 8 m s = -1 → T 9 m s = 0 ∧ T 10 m s = 0) ∧ (T 11 m s = -1 ∨ ((∃ v, v ≤ 9 ∧ T 11 m s = iN v) ∧ ordI D (T 12 m s))) ∧ (T 13 m s = -1 ∨ ordI D (T 13 m s))) (n4 : T 1 m 0 = 0 → (∃ v, 1 ≤ v ∧ v ≤ 9 ∧ T 0 m 0 = iN v) ∧ ∀ s, 1 ≤ s → s ≤ 12 → T 8 m s = -1) (n5 : hon D m = false → ∀ s, 1 ≤ s → s ≤ 12 → T 8 m s = -1) : wfS D T := by
  refine ((h.e m).mem hm (fun j m' k z => e j m' k (by omega)) n1 n2 (fun b hb => by rw [e _ _ _ (Or.inr (by omega))]; exact h.2.2.1 m b hm hb) n4 n5).s fun a ha z1 z2 => ?_
  rw [e _ _ _ (Or.inr (show 14 ≤ 14 by omega))] at z1
  rw [e2, e _ _ _ (Or.inr (show 14 ≤ 14 by omega))] at z2
  have : cntW (fun b => T 14 m b = T 14 m a ∧ T 15 m b = T 15 m a) (3 * dF D + 1) = cntW (fun b => S 14 m b = S 14 m a ∧ S 15 m b = S 15 m a) (3 * dF D + 1) := cntW_congr _ fun b _ => by rw [e _ _ _ (Or.inr (show 14 ≤ 14 by omega)), e _ _ _ (Or.inr (show 14 ≤ 14 by omega)), e _ _ _ (Or.inr (show 14 ≤ 15 by omega)), e _ _ _ (Or.inr (show 14 ≤ 15 by omega))]
  rw [this]
  exact h.2.2.2.2.2.1 m a hm ha z1 z2
def dbtS (S : ST) (m : Nat) : ST := fgA (su (su S 0 m 0 (S 0 m 0 + 1)) 1 m 0 0) m 12
theorem dbtS_off {S : ST} {m j m' k : Nat} (h : ¬ m' = m ∨ (2 ≤ j ∧ j < 8) ∨ 11 ≤ j) : dbtS S m j m' k = S j m' k := by
  unfold dbtS fgA
  rw [if_neg (by omega), su_at, if_neg (by omega), su_at, if_neg (by omega)]
theorem wfS.dbt {D : CD} {S : ST} {m v : Nat} (h : wfS D S) (hm : m < 7) (ev : S 0 m 0 = iN v) (hv : v < 9) : wfS D (dbtS S m) := by
  obtain ⟨c1, c2, c3, c4, c5⟩ := h.1 m hm
  have e0 : dbtS S m 0 m 0 = iN (v + 1) := by
    unfold dbtS fgA
    rw [if_neg (by omega), su_j (by omega), su_eq, ev, iN_inc]
  have e1 : dbtS S m 1 m 0 = 0 := by
    unfold dbtS fgA
    rw [if_neg (by omega), su_eq]
  have e8 : ∀ s, 1 ≤ s → s ≤ 12 → dbtS S m 8 m s = -1 ∧ dbtS S m 9 m s = 0 ∧ dbtS S m 10 m s = 0 := fun s a b => by
    unfold dbtS fgA
    rw [if_pos (by omega), if_pos rfl, if_pos (by omega), if_neg (by omega), if_pos (by omega), if_neg (by omega)]
    exact ⟨rfl, rfl, rfl⟩
  refine wfS_mem h hm (fun j m' k z => dbtS_off (by omega)) (dbtS_off (by omega)) ?_ (fun s a b => ?_) (fun _ => ⟨⟨v + 1, by omega, by omega, e0⟩, fun s a b => (e8 s a b).1⟩) fun _ s a b => (e8 s a b).1
  · rw [e0, e1, dbtS_off (by omega), dbtS_off (by omega), dbtS_off (by omega)]
    exact ⟨⟨v + 1, by omega, rfl⟩, Or.inl rfl, c3, c4, c5⟩
  · obtain ⟨-, -, -, -, d5, d6⟩ := h.2.1 m s hm a b
    obtain ⟨x1, x2, x3⟩ := e8 s a b
    rw [x1, x2, x3, dbtS_off (by omega), dbtS_off (by omega), dbtS_off (by omega)]
    exact ⟨Or.inl rfl, ⟨0, by omega, rfl⟩, ⟨0, by omega, rfl⟩, fun _ => ⟨rfl, rfl⟩, d5, d6⟩
section DEEDS
variable {L : Nat} {xs : Nat → Int32} {f g : Hp} {D : CD} {S S' : ST} {o0 : Nat}
theorem c_doubt {Q : Int32 → Hp → Prop} {m v : Nat} (h : cA f D S) (hm : m < 7) (ev : S 0 m 0 = iN v) (hv : v ≤ 9) (h1 : v < 9 → ∀ g, cA g D (dbtS S m) → FrA f g → Q 1 g) (h0 : ¬ v < 9 → Q 0 f) : CI L xs xm_As_doubt [.ref 75, .ref (93 + 11 * m)] f Q := by
  refine t_As_doubt_0 (k_mem hm) ?_
  rw [h.s hm (by omega), ev, show (9 : Int32) = iN 9 from rfl, iN_lt (by omega) (by omega)]
  refine ⟨fun p g1 e1 g2 e2 => c_forgetA (u := 12) (S := su (su S 0 m 0 (S 0 m 0 + 1)) 1 m 0 0) ?_ hm (by omega) fun g3 c3 f3 => h1 p g3 c3 (FrA.trans ?_ f3), h0⟩
  · subst e1 e2
    rw [ev]
    exact (h.sc (j := 0) hm (by omega)).sc (j := 1) hm (by omega)
  · subst e1 e2
    exact ((FrA.refl f).put0 hm).put0 hm
theorem r_doubts {Q : Int32 → Hp → Prop} {m v : Nat} (h : rM f S) (hm : m < 7) (ev : S 0 m 0 = iN v) (hv : v ≤ 9) (h1 : v < 9 → ∀ g, rM g (dbtS S m) → FrM f g → FrK f g → Q 1 g) (h0 : ¬ v < 9 → Q 0 f) : CI L xs xm_Mo_doubts [.ref 400, .int (iN m)] f Q := by
  refine t_Mo_doubts_0 ⟨m, rfl, hm, ?_⟩
  rw [show f 406 m = iN v from (h.s (j := 0) hm (by omega)).trans ev, show (9 : Int32) = iN 9 from rfl, iN_lt (by omega) (by omega)]
  refine ⟨fun p g1 e1 g2 e2 => ?_, h0⟩
  have h2 : rM g2 (su (su S 0 m 0 (S 0 m 0 + 1)) 1 m 0 0) := by
    subst e1 e2
    rw [ev]
    exact (h.sc (j := 0) hm (by omega)).sc (j := 1) hm (by omega)
  refine for0 12 (fun k l g => l = [.ref 400, .int (iN m), .int (iN (k + 1))] ∧ rM g (fgA (su (su S 0 m 0 (S 0 m 0 + 1)) 1 m 0 0) m k) ∧ FrM f g ∧ FrK f g) ⟨rfl, by rw [fgA_0]; exact h2, by subst e1 e2; exact ((FrM.refl f).put (by omega)).put (by omega), by subst e1 e2; exact ((FrK.refl f).put (by omega)).put (by omega)⟩ ?_ ?_
  · rintro k l g hk ⟨rfl, b1, b2, b3⟩ k2
    refine t_Mo_doubts_32 (brT ((iN_lt (b := 13) (by omega) (by omega)).mpr (by omega)) (r_forgets b1 hm (by omega) fun g3 c1 c2 c3 => ?_))
    rw [iN_inc]
    refine k2 _ _ ⟨rfl, ?_, b2.trans c2, b3.trans c3⟩
    rw [← fgA_s]; exact c1
  · rintro l g ⟨rfl, b1, b2, b3⟩
    exact t_Mo_doubts_32 (brF (by decide) (h1 p g b1 b2 b3))
theorem c_checkpoint {Q : Hp → Prop} {m : Nat} (h : cA f D S) (hm : m < 7) (kk : ∀ g, cA g D (chkS S m) → FrA f g → Q g) : CV L xs xm_As_checkpoint [.ref 75, .int (iN m)] f Q := by
  have km := k_mem (L := L) hm
  refine t_As_checkpoint_0 ⟨m, rfl, hm, fun g1 e1 => c_copyAcc (kf_2_8 km).2 (kf_2_9 km).2 (by omega) (by omega) fun g2 a1 a2 a3 g3 e3 => c_rootOf (s := 90) rfl (kf_2_9 km).2 (by omega) (by omega) fun g4 a4 g5 e5 => ?_⟩
  have cm := h.2.2.2.1 m hm
  have s3 : f (93 + 11 * m) 3 = S 3 m 0 := h.s hm (by omega)
  rw [s3] at e1
  have n1 : ∀ x, ¬ x = 93 + 11 * m → g1 x = f x := fun x hx => by rw [e1, xu_a hx]
  have acc : ∀ i, i < 8 → g1 (93 + 11 * m + 1) i = S 6 m i := fun i hi => by rw [n1 _ (by omega)]; exact cm.2.2.2.1 i hi
  have v5 : g2 (93 + 11 * m) 5 = S 3 m 0 := by rw [a3 _ (by omega), e1, xu_eq]
  rw [v5] at e3
  have sv : ∀ i, i < 8 → g3 (93 + 11 * m + 2) i = S 6 m i := fun i hi => by rw [e3, xu_a (by omega), a1 i hi, acc i hi]
  have rt : nd (g3 (93 + 11 * m + 2)) 1 = nd (S 6 m) 1 := nd_congr sv (by omega)
  rw [rt] at e5
  have n5 : ∀ x, ¬ x = 93 + 11 * m → ¬ x = 93 + 11 * m + 2 → ¬ x = 93 + 11 * m + 9 → ¬ x = 93 + 11 * m + 10 → ¬ x = 91 → g5 x = f x := fun x p q r s t => by rw [e5, xu_a s, a4 x t, e3, xu_a r, a3 x q, n1 x p]
  refine kk g5 (h.upd hm (fun x p q r s => n5 x (by omega) (by omega) (by omega) (by omega) (by omega)) (fun j m' k z => chkS_off (by omega)) ?_) fun x hx => n5 x (by omega) (by omega) (by omega) (by omega) (by omega)
  have w0 : ∀ j, g5 (93 + 11 * m) j = if j = 5 then S 3 m 0 else f (93 + 11 * m) j := fun j => by
    rw [e5, xu_a (by omega), a4 _ (by omega), e3, xu_a (by omega), a3 _ (by omega), e1, xu_at]
    by_cases z : j = 5
    · rw [if_pos ⟨rfl, z⟩, if_pos z]
    · rw [if_neg (fun y => z y.2), if_neg z]
  refine ⟨fun j hj => ?_, by rw [w0, if_neg (by omega)]; exact cm.2.1, by rw [w0, if_neg (by omega)]; exact cm.2.2.1, fun i hi => by rw [n5 _ (by omega) (by omega) (by omega) (by omega) (by omega), chkS_off (by omega)]; exact cm.2.2.2.1 i hi, fun _ i hi => ?_, fun j s hj a b => ?_, fun b hb => ?_, fun b hb z => ?_⟩
  · rw [w0]
    by_cases z : j = 5
    · subst z; rw [if_pos rfl, chkS_5]
    · rw [if_neg z, chkS_off (by omega)]; exact cm.1 j hj
  · rw [chkS_7 hi, e5, xu_a (by omega), a4 _ (by omega)]; exact sv i hi
  · rw [n5 _ (by omega) (by omega) (by omega) (by omega) (by omega), chkS_off (by omega)]; exact cm.2.2.2.2.2.1 j s hj a b
  · rw [chkS_14, e5, xu_a (by omega), a4 _ (by omega), e3, xu_at]
    by_cases z : b = m
    · rw [if_pos ⟨rfl, z⟩, if_pos z]
    · rw [if_neg (fun y => z y.2), if_neg z, a3 _ (by omega), n1 _ (by omega)]; exact cm.2.2.2.2.2.2.1 b hb
  · rw [chkS_14] at z
    rw [chkS_15, e5, xu_at]
    by_cases y : b = m
    · rw [if_pos ⟨rfl, y⟩, if_pos y]
    · rw [if_neg y] at z
      rw [if_neg (fun u => y u.2), if_neg y, a4 _ (by omega), e3, xu_a (by omega), a3 _ (by omega), n1 _ (by omega)]; exact cm.2.2.2.2.2.2.2 b hb z
theorem r_checks {Q : Hp → Prop} {m : Nat} (w : wfC D) (we : wfE D (chkS S m) m) (cu : cur f o0 D) (h : rM f S) (hm : m < 7) (kk : ∀ g, rM g (cvS D (chkS S m) m (3 * dF D + 1)) → FrM f g → FrK f g → Q g) : CV L xs xm_Mo_checks [.ref 400, .int (iN m)] f Q := by
  obtain ⟨a1, a2, a3, a4, a5, a6, a7⟩ := id h
  refine t_Mo_checks_0 ⟨m, rfl, hm, fun g1 e1 => ?_⟩
  rw [show f 409 m = S 3 m 0 from h.s (j := 3) hm (by omega)] at e1
  have n1 : ∀ x, ¬ x = 411 → g1 x = f x := fun x hx => by rw [e1, xu_a hx]
  refine for0 8 (fun k l g => l = [.ref 400, .int (iN m), .int (iN k)] ∧ (∀ m' i, m' < 7 → i < 8 → g 413 (8 * m' + i) = if m' = m ∧ i < k then S 6 m i else f 413 (8 * m' + i)) ∧ ∀ x, ¬ x = 413 → g x = g1 x) ⟨rfl, fun m' i _ _ => by rw [if_neg (by omega), n1 _ (by omega)], fun _ _ => rfl⟩ ?_ ?_
  · rintro k l g hk ⟨rfl, b1, b2⟩ k2
    refine t_Mo_checks_14 (brT ((iN_lt (b := 8) (by omega) (by omega)).mpr (by omega)) ⟨8 * m + k, by simp only [lit, iN_add, iN_mul], by omega, fun g5 e5 => ?_⟩)
    rw [iN_inc]
    refine k2 _ _ ⟨rfl, fun m' i hm' hi => ?_, fun x hx => by rw [e5, xu_a hx, b2 x hx]⟩
    rw [e5, xu_at]
    by_cases z : m' = m ∧ i = k
    · obtain ⟨rfl, rfl⟩ := z
      rw [if_pos ⟨rfl, rfl⟩, if_pos (by omega), b2 _ (by omega), n1 _ (by omega)]; exact a2 m' i hm hi
    · rw [if_neg (by omega), b1 m' i hm' hi]
      by_cases y : m' = m ∧ i < k
      · rw [if_pos y, if_pos (by omega)]
      · rw [if_neg y, if_neg (by omega)]
  · rintro l g ⟨rfl, b1, b2⟩
    have g9 : g 409 m = S 3 m 0 := by rw [b2 _ (by omega), n1 _ (by omega)]; exact h.s (j := 3) hm (by omega)
    refine t_Mo_checks_14 (brF (by decide) ⟨m, rfl, hm, 7 * m + m, by simp only [lit, iN_add, iN_mul], by omega, fun g2 e2 => ?_⟩)
    rw [g9] at e2
    rw [show 8 * iN m = iN (8 * m) from iN_mul 8 m]
    refine r_rootOf rfl (by omega) (by omega) fun g3 c3 g4 e4 => ?_
    have rt : nd (fun i => g2 413 (8 * m + i)) 1 = nd (S 6 m) 1 := nd_congr (fun i hi => by
      show g2 413 (8 * m + i) = S 6 m i
      rw [e2, xu_a (by omega), b1 m i hm hi, if_pos ⟨rfl, hi⟩]) (by omega)
    rw [rt] at e4
    have n4 : ∀ x, ¬ x = 404 → ¬ x = 411 → ¬ x = 413 → ¬ x = 420 → ¬ x = 421 → g4 x = f x := fun x p q r s t => by rw [e4, xu_a t, c3 x p, e2, xu_a s, b2 x r, n1 x q]
    have h4 : rM g4 (chkS S m) := by
      refine ⟨fun j m' hj hm' => ?_, fun m' i hm' hi => by rw [n4 _ (by omega) (by omega) (by omega) (by omega) (by omega), chkS_off (by omega)]; exact a2 m' i hm' hi, fun m' i hm' hi z => ?_, fun j m' s hj hm' p q => by rw [n4 _ (by omega) (by omega) (by omega) (by omega) (by omega), chkS_off (by omega)]; exact a4 j m' s hj hm' p q, fun m' b hm' hb => ?_, fun m' b hm' hb z => ?_, fun v hv => ?_⟩
      · by_cases z : j = 5
        · subst z
          rw [show 406 + 5 = 411 from rfl, e4, xu_a (by omega), c3 _ (by omega), e2, xu_a (by omega), b2 _ (by omega), e1, xu_at]
          by_cases y : m' = m
          · rw [if_pos ⟨rfl, y⟩, y, chkS_5]
          · rw [if_neg (fun u => y u.2), chkS_off (Or.inl y)]; exact a1 5 m' (by omega) hm'
        · rw [n4 _ (by omega) (by omega) (by omega) (by omega) (by omega), chkS_off (by omega)]; exact a1 j m' hj hm'
      · rw [e4, xu_a (by omega), c3 _ (by omega), e2, xu_a (by omega), b1 m' i hm' hi]
        by_cases y : m' = m
        · rw [if_pos ⟨y, hi⟩, y, chkS_7 hi]
        · rw [chkS_off (Or.inl y)] at z
          rw [if_neg (fun u => y u.1), chkS_off (Or.inl y)]; exact a3 m' i hm' hi z
      · rw [e4, xu_a (by omega), c3 _ (by omega), e2, xu_at]
        by_cases y : m' = m
        · subst y
          rw [chkS_14]
          by_cases u : b = m'
          · rw [if_pos ⟨rfl, by omega⟩, if_pos u]
          · rw [if_neg (by omega), if_neg u, b2 _ (by omega), n1 _ (by omega)]; exact a5 m' b hm' hb
        · rw [if_neg (by omega), chkS_off (Or.inl y), b2 _ (by omega), n1 _ (by omega)]; exact a5 m' b hm' hb
      · rw [e4, xu_at]
        by_cases y : m' = m
        · subst y
          rw [chkS_14] at z
          rw [chkS_15]
          by_cases u : b = m'
          · rw [if_pos ⟨rfl, by omega⟩, if_pos u]
          · rw [if_neg u] at z
            rw [if_neg (by omega), if_neg u, c3 _ (by omega), e2, xu_a (by omega), b2 _ (by omega), n1 _ (by omega)]; exact a6 m' b hm' hb z
        · rw [chkS_off (Or.inl y)] at z
          rw [if_neg (by omega), chkS_off (Or.inl y), c3 _ (by omega), e2, xu_a (by omega), b2 _ (by omega), n1 _ (by omega)]; exact a6 m' b hm' hb z
      · rw [n4 422 (by omega) (by omega) (by omega) (by omega) (by omega), n4 423 (by omega) (by omega) (by omega) (by omega) (by omega), n4 424 (by omega) (by omega) (by omega) (by omega) (by omega), n4 425 (by omega) (by omega) (by omega) (by omega) (by omega)]
        have := a7 v hv
        rw [chkS_off (j := 16) (by omega), chkS_off (j := 17) (by omega), chkS_off (j := 18) (by omega)]
        refine ⟨this.1, fun z => ⟨(this.2 z).1, (this.2 z).2.1, fun s p q => ?_⟩⟩
        rw [chkS_off (j := 19) (by omega)]; exact (this.2 z).2.2 s p q
    have k4 : FrK f g4 := fun j _ => by rw [n4 400 (by omega) (by omega) (by omega) (by omega) (by omega)]
    exact r_counts w we (cu.k k4) h4 hm fun g6 c6 m6 k6 => kk g6 c6 (FrM.trans (fun x hx hy => n4 x (by omega) (by omega) (by omega) (by omega) (by omega)) m6) (k4.trans k6)
/-- a vote is told -/
theorem cA.vt {b a : Nat} {v r : Int32} (h : cA f D S) (hb : b < 7) (ha : a < 7) : cA (xu (xu f (93 + 11 * b + 9) a v) (93 + 11 * b + 10) a r) D (su (su S 14 b a v) 15 b a r) := by
  have cm := h.2.2.2.1 b hb
  have n : ∀ x, ¬ x = 93 + 11 * b + 9 → ¬ x = 93 + 11 * b + 10 → xu (xu f (93 + 11 * b + 9) a v) (93 + 11 * b + 10) a r x = f x := fun x p q => by rw [xu_a q, xu_a p]
  refine h.upd hb (fun x _ _ p _ => n x (by omega) (by omega)) (fun j m' k z => by
    rcases z with z | z
    · rw [su_m z, su_m z]
    · rw [su_j (by omega), su_j (by omega)]) ⟨fun j hj => by rw [n _ (by omega) (by omega), su_j (by omega), su_j (by omega)]; exact cm.1 j hj, by rw [n _ (by omega) (by omega)]; exact cm.2.1, by rw [n _ (by omega) (by omega)]; exact cm.2.2.1, fun i hi => by rw [n _ (by omega) (by omega), su_j (by omega), su_j (by omega)]; exact cm.2.2.2.1 i hi, fun z i hi => ?_, fun j s hj p q => by rw [n _ (by omega) (by omega), su_j (by omega), su_j (by omega)]; exact cm.2.2.2.2.2.1 j s hj p q, fun b' hb' => ?_, fun b' hb' z => ?_⟩
  · rw [su_j (by omega), su_j (by omega)] at z
    rw [n _ (by omega) (by omega), su_j (by omega), su_j (by omega)]; exact cm.2.2.2.2.1 z i hi
  · rw [xu_a (by omega), su_j (by omega), xu_at, su_at]
    by_cases y : b' = a
    · rw [if_pos ⟨rfl, y⟩, if_pos ⟨rfl, rfl, y⟩]
    · rw [if_neg (fun u => y u.2), if_neg (fun u => y u.2.2)]; exact cm.2.2.2.2.2.2.1 b' hb'
  · rw [xu_at, su_at]
    by_cases y : b' = a
    · rw [if_pos ⟨rfl, y⟩, if_pos ⟨rfl, rfl, y⟩]
    · rw [su_j (by omega), su_k y] at z
      rw [if_neg (fun u => y u.2), if_neg (fun u => y u.2.2), xu_a (by omega), su_j (by omega)]; exact cm.2.2.2.2.2.2.2 b' hb' z
theorem rM.vt {b a : Nat} {v r : Int32} (h : rM f S) (hb : b < 7) (ha : a < 7) : rM (xu (xu f 420 (7 * b + a) v) 421 (7 * b + a) r) (su (su S 14 b a v) 15 b a r) := by
  obtain ⟨a1, a2, a3, a4, a5, a6, a7⟩ := h
  have n : ∀ x, ¬ x = 420 → ¬ x = 421 → xu (xu f 420 (7 * b + a) v) 421 (7 * b + a) r x = f x := fun x p q => by rw [xu_a q, xu_a p]
  refine ⟨fun j m hj hm => by rw [n _ (by omega) (by omega), su_j (by omega), su_j (by omega)]; exact a1 j m hj hm, fun m i hm hi => by rw [n _ (by omega) (by omega), su_j (by omega), su_j (by omega)]; exact a2 m i hm hi, fun m i hm hi z => ?_, fun j m s hj hm p q => by rw [n _ (by omega) (by omega), su_j (by omega), su_j (by omega)]; exact a4 j m s hj hm p q, fun m b' hm hb' => ?_, fun m b' hm hb' z => ?_, fun v' hv => ?_⟩
  · rw [su_j (by omega), su_j (by omega)] at z
    rw [n _ (by omega) (by omega), su_j (by omega), su_j (by omega)]; exact a3 m i hm hi z
  · rw [xu_a (by omega), su_j (by omega), xu_at, su_at]
    by_cases y : m = b ∧ b' = a
    · rw [if_pos ⟨rfl, by omega⟩, if_pos ⟨rfl, y⟩]
    · rw [if_neg (by omega), if_neg (fun u => y u.2)]; exact a5 m b' hm hb'
  · rw [xu_at, su_at]
    by_cases y : m = b ∧ b' = a
    · rw [if_pos ⟨rfl, by omega⟩, if_pos ⟨rfl, y⟩]
    · rw [su_j (by omega), su_at, if_neg (fun u => y u.2)] at z
      rw [if_neg (by omega), if_neg (fun u => y u.2), xu_a (by omega), su_j (by omega)]; exact a6 m b' hm hb' z
  · rw [n 422 (by omega) (by omega), n 423 (by omega) (by omega), n 424 (by omega) (by omega), n 425 (by omega) (by omega)]
    have := a7 v' hv
    rw [su_j (show ¬ 16 = 15 by omega), su_j (show ¬ 16 = 14 by omega), su_j (show ¬ 17 = 15 by omega), su_j (show ¬ 17 = 14 by omega), su_j (show ¬ 18 = 15 by omega), su_j (show ¬ 18 = 14 by omega)]
    refine ⟨this.1, fun z => ⟨(this.2 z).1, (this.2 z).2.1, fun s p q => ?_⟩⟩
    rw [su_j (show ¬ 19 = 15 by omega), su_j (show ¬ 19 = 14 by omega)]; exact (this.2 z).2.2 s p q
def mkO (D : CD) (a b : Nat) : Nat := if hon D a = true then a else b
abbrev mrkOk (D : CD) (S : ST) (a b : Nat) : Prop := S 2 b 0 < S 5 (mkO D a b) 0 ∧ ¬ (S 14 b a = S 5 (mkO D a b) 0 ∧ S 15 b a = nd (S 7 (mkO D a b)) 1)
def mrkV (D : CD) (S : ST) (a b : Nat) : ST := su (su S 14 b a (S 5 (mkO D a b) 0)) 15 b a (nd (S 7 (mkO D a b)) 1)
def mrkS (D : CD) (S : ST) (a b : Nat) : ST := cvS D (mrkV D S a b) b (3 * dF D + 1)
theorem mkO_lt {a b : Nat} (ha : a < 7) (hb : b < 7) : mkO D a b < 7 := by unfold mkO; split <;> assumption
theorem mrk_wf {a b : Nat} (ws : wfS D S) (ha : a < 3 * dF D + 1) (ha7 : a < 7) (hb : b < 7) (ok : S 2 b 0 < S 5 (mkO D a b) 0) : wfE D (mrkV D S a b) b := by
  obtain ⟨h1, h2, h3, h4, h5, -⟩ := id ws
  obtain ⟨c1, c2, ⟨l, hl, el⟩, c4, c5⟩ := h1 b hb
  have vm : ∃ p, 1 ≤ p ∧ p ≤ 12 ∧ S 5 (mkO D a b) 0 = iN p := by
    rcases (h1 (mkO D a b) (mkO_lt ha7 hb)).2.2.2.2 with z | z
    · rw [el, z] at ok; exact absurd ok (not_lt_m1 (by omega))
    · exact z
  obtain ⟨p, p1, p2, ep⟩ := vm
  have off : ∀ j m' k, ¬ m' = b ∨ (¬ j = 14 ∧ ¬ j = 15) → mrkV D S a b j m' k = S j m' k := fun j m' k z => by
    unfold mrkV
    rw [su_at, if_neg (by omega), su_at, if_neg (by omega)]
  refine (ws.e b).mem hb (fun j m' k z => off j m' k (by omega)) ?_ (fun s x y => ?_) (fun b' hb' => ?_) (fun z => ?_) fun z s x y => ?_
  · rw [off _ _ _ (by omega), off _ _ _ (by omega), off _ _ _ (by omega), off _ _ _ (by omega), off _ _ _ (by omega)]
    exact ⟨c1, c2, ⟨l, hl, el⟩, c4, c5⟩
  · rw [off _ _ _ (by omega), off _ _ _ (by omega), off _ _ _ (by omega), off _ _ _ (by omega), off _ _ _ (by omega), off _ _ _ (by omega)]
    exact h2 b s hb x y
  · unfold mrkV
    rw [su_j (by omega), su_at]
    by_cases z : b' = a
    · rw [if_pos ⟨rfl, rfl, z⟩]; exact Or.inr ⟨⟨p, p1, p2, ep⟩, by omega⟩
    · rw [if_neg (fun u => z u.2.2)]; exact h3 b b' hb hb'
  · rw [off _ _ _ (by omega)] at z
    exact ⟨by rw [off _ _ _ (by omega)]; exact (h4 b hb z).1, fun s x y => by rw [off _ _ _ (by omega)]; exact (h4 b hb z).2 s x y⟩
  · rw [off _ _ _ (by omega)]; exact h5 b hb z s x y
theorem c_mark {Q : Int32 → Hp → Prop} {a b : Nat} (w : wfC D) (ws : wfS D S) (h : cA f D S) (ha : a < 3 * dF D + 1) (hb : b < 7) (h1 : mrkOk D S a b → ∀ g, cA g D (mrkS D S a b) → FrA f g → Q 1 g) (h0 : ¬ mrkOk D S a b → ∀ g, cA g D S → FrA f g → Q 0 g) : CI L xs xm_As_mark [.ref 75, .int (iN a), .int (iN b)] f Q := by
  have hF := w.1
  have ha7 : a < 7 := by omega
  have ho := mkO_lt (D := D) ha7 hb
  have main : Wp L xs xm_As_mark 25 [.ref 75, .int (iN a), .int (iN b), .ref (93 + 11 * b), .retAddr 0, .retAddr 0] [.ref (93 + 11 * mkO D a b)] f (QI Q) := by
    refine t_As_mark_25 (k_mem hb) (k_mem ho) ?_
    rw [h.s hb (by omega), h.s ho (by omega)]
    refine ⟨fun p => ?_, fun p => h0 (fun z => p z.1) f h (FrA.refl f)⟩
    have nm : ¬ S 5 (mkO D a b) 0 = -1 := fun z => by
      obtain ⟨l, hl, el⟩ := (ws.1 b hb).2.2.1
      rw [el, z] at p; exact not_lt_m1 (by omega) p
    refine c_rootOf (s := 90) rfl (kf_2_9 (k_mem ho)).2 (by omega) (by omega) fun g1 c1 => ⟨a, rfl, ha7, ?_⟩
    have hg : cA g1 D S := h.fr fun x _ _ q => c1 x (by omega)
    have fg : FrA f g1 := fun x hx => c1 x (by omega)
    have rt : nd (f (93 + 11 * mkO D a b + 2)) 1 = nd (S 7 (mkO D a b)) 1 := nd_congr (fun i hi => (h.2.2.2.1 _ ho).2.2.2.2.1 nm i hi) (by omega)
    rw [rt, (hg.2.2.2.1 b hb).2.2.2.2.2.2.1 a ha7, hg.s ho (by omega)]
    have fin : mrkOk D S a b → Wp L xs xm_As_mark 82 [.ref 75, .int (iN a), .int (iN b), .ref (93 + 11 * b), .ref (93 + 11 * mkO D a b), .int (nd (S 7 (mkO D a b)) 1)] [] g1 (QI Q) := fun ok => by
      refine t_As_mark_82 (k_mem hb) (k_mem ho) ⟨a, rfl, ha7, fun g2 e2 g3 e3 => ?_⟩
      rw [hg.s ho (by omega)] at e2
      have h3 : cA g3 D (mrkV D S a b) := by rw [e3, e2]; exact hg.vt hb ha7
      refine c_countVotes w (mrk_wf ws ha ha7 hb p) h3 hb fun g4 c4 f4 => h1 ok g4 c4 (FrA.trans ?_ f4)
      rw [e3, e2]; exact (fg.put (j := 9) hb (by omega)).put (j := 10) hb (by omega)
    refine ⟨fun q => ?_, fun q => fin ⟨p, fun z => q z.1⟩⟩
    rw [(hg.2.2.2.1 b hb).2.2.2.2.2.2.2 a ha7 (by rw [q]; exact nm)]
    exact ⟨fun q2 => h0 (fun z => z.2 ⟨q, q2⟩) g1 hg fg, fun q2 => fin ⟨p, fun z => q2 z.2⟩⟩
  refine t_As_mark_0 ⟨b, rfl, hb, c_asHon w h (by omega) (fun hh => br1 ⟨a, rfl, ha7, ?_⟩) fun hh => br0 ?_⟩
  · rw [show mkO D a b = a from if_pos hh] at main; exact main
  · rw [show mkO D a b = b from if_neg (hf hh)] at main; exact main
theorem r_marks {Q : Int32 → Hp → Prop} {a b : Nat} (w : wfC D) (ws : wfS D S) (cu : cur f o0 D) (h : rM f S) (ha : a < 3 * dF D + 1) (hb : b < 3 * dF D + 1) (hbh : hon D b = true) (h1 : mrkOk D S a b → ∀ g, rM g (mrkS D S a b) → FrM f g → FrK f g → Q 1 g) (h0 : ¬ mrkOk D S a b → ∀ g, rM g S → FrM f g → FrK f g → Q 0 g) : CI L xs xm_Mo_marks [.ref 400, .int (iN a), .int (iN b)] f Q := by
  have hF := w.1
  have ha7 : a < 7 := by omega
  have hb7 : b < 7 := by omega
  have ho := mkO_lt (D := D) ha7 hb7
  have main : Wp L xs xm_Mo_marks 23 [.ref 400, .int (iN a), .int (iN b), .retAddr 0, .retAddr 0] [.int (iN (mkO D a b))] f (QI Q) := by
    refine t_Mo_marks_23 ⟨mkO D a b, rfl, ho, ?_⟩
    rw [show f 411 (mkO D a b) = S 5 (mkO D a b) 0 from h.s (j := 5) ho (by omega)]
    refine ⟨fun z => h0 (fun y => ?_) f h (FrM.refl f) (FrK.refl f), fun nm => ⟨b, rfl, hb7, ?_⟩⟩
    · obtain ⟨l, hl, el⟩ := (ws.1 b hb7).2.2.1
      have := y.1
      rw [el, z] at this; exact not_lt_m1 (by omega) this
    rw [show f 408 b = S 2 b 0 from h.s (j := 2) hb7 (by omega)]
    refine ⟨fun p => ?_, fun p => h0 (fun z => p z.1) f h (FrM.refl f) (FrK.refl f)⟩
    rw [show 8 * iN (mkO D a b) = iN (8 * mkO D a b) from iN_mul 8 _]
    refine r_rootOf rfl (by omega) (by omega) fun g1 c1 => ⟨7 * b + a, by simp only [lit, iN_add, iN_mul], by omega, ?_⟩
    have hg : rM g1 S := h.fr fun x p q => c1 x (by omega)
    have mg : FrM f g1 := fun x hx _ => c1 x (by omega)
    have kg : FrK f g1 := fun j _ => by rw [c1 400 (by omega)]
    have rt : nd (fun i => f 413 (8 * mkO D a b + i)) 1 = nd (S 7 (mkO D a b)) 1 := nd_congr (fun i hi => h.2.2.1 _ i ho hi nm) (by omega)
    rw [rt, hg.2.2.2.2.1 b a hb7 ha7, show g1 411 (mkO D a b) = S 5 (mkO D a b) 0 from hg.s (j := 5) ho (by omega)]
    have fin : mrkOk D S a b → Wp L xs xm_Mo_marks 103 [.ref 400, .int (iN a), .int (iN b), .int (iN (mkO D a b)), .int (nd (S 7 (mkO D a b)) 1)] [] g1 (QI Q) := fun ok => by
      refine t_Mo_marks_103 ⟨mkO D a b, rfl, ho, 7 * b + a, by simp only [lit, iN_add, iN_mul], by omega, fun g2 e2 g3 e3 => ?_⟩
      rw [show g1 411 (mkO D a b) = S 5 (mkO D a b) 0 from hg.s (j := 5) ho (by omega)] at e2
      have h3 : rM g3 (mrkV D S a b) := by rw [e3, e2]; exact hg.vt hb7 ha7
      have k3 : FrK f g3 := by rw [e3, e2]; exact (kg.put (by omega)).put (by omega)
      have m3 : FrM f g3 := by rw [e3, e2]; exact (mg.put (by omega)).put (by omega)
      exact r_counts w (mrk_wf ws ha ha7 hb7 p) (cu.k k3) h3 hb7 fun g4 c4 m4 k4 => h1 ok g4 c4 (m3.trans m4) (k3.trans k4)
    refine ⟨fun q => ?_, fun q => fin ⟨p, fun z => q z.1⟩⟩
    rw [hg.2.2.2.2.2.1 b a hb7 ha7 (by rw [q]; exact nm)]
    exact ⟨fun q2 => h0 (fun z => z.2 ⟨q, q2⟩) g1 hg mg kg, fun q2 => fin ⟨p, fun z => q2 z.2⟩⟩
  refine t_Mo_marks_0 (r_liar w cu hb (fun _ => br0 (r_liar w cu ha (fun hh => br0 ?_) fun hh => br1 ?_)) fun z => absurd hbh (hf z))
  · rw [show mkO D a b = a from if_pos hh] at main; exact main
  · rw [show mkO D a b = b from if_neg (hf hh)] at main; exact main
end DEEDS
