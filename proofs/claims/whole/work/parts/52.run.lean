/-! fetch, run -/
section FETCHRUN
variable {L : Nat} {xs : Nat → Int32} {f g : Hp} {D : CD} {S S' : ST} {o0 : Nat}
theorem acS_off {m j m' k : Nat} {A : Nat → Int32} (h : ¬ j = 6 ∨ ¬ m' = m) : acS S m A j m' k = S j m' k := if_neg (by omega)
theorem acS_6 {m k : Nat} {A : Nat → Int32} (h : k < 8) : acS S m A 6 m k = A k := if_pos ⟨rfl, rfl, h⟩
/-- accounts told anew -/
theorem cA.ac {m : Nat} {A : Nat → Int32} (h : cA f D S) (hm : m < 7) (e : ∀ x, 75 ≤ x → x < 200 → ¬ x = 93 + 11 * m + 1 → ¬ (90 ≤ x ∧ x ≤ 92) → g x = f x) (ea : ∀ i, i < 8 → g (93 + 11 * m + 1) i = A i) : cA g D (acS S m A) := by
  have cm := h.2.2.2.1 m hm
  have n : ∀ i, i < 11 → ¬ i = 1 → g (93 + 11 * m + i) = f (93 + 11 * m + i) := fun i hi z => e _ (by omega) (by omega) (by omega) (by omega)
  have n0 := n 0 (by omega) (by omega)
  rw [Nat.add_zero] at n0
  refine h.upd hm (fun x p q r s => e x p q (by omega) s) (fun j m' k z => acS_off (by omega)) ⟨fun j hj => by rw [n0, acS_off (by omega)]; exact cm.1 j hj, by rw [n0]; exact cm.2.1, by rw [n0]; exact cm.2.2.1, fun i hi => by rw [ea i hi, acS_6 hi], fun z i hi => ?_, fun j s hj p q => ?_, fun b hb => by rw [n 9 (by omega) (by omega), acS_off (by omega)]; exact cm.2.2.2.2.2.2.1 b hb, fun b hb z => ?_⟩
  · rw [acS_off (by omega)] at z
    rw [n 2 (by omega) (by omega), acS_off (by omega)]; exact cm.2.2.2.2.1 z i hi
  · rw [show 93 + 11 * m + 3 + j = 93 + 11 * m + (3 + j) by omega, n (3 + j) (by omega) (by omega), acS_off (by omega), ← Nat.add_assoc]; exact cm.2.2.2.2.2.1 j s hj p q
  · rw [acS_off (by omega)] at z
    rw [n 10 (by omega) (by omega), acS_off (by omega)]; exact cm.2.2.2.2.2.2.2 b hb z
theorem rM.ac {m : Nat} {A : Nat → Int32} (h : rM f S) (hm : m < 7) (e : ∀ x, 406 ≤ x → x ≤ 425 → ¬ x = 412 → g x = f x) (ea : ∀ m' i, m' < 7 → i < 8 → g 412 (8 * m' + i) = if m' = m then A i else f 412 (8 * m' + i)) : rM g (acS S m A) := by
  obtain ⟨a1, a2, a3, a4, a5, a6, a7⟩ := h
  refine ⟨fun j m' hj hm' => by rw [e _ (by omega) (by omega) (by omega), acS_off (by omega)]; exact a1 j m' hj hm', fun m' i hm' hi => ?_, fun m' i hm' hi z => ?_, fun j m' s hj hm' p q => by rw [e _ (by omega) (by omega) (by omega), acS_off (by omega)]; exact a4 j m' s hj hm' p q, fun m' b hm' hb => by rw [e _ (by omega) (by omega) (by omega), acS_off (by omega)]; exact a5 m' b hm' hb, fun m' b hm' hb z => ?_, fun v hv => ?_⟩
  · rw [ea m' i hm' hi]
    by_cases y : m' = m
    · rw [if_pos y, y, acS_6 hi]
    · rw [if_neg y, acS_off (Or.inr y)]; exact a2 m' i hm' hi
  · rw [acS_off (by omega)] at z
    rw [e _ (by omega) (by omega) (by omega), acS_off (by omega)]; exact a3 m' i hm' hi z
  · rw [acS_off (by omega)] at z
    rw [e _ (by omega) (by omega) (by omega), acS_off (by omega)]; exact a6 m' b hm' hb z
  · rw [e 422 (by omega) (by omega) (by omega), e 423 (by omega) (by omega) (by omega), e 424 (by omega) (by omega) (by omega), e 425 (by omega) (by omega) (by omega)]
    have := a7 v hv
    rw [acS_off (j := 16) (by omega), acS_off (j := 17) (by omega), acS_off (j := 18) (by omega)]
    refine ⟨this.1, fun z => ⟨(this.2 z).1, (this.2 z).2.1, fun s p q => ?_⟩⟩
    rw [acS_off (j := 19) (by omega)]; exact (this.2 z).2.2 s p q
abbrev ftcOk (S : ST) (a b : Nat) : Prop := S 3 a 0 < S 2 a 0 ∧ S 5 b 0 = S 2 a 0
def ftU (S : ST) (a b : Nat) : Nat → Bool := dif (nd (S 6 a)) (nd (S 7 b))
def ftB (S : ST) (a b : Nat) : ST := su (su (acS S a (fun i => if tak (ftU S a b) i = true then S 7 b i else S 6 a i)) 4 a 0 (S 4 a 0 + iN (askN (ftU S a b)))) 3 a 0 (S 2 a 0)
def ftcS (S : ST) (a b : Nat) : ST := chkS (ftB S a b) a
theorem ftB_off {a b j m' k : Nat} (h : ¬ m' = a ∨ (¬ j = 6 ∧ ¬ j = 4 ∧ ¬ j = 3)) : ftB S a b j m' k = S j m' k := by
  unfold ftB
  rw [su_at, if_neg (by omega), su_at, if_neg (by omega), acS_off (by omega)]
theorem ftB_3 {a b : Nat} : ftB S a b 3 a 0 = S 2 a 0 := su_eq
theorem ftB_wf {a b l : Nat} (ws : wfS D S) (ha : a < 7) (el : S 2 a 0 = iN l) (hl : l ≤ 12) : wfS D (ftB S a b) := by
  obtain ⟨c1, c2, c3, c4, c5⟩ := ws.1 a ha
  refine wfS_mem ws ha (fun j m' k z => ftB_off (by omega)) (ftB_off (by omega)) ?_ (fun s x y => ?_) (fun z => ?_) fun z s x y => ?_
  · rw [ftB_off (by omega), ftB_off (by omega), ftB_off (by omega), ftB_3, ftB_off (by omega)]
    exact ⟨c1, c2, c3, c3, c5⟩
  · rw [ftB_off (by omega), ftB_off (by omega), ftB_off (by omega), ftB_off (by omega), ftB_off (by omega), ftB_off (by omega)]
    exact ws.2.1 a s ha x y
  · rw [ftB_off (by omega)] at z
    exact ⟨by rw [ftB_off (by omega)]; exact (ws.2.2.2.1 a ha z).1, fun s x y => by rw [ftB_off (by omega)]; exact (ws.2.2.2.1 a ha z).2 s x y⟩
  · rw [ftB_off (by omega)]; exact ws.2.2.2.2.1 a ha z s x y
theorem ftc_wf {a b : Nat} (w : wfC D) (ws : wfS D S) (ha : a < 3 * dF D + 1) (ok : ftcOk S a b) : wfE D (ftcS S a b) a ∧ wfS D (ftcS S a b) := by
  have hF := w.1
  have ha7 : a < 7 := by omega
  obtain ⟨-, -, ⟨l, hl, el⟩, ⟨r, hr, er⟩, -⟩ := ws.1 a ha7
  have o1 := ok.1
  rw [el, er, iN_lt (by omega) (by omega)] at o1
  have we := wfE_chk w (ftB_wf (b := b) ws ha7 el hl) ha (r := l) (by rw [ftB_3]; exact el) (by omega)
  refine ⟨we, we.s fun a' ha' z1 z2 => ?_⟩
  have e2 : chkS (ftB S a b) a 2 a 0 = iN l := by rw [chkS_off (by omega), ftB_off (by omega)]; exact el
  have e14 : ∀ x, chkS (ftB S a b) a 14 a x = if x = a then iN l else S 14 a x := fun x => by rw [chkS_14, ftB_3, el, ftB_off (by omega)]
  have e15 : ∀ x, ¬ x = a → chkS (ftB S a b) a 15 a x = S 15 a x := fun x hx => by rw [chkS_15, if_neg hx, ftB_off (by omega)]
  have na : ¬ a' = a := fun z => by
    rw [z, e2, e14, if_pos rfl, iN_lt (by omega) (by omega)] at z2
    omega
  rw [e14, if_neg na] at z1
  rw [e2, e14, if_neg na] at z2
  have old := ws.2.2.2.2.2.1 a a' ha7 ha' z1 (by rw [el]; exact z2)
  refine Nat.lt_of_le_of_lt (cnt_le _ fun x _ y => ?_) old
  have y : chkS (ftB S a b) a 14 a x = chkS (ftB S a b) a 14 a a' ∧ chkS (ftB S a b) a 15 a x = chkS (ftB S a b) a 15 a a' := y
  rw [e14, e14, if_neg na] at y
  have nx : ¬ x = a := fun z => by
    have := y.1
    rw [if_pos z] at this
    rw [← this, iN_lt (by omega) (by omega)] at z2
    omega
  rw [if_neg nx, e15 x nx, e15 a' na] at y
  exact y
theorem c_asFetch {Q : Int32 → Hp → Prop} {a b : Nat} (w : wfC D) (ws : wfS D S) (h : cA f D S) (ha : a < 3 * dF D + 1) (hb : b < 7) (nab : ¬ a = b) (hbh : hon D b = true) (h1 : hon D a = true ∧ ftcOk S a b → ∀ g, cA g D (ftcS S a b) → FrA f g → Q 1 g) (h0 : ¬ (hon D a = true ∧ ftcOk S a b) → Q 0 f) : CI L xs xm_As_fetch [.ref 75, .int (iN a), .int (iN b)] f Q := by
  have hF := w.1
  have ha7 : a < 7 := by omega
  refine t_As_fetch_0 ⟨a, rfl, ha7, b, rfl, hb, c_asHon w h (by omega) (fun hh => br1 ?_) fun hh => br0 (h0 fun z => hf hh z.1)⟩
  rw [h.s ha7 (by omega), h.s ha7 (by omega), h.s hb (by omega)]
  refine ⟨fun p => ⟨fun p2 => ?_, fun p2 => h0 fun z => p2 z.2.2⟩, fun p => h0 fun z => p z.2.1⟩
  obtain ⟨l, hl, el⟩ := (ws.1 a ha7).2.2.1
  have nm : ¬ S 5 b 0 = -1 := by rw [p2, el]; exact iN_ne1 (by omega)
  have m1 : ∀ i, i < 8 → f (93 + 11 * a + 1) i = S 6 a i := fun i hi => (h.2.2.2.1 a ha7).2.2.2.1 i hi
  have m2 : ∀ i, i < 8 → f (93 + 11 * b + 2) i = S 7 b i := fun i hi => (h.2.2.2.1 b hb).2.2.2.2.1 nm i hi
  refine c_fetch (u := ftU S a b) rfl (kf_2_8 (k_mem ha7)).2 (kf_2_9 (k_mem hb)).2 (by omega) (by omega) (by omega) (by omega) (by omega) (fun k q r => by rw [nd_congr m1 r, nd_congr m2 r]; unfold ftU dif; simp) fun g2 b1 b2 b3 b4 b5 g3 e3 g4 e4 => ?_
  have h2 : cA g2 D (acS S a (fun i => if tak (ftU S a b) i = true then S 7 b i else S 6 a i)) := h.ac ha7 (fun x p q r s => b5 x (by omega) (by omega) (by omega) (by omega)) fun i hi => by
    rw [b3 i hi, m1 i hi, m2 i hi]
  have x3 : g2 (93 + 11 * a) 4 = S 4 a 0 := by rw [h2.s ha7 (by omega), acS_off (by omega)]
  rw [x3, b1] at e3
  have x4 : g3 (93 + 11 * a) 2 = S 2 a 0 := by rw [e3, xu_k (by omega), h2.s ha7 (by omega), acS_off (by omega)]
  rw [x4] at e4
  have h4 : cA g4 D (ftB S a b) := by rw [e4, e3]; exact (h2.sc (j := 4) ha7 (by omega)).sc (j := 3) ha7 (by omega)
  have f4 : FrA f g4 := by rw [e4, e3]; exact (FrA.put0 (FrA.put0 (fun x hx => b5 x (by omega) (by omega) (by omega) (by omega)) ha7) ha7)
  exact c_checkpoint h4 ha7 fun g5 c5 f5 => h1 ⟨hh, p, p2⟩ g5 c5 (f4.trans f5)
theorem r_fetches {Q : Int32 → Hp → Prop} {a b : Nat} (w : wfC D) (ws : wfS D S) (cu : cur f o0 D) (h : rM f S) (ha : a < 3 * dF D + 1) (hb : b < 3 * dF D + 1) (hbh : hon D b = true) (h1 : hon D a = true ∧ ftcOk S a b → ∀ g, rM g (ftcS S a b) → FrM f g → FrK f g → Q 1 g) (h0 : ¬ (hon D a = true ∧ ftcOk S a b) → Q 0 f) : CI L xs xm_Mo_fetches [.ref 400, .int (iN a), .int (iN b)] f Q := by
  have hF := w.1
  have ha7 : a < 7 := by omega
  have hb7 : b < 7 := by omega
  refine t_Mo_fetches_0 (r_liar w cu ha (fun hh => br0 (r_liar w cu hb (fun _ => br0 ⟨a, rfl, ha7, ?_⟩) fun z => absurd hbh (hf z))) fun hh => br1 (h0 fun z => hf hh z.1))
  rw [show f 409 a = S 3 a 0 from h.s (j := 3) ha7 (by omega), show f 408 a = S 2 a 0 from h.s (j := 2) ha7 (by omega)]
  refine ⟨fun p => ⟨b, rfl, hb7, ?_⟩, fun p => h0 fun z => p z.2.1⟩
  rw [show f 411 b = S 5 b 0 from h.s (j := 5) hb7 (by omega)]
  refine ⟨fun p2 => ?_, fun p2 => h0 fun z => p2 z.2.2⟩
  obtain ⟨l, hl, el⟩ := (ws.1 a ha7).2.2.1
  have nm : ¬ S 5 b 0 = -1 := by rw [p2, el]; exact iN_ne1 (by omega)
  have ok : ftcOk S a b := ⟨p, p2⟩
  rw [show 8 * iN a = iN (8 * a) from iN_mul 8 _, show 8 * iN b = iN (8 * b) from iN_mul 8 _]
  refine r_lays rfl rfl (by omega) (by omega) fun g1 a1 a2 => r_lays rfl rfl (by omega) (by omega) fun g2 b1 b2 => r_seeks (ftU S a b) (fun k q r => ?_) fun g3 d1 d2 d3 d4 g4 e4 => ?_
  · have ra : nd (fun i => f 412 (8 * a + i)) k = nd (S 6 a) k := nd_congr (fun i hi => h.2.1 a i ha7 hi) r
    have rb : nd (fun i => g1 413 (8 * b + i)) k = nd (S 7 b) k := nd_congr (fun i hi => by rw [a2 413 (by omega)]; exact h.2.2.1 b i hb7 hi nm) r
    rw [b2 404 (by omega), a1 k q r, b1 k q r, ra, rb]
    unfold ftU dif
    simp
  · have n3 : ∀ x, ¬ x = 400 → ¬ x = 404 → ¬ x = 405 → g3 x = f x := fun x p q r => by rw [d4 x p, b2 x r, a2 x q]
    have x4 : g3 410 a = S 4 a 0 := by rw [n3 _ (by omega) (by omega) (by omega)]; exact h.s (j := 4) ha7 (by omega)
    rw [x4, d1] at e4
    have n4 : ∀ x, ¬ x = 400 → ¬ x = 404 → ¬ x = 405 → ¬ x = 410 → g4 x = f x := fun x p q r s => by rw [e4, xu_a s, n3 x p q r]
    have k4 : FrK f g4 := fun j hj => by rw [e4, xu_a (by omega), d3 j (by omega) (by omega), b2 400 (by omega), a2 400 (by omega)]
    have e22 : g4 400 22 = iN (bN (fun i => tak (ftU S a b) i = true) 8) := by rw [e4, xu_a (by omega), d2]
    obtain ⟨W, hW⟩ : ∃ W : Nat → Int32, W = fun i => if tak (ftU S a b) i = true then S 7 b i else S 6 a i := ⟨_, rfl⟩
    have bl := bN_lt (fun i => tak (ftU S a b) i = true) 8
    refine for0 8 (fun k l g => l = [.ref 400, .int (iN a), .int (iN b), .int (iN k)] ∧ (∀ m i, m < 7 → i < 8 → g 412 (8 * m + i) = if m = a ∧ i < k then W i else f 412 (8 * m + i)) ∧ ∀ x, ¬ x = 412 → g x = g4 x) ⟨rfl, fun m i _ _ => by rw [if_neg (by omega), n4 _ (by omega) (by omega) (by omega) (by omega)], fun _ _ => rfl⟩ ?_ ?_
    · rintro k l g hk ⟨rfl, c1, c2⟩ k2
      refine t_Mo_fetches_97 (brT ((iN_lt (b := 8) (by omega) (by omega)).mpr (by omega)) ?_)
      rw [c2 400 (by omega), e22, bit1 (by omega) (by omega), iN_inc, bN_bit]
      have ext : ∀ (g' : Hp), (∀ m i, m < 7 → i < 8 → g' 412 (8 * m + i) = if m = a ∧ i = k then W k else g 412 (8 * m + i)) → ∀ m i, m < 7 → i < 8 → g' 412 (8 * m + i) = if m = a ∧ i < k + 1 then W i else f 412 (8 * m + i) := fun g' hg' m i hm hi => by
        rw [hg' m i hm hi]
        by_cases z : m = a ∧ i = k
        · obtain ⟨rfl, rfl⟩ := z
          rw [if_pos ⟨rfl, rfl⟩, if_pos ⟨rfl, by omega⟩]
        · rw [if_neg z, c1 m i hm hi]
          by_cases y : m = a ∧ i < k
          · rw [if_pos y, if_pos ⟨y.1, by omega⟩]
          · rw [if_neg y, if_neg (by omega)]
      by_cases ht : tak (ftU S a b) k = true
      · rw [if_pos (by simp [hk, ht])]
        refine brT (by decide) ⟨8 * b + k, by simp only [lit, iN_add, iN_mul], by omega, 8 * a + k, by simp only [lit, iN_add, iN_mul], by omega, fun g5 e5 => ?_⟩
        rw [c2 413 (by omega), n4 413 (by omega) (by omega) (by omega) (by omega), h.2.2.1 b k hb7 hk nm] at e5
        refine k2 _ _ ⟨rfl, ext g5 fun m i hm hi => ?_, fun x hx => by rw [e5, xu_a hx, c2 x hx]⟩
        rw [e5, xu_at]
        by_cases z : m = a ∧ i = k
        · rw [if_pos ⟨rfl, by omega⟩, if_pos z, hW]; exact (if_pos ht).symm
        · rw [if_neg (by omega), if_neg z]
      · rw [if_neg (by simp [ht])]
        refine brF (by decide) (k2 _ _ ⟨rfl, ext g fun m i hm hi => ?_, c2⟩)
        by_cases z : m = a ∧ i = k
        · obtain ⟨rfl, rfl⟩ := z
          rw [if_pos ⟨rfl, rfl⟩, c1 m i hm hi, if_neg (by omega), hW]; exact (h.2.1 m i hm hi).trans (if_neg ht).symm
        · rw [if_neg z]
    · rintro l g ⟨rfl, c1, c2⟩
      refine t_Mo_fetches_97 (brF (by decide) ⟨a, rfl, ha7, fun g5 e5 => ?_⟩)
      have x5 : g 408 a = S 2 a 0 := by rw [c2 _ (by omega), n4 _ (by omega) (by omega) (by omega) (by omega)]; exact h.s (j := 2) ha7 (by omega)
      rw [x5] at e5
      have h4 : rM g4 (su S 4 a 0 (S 4 a 0 + iN (askN (ftU S a b)))) := by
        rw [e4]; exact (h.fr (g := g3) fun x p q => n3 x (by omega) (by omega) (by omega)).sc (j := 4) ha7 (by omega)
      have hg : rM g (acS (su S 4 a 0 (S 4 a 0 + iN (askN (ftU S a b)))) a W) := h4.ac ha7 (fun x p q r => c2 x r) fun m i hm hi => by
        rw [c1 m i hm hi]
        by_cases z : m = a
        · rw [if_pos ⟨z, hi⟩, if_pos z]
        · rw [if_neg (fun y => z y.1), if_neg z, n4 _ (by omega) (by omega) (by omega) (by omega)]
      have esw : acS (su S 4 a 0 (S 4 a 0 + iN (askN (ftU S a b)))) a W = su (acS S a W) 4 a 0 (S 4 a 0 + iN (askN (ftU S a b))) := by
        funext j m k
        unfold acS su
        by_cases z : j = 6
        · subst z
          rw [if_neg (show ¬ (6 = 4 ∧ m = a ∧ k = 0) by omega), if_neg (show ¬ (6 = 4 ∧ m = a ∧ k = 0) by omega)]
        · rw [if_neg (fun y => z y.1)]
          show _ = if j = 4 ∧ m = a ∧ k = 0 then S 4 a 0 + iN (askN (ftU S a b)) else (if j = 6 ∧ m = a ∧ k < 8 then W k else S j m k)
          rw [if_neg (show ¬ (j = 6 ∧ m = a ∧ k < 8) from fun y => z y.1)]
      have h5 : rM g5 (ftB S a b) := by
        rw [e5]
        rw [esw] at hg
        rw [hW] at hg
        exact hg.sc (j := 3) ha7 (by omega)
      have k5 : FrK f g5 := fun j hj => by rw [e5, xu_a (by omega), c2 400 (by omega)]; exact k4 j hj
      have m5 : FrM f g5 := fun x hx hy => by rw [e5, xu_a (by omega), c2 x (by omega), n4 x hy (by omega) (by omega) (by omega)]
      obtain ⟨we, wf⟩ := ftc_wf w ws ha ok
      refine r_checks w we (cu.k k5) h5 ha7 fun g6 c6 m6 k6 => h1 ⟨hh, ok⟩ g6 ?_ (m5.trans m6) (k5.trans k6)
      have e6 := cvS_id wf ha7 _ (Nat.le_refl _) (by omega)
      unfold ftcS at e6
      rw [e6] at c6
      exact c6
/-! run -/
abbrev canRun (D : CD) (S : ST) (m : Nat) : Prop := nb (S 3 m 0) < 12 ∧ isCmt D S m (nb (S 3 m 0) + 1)
def r1A (D : CD) (S : ST) (m s : Nat) : ST := if S 8 m s = 10 then S else acS S m (ro1 D (nb (S 8 m s)) (S 6 m))
def r1a (D : CD) (S : ST) (m s : Nat) : ST := su (su (r1A D S m s) 13 m s (S 8 m s)) 3 m 0 (iN s)
def r1S (D : CD) (S : ST) (m s : Nat) : ST := if s % dS D = 0 then cvS D (chkS (r1a D S m s) m) m (3 * dF D + 1) else r1a D S m s
def rLp (D : CD) (m : Nat) : Nat → ST → ST
  | 0, S => S
  | n + 1, S => if canRun D S m then rLp D m n (r1S D S m (nb (S 3 m 0) + 1)) else S
theorem r1A_off {m s j m' k : Nat} (h : ¬ j = 6 ∨ ¬ m' = m) : r1A D S m s j m' k = S j m' k := by
  unfold r1A
  split
  · rfl
  · exact acS_off h
theorem r1a_off {m s j m' k : Nat} (h : ¬ m' = m ∨ (¬ j = 3 ∧ ¬ j = 6 ∧ ¬ j = 13)) : r1a D S m s j m' k = S j m' k := by
  unfold r1a
  rw [su_at, if_neg (by omega), su_at, if_neg (by omega), r1A_off (by omega)]
theorem r1a_3 {m s : Nat} : r1a D S m s 3 m 0 = iN s := su_eq
theorem r1a_wf {m s : Nat} (ws : wfS D S) (hm : m < 7) (hs : 1 ≤ s ∧ s ≤ 12) : wfS D (r1a D S m s) := by
  obtain ⟨c1, c2, c3, c4, c5⟩ := ws.1 m hm
  refine wfS_mem ws hm (fun j m' k z => r1a_off (by omega)) (r1a_off (by omega)) ?_ (fun s' x y => ?_) (fun z => ?_) fun z s' x y => ?_
  · rw [r1a_off (by omega), r1a_off (by omega), r1a_off (by omega), r1a_3, r1a_off (by omega)]
    exact ⟨c1, c2, c3, ⟨s, hs.2, rfl⟩, c5⟩
  · obtain ⟨d1, d2, d3, d4, d5, d6⟩ := ws.2.1 m s' hm x y
    rw [r1a_off (by omega), r1a_off (by omega), r1a_off (by omega), r1a_off (by omega), r1a_off (by omega)]
    refine ⟨d1, d2, d3, d4, d5, ?_⟩
    unfold r1a
    rw [su_j (by omega), su_at]
    by_cases z : s' = s
    · subst z
      rw [if_pos ⟨rfl, rfl, rfl⟩]; exact d1
    · rw [if_neg (fun u => z u.2.2), r1A_off (by omega)]; exact d6
  · rw [r1a_off (by omega)] at z
    exact ⟨by rw [r1a_off (by omega)]; exact (ws.2.2.2.1 m hm z).1, fun s' x y => by rw [r1a_off (by omega)]; exact (ws.2.2.2.1 m hm z).2 s' x y⟩
  · rw [r1a_off (by omega)]; exact ws.2.2.2.2.1 m hm z s' x y
theorem r1S_wf {m s : Nat} (w : wfC D) (ws : wfS D S) (hm : m < 3 * dF D + 1) (hs : 1 ≤ s ∧ s ≤ 12) : wfS D (r1S D S m s) ∧ r1S D S m s 3 m 0 = iN s := by
  have hF := w.1
  unfold r1S
  split
  · refine ⟨cvS_fin w (wfE_chk w (r1a_wf ws (by omega) hs) hm (r := s) r1a_3 hs) (by omega), ?_⟩
    rw [cvS_off (by omega), chkS_off (by omega), r1a_3]
  · exact ⟨r1a_wf ws (by omega) hs, r1a_3⟩
theorem ord_cases {x : Int32} (w : wfC D) (h : ordI D x) : (x = 10 ∧ nb x = 10) ∨ (∃ o, o < dN D ∧ x = iN o ∧ nb x = o ∧ ¬ x = 10) := by
  have w5 := w.2.2.2.2.1
  rcases h with z | ⟨o, ho, z⟩
  · exact Or.inl ⟨z, by rw [z]; rfl⟩
  · refine Or.inr ⟨o, ho, z, by rw [z, nb_iN (by omega)], fun y => ?_⟩
    rw [z] at y
    exact absurd ((iN_inj (b := 10) (by omega) (by omega)).mp y) (by omega)
theorem c_run1 {Q : Hp → Prop} {m s : Nat} (w : wfC D) (h : cA f D S) (hm : m < 7) (hs : 1 ≤ s ∧ s ≤ 12) (ho : ordI D (S 8 m s)) (kk : ∀ g, cA g D (r1A D S m s) → FrA f g → Q g) : CV L xs xm_Co_runOrder [.ref 77, .int (f (93 + 11 * m + 3) s), .ref (93 + 11 * m + 1)] f Q := by
  have w5 := w.2.2.2.2.1
  rw [show f (93 + 11 * m + 3) s = S 8 m s from h.a (j := 0) hm (by omega) hs.1 hs.2]
  rcases ord_cases w ho with ⟨z, -⟩ | ⟨o, h1, z, z2, z3⟩
  · rw [z]
    refine t_Co_runOrder_0 rfl (kf_2_8 (k_mem hm)).2 (brF (by decide) (brF ?_ (kk f ?_ (FrA.refl f))))
    · rw [show f 77 4 = iN (dN D) from h.1.2.2.2.2.1, show (10 : Int32) = iN 10 from rfl, iN_lt (by omega) (by omega)]; omega
    · unfold r1A; rw [if_pos z]; exact h
  · rw [z]
    refine c_runOrder rfl (kf_2_8 (k_mem hm)).2 (by omega) w h.1 h1 (kk _ ?_ fun x hx => xuc_a (by omega))
    unfold r1A
    rw [if_neg z3, z2]
    refine h.ac hm (fun x _ _ p _ => xuc_a p) fun i hi => ?_
    rw [xuc_eq]
    exact ro1_congr (fun i hi => (h.2.2.2.1 m hm).2.2.2.1 i hi) i hi
theorem c_runOn {Q : Int32 → Hp → Prop} {m : Nat} (w : wfC D) (ws : wfS D S) (h : cA f D S) (hm : m < 3 * dF D + 1) (h1 : hon D m = true ∧ canRun D S m → ∀ g, cA g D (rLp D m 12 S) → FrA f g → Q 1 g) (h0 : ¬ (hon D m = true ∧ canRun D S m) → Q 0 f) : CI L xs xm_As_runOn [.ref 75, .int (iN m)] f Q := by
  have hF := w.1
  have hm7 : m < 7 := by omega
  have w3 := w.2.2.1
  have lp : ∀ n (S : ST) (f : Hp) (y : Value), (y.category != 2) = true → wfS D S → cA f D S → (∀ r, S 3 m 0 = iN r → r ≤ 12 → 12 ≤ n + r → (∀ g, cA g D (rLp D m n S) → FrA f g → Q 1 g) → Wp L xs xm_As_runOn 37 [.ref 75, .int (iN m), .ref (93 + 11 * m), .int (iN (r + 1)), y] [] f (QI Q)) := by
    intro n
    induction n with
    | zero =>
      intro S f y hy ws h r er hr hn kk
      exact t_As_runOn_37 (k_mem hm7) hy (brT ((iN_lt (a := 12) (by omega) (by omega)).mpr (by omega)) (kk f h (FrA.refl f)))
    | succ n ih =>
      intro S f y hy ws h r er hr hn kk
      have nr : nb (S 3 m 0) = r := by rw [er, nb_iN (by omega)]
      refine t_As_runOn_37 (k_mem hm7) hy ?_
      by_cases z : r = 12
      · refine brT ((iN_lt (a := 12) (by omega) (by omega)).mpr (by omega)) (kk f ?_ (FrA.refl f))
        unfold rLp
        rw [if_neg (fun u => by have := u.1; omega)]; exact h
      · refine brF (fun z => absurd ((iN_lt (a := 12) (by omega) (by omega)).mp z) (by omega)) (c_isCmt w ws h hm7 (by omega) (fun u => br1 ⟨r + 1, rfl, by omega, ?_⟩) fun u => br0 (kk f ?_ (FrA.refl f)))
        · have cr : canRun D S m := ⟨by omega, by rw [nr]; exact u⟩
          have ho : ordI D (S 8 m (r + 1)) := (ws.2.1 m (r + 1) hm7 (by omega) (by omega)).1.resolve_left u.1.1
          have e8 : f (93 + 11 * m + 3) (r + 1) = S 8 m (r + 1) := h.a (j := 0) hm7 (by omega) (by omega) (by omega)
          refine c_run1 w h hm7 (by omega) ho fun g2 c2 f2 g3 e3 g4 e4 => ?_
          rw [e8] at e3
          have c4 : cA g4 D (r1a D S m (r + 1)) := by rw [e4, e3]; exact (c2.ar (j := 5) hm7 (by omega)).sc (j := 3) hm7 (by omega)
          have f4 : FrA f g4 := by rw [e4, e3]; exact (f2.put (j := 8) hm7 (by omega)).put0 hm7
          obtain ⟨wn, en⟩ := r1S_wf w ws hm (show 1 ≤ r + 1 ∧ r + 1 ≤ 12 by omega)
          have hd : (r + 1) % dS D < 5 := Nat.lt_of_lt_of_le (Nat.mod_lt _ (by omega)) (by omega)
          rw [show g4 77 2 = iN (dS D) from c4.1.2.2.1, jrem_iN (by omega) (by omega), iN_inc]
          have nxt : ∀ g6, cA g6 D (r1S D S m (r + 1)) → FrA f g6 → ∀ y', (Value.category y' != 2) = true → Wp L xs xm_As_runOn 37 [.ref 75, .int (iN m), .ref (93 + 11 * m), .int (iN (r + 1 + 1)), y'] [] g6 (QI Q) := fun g6 c6 f6 y' hy' => ih _ g6 y' hy' wn c6 (r + 1) en (by omega) (by omega) fun g c fr => kk g (by unfold rLp; rw [if_pos cr, nr]; exact c) (f6.trans fr)
          refine brT ((iN_lt (a := 0) (by omega) (by omega)).mpr (by omega)) ⟨fun q => absurd ((iN_inj (b := 0) (by omega) (by omega)).mp q) (by omega), fun q => ?_, fun q => ?_⟩
          · have q := (iN_inj (b := 0) (by omega) (by omega)).mp q
            refine c_checkpoint c4 hm7 fun g5 c5 f5 => c_countVotes w (wfE_chk w (r1a_wf ws hm7 (by omega)) hm (r := r + 1) r1a_3 (by omega)) c5 hm7 fun g6 c6 f6 => nxt g6 ?_ ((f4.trans f5).trans f6) _ rfl
            unfold r1S; rw [if_pos q]; exact c6
          · have q : ¬ (r + 1) % dS D = 0 := fun z => q (by rw [z]; rfl)
            refine nxt g4 ?_ f4 _ rfl
            unfold r1S; rw [if_neg q]; exact c4
        · unfold rLp
          rw [if_neg (fun v => u (by have := v.2; rw [nr] at this; exact this))]; exact h
  obtain ⟨-, -, -, ⟨r, hr, er⟩, -⟩ := ws.1 m hm7
  have nr : nb (S 3 m 0) = r := by rw [er, nb_iN (by omega)]
  refine t_As_runOn_0 ⟨m, rfl, hm7, c_asHon w h (by omega) (fun hh => br1 ?_) fun hh => br0 (h0 fun z => hf hh z.1)⟩
  rw [h.s hm7 (by omega), er, iN_inc]
  by_cases z : r = 12
  · have hp : CI L xs xm_Me_isPrepared [.ref (93 + 11 * m), .int (iN (r + 1))] f (fun v1 g1 => ((v1 = 0 → Q 0 g1) ∧ (¬ v1 = 0 → False))) := t_Me_isPrepared_0 (k_mem hm7) (t_Me_hasAccepted_0 (k_mem hm7) (brF (fun z => absurd ((iN_lt (b := 1) (by omega) (by omega)).mp z) (by omega)) (brT ((iN_lt (a := 12) (by omega) (by omega)).mpr (by omega)) (br0 (br0 (h0 fun u => by have := u.2.1; omega))))))
    exact t_Me_isCommitted_0 (k_mem hm7) (CI.mono hp fun v g u => ⟨fun v0 => br0 (u.1 v0), fun v1 => (u.2 v1).elim⟩)
  · refine c_isCmt w ws h hm7 (by omega) (fun u => br1 ?_) fun u => br0 (h0 fun v => u (by have := v.2.2; rw [nr] at this; exact this))
    rw [h.s hm7 (by omega), er, iN_inc]
    exact lp 12 S f _ rfl ws h r er hr (by omega) fun g c fr => h1 ⟨hh, by omega, by rw [nr]; exact u⟩ g c fr
theorem r_run1 {Q : Hp → Prop} {m r : Nat} (w : wfC D) (ws : wfS D S) (cu : cur f o0 D) (rc : rC f o0 D) (ho0 : o0 ≤ 692) (h : rM f S) (hm : m < 3 * dF D + 1) (er : S 3 m 0 = iN r) (hr : r < 12) (ho : ordI D (S 8 m (r + 1))) (kk : ∀ g, rM g (r1S D S m (r + 1)) → FrM f g → FrK f g → Q g) : CV L xs xm_Mo_runsOne [.ref 400, .int (iN m)] f Q := by
  have hF := w.1
  have hm7 : m < 7 := by omega
  have w3 := w.2.2.1
  have w5 := w.2.2.2.2.1
  have e9 : f 409 m = iN r := (h.s (j := 3) hm7 (by omega)).trans er
  have e8 : f 414 (13 * m + (r + 1)) = S 8 m (r + 1) := h.a (j := 0) hm7 (by omega) (by omega) (by omega)
  have fin : ∀ (g4 : Hp) (y : Value), (y.category != 2) = true → rM g4 (r1A D S m (r + 1)) → FrM f g4 → FrK f g4 → Wp L xs xm_Mo_runsOne 61 [.ref 400, .int (iN m), .int (iN (r + 1)), .int (S 8 m (r + 1)), y] [] g4 (QV Q) := by
    intro g4 y hy c4 m4 k4
    refine t_Mo_runsOne_61 hy (r_at ⟨13 * m + (r + 1), rfl, by omega, fun g2 e2 => ⟨m, rfl, hm7, fun g3 e3 => ?_⟩⟩)
    have c3 : rM g3 (r1a D S m (r + 1)) := by rw [e3, e2]; exact (c4.ar (j := 5) hm7 (by omega) (by omega)).sc (j := 3) hm7 (by omega)
    have m3 : FrM f g3 := by rw [e3, e2]; exact (m4.put (by omega)).put (by omega)
    have k3 : FrK f g3 := by rw [e3, e2]; exact (k4.put (by omega)).put (by omega)
    have cu3 := cu.k k3
    have hd : (r + 1) % dS D < 5 := Nat.lt_of_lt_of_le (Nat.mod_lt _ (by omega)) (by omega)
    rw [cu3.2.2.2.2.2.1, jrem_iN (by omega) (by omega)]
    refine ⟨fun q => absurd ((iN_inj (b := 0) (by omega) (by omega)).mp q) (by omega), fun q => ?_, fun q => kk g3 ?_ m3 k3⟩
    · have q := (iN_inj (b := 0) (by omega) (by omega)).mp q
      refine r_checks w (wfE_chk w (r1a_wf ws hm7 (by omega)) hm (r := r + 1) r1a_3 (by omega)) cu3 c3 hm7 fun g5 c5 m5 k5 => kk g5 ?_ (m3.trans m5) (k3.trans k5)
      unfold r1S; rw [if_pos q]; exact c5
    · have q : ¬ (r + 1) % dS D = 0 := fun z => q (by rw [z]; rfl)
      unfold r1S; rw [if_neg q]; exact c3
  refine t_Mo_runsOne_0 ⟨m, rfl, hm7, ?_⟩
  rw [e9, iN_inc]
  refine r_at ⟨13 * m + (r + 1), rfl, by omega, ?_⟩
  rw [e8]
  rcases ord_cases w ho with ⟨z, -⟩ | ⟨o, h1, z, z2, z3⟩
  · refine brT z (fin f _ rfl ?_ (FrM.refl f) (FrK.refl f))
    unfold r1A; rw [if_pos z]; exact h
  · refine brF z3 ?_
    have w7 := w.2.2.2.2.2.2.1 o h1
    have ez : CI L xs xm_Mo_orderAccount [.ref 400, .int (S 8 m (r + 1))] f (fun v g => v = iN (dO D o) ∧ g = f) := by
      rw [z]; exact r_ordAcc cu rc w ho0 h1 ⟨rfl, rfl⟩
    refine CI.mono ez fun v2 g2 e2 => ?_
    obtain ⟨rfl, rfl⟩ := e2
    refine ⟨8 * m + dO D o, by simp only [lit, iN_add, iN_mul], by omega, ?_⟩
    have ez : CI L xs xm_Mo_orderPlus [.ref 400, .int (S 8 m (r + 1))] g2 (fun v g => v = iN (dP D o) ∧ g = g2) := by
      rw [z]; exact r_ordPlus cu rc w ho0 h1 ⟨rfl, rfl⟩
    refine CI.mono ez fun v3 g3 e3 => ?_
    obtain ⟨rfl, rfl⟩ := e3
    intro g4 e4
    rw [h.2.1 m (dO D o) hm7 (by omega)] at e4
    refine fin g4 _ rfl ?_ (by rw [e4]; exact (FrM.refl _).put (by omega)) (by rw [e4]; exact (FrK.refl _).put (by omega))
    unfold r1A
    rw [if_neg z3, z2]
    refine h.ac hm7 (fun x _ _ p => by rw [e4, xu_a p]) fun m' i hm' hi => ?_
    rw [e4, xu_at]
    unfold ro1
    by_cases y : m' = m
    · subst y
      by_cases u : i = dO D o
      · rw [if_pos ⟨rfl, by omega⟩, if_pos rfl, if_pos u, u]
      · rw [if_neg (by omega), if_pos rfl, if_neg u]; exact h.2.1 m' i hm' hi
    · rw [if_neg (by omega), if_neg y]
theorem r_runsOn {Q : Int32 → Hp → Prop} {m : Nat} (w : wfC D) (ws : wfS D S) (cu : cur f o0 D) (rc : rC f o0 D) (ho0 : o0 ≤ 692) (h : rM f S) (hm : m < 3 * dF D + 1) (h1 : hon D m = true ∧ canRun D S m → ∀ g, rM g (rLp D m 12 S) → FrM f g → FrK f g → Q 1 g) (h0 : ¬ (hon D m = true ∧ canRun D S m) → Q 0 f) : CI L xs xm_Mo_runsOn [.ref 400, .int (iN m)] f Q := by
  have hF := w.1
  have hm7 : m < 7 := by omega
  have cr : ∀ {S : ST} {f : Hp} {Q : Int32 → Hp → Prop}, wfS D S → cur f o0 D → rM f S → (canRun D S m → Q 1 f) → (¬ canRun D S m → Q 0 f) → CI L xs xm_Mo_canRun [.ref 400, .int (iN m)] f Q := by
    intro S f Q ws cu h k1 k0
    obtain ⟨-, -, -, ⟨r, hr, er⟩, -⟩ := ws.1 m hm7
    have nr : nb (S 3 m 0) = r := by rw [er, nb_iN (by omega)]
    refine t_Mo_canRun_0 ⟨m, rfl, hm7, ?_⟩
    rw [show f 409 m = iN r from (h.s (j := 3) hm7 (by omega)).trans er, show (12 : Int32) = iN 12 from rfl, iN_lt (by omega) (by omega), iN_inc]
    refine ⟨fun p => r_isCmt w ws cu h hm7 (by omega) (fun u => br1 (k1 ⟨by omega, by rw [nr]; exact u⟩)) fun u => br0 (k0 fun v => u (by have := v.2; rw [nr] at this; exact this)), fun p => k0 fun v => by have := v.1; omega⟩
  have lp : ∀ n (S : ST) (f : Hp), wfS D S → cur f o0 D → rC f o0 D → rM f S → (∀ r, S 3 m 0 = iN r → r ≤ 12 → 12 ≤ n + r → (∀ g, rM g (rLp D m n S) → FrM f g → FrK f g → Q 1 g) → Wp L xs xm_Mo_runsOn 18 [.ref 400, .int (iN m)] [] f (QI Q)) := by
    intro n
    induction n with
    | zero =>
      intro S f ws cu rc h r er hr hn kk
      refine t_Mo_runsOn_18 (cr ws cu h (fun u => ?_) fun u => br0 (kk f h (FrM.refl f) (FrK.refl f)))
      have := u.1
      rw [er, nb_iN (by omega)] at this
      omega
    | succ n ih =>
      intro S f ws cu rc h r er hr hn kk
      have nr : nb (S 3 m 0) = r := by rw [er, nb_iN (by omega)]
      refine t_Mo_runsOn_18 (cr ws cu h (fun u => br1 ?_) fun u => br0 (kk f ?_ (FrM.refl f) (FrK.refl f)))
      · have u1 := u.1
        have u2 := u.2
        rw [nr] at u1 u2
        have ho : ordI D (S 8 m (r + 1)) := (ws.2.1 m (r + 1) hm7 (by omega) (by omega)).1.resolve_left u2.1.1
        obtain ⟨wn, en⟩ := r1S_wf w ws hm (show 1 ≤ r + 1 ∧ r + 1 ≤ 12 by omega)
        refine r_run1 w ws cu rc ho0 h hm er u1 ho fun g2 c2 m2 k2 => ih _ g2 wn (cu.k k2) (rc.fr (m2 401 (by omega) (by omega))) c2 (r + 1) en (by omega) (by omega) fun g c a b => kk g ?_ (m2.trans a) (k2.trans b)
        unfold rLp; rw [if_pos u, nr]; exact c
      · unfold rLp; rw [if_neg u]; exact h
  obtain ⟨-, -, -, ⟨r, hr, er⟩, -⟩ := ws.1 m hm7
  refine t_Mo_runsOn_0 (r_liar w cu hm (fun hh => br0 (cr ws cu h (fun u => br1 (lp 12 S f ws cu rc h r er hr (by omega) fun g c a b => h1 ⟨hh, u⟩ g c a b)) fun u => br0 (h0 fun v => u v.2))) fun hh => br1 (h0 fun v => hf hh v.1))
theorem rLp_wf {m : Nat} (w : wfC D) (hm : m < 3 * dF D + 1) : ∀ n (S : ST), wfS D S → wfS D (rLp D m n S)
  | 0, S, ws => ws
  | n + 1, S, ws => by
    unfold rLp
    split
    · rename_i u
      have := u.1
      exact rLp_wf w hm n _ (r1S_wf w ws hm (by omega)).1
    · exact ws
end FETCHRUN
