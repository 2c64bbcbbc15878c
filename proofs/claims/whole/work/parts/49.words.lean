/-! prepare, commit; the reference's words -/
abbrev shr (S : ST) (a b s : Nat) : Prop := ¬ S 1 a 0 = 0 ∧ S 0 a 0 = S 0 b 0 ∧ S 8 a s = S 8 b s
abbrev prpOk (D : CD) (S : ST) (a b s : Nat) : Prop := ¬ S 1 b 0 = 0 ∧ ¬ S 8 b s = -1 ∧ (nb (S 9 b s)).testBit a = false ∧ (hon D a = false ∨ shr S a b s)
abbrev cmtOk (D : CD) (S : ST) (a b s : Nat) : Prop := ¬ S 1 b 0 = 0 ∧ ¬ S 8 b s = -1 ∧ (nb (S 10 b s)).testBit a = false ∧ (hon D a = false ∨ (shr S a b s ∧ isPrep D S a s))
def prpS (D : CD) (S : ST) (a b s : Nat) : ST := setS D (su S 9 b s (iN (nb (S 9 b s) ||| (1 <<< a)))) b s
def cmtS (S : ST) (a b s : Nat) : ST := su S 10 b s (iN (nb (S 10 b s) ||| (1 <<< a)))
theorem hf {D : CD} {m : Nat} (h : hon D m = false) : ¬ hon D m = true := by rw [h]; decide
theorem one7 {m : Nat} (hm : m < 7) : 1 <<< m < 128 := by have := bit_or (a := 0) (by omega) hm; rwa [Nat.zero_or] at this
section WORDS2
variable {L : Nat} {xs : Nat → Int32} {f g : Hp} {D : CD} {S S' : ST} {o0 : Nat}
theorem c_shares {Q : Int32 → Hp → Prop} {a b s : Nat} (h : cA f D S) (ha : a < 7) (hb : b < 7) (hs : 1 ≤ s ∧ s ≤ 12) (nz : ¬ S 8 b s = -1) (h1 : shr S a b s → Q 1 f) (h0 : ¬ shr S a b s → Q 0 f) : CI L xs xm_Me_sharesAt [.ref (93 + 11 * a), .ref (93 + 11 * b), .int (iN s)] f Q := by
  refine t_Me_sharesAt_0 (k_mem ha) (k_mem hb) ?_
  rw [h.s ha (by omega), h.s ha (by omega), h.s hb (by omega)]
  refine ⟨fun p => h0 fun z => z.1 p, fun p => ⟨fun p2 => c_hasAcc h ha (k_mem ha) hs (fun p3 => br1 ⟨s, rfl, by omega, ?_⟩) fun p3 => br0 (h0 fun z => nz (by rw [← z.2.2]; exact p3)), fun p2 => h0 fun z => p2 z.2.1⟩⟩
  rw [h.a (j := 0) ha (by omega) hs.1 hs.2, h.a (j := 0) hb (by omega) hs.1 hs.2]
  exact ⟨fun p4 => h1 ⟨p, p2, p4⟩, fun p4 => h0 fun z => p4 z.2.2⟩
theorem c_prepare {Q : Int32 → Hp → Prop} {a b s : Nat} (w : wfC D) (ws : wfS D S) (h : cA f D S) (ha : a < 7) (hb : b < 7) (hs : 1 ≤ s ∧ s ≤ 12) (h1 : prpOk D S a b s → ∀ g, cA g D (prpS D S a b s) → FrA f g → Q 1 g) (h0 : ¬ prpOk D S a b s → Q 0 f) : CI L xs xm_As_prepare [.ref 75, .int (iN a), .int (iN b), .int (iN s)] f Q := by
  obtain ⟨-, ⟨p, hp, ep⟩, ⟨c, hc, ec⟩, -⟩ := ws.2.1 b s hb hs.1 hs.2
  have np : nb (S 9 b s) = p := by rw [ep, nb_iN (by omega)]
  refine t_As_prepare_0 ⟨b, rfl, hb, ?_⟩
  rw [h.s hb (by omega)]
  refine ⟨fun q => h0 fun z => z.1 q, fun q1 => c_hasAcc h hb (k_mem hb) hs (fun q2 => br1 ⟨s, rfl, by omega, ?_⟩) fun q2 => br0 (h0 fun z => z.2.1 q2)⟩
  rw [h.a (j := 1) hb (by omega) hs.1 hs.2, show S (8 + 1) b s = iN p from ep]
  refine c_hasBit (by omega) (by omega) (fun q3 => br1 (h0 fun z => absurd z.2.2.1 (by rw [np, q3]; decide))) fun q3 => br0 ?_
  have fin : (hon D a = false ∨ shr S a b s) → CV L xs xm_Me_addPrepares [.ref (93 + 11 * b), .int (iN s), .int (1 <<< (iN a &&& 31)), .int (iN b)] f (fun g => Q 1 g) := fun y => by
    rw [shl1 (by omega), ← Nat.one_shiftLeft]
    refine c_addPrep w h hb hs q2 ep hp (one7 ha) ec hc fun g c f2 => h1 ⟨q1, q2, by rw [np]; exact q3, y⟩ g ?_ f2
    unfold prpS
    rw [np]; exact c
  refine c_asHon w h (by omega) (fun hh => br1 ⟨a, rfl, ha, c_shares h ha hb hs q2 (fun y => br1 (fin (Or.inr y))) fun y => br0 (h0 fun z => ?_)⟩) fun hh => br0 (fin (Or.inl hh))
  exact z.2.2.2.elim (fun x => hf x hh) y
theorem c_commit {Q : Int32 → Hp → Prop} {a b s : Nat} (w : wfC D) (ws : wfS D S) (h : cA f D S) (ha : a < 7) (hb : b < 7) (hs : 1 ≤ s ∧ s ≤ 12) (h1 : cmtOk D S a b s → ∀ g, cA g D (cmtS S a b s) → FrA f g → Q 1 g) (h0 : ¬ cmtOk D S a b s → Q 0 f) : CI L xs xm_As_commit [.ref 75, .int (iN a), .int (iN b), .int (iN s)] f Q := by
  obtain ⟨-, -, ⟨c, hc, ec⟩, -⟩ := ws.2.1 b s hb hs.1 hs.2
  have nc : nb (S 10 b s) = c := by rw [ec, nb_iN (by omega)]
  refine t_As_commit_0 ⟨b, rfl, hb, ?_⟩
  rw [h.s hb (by omega)]
  refine ⟨fun q => h0 fun z => z.1 q, fun q1 => c_hasAcc h hb (k_mem hb) hs (fun q2 => br1 ⟨s, rfl, by omega, ?_⟩) fun q2 => br0 (h0 fun z => z.2.1 q2)⟩
  rw [h.a (j := 2) hb (by omega) hs.1 hs.2, show S (8 + 2) b s = iN c from ec]
  refine c_hasBit (by omega) (by omega) (fun q3 => br1 (h0 fun z => absurd z.2.2.1 (by rw [nc, q3]; decide))) fun q3 => br0 ⟨a, rfl, ha, ?_⟩
  have fin : (hon D a = false ∨ (shr S a b s ∧ isPrep D S a s)) → Wp L xs xm_As_commit 79 [.ref 75, .int (iN a), .int (iN b), .int (iN s), .ref (93 + 11 * b), .ref (93 + 11 * a)] [] f (QI Q) := fun y => by
    refine t_As_commit_79 (k_mem hb) (k_mem ha) ⟨s, rfl, by omega, fun g1 e1 => ?_⟩
    rw [h.a (j := 2) hb (by omega) hs.1 hs.2, show S (8 + 2) b s = iN c from ec, or1 _ _ (by omega)] at e1
    subst e1
    refine h1 ⟨q1, q2, by rw [nc]; exact q3, y⟩ _ ?_ ((FrA.refl f).put (j := 5) hb (by omega))
    unfold cmtS
    rw [nc]
    exact h.ar (j := 2) hb (by omega)
  refine c_asHon w h (by omega) (fun hh => br1 (c_shares h ha hb hs q2 (fun y => br1 (c_isPrep w ws h ha hs (fun y2 => br1 (fin (Or.inr ⟨y, y2⟩))) fun y2 => br0 (h0 fun z => ?_))) fun y => br0 (h0 fun z => ?_))) fun hh => br0 (fin (Or.inl hh))
  · exact z.2.2.2.elim (fun x => hf x hh) fun x => y2 x.2
  · exact z.2.2.2.elim (fun x => hf x hh) fun x => y x.1
/-! the reference -/
theorem rM.s {m j : Nat} (h : rM f S) (hm : m < 7) (hj : j < 6) : f (406 + j) m = S j m 0 := h.1 j m hj hm
theorem rM.a {m j s : Nat} (h : rM f S) (hm : m < 7) (hj : j < 6) (h1 : 1 ≤ s) (h2 : s ≤ 12) : f (414 + j) (13 * m + s) = S (8 + j) m s := h.2.2.2.1 j m s hj hm h1 h2
theorem cur.k (h : cur f o0 D) (e : FrK f g) : cur g o0 D := h.co fun j p q => e j (by omega)
theorem r_isPrep {Q : Int32 → Hp → Prop} {m s : Nat} (w : wfC D) (ws : wfS D S) (cu : cur f o0 D) (h : rM f S) (hm : m < 7) (hs : 1 ≤ s ∧ s ≤ 12) (h1 : isPrep D S m s → Q 1 f) (h0 : ¬ isPrep D S m s → Q 0 f) : CI L xs xm_Mo_isPrepared [.ref 400, .int (iN m), .int (iN s)] f Q := by
  have hF := w.1
  obtain ⟨c1, ⟨b, hb, eb⟩, -⟩ := ws.2.1 m s hm hs.1 hs.2
  have hbc := bcn_le b
  refine t_Mo_isPrepared_0 (r_at ⟨13 * m + s, rfl, by omega, ?_⟩)
  rw [show f 414 (13 * m + s) = S 8 m s from h.a (j := 0) hm (by omega) hs.1 hs.2]
  refine ⟨fun z => h0 fun y => y.1 z, fun z => r_at ⟨13 * m + s, rfl, by omega, ?_⟩⟩
  rw [show f 415 (13 * m + s) = iN b from (h.a (j := 1) hm (by omega) hs.1 hs.2).trans eb]
  refine r_bitsOf hb ?_
  rw [cu.2.2.2.1, iN_lt (by omega) (by omega)]
  refine ⟨fun q => h0 fun y => ?_, fun q => h1 ⟨z, ?_⟩⟩
  · have := y.2; rw [eb, nb_iN (by omega)] at this; omega
  · rw [eb, nb_iN (by omega)]; omega
theorem r_isCmt {Q : Int32 → Hp → Prop} {m s : Nat} (w : wfC D) (ws : wfS D S) (cu : cur f o0 D) (h : rM f S) (hm : m < 7) (hs : 1 ≤ s ∧ s ≤ 12) (h1 : isCmt D S m s → Q 1 f) (h0 : ¬ isCmt D S m s → Q 0 f) : CI L xs xm_Mo_isCommitted [.ref 400, .int (iN m), .int (iN s)] f Q := by
  have hF := w.1
  obtain ⟨c1, -, ⟨b, hb, eb⟩, -⟩ := ws.2.1 m s hm hs.1 hs.2
  have hbc := bcn_le b
  refine t_Mo_isCommitted_0 (r_isPrep w ws cu h hm hs (fun z => br1 (r_at ⟨13 * m + s, rfl, by omega, ?_⟩)) fun z => br0 (h0 fun y => z y.1))
  rw [show f 416 (13 * m + s) = iN b from (h.a (j := 2) hm (by omega) hs.1 hs.2).trans eb]
  refine r_bitsOf hb ?_
  rw [cu.2.2.2.1, iN_lt (by omega) (by omega)]
  refine ⟨fun q => h0 fun y => ?_, fun q => h1 ⟨z, ?_⟩⟩
  · have := y.2; rw [eb, nb_iN (by omega)] at this; omega
  · rw [eb, nb_iN (by omega)]; omega
theorem r_settles {Q : Hp → Prop} {m s : Nat} (w : wfC D) (ws : wfS D S) (cu : cur f o0 D) (h : rM f S) (hm : m < 7) (hs : 1 ≤ s ∧ s ≤ 12) (kk : ∀ g, rM g (setS D S m s) → FrM f g → FrK f g → Q g) : CV L xs xm_Mo_settles [.ref 400, .int (iN m), .int (iN s)] f Q := by
  obtain ⟨-, -, ⟨c, hc, ec⟩, -⟩ := ws.2.1 m s hm hs.1 hs.2
  refine t_Mo_settles_0 (r_isPrep w ws cu h hm hs (fun z => br1 (r_at ⟨m, rfl, hm, 13 * m + s, rfl, by omega, fun g3 e3 => r_at (r_at ⟨13 * m + s, rfl, by omega, 13 * m + s, rfl, by omega, fun g6 e6 => r_at ⟨13 * m + s, rfl, by omega, fun g8 e8 => ?_⟩⟩)⟩)) fun z => br0 ?_)
  · rw [show f 406 m = S 0 m 0 from h.s (j := 0) hm (by omega)] at e3
    have q6 : g3 414 (13 * m + s) = S 8 m s := by rw [e3, xu_a (by omega)]; exact h.a (j := 0) hm (by omega) hs.1 hs.2
    rw [q6] at e6
    have q8 : g6 416 (13 * m + s) = iN c := by rw [e6, xu_a (by omega), e3, xu_a (by omega)]; exact (h.a (j := 2) hm (by omega) hs.1 hs.2).trans ec
    rw [q8, or1 _ _ (by omega)] at e8
    subst e3 e6 e8
    refine kk _ ?_ ((((FrM.refl f).put (by omega)).put (by omega)).put (by omega)) ((((FrK.refl f).put (by omega)).put (by omega)).put (by omega))
    unfold setS
    rw [if_pos z, ec, nb_iN (by omega)]
    exact ((h.ar (j := 3) hm (by omega) hs).ar (j := 4) hm (by omega) hs).ar (j := 2) hm (by omega) hs
  · refine kk f ?_ (FrM.refl f) (FrK.refl f)
    unfold setS
    rw [if_neg z]; exact h
theorem r_prim {Q : Int32 → Hp → Prop} {m : Nat} (w : wfC D) (ws : wfS D S) (cu : cur f o0 D) (h : rM f S) (hm : m < 7) (kk : Q (iN (prim D S m)) f) : CI L xs xm_Mo_primaryOf [.ref 400, .int (iN m)] f Q := by
  have hF := w.1
  obtain ⟨⟨v, hv, ev⟩, -⟩ := ws.1 m hm
  refine t_Mo_primaryOf_0 ⟨m, rfl, hm, ?_⟩
  rw [cu.2.2.1, show f 406 m = iN v from (h.s (j := 0) hm (by omega)).trans ev, jrem_iN (by omega) (by omega)]
  unfold prim at kk
  rw [ev, nb_iN (by omega)] at kk
  exact ⟨fun z => absurd ((iN_inj (b := 0) (by omega) (by omega)).mp z) (by omega), kk⟩
theorem r_accepts {Q : Hp → Prop} {m s : Nat} {o : Int32} (w : wfC D) (ws : wfS D S) (cu : cur f o0 D) (h : rM f S) (hm : m < 7) (hs : 1 ≤ s ∧ s ≤ 12) (ok : ¬ S 1 m 0 = 0 ∧ hon D m = true) (ho : ordI D o) (kk : ∀ g, rM g (accS D S m s o) → FrM f g → FrK f g → Q g) : CV L xs xm_Mo_accepts [.ref 400, .int (iN m), .int (iN s), .int o] f Q := by
  have hF := w.1
  have hp : prim D S m < 7 := Nat.lt_of_lt_of_le (Nat.mod_lt _ (by omega)) (by omega)
  obtain ⟨c1, c2, c3, c4, c5, c6⟩ := ws.2.1 m s hm hs.1 hs.2
  have no : ¬ o = -1 := fun y => by
    rcases ho with z | ⟨k, hk, z⟩
    · rw [z] at y; exact absurd y (by decide)
    · rw [z] at y; exact iN_ne1 (by have := w.2.2.2.2.1; omega) y
  refine t_Mo_accepts_0 (r_at ⟨13 * m + s, rfl, by omega, fun g2 e2 => ?_⟩)
  have h2 : rM g2 (su S 8 m s o) := by rw [e2]; exact h.ar (j := 0) hm (by omega) hs
  have k2 : FrK f g2 := by rw [e2]; exact (FrK.refl f).put (by omega)
  have cu2 := cu.k k2
  refine r_at ?_
  have ws2 : S 0 m 0 = su S 8 m s o 0 m 0 := (su_j (by omega)).symm
  refine t_Mo_primaryOf_0 ⟨m, rfl, hm, ?_⟩
  obtain ⟨⟨v, hv, ev⟩, -⟩ := ws.1 m hm
  rw [cu2.2.2.1, show g2 406 m = iN v from (h2.s (j := 0) hm (by omega)).trans (ws2.symm.trans ev), jrem_iN (by omega) (by omega)]
  refine ⟨fun z => absurd ((iN_inj (b := 0) (by omega) (by omega)).mp z) (by omega), 13 * m + s, rfl, by omega, fun g5 e5 => r_at ⟨13 * m + s, rfl, by omega, fun g7 e7 => ?_⟩⟩
  have ep : prim D S m = v % (3 * dF D + 1) := by unfold prim; rw [ev, nb_iN (by omega)]
  rw [← ep, shl1 (by omega), ← Nat.one_shiftLeft, or1 _ _ (by omega)] at e5
  have h7 : rM g7 (su (su (su S 8 m s o) 9 m s (iN ((1 <<< m) ||| (1 <<< prim D S m)))) 10 m s 0) := by
    rw [e7, e5]; exact (h2.ar (j := 1) hm (by omega) hs).ar (j := 2) hm (by omega) hs
  have k7 : FrK f g7 := by rw [e7, e5]; exact (k2.put (by omega)).put (by omega)
  have m7 : FrM f g7 := by rw [e7, e5, e2]; exact (((FrM.refl f).put (by omega)).put (by omega)).put (by omega)
  refine r_settles w ?_ (cu.k k7) h7 hm hs fun g8 h8 m8 k8 => kk g8 h8 (m7.trans m8) (k7.trans k8)
  refine ws.pl hm hs (fun j m' k z => by rw [su_off z (by omega), su_off z (by omega), su_off z (by omega)]) ?_ (Or.inr ok)
  simp only [su_at]
  simp only [show ¬ (8 : Nat) = 10 by decide, show ¬ (8 : Nat) = 9 by decide, show ¬ (9 : Nat) = 10 by decide, show ¬ (11 : Nat) = 10 by decide, show ¬ (11 : Nat) = 9 by decide, show ¬ (11 : Nat) = 8 by decide, show ¬ (12 : Nat) = 10 by decide, show ¬ (12 : Nat) = 9 by decide, show ¬ (12 : Nat) = 8 by decide, show ¬ (13 : Nat) = 10 by decide, show ¬ (13 : Nat) = 9 by decide, show ¬ (13 : Nat) = 8 by decide, false_and, if_false, true_and, and_self, if_true]
  exact ⟨Or.inr ho, ⟨_, bit_or (one7 hm) hp, rfl⟩, ⟨0, by omega, rfl⟩, fun y => absurd y no, c5, c6⟩
theorem r_within {Q : Int32 → Hp → Prop} {m s l : Nat} (w : wfC D) (cu : cur f o0 D) (h : rM f S) (hm : m < 7) (hs : s ≤ 12) (hl : S 2 m 0 = iN l) (hl2 : l ≤ 12) (h1 : l < s ∧ s ≤ l + dW D → Q 1 f) (h0 : ¬ (l < s ∧ s ≤ l + dW D) → Q 0 f) : CI L xs xm_Mo_isWithin [.ref 400, .int (iN m), .int (iN s)] f Q := by
  have w2 := w.2.1
  refine t_Mo_isWithin_0 ⟨m, rfl, hm, ?_⟩
  rw [show f 408 m = iN l from (h.s (j := 2) hm (by omega)).trans hl, cu.2.2.2.2.1, iN_add, iN_lt (by omega) (by omega), iN_lt (by omega) (by omega)]
  exact ⟨fun p => ⟨fun p2 => h0 (by omega), fun p2 => h1 (by omega)⟩, fun p => h0 (by omega)⟩
theorem r_proposes {Q : Int32 → Hp → Prop} {m s o : Nat} (w : wfC D) (ws : wfS D S) (cu : cur f o0 D) (h : rM f S) (hm : m < 3 * dF D + 1) (hs : 1 ≤ s ∧ s ≤ 12) (ho : o ≤ 9) (h1 : proOk D S m s o → ∀ g, rM g (accS D S m s (iN o)) → FrM f g → FrK f g → Q 1 g) (h0 : ¬ proOk D S m s o → Q 0 f) : CI L xs xm_Mo_proposes [.ref 400, .int (iN m), .int (iN s), .int (iN o)] f Q := by
  have hF := w.1
  have w5 := w.2.2.2.2.1
  have hm7 : m < 7 := by omega
  obtain ⟨⟨v, hv, ev⟩, -, ⟨l, hl, el⟩, -⟩ := ws.1 m hm7
  have nl : nb (S 2 m 0) = l := by rw [el, nb_iN (by omega)]
  have hp : prim D S m < 3 * dF D + 1 := Nat.mod_lt _ (by omega)
  refine t_Mo_proposes_0 (r_liar w cu hm (fun hh => br0 ⟨m, rfl, hm7, ?_⟩) fun hh => br1 (h0 fun z => absurd z.1 (hf hh)))
  rw [show f 407 m = S 1 m 0 from h.s (j := 1) hm7 (by omega)]
  refine ⟨fun p => h0 fun z => z.2.1 p, fun p => ?_⟩
  rw [cu.2.2.2.2.2.2.2, iN_lt (by omega) (by omega)]
  refine ⟨fun p2 => r_within w cu h hm7 hs.2 el hl (fun p3 => br1 (r_at ⟨13 * m + s, rfl, by omega, ?_⟩)) fun p3 => br0 (h0 fun z => p3 (by have := z.2.2.2.1; rw [nl] at this; exact this)), fun p2 => h0 fun z => p2 z.2.2.1⟩
  rw [show f 414 (13 * m + s) = S 8 m s from h.a (j := 0) hm7 (by omega) hs.1 hs.2]
  refine ⟨fun z => r_prim w ws cu h hm7 ?_, fun z => h0 fun y => z y.2.2.2.2.1⟩
  have fin : (prim D S m = m ∨ hon D (prim D S m) = false ∨ (¬ S 1 (prim D S m) 0 = 0 ∧ S 0 (prim D S m) 0 = S 0 m 0 ∧ S 8 (prim D S m) s = iN o)) → CV L xs xm_Mo_accepts [.ref 400, .int (iN m), .int (iN s), .int (iN o)] f (fun g => Q 1 g) := fun y => r_accepts w ws cu h hm7 hs ⟨p, hh⟩ (Or.inr ⟨o, p2, rfl⟩) fun g a b c => h1 ⟨hh, p, p2, by rw [nl]; exact p3, z, y⟩ g a b c
  refine ⟨fun y => fin (Or.inl ((iN_inj (by omega) (by omega)).mp y)), fun y => r_liar w cu hp (fun hq => br0 ⟨prim D S m, rfl, by omega, ?_⟩) fun hq => br1 (fin (Or.inr (Or.inl hq)))⟩
  have y : ¬ prim D S m = m := fun z => y (by rw [z])
  have np : ∀ {u : Prop}, ¬ (¬ S 1 (prim D S m) 0 = 0 ∧ S 0 (prim D S m) 0 = S 0 m 0 ∧ S 8 (prim D S m) s = iN o) → Q 0 f := fun u => h0 fun x => by
    rcases x.2.2.2.2.2 with x | x | x
    · exact y x
    · exact hf x hq
    · exact u x
  rw [show f 407 (prim D S m) = S 1 (prim D S m) 0 from h.s (j := 1) (by omega) (by omega), show f 406 (prim D S m) = S 0 (prim D S m) 0 from h.s (j := 0) (by omega) (by omega), show f 406 m = S 0 m 0 from h.s (j := 0) hm7 (by omega)]
  refine ⟨fun u => np (u := True) fun x => x.1 u, fun u => ⟨fun u2 => r_at ⟨13 * prim D S m + s, rfl, by omega, ?_⟩, fun u2 => np (u := True) fun x => u2 x.2.1⟩⟩
  rw [show f 414 (13 * prim D S m + s) = S 8 (prim D S m) s from h.a (j := 0) (by omega) (by omega) hs.1 hs.2]
  exact ⟨fun u3 => fin (Or.inr (Or.inr ⟨u, u2, u3⟩)), fun u3 => np (u := True) fun x => u3 x.2.2⟩
/-- whether a word can come; t: 9 prepares, 10 commits -/
theorem r_isWord {Q : Int32 → Hp → Prop} {a b s j : Nat} {c : Int32} (w : wfC D) (ws : wfS D S) (cu : cur f o0 D) (h : rM f S) (ha : a < 3 * dF D + 1) (hb : b < 3 * dF D + 1) (hs : 1 ≤ s ∧ s ≤ 12) (hbh : hon D b = true) (hc : (c = 0 ∧ j = 1) ∨ (c = 1 ∧ j = 2)) (h1 : (¬ S 1 b 0 = 0 ∧ ¬ S 8 b s = -1 ∧ (nb (S (8 + j) b s)).testBit a = false ∧ (hon D a = false ∨ (shr S a b s ∧ (c = 1 → isPrep D S a s)))) → Q 1 f) (h0 : ¬ (¬ S 1 b 0 = 0 ∧ ¬ S 8 b s = -1 ∧ (nb (S (8 + j) b s)).testBit a = false ∧ (hon D a = false ∨ (shr S a b s ∧ (c = 1 → isPrep D S a s)))) → Q 0 f) : CI L xs xm_Mo_isWord [.ref 400, .int (iN a), .int (iN b), .int (iN s), .int c] f Q := by
  have hF := w.1
  have ha7 : a < 7 := by omega
  have hb7 : b < 7 := by omega
  obtain ⟨-, ⟨p, hp, ep⟩, ⟨d, hd, ed⟩, -⟩ := ws.2.1 b s hb7 hs.1 hs.2
  have ex : ∃ x, x < 128 ∧ S (8 + j) b s = iN x := by
    rcases hc with ⟨-, rfl⟩ | ⟨-, rfl⟩
    · exact ⟨p, hp, ep⟩
    · exact ⟨d, hd, ed⟩
  obtain ⟨x, hx, exx⟩ := ex
  have nx : nb (S (8 + j) b s) = x := by rw [exx, nb_iN (by omega)]
  rw [nx] at h1 h0
  refine t_Mo_isWord_0 (r_liar w cu hb (fun _ => br0 ⟨b, rfl, hb7, ?_⟩) fun z => absurd hbh (hf z))
  rw [show f 407 b = S 1 b 0 from h.s (j := 1) hb7 (by omega)]
  refine ⟨fun q => h0 fun z => z.1 q, fun q1 => r_at ⟨13 * b + s, rfl, by omega, ?_⟩⟩
  rw [show f 414 (13 * b + s) = S 8 b s from h.a (j := 0) hb7 (by omega) hs.1 hs.2]
  refine ⟨fun q => h0 fun z => z.2.1 q, fun q2 => ?_⟩
  have main : ∀ t, xS0 L t = (20, 91) → f t (13 * b + s) = iN x → Wp L xs xm_Mo_isWord 49 [.ref 400, .int (iN a), .int (iN b), .int (iN s), .int c] [.ref t] f (QI Q) := by
    intro t kt et
    refine t_Mo_isWord_49 kt (r_at ⟨13 * b + s, rfl, by omega, ?_⟩)
    rw [et, bit1 (by omega) (by omega)]
    cases hbit : x.testBit a with
    | true => exact brT (by decide) (h0 fun z => absurd z.2.2.1 (by rw [hbit]; decide))
    | false =>
      refine brF (by decide) (r_liar w cu ha (fun hh => br0 ⟨a, rfl, ha7, ?_⟩) fun hh => br1 (h1 ⟨q1, q2, hbit, Or.inl hh⟩))
      have np : ∀ {u : Prop}, ¬ (shr S a b s ∧ (c = 1 → isPrep D S a s)) → Q 0 f := fun u => h0 fun z => z.2.2.2.elim (fun y => hf y hh) u
      rw [show f 407 a = S 1 a 0 from h.s (j := 1) ha7 (by omega)]
      refine ⟨fun u => np (u := True) fun z => z.1.1 u, fun u1 => ⟨b, rfl, hb7, ?_⟩⟩
      rw [show f 406 a = S 0 a 0 from h.s (j := 0) ha7 (by omega), show f 406 b = S 0 b 0 from h.s (j := 0) hb7 (by omega)]
      refine ⟨fun u2 => r_at ⟨13 * a + s, rfl, by omega, r_at ⟨13 * b + s, rfl, by omega, ?_⟩⟩, fun u => np (u := True) fun z => u z.1.2.1⟩
      rw [show f 414 (13 * a + s) = S 8 a s from h.a (j := 0) ha7 (by omega) hs.1 hs.2, show f 414 (13 * b + s) = S 8 b s from h.a (j := 0) hb7 (by omega) hs.1 hs.2]
      refine ⟨fun u3 => ?_, fun u => np (u := True) fun z => u z.1.2.2⟩
      rcases hc with ⟨rfl, -⟩ | ⟨rfl, -⟩
      · exact br0 (h1 ⟨q1, q2, hbit, Or.inr ⟨⟨u1, u2, u3⟩, fun z => absurd z (by decide)⟩⟩)
      · exact br1 (r_isPrep w ws cu h ha7 hs (fun u4 => br1 (h1 ⟨q1, q2, hbit, Or.inr ⟨⟨u1, u2, u3⟩, fun _ => u4⟩⟩)) fun u4 => br0 (np (u := True) fun z => u4 (z.2 rfl)))
  rcases hc with ⟨rfl, rfl⟩ | ⟨rfl, rfl⟩
  · exact br0 (main 415 rfl ((h.a (j := 1) hb7 (by omega) hs.1 hs.2).trans exx))
  · exact br1 (main 416 rfl ((h.a (j := 2) hb7 (by omega) hs.1 hs.2).trans exx))
theorem wfS.prp {a b s : Nat} (ws : wfS D S) (ha : a < 7) (hb : b < 7) (hs : 1 ≤ s ∧ s ≤ 12) (ok : ¬ S 1 b 0 = 0 ∧ hon D b = true) (nz : ¬ S 8 b s = -1) : wfS D (su S 9 b s (iN (nb (S 9 b s) ||| (1 <<< a)))) := by
  obtain ⟨c1, ⟨p, hp, ep⟩, c3, c4, c5, c6⟩ := ws.2.1 b s hb hs.1 hs.2
  refine ws.pl hb hs (fun j m' k z => su_off z (by omega)) ?_ (Or.inr ok)
  rw [su_j (show ¬ 8 = 9 by omega), su_eq, su_j (show ¬ 10 = 9 by omega), su_j (show ¬ 11 = 9 by omega), su_j (show ¬ 12 = 9 by omega), su_j (show ¬ 13 = 9 by omega)]
  exact ⟨c1, ⟨_, bit_or (by rw [ep, nb_iN (by omega)]; exact hp) ha, rfl⟩, c3, fun y => absurd y nz, c5, c6⟩
theorem wfS.cmt {a b s : Nat} (ws : wfS D S) (ha : a < 7) (hb : b < 7) (hs : 1 ≤ s ∧ s ≤ 12) (ok : ¬ S 1 b 0 = 0 ∧ hon D b = true) (nz : ¬ S 8 b s = -1) : wfS D (cmtS S a b s) := by
  obtain ⟨c1, c2, ⟨p, hp, ep⟩, c4, c5, c6⟩ := ws.2.1 b s hb hs.1 hs.2
  unfold cmtS
  refine ws.pl hb hs (fun j m' k z => su_off z (by omega)) ?_ (Or.inr ok)
  rw [su_j (show ¬ 8 = 10 by omega), su_eq, su_j (show ¬ 9 = 10 by omega), su_j (show ¬ 11 = 10 by omega), su_j (show ¬ 12 = 10 by omega), su_j (show ¬ 13 = 10 by omega)]
  exact ⟨c1, c2, ⟨_, bit_or (by rw [ep, nb_iN (by omega)]; exact hp) ha, rfl⟩, fun y => absurd y nz, c5, c6⟩
theorem r_prepares {Q : Int32 → Hp → Prop} {a b s : Nat} (w : wfC D) (ws : wfS D S) (cu : cur f o0 D) (h : rM f S) (ha : a < 3 * dF D + 1) (hb : b < 3 * dF D + 1) (hs : 1 ≤ s ∧ s ≤ 12) (hbh : hon D b = true) (h1 : prpOk D S a b s → ∀ g, rM g (prpS D S a b s) → FrM f g → FrK f g → Q 1 g) (h0 : ¬ prpOk D S a b s → Q 0 f) : CI L xs xm_Mo_words [.ref 400, .int (iN a), .int (iN b), .int (iN s), .int 0] f Q := by
  have hF := w.1
  have hb7 : b < 7 := by omega
  obtain ⟨-, ⟨p, hp, ep⟩, -⟩ := ws.2.1 b s hb7 hs.1 hs.2
  refine t_Mo_words_0 (r_isWord (j := 1) w ws cu h ha hb hs hbh (Or.inl ⟨rfl, rfl⟩) (fun z => br1 (br0 (r_at ⟨13 * b + s, rfl, by omega, fun g3 e3 => ?_⟩))) fun z => br0 (h0 fun y => z ⟨y.1, y.2.1, y.2.2.1, y.2.2.2.imp id fun u => ⟨u, fun v => absurd v (by decide)⟩⟩))
  rw [show f 415 (13 * b + s) = iN p from (h.a (j := 1) hb7 (by omega) hs.1 hs.2).trans ep, or1 _ _ (by omega)] at e3
  have np : nb (S 9 b s) = p := by rw [ep, nb_iN (by omega)]
  have h3 : rM g3 (su S 9 b s (iN (nb (S 9 b s) ||| (1 <<< a)))) := by rw [np, e3]; exact h.ar (j := 1) hb7 (by omega) hs
  have k3 : FrK f g3 := by rw [e3]; exact (FrK.refl f).put (by omega)
  have m3 : FrM f g3 := by rw [e3]; exact (FrM.refl f).put (by omega)
  exact t_Mo_words_54 (br0 (r_settles w (ws.prp (by omega) hb7 hs ⟨z.1, hbh⟩ z.2.1) (cu.k k3) h3 hb7 hs fun g4 h4 m4 k4 => h1 ⟨z.1, z.2.1, z.2.2.1, z.2.2.2.imp id fun u => u.1⟩ g4 h4 (m3.trans m4) (k3.trans k4)))
theorem r_commits {Q : Int32 → Hp → Prop} {a b s : Nat} (w : wfC D) (ws : wfS D S) (cu : cur f o0 D) (h : rM f S) (ha : a < 3 * dF D + 1) (hb : b < 3 * dF D + 1) (hs : 1 ≤ s ∧ s ≤ 12) (hbh : hon D b = true) (h1 : cmtOk D S a b s → ∀ g, rM g (cmtS S a b s) → FrM f g → FrK f g → Q 1 g) (h0 : ¬ cmtOk D S a b s → Q 0 f) : CI L xs xm_Mo_words [.ref 400, .int (iN a), .int (iN b), .int (iN s), .int 1] f Q := by
  have hF := w.1
  have hb7 : b < 7 := by omega
  obtain ⟨-, -, ⟨p, hp, ep⟩, -⟩ := ws.2.1 b s hb7 hs.1 hs.2
  refine t_Mo_words_0 (r_isWord (j := 2) w ws cu h ha hb hs hbh (Or.inr ⟨rfl, rfl⟩) (fun z => br1 (br1 (r_at ⟨13 * b + s, rfl, by omega, fun g3 e3 => ?_⟩))) fun z => br0 (h0 fun y => z ⟨y.1, y.2.1, y.2.2.1, y.2.2.2.imp id fun u => ⟨u.1, fun _ => u.2⟩⟩))
  rw [show f 416 (13 * b + s) = iN p from (h.a (j := 2) hb7 (by omega) hs.1 hs.2).trans ep, or1 _ _ (by omega)] at e3
  have np : nb (S 10 b s) = p := by rw [ep, nb_iN (by omega)]
  have h3 : rM g3 (cmtS S a b s) := by unfold cmtS; rw [np, e3]; exact h.ar (j := 2) hb7 (by omega) hs
  exact t_Mo_words_54 (br1 (h1 ⟨z.1, z.2.1, z.2.2.1, z.2.2.2.imp id fun u => ⟨u.1, u.2 rfl⟩⟩ g3 h3 (by rw [e3]; exact (FrM.refl f).put (by omega)) (by rw [e3]; exact (FrK.refl f).put (by omega))))
end WORDS2
