/-! propose, prepare, commit -/
def nb (x : Int32) : Nat := x.toNatClampNeg
theorem nb_iN {n : Nat} (h : n < 2147483648) : nb (iN n) = n := iN_nc h
def prim (D : CD) (S : ST) (m : Nat) : Nat := nb (S 0 m 0) % (3 * dF D + 1)
abbrev isPrep (D : CD) (S : ST) (m s : Nat) : Prop := ¬ S 8 m s = -1 ∧ 2 * dF D + 1 ≤ bcn (nb (S 9 m s))
abbrev isCmt (D : CD) (S : ST) (m s : Nat) : Prop := isPrep D S m s ∧ 2 * dF D + 1 ≤ bcn (nb (S 10 m s))
def setS (D : CD) (S : ST) (m s : Nat) : ST := if isPrep D S m s then su (su (su S 11 m s (S 0 m 0)) 12 m s (S 8 m s)) 10 m s (iN (nb (S 10 m s) ||| (1 <<< m))) else S
def accS (D : CD) (S : ST) (m s : Nat) (o : Int32) : ST := setS D (su (su (su S 8 m s o) 9 m s (iN ((1 <<< m) ||| (1 <<< prim D S m)))) 10 m s 0) m s
theorem su_off {S : ST} {j m s j' m' k' : Nat} {v : Int32} (h : ¬ (8 ≤ j' ∧ j' ≤ 13 ∧ m' = m ∧ k' = s)) (hj : 8 ≤ j ∧ j ≤ 13) : su S j m s v j' m' k' = S j' m' k' := if_neg (by rintro ⟨rfl, rfl, rfl⟩; exact h ⟨hj.1, hj.2, rfl, rfl⟩)
theorem su_ow {S : ST} {m s : Nat} {v : Int32} : su (su (su S 9 m s 0) 10 m s 0) 9 m s v = su (su S 9 m s v) 10 m s 0 := by
  funext j m' k
  simp only [su_at]
  by_cases h9 : j = 9
  · subst h9
    by_cases h : m' = m ∧ k = s
    · simp [h]
    · rw [if_neg (fun z => h z.2), if_neg (fun z => absurd z.1 (by decide)), if_neg (fun z => h z.2), if_neg (fun z => absurd z.1 (by decide)), if_neg (fun z => h z.2)]
  · rw [if_neg (fun z => h9 z.1)]
    by_cases h10 : j = 10 ∧ m' = m ∧ k = s
    · rw [if_pos h10, if_pos h10]
    · rw [if_neg h10, if_neg h10, if_neg (fun z => h9 z.1), if_neg (fun z => h9 z.1)]
theorem setS_off {D : CD} {S : ST} {m s j m' k : Nat} (h : ¬ (8 ≤ j ∧ j ≤ 13 ∧ m' = m ∧ k = s)) : setS D S m s j m' k = S j m' k := by
  unfold setS
  split
  · rw [su_off h (by omega), su_off h (by omega), su_off h (by omega)]
  · rfl
theorem accS_off {D : CD} {S : ST} {m s j m' k : Nat} {o : Int32} (h : ¬ (8 ≤ j ∧ j ≤ 13 ∧ m' = m ∧ k = s)) : accS D S m s o j m' k = S j m' k := by
  unfold accS
  rw [setS_off h, su_off h (by omega), su_off h (by omega), su_off h (by omega)]
/-- what is told of one place anew -/
theorem wfS.pl {D : CD} {S T : ST} {m s : Nat} (h : wfS D S) (hm : m < 7) (hs : 1 ≤ s ∧ s ≤ 12) (e : ∀ j m' k, ¬ (8 ≤ j ∧ j ≤ 13 ∧ m' = m ∧ k = s) → T j m' k = S j m' k) (n : (T 8 m s = -1 ∨ ordI D (T 8 m s)) ∧ (∃ b, b < 128 ∧ T 9 m s = iN b) ∧ (∃ b, b < 128 ∧ T 10 m s = iN b) ∧ (T 8 m s = -1 → T 9 m s = 0 ∧ T 10 m s = 0) ∧ (T 11 m s = -1 ∨ ((∃ v, v ≤ 9 ∧ T 11 m s = iN v) ∧ ordI D (T 12 m s))) ∧ (T 13 m s = -1 ∨ ordI D (T 13 m s))) (ok : T 8 m s = -1 ∨ (¬ S 1 m 0 = 0 ∧ hon D m = true)) : wfS D T := by
  obtain ⟨h1, h2, h3, h4, h5, h6, h7, h8⟩ := h
  have lo : ∀ j m' k, j < 8 → T j m' k = S j m' k := fun j m' k hj => e j m' k (by omega)
  have hi : ∀ j m' k, 13 < j → T j m' k = S j m' k := fun j m' k hj => e j m' k (by omega)
  refine ⟨fun m' hm' => ?_, fun m' s' hm' a b => ?_, fun m' b hm' hb => ?_, fun m' hm' z => ?_, fun m' hm' z s' a b => ?_, fun m' a hm' ha z1 z2 => ?_, by rw [hi _ _ _ (by omega)]; exact h7, fun v hv => ?_⟩
  · rw [lo _ _ _ (by omega), lo _ _ _ (by omega), lo _ _ _ (by omega), lo _ _ _ (by omega), lo _ _ _ (by omega)]
    exact h1 m' hm'
  · by_cases z : m' = m ∧ s' = s
    · obtain ⟨rfl, rfl⟩ := z; exact n
    · rw [e 8 _ _ (by omega), e 9 _ _ (by omega), e 10 _ _ (by omega), e 11 _ _ (by omega), e 12 _ _ (by omega), e 13 _ _ (by omega)]
      exact h2 m' s' hm' a b
  · rw [hi _ _ _ (by omega)]; exact h3 m' b hm' hb
  · rw [lo _ _ _ (by omega)] at z
    obtain ⟨c1, c2⟩ := h4 m' hm' z
    refine ⟨by rw [lo _ _ _ (by omega)]; exact c1, fun s' a b => ?_⟩
    by_cases y : m' = m ∧ s' = s
    · obtain ⟨rfl, rfl⟩ := y
      exact ok.resolve_right fun u => u.1 z
    · rw [e 8 _ _ (by omega)]; exact c2 s' a b
  · by_cases y : m' = m ∧ s' = s
    · obtain ⟨rfl, rfl⟩ := y
      exact ok.resolve_right fun u => by rw [u.2] at z; cases z
    · rw [e 8 _ _ (by omega)]; exact h5 m' hm' z s' a b
  · rw [hi _ _ _ (by omega)] at z1
    rw [lo _ _ _ (by omega), hi _ _ _ (by omega)] at z2
    have : cntW (fun b => T 14 m' b = T 14 m' a ∧ T 15 m' b = T 15 m' a) (3 * dF D + 1) = cntW (fun b => S 14 m' b = S 14 m' a ∧ S 15 m' b = S 15 m' a) (3 * dF D + 1) := cntW_congr _ fun b _ => by rw [hi _ _ _ (by omega), hi _ _ _ (by omega), hi _ _ _ (by omega), hi _ _ _ (by omega)]
    rw [this]
    exact h6 m' a hm' ha z1 z2
  · have := h8 v hv
    rw [hi _ _ _ (by omega), hi _ _ _ (by omega), hi _ _ _ (by omega)]
    refine ⟨this.1, fun z => ⟨(this.2 z).1, (this.2 z).2.1, fun s' a b c d => ?_⟩⟩
    rw [hi _ _ _ (by omega)]
    exact (this.2 z).2.2 s' a b c d
theorem bit_or {a m : Nat} (ha : a < 128) (hm : m < 7) : a ||| (1 <<< m) < 128 := by
  have : 1 <<< m < 128 := by
    rw [Nat.one_shiftLeft]
    exact Nat.lt_of_le_of_lt (Nat.pow_le_pow_right (by omega) (show m ≤ 6 by omega)) (by decide)
  exact Nat.or_lt_two_pow (n := 7) ha this
theorem wfS.set {D : CD} {S : ST} {m s : Nat} (h : wfS D S) (hm : m < 7) (hs : 1 ≤ s ∧ s ≤ 12) (ok : ¬ S 1 m 0 = 0 ∧ hon D m = true) : wfS D (setS D S m s) := by
  obtain ⟨c1, c2, c3, c4, c5, c6⟩ := h.2.1 m s hm hs.1 hs.2
  have hv := (h.1 m hm).1
  refine h.pl hm hs (fun j m' k z => setS_off z) ?_ (Or.inr ok)
  unfold setS
  by_cases z : isPrep D S m s
  · rw [if_pos z]
    simp only [su_at]
    simp only [show ¬ (8 : Nat) = 10 by decide, show ¬ (8 : Nat) = 12 by decide, show ¬ (8 : Nat) = 11 by decide, show ¬ (9 : Nat) = 10 by decide, show ¬ (9 : Nat) = 12 by decide, show ¬ (9 : Nat) = 11 by decide, show ¬ (11 : Nat) = 10 by decide, show ¬ (11 : Nat) = 12 by decide, show ¬ (12 : Nat) = 10 by decide, show ¬ (13 : Nat) = 10 by decide, show ¬ (13 : Nat) = 12 by decide, show ¬ (13 : Nat) = 11 by decide, false_and, if_false, true_and, and_self, if_true]
    obtain ⟨b, hb, eb⟩ := c3
    refine ⟨c1, c2, ⟨_, bit_or (by rw [eb, nb_iN (by omega)]; exact hb) hm, rfl⟩, fun y => absurd y z.1, Or.inr ⟨hv, c1.resolve_left z.1⟩, c6⟩
  · rw [if_neg z]
    exact ⟨c1, c2, c3, c4, c5, c6⟩
theorem wfS.acc {D : CD} {S : ST} {m s : Nat} {o : Int32} (w : wfC D) (h : wfS D S) (hm : m < 7) (hs : 1 ≤ s ∧ s ≤ 12) (ok : ¬ S 1 m 0 = 0 ∧ hon D m = true) (ho : ordI D o) : wfS D (accS D S m s o) := by
  have hF := w.1
  obtain ⟨c1, c2, c3, c4, c5, c6⟩ := h.2.1 m s hm hs.1 hs.2
  unfold accS
  refine wfS.set ?_ hm hs ?_
  · refine h.pl hm hs (fun j m' k z => by rw [su_off z (by omega), su_off z (by omega), su_off z (by omega)]) ?_ (Or.inr ok)
    simp only [su_at]
    simp only [show ¬ (8 : Nat) = 10 by decide, show ¬ (8 : Nat) = 9 by decide, show ¬ (9 : Nat) = 10 by decide, show ¬ (11 : Nat) = 10 by decide, show ¬ (11 : Nat) = 9 by decide, show ¬ (11 : Nat) = 8 by decide, show ¬ (12 : Nat) = 10 by decide, show ¬ (12 : Nat) = 9 by decide, show ¬ (12 : Nat) = 8 by decide, show ¬ (13 : Nat) = 10 by decide, show ¬ (13 : Nat) = 9 by decide, show ¬ (13 : Nat) = 8 by decide, false_and, if_false, true_and, and_self, if_true]
    have hp : prim D S m < 7 := Nat.lt_of_lt_of_le (Nat.mod_lt _ (by omega)) (by omega)
    refine ⟨Or.inr ho, ⟨_, bit_or (a := 1 <<< m) ?_ hp, rfl⟩, ⟨0, by omega, rfl⟩, fun y => ?_, c5, c6⟩
    · have := bit_or (a := 0) (by omega) hm
      rwa [Nat.zero_or] at this
    · exfalso
      rcases ho with z | ⟨k, hk, z⟩
      · rw [z] at y; exact absurd y (by decide)
      · rw [z] at y; exact iN_ne1 (by have := w.2.2.2.2.1; omega) y
  · rw [su_j (by omega), su_j (by omega), su_j (by omega)]; exact ok
section WORDS
variable {L : Nat} {xs : Nat → Int32} {f g : Hp} {D : CD} {S S' : ST} {o0 : Nat}
theorem FrA.put {m j k : Nat} {v : Int32} {h : Hp} (a : FrA f h) (hm : m < 7) (hj : j < 11) : FrA f (xu h (93 + 11 * m + j) k v) := fun x hx => by rw [xu_a (by omega)]; exact a x hx
theorem FrA.put0 {m k : Nat} {v : Int32} {h : Hp} (a : FrA f h) (hm : m < 7) : FrA f (xu h (93 + 11 * m) k v) := fun x hx => by rw [xu_a (by omega)]; exact a x hx
theorem c_accept {Q : Hp → Prop} {m s : Nat} {o : Int32} (h : cA f D S) (hm : m < 7) (hs : 1 ≤ s ∧ s ≤ 12) (kk : ∀ g, cA g D (su (su (su S 8 m s o) 9 m s 0) 10 m s 0) → FrA f g → Q g) : CV L xs xm_Me_accept [.ref (93 + 11 * m), .int (iN s), .int o] f Q := by
  refine t_Me_accept_0 (k_mem hm) (c_isP hs (br1 ⟨s, rfl, by omega, fun g2 e2 g3 e3 g4 e4 => ?_⟩))
  subst e2 e3 e4
  exact kk _ (((h.ar (j := 0) hm (by omega)).ar (j := 1) hm (by omega)).ar (j := 2) hm (by omega)) ((((FrA.refl f).put (j := 3) hm (by omega)).put (j := 4) hm (by omega)).put (j := 5) hm (by omega))
theorem c_addPrep {Q : Hp → Prop} {m s p b : Nat} (w : wfC D) (h : cA f D S) (hm : m < 7) (hs : 1 ≤ s ∧ s ≤ 12) (ha : ¬ S 8 m s = -1) (hp : S 9 m s = iN p) (hp2 : p < 128) (hb : b < 128) {c : Nat} (hc : S 10 m s = iN c) (hc2 : c < 128) (kk : ∀ g, cA g D (setS D (su S 9 m s (iN (p ||| b))) m s) → FrA f g → Q g) : CV L xs xm_Me_addPrepares [.ref (93 + 11 * m), .int (iN s), .int (iN b), .int (iN m)] f Q := by
  have hF := w.1
  have hpb : p ||| b < 128 := Nat.or_lt_two_pow (n := 7) hp2 hb
  have hbc := bcn_le (p ||| b)
  refine t_Me_addPrepares_0 (k_mem hm) (c_hasAcc h hm (k_mem hm) hs (fun _ => br1 ⟨s, rfl, by omega, fun g2 e2 => ?_⟩) fun z => absurd z ha)
  rw [h.a (j := 1) hm (by omega) hs.1 hs.2, hp, iN_or] at e2
  subst e2
  have h2 := h.ar (j := 1) (s := s) (v := iN (p ||| b)) hm (by omega)
  have f2 := (FrA.refl f).put (j := 4) (k := s) (v := iN (p ||| b)) hm (by omega)
  rw [xu_eq]
  refine c_bitCount hpb ?_
  rw [(h2.2.2.2.1 m hm).2.1, iN_lt (by omega) (by omega)]
  have e9 : su S (8 + 1) m s (iN (p ||| b)) 9 m s = iN (p ||| b) := su_eq
  have e8 : su S (8 + 1) m s (iN (p ||| b)) 8 m s = S 8 m s := su_j (by omega)
  have e10 : su S (8 + 1) m s (iN (p ||| b)) 10 m s = S 10 m s := su_j (by omega)
  have e0 : su S (8 + 1) m s (iN (p ||| b)) 0 m 0 = S 0 m 0 := su_j (by omega)
  refine ⟨fun q => kk _ ?_ f2, fun q g4 x4 g5 x5 g6 x6 => ?_⟩
  · unfold setS
    rw [if_neg]
    · exact h2
    · rintro ⟨-, z⟩
      rw [show su S 9 m s (iN (p ||| b)) 9 m s = iN (p ||| b) from su_eq, nb_iN (by omega)] at z
      omega
  · have q1 : xu f (93 + 11 * m + 4) s (iN (p ||| b)) (93 + 11 * m) 0 = S 0 m 0 := by rw [xu_a (by omega)]; exact h.s hm (by omega)
    rw [q1] at x4
    have q2 : g4 (93 + 11 * m + 3) s = S 8 m s := by rw [x4, xu_a (by omega), xu_a (by omega)]; exact h.a (j := 0) hm (by omega) hs.1 hs.2
    rw [q2] at x5
    have q3 : g5 (93 + 11 * m + 5) s = iN c := by rw [x5, xu_a (by omega), x4, xu_a (by omega), xu_a (by omega), h.a (j := 2) hm (by omega) hs.1 hs.2]; exact hc
    rw [q3, or1 _ _ (by omega)] at x6
    subst x4 x5 x6
    refine kk _ ?_ (((f2.put (j := 6) hm (by omega)).put (j := 7) hm (by omega)).put (j := 5) hm (by omega))
    unfold setS
    rw [if_pos]
    · have e10' : su S 9 m s (iN (p ||| b)) 10 m s = iN c := by rw [su_j (by omega)]; exact hc
      rw [show su S 9 m s (iN (p ||| b)) 0 m 0 = S 0 m 0 from su_j (by omega), show su S 9 m s (iN (p ||| b)) 8 m s = S 8 m s from su_j (by omega), e10', nb_iN (by omega)]
      exact ((h2.ar (j := 3) hm (by omega)).ar (j := 4) hm (by omega)).ar (j := 2) hm (by omega)
    · refine ⟨by rw [su_j (by omega)]; exact ha, ?_⟩
      rw [su_eq, nb_iN (by omega)]
      omega
theorem c_isPrep {Q : Int32 → Hp → Prop} {m s : Nat} (w : wfC D) (ws : wfS D S) (h : cA f D S) (hm : m < 7) (hs : 1 ≤ s ∧ s ≤ 12) (h1 : isPrep D S m s → Q 1 f) (h0 : ¬ isPrep D S m s → Q 0 f) : CI L xs xm_Me_isPrepared [.ref (93 + 11 * m), .int (iN s)] f Q := by
  have hF := w.1
  obtain ⟨c1, ⟨b, hb, eb⟩, -⟩ := ws.2.1 m s hm hs.1 hs.2
  have hbc := bcn_le b
  refine t_Me_isPrepared_0 (k_mem hm) (c_hasAcc h hm (k_mem hm) hs (fun z => br1 ⟨s, rfl, by omega, ?_⟩) fun z => br0 (h0 fun y => y.1 z))
  rw [h.a (j := 1) hm (by omega) hs.1 hs.2, show S (8 + 1) m s = iN b from eb]
  refine c_bitCount hb ?_
  rw [(h.2.2.2.1 m hm).2.1, iN_lt (by omega) (by omega)]
  refine ⟨fun q => h0 fun y => ?_, fun q => h1 ⟨z, ?_⟩⟩
  · have := y.2; rw [eb, nb_iN (by omega)] at this; omega
  · rw [eb, nb_iN (by omega)]; omega
theorem c_isCmt {Q : Int32 → Hp → Prop} {m s : Nat} (w : wfC D) (ws : wfS D S) (h : cA f D S) (hm : m < 7) (hs : 1 ≤ s ∧ s ≤ 12) (h1 : isCmt D S m s → Q 1 f) (h0 : ¬ isCmt D S m s → Q 0 f) : CI L xs xm_Me_isCommitted [.ref (93 + 11 * m), .int (iN s)] f Q := by
  have hF := w.1
  obtain ⟨c1, -, ⟨b, hb, eb⟩, -⟩ := ws.2.1 m s hm hs.1 hs.2
  have hbc := bcn_le b
  refine t_Me_isCommitted_0 (k_mem hm) (c_isPrep w ws h hm hs (fun z => br1 ⟨s, rfl, by omega, ?_⟩) fun z => br0 (h0 fun y => z y.1))
  rw [h.a (j := 2) hm (by omega) hs.1 hs.2, show S (8 + 2) m s = iN b from eb]
  refine c_bitCount hb ?_
  rw [(h.2.2.2.1 m hm).2.1, iN_lt (by omega) (by omega)]
  refine ⟨fun q => h0 fun y => ?_, fun q => h1 ⟨z, ?_⟩⟩
  · have := y.2; rw [eb, nb_iN (by omega)] at this; omega
  · rw [eb, nb_iN (by omega)]; omega
/-- a proposal that may be -/
abbrev proOk (D : CD) (S : ST) (m s o : Nat) : Prop := hon D m = true ∧ ¬ S 1 m 0 = 0 ∧ o < dN D ∧ (nb (S 2 m 0) < s ∧ s ≤ nb (S 2 m 0) + dW D) ∧ S 8 m s = -1 ∧ (prim D S m = m ∨ hon D (prim D S m) = false ∨ (¬ S 1 (prim D S m) 0 = 0 ∧ S 0 (prim D S m) 0 = S 0 m 0 ∧ S 8 (prim D S m) s = iN o))
theorem c_propose {Q : Int32 → Hp → Prop} {m s o : Nat} (w : wfC D) (ws : wfS D S) (h : cA f D S) (hm : m < 7) (hs : 1 ≤ s ∧ s ≤ 12) (ho : o ≤ 9) (h1 : proOk D S m s o → ∀ g, cA g D (accS D S m s (iN o)) → FrA f g → Q 1 g) (h0 : ¬ proOk D S m s o → Q 0 f) : CI L xs xm_As_propose [.ref 75, .int (iN m), .int (iN s), .int (iN o)] f Q := by
  have hF := w.1
  have w5 := w.2.2.2.2.1
  obtain ⟨⟨v, hv, ev⟩, -, ⟨l, hl, el⟩, -⟩ := ws.1 m hm
  have nv : nb (S 0 m 0) = v := by rw [ev, nb_iN (by omega)]
  have nl : nb (S 2 m 0) = l := by rw [el, nb_iN (by omega)]
  have ep : prim D S m = v % (3 * dF D + 1) := by unfold prim; rw [nv]
  have hp : prim D S m < 3 * dF D + 1 := Nat.mod_lt _ (by omega)
  refine t_As_propose_0 ⟨m, rfl, hm, c_asHon w h (by omega) (fun hh => br1 ?_) fun hh => br0 (h0 fun z => absurd z.1 (by rw [hh]; decide))⟩
  rw [h.s hm (by omega)]
  refine ⟨fun p => h0 fun z => z.2.1 p, fun p => brF (iN_nn (by omega)) ?_⟩
  rw [show f 77 4 = iN (dN D) from h.1.2.2.2.2.1, iN_lt (by omega) (by omega)]
  refine ⟨fun p2 => c_within w h hm (k_mem hm) hs el hl (fun p3 => br1 ?_) fun p3 => br0 (h0 fun z => p3 (by have := z.2.2.2.1; rw [nl] at this; exact this)), fun p2 => h0 fun z => p2 z.2.2.1⟩
  refine c_hasAcc h hm (k_mem hm) hs (fun z => br1 (h0 fun y => z y.2.2.2.2.1)) fun z => br0 ?_
  rw [h.s hm (by omega), ev]
  refine c_prim w h (by omega) ⟨_, rfl, by omega, ?_⟩
  rw [← ep]
  have fin : (prim D S m = m ∨ hon D (prim D S m) = false ∨ (¬ S 1 (prim D S m) 0 = 0 ∧ S 0 (prim D S m) 0 = S 0 m 0 ∧ S 8 (prim D S m) s = iN o)) → Wp L xs xm_As_propose 130 [.ref 75, .int (iN m), .int (iN s), .int (iN o), .ref (93 + 11 * m), .int (iN (prim D S m)), .ref (93 + 11 * prim D S m)] [] f (QI Q) := fun y => by
    refine t_As_propose_130 (k_mem hm) (k_mem (by omega)) (c_accept h hm hs fun g1 c1 f1 => ?_)
    have hb1 : 1 <<< m < 128 := by have := bit_or (a := 0) (by omega) hm; rwa [Nat.zero_or] at this
    have hb : (1 <<< m) ||| (1 <<< prim D S m) < 128 := bit_or hb1 (by omega)
    rw [shl1 (by omega), ← Nat.one_shiftLeft, or1 _ _ (by omega)]
    refine c_addPrep (p := 0) (c := 0) w c1 hm hs ?_ ?_ (by omega) hb ?_ (by omega) fun g2 c2 f2 => h1 ⟨hh, p, p2, by rw [nl]; exact p3, z, y⟩ g2 ?_ (f1.trans f2)
    · rw [su_j (by omega), su_j (by omega), su_eq]; exact iN_ne1 (by omega)
    · rw [su_j (by omega), su_eq]; rfl
    · rw [su_eq]; rfl
    · rw [Nat.zero_or, su_ow] at c2
      exact c2
  refine ⟨fun y => fin (Or.inl ((iN_inj (by omega) (by omega)).mp y)), fun y => c_asHon w h (by omega) (fun hq => br1 ?_) fun hq => br0 (fin (Or.inr (Or.inl hq)))⟩
  have y : ¬ prim D S m = m := fun z => y (by rw [z])
  have np : ∀ {u : Prop}, ¬ (¬ S 1 (prim D S m) 0 = 0 ∧ S 0 (prim D S m) 0 = S 0 m 0 ∧ S 8 (prim D S m) s = iN o) → Q 0 f := fun u => h0 fun x => by
    rcases x.2.2.2.2.2 with x | x | x
    · exact y x
    · rw [hq] at x; cases x
    · exact u x
  rw [h.s (m := prim D S m) (by omega) (by omega), h.s (m := prim D S m) (by omega) (by omega), h.s hm (by omega)]
  refine ⟨fun u => np (u := True) fun x => x.1 u, fun u => ⟨fun u2 => ⟨s, rfl, by omega, ?_⟩, fun u2 => np (u := True) fun x => u2 x.2.1⟩⟩
  rw [h.a (m := prim D S m) (j := 0) (by omega) (by omega) hs.1 hs.2]
  exact ⟨fun u3 => fin (Or.inr (Or.inr ⟨u, u2, u3⟩)), fun u3 => np (u := True) fun x => u3 x.2.2⟩
end WORDS
