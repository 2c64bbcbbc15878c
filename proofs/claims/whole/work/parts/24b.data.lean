/-! ROWS OF THE REFERENCE THAT STAY -/
theorem rC.co {f g : Hp} {o : Nat} {D : CD} (h : rC f o D) (w : wfC D) (e : ∀ k, o ≤ k → k < o + 82 → g 401 k = f 401 k) : rC g o D := by
  obtain ⟨c1, c2, c3, c4, c5, c6, c7, c8⟩ := h
  have wn := w.2.2.2.2.1
  exact ⟨by rw [e _ (by omega) (by omega)]; exact c1, by rw [e _ (by omega) (by omega)]; exact c2, by rw [e _ (by omega) (by omega)]; exact c3, by rw [e _ (by omega) (by omega)]; exact c4, by rw [e _ (by omega) (by omega)]; exact c5, fun i hi => by rw [e _ (by omega) (by omega)]; exact c6 i hi, fun j hj => by rw [e _ (by omega) (by omega), e _ (by omega) (by omega)]; exact c7 j hj, fun a b ha hb => by rw [e _ (by omega) (by omega)]; exact c8 a b ha hb⟩
theorem rR.co {f g : Hp} {o : Nat} {D : RD} (h : rR f o D) (w : wfR D) (e : ∀ k, o ≤ k → k < o + 161 → g 401 k = f 401 k) : rR g o D := by
  obtain ⟨c1, c2⟩ := h
  have wn := w.1
  exact ⟨by rw [e _ (by omega) (by omega)]; exact c1, fun i hi => by rw [e _ (by omega) (by omega), e _ (by omega) (by omega), e _ (by omega) (by omega), e _ (by omega) (by omega)]; exact c2 i hi⟩
theorem rP.co {f g : Hp} {o : Nat} {D : PD} (h : rP f o D) (w : wfP D) (e : ∀ k, o ≤ k → k < o + 37 → g 401 k = f 401 k) : rP g o D := by
  obtain ⟨c1, c2⟩ := h
  have wn := w.1
  exact ⟨by rw [e _ (by omega) (by omega)]; exact c1, fun i hi => by rw [e _ (by omega) (by omega), e _ (by omega) (by omega), e _ (by omega) (by omega)]; exact c2 i hi⟩
/-- the texts alone -/
def rTx (f : Hp) (o : Nat) (T : TD) : Prop := (∀ k, k < tZ T 0 → rC f (o + 610 + 82 * k) (T.2.2.1 k)) ∧ (∀ k, k < tZ T 1 → rR f (o + 774 + 161 * k) (T.2.2.2.1 k)) ∧ ∀ k, k < tZ T 2 → rP f (o + 1096 + 37 * k) (T.2.2.2.2 k)
theorem rTx.co {f g : Hp} {o : Nat} {T : TD} (h : rTx f o T) (w : wfT T) (e : ∀ k, o + 610 ≤ k → k < o + 1170 → g 401 k = f 401 k) : rTx g o T := by
  obtain ⟨c1, c2, c3⟩ := h
  obtain ⟨w1, w2, w3, w4, w5, w6⟩ := w
  have z0 := w3 0 (by omega)
  have z1 := w3 1 (by omega)
  have z2 := w3 2 (by omega)
  exact ⟨fun k hk => (c1 k hk).co (w4 k hk) fun a p q => e a (by omega) (by omega), fun k hk => (c2 k hk).co (w5 k hk) fun a p q => e a (by omega) (by omega), fun k hk => (c3 k hk).co (w6 k hk) fun a p q => e a (by omega) (by omega)⟩
theorem rT.co {f g : Hp} {o : Nat} {T : TD} (h : rT f o T) (w : wfT T) (e : ∀ k, o ≤ k → k < o + 1170 → g 401 k = f 401 k) : rT g o T := by
  obtain ⟨h1, h2, h3, h4, h5, h6⟩ := h
  exact ⟨by rw [e _ (by omega) (by omega)]; exact h1, by rw [e _ (by omega) (by omega)]; exact h2, by rw [e _ (by omega) (by omega)]; exact h3, fun i hi => by rw [e _ (by omega) (by omega)]; exact h4 i hi, fun s hs => by rw [e _ (by omega) (by omega)]; exact h5 s hs, rTx.co h6 w fun k p q => e k (by omega) (by omega)⟩
def cTx (f : Hp) (t : Nat) (T : TD) : Prop := (∀ k, k < tZ T 0 → cC f (t + 6 + 21 * k) (T.2.2.1 k)) ∧ (∀ k, k < tZ T 1 → cR f (t + 18 + 21 * k) (T.2.2.2.1 k)) ∧ ∀ k, k < tZ T 2 → cP f (t + 23 + 21 * k) (T.2.2.2.2 k)
theorem cTx.fr {f g : Hp} {t : Nat} {T : TD} (h : cTx f t T) (w : wfT T) (e : ∀ a, t + 6 ≤ a → a < t + 48 → g a = f a) : cTx g t T := by
  obtain ⟨h6, h7, h8⟩ := h
  obtain ⟨w1, w2, w3, w4⟩ := w
  have z0 := w3 0 (by omega)
  have z1 := w3 1 (by omega)
  have z2 := w3 2 (by omega)
  exact ⟨fun k hk => (h6 k hk).fr fun a h1 h2 => e a (by omega) (by omega), fun k hk => (h7 k hk).fr fun a h1 h2 => e a (by omega) (by omega), fun k hk => (h8 k hk).fr fun a h1 h2 => e a (by omega) (by omega)⟩
theorem Img.co {f g : Hp} {k : Nat} (hk : k < 3) (h : Img f k) (e : ∀ a, a = 50 ∨ (256 ≤ a ∧ a < 400) ∨ a = 402 → g a = f a) (e2 : ∀ k, 1170 ≤ k → g 401 k = f 401 k) : Img g k := by
  rcases h with ⟨p, q⟩ | ⟨p, q, T, w, h1, h2⟩
  · exact Or.inl ⟨by rw [e 50 (by omega)]; exact p, by rw [e 402 (by omega)]; exact q⟩
  · exact Or.inr ⟨by rw [e 50 (by omega)]; exact p, by rw [e 402 (by omega)]; exact q, T, w, h1.fr w fun a p q => e a (by omega), h2.co w fun k p q => e2 k (by omega)⟩
/-- the head is told anew: all else stays -/
theorem Inv.head {f g : Hp} {T : TD} (w : wfT T) (c : cT f 1 T) (r : rT f 0 T) (im : ∀ k, k < 3 → Img f k) (H : Nat × Int32 × Int32 × (Nat → Nat)) (wh : H.1 ≤ 600 ∧ ∀ i, i < 600 → H.2.2.2 i < 256) (e : ∀ a, a < 51 ∨ (256 ≤ a ∧ a < 400) ∨ a = 402 → ¬ a = 1 → ¬ a = 2 → g a = f a) (e2 : ∀ k, k < 4 ∨ 610 ≤ k → g 401 k = f 401 k) (c1 : g 1 1 = iN H.1 ∧ g 1 2 = H.2.1 ∧ g 1 3 = H.2.2.1 ∧ ∀ i, i < 600 → g 2 i = sgn (H.2.2.2 i)) (r1 : g 401 4 = iN H.1 ∧ g 401 5 = H.2.1 ∧ g 401 6 = H.2.2.1 ∧ ∀ i, i < 600 → g 401 (10 + i) = iN (H.2.2.2 i)) : Inv g := by
  obtain ⟨h1, h2, h3, h4, h5, h6⟩ := c
  obtain ⟨q1, q2, q3, q4, q5, q6⟩ := r
  have w' : wfT (H, T.2) := ⟨wh.1, wh.2, w.2.2⟩
  refine ⟨⟨(H, T.2), w', ?_, ?_⟩, fun k hk => (im k hk).co hk (fun a ha => e a (by omega) (by omega) (by omega)) fun k hk => e2 k (by omega)⟩
  · refine ⟨c1.1, c1.2.1, c1.2.2.1, c1.2.2.2, ?_, ?_⟩
    · rw [e (1 + 2) (by omega) (by omega) (by omega)]; exact h5
    · exact cTx.fr (T := (H, T.2)) h6 w' fun a p q => e a (by omega) (by omega) (by omega)
  · refine ⟨by rw [Nat.zero_add]; exact r1.1, by rw [Nat.zero_add]; exact r1.2.1, by rw [Nat.zero_add]; exact r1.2.2.1, fun i hi => by rw [Nat.zero_add]; exact r1.2.2.2 i hi, fun s hs => by rw [Nat.zero_add, e2 s (by omega)]; have := q5 s hs; rw [Nat.zero_add] at this; exact this, ?_⟩
    exact rTx.co (T := (H, T.2)) q6 w' fun k p q => e2 k (by omega)
/-! bytes -/
theorem byt_lt (y : Int32) : ∃ u, u < 256 ∧ y &&& 255 = iN u := by
  have e : (y &&& 255).toBitVec.toNat = y.toBitVec.toNat &&& 255 := by
    rw [Int32.toBitVec_and, BitVec.toNat_and]; rfl
  have h : y.toBitVec.toNat &&& 255 ≤ 255 := Nat.and_le_right
  refine ⟨y.toBitVec.toNat &&& 255, by omega, ?_⟩
  rw [← Int32.toInt_inj, iN_toInt (by omega), ← e]
  show (y &&& 255).toBitVec.toInt = _
  rw [BitVec.toInt_eq_toNat_of_lt (by rw [e]; omega)]
theorem byt_sgn {y : Int32} {u : Nat} (h : y &&& 255 = iN u) : y.toInt8.toInt32 = sgn u := by
  unfold sgn
  rw [← h, Int32.toInt8_and, show (255 : Int32).toInt8 = -1 by decide, Int8.and_neg_one]
theorem byt_two (y : Int32) : y.toInt8.toInt32.toInt8.toInt32 = y.toInt8.toInt32 := by
  rw [Int8.toInt8_toInt32]
