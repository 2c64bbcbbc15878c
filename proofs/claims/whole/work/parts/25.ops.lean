/-! THE FIRST CALLS -/
/-- the reference looks at this council -/
def cur (g : Hp) (o : Nat) (D : CD) : Prop := g 400 11 = iN o ∧ g 400 12 = iN (dF D) ∧ g 400 13 = iN (3 * dF D + 1) ∧ g 400 14 = iN (2 * dF D + 1) ∧ g 400 15 = iN (dW D) ∧ g 400 16 = iN (dS D) ∧ g 400 17 = iN (dL D) ∧ g 400 18 = iN (dN D)
section OPS1
variable {L : Nat} {xs : Nat → Int32} {f : Hp} {Q : Int32 → Hp → Prop}
theorem r_place {s j : Nat} (hs : s < 3) (h : Q (iN (if s = 0 then 610 + 82 * j else if s = 1 then 774 + 161 * j else 1096 + 37 * j)) f) : CI L xs xm_Mo_placeOf [.int (iN s), .int (iN j)] f Q := by
  refine t_Mo_placeOf_0 ⟨fun e => ?_, fun e => ⟨fun e1 => ?_, fun e1 => ?_⟩⟩
  · have e : s = 0 := (iN_inj (b := 0) (by omega) (by omega)).mp e
    subst e
    have : 610 + 82 * iN j = iN (610 + 82 * j) := by rw [← iN_add, ← iN_mul]; rfl
    rw [this]; exact h
  · have e1 : s = 1 := (iN_inj (b := 1) (by omega) (by omega)).mp e1
    subst e1
    have : 774 + 161 * iN j = iN (774 + 161 * j) := by rw [← iN_add, ← iN_mul]; rfl
    rw [this]; exact h
  · have n0 : ¬ s = 0 := fun z => e (by rw [z]; rfl)
    have n1 : ¬ s = 1 := fun z => e1 (by rw [z]; rfl)
    have : 1096 + 37 * iN j = iN (1096 + 37 * j) := by rw [← iN_add, ← iN_mul]; rfl
    rw [this]
    rw [if_neg n0, if_neg n1] at h
    exact h
theorem r_isCouncil {T : TD} {k : Int32} (w : wfT T) (r : rT f 0 T) (h1 : ∀ j g, j < tZ T 0 → k = iN j → cur g (610 + 82 * j) (T.2.2.1 j) → (∀ a, ¬ a = 400 → g a = f a) → Q 1 g) (h0 : (∀ j, j < tZ T 0 → ¬ k = iN j) → Q 0 f) : CI L xs xm_Mo_isCouncil [.ref 400, .int k] f Q := by
  obtain ⟨-, -, -, -, r5, r6, -, -⟩ := r
  have z := w.2.2.1 0 (by omega)
  refine t_Mo_isCouncil_0 (r_isOf (s := 0) (n := tZ T 0) (by omega) (by simpa using r5 0 (by omega)) z (fun j hj e => br1 ?_) fun q => br0 (h0 q))
  subst e
  have hc := r6 j hj
  rw [Nat.zero_add] at hc
  obtain ⟨c1, c2, c3, c4, c5, -⟩ := hc
  refine r_place (s := 0) (by omega) ?_
  rw [if_pos rfl]
  intro g3 e3
  have a3 : g3 400 11 = iN (610 + 82 * j) := by rw [e3, xu_eq]
  have b3 : g3 401 = f 401 := by rw [e3, xu_a (by omega)]
  refine ⟨610 + 82 * j, a3, by omega, ?_⟩
  rw [b3, c1]
  intro g4 e4 g5 e5 g6 e6
  have a4 : g4 400 12 = iN (dF (T.2.2.1 j)) := by rw [e4, xu_eq]
  have a5 : g5 400 12 = iN (dF (T.2.2.1 j)) := by rw [e5, xu_k (by omega), a4]
  have a6 : g6 400 11 = iN (610 + 82 * j) := by rw [e6, xu_k (by omega), e5, xu_k (by omega), e4, xu_k (by omega), a3]
  have b6 : g6 401 = f 401 := by rw [e6, xu_a (by omega), e5, xu_a (by omega), e4, xu_a (by omega), b3]
  have d5 : 3 * iN (dF (T.2.2.1 j)) + 1 = iN (3 * dF (T.2.2.1 j) + 1) := by rw [← iN_add, ← iN_mul]; rfl
  have d6 : 2 * iN (dF (T.2.2.1 j)) + 1 = iN (2 * dF (T.2.2.1 j) + 1) := by rw [← iN_add, ← iN_mul]; rfl
  rw [a4, d5] at e5
  rw [a5, d6] at e6
  refine ⟨610 + 82 * j + 1, by rw [a6]; exact iN_add _ 1, by omega, ?_⟩
  rw [b6, c2]
  intro g7 e7
  have a7 : g7 400 11 = iN (610 + 82 * j) := by rw [e7, xu_k (by omega), a6]
  have b7 : g7 401 = f 401 := by rw [e7, xu_a (by omega), b6]
  refine ⟨610 + 82 * j + 2, by rw [a7]; exact iN_add _ 2, by omega, ?_⟩
  rw [b7, c3]
  intro g8 e8
  have a8 : g8 400 11 = iN (610 + 82 * j) := by rw [e8, xu_k (by omega), a7]
  have b8 : g8 401 = f 401 := by rw [e8, xu_a (by omega), b7]
  refine ⟨610 + 82 * j + 3, by rw [a8]; exact iN_add _ 3, by omega, ?_⟩
  rw [b8, c4]
  intro g9 e9
  have a9 : g9 400 11 = iN (610 + 82 * j) := by rw [e9, xu_k (by omega), a8]
  have b9 : g9 401 = f 401 := by rw [e9, xu_a (by omega), b8]
  refine ⟨610 + 82 * j + 4, by rw [a9]; exact iN_add _ 4, by omega, ?_⟩
  rw [b9, c5]
  intro g10 e10
  refine h1 j g10 hj rfl ?_ fun a ha => ?_
  · subst e10 e9 e8 e7 e6 e5 e4 e3
    unfold cur
    simp [xu_at]
  · subst e10 e9 e8 e7 e6 e5 e4 e3
    simp only [xu_a ha]
theorem op_fault (i : Inv f) (x : Int32) : CI L xs xm_TP_fault [.ref 0, .int x] f (fun v g => CI L xs xm_Mo_fault [.ref 400, .int x] g (fun w h => w = v ∧ Inv h)) := by
  obtain ⟨⟨T, w, c, r⟩, -⟩ := id i
  have e2 : f 401 5 = f 1 2 := by rw [c.2.1]; exact r.2.1
  have e3 : f 401 6 = f 1 3 := by rw [c.2.2.1]; exact r.2.2.1
  refine t_TP_fault_0 ⟨fun p => ?_, fun p => ⟨fun p2 => ?_, fun p2 => ?_⟩⟩
  · exact t_Mo_fault_0 (brT p ⟨e2, i⟩)
  · exact t_Mo_fault_0 (brF p (brT p2 ⟨e3, i⟩))
  · exact t_Mo_fault_0 (brF p (brF p2 ⟨rfl, i⟩))
theorem op_count (i : Inv f) (x : Int32) : CI L xs xm_TP_count [.ref 0, .int x] f (fun v g => CI L xs xm_Mo_count [.ref 400, .int x] g (fun w h => w = v ∧ Inv h)) := by
  obtain ⟨⟨T, w, c, r⟩, -⟩ := id i
  have no : ∀ {p : Prop}, (¬ (∃ j, j < 3 ∧ x = iN j)) → CI L xs xm_Mo_count [.ref 400, .int x] f (fun w h => w = -2 ∧ Inv h) := fun q => t_Mo_count_0 (r_isIn (a := 0) (b := 2) (by omega) (by omega) (fun j _ h e => absurd ⟨j, by omega, e⟩ q) fun _ => br0 ⟨rfl, i⟩)
  refine t_TP_count_0 ⟨fun p => ?_, fun p => ⟨fun p2 => ?_, fun p2 => ?_⟩⟩
  · refine no (p := True) ?_
    rintro ⟨j, hj, rfl⟩
    exact iN_nn (by omega) p
  · obtain ⟨k, hk, rfl⟩ := iN_ex (n := 3) (by omega) p p2
    refine ⟨k, rfl, hk, ?_⟩
    refine t_Mo_count_0 (r_isIn (a := 0) (b := 2) (by omega) (by omega) (fun j _ h e => br1 ?_) fun q => absurd rfl (q k (by omega) (by omega)))
    refine ⟨k, rfl, by omega, ?_, i⟩
    have := r.2.2.2.2.1 k hk
    rw [Nat.zero_add] at this
    rw [this]
    exact (c.2.2.2.2.1 k hk).symm
  · refine no (p := True) ?_
    rintro ⟨j, hj, rfl⟩
    exact p2 ((iN_lt (b := 3) (by omega) (by omega)).mpr hj)
theorem op_end (i : Inv f) (x : Int32) : CI L xs xm_TP_end [.ref 0, .int x] f (fun v g => CI L xs xm_Mo_end [.ref 400, .int x] g (fun w h => w = v ∧ Inv h)) := by
  obtain ⟨⟨T, w, c, r⟩, im⟩ := id i
  have e2 : f 401 4 = f 1 1 := by rw [c.1]; exact r.1
  refine t_TP_end_0 ⟨fun p => ?_, fun p => ⟨fun p2 => ?_, fun p2 g1 eg => ?_⟩⟩
  · exact t_Mo_end_0 (brT p ⟨rfl, i⟩)
  · exact t_Mo_end_0 (brF p (brT (by rw [e2]; exact p2) ⟨rfl, i⟩))
  · have e4 : g1 401 4 = f 1 1 := by rw [eg, xu_a (by omega), e2]
    refine t_Mo_end_0 (brF p (brF (by rw [e4]; exact p2) fun g2 eg2 => ⟨rfl, ?_⟩))
    have hb := w.1
    have c1 := c.1
    rw [c1] at p2
    have ex : ∃ n, n ≤ 600 ∧ x = iN n := by
      rw [Int32.lt_iff_toInt_lt] at p p2
      rw [iN_toInt (by omega)] at p2
      have p' : ¬ x.toInt < 0 := p
      refine ⟨x.toInt.toNat, by omega, ?_⟩
      rw [← Int32.toInt_inj, iN_toInt (by omega)]
      omega
    obtain ⟨n, hn, rfl⟩ := ex
    refine Inv.head w c r im (n, T.1.2) ⟨hn, w.2.1⟩ (fun a p1 p2 p3 => by rw [eg2, xu_a (by omega), eg, xu_a (by omega)]) (fun k hk => by rw [eg2, xu_k (by omega), eg, xu_a (by omega)]) ⟨by rw [eg2, xu_a (by omega), eg, xu_eq], by rw [eg2, xu_a (by omega), eg, xu_k (by omega)]; exact c.2.1, by rw [eg2, xu_a (by omega), eg, xu_k (by omega)]; exact c.2.2.1, by rw [eg2, xu_a (by omega), eg, xu_a (by omega)]; exact c.2.2.2.1⟩ ⟨by rw [eg2, xu_eq], ?_, ?_, fun i hi => ?_⟩
    · rw [eg2, xu_k (by omega), eg, xu_a (by omega)]; have := r.2.1; rw [Nat.zero_add] at this; exact this
    · rw [eg2, xu_k (by omega), eg, xu_a (by omega)]; have := r.2.2.1; rw [Nat.zero_add] at this; exact this
    · rw [eg2, xu_k (by omega), eg, xu_a (by omega)]; have := r.2.2.2.1 i hi; rw [Nat.zero_add] at this; exact this
end OPS1
