/-! deed, reply, council -/
section TELLS
variable {L : Nat} {xs : Nat → Int32} {f : Hp} {Q : Int32 → Hp → Prop}
theorem iN_ex0 {x : Int32} (h : ¬ x < 0) : ∃ n, n < 2147483648 ∧ x = iN n := by
  rw [Int32.lt_iff_toInt_lt] at h
  have h' : ¬ x.toInt < 0 := h
  have := Int32.toInt_lt x
  refine ⟨x.toInt.toNat, by omega, ?_⟩
  rw [← Int32.toInt_inj, iN_toInt (by omega)]
  omega
theorem k_told : xS0 L 1 = (10, 0) := rfl
theorem k_coun {j : Nat} (h : j < 2) : xS0 L (7 + 21 * j) = (1, 0) := (ke_26 (L := L) (a := 4) rfl h).2
theorem k_run {j : Nat} (h : j < 2) : xS0 L (19 + 21 * j) = (6, 0) := (ke_27 (L := L) (a := 5) rfl h).2
theorem k_rep {j : Nat} (h : j < 2) : xS0 L (24 + 21 * j) = (5, 0) := (ke_28 (L := L) (a := 6) rfl h).2
theorem r_isRun {T : TD} {k : Int32} (w : wfT T) (r : rT f 0 T) (h1 : ∀ j g, j < tZ T 1 → k = iN j → g = xu f 400 47 (iN (774 + 161 * j)) → Q 1 g) (h0 : (∀ j, j < tZ T 1 → ¬ k = iN j) → Q 0 f) : CI L xs xm_Mo_isRun [.ref 400, .int k] f Q := by
  obtain ⟨-, -, -, -, r5, -⟩ := r
  have z := w.2.2.1 1 (by omega)
  refine t_Mo_isRun_0 (r_isOf (s := 1) (n := tZ T 1) (by omega) (by simpa using r5 1 (by omega)) z (fun j hj e => br1 ?_) fun q => br0 (h0 q))
  subst e
  refine r_place (s := 1) (by omega) fun g3 e3 => h1 j g3 hj rfl e3
theorem r_isReplies {T : TD} {k : Int32} (w : wfT T) (r : rT f 0 T) (h1 : ∀ j g, j < tZ T 2 → k = iN j → g = xu f 400 56 (iN (1096 + 37 * j)) → Q 1 g) (h0 : (∀ j, j < tZ T 2 → ¬ k = iN j) → Q 0 f) : CI L xs xm_Mo_isReplies [.ref 400, .int k] f Q := by
  obtain ⟨-, -, -, -, r5, -⟩ := r
  have z := w.2.2.1 2 (by omega)
  refine t_Mo_isReplies_0 (r_isOf (s := 2) (n := tZ T 2) (by omega) (by simpa using r5 2 (by omega)) z (fun j hj e => br1 ?_) fun q => br0 (h0 q))
  subst e
  refine r_place (s := 2) (by omega) fun g3 e3 => h1 j g3 hj rfl e3
theorem cT.sz {T : TD} {s : Nat} (h : cT f 1 T) (hs : s < 3) : f (1 + 2) s = iN (tZ T s) := h.2.2.2.2.1 s hs
theorem dec3 (x : Int32) (n : Nat) (hn : n < 2147483648) : (∃ k, k < n ∧ x = iN k) ∨ ¬ ∃ k, k < n ∧ x = iN k := Classical.em _
theorem op_deed (i : Inv f) (x y z : Int32) : CI L xs xm_TP_deed [.ref 0, .int x, .int y, .int z] f (fun v g => CI L xs xm_Mo_deed [.ref 400, .int x, .int y, .int z] g (fun w h => w = v ∧ Inv h)) := by
  obtain ⟨⟨T, w, c, r⟩, im⟩ := id i
  have z1 := w.2.2.1 1 (by omega)
  refine t_TP_deed_0 (c_has (s := 1) k_told (by omega) (c.sz (by omega)) z1 (fun j hj e => br1 ?_) fun q => br0 ?_)
  · subst e
    obtain ⟨c1, c2⟩ : cR f (19 + 21 * j) _ := c.2.2.2.2.2.2.1 j hj
    obtain ⟨d1, d2⟩ := r.2.2.2.2.2.2.1 j hj
    have wR := w.2.2.2.2.1 j hj
    generalize T.2.2.2.1 j = R at *
    rw [Nat.zero_add] at d1 d2
    have hs := wR.1
    have run : ∀ {v : Int32}, (∀ g : Hp, g 401 = f 401 → g 400 47 = iN (774 + 161 * j) → (∀ a, ¬ a = 400 → g a = f a) → ((y = -1 → z = 0 → iN R.1 = v) ∧ (y = -1 → ¬ z = 0 → -2 = v) ∧ (∀ k, k < R.1 → y = iN k → ∀ m, m ≤ 3 → z = iN m → g 401 (774 + 161 * j + 1 + 4 * k + m) = v) ∧ (∀ k, k < R.1 → y = iN k → (∀ m, m ≤ 3 → ¬ z = iN m) → -2 = v) ∧ (¬ y = -1 → (∀ k, k < R.1 → ¬ y = iN k) → -2 = v))) → CI L xs xm_Mo_deed [.ref 400, .int (iN j), .int y, .int z] f (fun w h => w = v ∧ Inv h) := by
      intro v hv
      refine t_Mo_deed_0 (r_isRun w r (fun j' g hj' e eg => br1 ?_) fun q => absurd rfl (q j hj))
      have e : j = j' := (iN_inj (by omega) (by omega)).mp e
      subst e
      have g1 : g 401 = f 401 := by rw [eg, xu_a (by omega)]
      have g2 : g 400 47 = iN (774 + 161 * j) := by rw [eg, xu_eq]
      have g3 : ∀ a, ¬ a = 400 → g a = f a := fun a ha => by rw [eg, xu_a ha]
      have gi : Inv g := i.fr fun a ha => g3 a (by omega)
      obtain ⟨v1, v2, v3, v4, v5⟩ := hv g g1 g2 g3
      refine ⟨fun p => ⟨fun p2 => ⟨774 + 161 * j, g2, by omega, by rw [g1, d1]; exact v1 p p2, gi⟩, fun p2 => ⟨v2 p p2, gi⟩⟩, fun p => ⟨774 + 161 * j, g2, by omega, ?_⟩⟩
      refine r_isIn0 (n := R.1) (by omega) (by rw [g1, d1]) (fun k hk e => br1 ?_) fun q => br0 ⟨v5 p q, gi⟩
      subst e
      refine r_isIn (a := 0) (b := 3) (by omega) (by omega) (fun m _ hm e => br1 ?_) fun q => br0 ⟨v4 k hk rfl fun m hm => q m (by omega) hm, gi⟩
      subst e
      refine ⟨774 + 161 * j + 1 + 4 * k + m, ?_, by omega, v3 k hk rfl m hm rfl, gi⟩
      rw [g2]; simp only [lit, iN_add, iN_mul]
    refine ⟨j, rfl, by omega, fun p => ⟨fun p2 => ?_, fun p2 => ?_⟩, fun p => ?_⟩
    · rw [c1]
      refine run fun g g1 g2 g3 => ⟨fun _ _ => rfl, fun _ h => absurd p2 h, fun k hk e => ?_, fun k hk e => ?_, fun h => absurd p h⟩ <;> (rw [p] at e; exact absurd e.symm (iN_ne1 (by omega)))
    · refine run fun g g1 g2 g3 => ⟨fun _ h => absurd h p2, fun _ _ => rfl, fun k hk e => ?_, fun k hk e => ?_, fun h => absurd p h⟩ <;> (rw [p] at e; exact absurd e.symm (iN_ne1 (by omega)))
    · refine t_Ru_tell_0 (k_run (by omega)) ⟨fun p1 => ?_, fun p1 => ⟨fun p2 => ?_, fun p2 => ?_⟩⟩
      · refine run fun g g1 g2 g3 => ⟨fun h => absurd h p, fun _ _ => rfl, fun k hk e => ?_, fun _ _ _ _ => rfl, fun _ _ => rfl⟩
        subst e; exact absurd p1 (iN_nn (by omega))
      · rw [c1] at p2
        obtain ⟨k, hk, rfl⟩ := iN_ex (by omega) p1 p2
        obtain ⟨a1, a2, a3, a4⟩ := c2 k hk
        obtain ⟨b1, b2, b3, b4⟩ := d2 k hk
        have fin : ∀ (m : Nat) (v : Int32), m ≤ 3 → z = iN m → f 401 (774 + 161 * j + 1 + 4 * k + m) = v → CI L xs xm_Mo_deed [.ref 400, .int (iN j), .int (iN k), .int z] f (fun w h => w = v ∧ Inv h) := by
          intro m v hm ez ev
          refine run fun g g1 g2 g3 => ⟨fun h => absurd h p, fun h => absurd h p, fun k' hk' e m' hm' e2 => ?_, fun k' hk' e q => absurd ez (q m hm), fun _ q => absurd rfl (q k hk)⟩
          rw [iN_inj (by omega) (by omega)] at e
          rw [ez, iN_inj (by omega) (by omega)] at e2
          subst e; subst e2
          rw [g1]; exact ev
        refine ⟨fun q => ⟨k, rfl, by omega, ?_⟩, fun n0 => ⟨fun q => ⟨k, rfl, by omega, ?_⟩, fun n1 => ⟨fun q => ⟨k, rfl, by omega, ?_⟩, fun n2 => ⟨fun q => ⟨k, rfl, by omega, ?_⟩, fun n3 => ?_⟩⟩⟩⟩
        · rw [a1]; exact fin 0 _ (by omega) q (by rw [show 774 + 161 * j + 1 + 4 * k + 0 = 774 + 161 * j + 1 + 4 * k by omega]; exact b1)
        · rw [a2]; exact fin 1 _ (by omega) q (by rw [show 774 + 161 * j + 1 + 4 * k + 1 = 774 + 161 * j + 2 + 4 * k by omega]; exact b2)
        · rw [a3]; exact fin 2 _ (by omega) q (by rw [show 774 + 161 * j + 1 + 4 * k + 2 = 774 + 161 * j + 3 + 4 * k by omega]; exact b3)
        · rw [a4]; exact fin 3 _ (by omega) q (by rw [show 774 + 161 * j + 1 + 4 * k + 3 = 774 + 161 * j + 4 + 4 * k by omega]; exact b4)
        · refine run fun g g1 g2 g3 => ⟨fun h => absurd h p, fun _ _ => rfl, fun k' hk' e m hm e2 => ?_, fun _ _ _ _ => rfl, fun _ _ => rfl⟩
          exfalso
          have : m = 0 ∨ m = 1 ∨ m = 2 ∨ m = 3 := by omega
          rcases this with e | e | e | e <;> subst e
          · exact n0 e2
          · exact n1 e2
          · exact n2 e2
          · exact n3 e2
      · rw [c1] at p2
        refine run fun g g1 g2 g3 => ⟨fun h => absurd h p, fun _ _ => rfl, fun k hk e => ?_, fun _ _ _ _ => rfl, fun _ _ => rfl⟩
        subst e; exact absurd ((iN_lt (by omega) (by omega)).mpr hk) p2
  · exact t_Mo_deed_0 (r_isRun w r (fun j g hj e => absurd e (q j hj)) fun _ => br0 ⟨rfl, i⟩)
theorem op_reply (i : Inv f) (x y z : Int32) : CI L xs xm_TP_reply [.ref 0, .int x, .int y, .int z] f (fun v g => CI L xs xm_Mo_reply [.ref 400, .int x, .int y, .int z] g (fun w h => w = v ∧ Inv h)) := by
  obtain ⟨⟨T, w, c, r⟩, im⟩ := id i
  have z1 := w.2.2.1 2 (by omega)
  refine t_TP_reply_0 (c_has (s := 2) k_told (by omega) (c.sz (by omega)) z1 (fun j hj e => br1 ?_) fun q => br0 ?_)
  · subst e
    obtain ⟨c1, c2⟩ : cP f (24 + 21 * j) _ := c.2.2.2.2.2.2.2 j hj
    obtain ⟨d1, d2⟩ := r.2.2.2.2.2.2.2 j hj
    have wR := w.2.2.2.2.2 j hj
    generalize T.2.2.2.2 j = R at *
    rw [Nat.zero_add] at d1 d2
    have hs := wR.1
    have run : ∀ {v : Int32}, (∀ g : Hp, g 401 = f 401 → g 400 56 = iN (1096 + 37 * j) → (∀ a, ¬ a = 400 → g a = f a) → ((y = -1 → z = 0 → iN R.1 = v) ∧ (y = -1 → ¬ z = 0 → -2 = v) ∧ (∀ k, k < R.1 → y = iN k → ∀ m, m ≤ 2 → z = iN m → g 401 (1096 + 37 * j + 1 + 3 * k + m) = v) ∧ (∀ k, k < R.1 → y = iN k → (∀ m, m ≤ 2 → ¬ z = iN m) → -2 = v) ∧ (¬ y = -1 → (∀ k, k < R.1 → ¬ y = iN k) → -2 = v))) → CI L xs xm_Mo_reply [.ref 400, .int (iN j), .int y, .int z] f (fun w h => w = v ∧ Inv h) := by
      intro v hv
      refine t_Mo_reply_0 (r_isReplies w r (fun j' g hj' e eg => br1 ?_) fun q => absurd rfl (q j hj))
      have e : j = j' := (iN_inj (by omega) (by omega)).mp e
      subst e
      have g1 : g 401 = f 401 := by rw [eg, xu_a (by omega)]
      have g2 : g 400 56 = iN (1096 + 37 * j) := by rw [eg, xu_eq]
      have g3 : ∀ a, ¬ a = 400 → g a = f a := fun a ha => by rw [eg, xu_a ha]
      have gi : Inv g := i.fr fun a ha => g3 a (by omega)
      obtain ⟨v1, v2, v3, v4, v5⟩ := hv g g1 g2 g3
      refine ⟨fun p => ⟨fun p2 => ⟨1096 + 37 * j, g2, by omega, by rw [g1, d1]; exact v1 p p2, gi⟩, fun p2 => ⟨v2 p p2, gi⟩⟩, fun p => ⟨1096 + 37 * j, g2, by omega, ?_⟩⟩
      refine r_isIn0 (n := R.1) (by omega) (by rw [g1, d1]) (fun k hk e => br1 ?_) fun q => br0 ⟨v5 p q, gi⟩
      subst e
      refine r_isIn (a := 0) (b := 2) (by omega) (by omega) (fun m _ hm e => br1 ?_) fun q => br0 ⟨v4 k hk rfl fun m hm => q m (by omega) hm, gi⟩
      subst e
      refine ⟨1096 + 37 * j + 1 + 3 * k + m, ?_, by omega, v3 k hk rfl m hm rfl, gi⟩
      rw [g2]; simp only [lit, iN_add, iN_mul]
    refine ⟨j, rfl, by omega, fun p => ⟨fun p2 => ?_, fun p2 => ?_⟩, fun p => ?_⟩
    · rw [c1]
      refine run fun g g1 g2 g3 => ⟨fun _ _ => rfl, fun _ h => absurd p2 h, fun k hk e => ?_, fun k hk e => ?_, fun h => absurd p h⟩ <;> (rw [p] at e; exact absurd e.symm (iN_ne1 (by omega)))
    · refine run fun g g1 g2 g3 => ⟨fun _ h => absurd h p2, fun _ _ => rfl, fun k hk e => ?_, fun k hk e => ?_, fun h => absurd p h⟩ <;> (rw [p] at e; exact absurd e.symm (iN_ne1 (by omega)))
    · refine t_Rp_tell_0 (k_rep (by omega)) ⟨fun p1 => ?_, fun p1 => ⟨fun p2 => ?_, fun p2 => ?_⟩⟩
      · refine run fun g g1 g2 g3 => ⟨fun h => absurd h p, fun _ _ => rfl, fun k hk e => ?_, fun _ _ _ _ => rfl, fun _ _ => rfl⟩
        subst e; exact absurd p1 (iN_nn (by omega))
      · rw [c1] at p2
        obtain ⟨k, hk, rfl⟩ := iN_ex (by omega) p1 p2
        obtain ⟨a1, a2, a3⟩ := c2 k hk
        obtain ⟨b1, b2, b3⟩ := d2 k hk
        have fin : ∀ (m : Nat) (v : Int32), m ≤ 2 → z = iN m → f 401 (1096 + 37 * j + 1 + 3 * k + m) = v → CI L xs xm_Mo_reply [.ref 400, .int (iN j), .int (iN k), .int z] f (fun w h => w = v ∧ Inv h) := by
          intro m v hm ez ev
          refine run fun g g1 g2 g3 => ⟨fun h => absurd h p, fun h => absurd h p, fun k' hk' e m' hm' e2 => ?_, fun k' hk' e q => absurd ez (q m hm), fun _ q => absurd rfl (q k hk)⟩
          rw [iN_inj (by omega) (by omega)] at e
          rw [ez, iN_inj (by omega) (by omega)] at e2
          subst e; subst e2
          rw [g1]; exact ev
        refine ⟨fun q => ⟨k, rfl, by omega, ?_⟩, fun n0 => ⟨fun q => ⟨k, rfl, by omega, ?_⟩, fun n1 => ⟨fun q => ⟨k, rfl, by omega, ?_⟩, fun n2 => ?_⟩⟩⟩
        · rw [a1]; exact fin 0 _ (by omega) q (by rw [show 1096 + 37 * j + 1 + 3 * k + 0 = 1096 + 37 * j + 1 + 3 * k by omega]; exact b1)
        · rw [a2]; exact fin 1 _ (by omega) q (by rw [show 1096 + 37 * j + 1 + 3 * k + 1 = 1096 + 37 * j + 2 + 3 * k by omega]; exact b2)
        · rw [a3]; exact fin 2 _ (by omega) q (by rw [show 1096 + 37 * j + 1 + 3 * k + 2 = 1096 + 37 * j + 3 + 3 * k by omega]; exact b3)
        · refine run fun g g1 g2 g3 => ⟨fun h => absurd h p, fun _ _ => rfl, fun k' hk' e m hm e2 => ?_, fun _ _ _ _ => rfl, fun _ _ => rfl⟩
          exfalso
          have : m = 0 ∨ m = 1 ∨ m = 2 := by omega
          rcases this with e | e | e <;> subst e
          · exact n0 e2
          · exact n1 e2
          · exact n2 e2
      · rw [c1] at p2
        refine run fun g g1 g2 g3 => ⟨fun h => absurd h p, fun _ _ => rfl, fun k hk e => ?_, fun _ _ _ _ => rfl, fun _ _ => rfl⟩
        subst e; exact absurd ((iN_lt (by omega) (by omega)).mpr hk) p2
  · exact t_Mo_reply_0 (r_isReplies w r (fun j g hj e => absurd e (q j hj)) fun _ => br0 ⟨rfl, i⟩)
end TELLS
