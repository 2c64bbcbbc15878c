/-! differ, council, quorum -/
section OPS4
variable {L : Nat} {xs : Nat → Int32} {f g : Hp} {T : TD}
theorem c_same {Q : Int32 → Hp → Prop} {a b na nb : Nat} (ka : xS0 L a = (20, na)) (kb : xS0 L b = (20, nb)) (hna : 8 ≤ na) (hnb : 8 ≤ nb) (h1 : (∀ i, i < 8 → f a i = f b i) → Q 1 f) (h0 : (¬ ∀ i, i < 8 → f a i = f b i) → Q 0 f) : CI L xs xm_TP_sameAccounts [.ref a, .ref b] f Q := by
  refine t_TP_sameAccounts_0 ka kb ?_
  refine for0 8 (fun k l g => l = [.ref a, .ref b, .int (iN k)] ∧ g = f ∧ ∀ i, i < k → f a i = f b i) ⟨rfl, rfl, fun i hi => absurd hi (by omega)⟩ ?_ ?_
  · rintro k l g hk ⟨rfl, rfl, a1⟩ k2
    refine t_TP_sameAccounts_2 ka kb (brT ((iN_lt (b := 8) (by omega) (by omega)).mpr (by omega)) ⟨k, rfl, by omega, by omega, fun p => ?_, fun p => h0 fun z => p (z k hk)⟩)
    rw [iN_inc]
    refine k2 _ _ ⟨rfl, rfl, fun i hi => ?_⟩
    by_cases e : i = k
    · rw [e]; exact p
    · exact a1 i (by omega)
  · rintro l g ⟨rfl, rfl, a1⟩
    exact t_TP_sameAccounts_2 ka kb (brF (by decide) (h1 a1))
theorem r_differ {j j2 n : Nat} {u : Nat → Bool} (w : wfT T) (r : rT f 0 T) (hj : j < tZ T 0) (hj2 : j2 < tZ T 0) (hn : n ≤ 2) (hu : u = dif (nd (acc0 (T.2.2.1 j))) (nd (acc0 (T.2.2.1 j2)))) : CI L xs xm_Mo_differ [.ref 400, .int (iN j), .int (iN j2), .int (iN n)] f (fun v h => FrR f h ∧ (n = 0 → v = iN (askN u)) ∧ (n = 1 → v = iN (bN (fun i => tak u i = true) 8)) ∧ (n = 2 → (v = 1 ∧ ∀ i, i < 8 → tak u i = true ∨ acc0 (T.2.2.1 j2) i = acc0 (T.2.2.1 j) i) ∨ (v = 0 ∧ ¬ ∀ i, i < 8 → tak u i = true ∨ acc0 (T.2.2.1 j2) i = acc0 (T.2.2.1 j) i))) := by
  have z1 := w.2.2.1 0 (by omega)
  have r0 : f 401 0 = iN (tZ T 0) := by have := r.2.2.2.2.1 0 (by omega); rwa [Nat.zero_add] at this
  have ho := rC.wf_o w hj
  have ho2 := rC.wf_o w hj2
  refine t_Mo_differ_0 (r_isOf (s := 0) (by omega) r0 z1 (fun _ _ _ => br1 (r_isC w r hj2 fun g1 cu1 rc1 e1 => br1 (r_isIn (a := 0) (b := 2) (by omega) (by omega) (fun m _ hm e => br1 ?_) fun q => absurd rfl (q n (by omega) hn)))) fun q => absurd rfl (q j hj))
  rw [cu1.1, show iN (610 + 82 * j2) + 5 = iN (610 + 82 * j2 + 5) from iN_add _ 5]
  refine r_lays rfl rfl (by omega) (by omega) fun g2 a1 a2 => r_isC w (r.fr (by rw [a2 401 (by omega), e1 401 (by omega)])) hj fun g3 cu3 rc3 e3 => ?_
  rw [cu3.1, show iN (610 + 82 * j) + 5 = iN (610 + 82 * j + 5) from iN_add _ 5]
  refine r_lays rfl rfl (by omega) (by omega) fun g4 b1 b2 => r_seeks u (fun k p q => ?_) fun g5 d1 d2 d3 d4 => ?_
  · rw [b1 k p q, b2 405 (by omega), e3 405 (by omega), a1 k p q, nd_congr (b := acc0 (T.2.2.1 j)) (fun i hi => rc3.2.2.2.2.2.1 i hi) q, nd_congr (b := acc0 (T.2.2.1 j2)) (fun i hi => rc1.2.2.2.2.2.1 i hi) q, hu]
    simp [dif]
  · have fr : FrR f g5 := fun a ha => by rw [d4 a (by omega), b2 a (by omega), e3 a (by omega), a2 a (by omega), e1 a (by omega)]
    refine ⟨fun p => ⟨fun p0 => ?_, fun p0 => ?_⟩, fun p => ?_⟩
    · have p0 := (iN_inj (b := 0) (by omega) (by omega)).mp p0
      exact ⟨fr, fun _ => d1, fun z => absurd z (by omega), fun z => absurd z (by omega)⟩
    · have p := (iN_lt (b := 2) (by omega) (by omega)).mp p
      have p0 : ¬ n = 0 := fun z => p0 (by rw [z]; rfl)
      exact ⟨fr, fun z => absurd z (by omega), fun _ => d2, fun z => absurd z (by omega)⟩
    · have p : ¬ n < 2 := fun z => p ((iN_lt (b := 2) (by omega) (by omega)).mpr z)
      have h11 : g2 400 11 = iN (610 + 82 * j2) := by rw [a2 400 (by omega)]; exact cu1.1
      rw [h11, show iN (610 + 82 * j2) + 5 = iN (610 + 82 * j2 + 5) from iN_add _ 5]
      have h5 : g5 400 11 = iN (610 + 82 * j) := by rw [d3 11 (by omega) (by omega), b2 400 (by omega)]; exact cu3.1
      have q1 : ∀ i, i < 8 → g5 401 (610 + 82 * j2 + 5 + i) = acc0 (T.2.2.1 j2) i := fun i hi => by rw [d4 401 (by omega), b2 401 (by omega), e3 401 (by omega), a2 401 (by omega)]; exact rc1.2.2.2.2.2.1 i hi
      have q2 : ∀ i, i < 8 → g5 401 (610 + 82 * j + 5 + i) = acc0 (T.2.2.1 j) i := fun i hi => by rw [d4 401 (by omega), b2 401 (by omega)]; exact rc3.2.2.2.2.2.1 i hi
      have P : ∀ i, i < 8 → (bN (fun i => tak u i = true) 8).testBit i = (decide (tak u i = true)) := fun i hi => by rw [bN_bit]; simp [hi]
      have bl := bN_lt (fun i => tak u i = true) 8
      refine for0 8 (fun k l h => ∃ v : Int32, l = [.ref 400, .int (iN j), .int (iN j2), .int (iN n), .int (iN (610 + 82 * j2 + 5)), .int v, .int (iN k)] ∧ h = g5 ∧ ((v = 1 ∧ ∀ i, i < k → tak u i = true ∨ acc0 (T.2.2.1 j2) i = acc0 (T.2.2.1 j) i) ∨ (v = 0 ∧ ¬ ∀ i, i < 8 → tak u i = true ∨ acc0 (T.2.2.1 j2) i = acc0 (T.2.2.1 j) i))) ⟨1, rfl, rfl, Or.inl ⟨rfl, fun i hi => absurd hi (by omega)⟩⟩ ?_ ?_
      · rintro k l h hk ⟨v, rfl, rfl, hv⟩ k2
        refine t_Mo_differ_107 (brT ((iN_lt (b := 8) (by omega) (by omega)).mpr (by omega)) ?_)
        rcases hv with ⟨rfl, hv⟩ | ⟨rfl, hv⟩
        · refine br1 ?_
          rw [d2, bit1 (by omega) (by omega), P k hk]
          have ext : ∀ {p : Prop}, (tak u k = true ∨ acc0 (T.2.2.1 j2) k = acc0 (T.2.2.1 j) k) → ∀ i, i < k + 1 → tak u i = true ∨ acc0 (T.2.2.1 j2) i = acc0 (T.2.2.1 j) i := fun z i hi => by
            by_cases e : i = k
            · rw [e]; exact z
            · exact hv i (by omega)
          by_cases ht : tak u k = true
          · rw [if_pos (by simpa using ht)]
            refine brT (by decide) ?_
            rw [iN_inc]
            exact k2 _ _ ⟨1, rfl, rfl, Or.inl ⟨rfl, ext (p := True) (Or.inl ht)⟩⟩
          · rw [if_neg (by simpa using ht)]
            refine brF (by decide) ⟨610 + 82 * j2 + 5 + k, iN_add _ _, by omega, 610 + 82 * j + 5 + k, by rw [h5]; simp only [lit, iN_add], by omega, ?_⟩
            rw [q1 k hk, q2 k hk, iN_inc]
            refine ⟨fun p => k2 _ _ ⟨1, rfl, rfl, Or.inl ⟨rfl, ext (p := True) (Or.inr p)⟩⟩, fun p => k2 _ _ ⟨0, rfl, rfl, Or.inr ⟨rfl, fun z => (z k hk).elim ht p⟩⟩⟩
        · refine br0 ?_
          rw [iN_inc]
          exact k2 _ _ ⟨0, rfl, rfl, Or.inr ⟨rfl, hv⟩⟩
      · rintro l h ⟨v, rfl, rfl, hv⟩
        refine t_Mo_differ_107 (brF (by decide) ?_)
        rcases hv with ⟨rfl, hv⟩ | ⟨rfl, hv⟩
        · exact br1 ⟨fr, fun z => absurd z (by omega), fun z => absurd z (by omega), fun _ => Or.inl ⟨rfl, hv⟩⟩
        · exact br0 ⟨fr, fun z => absurd z (by omega), fun z => absurd z (by omega), fun _ => Or.inr ⟨rfl, hv⟩⟩
theorem op_differ (i : Inv f) (x y z : Int32) : CI L xs xm_TP_differ [.ref 0, .int x, .int y, .int z] f (fun v g => CI L xs xm_Mo_differ [.ref 400, .int x, .int y, .int z] g (fun w h => w = v ∧ Inv h)) := by
  obtain ⟨⟨T, w, c, r⟩, im⟩ := id i
  have z1 := w.2.2.1 0 (by omega)
  have r0 : f 401 0 = iN (tZ T 0) := by have := r.2.2.2.2.1 0 (by omega); rwa [Nat.zero_add] at this
  refine t_TP_differ_0 (c_has (s := 0) k_told (by omega) (c.sz (by omega)) z1 (fun j hj e => br1 ?_) fun q => br0 (t_Mo_differ_0 (r_isOf (s := 0) (by omega) r0 z1 (fun j hj e => absurd e (q j hj)) fun _ => br0 ⟨rfl, i⟩)))
  subst e
  refine c_has (s := 0) k_told (by omega) (c.sz (by omega)) z1 (fun j2 hj2 e => br1 ?_) fun q => br0 (t_Mo_differ_0 (r_isOf (s := 0) (by omega) r0 z1 (fun _ _ _ => br1 (r_isC0 w r q (br0 ⟨rfl, i⟩))) fun q2 => absurd rfl (q2 j hj)))
  subst e
  have cc1 : cC f (7 + 21 * j) _ := c.2.2.2.2.2.1 j hj
  have cc2 : cC f (7 + 21 * j2) _ := c.2.2.2.2.2.1 j2 hj2
  refine ⟨j, rfl, by omega, c_copyAcc (kf_1_5 (k_coun (by omega))).2 rfl (by omega) (by omega) fun g1 a1 a2 a3 => ⟨j2, rfl, by omega, ?_⟩⟩
  have m1 : ∀ i, i < 8 → g1 255 i = acc0 (T.2.2.1 j) i := fun i hi => by rw [a1 i hi]; exact cc1.2.2.2.2.2.1 i hi
  have m2 : ∀ i, i < 8 → g1 (7 + 21 * j2 + 1) i = acc0 (T.2.2.1 j2) i := fun i hi => by rw [a3 _ (by omega)]; exact cc2.2.2.2.2.2.1 i hi
  refine c_fetch (u := dif (nd (acc0 (T.2.2.1 j))) (nd (acc0 (T.2.2.1 j2)))) rfl rfl (kf_1_5 (k_coun (by omega))).2 (by omega) (by omega) (by omega) (by omega) (by omega) (fun k p q => by rw [nd_congr m1 q, nd_congr m2 q]; simp [dif]) fun g2 b1 b2 b3 b4 b5 => ?_
  have hg : FrC f g2 := fun a ha => by rw [b5 a (by omega) (by omega) (by omega) (by omega), a3 a (by omega)]
  generalize hu : dif (nd (acc0 (T.2.2.1 j))) (nd (acc0 (T.2.2.1 j2))) = u at *
  have run := fun {n : Nat} (hn : n ≤ 2) => r_differ (L := L) (xs := xs) w (r.fr (hg 401 (by omega))) hj hj2 hn hu.symm
  refine ⟨fun p => ?_, fun p0 => ⟨fun p => ?_, fun p1 => ⟨fun p => ?_, fun p2 => ?_⟩⟩⟩
  · subst p
    refine CI.mono (run (n := 0) (by omega)) fun v h b => ⟨?_, i.q hg b.1⟩
    rw [b.2.1 rfl, b1]
  · subst p
    refine CI.mono (run (n := 1) (by omega)) fun v h b => ⟨?_, i.q hg b.1⟩
    rw [b.2.2.1 rfl, b2]
  · subst p
    have e3 : ∀ k, k < 8 → (g2 255 k = g2 (7 + 21 * j2 + 1) k ↔ tak u k = true ∨ acc0 (T.2.2.1 j2) k = acc0 (T.2.2.1 j) k) := fun k hk => by
      rw [b3 k hk, b5 (7 + 21 * j2 + 1) (by omega) (by omega) (by omega) (by omega), m1 k hk, m2 k hk]
      by_cases ht : tak u k = true
      · rw [if_pos ht]; exact ⟨fun _ => Or.inl ht, fun _ => rfl⟩
      · rw [if_neg ht]; exact ⟨fun q => Or.inr q.symm, fun q => (q.resolve_left ht).symm⟩
    refine c_same rfl (kf_1_5 (k_coun (by omega))).2 (by omega) (by omega) (fun q => br1 ?_) fun q => br0 ?_
    · refine CI.mono (run (n := 2) (by omega)) fun v h b => ⟨?_, i.q hg b.1⟩
      rcases b.2.2.2 rfl with ⟨e, -⟩ | ⟨-, e⟩
      · exact e
      · exact absurd (fun k hk => (e3 k hk).mp (q k hk)) e
    · refine CI.mono (run (n := 2) (by omega)) fun v h b => ⟨?_, i.q hg b.1⟩
      rcases b.2.2.2 rfl with ⟨-, e⟩ | ⟨e, -⟩
      · exact absurd (fun k hk => (e3 k hk).mpr (e k hk)) q
      · exact e
  · refine t_Mo_differ_0 (r_isOf (s := 0) (n := tZ T 0) (by omega) (by rw [hg 401 (by omega)]; exact r0) z1 (fun _ _ _ => br1 (r_isC w (r.fr (hg 401 (by omega))) hj2 fun g3 cu1 rc1 e1 => br1 (r_isIn (a := 0) (b := 2) (by omega) (by omega) (fun m _ hm e => ?_) fun q => br0 ⟨rfl, i.q hg fun a ha => e1 a (by omega)⟩))) fun q => absurd rfl (q j hj))
    exfalso
    have : m = 0 ∨ m = 1 ∨ m = 2 := by omega
    rcases this with t | t | t <;> subst t
    · exact p0 e
    · exact p1 e
    · exact p2 e
/-- what a council tells -/
def tellC (D : CD) (n : Nat) : Int32 :=
  if n = 0 then iN (dF D) else if n = 1 then iN (dW D) else if n = 2 then iN (dS D) else if n = 3 then iN (dL D) else if n = 4 then iN (dN D)
  else if 10 ≤ n ∧ n < 18 then iN (dA D (n - 10)) else if 20 ≤ n ∧ n < 20 + dN D then iN (dO D (n - 20)) else if 30 ≤ n ∧ n < 30 + dN D then iN (dP D (n - 30))
  else if 100 ≤ n ∧ (n - 100) / 10 < 3 * dF D + 1 ∧ n % 10 < 3 * dF D + 1 ∧ ¬ (n - 100) / 10 = n % 10 then iN (dD D ((n - 100) / 10) (n % 10)) else -1
theorem c_detail {Q : Int32 → Hp → Prop} {c n : Nat} {D : CD} (kc : xS0 L c = (1, 0)) (w : wfC D) (cc : cC f c D) (hn : n < 2147483648) (h5 : 5 ≤ n) (h : Q (tellC D n) f) : CI L xs xm_Co_detail [.ref c, .int (iN n)] f Q := by
  obtain ⟨w1, w2, w3, w4, w5, w6, w7, w8⟩ := w
  obtain ⟨c1, c2, c3, c4, c5, c6, c7, c8⟩ := cc
  have z0 : ¬ n = 0 := by omega
  have z1 : ¬ n = 1 := by omega
  have z2 : ¬ n = 2 := by omega
  have z3 : ¬ n = 3 := by omega
  have z4 : ¬ n = 4 := by omega
  unfold tellC at h
  rw [if_neg z0, if_neg z1, if_neg z2, if_neg z3, if_neg z4] at h
  have l76 : ¬ (10 ≤ n ∧ n < 18) → ¬ (20 ≤ n ∧ n < 20 + dN D) → ¬ (30 ≤ n ∧ n < 30 + dN D) → Wp L xs xm_Co_detail 76 [.ref c, .int (iN n), .retAddr 0, .retAddr 0] [] f (QI Q) := by
    intro q1 q2 q3
    rw [if_neg q1, if_neg q2, if_neg q3] at h
    refine t_Co_detail_76 kc ?_
    by_cases p : n < 100
    · rw [if_neg (fun z => absurd z.1 (by omega))] at h
      exact brT ((iN_lt (b := 100) (by omega) (by omega)).mpr (by omega)) h
    · refine brF (fun z => absurd ((iN_lt (b := 100) (by omega) (by omega)).mp z) (by omega)) ?_
      rw [show iN n - 100 = iN (n - 100) from iN_sub (b := 100) (by omega), show iN (n - 100) / 10 = iN ((n - 100) / 10) from idiv_iN (b := 10) (by omega) (by omega), show jrem (iN (n - 100)) 10 = iN ((n - 100) % 10) from jrem_iN (b := 10) (by omega) (by omega), show (n - 100) % 10 = n % 10 by omega]
      by_cases p2 : n < 200
      · refine brT ((iN_lt (b := 200) (by omega) (by omega)).mpr (by omega)) ?_
        by_cases p3 : (n - 100) / 10 = n % 10
        · rw [if_neg (fun z => z.2.2.2 p3)] at h
          exact brT (congrArg iN p3) h
        · refine brF (fun z => p3 ((iN_inj (by omega) (by omega)).mp z)) ?_
          refine c_cohas kc c1 w1 (fun k hk e => br1 ?_) fun q => br0 ?_
          · rw [iN_inj (by omega) (by omega)] at e
            refine c_cohas kc c1 w1 (fun k2 hk2 e2 => br1 ?_) fun q => br0 ?_
            · rw [iN_inj (by omega) (by omega)] at e2
              refine ⟨_, rfl, by omega, _, rfl, by omega, ?_⟩
              rw [c8 _ _ (by omega) (by omega)]
              rw [if_pos ⟨by omega, by omega, by omega, p3⟩] at h
              exact h
            · rw [if_neg (fun z => q _ z.2.2.1 rfl)] at h
              exact h
          · rw [if_neg (fun z => q _ z.2.1 rfl)] at h
            exact h
      · rw [if_neg (fun z => absurd z.2.1 (by omega))] at h
        exact brF (fun z => absurd ((iN_lt (b := 200) (by omega) (by omega)).mp z) (by omega)) h
  have l49 : ¬ (10 ≤ n ∧ n < 18) → ¬ (20 ≤ n ∧ n < 20 + dN D) → Wp L xs xm_Co_detail 49 [.ref c, .int (iN n), .retAddr 0, .retAddr 0] [] f (QI Q) := by
    intro q1 q2
    refine t_Co_detail_49 kc ?_
    by_cases p : n < 30
    · exact brT ((iN_lt (b := 30) (by omega) (by omega)).mpr (by omega)) (l76 q1 q2 (by omega))
    · refine brF (fun z => absurd ((iN_lt (b := 30) (by omega) (by omega)).mp z) (by omega)) ?_
      rw [c5, show 30 + iN (dN D) = iN (30 + dN D) from iN_add 30 _]
      by_cases p2 : n < 30 + dN D
      · refine brT ((iN_lt (b := _) (by omega) (by omega)).mpr (by omega)) ⟨n - 30, iN_sub (b := 30) (by omega), by omega, ?_⟩
        rw [(c7 _ (by omega)).2]
        rw [if_neg q1, if_neg q2, if_pos ⟨by omega, p2⟩] at h
        exact h
      · exact brF (fun z => absurd ((iN_lt (b := _) (by omega) (by omega)).mp z) (by omega)) (l76 q1 q2 (by omega))
  have l22 : ¬ (10 ≤ n ∧ n < 18) → Wp L xs xm_Co_detail 22 [.ref c, .int (iN n), .retAddr 0, .retAddr 0] [] f (QI Q) := by
    intro q1
    refine t_Co_detail_22 kc ?_
    by_cases p : n < 20
    · exact brT ((iN_lt (b := 20) (by omega) (by omega)).mpr (by omega)) (l49 q1 (by omega))
    · refine brF (fun z => absurd ((iN_lt (b := 20) (by omega) (by omega)).mp z) (by omega)) ?_
      rw [c5, show 20 + iN (dN D) = iN (20 + dN D) from iN_add 20 _]
      by_cases p2 : n < 20 + dN D
      · refine brT ((iN_lt (b := _) (by omega) (by omega)).mpr (by omega)) ⟨n - 20, iN_sub (b := 20) (by omega), by omega, ?_⟩
        rw [(c7 _ (by omega)).1]
        rw [if_neg q1, if_pos ⟨by omega, p2⟩] at h
        exact h
      · exact brF (fun z => absurd ((iN_lt (b := _) (by omega) (by omega)).mp z) (by omega)) (l49 q1 (by omega))
  refine t_Co_detail_0 kc ?_
  by_cases p : n < 10
  · exact brT ((iN_lt (b := 10) (by omega) (by omega)).mpr (by omega)) (l22 (by omega))
  · refine brF (fun z => absurd ((iN_lt (b := 10) (by omega) (by omega)).mp z) (by omega)) ?_
    by_cases p2 : n < 18
    · refine brT ((iN_lt (b := 18) (by omega) (by omega)).mpr (by omega)) ⟨n - 10, iN_sub (b := 10) (by omega), by omega, ?_⟩
      rw [c6 _ (by omega)]
      rw [if_pos ⟨by omega, p2⟩] at h
      exact h
    · exact brF (fun z => absurd ((iN_lt (b := 18) (by omega) (by omega)).mp z) (by omega)) (l22 (by omega))
theorem c_detail0 {Q : Int32 → Hp → Prop} {c : Nat} {x : Int32} (kc : xS0 L c = (1, 0)) (hx : x < 0) {F : Nat} (hF : F ≤ 10) (h4 : f c 4 = iN F) (h : Q (-1) f) : CI L xs xm_Co_detail [.ref c, .int x] f Q := by
  refine t_Co_detail_0 kc (brT (iN_neg_lt hx (n := 10) (by omega)) (t_Co_detail_22 kc (brT (iN_neg_lt hx (n := 20) (by omega)) (t_Co_detail_49 kc (brT (iN_neg_lt hx (n := 30) (by omega)) (t_Co_detail_76 kc (brT (iN_neg_lt hx (n := 100) (by omega)) h)))))))
theorem r_council {Q : Int32 → Hp → Prop} {j n : Nat} (w : wfT T) (r : rT f 0 T) (hj : j < tZ T 0) (hn : n < 2147483648) (h : ∀ g, FrR f g → Q (tellC (T.2.2.1 j) n) g) : CI L xs xm_Mo_council [.ref 400, .int (iN j), .int (iN n)] f Q := by
  have wc := w.2.2.2.1 j hj
  have ho := rC.wf_o w hj
  refine t_Mo_council_0 (r_isC w r hj fun g cu rc e => br1 (brF (iN_nn hn) ?_))
  have h := h g fun a ha => e a (by omega)
  generalize T.2.2.1 j = D at *
  obtain ⟨w1, w2, w3, w4, w5, w6, w7, w8⟩ := id wc
  obtain ⟨c1, c2, c3, c4, c5, c6, c7, c8⟩ := id rc
  refine r_isIn (a := 0) (b := 4) (by omega) (by omega) (fun m _ hm e2 => br1 ⟨610 + 82 * j + n, by rw [cu.1]; exact iN_add _ _, by rw [iN_inj (by omega) (by omega)] at e2; omega, ?_⟩) fun q => br0 ?_
  · rw [iN_inj (by omega) (by omega)] at e2
    have : n = 0 ∨ n = 1 ∨ n = 2 ∨ n = 3 ∨ n = 4 := by omega
    rcases this with t | t | t | t | t <;> subst t
    · rw [Nat.add_zero, c1]; exact h
    · rw [c2]; exact h
    · rw [c3]; exact h
    · rw [c4]; exact h
    · rw [c5]; exact h
  · have n5 : 5 ≤ n := by
      rcases Nat.lt_or_ge n 5 with z | z
      · exact absurd rfl (q n (by omega) (by omega))
      · exact z
    unfold tellC at h
    rw [if_neg (show ¬ n = 0 by omega), if_neg (show ¬ n = 1 by omega), if_neg (show ¬ n = 2 by omega), if_neg (show ¬ n = 3 by omega), if_neg (show ¬ n = 4 by omega)] at h
    rw [show jrem (iN n) 10 = iN (n % 10) from jrem_iN (b := 10) (by omega) (by omega), show iN n / 10 = iN (n / 10) from idiv_iN (b := 10) (by omega) (by omega)]
    by_cases p : n < 100
    · refine brT ((iN_lt (b := 100) (by omega) (by omega)).mpr (by omega)) ?_
      by_cases t1 : n / 10 = 1
      · refine brT ((iN_inj (b := 1) (by omega) (by omega)).mpr (by omega)) ?_
        by_cases t2 : n % 10 < 8
        · refine brT ((iN_lt (b := 8) (by omega) (by omega)).mpr (by omega)) ⟨610 + 82 * j + 5 + n % 10, by rw [cu.1]; simp only [lit, iN_add], by omega, ?_⟩
          rw [c6 _ t2]
          rw [if_pos ⟨by omega, by omega⟩, show n - 10 = n % 10 by omega] at h
          exact h
        · rw [if_neg (by omega), if_neg (by omega), if_neg (by omega), if_neg (by omega)] at h
          exact brF (fun z => absurd ((iN_lt (b := 8) (by omega) (by omega)).mp z) (by omega)) h
      · refine brF (fun z => absurd ((iN_inj (b := 1) (by omega) (by omega)).mp z) (by omega)) ?_
        by_cases t2 : n / 10 = 2
        · refine brT ((iN_inj (b := 2) (by omega) (by omega)).mpr (by omega)) ?_
          rw [cu.2.2.2.2.2.2.2]
          by_cases t3 : n % 10 < dN D
          · refine brT ((iN_lt (b := _) (by omega) (by omega)).mpr (by omega)) (r_ordAcc cu rc wc ho t3 ?_)
            rw [if_neg (by omega), if_pos ⟨by omega, by omega⟩, show n - 20 = n % 10 by omega] at h
            exact h
          · rw [if_neg (by omega), if_neg (by omega), if_neg (by omega), if_neg (by omega)] at h
            exact brF (fun z => absurd ((iN_lt (b := _) (by omega) (by omega)).mp z) (by omega)) h
        · refine brF (fun z => absurd ((iN_inj (b := 2) (by omega) (by omega)).mp z) (by omega)) ?_
          by_cases t3 : n / 10 = 3
          · refine brT ((iN_inj (b := 3) (by omega) (by omega)).mpr (by omega)) ?_
            rw [cu.2.2.2.2.2.2.2]
            by_cases t4 : n % 10 < dN D
            · refine brT ((iN_lt (b := _) (by omega) (by omega)).mpr (by omega)) (r_ordPlus cu rc wc ho t4 ?_)
              rw [if_neg (by omega), if_neg (by omega), if_pos ⟨by omega, by omega⟩, show n - 30 = n % 10 by omega] at h
              exact h
            · rw [if_neg (by omega), if_neg (by omega), if_neg (by omega), if_neg (by omega)] at h
              exact brF (fun z => absurd ((iN_lt (b := _) (by omega) (by omega)).mp z) (by omega)) h
          · rw [if_neg (by omega), if_neg (by omega), if_neg (by omega), if_neg (by omega)] at h
            exact brF (fun z => absurd ((iN_inj (b := 3) (by omega) (by omega)).mp z) (by omega)) h
    · refine brF (fun z => absurd ((iN_lt (b := 100) (by omega) (by omega)).mp z) (by omega)) ?_
      rw [if_neg (by omega), if_neg (by omega), if_neg (by omega)] at h
      rw [show iN n - 100 = iN (n - 100) from iN_sub (b := 100) (by omega), show iN (n - 100) / 10 = iN ((n - 100) / 10) from idiv_iN (b := 10) (by omega) (by omega)]
      refine r_isMember cu.2.2.1 w1 (fun k hk e2 => br1 ?_) fun q => br0 ?_
      · rw [iN_inj (by omega) (by omega)] at e2
        refine r_isMember cu.2.2.1 w1 (fun k2 hk2 e3 => br1 ?_) fun q => br0 ?_
        · rw [iN_inj (by omega) (by omega)] at e3
          by_cases t : (n - 100) / 10 = n % 10
          · rw [if_neg (fun z => z.2.2.2 t)] at h
            exact brT (congrArg iN t) h
          · rw [if_pos ⟨by omega, by omega, by omega, t⟩] at h
            exact brF (fun z => t ((iN_inj (by omega) (by omega)).mp z)) (r_delay cu rc ho (by omega) (by omega) h)
        · rw [if_neg (fun z => q _ z.2.2.1 rfl)] at h
          exact h
      · rw [if_neg (fun z => q _ z.2.1 rfl)] at h
        exact h
theorem op_council (i : Inv f) (x y : Int32) : CI L xs xm_TP_council [.ref 0, .int x, .int y] f (fun v g => CI L xs xm_Mo_council [.ref 400, .int x, .int y] g (fun w h => w = v ∧ Inv h)) := by
  obtain ⟨⟨T, w, c, r⟩, im⟩ := id i
  have z1 := w.2.2.1 0 (by omega)
  refine t_TP_council_0 (c_has (s := 0) k_told (by omega) (c.sz (by omega)) z1 (fun j hj e => br1 ?_) fun q => br0 (t_Mo_council_0 (r_isC0 w r q (br0 ⟨rfl, i⟩))))
  subst e
  have wc := w.2.2.2.1 j hj
  have cc : cC f (7 + 21 * j) _ := c.2.2.2.2.2.1 j hj
  have kc : xS0 L (7 + 21 * j) = (1, 0) := k_coun (by omega)
  have run : ∀ {n : Nat} {v : Int32}, n < 2147483648 → tellC (T.2.2.1 j) n = v → CI L xs xm_Mo_council [.ref 400, .int (iN j), .int (iN n)] f (fun w h => w = v ∧ Inv h) := fun hn hv => r_council w r hj hn fun g fr => ⟨hv, i.q (FrC.refl f) fr⟩
  refine ⟨j, rfl, by omega, fun p => ?_, fun p0 => ⟨fun p => ?_, fun p1 => ⟨fun p => ?_, fun p2 => ⟨fun p => ?_, fun p3 => ⟨fun p => ?_, fun p4 => ?_⟩⟩⟩⟩⟩
  · subst p; exact run (n := 0) (by omega) cc.1.symm
  · subst p; exact run (n := 1) (by omega) cc.2.1.symm
  · subst p; exact run (n := 2) (by omega) cc.2.2.1.symm
  · subst p; exact run (n := 3) (by omega) cc.2.2.2.1.symm
  · subst p; exact run (n := 4) (by omega) cc.2.2.2.2.1.symm
  · by_cases hy : y < 0
    · exact c_detail0 kc hy wc.2.2.2.2.1 cc.2.2.2.2.1 (t_Mo_council_0 (r_isC w r hj fun g cu rc e => br1 (brT hy ⟨rfl, i.fr fun a ha => e a (by omega)⟩)))
    · obtain ⟨n, hn, rfl⟩ := iN_ex0 hy
      have n5 : 5 ≤ n := by
        rcases Nat.lt_or_ge n 5 with z | z
        · exfalso
          have : n = 0 ∨ n = 1 ∨ n = 2 ∨ n = 3 ∨ n = 4 := by omega
          rcases this with t | t | t | t | t <;> subst t
          · exact p0 rfl
          · exact p1 rfl
          · exact p2 rfl
          · exact p3 rfl
          · exact p4 rfl
        · exact z
      exact c_detail kc wc cc hn n5 (run hn rfl)
end OPS4
