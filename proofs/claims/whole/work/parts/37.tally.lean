/-! match, suspects, voices, lack -/
theorem cnt0 (p : Nat → Prop) [DecidablePred p] : ∀ n, (∀ k, k < n → ¬ p k) → cntW p n = 0
  | 0, _ => rfl
  | n + 1, h => by rw [cntW_s, if_neg (h n (by omega)), cnt0 p n fun k hk => h k (by omega)]
theorem cnt_mono (p : Nat → Prop) [DecidablePred p] (n : Nat) : ∀ d, cntW p n ≤ cntW p (n + d)
  | 0 => Nat.le_refl _
  | d + 1 => by
    have := cnt_mono p n d
    rw [← Nat.add_assoc, cntW_s]
    split <;> omega
theorem cnt_lt {p : Nat → Prop} [DecidablePred p] {k n : Nat} (hp : p k) (h : k < n) : cntW p k < cntW p n := by
  have := cnt_mono p (k + 1) (n - (k + 1))
  rw [show k + 1 + (n - (k + 1)) = n by omega, cntW_s, if_pos hp] at this
  omega
theorem cnt_or {p : Nat → Prop} [DecidablePred p] {q : Nat → Prop} [DecidablePred q] {r : Nat} (hr : ¬ p r) (hq : ∀ k, q k ↔ p k ∨ k = r) : ∀ n, cntW q n = if r < n then cntW p n + 1 else cntW p n
  | 0 => rfl
  | n + 1 => by
    rw [cntW_s, cntW_s, cnt_or hr hq n]
    by_cases e : n = r
    · subst e
      rw [if_pos ((hq n).mpr (Or.inr rfl)), if_neg hr, if_neg (show ¬ n < n by omega), if_pos (show n < n + 1 by omega)]
    · by_cases hp : p n
      · rw [if_pos ((hq n).mpr (Or.inl hp)), if_pos hp]
        by_cases t : r < n
        · rw [if_pos t, if_pos (by omega)]
        · rw [if_neg t, if_neg (by omega)]
      · rw [if_neg (fun z => ((hq n).mp z).elim hp e), if_neg hp]
        by_cases t : r < n
        · rw [if_pos t, if_pos (by omega)]
        · rw [if_neg t, if_neg (by omega)]
theorem voc_bit {M : Nat} {q : Nat → Int32} {r : Int32} {m : Nat} (hm : m < M) : (voc M q r).testBit m = true ↔ q m = r := by
  rw [bN_bit]; simp [hm]
theorem voc_cnt {M : Nat} {q : Nat → Int32} {r : Int32} (h : M ≤ 14) : bcn (voc M q r) = cntW (fun m => q m = r) M := by
  rw [bcn_cnt (bN_lt _ M) h]
  exact cntW_congr M fun k hk => voc_bit hk
theorem mtV_two {F : Nat} {R : PD} {k : Nat} (hF : F ≤ 2) (w : wfP R) (hk : k < R.1) (h : mtP F R k) : mtV F R k 0 = mtV F R k (-1) := by
  unfold mtV
  rcases mxI_two (fun m => (voc (3 * F + 1) (hRes (3 * F + 1) R (k + 1)) (iN (R.2.2.2 k))).testBit m = true) (hVw (3 * F + 1) R (k + 1)) (3 * F + 1) (fun m hm hp => hVw_r w (k + 1) hk m (by rw [(voc_bit hm).mp hp]; exact iN_ne1 (by have := (w.2 k hk).2.2; omega))) with ⟨r, hr, e1, e2⟩ | ⟨q, -⟩
  · rw [e1, e2]
  · have h2 := h.2
    rw [bcn_cnt (bN_lt _ _) (by omega), cnt0 _ _ q] at h2
    omega
section TALLY2
variable {L : Nat} {xs : Nat → Int32} {f g : Hp} {T : TD}
theorem r_CR {A B Q : Hp → Prop} {j k : Nat} (w : wfT T) (r : rT f 0 T) (hj : j < tZ T 0) (hk : k < tZ T 2) (kk : ∀ g, cur g (610 + 82 * j) (T.2.2.1 j) → g 400 56 = iN (1096 + 37 * k) → rP g (1096 + 37 * k) (T.2.2.2.2 k) → FrR f g → Q g) : CI L xs xm_Mo_isCouncil [.ref 400, .int (iN j)] f (fun v1 g1 => (v1 = 0 → A g1) ∧ (¬ v1 = 0 → CI L xs xm_Mo_isReplies [.ref 400, .int (iN k)] g1 (fun v2 g2 => (v2 = 0 → B g2) ∧ (¬ v2 = 0 → Q g2)))) := by
  have z := w.2.2.1 2 (by omega)
  refine r_isC w r hj fun g cu rc e => br1 (r_isReplies w (r.fr (e 401 (by omega))) (fun k' g' hk' ek eg => br1 ?_) fun q => absurd rfl (q k hk))
  rw [iN_inj (by omega) (by omega)] at ek
  subst ek
  have g1 : ∀ a, ¬ a = 400 → g' a = f a := fun a ha => by rw [eg, xu_a ha, e a ha]
  have rp := r.2.2.2.2.2.2.2 k hk
  rw [Nat.zero_add] at rp
  refine kk g' ?_ (by rw [eg, xu_eq]) (rp.fr (g1 401 (by omega))) fun a ha => g1 a (by omega)
  unfold cur at cu ⊢
  simp only [eg, xu_k (show ¬ 11 = 56 by omega), xu_k (show ¬ 12 = 56 by omega), xu_k (show ¬ 13 = 56 by omega), xu_k (show ¬ 14 = 56 by omega), xu_k (show ¬ 15 = 56 by omega), xu_k (show ¬ 16 = 56 by omega), xu_k (show ¬ 17 = 56 by omega), xu_k (show ¬ 18 = 56 by omega)]
  exact cu
theorem r_CRno {A B Q : Hp → Prop} {x y : Int32} (w : wfT T) (r : rT f 0 T) (h : ¬ ((∃ j, j < tZ T 0 ∧ x = iN j) ∧ ∃ j, j < tZ T 2 ∧ y = iN j)) (ha : ∀ g, FrR f g → A g) (hb : ∀ g, FrR f g → B g) : CI L xs xm_Mo_isCouncil [.ref 400, .int x] f (fun v1 g1 => (v1 = 0 → A g1) ∧ (¬ v1 = 0 → CI L xs xm_Mo_isReplies [.ref 400, .int y] g1 (fun v2 g2 => (v2 = 0 → B g2) ∧ (¬ v2 = 0 → Q g2)))) := by
  refine r_isCouncil w r (fun j g hj ex cu e => br1 ?_) fun q => br0 (ha f (FrR.refl f))
  refine r_isReplies w (r.fr (e 401 (by omega))) (fun k g' hk ek eg => absurd ⟨⟨j, hj, ex⟩, k, hk, ek⟩ h) fun q => br0 (hb g fun a ha => e a (by omega))
theorem r_match {j k0 n : Nat} (w : wfT T) (r : rT f 0 T) (hj : j < tZ T 0) (hk0 : k0 < tZ T 2) (hn : n ≤ 2) {F : Nat} {R : PD} (eF : F = dF (T.2.2.1 j)) (eR : R = T.2.2.2.2 k0) : CI L xs xm_Mo_match [.ref 400, .int (iN j), .int (iN k0), .int (iN n)] f (fun v h => FrR f h ∧ ((∀ k, k < R.1 → ¬ mtP F R k) → v = -1) ∧ ∀ k, k < R.1 → mtP F R k → (∀ i, i < k → ¬ mtP F R i) → (n = 0 → v = iN k) ∧ (n = 1 → v = iN (R.2.2.2 k)) ∧ (n = 2 → v = mtV F R k 0)) := by
  have wc := w.2.2.2.1 j hj
  have wp := w.2.2.2.2.2 k0 hk0
  have z2 := w.2.2.1 2 (by omega)
  refine t_Mo_match_0 (r_CR w r hj hk0 fun g cu g56 rp fr => ?_)
  generalize T.2.2.1 j = D at *
  rw [← eR] at wp rp
  clear eR
  have hF : F ≤ 2 := by rw [eF]; exact wc.1
  have hM : g 400 13 = iN (3 * F + 1) := by rw [eF]; exact cu.2.2.1
  have hF12 : g 400 12 = iN F := by rw [eF]; exact cu.2.1
  refine r_isIn (a := 0) (b := 2) (by omega) (by omega) (fun m _ hm e => br1 ?_) fun q => absurd rfl (q n (by omega) hn)
  have w1 := wp.1
  refine for0 R.1 (fun k l h => ∃ v v2 : Value, (v.category != 2) = true ∧ (v2.category != 2) = true ∧ l = [.ref 400, .int (iN j), .int (iN k0), .int (iN n), .int (iN k), v, v2, .retAddr 0, .retAddr 0] ∧ (∀ i, i < k → ¬ mtP F R i) ∧ (∀ j, ¬ j = 59 → h 400 j = g 400 j) ∧ ∀ x, ¬ x = 400 → ¬ x = 433 → ¬ x = 434 → h x = g x) ⟨_, _, rfl, rfl, rfl, fun i hi => absurd hi (by omega), fun _ _ => rfl, fun _ _ _ _ => rfl⟩ ?_ ?_
  · rintro k l h hk ⟨v, v2, hv, hv2, rfl, d1, d2, d3⟩ k2
    obtain ⟨w2, w3, w4⟩ := wp.2 k hk
    have rh : rP h (1096 + 37 * k0) R := rp.fr (d3 401 (by omega) (by omega) (by omega))
    have h56 : h 400 56 = iN (1096 + 37 * k0) := by rw [d2 56 (by omega), g56]
    refine t_Mo_match_30 hv hv2 ⟨1096 + 37 * k0, h56, by omega, brT (by rw [rh.1]; exact ((iN_lt (b := _) (by omega) (by omega)).mpr (by omega))) ?_⟩
    rw [iN_inc]
    refine r_come hF wp (by rw [d2 13 (by omega), hM]) h56 (by omega) rh (by omega) (N := k + 1) (by omega) fun h1 a1 a2 a3 a4 a5 => ?_
    have r1 : rP h1 (1096 + 37 * k0) R := rh.fr (a5 401 (by omega) (by omega) (by omega))
    have q56 : h1 400 56 = iN (1096 + 37 * k0) := by rw [a4 56 (by omega), h56]
    have qM : h1 400 13 = iN (3 * F + 1) := by rw [a4 13 (by omega), d2 13 (by omega), hM]
    obtain ⟨x1, x2, x3⟩ := r1.2 k hk
    refine ⟨1096 + 37 * k0 + 3 + 3 * k, by rw [q56]; simp only [lit, iN_add, iN_mul], by omega, ?_⟩
    rw [x3]
    refine r_tell qM (by omega) ⟨1096 + 37 * k0 + 1 + 3 * k, by rw [q56]; simp only [lit, iN_add, iN_mul], by omega, ?_⟩
    rw [x1, voc_congr (q := hRes (3 * F + 1) R (k + 1)) (fun m hm => a1 m (by omega))]
    have nx : ¬ mtP F R k → Wp L xs xm_Mo_match 30 [.ref 400, .int (iN j), .int (iN k0), .int (iN n), .int (iN (k + 1)), .int (iN (R.2.2.2 k)), .int (iN (voc (3 * F + 1) (hRes (3 * F + 1) R (k + 1)) (iN (R.2.2.2 k)))), .retAddr 0, .retAddr 0] [] h1 _ := fun z => k2 _ _ ⟨_, _, rfl, rfl, rfl, fun i hi => by
      by_cases t : i = k
      · rw [t]; exact z
      · exact d1 i (by omega), fun j hj => by rw [a4 j hj, d2 j hj], fun x p q r => by rw [a5 x p q r, d3 x p q r]⟩
    refine r_isMember qM hF (fun m hm e => br1 ?_) fun z => br0 (nx fun y => z _ y.1 rfl)
    rw [iN_inj (by omega) (by omega)] at e
    have hv' := voc_lt (M := 3 * F + 1) (q := hRes (3 * F + 1) R (k + 1)) (r := iN (R.2.2.2 k)) (by omega)
    have hb := bcn_le (voc (3 * F + 1) (hRes (3 * F + 1) R (k + 1)) (iN (R.2.2.2 k)))
    refine r_bitsOf hv' ?_
    rw [a4 12 (by omega), d2 12 (by omega), hF12, iN_lt (by omega) (by omega)]
    refine ⟨fun p => ?_, fun p => nx fun y => p y.2⟩
    have hmt : mtP F R k := ⟨by omega, p⟩
    obtain ⟨V, hV⟩ : ∃ V, V = voc (3 * F + 1) (hRes (3 * F + 1) R (k + 1)) (iN (R.2.2.2 k)) := ⟨_, rfl⟩
    rw [← hV] at hv' ⊢
    have vb : ∀ m, m < 3 * F + 1 → V.testBit m = true → h1 434 m = hVw (3 * F + 1) R (k + 1) m := fun m hm z => by
      refine a2 m (by omega) ?_
      rw [hV, voc_bit hm] at z
      rw [z]
      exact iN_ne1 (by omega)
    refine for0 (3 * F + 1) (fun i l h2 => l = [.ref 400, .int (iN j), .int (iN k0), .int (iN n), .int (iN k), .int (iN (R.2.2.2 k)), .int (iN V), .int (mxI (fun m => V.testBit m = true) (hVw (3 * F + 1) R (k + 1)) 0 i), .int (iN i)] ∧ h2 = h1) ⟨rfl, rfl⟩ ?_ ?_
    · rintro i l h2 hi ⟨rfl, rfl⟩ k3
      refine t_Mo_match_122 ?_
      rw [qM, iN_inc, bit1 (by omega) (by omega)]
      refine brT ((iN_lt (b := _) (by omega) (by omega)).mpr (by omega)) ?_
      by_cases t : V.testBit i = true
      · rw [if_pos t]
        refine brT (by decide) ⟨i, rfl, by omega, ?_⟩
        rw [vb i hi t]
        refine ⟨fun p => k3 _ _ ⟨?_, rfl⟩, fun p => k3 _ _ ⟨?_, rfl⟩⟩
        · rw [mxI_s, if_pos t, imax, if_pos p]
        · rw [mxI_s, if_pos t, imax, if_neg p]
      · rw [if_neg t]
        refine brF (by decide) (k3 _ _ ⟨?_, rfl⟩)
        rw [mxI_s, if_neg t]
    · rintro l h2 ⟨rfl, rfl⟩
      refine t_Mo_match_122 ?_
      rw [qM]
      refine brF (fun z => absurd ((iN_lt (b := _) (by omega) (by omega)).mp z) (by omega)) ?_
      have ff : FrR f h2 := fun a ha => by rw [a5 a (by omega) (by omega) (by omega), d3 a (by omega) (by omega) (by omega), fr a ha]
      have uniq : ∀ k', k' < R.1 → mtP F R k' → (∀ i, i < k' → ¬ mtP F R i) → k' = k := fun k' _ y1 y2 => by
        rcases Nat.lt_trichotomy k' k with t | t | t
        · exact absurd y1 (d1 k' t)
        · exact t
        · exact absurd hmt (y2 k t)
      refine ⟨fun p => ?_, fun p => ⟨fun p1 => ?_, fun p1 => ?_⟩⟩
      · have p := (iN_inj (b := 0) (by omega) (by omega)).mp p
        refine ⟨ff, fun z => absurd hmt (z k hk), fun k' y0 y1 y2 => ?_⟩
        rw [uniq k' y0 y1 y2]
        exact ⟨fun _ => rfl, fun z => absurd z (by omega), fun z => absurd z (by omega)⟩
      · have p1 := (iN_inj (b := 1) (by omega) (by omega)).mp p1
        refine ⟨ff, fun z => absurd hmt (z k hk), fun k' y0 y1 y2 => ?_⟩
        rw [uniq k' y0 y1 y2]
        exact ⟨fun z => absurd z (by omega), fun _ => rfl, fun z => absurd z (by omega)⟩
      · have p : ¬ n = 0 := fun z => p (by rw [z]; rfl)
        have p1 : ¬ n = 1 := fun z => p1 (by rw [z]; rfl)
        refine ⟨ff, fun z => absurd hmt (z k hk), fun k' y0 y1 y2 => ?_⟩
        rw [uniq k' y0 y1 y2]
        exact ⟨fun z => absurd z (by omega), fun z => absurd z (by omega), fun _ => by rw [hV]; rfl⟩
  · rintro l h ⟨v, v2, hv, hv2, rfl, d1, d2, d3⟩
    have rh : rP h (1096 + 37 * k0) R := rp.fr (d3 401 (by omega) (by omega) (by omega))
    have h56 : h 400 56 = iN (1096 + 37 * k0) := by rw [d2 56 (by omega), g56]
    exact t_Mo_match_30 hv hv2 ⟨1096 + 37 * k0, h56, by omega, brF (by rw [rh.1]; exact (fun z => absurd ((iN_lt (b := _) (by omega) (by omega)).mp z) (by omega))) ⟨fun a ha => by rw [d3 a (by omega) (by omega) (by omega), fr a ha], fun _ => rfl, fun k hk y => absurd y (d1 k hk)⟩⟩
theorem op_match (i : Inv f) (x y z : Int32) : CI L xs xm_TP_match [.ref 0, .int x, .int y, .int z] f (fun v g => CI L xs xm_Mo_match [.ref 400, .int x, .int y, .int z] g (fun w h => w = v ∧ Inv h)) := by
  obtain ⟨⟨T, w, c, r⟩, im⟩ := id i
  have no : ¬ ((∃ j, j < tZ T 0 ∧ x = iN j) ∧ ∃ j, j < tZ T 2 ∧ y = iN j) → CI L xs xm_Mo_match [.ref 400, .int x, .int y, .int z] f (fun w h => w = -1 ∧ Inv h) := fun q => t_Mo_match_0 (r_CRno w r q (fun g fr => ⟨rfl, i.q (FrC.refl f) fr⟩) fun g fr => ⟨rfl, i.q (FrC.refl f) fr⟩)
  refine t_TP_match_0 (c_tallies w c (fun q => br0 (no fun z => q z.1)) (fun _ q => br0 (no fun z => q z.2)) fun j k g hj hk e1 e2 hd hg => br1 ?_)
  subst e1
  subst e2
  have wp := w.2.2.2.2.2 k hk
  have hF := (w.2.2.2.1 j hj).1
  have run := fun {n : Nat} (hn : n ≤ 2) => r_match (L := L) (xs := xs) w (r.fr (hg 401 (by omega))) hj hk hn rfl rfl
  obtain ⟨-, -, -, -, ms⟩ := hd
  refine ⟨fun p => ?_, fun p0 => ⟨fun p => ?_, fun p1 => ⟨fun p => ?_, fun p2 => ?_⟩⟩⟩
  · subst p
    refine CI.mono (run (n := 0) (by omega)) fun v h b => ⟨?_, i.q hg b.1⟩
    rcases ms with ⟨m1, -, -, m4⟩ | ⟨k', y0, y1, y2, m1, -⟩
    · rw [b.2.1 m4, m1]
    · rw [(b.2.2 k' y0 y1 y2).1 rfl, m1]
  · subst p
    refine CI.mono (run (n := 1) (by omega)) fun v h b => ⟨?_, i.q hg b.1⟩
    rcases ms with ⟨-, m1, -, m4⟩ | ⟨k', y0, y1, y2, -, m1, -⟩
    · rw [b.2.1 m4, m1]
    · rw [(b.2.2 k' y0 y1 y2).2.1 rfl, m1]
  · subst p
    refine CI.mono (run (n := 2) (by omega)) fun v h b => ⟨?_, i.q hg b.1⟩
    rcases ms with ⟨-, -, m1, m4⟩ | ⟨k', y0, y1, y2, -, -, m1⟩
    · rw [b.2.1 m4, m1]
    · rw [(b.2.2 k' y0 y1 y2).2.2 rfl, m1, mtV_two hF wp y0 y1]
  · refine t_Mo_match_0 (r_CR w (r.fr (hg 401 (by omega))) hj hk fun g1 cu g56 rp fr => ?_)
    refine r_isIn (a := 0) (b := 2) (by omega) (by omega) (fun m _ hm e => ?_) fun q => br0 ⟨rfl, i.q hg fr⟩
    exfalso
    have : m = 0 ∨ m = 1 ∨ m = 2 := by omega
    rcases this with t | t | t <;> subst t
    · exact p0 e
    · exact p1 e
    · exact p2 e
theorem op_voices (i : Inv f) (x y z : Int32) : CI L xs xm_TP_voices [.ref 0, .int x, .int y, .int z] f (fun v g => CI L xs xm_Mo_voices [.ref 400, .int x, .int y, .int z] g (fun w h => w = v ∧ Inv h)) := by
  obtain ⟨⟨T, w, c, r⟩, im⟩ := id i
  have z2 := w.2.2.1 2 (by omega)
  have no : ¬ ((∃ j, j < tZ T 0 ∧ x = iN j) ∧ ∃ j, j < tZ T 2 ∧ y = iN j) → CI L xs xm_Mo_voices [.ref 400, .int x, .int y, .int z] f (fun w h => w = -1 ∧ Inv h) := fun q => t_Mo_voices_0 (r_CRno w r q (fun g fr => ⟨rfl, i.q (FrC.refl f) fr⟩) fun g fr => ⟨rfl, i.q (FrC.refl f) fr⟩)
  have no2 : (¬ ∃ n, n ≤ 99 ∧ z = iN n) → CI L xs xm_Mo_voices [.ref 400, .int x, .int y, .int z] f (fun w h => w = -1 ∧ Inv h) := fun q => by
    by_cases h : (∃ j, j < tZ T 0 ∧ x = iN j) ∧ ∃ j, j < tZ T 2 ∧ y = iN j
    · obtain ⟨⟨j, hj, rfl⟩, k, hk, rfl⟩ := h
      exact t_Mo_voices_0 (r_CR w r hj hk fun g1 cu g56 rp fr => r_isIn (a := 0) (b := 99) (by omega) (by omega) (fun m _ hm e => absurd ⟨m, hm, e⟩ q) fun q => br0 ⟨rfl, i.q (FrC.refl f) fr⟩)
    · exact no h
  refine t_TP_voices_0 ⟨fun p => no2 ?_, fun p => ⟨fun p2 => ?_, fun p2 => no2 ?_⟩⟩
  · rintro ⟨n, hn, rfl⟩
    exact iN_nn (by omega) p
  · obtain ⟨n, hn, rfl⟩ := iN_ex (n := 100) (by omega) p p2
    refine c_tallies w c (fun q => br0 (no fun z => q z.1)) (fun _ q => br0 (no fun z => q z.2)) fun j k g hj hk e1 e2 hd hg => br1 ?_
    subst e1
    subst e2
    have wp := w.2.2.2.2.2 k hk
    have hF := (w.2.2.2.1 j hj).1
    obtain ⟨-, -, d3, d4, -⟩ := hd
    refine c_voicesOf d3 (by omega) ?_
    rw [voc_congr d4]
    refine t_Mo_voices_0 (r_CR w (r.fr (hg 401 (by omega))) hj hk fun g1 cu g56 rp fr => ?_)
    refine r_isIn (a := 0) (b := 99) (by omega) (by omega) (fun m _ hm e => br1 ?_) fun q => absurd rfl (q n (by omega) (by omega))
    have w1 := wp.1
    refine r_come hF wp cu.2.2.1 g56 (by omega) rp (n := 12) (by omega) (N := (T.2.2.2.2 k).1) (by omega) fun h1 a1 a2 a3 a4 a5 => ?_
    refine r_tell (by rw [a4 13 (by omega)]; exact cu.2.2.1) (by omega) ⟨?_, i.q hg fun a ha => by rw [a5 a (by omega) (by omega) (by omega), fr a ha]⟩
    rw [voc_congr (fun m hm => a1 m (by omega))]
  · rintro ⟨n, hn, rfl⟩
    exact p2 ((iN_lt (b := 100) (by omega) (by omega)).mpr (by omega))
end TALLY2
