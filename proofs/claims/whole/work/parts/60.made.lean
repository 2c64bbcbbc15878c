/-! made views, merged proofs: what is told of them -/
section MADE
variable {L : Nat} {xs : Nat → Int32} {f g : Hp} {D : CD} {S S' : ST} {R : RD} {T : TD} {o0 : Nat}
theorem c_isPlaceOf {Q : Int32 → Hp → Prop} {y : Int32} (h1 : ∀ s, 1 ≤ s → s ≤ 12 → y = iN (10 + s) → Q 1 f) (h0 : (∀ s, 1 ≤ s → s ≤ 12 → ¬ y = iN (10 + s)) → Q 0 f) : CI L xs xm_Mg_isPlaceOf [.int y] f Q := by
  refine t_Mg_isPlaceOf_0 ⟨fun p => ⟨fun p2 => h0 fun s a b e => ?_, fun p2 => ?_⟩, fun p => h0 fun s a b e => ?_⟩
  · rw [e] at p2
    exact absurd ((iN_lt (a := 22) (by omega) (by omega)).mp p2) (by omega)
  · obtain ⟨k, k1, k2, rfl⟩ := iN_lo (a := 0) (x := y) (by omega) (fun z => by
      rw [Int32.lt_iff_toInt_lt] at z p
      have : (10 : Int32).toInt = 10 := by decide
      have : (iN 0).toInt = 0 := by decide
      omega)
    have q1 : 10 < k := (iN_lt (a := 10) (by omega) (by omega)).mp p
    have q2 : ¬ 22 < k := fun z => p2 ((iN_lt (a := 22) (by omega) (by omega)).mpr z)
    exact h1 (k - 10) (by omega) (by omega) (by rw [show 10 + (k - 10) = k by omega])
  · rw [e] at p
    exact p ((iN_lt (a := 10) (by omega) (by omega)).mpr (by omega))
theorem c_mgTell {Q : Int32 → Hp → Prop} {a F U : Nat} {O : Nat → Int32} {y : Int32} (ka : xS0 L a = (3, 0)) (hF : F ≤ 12) (hU : U ≤ 12) (e1 : f a 1 = iN F) (e2 : f a 2 = iN U) (e3 : ∀ s, 1 ≤ s → s ≤ 12 → F < s → s ≤ U → f (a + 1) s = O s) (h0 : y = 0 → Q (iN F) f) (h1 : y = 1 → Q (iN U) f) (hs : ∀ s, 1 ≤ s → s ≤ 12 → y = iN (10 + s) → Q (if F < s ∧ s ≤ U then O s else -1) f) (hn : ¬ y = 0 → ¬ y = 1 → (∀ s, 1 ≤ s → s ≤ 12 → ¬ y = iN (10 + s)) → Q (-2) f) : CI L xs xm_Mg_tell [.ref a, .int y] f Q := by
  refine t_Mg_tell_0 ka ?_
  rw [e1, e2]
  refine ⟨h0, fun p => ⟨h1, fun p2 => c_isPlaceOf (fun s a b e => br1 ?_) fun no => br0 (hn p p2 no)⟩⟩
  have K := hs s a b e
  subst e
  rw [show iN (10 + s) - 10 = iN s from by rw [show (10 : Int32) = iN 10 from rfl, iN_sub (by omega)]; congr 1; omega]
  refine t_Mg_orderAt_0 ka (c_isP ⟨a, b⟩ (br1 ?_))
  rw [e1, e2, iN_lt (by omega) (by omega), iN_lt (by omega) (by omega)]
  refine ⟨fun q => ⟨fun q2 => ?_, fun q2 => ⟨s, rfl, by omega, ?_⟩⟩, fun q => ?_⟩
  · rw [if_neg (by omega)] at K; exact K
  · rw [if_pos (by omega)] at K; rw [e3 s a b q (by omega)]; exact K
  · rw [if_neg (by omega)] at K; exact K
theorem r_reach2 {Q : Int32 → Hp → Prop} {x y z : Int32} (w : wfT T) (rt : rT f 0 T) (h1 : ∀ D S, gd T x y z D S → ∀ g o0, o0 ≤ 692 → cur g o0 D → rC g o0 D → rM g S → FrM f g → Q 1 g) (h0 : ∀ g, FrM f g → Q 0 g) : CI L xs xm_Mo_isState [.ref 400, .int x, .int y, .int z] f Q := by
  by_cases p : ∃ D S, gd T x y z D S
  · obtain ⟨D, S, hg⟩ := p
    exact r_reaches w rt hg fun g o0 a b c d e => h1 D S hg g o0 a b c d e
  · exact r_reachesN w rt p h0
theorem op_made (i : Inv f) (x y z u v : Int32) : CI L xs xm_TP_made [.ref 0, .int x, .int y, .int z, .int u, .int v] f (fun r g => CI L xs xm_Mo_made [.ref 400, .int x, .int y, .int z, .int u, .int v] g (fun w h => w = r ∧ Inv h)) := by
  obtain ⟨⟨T, w, c, rt⟩, im⟩ := id i
  have bad : (∀ k, 1 ≤ k → k ≤ 9 → ¬ u = iN k) → CI L xs xm_Mo_made [.ref 400, .int x, .int y, .int z, .int u, .int v] f (fun w h => w = -2 ∧ Inv h) := fun no =>
    t_Mo_made_0 (r_reach2 w rt (fun D S hg g o0 ho cu rc hr fm => br1 (r_isIn (a := 1) (b := 9) (by omega) (by omega) (fun k a b e => absurd e (no k a b)) fun _ => br0 ⟨rfl, i.q (fun _ _ => rfl) fm.r⟩)) fun g fm => br0 ⟨rfl, i.q (fun _ _ => rfl) fm.r⟩)
  refine t_TP_made_0 ⟨fun p => bad fun k a b e => ?_, fun p => ⟨fun p2 => bad fun k a b e => ?_, fun p2 => ?_⟩⟩
  · rw [e] at p; exact absurd ((iN_lt (b := 1) (by omega) (by omega)).mp p) (by omega)
  · rw [e] at p2; exact absurd ((iN_lt (a := 9) (by omega) (by omega)).mp p2) (by omega)
  obtain ⟨n, n1, n2, rfl⟩ := iN_lo (a := 1) (by omega) p
  have n9 : n ≤ 9 := by
    rcases Nat.lt_or_ge 9 n with q | q
    · exact absurd ((iN_lt (a := 9) (by omega) (by omega)).mpr (by omega)) p2
    · exact q
  refine c_reaches w c (fun D S hg g ca fa => br1 ⟨n, rfl, by omega, ?_⟩) fun ng g fa => br0 ?_
  · obtain ⟨wc, ws⟩ := gd_w w hg
    have rt' := rt.fr (fa 401 (by omega))
    obtain ⟨w1, w2⟩ := ws.2.2.2.2.2.2.2 n (by omega)
    obtain ⟨c1, c2⟩ := ca.2.2.2.2 n (by omega)
    have R : ∀ {r : Int32}, (∀ g2 : Hp, rM g2 S → (v = 0 → (if S 16 n 0 = 0 then (0 : Int32) else 1) = r) ∧ (v = 1 → (if S 16 n 0 = 0 then (-1 : Int32) else S 17 n 0) = r) ∧ (v = 2 → (if S 16 n 0 = 0 then (-1 : Int32) else S 18 n 0) = r) ∧ (∀ s, 1 ≤ s → s ≤ 12 → v = iN (10 + s) → (if S 16 n 0 = 0 then (-1 : Int32) else if S 17 n 0 < iN s ∧ ¬ S 18 n 0 < iN s then S 19 n s else -1) = r) ∧ (¬ v = 0 → ¬ v = 1 → ¬ v = 2 → (∀ s, 1 ≤ s → s ≤ 12 → ¬ v = iN (10 + s)) → -2 = r)) → CI L xs xm_Mo_made [.ref 400, .int x, .int y, .int z, .int (iN n), .int v] g (fun w h => w = r ∧ Inv h) := fun {r} all => by
      refine t_Mo_made_0 (r_reaches w rt' hg fun g2 o0 ho cu rc hr fm => br1 (r_isIn (a := 1) (b := 9) (by omega) (by omega) (fun k a b e => br1 ?_) fun no => absurd rfl (no n n1 n9)))
      obtain ⟨a0, a1, a2, a3, a4⟩ := all g2 hr
      have gi : Inv g2 := i.q fa.c fm.r
      obtain ⟨d1, d2⟩ := hr.2.2.2.2.2.2 n (by omega)
      refine ⟨fun q => ⟨n, rfl, by omega, ?_⟩, fun q0 => ⟨fun q => ?_, fun q1 => ⟨fun q => ?_, fun q2 => ?_⟩⟩⟩
      · rw [d1]
        have := a0 q
        refine ⟨fun s => ⟨?_, gi⟩, fun s => ⟨?_, gi⟩⟩
        · rw [if_pos s] at this; exact this
        · rw [if_neg s] at this; exact this
      · refine t_Mo_made_57 ⟨n, rfl, by omega, ?_⟩
        rw [d1]
        have := a1 q
        refine ⟨fun s => ⟨?_, gi⟩, fun s => brT q ⟨?_, gi⟩⟩
        · rw [if_pos s] at this; exact this
        · rw [if_neg s] at this; rw [(d2 s).1]; exact this
      · refine t_Mo_made_57 ⟨n, rfl, by omega, ?_⟩
        rw [d1]
        have := a2 q
        refine ⟨fun s => ⟨?_, gi⟩, fun s => brF (by rw [q]; decide) ⟨?_, gi⟩⟩
        · rw [if_pos s] at this; exact this
        · rw [if_neg s] at this; rw [(d2 s).2.1]; exact this
      · refine r_isIn (a := 11) (b := 22) (by omega) (by omega) (fun k k1 k2 e => br1 ⟨n, rfl, by omega, ?_⟩) fun no => br0 ⟨a4 q0 q1 q2 fun s s1 s2 e => no (10 + s) (by omega) (by omega) e, gi⟩
        rw [d1]
        have := a3 (k - 10) (by omega) (by omega) (by rw [show 10 + (k - 10) = k by omega]; exact e)
        refine ⟨fun s => ⟨?_, gi⟩, fun s => ⟨13 * n + (k - 10), ?_, by omega, ?_, gi⟩⟩
        · rw [if_pos s] at this; exact this
        · rw [e, show 13 * iN n = iN (13 * n) from iN_mul 13 _, iN_add, show (10 : Int32) = iN 10 from rfl, iN_sub (by omega)]
          congr 1; omega
        · rw [if_neg s] at this; rw [(d2 s).2.2 (k - 10) (by omega) (by omega)]; exact this
    rw [c1]
    have vS : ∀ {s t : Nat}, s < 2147483648 → t < 2147483648 → ¬ s = t → ∀ {r : Prop}, v = iN s → v = iN t → r := fun a b c _ e1 e2 => absurd ((iN_inj a b).mp (e1.symm.trans e2)) c
    refine ⟨fun q => ⟨fun s => R fun g2 _ => ?_, fun s => R fun g2 _ => ?_⟩, fun q0 => ⟨fun q => ?_, fun q1 => ⟨fun q => ?_, fun q2 => brT rfl (c_isPlaceOf (fun s s1 s2 e => br1 ?_) fun no => br0 (R fun g2 _ => ⟨fun z => absurd z q0, fun z => absurd z q1, fun z => absurd z q2, fun s a b e => absurd e (no s a b), fun _ _ _ _ => rfl⟩))⟩⟩⟩
    · refine ⟨fun _ => if_pos s, fun z => vS (s := 0) (t := 1) (by omega) (by omega) (by omega) q z, fun z => vS (s := 0) (t := 2) (by omega) (by omega) (by omega) q z, fun s' a b e => vS (s := 0) (by omega) (by omega) (by omega) q e, fun z => absurd q z⟩
    · refine ⟨fun _ => if_neg s, fun z => vS (s := 0) (t := 1) (by omega) (by omega) (by omega) q z, fun z => vS (s := 0) (t := 2) (by omega) (by omega) (by omega) q z, fun s' a b e => vS (s := 0) (by omega) (by omega) (by omega) q e, fun z => absurd q z⟩
    · have K : ∀ {r : Int32}, (if S 16 n 0 = 0 then (-1 : Int32) else S 17 n 0) = r → CI L xs xm_Mo_made [.ref 400, .int x, .int y, .int z, .int (iN n), .int v] g (fun w h => w = r ∧ Inv h) := fun {r} e => R fun g2 _ => ⟨fun z => absurd z q0, fun _ => e, fun z => vS (s := 1) (t := 2) (by omega) (by omega) (by omega) q z, fun s' a b e => vS (s := 1) (by omega) (by omega) (by omega) q e, fun _ z => absurd q z⟩
      subst q
      refine t_TP_made_69 (k_view (by omega)) (brF (by decide) (t_TP_made_95 (k_view (by omega)) ?_))
      rw [c1]
      refine ⟨fun s => K (if_pos s), fun s => ?_⟩
      obtain ⟨⟨F, hF, eF⟩, ⟨U, hU, eU⟩, -⟩ := w2 s
      obtain ⟨x1, x2, x3⟩ := c2 s
      refine c_mgTell (O := fun s => S 19 n s) (k_view (by omega)) hF hU (x1.trans eF) (x2.trans eU) (fun s' a b p q => x3 s' a b (by rw [eF]; exact ((iN_lt (b := _) (by omega) (by omega)).mpr (by omega))) (by rw [eU]; exact (fun z => absurd ((iN_lt (b := _) (by omega) (by omega)).mp z) (by omega)))) (fun _ => K ?_) (fun z => absurd z (by decide)) (fun s a b e => ?_) fun z => absurd rfl z
      · rw [if_neg s]; exact eF
      · exact absurd ((iN_inj (a := 0) (by omega) (by omega)).mp e) (by omega)
    · have K : ∀ {r : Int32}, (if S 16 n 0 = 0 then (-1 : Int32) else S 18 n 0) = r → CI L xs xm_Mo_made [.ref 400, .int x, .int y, .int z, .int (iN n), .int v] g (fun w h => w = r ∧ Inv h) := fun {r} e => R fun g2 _ => ⟨fun z => absurd z q0, fun z => absurd z q1, fun _ => e, fun s' a b e => vS (s := 2) (by omega) (by omega) (by omega) q e, fun _ _ z => absurd q z⟩
      subst q
      refine t_TP_made_69 (k_view (by omega)) (brF (by decide) (t_TP_made_95 (k_view (by omega)) ?_))
      rw [c1]
      refine ⟨fun s => K (if_pos s), fun s => ?_⟩
      obtain ⟨⟨F, hF, eF⟩, ⟨U, hU, eU⟩, -⟩ := w2 s
      obtain ⟨x1, x2, x3⟩ := c2 s
      refine c_mgTell (O := fun s => S 19 n s) (k_view (by omega)) hF hU (x1.trans eF) (x2.trans eU) (fun s' a b p q => x3 s' a b (by rw [eF]; exact ((iN_lt (b := _) (by omega) (by omega)).mpr (by omega))) (by rw [eU]; exact (fun z => absurd ((iN_lt (b := _) (by omega) (by omega)).mp z) (by omega)))) (fun z => absurd z (by decide)) (fun _ => K ?_) (fun s a b e => ?_) fun _ z => absurd rfl z
      · rw [if_neg s]; exact eU
      · exact absurd ((iN_inj (a := 1) (by omega) (by omega)).mp e) (by omega)
    · have K : ∀ {r : Int32}, (if S 16 n 0 = 0 then (-1 : Int32) else if S 17 n 0 < iN s ∧ ¬ S 18 n 0 < iN s then S 19 n s else -1) = r → CI L xs xm_Mo_made [.ref 400, .int x, .int y, .int z, .int (iN n), .int v] g (fun w h => w = r ∧ Inv h) := fun {r} e' => R fun g2 _ => ⟨fun z => absurd z q0, fun z => absurd z q1, fun z => absurd z q2, fun s' a b e2 => by
        have := (iN_inj (by omega) (by omega)).mp (e.symm.trans e2)
        have : s' = s := by omega
        subst this; exact e', fun _ _ _ z => absurd e (z s s1 s2)⟩
      refine t_TP_made_95 (k_view (by omega)) ?_
      rw [c1]
      refine ⟨fun t => K (if_pos t), fun t => ?_⟩
      obtain ⟨⟨F, hF, eF⟩, ⟨U, hU, eU⟩, -⟩ := w2 t
      obtain ⟨x1, x2, x3⟩ := c2 t
      refine c_mgTell (O := fun s => S 19 n s) (k_view (by omega)) hF hU (x1.trans eF) (x2.trans eU) (fun s' a b p q => x3 s' a b (by rw [eF]; exact ((iN_lt (b := _) (by omega) (by omega)).mpr (by omega))) (by rw [eU]; exact (fun z => absurd ((iN_lt (b := _) (by omega) (by omega)).mp z) (by omega)))) (fun z => absurd z q0) (fun z => absurd z q1) (fun s' a b e2 => K ?_) fun _ _ z => absurd e (z s s1 s2)
      have := (iN_inj (by omega) (by omega)).mp (e.symm.trans e2)
      have : s' = s := by omega
      subst this
      rw [if_neg t, eF, eU]
      by_cases y : F < s' ∧ s' ≤ U
      · rw [if_pos y, if_pos (by rw [iN_lt (by omega) (by omega), iN_lt (by omega) (by omega)]; omega)]
      · rw [if_neg y, if_neg (by rw [iN_lt (by omega) (by omega), iN_lt (by omega) (by omega)]; omega)]
  · exact t_Mo_made_0 (r_reachesN w (rt.fr (fa 401 (by omega))) ng fun g2 fm => br0 ⟨rfl, i.q fa.c fm.r⟩)
theorem op_merged (i : Inv f) (x y z u v : Int32) : CI L xs xm_TP_merged [.ref 0, .int x, .int y, .int z, .int u, .int v] f (fun r g => CI L xs xm_Mo_merged [.ref 400, .int x, .int y, .int z, .int u, .int v] g (fun w h => w = r ∧ Inv h)) := by
  obtain ⟨⟨T, w, c, rt⟩, im⟩ := id i
  refine t_TP_merged_0 (c_reaches w c (fun D S hg g ca fa => br1 ?_) fun ng g fa => br0 (t_Mo_merged_0 (r_reachesN w (rt.fr (fa 401 (by omega))) ng fun g2 fm => br0 ⟨rfl, i.q fa.c fm.r⟩)))
  obtain ⟨wc, ws⟩ := gd_w w hg
  have hF := wc.1
  have rt' := rt.fr (fa 401 (by omega))
  obtain ⟨j, r, n, hj, hr, ex, -, -, -, -, eD, -⟩ := id hg
  have z0 := w.2.2.1 0 (by omega)
  have pw : 2 ^ (3 * dF D + 1) ≤ 128 := Nat.le_trans (Nat.pow_le_pow_right (by omega) (show 3 * dF D + 1 ≤ 7 by omega)) (by decide)
  have pw1 : 1 ≤ 2 ^ (3 * dF D + 1) := Nat.one_le_two_pow
  have no : (∀ k, 1 ≤ k → k ≤ 2 ^ (3 * dF D + 1) - 1 → ¬ u = iN k) → CI L xs xm_Mo_merged [.ref 400, .int x, .int y, .int z, .int u, .int v] g (fun w h => w = -2 ∧ Inv h) := fun nn => by
    refine t_Mo_merged_0 (r_reaches w rt' hg fun g2 o0 ho cu rc hr fm => br1 ?_)
    rw [cu.2.2.1, shl1 (by omega), show iN (2 ^ (3 * dF D + 1)) - 1 = iN (2 ^ (3 * dF D + 1) - 1) from iN_sub (b := 1) pw1]
    exact r_isIn (a := 1) (by omega) (by omega) (fun k a b e => absurd e (nn k a b)) fun _ => br0 ⟨rfl, i.q fa.c fm.r⟩
  refine ⟨fun p => ⟨j, ex, by omega, ?_⟩, fun p => no fun k a b e => p (by rw [e]; exact ((iN_lt (a := 0) (by omega) (by omega)).mpr (by omega)))⟩
  have cc : cC g (7 + 21 * j) D := by rw [eD]; exact (cT_c c hj).fr fun a p q => fa a (by omega)
  refine c_members (k_coun (by omega)) cc.1 ?_
  rw [shl1 (by omega)]
  refine ⟨fun p2 => ?_, fun p2 => no fun k a b e => p2 (by rw [e]; exact ((iN_lt (b := _) (by omega) (by omega)).mpr (by omega)))⟩
  obtain ⟨W, W1, W2, rfl⟩ := iN_bet (a := 0) (by omega) (by omega) (fun z => by
    rw [Int32.lt_iff_toInt_lt] at z p
    have : (0 : Int32).toInt = 0 := by decide
    have : (iN 0).toInt = 0 := by decide
    omega) p2
  have W0 : 0 < W := (iN_lt (a := 0) (by omega) (by omega)).mp p
  have lF := mgF_le (W := W) ws (3 * dF D + 1) (by omega)
  have lU := mgU_le (W := W) (n := 3 * dF D + 1) ws (by omega)
  refine c_merge wc ws rfl (by omega) ca (fun g' e _ => ca.fr fun x a b _ => e x (by omega)) (by omega) fun g3 m0 m1 m2 m3 m4 => ?_
  have fc : FrC f g3 := fun a ha => by rw [m4 a (by omega), fa a (by omega)]
  have rt3 : rT g3 0 T := rt'.fr (m4 401 (by omega))
  have R : ∀ {r : Int32}, ((v = 0 → iN (mgF D S W (3 * dF D + 1)) = r) ∧ (v = 1 → iN (mgU D S W (3 * dF D + 1)) = r) ∧ (∀ s, 1 ≤ s → s ≤ 12 → v = iN (10 + s) → (if mgF D S W (3 * dF D + 1) < s ∧ s ≤ mgU D S W (3 * dF D + 1) then (mgO D S W s (3 * dF D + 1)).2 else -1) = r) ∧ (¬ v = 0 → ¬ v = 1 → (∀ s, 1 ≤ s → s ≤ 12 → ¬ v = iN (10 + s)) → -2 = r)) → CI L xs xm_Mo_merged [.ref 400, .int x, .int y, .int z, .int (iN W), .int v] g3 (fun w h => w = r ∧ Inv h) := fun {r} ⟨a0, a1, a3, a4⟩ => by
    refine t_Mo_merged_0 (r_reaches w rt3 hg fun g2 o0 ho cu rc hr fm => br1 ?_)
    rw [cu.2.2.1, shl1 (by omega), show iN (2 ^ (3 * dF D + 1)) - 1 = iN (2 ^ (3 * dF D + 1) - 1) from iN_sub (b := 1) pw1]
    refine r_isIn (a := 1) (by omega) (by omega) (fun k a b e => br1 ?_) fun nn => absurd rfl (nn W W0 (by omega))
    refine r_merges wc ws cu hr (by omega) fun g4 q1 q2 q3 q4 q5 => ?_
    have gi : Inv g4 := i.q fc fun a ha => by rw [q5 a (by omega) (by omega), fm a (by omega) (by omega)]
    rw [q1, q2]
    refine ⟨fun t => brT t ⟨a0 t, gi⟩, fun t0 => ⟨fun t => brF t0 ⟨a1 t, gi⟩, fun t1 => ?_⟩⟩
    refine r_isIn (a := 11) (b := 22) (by omega) (by omega) (fun k k1 k2 e => br1 ⟨k - 10, ?_, by omega, ?_, gi⟩) fun nn => br0 ⟨a4 t0 t1 fun s s1 s2 e => nn (10 + s) (by omega) (by omega) e, gi⟩
    · rw [e, show (10 : Int32) = iN 10 from rfl, iN_sub (by omega)]
    · rw [q3 (k - 10) (by omega) (by omega)]
      exact a3 (k - 10) (by omega) (by omega) (by rw [show 10 + (k - 10) = k by omega]; exact e)
  have vS : ∀ {s t : Nat}, s < 2147483648 → t < 2147483648 → ¬ s = t → ∀ {r : Prop}, v = iN s → v = iN t → r := fun a b c _ e1 e2 => absurd ((iN_inj a b).mp (e1.symm.trans e2)) c
  refine c_mgTell (O := fun s => (mgO D S W s (3 * dF D + 1)).2) rfl lF lU m1 m2 (fun s a b _ _ => m3 s a b) (fun t => R ⟨fun _ => rfl, fun t1 => vS (s := 0) (t := 1) (by omega) (by omega) (by omega) t t1, fun s a b e => vS (s := 0) (by omega) (by omega) (by omega) t e, fun q => absurd t q⟩) (fun t => R ⟨fun t0 => vS (s := 0) (t := 1) (by omega) (by omega) (by omega) t0 t, fun _ => rfl, fun s a b e => vS (s := 1) (by omega) (by omega) (by omega) t e, fun _ q => absurd t q⟩) (fun s a b e => R ⟨fun t => vS (s := 0) (by omega) (by omega) (by omega) t e, fun t => vS (s := 1) (by omega) (by omega) (by omega) t e, fun s' a' b' e' => ?_, fun _ _ q => absurd e (q s a b)⟩) fun t0 t1 nn => R ⟨fun t => absurd t t0, fun t => absurd t t1, fun s a b e => absurd e (nn s a b), fun _ _ _ => rfl⟩
  have := (iN_inj (by omega) (by omega)).mp (e.symm.trans e')
  have : s' = s := by omega
  subst this
  rfl
end MADE
