/-! play, pace: the calls -/
section PACE2
variable {L : Nat} {xs : Nat → Int32} {f g : Hp} {T : TD} {D : CD} {t : TT}
theorem r_lastDone {Q : Int32 → Hp → Prop} {o v : Nat} (w : wfC D) (hv : 1 ≤ v ∧ v ≤ 9) (n0 : ¬ dN D = 0) {u : Nat} (cu : cur f o (TW D u)) (rc : rDl f o D) (ho : o ≤ 692) (kk : ∀ g, cur g o (TW D v) → (∀ x, ¬ x = 400 → x < 427 ∨ 431 < x → g x = f x) → Q (iN (rEn (dnT (TW D v) (dN D)))) g) : CI L xs xm_Mo_lastDoneBy [.ref 400, .int (iN v)] f Q := by
  have w5 := w.2.2.2.2.1
  refine t_Mo_lastDoneBy_0 fun g1 e1 => ?_
  have c1 : cur g1 o (TW D v) := by
    obtain ⟨u1, u2, u3, u4, u5, u6, u7, u8⟩ := cu
    exact ⟨by rw [e1, xu_k (by omega)]; exact u1, by rw [e1, xu_k (by omega)]; exact u2, by rw [e1, xu_k (by omega)]; exact u3, by rw [e1, xu_k (by omega)]; exact u4, by rw [e1, xu_eq], by rw [e1, xu_k (by omega)]; exact u6, by rw [e1, xu_k (by omega)]; exact u7, by rw [e1, xu_k (by omega)]; exact u8⟩
  have r1 : rDl g1 o (TW D v) := rc.fr (g := g1) (by rw [e1, xu_a (by omega)])
  refine r_plays (TW_wf w hv) c1 r1 ho fun g2 rt fr => ?_
  have c2 := c1.fr (fr 400 (by omega))
  rw [show g2 400 18 = iN (dN D) from c2.2.2.2.2.2.2.2]
  refine r_doneOf (D := TW D v) (TW_wf w hv) c2 rt (by omega) fun g3 fr3 => kk g3 (c2.fr (fr3 400 (by omega))) fun x p q => ?_
  rw [fr3 x (by omega), fr x q, e1, xu_a p]
theorem r_tightOf {Q : Int32 → Hp → Prop} {o : Nat} (w : wfC D) (cu : cur f o D) (rc : rDl f o D) (ho : o ≤ 692) (kk : ∀ v g, tgP D v → (∀ x, ¬ x = 400 → x < 427 ∨ 431 < x → g x = f x) → Q v g) : CI L xs xm_Mo_tightOf [.ref 400] f Q := by
  have w5 := w.2.2.2.2.1
  refine t_Mo_tightOf_0 ?_
  rw [cu.2.2.2.2.2.2.2]
  by_cases n0 : dN D = 0
  · exact brT (by rw [n0]; rfl) (kk _ f (Or.inl ⟨n0, rfl⟩) fun _ _ _ => rfl)
  · refine brF (fun z => n0 ((iN_inj (b := 0) (by omega) (by omega)).mp z)) ?_
    have d9 := dnT_bt (TW_wf (w := 9) w (by omega)) (s := dN D) (by omega)
    have l9 := rEn_le (dnT (TW D 9) (dN D))
    refine r_lastDone (v := 9) (u := dW D) w (by omega) n0 cu rc ho fun g1 c1 fr1 => ?_
    rw [show (99999999 : Int32) = iN 99999999 from rfl, iN_lt (by omega) (by omega), rEn_far (by omega)]
    refine ⟨fun p => ?_, fun p => kk _ g1 (Or.inr (Or.inl ⟨n0, by omega, rfl⟩)) fr1⟩
    have p9 : ¬ dnT (TW D 9) (dN D) = 1000000 := by omega
    have inj : ∀ a, a ≤ 1000000 → (iN (rEn a) = iN (rEn (dnT (TW D 9) (dN D))) ↔ a = dnT (TW D 9) (dN D)) := fun a ha => by
      have la := rEn_le a
      rw [iN_inj (by omega) (by omega), rEn_id p]
      unfold rEn
      split <;> omega
    refine for0 8 (fun k l g => l = [.ref 400, .int (iN (rEn (dnT (TW D 9) (dN D)))), .int (iN (k + 1))] ∧ (∃ u, cur g o (TW D u)) ∧ (∀ w', 1 ≤ w' → w' < k + 1 → ¬ dnT (TW D w') (dN D) = dnT (TW D 9) (dN D)) ∧ ∀ x, ¬ x = 400 → x < 427 ∨ 431 < x → g x = f x) ⟨rfl, ⟨9, c1⟩, fun w' h1 h2 => absurd h1 (by omega), fr1⟩ ?_ ?_
    · rintro k l g hk ⟨rfl, ⟨u, cg⟩, i1, fr⟩ k2
      have dk := dnT_bt (TW_wf (w := k + 1) w (by omega)) (s := dN D) (by omega)
      refine t_Mo_tightOf_27 (r_lastDone (v := k + 1) w (by omega) n0 cg (rc.fr (fr 401 (by omega) (by omega))) ho fun g2 c2 fr2 => ?_)
      have f2 : ∀ x, ¬ x = 400 → x < 427 ∨ 431 < x → g2 x = f x := fun x p q => by rw [fr2 x p q, fr x p q]
      rw [inj _ (by omega), iN_inc]
      refine ⟨fun q => kk _ g2 (Or.inr (Or.inr ⟨n0, p9, k + 1, by omega, by omega, rfl, q, i1⟩)) f2, fun q => k2 _ _ ⟨rfl, ⟨k + 1, c2⟩, fun w' h1 h2 => ?_, f2⟩⟩
      by_cases z : w' = k + 1
      · rw [z]; exact q
      · exact i1 w' h1 (by omega)
    · rintro l g ⟨rfl, ⟨u, cg⟩, i1, fr⟩
      refine t_Mo_tightOf_27 (r_lastDone (v := 9) w (by omega) n0 cg (rc.fr (fr 401 (by omega) (by omega))) ho fun g2 c2 fr2 => ?_)
      have f2 : ∀ x, ¬ x = 400 → x < 427 ∨ 431 < x → g2 x = f x := fun x p q => by rw [fr2 x p q, fr x p q]
      exact brT rfl (kk _ g2 (Or.inr (Or.inr ⟨n0, p9, 9, by omega, by omega, rfl, rfl, i1⟩)) f2)
theorem r_spareOf {Q : Int32 → Hp → Prop} {o : Nat} (w : wfC D) (cu : cur f o D) (rc : rDl f o D) (ho : o ≤ 692) (kk : ∀ g, (∀ x, ¬ x = 400 → x < 427 ∨ 431 < x → g x = f x) → Q (iN (SPARE D)) g) : CI L xs xm_Mo_spareOf [.ref 400] f Q := by
  have w5 := w.2.2.2.2.1
  have hF := w.1
  refine t_Mo_spareOf_0 ?_
  rw [cu.2.2.2.2.2.2.2]
  by_cases n0 : dN D = 0
  · have := kk f fun _ _ _ => rfl
    rw [show SPARE D = 0 from if_pos n0] at this
    exact brT (by rw [n0]; rfl) this
  · rw [show SPARE D = bN (fun m => ¬ dnT (SM D m) (dN D) = 1000000) (3 * dF D + 1) from if_neg n0] at kk
    refine brF (fun z => n0 ((iN_inj (b := 0) (by omega) (by omega)).mp z)) ?_
    rw [cu.2.2.2.2.2.2.1]
    obtain ⟨u1, u2, u3, u4, u5, u6, u7, u8⟩ := id cu
    refine for0 (3 * dF D + 1) (fun k l g => l = [.ref 400, .int (iN (dL D)), .int (iN (bN (fun m => ¬ dnT (SM D m) (dN D) = 1000000) k)), .int (iN k)] ∧ (∀ j, 11 ≤ j → j ≤ 18 → ¬ j = 17 → g 400 j = f 400 j) ∧ ∀ x, ¬ x = 400 → x < 427 ∨ 431 < x → g x = f x) ⟨rfl, fun _ _ _ _ => rfl, fun _ _ _ => rfl⟩ ?_ ?_
    · rintro k l g hk ⟨rfl, cj, fr⟩ k2
      refine t_Mo_spareOf_18 ?_
      rw [cj 13 (by omega) (by omega) (by omega), u3]
      refine brT ((iN_lt (b := _) (by omega) (by omega)).mpr (by omega)) fun g1 e1 => ?_
      rw [or1 _ _ (by omega)] at e1
      have q : ∀ j, 11 ≤ j → j ≤ 18 → ¬ j = 17 → g1 400 j = f 400 j := fun j p1 p2 p3 => by rw [e1, xu_k p3, cj j p1 p2 p3]
      have c1 : cur g1 o (SM D k) := ⟨by rw [q 11 (by omega) (by omega) (by omega)]; exact u1, by rw [q 12 (by omega) (by omega) (by omega)]; exact u2, by rw [q 13 (by omega) (by omega) (by omega)]; exact u3, by rw [q 14 (by omega) (by omega) (by omega)]; exact u4, by rw [q 15 (by omega) (by omega) (by omega)]; exact u5, by rw [q 16 (by omega) (by omega) (by omega)]; exact u6, by rw [e1, xu_eq], by rw [q 18 (by omega) (by omega) (by omega)]; exact u8⟩
      have r1 : rDl g1 o (SM D k) := rc.fr (g := g1) (by rw [e1, xu_a (by omega), fr 401 (by omega) (by omega)])
      have dk := dnT_bt (SM_wf w hk) (s := dN D) (by omega)
      have lk := rEn_le (dnT (SM D k) (dN D))
      refine r_plays (SM_wf w hk) c1 r1 ho fun g2 rt fr2 => ?_
      have c2 := c1.fr (fr2 400 (by omega))
      rw [show g2 400 18 = iN (dN D) from c2.2.2.2.2.2.2.2]
      refine r_doneOf (D := SM D k) (SM_wf w hk) c2 rt (by omega) fun g3 fr3 => ?_
      have f3 : ∀ x, ¬ x = 400 → x < 427 ∨ 431 < x → g3 x = f x := fun x p q => by rw [fr3 x (by omega), fr2 x q, e1, xu_a p, fr x p q]
      have cj3 : ∀ j, 11 ≤ j → j ≤ 18 → ¬ j = 17 → g3 400 j = f 400 j := fun j p1 p2 p3 => by rw [fr3 400 (by omega), fr2 400 (by omega), q j p1 p2 p3]
      rw [show (99999999 : Int32) = iN 99999999 from rfl, iN_lt (by omega) (by omega), rEn_far (by omega), iN_inc, or1 _ _ (by omega), or0]
      refine ⟨fun p => k2 _ _ ⟨?_, cj3, f3⟩, fun p => k2 _ _ ⟨?_, cj3, f3⟩⟩
      · rw [bN_s, if_pos (by omega)]
      · rw [bN_s, if_neg (by omega)]
    · rintro l g ⟨rfl, cj, fr⟩
      refine t_Mo_spareOf_18 ?_
      rw [cj 13 (by omega) (by omega) (by omega), u3]
      exact brF (fun z => absurd ((iN_lt (b := _) (by omega) (by omega)).mp z) (by omega)) (kk g fr)
theorem r_minute {Q : Int32 → Hp → Prop} {v : Nat} (hv : v ≤ 360 ∨ v = 1000000) (kk : Q (if v = 1000000 then -1 else iN v) f) : CI L xs xm_Mo_minuteOf [.int (iN (rEn v))] f Q := by
  refine t_Mo_minuteOf_0 ?_
  rcases hv with z | z
  · rw [if_neg (by omega)] at kk
    rw [rEn_id (by omega)]
    exact brF (fun z => absurd ((iN_lt (a := 400) (by omega) (by omega)).mp z) (by omega)) kk
  · rw [if_pos z] at kk
    rw [z]
    exact brT (by decide) kk
theorem c_minute {P Q : Prop} {v : Nat} (hv : v ≤ 360 ∨ v = 1000000) (h1 : v = 1000000 → P) (h2 : ¬ v = 1000000 → Q) : (iN v = 1000000 → P) ∧ (¬ iN v = 1000000 → Q) := ⟨fun p => h1 ((iN_inj (b := 1000000) (by omega) (by omega)).mp p), fun p => h2 fun z => p (by rw [z]; rfl)⟩
theorem CD_eta {D : CD} : D = ((dF D, dW D, dS D, dL D, dN D), D.2) := rfl
theorem r_isC' {Q : Int32 → Hp → Prop} {j : Nat} (w : wfT T) (r : rT f 0 T) (hj : j < tZ T 0) (h1 : ∀ g, cur g (610 + 82 * j) (T.2.2.1 j) → rDl g (610 + 82 * j) (T.2.2.1 j) → (∀ a, ¬ a = 400 → g a = f a) → Q 1 g) : CI L xs xm_Mo_isCouncil [.ref 400, .int (iN j)] f Q := r_isC w r hj fun g cu rc e => h1 g cu (fun a b ha hb => rc.2.2.2.2.2.2.2 a b ha hb) e
theorem op_play (i : Inv f) (x y z b : Int32) : CI L xs xm_TP_play [.ref 0, .int x, .int y, .int z, .int b] f (fun v g => CI L xs xm_Mo_play [.ref 400, .int x, .int y, .int z, .int b] g (fun w h => w = v ∧ Inv h)) := by
  obtain ⟨⟨T, w, c, r⟩, im⟩ := id i
  have z1 := w.2.2.1 0 (by omega)
  refine t_TP_play_0 (c_has (s := 0) k_told (by omega) (c.sz (by omega)) z1 (fun j hj e => br1 ?_) fun q => br0 (t_Mo_play_0 (r_isC0 w r q (br0 ⟨rfl, i⟩))))
  subst e
  have wc := w.2.2.2.1 j hj
  have ho := rC.wf_o w hj
  have cc : cC f (7 + 21 * j) _ := c.2.2.2.2.2.1 j hj
  have kc : xS0 L (7 + 21 * j) = (1, 0) := k_coun (by omega)
  have no : (¬ ∃ n, 1 ≤ n ∧ n ≤ 10 ∧ z = iN n) → CI L xs xm_Mo_play [.ref 400, .int (iN j), .int y, .int z, .int b] f (fun w h => w = -1 ∧ Inv h) := fun q => by
    refine t_Mo_play_0 (r_isC' w r hj fun g cu rc e => br1 ?_)
    have gi : Inv g := i.fr fun a ha => e a (by omega)
    refine r_isMember cu.2.2.1 wc.1 (fun m hm em => br1 ?_) fun _ => br0 ⟨rfl, gi⟩
    exact r_isIn (a := 1) (b := 10) (by omega) (by omega) (fun n h1 h2 e => absurd ⟨n, h1, h2, e⟩ q) fun _ => br0 ⟨rfl, gi⟩
  refine ⟨fun p => no ?_, fun p => ⟨fun p2 => no ?_, fun p2 => ⟨j, rfl, by omega, ?_⟩⟩⟩
  · rintro ⟨n, h1, h2, rfl⟩
    exact absurd ((iN_lt (b := 1) (by omega) (by omega)).mp p) (by omega)
  · rintro ⟨n, h1, h2, rfl⟩
    exact absurd ((iN_lt (a := 10) (by omega) (by omega)).mp p2) (by omega)
  · obtain ⟨n, hn1, hn2, rfl⟩ := iN_lo (a := 1) (by omega) p
    have hn3 : n ≤ 10 := by
      rcases Nat.lt_or_ge 10 n with q | q
      · exact absurd (((iN_lt (a := 10) (by omega) (by omega)).mpr (by omega))) p2
      · exact q
    refine c_cohas kc cc.1 wc.1 (fun m hm em => br1 ?_) fun q => br0 ?_
    · subst em
      have wm := wfM_F wc
      have hm7 : m < 7 := by have := wc.1; omega
      rw [cc.2.1, cc.2.2.2.1]
      refine c_plan kc (by omega) wc wc cc CD_eta fun g1 a1 a2 a3 a4 a5 => ?_
      have hg : FrC f g1 := fun a ha => a5 a (by omega)
      have bR : (ttF (T.2.2.1 j)).2.2.1 m n ≤ 360 ∨ (ttF (T.2.2.1 j)).2.2.1 m n = 1000000 := by
        have := (wm.2.2.2.2.2 m n hn1).2.2.1
        unfold bt at this
        omega
      have bL := low_w (p := n) (m := m) wm (by omega)
      have ref : ∀ {v : Int32}, (v = if b = 0 then (if (ttF (T.2.2.1 j)).2.2.1 m n = 1000000 then -1 else iN ((ttF (T.2.2.1 j)).2.2.1 m n)) else (if low ((ttF (T.2.2.1 j)).2.2.2 m) n 11 = 1000000 then -1 else iN (low ((ttF (T.2.2.1 j)).2.2.2 m) n 11))) → CI L xs xm_Mo_play [.ref 400, .int (iN j), .int (iN m), .int (iN n), .int b] g1 (fun w h => w = v ∧ Inv h) := by
        intro v ev
        refine t_Mo_play_0 (r_isC' w (r.fr (hg 401 (by omega))) hj fun g cu rc e => br1 ?_)
        refine r_isMember cu.2.2.1 wc.1 (fun m' hm' em => br1 ?_) fun q => absurd rfl (q m hm)
        refine r_isIn (a := 1) (b := 10) (by omega) (by omega) (fun n' h1 h2 en => br1 ?_) fun q => absurd rfl (q n hn1 hn3)
        refine r_plays wc cu rc ho fun g2 rt fr => ?_
        have gi : Inv g2 := i.q hg fun a ha => by rw [fr a (by omega), e a (by omega)]
        refine ⟨fun p => r_at ⟨13 * m + n, rfl, by omega, ?_⟩, fun p => ?_⟩
        · rw [(rt m n hm7 hn1 hn3).2.2.1]
          refine r_minute bR ⟨?_, gi⟩
          rw [ev, if_pos p]
        · refine r_lowFrom (C := (ttF (T.2.2.1 j)).2.2.2 m) (b := 11) hm7 (fun s h1 h2 => (rt m s hm7 h1 h2).2.2.2) (fun s => ?_) (Or.inr ⟨hn1, hn3, rfl⟩) (by omega) (r_minute bL ⟨?_, gi⟩)
          · by_cases z : s ≤ 10
            · exact (wm.inf m s z).2.2.1
            · rw [(wm.2.2.2.1 m s (by omega)).2.2.2]; exact Nat.le_refl _
          · rw [ev, if_neg p]
      refine ⟨fun p => ⟨m, rfl, hm7, n, rfl, by omega, ?_⟩, fun p => ?_⟩
      · rw [(a2 m n hm7 (by omega)).2.2.1]
        refine c_minute bR (fun z => ref ?_) fun z => ref ?_
        · rw [if_pos p, if_pos z]
        · rw [if_pos p, if_neg z]
      · refine c_lowAt (C := (ttF (T.2.2.1 j)).2.2.2 m) hm7 (fun s hs => (a2 m s hm7 hs).2.2.2) (fun s => ?_) (Or.inr ⟨hn1, hn3, rfl⟩) (c_minute bL (fun z => ref ?_) fun z => ref ?_)
        · by_cases z : s ≤ 10
          · exact (wm.inf m s z).2.2.1
          · rw [(wm.2.2.2.1 m s (by omega)).2.2.2]; exact Nat.le_refl _
        · rw [if_neg p, if_pos z]
        · rw [if_neg p, if_neg z]
    · refine t_Mo_play_0 (r_isC' w r hj fun g cu rc e => br1 ?_)
      exact r_isMember cu.2.2.1 wc.1 (fun m hm em => absurd em (q m hm)) fun _ => br0 ⟨rfl, i.fr fun a ha => e a (by omega)⟩
theorem op_pace (i : Inv f) (x y : Int32) : CI L xs xm_TP_pace [.ref 0, .int x, .int y] f (fun v g => CI L xs xm_Mo_pace [.ref 400, .int x, .int y] g (fun w h => w = v ∧ Inv h)) := by
  obtain ⟨⟨T, w, c, r⟩, im⟩ := id i
  have z1 := w.2.2.1 0 (by omega)
  refine t_TP_pace_0 (c_has (s := 0) k_told (by omega) (c.sz (by omega)) z1 (fun j hj e => br1 ?_) fun q => br0 (t_Mo_pace_0 (r_isC0 w r q (br0 ⟨rfl, i⟩))))
  subst e
  have wc := w.2.2.2.1 j hj
  have ho := rC.wf_o w hj
  have cc : cC f (7 + 21 * j) _ := c.2.2.2.2.2.1 j hj
  have kc : xS0 L (7 + 21 * j) = (1, 0) := k_coun (by omega)
  have ref : ∀ {g : Hp} {Q : Int32 → Hp → Prop}, FrC f g → (∀ g3 : Hp, FrR g g3 → cur g3 (610 + 82 * j) (T.2.2.1 j) → rDl g3 (610 + 82 * j) (T.2.2.1 j) → rTT g3 (ttF (T.2.2.1 j)) → g3 400 53 = iN (SENT (T.2.2.1 j)) → g3 400 54 = eQ (QUIET (T.2.2.1 j)) → ((y = 0 → Q (g3 400 53) g3) ∧ (¬ y = 0 → ((y = 1 → Q (g3 400 54) g3) ∧ (¬ y = 1 → ((y = 2 → CI L xs xm_Mo_slowestOf [.ref 400] g3 (fun v2 g4 => Q v2 g4)) ∧ (¬ y = 2 → ((y = 3 → CI L xs xm_Mo_tightOf [.ref 400] g3 (fun v3 g5 => Q v3 g5)) ∧ (¬ y = 3 → ((y = 4 → CI L xs xm_Mo_spareOf [.ref 400] g3 (fun v4 g6 => Q v4 g6)) ∧ (¬ y = 4 → CI L xs xm_Mo_isIn [.int y, .int 11, .int 20] g3 (fun v5 g7 => ((v5 = 0 → Q (-2) g7) ∧ (¬ v5 = 0 → CI L xs xm_Mo_doneOf [.ref 400, .int (y - 10)] g7 (fun v6 g8 => CI L xs xm_Mo_minuteOf [.int v6] g8 (fun v7 g9 => Q v7 g9)))))))))))))))) → CI L xs xm_Mo_pace [.ref 400, .int (iN j), .int y] g Q := by
    intro g Q hg hk
    refine t_Mo_pace_0 (r_isC' w (r.fr (hg 401 (by omega))) hj fun g1 cu rc e => br1 (r_plays wc cu rc ho fun g2 rt fr => ?_))
    refine r_sendsAll wc (cu.fr (fr 400 (by omega))) (rc.fr (fr 401 (by omega))) ho rt fun g3 s1 s2 s3 s4 => ?_
    exact hk g3 (fun a ha => by rw [s4 a (by omega), fr a (by omega), e a (by omega)]) ((cu.fr (fr 400 (by omega))).co fun j' p q => s3 j' (by omega) (by omega)) (rc.fr (by rw [s4 401 (by omega), fr 401 (by omega)])) (rt.fr fun x p q => s4 x (by omega)) s1 s2
  have frx : ∀ {g3 g4 : Hp}, FrR f g3 → (∀ x, ¬ x = 400 → x < 427 ∨ 431 < x → g4 x = g3 x) → ∀ a, a < 400 ∨ a = 401 ∨ a = 402 → g4 a = f a := fun h1 h2 a ha => by rw [h2 a (by omega) (by omega), h1 a ha]
  refine ⟨j, rfl, by omega, fun p => ?_, fun p3 => ⟨fun p => ?_, fun p4 => ?_⟩⟩
  · refine c_tightest kc (by omega) wc cc fun v g tg fr => ?_
    have hg : FrC f g := fun a ha => fr a (by omega)
    refine ref hg fun g3 f3 cu rc rt s1 s2 => brF (by rw [p]; decide) (brF (by rw [p]; decide) (brF (by rw [p]; decide) (brT p (r_tightOf wc cu rc ho fun v' g4 tg' fr4 => ⟨tgP_u tg tg', i.q hg fun a ha => ?_⟩))))
    rw [fr4 a (by omega) (by omega), f3 a ha]
  · refine c_spare kc (by omega) wc cc fun g fr => ?_
    have hg : FrC f g := fun a ha => fr a (by omega)
    refine ref hg fun g3 f3 cu rc rt s1 s2 => brF (by rw [p]; decide) (brF (by rw [p]; decide) (brF (by rw [p]; decide) (brF p3 (brT p (r_spareOf wc cu rc ho fun g4 fr4 => ⟨rfl, i.q hg fun a ha => ?_⟩)))))
    rw [fr4 a (by omega) (by omega), f3 a ha]
  · rw [cc.2.1, cc.2.2.2.1]
    refine c_plan kc (by omega) wc wc cc CD_eta fun g1 a1 a2 a3 a4 a5 => ?_
    have hg : FrC f g1 := fun a ha => a5 a (by omega)
    refine ⟨fun p => ?_, fun p0 => ⟨fun p => ?_, fun p1 => ⟨fun p => ?_, fun p2 => ⟨fun p => ?_, fun p => ⟨fun p5 => ?_, fun p5 => ?_⟩⟩⟩⟩⟩
    · exact ref hg fun g3 f3 cu rc rt s1 s2 => brT p ⟨by rw [s1, a3], i.q hg f3⟩
    · exact ref hg fun g3 f3 cu rc rt s1 s2 => brF p0 (brT p ⟨by rw [s2, a4], i.q hg f3⟩)
    · refine c_slowest wc a1 a2 fun v g2 sl fr2 => ?_
      have hg2 : FrC f g2 := fun a ha => by rw [fr2 a (by omega), hg a ha]
      refine ref hg2 fun g3 f3 cu rc rt s1 s2 => brF p0 (brF p1 (brT p (r_slowestOf wc cu rt fun v' g4 sl' fr4 => ⟨slP_u sl sl', i.q hg2 fun a ha => ?_⟩)))
      rw [fr4 a (by omega), f3 a ha]
    · refine ref hg fun g3 f3 cu rc rt s1 s2 => brF p0 (brF p1 (brF p2 (brF p3 (brF p4 (r_isIn (a := 11) (b := 20) (by omega) (by omega) (fun n h1 h2 en => ?_) fun _ => br0 ⟨rfl, i.q hg f3⟩)))))
      rw [en] at p
      exact absurd ((iN_lt (b := 11) (by omega) (by omega)).mp p) (by omega)
    · refine ref hg fun g3 f3 cu rc rt s1 s2 => brF p0 (brF p1 (brF p2 (brF p3 (brF p4 (r_isIn (a := 11) (b := 20) (by omega) (by omega) (fun n h1 h2 en => ?_) fun _ => br0 ⟨rfl, i.q hg f3⟩)))))
      rw [en] at p5
      exact absurd ((iN_lt (a := 20) (by omega) (by omega)).mp p5) (by omega)
    · obtain ⟨n, hn1, hn2, rfl⟩ := iN_lo (a := 11) (by omega) p
      have hn3 : n ≤ 20 := by
        rcases Nat.lt_or_ge 20 n with q | q
        · exact absurd (((iN_lt (a := 20) (by omega) (by omega)).mpr (by omega))) p5
        · exact q
      have e10 : iN n - 10 = iN (n - 10) := iN_sub (b := 10) (by omega)
      have db := dnT_bt wc (s := n - 10) (by omega)
      rw [e10]
      refine c_doneAt wc a1 a2 (by omega) fun g2 fr2 => ?_
      have hg2 : FrC f g2 := fun a ha => by rw [fr2 a (by omega), hg a ha]
      have fin : ∀ {v : Int32}, (v = if dnT (T.2.2.1 j) (n - 10) = 1000000 then -1 else iN (dnT (T.2.2.1 j) (n - 10))) → CI L xs xm_Mo_pace [.ref 400, .int (iN j), .int (iN n)] g2 (fun w h => w = v ∧ Inv h) := fun ev => by
        refine ref hg2 fun g3 f3 cu rc rt s1 s2 => brF p0 (brF p1 (brF p2 (brF p3 (brF p4 (r_isIn (a := 11) (b := 20) (by omega) (by omega) (fun n' h1 h2 en => br1 ?_) fun q => absurd rfl (q n hn1 hn3))))))
        rw [e10]
        refine r_doneOf wc cu rt (by omega) fun g4 fr4 => r_minute db ⟨ev.symm, i.q hg2 fun a ha => ?_⟩
        rw [fr4 a (by omega), f3 a ha]
      refine c_minute db (fun z => fin ?_) fun z => fin ?_
      · rw [if_pos z]
      · rw [if_neg z]
end PACE2
