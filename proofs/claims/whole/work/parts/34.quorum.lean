/-! quorum -/
abbrev qz (F : Nat) : Nat → Prop := fun a => bcn a = 2 * F + 1
abbrev clz (F l a : Nat) : Nat → Prop := fun b => bcn b = 2 * F + 1 ∧ ((iN a &&& iN b) &&& (iN l ^^^ (-1))) = 0
def clS (F l a : Nat) : Nat := if bcn a = 2 * F + 1 then cntW (clz F l a) a else 0
theorem add0 (x : Int32) : x + 0 = x := by simp
theorem cnt_not (p : Nat → Bool) : ∀ n, cntW (fun k => p k = true) n + cntW (fun k => p k = false) n = n
  | 0 => rfl
  | n + 1 => by
    have := cnt_not p n
    rw [cntW_s, cntW_s]
    cases h : p n
    · rw [if_neg (by simp), if_pos rfl]; omega
    · rw [if_pos rfl, if_neg (by simp)]; omega
theorem cnt_up (p : Nat → Prop) [DecidablePred p] (n : Nat) : ∀ d, (∀ k, n ≤ k → ¬ p k) → cntW p (n + d) = cntW p n
  | 0, _ => rfl
  | d + 1, h => by
    rw [← Nat.add_assoc, cntW_s, if_neg (h _ (by omega)), cnt_up p n d h]
theorem bit_hi {l n k : Nat} (h : l < 2 ^ n) (hk : n ≤ k) : l.testBit k = false := Nat.testBit_lt_two_pow (Nat.lt_of_lt_of_le h (Nat.pow_le_pow_right (by omega) hk))
theorem bcn_cnt {l n : Nat} (h : l < 2 ^ n) (hn : n ≤ 14) : bcn l = cntW (fun k => l.testBit k = true) n := by
  unfold bcn
  have := cnt_up (fun k => l.testBit k = true) n (14 - n) (fun k hk => by show ¬ l.testBit k = true; rw [bit_hi h hk]; decide)
  rwa [show n + (14 - n) = 14 by omega] at this
section QUORUM
variable {L : Nat} {xs : Nat → Int32} {f g : Hp} {T : TD}
theorem c_quorums {Q : Int32 → Hp → Prop} {c F : Nat} (kc : xS0 L c = (1, 0)) (h : f c 0 = iN F) (hF : F ≤ 2) (hq : Q (iN (cntW (qz F) (2 ^ (3 * F + 1)))) f) : CI L xs xm_Co_quorums [.ref c] f Q := by
  obtain ⟨N, hN⟩ : ∃ N, N = 2 ^ (3 * F + 1) := ⟨_, rfl⟩
  have hp := pow7 hF
  rw [← hN] at hp hq
  have e : (1 : Int32) <<< (iN (3 * F + 1) &&& 31) = iN N := by rw [shl1 (by omega), hN]
  refine t_Co_quorums_0 kc ?_
  refine for0 N (fun k l g => l = [.ref c, .int (iN (cntW (qz F) k)), .int (iN k)] ∧ g = f) ⟨rfl, rfl⟩ ?_ ?_
  · rintro k l g hk ⟨rfl, rfl⟩ k2
    refine t_Co_quorums_4 kc (c_members kc h ?_)
    rw [e, iN_inc, iN_inc]
    refine brT ((iN_lt (b := _) (by omega) (by omega)).mpr (by omega)) (c_isQuorumSet kc h hF (by omega) (fun p => br1 (k2 _ _ ⟨?_, rfl⟩)) fun p => br0 (k2 _ _ ⟨?_, rfl⟩))
    · rw [cntW_s, if_pos p]
    · rw [cntW_s, if_neg p]
  · rintro l g ⟨rfl, rfl⟩
    refine t_Co_quorums_4 kc (c_members kc h ?_)
    rw [e]
    exact brF (fun z => absurd ((iN_lt (b := _) (by omega) (by omega)).mp z) (by omega)) hq
theorem c_clashes {Q : Int32 → Hp → Prop} {c F l0 : Nat} (kc : xS0 L c = (1, 0)) (h : f c 0 = iN F) (hl : f c 3 = iN l0) (hF : F ≤ 2) (hq : Q (iN (sumW (clS F l0) (2 ^ (3 * F + 1)))) f) : CI L xs xm_Co_clashes [.ref c] f Q := by
  obtain ⟨N, hN⟩ : ∃ N, N = 2 ^ (3 * F + 1) := ⟨_, rfl⟩
  have hp := pow7 hF
  rw [← hN] at hp hq
  have e : (1 : Int32) <<< (iN (3 * F + 1) &&& 31) = iN N := by rw [shl1 (by omega), hN]
  refine t_Co_clashes_0 kc ?_
  refine for0 N (fun k l g => ∃ v : Value, (v.category != 2) = true ∧ l = [.ref c, .int (iN (sumW (clS F l0) k)), .int (iN k), v] ∧ g = f) ⟨_, rfl, rfl, rfl⟩ ?_ ?_
  · rintro k l g hk ⟨v, hv, rfl, rfl⟩ k2
    refine t_Co_clashes_4 kc hv (c_members kc h ?_)
    rw [e]
    refine brT ((iN_lt (b := _) (by omega) (by omega)).mpr (by omega)) ?_
    by_cases hqk : bcn k = 2 * F + 1
    · refine for0 k (fun b l h => l = [.ref c, .int (iN (sumW (clS F l0) k + cntW (clz F l0 k) b)), .int (iN k), .int (iN b)] ∧ h = g) ⟨rfl, rfl⟩ ?_ ?_
      · rintro b l g' hb ⟨rfl, rfl⟩ k3
        refine t_Co_clashes_16 kc (brT ((iN_lt (b := _) (by omega) (by omega)).mpr (by omega)) (c_isQuorumSet kc h hF (by omega) (fun _ => br1 ?_) fun z => absurd hqk z))
        refine c_isQuorumSet kc h hF (by omega) (fun p => br1 ?_) fun p => br0 ?_
        · rw [hl, iN_inc, iN_inc]
          refine ⟨fun p2 => k3 _ _ ⟨?_, rfl⟩, fun p2 => k3 _ _ ⟨?_, rfl⟩⟩
          · rw [cntW_s, if_pos ⟨p, p2⟩]; rfl
          · rw [cntW_s, if_neg (fun z => p2 z.2)]
        · rw [iN_inc]
          refine k3 _ _ ⟨?_, rfl⟩
          rw [cntW_s, if_neg (fun z => p z.1)]
      · rintro l g' ⟨rfl, rfl⟩
        refine t_Co_clashes_16 kc (brF (fun z => absurd ((iN_lt (b := _) (by omega) (by omega)).mp z) (by omega)) ?_)
        rw [iN_inc]
        refine k2 _ _ ⟨.int (iN k), rfl, ?_, rfl⟩
        rw [sumW_s, show clS F l0 k = cntW (clz F l0 k) k from if_pos hqk]
    · have es : sumW (clS F l0) (k + 1) = sumW (clS F l0) k := by rw [sumW_s, show clS F l0 k = 0 from if_neg hqk]; rfl
      refine t_Co_clashes_16 kc ?_
      rw [iN_inc]
      refine ⟨fun p => c_isQuorumSet kc h hF (by omega) (fun z => absurd z hqk) fun _ => br0 (k2 _ _ ⟨.int 0, rfl, by rw [es], rfl⟩), fun p => k2 _ _ ⟨.int 0, rfl, by rw [es], rfl⟩⟩
  · rintro l g ⟨v, hv, rfl, rfl⟩
    refine t_Co_clashes_4 kc hv (c_members kc h ?_)
    rw [e]
    exact brF (fun z => absurd ((iN_lt (b := _) (by omega) (by omega)).mp z) (by omega)) hq
theorem r_quorum {j : Nat} {y : Int32} (w : wfT T) (r : rT f 0 T) (hj : j < tZ T 0) {F l0 : Nat} (eF : F = dF (T.2.2.1 j)) (el : l0 = dL (T.2.2.1 j)) : CI L xs xm_Mo_quorum [.ref 400, .int (iN j), .int y] f (fun v h => FrR f h ∧ (y = 0 → v = iN (2 * F + 1)) ∧ (y = 1 → v = iN (cntW (qz F) (2 ^ (3 * F + 1)))) ∧ (y = 2 → v = iN (sumW (clS F l0) (2 ^ (3 * F + 1)))) ∧ (y = 3 → v = iN (cntW (fun m => l0.testBit m = false) (3 * F + 1))) ∧ (¬ y = 0 → ¬ y = 1 → ¬ y = 2 → ¬ y = 3 → v = -2)) := by
  have wc := w.2.2.2.1 j hj
  refine t_Mo_quorum_0 (r_isC w r hj fun g cu rc fr => br1 ?_)
  generalize T.2.2.1 j = D at *
  obtain ⟨w1, -, -, w4, -⟩ := wc
  obtain ⟨-, -, u3, u4, -, -, u7, -⟩ := cu
  rw [← eF] at u3 u4 w1 w4
  rw [← el] at u7 w4
  obtain ⟨N, hN⟩ : ∃ N, N = 2 ^ (3 * F + 1) := ⟨_, rfl⟩
  have hp := pow7 w1
  rw [← hN] at hp w4 ⊢
  have e : (1 : Int32) <<< (iN (3 * F + 1) &&& 31) = iN N := by rw [shl1 (by omega), hN]
  have ff : FrR f g := fun a ha => fr a (by omega)
  clear eF el
  refine for0 (3 * F + 1) (fun k l h => l = [.ref 400, .int (iN j), .int y, .int (iN (cntW (fun m => l0.testBit m = false) k)), .int (iN k), .retAddr 0, .retAddr 0, .retAddr 0] ∧ h = g) ⟨rfl, rfl⟩ ?_ ?_
  · rintro k l h hk ⟨rfl, rfl⟩ k2
    refine t_Mo_quorum_16 ?_
    rw [u3, iN_inc, iN_inc, add0]
    refine brT ((iN_lt (b := _) (by omega) (by omega)).mpr (by omega)) (r_isLiar u7 (by omega) (by omega) (fun p => br1 (k2 _ _ ⟨?_, rfl⟩)) fun p => br0 (k2 _ _ ⟨?_, rfl⟩))
    · rw [cntW_s, if_neg (by rw [p]; decide)]
    · rw [cntW_s, if_pos p]
  · rintro l h ⟨rfl, rfl⟩
    refine t_Mo_quorum_16 ?_
    rw [u3]
    refine brF (fun z => absurd ((iN_lt (b := _) (by omega) (by omega)).mp z) (by omega)) ?_
    generalize cntW (fun m => l0.testBit m = false) (3 * F + 1) = H
    refine for0 N (fun k l h' => ∃ v : Value, (v.category != 2) = true ∧ l = [.ref 400, .int (iN j), .int y, .int (iN H), .int (iN (cntW (qz F) k)), .int (iN (sumW (clS F l0) k)), .int (iN k), v] ∧ h' = h) ⟨_, rfl, rfl, rfl⟩ ?_ ?_
    · rintro k l h' hk ⟨v, hv, rfl, rfl⟩ k2
      have := bcn_le k
      refine t_Mo_quorum_57 hv ?_
      rw [u3, e]
      refine brT ((iN_lt (b := _) (by omega) (by omega)).mpr (by omega)) (r_bitsOf (by omega) ?_)
      rw [u4]
      by_cases hqk : bcn k = 2 * F + 1
      · refine brT (by rw [hqk]) ?_
        rw [iN_inc]
        have e1 : cntW (qz F) (k + 1) = cntW (qz F) k + 1 := by rw [cntW_s, if_pos hqk]
        rw [← e1]
        refine for0 k (fun b l h2 => l = [.ref 400, .int (iN j), .int y, .int (iN H), .int (iN (cntW (qz F) (k + 1))), .int (iN (sumW (clS F l0) k + cntW (clz F l0 k) b)), .int (iN k), .int (iN b)] ∧ h2 = h') ⟨rfl, rfl⟩ ?_ ?_
        · rintro b l h2 hb ⟨rfl, rfl⟩ k3
          have := bcn_le b
          refine t_Mo_quorum_89 (brT ((iN_lt (b := _) (by omega) (by omega)).mpr (by omega)) (r_bitsOf (by omega) ?_))
          rw [u4, u7, iN_inc, iN_inc, add0]
          refine ⟨fun p => ⟨fun p2 => k3 _ _ ⟨?_, rfl⟩, fun p2 => k3 _ _ ⟨?_, rfl⟩⟩, fun p => k3 _ _ ⟨?_, rfl⟩⟩
          · rw [cnt_pos (p := clz F l0 k) (n := b) ⟨(iN_inj (by omega) (by omega)).mp p, p2⟩]; rfl
          · rw [cnt_neg (p := clz F l0 k) (n := b) (fun z => p2 z.2)]
          · rw [cnt_neg (p := clz F l0 k) (n := b) (fun z => p (congrArg iN z.1))]
        · rintro l h2 ⟨rfl, rfl⟩
          refine t_Mo_quorum_89 (brF (fun z => absurd ((iN_lt (b := _) (by omega) (by omega)).mp z) (by omega)) ?_)
          rw [iN_inc]
          refine k2 _ _ ⟨.int (iN k), rfl, ?_, rfl⟩
          rw [sumW_s, show clS F l0 k = cntW (clz F l0 k) k from if_pos hqk]
      · refine brF (fun z => hqk ((iN_inj (by omega) (by omega)).mp z)) ?_
        rw [iN_inc]
        refine k2 _ _ ⟨v, hv, ?_, rfl⟩
        rw [sumW_s, show clS F l0 k = 0 from if_neg hqk, cntW_s, if_neg hqk]; rfl
    · rintro l h' ⟨v, hv, rfl, rfl⟩
      refine t_Mo_quorum_57 hv ?_
      rw [u3, e]
      refine brF (fun z => absurd ((iN_lt (b := _) (by omega) (by omega)).mp z) (by omega)) ?_
      rw [u4]
      refine ⟨fun p => ?_, fun p0 => ⟨fun p => ?_, fun p1 => ⟨fun p => ?_, fun p2 => ⟨fun p => ?_, fun p3 => ?_⟩⟩⟩⟩
      · exact ⟨ff, fun _ => rfl, fun z => absurd (p.symm.trans z) (by decide), fun z => absurd (p.symm.trans z) (by decide), fun z => absurd (p.symm.trans z) (by decide), fun z => absurd p z⟩
      · exact ⟨ff, fun z => absurd z p0, fun _ => rfl, fun z => absurd (p.symm.trans z) (by decide), fun z => absurd (p.symm.trans z) (by decide), fun _ z => absurd p z⟩
      · exact ⟨ff, fun z => absurd z p0, fun z => absurd z p1, fun _ => rfl, fun z => absurd (p.symm.trans z) (by decide), fun _ _ z => absurd p z⟩
      · exact ⟨ff, fun z => absurd z p0, fun z => absurd z p1, fun z => absurd z p2, fun _ => rfl, fun _ _ _ z => absurd p z⟩
      · exact ⟨ff, fun z => absurd z p0, fun z => absurd z p1, fun z => absurd z p2, fun z => absurd z p3, fun _ _ _ _ => rfl⟩
theorem op_quorum (i : Inv f) (x y : Int32) : CI L xs xm_TP_quorum [.ref 0, .int x, .int y] f (fun v g => CI L xs xm_Mo_quorum [.ref 400, .int x, .int y] g (fun w h => w = v ∧ Inv h)) := by
  obtain ⟨⟨T, w, c, r⟩, im⟩ := id i
  have z1 := w.2.2.1 0 (by omega)
  refine t_TP_quorum_0 (c_has (s := 0) k_told (by omega) (c.sz (by omega)) z1 (fun j hj e => br1 ?_) fun q => br0 (t_Mo_quorum_0 (r_isC0 w r q (br0 ⟨rfl, i⟩))))
  subst e
  have wc := w.2.2.2.1 j hj
  have cc : cC f (7 + 21 * j) _ := c.2.2.2.2.2.1 j hj
  have kc : xS0 L (7 + 21 * j) = (1, 0) := k_coun (by omega)
  have run := r_quorum (L := L) (xs := xs) (y := y) w r hj rfl rfl
  generalize T.2.2.1 j = D at *
  have hp := pow7 wc.1
  have w4 := wc.2.2.2.1
  refine ⟨j, rfl, by omega, fun p => ?_, fun p0 => ⟨fun p => ?_, fun p1 => ⟨fun p => ?_, fun p2 => ⟨fun p => ?_, fun p3 => ?_⟩⟩⟩⟩
  · exact c_quorumSize kc cc.1 (CI.mono run fun v h b => ⟨b.2.1 p, i.q (FrC.refl f) b.1⟩)
  · exact c_quorums kc cc.1 wc.1 (CI.mono run fun v h b => ⟨b.2.2.1 p, i.q (FrC.refl f) b.1⟩)
  · exact c_clashes kc cc.1 cc.2.2.2.1 wc.1 (CI.mono run fun v h b => ⟨b.2.2.2.1 p, i.q (FrC.refl f) b.1⟩)
  · refine c_members kc cc.1 ?_
    rw [cc.2.2.2.1]
    refine c_bitCount (by omega) (CI.mono run fun v h b => ⟨?_, i.q (FrC.refl f) b.1⟩)
    have w1 := wc.1
    have e1 := cnt_not (fun m => (dL D).testBit m) (3 * dF D + 1)
    have e2 := bcn_cnt w4 (by omega)
    rw [b.2.2.2.2.1 p, iN_sub (by omega)]
    congr 1
    omega
  · exact CI.mono run fun v h b => ⟨b.2.2.2.2.2 p0 p1 p2 p3, i.q (FrC.refl f) b.1⟩
end QUORUM
