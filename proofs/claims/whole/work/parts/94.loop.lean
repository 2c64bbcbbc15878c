/-! the law's loop: what is left of the claim -/
theorem and31 (y : Int32) : ∃ u, u < 32 ∧ y &&& 31 = iN u := by
  have e : (y &&& 31).toBitVec.toNat = y.toBitVec.toNat &&& 31 := by
    rw [Int32.toBitVec_and, BitVec.toNat_and]; rfl
  have h : y.toBitVec.toNat &&& 31 ≤ 31 := Nat.and_le_right
  refine ⟨y.toBitVec.toNat &&& 31, by omega, ?_⟩
  rw [← Int32.toInt_inj, iN_toInt (by omega), ← e]
  show (y &&& 31).toBitVec.toInt = _
  rw [BitVec.toInt_eq_toNat_of_lt (by rw [e]; omega)]
theorem sub6 {L q : Nat} (hL : L ≤ 3072) (hq : q ≤ 3078) : iN L - 6 < iN q ↔ ¬ q + 6 ≤ L := by
  by_cases z : 6 ≤ L
  · rw [show iN L - 6 = iN (L - 6) from iN_sub (b := 6) z, iN_lt (by omega) (by omega)]
    omega
  · refine ⟨fun _ => by omega, fun _ => ?_⟩
    rw [Int32.lt_iff_toInt_lt, iN_toInt (by omega)]
    have : (iN L - 6).toInt < 0 := by
      rcases (show L = 0 ∨ L = 1 ∨ L = 2 ∨ L = 3 ∨ L = 4 ∨ L = 5 by omega) with rfl | rfl | rfl | rfl | rfl | rfl <;> decide
    omega
section LAWL
variable {L : Nat} {xs : Nat → Int32}
set_option maxRecDepth 100000 in
theorem law_case {f : Hp} {q u : Nat} {Q : Option Value → Hp → Prop} (hu : u < 32) (i : Inv f) (hq : q + 6 ≤ L) (hL : L ≤ 3072) (kk : ∀ h, Inv h → Wp L xs xm_La_law 1403 [.ref 1000000, .ref 0, .ref 400, .int (iN q)] [] h Q) : Wp L xs xm_La_law 33 [.ref 1000000, .ref 0, .ref 400, .int (iN q)] [.int (iN u)] f Q := by
  rcases (show u = 0 ∨ u = 1 ∨ u = 2 ∨ u = 3 ∨ u = 4 ∨ u = 5 ∨ u = 6 ∨ u = 7 ∨ u = 8 ∨ u = 9 ∨ u = 10 ∨ u = 11 ∨ u = 12 ∨ u = 13 ∨ u = 14 ∨ u = 15 ∨ u = 16 ∨ u = 17 ∨ u = 18 ∨ u = 19 ∨ u = 20 ∨ u = 21 ∨ u = 22 ∨ u = 23 ∨ u = 24 ∨ u = 25 ∨ u = 26 ∨ u = 27 ∨ u = 28 ∨ (29 ≤ u ∧ u < 32) by omega) with rfl | rfl | rfl | rfl | rfl | rfl | rfl | rfl | rfl | rfl | rfl | rfl | rfl | rfl | rfl | rfl | rfl | rfl | rfl | rfl | rfl | rfl | rfl | rfl | rfl | rfl | rfl | rfl | rfl | h
  · exact w_ts (o := 131) (t := 164) rfl (by decide) rfl rfl (law_0 i hq hL kk)
  · exact w_ts (o := 194) (t := 227) rfl (by decide) rfl rfl (law_1 i hq hL kk)
  · exact w_ts (o := 217) (t := 250) rfl (by decide) rfl rfl (law_2 i hq hL kk)
  · exact w_ts (o := 250) (t := 283) rfl (by decide) rfl rfl (law_3 i hq hL kk)
  · exact w_ts (o := 273) (t := 306) rfl (by decide) rfl rfl (law_4 i hq hL kk)
  · exact w_ts (o := 306) (t := 339) rfl (by decide) rfl rfl (law_5 i hq hL kk)
  · exact w_ts (o := 349) (t := 382) rfl (by decide) rfl rfl (law_6 i hq hL kk)
  · exact w_ts (o := 382) (t := 415) rfl (by decide) rfl rfl (law_7 i hq hL kk)
  · exact w_ts (o := 445) (t := 478) rfl (by decide) rfl rfl (law_8 i hq hL kk)
  · exact w_ts (o := 508) (t := 541) rfl (by decide) rfl rfl (law_9 i hq hL kk)
  · exact w_ts (o := 551) (t := 584) rfl (by decide) rfl rfl (law_10 i hq hL kk)
  · exact w_ts (o := 584) (t := 617) rfl (by decide) rfl rfl (law_11 i hq hL kk)
  · exact w_ts (o := 617) (t := 650) rfl (by decide) rfl rfl (law_12 i hq hL kk)
  · exact w_ts (o := 660) (t := 693) rfl (by decide) rfl rfl (law_13 i hq hL kk)
  · exact w_ts (o := 729) (t := 762) rfl (by decide) rfl rfl (law_14 i hq hL kk)
  · exact w_ts (o := 772) (t := 805) rfl (by decide) rfl rfl (law_15 i hq hL kk)
  · exact w_ts (o := 815) (t := 848) rfl (by decide) rfl rfl (law_16 i hq hL kk)
  · exact w_ts (o := 858) (t := 891) rfl (by decide) rfl rfl (law_17 i hq hL kk)
  · exact w_ts (o := 921) (t := 954) rfl (by decide) rfl rfl (law_18 i hq hL kk)
  · exact w_ts (o := 984) (t := 1017) rfl (by decide) rfl rfl (law_19 i hq hL kk)
  · exact w_ts (o := 1063) (t := 1096) rfl (by decide) rfl rfl (law_20 i hq hL kk)
  · exact w_ts (o := 1106) (t := 1139) rfl (by decide) rfl rfl (law_21 i hq hL kk)
  · exact w_ts (o := 1139) (t := 1172) rfl (by decide) rfl rfl (law_22 i hq hL kk)
  · exact w_ts (o := 1182) (t := 1215) rfl (by decide) rfl rfl (law_23 i hq hL kk)
  · exact w_ts (o := 1215) (t := 1248) rfl (by decide) rfl rfl (law_24 i hq hL kk)
  · exact w_ts (o := 1258) (t := 1291) rfl (by decide) rfl rfl (law_25 i hq hL kk)
  · exact w_ts (o := 1301) (t := 1334) rfl (by decide) rfl rfl (law_26 i hq hL kk)
  · exact w_ts (o := 1324) (t := 1357) rfl (by decide) rfl rfl (law_27 i hq hL kk)
  · exact w_ts (o := 1347) (t := 1380) rfl (by decide) rfl rfl (law_28 i hq hL kk)
  · refine w_tsd (t := 1403) rfl (Or.inr ?_) rfl (kk f i)
    rw [iN_toInt (by omega)]
    omega
set_option maxRecDepth 100000 in
theorem law_loop (hL : L ≤ 3072) : ∀ k q (f : Hp), q + k = 3078 → Inv f → Wp L xs xm_La_law 18 [.ref 1000000, .ref 0, .ref 400, .int (iN q)] [] f (QI fun v _ => v = 1)
  | k, q, f, hk, i => by
    refine w_iload_n (pc' := 19) rfl rfl rfl ?_
    refine w_aload_n (pc' := 20) rfl rfl rfl ?_
    refine w_alen (pc' := 21) (kd := 40) (n := L) rfl rfl rfl rfl ?_
    refine w_bipush (pc' := 23) rfl rfl (v := 6) rfl ?_
    refine w_isub (pc' := 24) rfl rfl ?_
    refine w_br2 (pc' := 27) (t := 1409) (c := ¬ q + 6 ≤ L) rfl rfl rfl (ic_gt.trans (sub6 hL (by omega))) (fun _ => ?_) (fun hc => ?_)
    · refine w_iconst (pc' := 1410) rfl rfl (v := 1) rfl ?_
      exact w_ireturn rfl (xr_bool rfl (Or.inr rfl)) rfl
    · have hq : q + 6 ≤ L := Classical.byContradiction hc
      refine w_aload_n (pc' := 28) rfl rfl rfl ?_
      refine w_iload_n (pc' := 29) rfl rfl rfl ?_
      refine w_iaload4 (pc' := 30) (n := L) (i := q) rfl rfl rfl (Nat.le_refl _) rfl (by omega) (by omega) ?_
      refine w_bipush (pc' := 32) rfl rfl (v := 31) rfl ?_
      refine w_iand (pc' := 33) rfl rfl ?_
      obtain ⟨u, hu, eu⟩ := and31 (xoI xs 1000000 q)
      rw [eu]
      refine law_case hu i hq hL fun h ih => ?_
      refine w_iinc (pc' := 1406) (x := iN q) (v := iN (q + 6)) rfl rfl rfl (iN_add q 6) rfl ?_
      refine w_goto (pc' := 18) rfl rfl ?_
      exact law_loop hL (k - 6) (q + 6) h (by omega) ih
  termination_by k => k
  decreasing_by omega
end LAWL
theorem x_pure : xPure := fun L xs hL => by
  obtain ⟨r, g, ⟨n, hn⟩, v, er, ev⟩ := law_loop (L := L) (xs := xs) hL 3078 0 xσ2.2.2.1 rfl inv0
  subst er ev
  exact ⟨n, xB L xs g, hn, by show 435 ≤ 600000; omega, by show 13969 ≤ 7302250; omega⟩
