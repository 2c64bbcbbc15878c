theorem xoS_40 {L a : Nat} (h : (xoS L a).1 = 40) : (a = 1000000 ∧ (xoS L a).2 = L) ∨ ∃ j, 1 ≤ j ∧ j ≤ 4 ∧ a = 1000000 + j ∧ (xoS L a).2 = (xTab.getD j []).length := by
  unfold xoS at h ⊢
  by_cases h1 : a < 1000000
  · rw [if_pos h1] at h
    cases h
  · rw [if_neg h1] at h ⊢
    by_cases h2 : a = 1000000
    · left
      exact ⟨h2, by rw [if_pos h2]⟩
    · rw [if_neg h2] at h ⊢
      by_cases h3 : a < 1000005
      · right
        exact ⟨a - 1000000, by omega, by omega, by omega, by rw [if_pos h3]⟩
      · rw [if_neg h3] at h
        split at h
        · cases h
        · split at h <;> cases h
theorem xoS_42 {L a : Nat} (h : (xoS L a).1 = 42) : ∃ i, i < 17 ∧ a = 1000010 + i := by
  unfold xoS at h
  by_cases h1 : a < 1000000
  · rw [if_pos h1] at h
    cases h
  · rw [if_neg h1] at h
    by_cases h2 : a = 1000000
    · rw [if_pos h2] at h
      cases h
    · rw [if_neg h2] at h
      by_cases h3 : a < 1000005
      · rw [if_pos h3] at h
        cases h
      · rw [if_neg h3] at h
        by_cases h4 : 1000010 ≤ a ∧ a < 1000027
        · exact ⟨a - 1000010, by omega, by omega⟩
        · rw [if_neg h4] at h
          split at h <;> cases h
theorem xoS_43 {L a : Nat} (h : (xoS L a).1 = 43) : ∃ i, i < 17 ∧ a = 1000030 + i ∧ (xoS L a).2 = xTl.getD i 0 := by
  unfold xoS at h ⊢
  by_cases h1 : a < 1000000
  · rw [if_pos h1] at h
    cases h
  · rw [if_neg h1] at h ⊢
    by_cases h2 : a = 1000000
    · rw [if_pos h2] at h
      cases h
    · rw [if_neg h2] at h ⊢
      by_cases h3 : a < 1000005
      · rw [if_pos h3] at h
        cases h
      · rw [if_neg h3] at h ⊢
        by_cases h4 : 1000010 ≤ a ∧ a < 1000027
        · rw [if_pos h4] at h
          cases h
        · rw [if_neg h4] at h ⊢
          by_cases h5 : 1000030 ≤ a ∧ a < 1000047
          · exact ⟨a - 1000030, by omega, by omega, by rw [if_pos h5]⟩
          · rw [if_neg h5] at h
            cases h
theorem xAd_old {g : XG} {j : Nat} : xAd g (1000000 + j) = xgO g j := by
  unfold xAd
  rw [if_neg (by omega), Nat.add_sub_cancel_left]
theorem xoI_0 (xs : Nat → Int32) : xoI xs 1000000 = xs := if_pos rfl
theorem xoI_t (xs : Nat → Int32) {j : Nat} (h1 : 1 ≤ j) (h2 : j ≤ 4) : xoI xs (1000000 + j) = fun i => (xTab.getD j []).getD i 0 := by
  unfold xoI
  rw [if_neg (by omega), if_pos (by omega), Nat.add_sub_cancel_left]
theorem xoI_b (xs : Nat → Int32) {i : Nat} (h : i < 17) : xoI xs (1000030 + i) = fun j => (xTb.getD i []).getD j 0 := by
  unfold xoI
  rw [if_neg (by omega), if_neg (by omega), if_pos (by omega), Nat.add_sub_cancel_left]
section XOLD
variable {p : Program} {l : Launch} {e : Env} {R : Room} {s : State} {mid : MethodId} {args : Array Value} {below : List Frame} {meth : Method} {c : Code} {H : Heap} {locs : List Loc} {cells slots : Nat} {Q : State → Prop}
variable {g : XG} {m : XM} {pc : Nat} {ls : Array Slot} {rest : List Value} {σ : XS} {cc : ByteArray}
theorem xr_ialdO (hF : xFix g m p s mid args meth c) {a : Nat} {i : Int32} (hW : xWd g σ H) (hS : va_S (xA g) s.heap H locs) (hk : (xsS σ a).1 = 40) (hi : vp_in i (xsS σ a).2) (hdg : decode (xmC m) pc = .ok (.iaload, 1))
    (kk : W p l e R s mid args below meth c H locs cells slots Q (F0 mid (pc + 1) ls (.int (xsI σ a i.toNatClampNeg) :: rest))) : W p l e R s mid args below meth c H locs cells slots Q (F0 mid pc ls (.int i :: .ref (xAd g a) :: rest)) := by
  obtain ⟨hx, hb, hml, hown, hts, hO, hsz, hin⟩ := hF
  obtain ⟨ho, hs, hI⟩ := hW.old (a := a) (by omega) (by omega)
  rw [hs] at hk hi
  rw [hI] at kk
  rcases xoS_40 hk with ⟨rfl, hL⟩ | ⟨j, h1, h2, rfl, hL⟩
  · rw [hL] at hi
    rw [xoI_0] at kk
    have e : xAd g 1000000 = xgO g 0 := xAd_old (j := 0)
    rw [e]
    exact va_sld hx hb hO.2.1 (Nat.lt_of_lt_of_le hO.2.2.1 hsz) (Nat.not_le.mpr hO.2.2.1) hS hi hdg kk
  · rw [hL] at hi
    rw [xoI_t _ h1 h2] at kk
    rw [xAd_old]
    exact va_ti hx hb (hO.2.2.2.1 j h1 h2).1 hS hi rfl hdg kk
theorem xr_baldO (hF : xFix g m p s mid args meth c) {a : Nat} {i : Int32} (hW : xWd g σ H) (hS : va_S (xA g) s.heap H locs) (hk : (xsS σ a).1 = 43) (hi : vp_in i (xsS σ a).2) (hdg : decode (xmC m) pc = .ok (.baload, 1))
    (kk : W p l e R s mid args below meth c H locs cells slots Q (F0 mid (pc + 1) ls (.int (xsI σ a i.toNatClampNeg) :: rest))) : W p l e R s mid args below meth c H locs cells slots Q (F0 mid pc ls (.int i :: .ref (xAd g a) :: rest)) := by
  obtain ⟨hx, hb, hml, hown, hts, hO, hsz, hin⟩ := hF
  obtain ⟨ho, hs, hI⟩ := hW.old (a := a) (by omega) (by omega)
  rw [hs] at hk hi
  rw [hI] at kk
  obtain ⟨j, h1, rfl, hL⟩ := xoS_43 hk
  rw [hL] at hi
  rw [xoI_b _ h1] at kk
  have e : xAd g (1000030 + j) = xgO g (30 + j) := by rw [show 1000030 + j = 1000000 + (30 + j) by omega]; exact xAd_old
  rw [e]
  exact va_tb hx hb (hO.2.2.2.2.2.2.2.1.1 j h1).2.2.2 hS hi rfl hdg kk
theorem xr_alenO (hF : xFix g m p s mid args meth c) {a : Nat} (hW : xWd g σ H) (hS : va_S (xA g) s.heap H locs) (hk : (xsS σ a).1 = 40 ∨ (xsS σ a).1 = 43) (hdg : decode (xmC m) pc = .ok (.arraylength, 1))
    (kk : W p l e R s mid args below meth c H locs cells slots Q (F0 mid (pc + 1) ls (.int (Int32.ofNat (xsS σ a).2) :: rest))) : W p l e R s mid args below meth c H locs cells slots Q (F0 mid pc ls (.ref (xAd g a) :: rest)) := by
  obtain ⟨hx, hb, hml, hown, hts, hO, hsz, hin⟩ := hF
  obtain ⟨ho, hs, hI⟩ := hW.old (a := a) (by omega) (by omega)
  rw [hs] at hk kk
  rcases hk with hk | hk
  · rcases xoS_40 hk with ⟨rfl, hL⟩ | ⟨j, h1, h2, rfl, hL⟩
    · rw [hL] at kk
      have e : xAd g 1000000 = xgO g 0 := xAd_old (j := 0)
      rw [e]
      exact va_slen hx hb hO.2.1 (Nat.lt_of_lt_of_le hO.2.2.1 hsz) (Nat.not_le.mpr hO.2.2.1) hS hdg kk
    · rw [hL] at kk
      rw [xAd_old]
      exact va_tlen hx hb (hO.2.2.2.1 j h1 h2).1 hS rfl hdg kk
  · obtain ⟨j, h1, rfl, hL⟩ := xoS_43 hk
    rw [hL] at kk
    have e : xAd g (1000030 + j) = xgO g (30 + j) := by rw [show 1000030 + j = 1000000 + (30 + j) by omega]; exact xAd_old
    rw [e]
    exact va_tlen hx hb (hO.2.2.2.2.2.2.2.1.1 j h1).2.2.2 hS rfl hdg kk
theorem xr_getO (hF : xFix g m p s mid args meth c) {ix f po a : Nat} (hf : xTf (xmOwn m) ix = some (f, po)) (hW : xWd g σ H) (hS : va_S (xA g) s.heap H locs) (hk : (xsS σ a).1 = 42) (hdg : decode (xmC m) pc = .ok (.getfield ix, 3))
    (kk : W p l e R s mid args below meth c H locs cells slots Q (F0 mid (pc + 3) ls (xcv g (if f = 0 then .ref (a + 20) else .int 0) :: rest))) : W p l e R s mid args below meth c H locs cells slots Q (F0 mid pc ls (.ref (xAd g a) :: rest)) := by
  obtain ⟨hx, hb, hml, hown, hts, hO, hsz, hin⟩ := hF
  obtain ⟨ho, hs, hI⟩ := hW.old (a := a) (by omega) (by omega)
  rw [hs] at hk
  obtain ⟨i, hi, rfl⟩ := xoS_42 hk
  obtain ⟨-, hff⟩ := xTf_ok hf
  have e0 : xAd g (1000010 + i) = xgO g (10 + i) := by rw [show 1000010 + i = 1000000 + (10 + i) by omega]; exact xAd_old
  have e2 : xAd g (1000010 + i + 20) = xgO g (30 + i) := by rw [show 1000010 + i + 20 = 1000000 + (30 + i) by omega]; exact xAd_old
  rw [e0]
  rcases hff with ⟨rfl, w⟩ | ⟨rfl, w⟩
  · rw [if_pos rfl] at kk
    refine vk_getf hx hb (hO.2.2.2.2.2.2.2.1.1 i hi).2.2.1 hS hown (hts _ w) (fun _ z => z) hdg ?_
    show W p l e R s mid args below meth c H locs cells slots Q (F0 mid (pc + 3) ls (.ref (xgO g (30 + i)) :: rest))
    rw [← e2]
    exact kk
  · rw [if_neg (by decide)] at kk
    exact vk_getf hx hb (hO.2.2.2.2.2.2.2.1.1 i hi).2.1 hS hown (hts _ w) (fun _ z => z) hdg kk
theorem xr_gets (hF : xFix g m p s mid args meth c) (ho : xmOwn m < 21) {ix w po : Nat} (hf : xSt (xmOwn m) ix = some (w, po)) (hS : va_S (xA g) s.heap H locs) (hdg : decode (xmC m) pc = .ok (.getstatic ix, 3))
    (kk : W p l e R s mid args below meth c H locs cells slots Q (F0 mid (pc + 3) ls (xcv g (if w = 5 then .int 1 else if w = 6 then .retAddr 1 else .ref (1000000 + w)) :: rest))) : W p l e R s mid args below meth c H locs cells slots Q (F0 mid pc ls rest) := by
  obtain ⟨hx, hb, hml, hown, hts, hO, hsz, hin⟩ := hF
  have hm := List.all_eq_true.mp (xSts_ok _ ho) _ (x_lookup hf)
  by_cases h5 : w = 5
  · subst h5
    simp only [if_true, decide_eq_true_eq] at hm
    exact va_gets hx hb hO.2.2.2.2.1 hS hown (hts _ (xw_of hm rfl)) (fun _ z => z) hdg kk
  · by_cases h6 : w = 6
    · subst h6
      simp only [show ¬ ((6 : Nat) = 5) by decide, if_false, if_true, decide_eq_true_eq] at hm
      exact va_gets hx hb hO.2.2.2.2.2.1 hS hown (hts _ (xw_of hm rfl)) (fun _ z => z) hdg kk
    · simp only [if_neg h5, if_neg h6, Bool.and_eq_true, decide_eq_true_eq] at hm
      rw [if_neg h5, if_neg h6] at kk
      refine va_gets hx hb (hO.2.2.2.1 w hm.1.1 hm.1.2).2 hS hown (hts _ (xw_of hm.2 rfl)) (fun _ z => z) hdg ?_
      rw [← xAd_old]
      exact kk
theorem xr_ldcS (hF : xFix g m p s mid args meth c) {ix i : Nat} (hf : xTxt (xmOwn m) ix = some i) (hdg : decode (xmC m) pc = .ok (.ldc ix, 2))
    (kk : W p l e R s mid args below meth c H locs cells slots Q (F0 mid (pc + 2) ls (.ref (xAd g (1000010 + i)) :: rest))) : W p l e R s mid args below meth c H locs cells slots Q (F0 mid pc ls rest) := by
  obtain ⟨hx, hb, hml, hown, hts, hO, hsz, hin⟩ := hF
  unfold xTxt at hf
  by_cases h4 : xmOwn m = 4
  · rw [if_pos h4] at hf
    rw [h4] at hown
    obtain ⟨hi, he, -⟩ := List.findIdx?_eq_some_iff_getElem.mp hf
    have hi17 : i < 17 := hi
    have e2 : (xTx.getD i (0, "")).1 = ix := by
      rw [List.getD_eq_getElem?_getD, List.getElem?_eq_getElem hi]
      simpa using he
    have hR := hO.2.2.2.2.2.2.2.2.1 i hi17
    rw [e2] at hR
    have e : xAd g (1000010 + i) = xgO g (10 + i) := by rw [show 1000010 + i = 1000000 + (10 + i) by omega]; exact xAd_old
    rw [e] at kk
    exact va_ldcS hx hb hown hR hdg kk
  · rw [if_neg h4] at hf
    cases hf
theorem xr_copy (hF : xFix g m p s mid args meth c) (ho : xmOwn m < 21) {ix j po s0 d : Nat} {sp dp n : Int32} (hv : xgV g = .null ∨ ∃ t, xgV g = .ref t) {r : List Value} (hf : xCal (xmOwn m) ix = some (5, j, po)) (hW : xWd g σ H) (hS : va_S (xA g) s.heap H locs) (hl : ls.size = xmL m) (hk : (xsS σ s0).1 = 20 ∨ (xsS σ s0).1 = 21) (hkd : (xsS σ s0).1 = (xsS σ d).1) (h1 : ¬ sp < 0) (h2 : ¬ dp < 0) (h3 : ¬ n < 0) (h4 : sp.toNatClampNeg + n.toNatClampNeg ≤ (xsS σ s0).2) (h5 : dp.toNatClampNeg + n.toNatClampNeg ≤ (xsS σ d).2) (hr : xcat r ≤ 8) (hfr : 1 ≤ R.frames) (hlo : 26 ≤ R.locals) (hdg : decode (xmC m) pc = .ok (.invokestatic ix, 3))
    (kk : ∀ H' locs', xWd g (xRow σ d (va_cpy (xsI σ s0) (xsI σ d) sp.toNatClampNeg dp.toNatClampNeg n.toNatClampNeg)) H' → va_S (xA g) s.heap H' locs' → W p l e R s mid args below meth c H' locs' cells slots Q (F0 mid (pc + 3) ls (r.map (xcv g)))) : W p l e R s mid args below meth c H locs cells slots Q (F0 mid pc ls (.int n :: .int dp :: .ref (xAd g d) :: .int sp :: .ref (xAd g s0) :: r.map (xcv g))) := by
  obtain ⟨hx, hb, hml, hown, hts, hO, hsz, hin⟩ := hF
  have hm := List.all_eq_true.mp (xCs_ok _ ho) _ (x_lookup hf)
  simp only [if_neg (show ¬ (5 = 4) by decide), if_true, decide_eq_true_eq] at hm
  have hlink := hts _ (xw_of hm rfl)
  obtain ⟨hnat, hstat, hini⟩ := xCpy_ok
  have he0 := hW.pl (a := s0) (by omega)
  rw [xEnt_i (by omega) (by omega)] at he0
  have he1 := hW.pl (a := d) (by omega)
  rw [xEnt_i (by omega) (by omega), ← hkd] at he1
  have hty : ∃ ty, refKind ty = false ∧ (xTys g)[(xsS σ s0).1 - 20]? = some (xgA g (xsS σ s0).1, ty) ∧ ∀ i, fits ty (.int (xsI σ s0 i)) = true := by
    rcases hk with h | h
    · exact ⟨.int, rfl, by rw [h]; rfl, fun i => rfl⟩
    · refine ⟨.byte, rfl, by rw [h]; rfl, fun i => ?_⟩
      rw [← hW.2.2.2.2.2.1 s0 i h]
      exact pk_fb _
  obtain ⟨ty, hprim, ht, hfit⟩ := hty
  have nn : ∀ z : Int32, ¬ z < 0 → z.toInt = (z.toNatClampNeg : Int) := by
    intro z hz
    have hz0 : (0 : Int) ≤ z.toInt := by
      have := Int32.not_lt.mp hz
      simpa using Int32.le_iff_toInt_le.mp this
    show z.toInt = ((z.toInt.toNat : Nat) : Int)
    omega
  have hc0 : H[xAd g s0]? = some (vp_cell (xgA g (xsS σ s0).1) ((xsS σ s0).2, .inl (xsI σ s0))) := hW.2.2.1 s0 _ he0
  have hc1 : H[xAd g d]? = some (vp_cell (xgA g (xsS σ s0).1) ((xsS σ d).2, .inl (xsI σ d))) := hW.2.2.1 d _ he1
  obtain ⟨-, k0, hk0, cm0, hkk0⟩ := (hO.1.2 _ _ ht).1 (xsS σ s0).2 (fun j => .int (xsI σ s0 j))
  obtain ⟨-, k1, hk1, cm1, hkk1⟩ := (hO.1.2 _ _ ht).1 (xsS σ d).2 (fun j => .int (xsI σ d j))
  intro T hT X
  obtain ⟨vm', X', step⟩ := X.arraycopy hx hown hlink (hts _ hnat) (hts _ hstat) (hts _ hini) (src := xAd g s0) (dst := xAd g d) (cs := vp_cell (xgA g (xsS σ s0).1) ((xsS σ s0).2, .inl (xsI σ s0))) (cd := vp_cell (xgA g (xsS σ s0).1) ((xsS σ d).2, .inl (xsI σ d))) (srcPos := sp) (destPos := dp) (n := n) (by rw [hT]; exact hc0) (by rw [hT]; exact hc1)
    (fun _ h => by cases h) (fun _ h => by cases h) (fun h => by cases h) (fun h => by cases h) hk0 hk1 hkk0 hkk1 (by simp [hprim]) h1 h2 h3
    (by rw [nn sp h1, nn n h3]; show ¬ _ > ((arrV _ (xsS σ s0).2 (fun j => .int (xsI σ s0 j))).slots.size : Int); rw [arrV_size]; omega)
    (by rw [nn dp h2, nn n h3]; show ¬ _ > ((arrV _ (xsS σ d).2 (fun j => .int (xsI σ d j))).slots.size : Int); rw [arrV_size]; omega)
    (fun vm₁ _ i hi => by
      have e : (vp_cell (xgA g (xsS σ s0).1) ((xsS σ s0).2, .inl (xsI σ s0))).slots.getD (sp.toNatClampNeg + i) .null = .int (xsI σ s0 (sp.toNatClampNeg + i)) := by
        show (arrV _ (xsS σ s0).2 (fun j => .int (xsI σ s0 j))).slots.getD _ _ = _
        rw [Array.getD_eq_getD_getElem?, arrV_read _ _ (by omega)]
        rfl
      refine ⟨?_, ?_⟩
      · rw [e]
        exact hfit _
      · rw [e]
        exact trivial)
    (g := F0 mid pc ls (.int n :: .int dp :: .ref (xAd g d) :: .int sp :: .ref (xAd g s0) :: r.map (xcv g))) rfl (by rw [hml]; exact hl) (rest := r.map (xcv g)) rfl (by rw [hb]; exact hdg) hfr (by
      have e9 := xcat_map hv r
      have e8 : nativeFrameWords "java/lang/System" "arraycopy" 5 = 7 := by decide +kernel
      show 2 * 0 + _ + _ ≤ _
      rw [e8]
      omega)
  have e1 : copied (vp_cell (xgA g (xsS σ s0).1) ((xsS σ s0).2, .inl (xsI σ s0))) (vp_cell (xgA g (xsS σ s0).1) ((xsS σ d).2, .inl (xsI σ d))) sp dp n = vp_cell (xgA g (xsS σ s0).1) ((xsS σ d).2, .inl (va_cpy (xsI σ s0) (xsI σ d) sp.toNatClampNeg dp.toNatClampNeg n.toNatClampNeg)) := va_copied (fun z => .int z) _ _ (xsI σ s0) (xsI σ d) h4
  rw [e1] at X' step
  have hl2 : xAd g d < H.size := (Array.getElem?_eq_some_iff.mp hc1).1
  generalize hcl : vp_cell (xgA g (xsS σ s0).1) ((xsS σ d).2, .inl (va_cpy (xsI σ s0) (xsI σ d) sp.toNatClampNeg dp.toNatClampNeg n.toNatClampNeg)) = cl9 at X' step
  have hheap : ((T.setVm vm').setCell (xAd g d) cl9).heap = H.setIfInBounds (xAd g d) cl9 := by rw [← hT]; rfl
  have oq : ∀ q : Nat, q ≠ xAd g d → (H.setIfInBounds (xAd g d) cl9)[q]? = H[q]? := fun q hq => by simp [Array.getElem?_setIfInBounds, Ne.symm hq]
  have hdA : xA g (xAd g d) := by rw [hW.ad (a := d) (by omega)]; exact Nat.le_add_right _ _
  obtain ⟨t, a1, b1⟩ := kk (H.setIfInBounds (xAd g d) cl9) _ (hW.row (by omega) (by omega) (fun h i => by
      by_cases hh : dp.toNatClampNeg ≤ i ∧ i < dp.toNatClampNeg + n.toNatClampNeg
      · rw [pk_cpy_in hh.1 hh.2]
        exact hW.2.2.2.2.2.1 s0 _ (by omega)
      · rw [pk_cpy_out (by omega)]
        exact hW.2.2.2.2.2.1 d _ h) (by simp) (by rw [← hkd, hcl]; simp [Array.getElem?_setIfInBounds, hl2]) oq) ⟨by simp; exact hS.1, fun q g1 g2 => by
      rw [oq q (fun e => g2 (by rw [e]; exact hdA))]
      exact hS.2.1 q g1 g2, fun q hq => by
      rcases List.mem_append.mp hq with h | h
      · exact hS.2.2 q h
      · obtain ⟨z, -, hz⟩ := List.mem_map.mp h
        rw [← hz]
        exact hdA⟩ _ hheap X'
  exact ⟨t, step t a1, b1⟩
end XOLD
