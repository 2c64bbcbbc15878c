theorem xArg_inv {j : Nat} {st as rest : List Value} {cm : XM} (h : xArg j st = some (cm, as, rest)) : xMs[j]? = some cm ∧ as.length = xmN cm ∧ xcat rest ≤ 8 ∧ (xfl as).length ≤ xmL cm ∧ st = as.reverse ++ rest := by
  unfold xArg at h
  cases hj : xMs[j]? with
  | none => simp only [hj] at h; cases h
  | some c =>
    simp only [hj] at h
    split at h
    · rename_i hc
      simp only [Bool.and_eq_true, decide_eq_true_eq] at hc
      cases h
      refine ⟨rfl, ?_, hc.1.2, hc.2, ?_⟩
      · rw [List.length_reverse, List.length_take]
        omega
      · rw [List.reverse_reverse, List.take_append_drop]
    · cases h
theorem xCs_n {ow ix j po : Nat} {cm : XM} (ho : ow < 21) (h : xCal ow ix = some (3, j, po)) (hj : xMs[j]? = some cm) : xmOwn cm ≠ 13 ∧ (ow, ix, xmY cm) ∈ xNest ∧ xmK cm = 0 := by
  have hm := List.all_eq_true.mp (xCs_ok ow ho) _ (x_lookup h)
  simp only [show ¬ ((3 : Nat) = 4) by decide, show ¬ ((3 : Nat) = 5) by decide, show ¬ ((3 : Nat) = 6) by decide, show ¬ ((3 : Nat) = 7) by decide, if_false, if_true, hj] at hm
  have h1 := Bool.and_eq_true_iff.mp hm
  have h2 := Bool.and_eq_true_iff.mp h1.2
  exact ⟨bne_iff_ne.mp h1.1, of_decide_eq_true h2.1, eq_of_beq h2.2⟩
section XMAIN
variable {p : Program} {l : Launch} {e : Env} {R : Room} {s : State} {mid : MethodId} {args : Array Value} {below : List Frame} {meth : Method} {c : Code} {H : Heap} {locs : List Loc} {cells slots : Nat} {Q : State → Prop}
variable {g : XG} {m : XM} {pc : Nat} {ls : Array Slot} {σ τ : XS} {r : Option Value}
theorem x_roomC {m cm : XM} {ix k j po : Nat} (hrm : xRoomC m ix = true) (h1 : xCal (xmOwn m) ix = some (k, j, po)) (hk : k ≤ 3) (hj : xMs[j]? = some cm) : xmFr cm + 1 ≤ xmFr m ∧ 8 + (xmL cm + 11) + xmLo cm ≤ xmLo m := by
  unfold xRoomC at hrm
  simp only [h1] at hrm
  rw [if_neg (by omega), if_neg (by omega), if_neg (by omega), hj] at hrm
  simp only [Bool.and_eq_true, decide_eq_true_eq] at hrm
  exact hrm
theorem x_callS {cm : XM} {ix j po : Nat} {as rest st : List Value} (hm : m ∈ xMs) (hF : xFix g m p s mid args meth c) (h1 : xCal (xmOwn m) ix = some (0, j, po)) (ha : xArg j st = some (cm, as, rest)) (hrm : xRoomC m ix = true) (hM : ∀ (hcm : cm ∈ xMs) (h13 : xmOwn cm ≠ 13), Met l (xmY cm) (Cond.code (xmY cm) (xmC cm) (xmL cm) (xmRet cm) :: xw) { frames := xmFr cm, cells := xsN τ - xsN σ, slots := xsZ τ - xsZ σ, locals := xmLo cm } (xPc g as σ) (xQc g r τ) (xsN τ - xsN σ) (xsZ τ - xsZ σ) (xA g)) (hW : xWd g σ H) (hS : va_S (xA g) s.heap H locs) (hlen : ls.size = xmL m) (hfr : xmFr m ≤ R.frames) (hlo : xmLo m ≤ R.locals) (hc : cells + (xsN τ - xsN σ) ≤ R.cells) (hz : slots + (xsZ τ - xsZ σ) ≤ R.slots) (hdg : decode (xmC m) pc = .ok (.invokestatic ix, 3))
    (kk : ∀ (H1 : Heap) (locs1 : List Loc), xWd g τ H1 → va_S (xA g) s.heap H1 locs1 → W p l e R s mid args below meth c H1 locs1 (cells + (xsN τ - xsN σ)) (slots + (xsZ τ - xsZ σ)) Q (F0 mid (pc + 3) ls ((r.map (xcv g)).toList ++ rest.map (xcv g)))) : W p l e R s mid args below meth c H locs cells slots Q (F0 mid pc ls (st.map (xcv g))) := by
  obtain ⟨hj, hn, hcat, hfl, rfl⟩ := xArg_inv ha
  have hcm : cm ∈ xMs := List.mem_of_getElem? hj
  have hro := x_roomC hrm h1 (by decide) hj
  obtain ⟨hx, hb, hml, hown, hts, hO, hsz, hin⟩ := id hF
  have hm9 := List.all_eq_true.mp (xCs_ok _ (x_own hm)) _ (x_lookup h1)
  simp only [show ¬ ((0 : Nat) = 4) by decide, show ¬ ((0 : Nat) = 5) by decide, show ¬ ((0 : Nat) = 6) by decide, show ¬ ((0 : Nat) = 7) by decide, show ¬ ((0 : Nat) = 3) by decide, if_false, hj, Bool.and_eq_true, bne_iff_ne, ne_eq, beq_iff_eq, decide_eq_true_eq] at hm9
  obtain ⟨h13, hK, hlink⟩ := hm9
  obtain ⟨w1, w2, w3, w4, w5, w6, w7, w8, w9, w10, w11⟩ := x_wordb hcm h13
  rw [if_pos hK.symm] at w1 w6
  have hlk : Cond.methodLink (xR (xmOwn m)) ix (xmY cm) ∈ xw := xw_of hlink rfl
  refine x_cont (a := (as.map (xcv g)).toArray) (va_runS (As := as.map (xcv g)) (n := xmN cm) ⟨hx, hb, hml, hown, hts⟩ (hM hcm h13) ⟨callB_of (xmN cm) hts (x_words hcm h13) rfl rfl rfl (hts _ w3) (hts _ hlk) ⟨w4, w5, w6⟩ ⟨by show xmFr cm + 1 ≤ _; omega, by show 8 + (xmL cm + 11) + xmLo cm ≤ _; omega⟩, hts _ w1⟩ ⟨xPc_blind g as σ, x_preS hF hW hS as⟩ rfl (by rw [List.length_map]; exact hn) hlen (by rw [List.map_append, List.map_reverse]) (by rw [xcat_map hO.2.2.2.2.2.2.1]; show 2 * 0 + _ ≤ 8; omega) hdg ⟨hc, hz⟩) hS kk
theorem x_callN {cm : XM} {ix j po : Nat} {as rest st : List Value} (hm : m ∈ xMs) (hF : xFix g m p s mid args meth c) (h1 : xCal (xmOwn m) ix = some (3, j, po)) (ha : xArg j st = some (cm, as, rest)) (hrm : xRoomC m ix = true) (hM : ∀ (hcm : cm ∈ xMs) (h13 : xmOwn cm ≠ 13), Met l (xmY cm) (Cond.code (xmY cm) (xmC cm) (xmL cm) (xmRet cm) :: xw) { frames := xmFr cm, cells := xsN τ - xsN σ, slots := xsZ τ - xsZ σ, locals := xmLo cm } (xPc g as σ) (xQc g r τ) (xsN τ - xsN σ) (xsZ τ - xsZ σ) (xA g)) (hW : xWd g σ H) (hS : va_S (xA g) s.heap H locs) (hlen : ls.size = xmL m) (hfr : xmFr m ≤ R.frames) (hlo : xmLo m ≤ R.locals) (hc : cells + (xsN τ - xsN σ) ≤ R.cells) (hz : slots + (xsZ τ - xsZ σ) ≤ R.slots) (hdg : decode (xmC m) pc = .ok (.invokestatic ix, 3))
    (kk : ∀ (H1 : Heap) (locs1 : List Loc), xWd g τ H1 → va_S (xA g) s.heap H1 locs1 → W p l e R s mid args below meth c H1 locs1 (cells + (xsN τ - xsN σ)) (slots + (xsZ τ - xsZ σ)) Q (F0 mid (pc + 3) ls ((r.map (xcv g)).toList ++ rest.map (xcv g)))) : W p l e R s mid args below meth c H locs cells slots Q (F0 mid pc ls (st.map (xcv g))) := by
  obtain ⟨hj, hn, hcat, hfl, rfl⟩ := xArg_inv ha
  have hcm : cm ∈ xMs := List.mem_of_getElem? hj
  have hro := x_roomC hrm h1 (by decide) hj
  obtain ⟨hx, hb, hml, hown, hts, hO, hsz, hin⟩ := id hF
  obtain ⟨h13, hne, hK⟩ := xCs_n (x_own hm) h1 hj
  obtain ⟨w1, w2, w3, w4, w5, w6, w7, w8, w9, w10, w11⟩ := x_wordb hcm h13
  rw [if_pos hK] at w1 w6
  have hnw : va_Nw (.methodLinkNest (xR (xmOwn m)) ix (xmY cm) "ThreePhases") s := hO.2.2.2.2.2.2.2.2.2.1 (xmOwn m, ix, xmY cm) hne
  have hcb := va_cnB (R := R) (mc := xsN τ - xsN σ) (ms := xsZ τ - xsZ σ) (rm := { frames := xmFr cm, cells := xsN τ - xsN σ, slots := xsZ τ - xsZ σ, locals := xmLo cm }) (xmN cm) hts (x_words hcm h13) rfl rfl rfl hnw (hts _ w3) ⟨w4, w5, w6⟩ ⟨by show xmFr cm + 1 ≤ _; omega, by show 8 + (xmL cm + 11) + xmLo cm ≤ _; omega⟩
  refine x_cont (a := (as.map (xcv g)).toArray) (va_runSN (As := as.map (xcv g)) (n := xmN cm) ⟨hx, hb, hml, hown, hts⟩ (hM hcm h13) ⟨hcb, hts _ w1, trivial⟩ ⟨xPc_blind g as σ, x_preS hF hW hS as⟩ rfl (by rw [List.length_map]; exact hn) hlen (by rw [List.map_append, List.map_reverse]) (by rw [xcat_map hO.2.2.2.2.2.2.1]; show 2 * 0 + _ ≤ 8; omega) hdg ⟨hc, hz⟩) hS kk
theorem x_callI {cm : XM} {ix j po a : Nat} {as rest st : List Value} (hm : m ∈ xMs) (hF : xFix g m p s mid args meth c) (h1 : xCal (xmOwn m) ix = some (2, j, po)) (ha : xArg j st = some (cm, .ref a :: as, rest)) (hrm : xRoomC m ix = true) (hM : ∀ (hcm : cm ∈ xMs) (h13 : xmOwn cm ≠ 13), Met l (xmY cm) (Cond.code (xmY cm) (xmC cm) (xmL cm) (xmRet cm) :: xw) { frames := xmFr cm, cells := xsN τ - xsN σ, slots := xsZ τ - xsZ σ, locals := xmLo cm } (xPc g (.ref a :: as) σ) (xQc g r τ) (xsN τ - xsN σ) (xsZ τ - xsZ σ) (xA g)) (hW : xWd g σ H) (hS : va_S (xA g) s.heap H locs) (hlen : ls.size = xmL m) (hfr : xmFr m ≤ R.frames) (hlo : xmLo m ≤ R.locals) (hc : cells + (xsN τ - xsN σ) ≤ R.cells) (hz : slots + (xsZ τ - xsZ σ) ≤ R.slots) (hdg : decode (xmC m) pc = .ok (.invokespecial ix, 3))
    (kk : ∀ (H1 : Heap) (locs1 : List Loc), xWd g τ H1 → va_S (xA g) s.heap H1 locs1 → W p l e R s mid args below meth c H1 locs1 (cells + (xsN τ - xsN σ)) (slots + (xsZ τ - xsZ σ)) Q (F0 mid (pc + 3) ls ((r.map (xcv g)).toList ++ rest.map (xcv g)))) : W p l e R s mid args below meth c H locs cells slots Q (F0 mid pc ls (st.map (xcv g))) := by
  obtain ⟨hj, hn, hcat, hfl, rfl⟩ := xArg_inv ha
  have hcm : cm ∈ xMs := List.mem_of_getElem? hj
  have hro := x_roomC hrm h1 (by decide) hj
  obtain ⟨hx, hb, hml, hown, hts, hO, hsz, hin⟩ := id hF
  have hm9 := List.all_eq_true.mp (xCs_ok _ (x_own hm)) _ (x_lookup h1)
  simp only [show ¬ ((2 : Nat) = 4) by decide, show ¬ ((2 : Nat) = 5) by decide, show ¬ ((2 : Nat) = 6) by decide, show ¬ ((2 : Nat) = 7) by decide, show ¬ ((2 : Nat) = 3) by decide, if_false, hj, Bool.and_eq_true, bne_iff_ne, ne_eq, beq_iff_eq, decide_eq_true_eq] at hm9
  obtain ⟨h13, hK, hlink⟩ := hm9
  obtain ⟨w1, w2, w3, w4, w5, w6, w7, w8, w9, w10, w11⟩ := x_wordb hcm h13
  rw [if_neg (by omega)] at w1 w6
  obtain ⟨w12, w13⟩ := w10 hK.symm
  have hlk : Cond.methodLink (xR (xmOwn m)) ix (xmY cm) ∈ xw := xw_of hlink rfl
  have hM2 := hM hcm h13
  have hwd := x_words hcm h13
  rw [w13] at hM2 hwd
  refine x_cont (a := ((Value.ref a :: as).map (xcv g)).toArray) (va_runI (b := xAd g a) (As := as.map (xcv g)) (n := xmN cm - 1) ⟨hx, hb, hml, hown, hts⟩ hM2 ⟨callB_of (xmN cm - 1) hts hwd rfl rfl rfl (hts _ w3) (hts _ hlk) ⟨w4, w5, w6⟩ ⟨by show xmFr cm + 1 ≤ _; omega, by show 8 + (xmL cm + 11) + xmLo cm ≤ _; omega⟩, w12, hts _ w1⟩ ⟨xPc_blind g _ σ, x_preS hF hW hS (.ref a :: as)⟩ rfl (by rw [List.length_map]; simp only [List.length_cons] at hn; omega) hlen (by simp [xcv]) (by rw [xcat_map hO.2.2.2.2.2.2.1]; show 2 * 0 + _ ≤ 8; omega) hdg ⟨hc, hz⟩) hS kk
theorem x_callV {cm : XM} {ix j po a : Nat} {as rest st : List Value} (hm : m ∈ xMs) (hF : xFix g m p s mid args meth c) (h1 : xCal (xmOwn m) ix = some (1, j, po)) (ha : xArg j st = some (cm, .ref a :: as, rest)) (hrc : xKo (xsS σ a).1 = xmOwn cm) (hrm : xRoomC m ix = true) (hM : ∀ (hcm : cm ∈ xMs) (h13 : xmOwn cm ≠ 13), Met l (xmY cm) (Cond.code (xmY cm) (xmC cm) (xmL cm) (xmRet cm) :: xw) { frames := xmFr cm, cells := xsN τ - xsN σ, slots := xsZ τ - xsZ σ, locals := xmLo cm } (xPc g (.ref a :: as) σ) (xQc g r τ) (xsN τ - xsN σ) (xsZ τ - xsZ σ) (xA g)) (hW : xWd g σ H) (hS : va_S (xA g) s.heap H locs) (hlen : ls.size = xmL m) (hfr : xmFr m ≤ R.frames) (hlo : xmLo m ≤ R.locals) (hc : cells + (xsN τ - xsN σ) ≤ R.cells) (hz : slots + (xsZ τ - xsZ σ) ≤ R.slots) (hdg : decode (xmC m) pc = .ok (.invokevirtual ix, 3))
    (kk : ∀ (H1 : Heap) (locs1 : List Loc), xWd g τ H1 → va_S (xA g) s.heap H1 locs1 → W p l e R s mid args below meth c H1 locs1 (cells + (xsN τ - xsN σ)) (slots + (xsZ τ - xsZ σ)) Q (F0 mid (pc + 3) ls ((r.map (xcv g)).toList ++ rest.map (xcv g)))) : W p l e R s mid args below meth c H locs cells slots Q (F0 mid pc ls (st.map (xcv g))) := by
  obtain ⟨hj, hn, hcat, hfl, rfl⟩ := xArg_inv ha
  have hcm : cm ∈ xMs := List.mem_of_getElem? hj
  have hro := x_roomC hrm h1 (by decide) hj
  obtain ⟨hx, hb, hml, hown, hts, hO, hsz, hin⟩ := id hF
  have hm9 := List.all_eq_true.mp (xCs_ok _ (x_own hm)) _ (x_lookup h1)
  simp only [show ¬ ((1 : Nat) = 4) by decide, show ¬ ((1 : Nat) = 5) by decide, show ¬ ((1 : Nat) = 6) by decide, show ¬ ((1 : Nat) = 7) by decide, show ¬ ((1 : Nat) = 3) by decide, if_false, hj, Bool.and_eq_true, bne_iff_ne, ne_eq, beq_iff_eq, decide_eq_true_eq] at hm9
  obtain ⟨h13, hK, hlink⟩ := hm9
  obtain ⟨w1, w2, w3, w4, w5, w6, w7, w8, w9, w10, w11⟩ := x_wordb hcm h13
  rw [if_neg (by omega)] at w1 w6
  have hlk : Cond.methodLink (xR (xmOwn m)) ix (xmY cm) ∈ xw := xw_of hlink rfl
  have hov := x_own hcm
  have hrecv : ∃ cellB : Cell, H[xAd g a]? = some cellB ∧ cellB.vm.isStatics = false ∧ s.vm.findClass (xmY cm).cls = some cellB.cls := by
    unfold xKo at hrc
    by_cases h42 : (xsS σ a).1 = 42
    · rw [if_pos h42] at hrc
      obtain ⟨ho, hs, -⟩ := hW.old (a := a) (by omega) (by omega)
      rw [hs] at h42
      obtain ⟨i, hi, rfl⟩ := xoS_42 h42
      have e0 : xAd g (1000010 + i) = xgO g (10 + i) := by rw [show 1000010 + i = 1000000 + (10 + i) by omega]; exact xAd_old
      have hcl : (xmY cm).cls = "java/lang/String" := by rw [← w7, ← hrc]; rfl
      rw [e0, hcl]
      exact vk_recv (adK := fun i => xgO g (10 + i)) (i := i) hO.2.2.2.2.2.2.2.1 hi hS
    · rw [if_neg h42] at hrc
      have h12 : (xsS σ a).1 ≤ 12 := by
        rcases Nat.lt_or_ge 12 (xsS σ a).1 with q | q
        · rw [if_neg (by omega)] at hrc
          omega
        · exact q
      rw [if_pos h12] at hrc
      have he := hW.pl (a := a) (by omega)
      rw [xEnt_o h12] at he
      have := va_recv hO.1 hW.2.2.1 (xCl_get _ (by omega)) he
      rw [← w7, ← hrc]
      exact this
  refine x_cont (a := ((Value.ref a :: as).map (xcv g)).toArray) (va_runV (C := (xmY cm).cls) (b := xAd g a) (As := as.map (xcv g)) (n := xmN cm - 1) ⟨hx, hb, hml, hown, hts⟩ (hM hcm h13) ⟨callB_of (xmN cm - 1) hts (x_words hcm h13) rfl rfl rfl (hts _ w3) (hts _ hlk) ⟨w4, w5, w6⟩ ⟨by show xmFr cm + 1 ≤ _; omega, by show 8 + (xmL cm + 11) + xmLo cm ≤ _; omega⟩, hts _ w1, hts _ (w2 hK.symm)⟩ ⟨xPc_blind g _ σ, hrecv, x_preS hF hW hS (.ref a :: as)⟩ rfl (by rw [List.length_map]; simp only [List.length_cons] at hn; omega) hlen (by simp [xcv]) (by rw [xcat_map hO.2.2.2.2.2.2.1]; show 2 * 0 + _ ≤ 8; omega) hdg ⟨hc, hz⟩) hS kk
end XMAIN
