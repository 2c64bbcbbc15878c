theorem x_outer (c : ClassId) (N h0 : Nat) : ∀ i : Nat, Jvm.Free.Multi.outerC c N h0 i = arrV c N (fun j => va_rf (if j < i then some (h0 + 1 + j) else none))
  | 0 => by
    show ({ cls := c, slots := Array.replicate N .null, vm := .none } : Cell) = _
    rw [arrV_new]
    refine congrArg (arrV c N) (funext fun j => ?_)
    simp [va_rf]
  | i + 1 => by
    show (Jvm.Free.Multi.outerC c N h0 i).setSlot i (.ref (h0 + 1 + i)) = _
    rw [x_outer c N h0 i, arrV_store]
    refine congrArg (arrV c N) (funext fun j => ?_)
    by_cases e : j = i
    · subst e
      simp [updV, va_rf]
    · by_cases h : j < i
      · simp [updV, e, h, Nat.lt_succ_of_lt h]
      · simp [updV, e, h, show ¬ j < i + 1 by omega]
/-- the grid's cells -/
theorem xWd.grid {g : XG} {σ : XS} {H H1 : Heap} (h : xWd g σ H) {n k : Nat} (hN : xsN σ + 1 + n ≤ 1000000) (hz : H1.size = H.size + 1 + n) (hold : ∀ q, q < H.size → H1[q]? = H[q]?) (hout : H1[H.size]? = some (vp_cell (xgA g 29) (n, .inr (.inr (.inr (.inr fun i => if i < n then some (H.size + 1 + i) else none)))))) (hinn : ∀ j, j < n → H1[H.size + 1 + j]? = some (vp_cell (xgA g 20) (k, .inl (fun _ => 0)))) : xWd g (xGrid σ n k) H1 := by
  obtain ⟨h1, h2, h3, h4, h5, h6, h7⟩ := h
  have eS : ∀ a, xsS (xGrid σ n k) a = if a = xsN σ then (29, n) else if xsN σ < a ∧ a < xsN σ + 1 + n then (20, k) else xsS σ a := fun _ => rfl
  have eI : ∀ a, xsI (xGrid σ n k) a = if xsN σ ≤ a ∧ a < xsN σ + 1 + n then (fun _ => 0) else xsI σ a := fun _ => rfl
  have eR : ∀ a, xsR (xGrid σ n k) a = if a = xsN σ then (fun i => if i < n then some (xsN σ + 1 + i) else none) else if xsN σ < a ∧ a < xsN σ + 1 + n then (fun _ => none) else xsR σ a := fun _ => rfl
  refine ⟨by rw [hz, h1]; show _ = xgB g + (xsN σ + 1 + n); omega, hN, fun j q hj => ?_, fun a ha => ?_, fun a ha hk => ?_, fun a i ha => ?_, fun a ha => ?_⟩
  · obtain ⟨z1, rfl⟩ := xWs_inv hj
    have z1 : j < xsN σ + 1 + n := z1
    rcases Nat.lt_trichotomy j (xsN σ) with q | q | q
    · have e : xEnt g (xGrid σ n k) j = xEnt g σ j := xEnt_c (by rw [eS, if_neg (by omega), if_neg (by omega)]) (by rw [eI, if_neg (by omega)]) (by rw [eR, if_neg (by omega), if_neg (by omega)])
      rw [e]
      exact (h3 j _ (xWs_get q)).kept (hold _ (by rw [h1]; show xgB g + j < _; omega))
    · subst q
      rw [xEnt_q (by rw [eS, if_pos rfl]; show 22 < 29; decide), eS, eR, if_pos rfl, if_pos rfl]
      show H1[_]? = some (vp_cell _ _)
      rw [← h1, hout]
      congr 7
      funext i
      by_cases hi : i < n
      · rw [if_pos hi, if_pos hi]
        show some _ = some (xAd g (xsN σ + 1 + i))
        unfold xAd
        rw [if_pos (by omega), h1]
        congr 1
        omega
      · rw [if_neg hi, if_neg hi]
        rfl
    · have hc : xsN σ < j ∧ j < xsN σ + 1 + n := ⟨q, z1⟩
      have e0 : xsS (xGrid σ n k) j = (20, k) := by rw [eS, if_neg (by omega), if_pos hc]
      rw [xEnt_i (by rw [e0]; show 12 < 20; decide) (by rw [e0]; show 20 ≤ 22; decide), e0, eI, if_pos ⟨by omega, z1⟩]
      show H1[_]? = some (vp_cell _ _)
      have e9 := hinn (j - xsN σ - 1) (by omega)
      rw [show H.size + 1 + (j - xsN σ - 1) = xgB g + j by omega] at e9
      exact e9
  · have ha : xsN σ + 1 + n ≤ a := ha
    rw [eS, if_neg (by omega), if_neg (by omega)]
    exact h4 a (by omega)
  · rw [eS, if_neg (by omega), if_neg (by omega)] at hk
    rw [eI, if_neg (by omega)]
    exact h5 a ha hk
  · rw [eS] at ha
    rw [eI]
    by_cases q : xsN σ ≤ a ∧ a < xsN σ + 1 + n
    · rw [if_pos q]
      decide +kernel
    · rw [if_neg q]
      rw [if_neg (by omega), if_neg (by omega)] at ha
      exact h6 a i ha
  · have ha : a < xsN σ + 1 + n := ha
    rw [eS]
    by_cases q1 : a = xsN σ
    · rw [if_pos q1]
      exact Or.inr ⟨show 20 ≤ 29 by decide, show 29 ≤ 29 by decide⟩
    · rw [if_neg q1]
      by_cases q2 : xsN σ < a ∧ a < xsN σ + 1 + n
      · rw [if_pos q2]
        exact Or.inr ⟨show 20 ≤ 20 by decide, show 20 ≤ 29 by decide⟩
      · rw [if_neg q2]
        exact h7 a (by omega)
section XMULTI
variable {p : Program} {l : Launch} {e : Env} {R : Room} {s : State} {mid : MethodId} {args : Array Value} {below : List Frame} {meth : Method} {c : Code} {H : Heap} {locs : List Loc} {cells slots : Nat} {Q : State → Prop}
variable {g : XG} {m : XM} {pc : Nat} {ls : Array Slot} {σ : XS}
theorem xr_multi (hF : xFix g m p s mid args meth c) (ho : xmOwn m < 21) {ix po : Nat} (hf : xKl (xmOwn m) ix = some (29, po)) (hW : xWd g σ H) (hS : va_S (xA g) s.heap H locs) {n k : Int32} (hn : ¬ n < 0) (hk : ¬ k < 0) (hnb : n.toNatClampNeg ≤ 1000) (hkb : k.toNatClampNeg ≤ 1000) (hN : xsN σ + 1 + n.toNatClampNeg ≤ 1000000) (hcells : cells + (1 + n.toNatClampNeg) ≤ R.cells) (hslots : slots + (n.toNatClampNeg + n.toNatClampNeg * k.toNatClampNeg) ≤ R.slots) {rest : List Value} (hdg : decode (xmC m) pc = .ok (.multianewarray ix 2, 4))
    (kk : ∀ H', xWd g (xGrid σ n.toNatClampNeg k.toNatClampNeg) H' → va_S (xA g) s.heap H' locs → W p l e R s mid args below meth c H' locs (cells + 1 + n.toNatClampNeg) (slots + n.toNatClampNeg + n.toNatClampNeg * k.toNatClampNeg) Q (F0 mid (pc + 4) ls (.ref (xgB g + xsN σ) :: rest))) : W p l e R s mid args below meth c H locs cells slots Q (F0 mid pc ls (.int k :: .int n :: rest)) := by
  obtain ⟨hx, hb, hml, hown, hts, hO, hsz, hin⟩ := hF
  have w := (xKl_ok ho hf).1 rfl
  have ew : ("[" ++ (FieldType.array .int).toString) = "[[I" := by decide +kernel
  have w2 : (Cond.classLink (xR (xmOwn m)) ix ("[" ++ (FieldType.array .int).toString)).before args s = true := by rw [ew]; exact hts _ w
  have hover : (Cond.arrayOver (.array .int)).before args s = true := hO.2.2.2.2.2.2.2.2.2.2.2.1
  intro T hT Xs
  obtain ⟨vm₁, cA, comp, -, fA, fC, hOA, -, X', step⟩ := Xs.multianewarray2F (ty := .int) hx hown w2 hover (hts _ xArr_ok.1) (g := F0 mid pc ls (.int k :: .int n :: rest)) rfl (by rw [hb]; exact hdg) rfl hn hk (by omega) (by show _ * 4 ≤ _; omega) (by omega) rfl rfl hcells hslots
  have ecA : cA = xgA g 29 := by
    have h9 : s.vm.findClass ("[" ++ (FieldType.array .int).toString) = some (xgA g 29) := (hO.1.2 9 _ rfl).2
    exact Option.some.inj (fA.symm.trans h9)
  have eco : comp = xgA g 20 := by
    have h9 : s.vm.findClass (FieldType.array .int).toString = some (xgA g 20) := (hO.1.2 0 _ rfl).2
    exact Option.some.inj (fC.symm.trans h9)
  subst ecA
  subst eco
  generalize hF9 : Jvm.Free.Multi.fill (T.setVm vm₁) (xgA g 29) (xgA g 20) n.toNatClampNeg k.toNatClampNeg (defaultValue .int) n.toNatClampNeg = F at X' step
  have hTh : (T.setVm vm₁).heap = H := hT
  obtain ⟨f1, f2, -, -⟩ := Jvm.Free.Multi.fill_facts (T.setVm vm₁) (xgA g 29) (xgA g 20) n.toNatClampNeg k.toNatClampNeg (defaultValue .int) n.toNatClampNeg
  rw [hF9, hTh] at f1 f2
  have hold : ∀ x : Nat, x < H.size → F.heap[x]? = H[x]? := fun x hx => by
    have := Jvm.Free.Multi.fill_old (T.setVm vm₁) (xgA g 29) (xgA g 20) n.toNatClampNeg k.toNatClampNeg (defaultValue .int) (a := x) (by rw [hTh]; exact hx) n.toNatClampNeg
    rw [hF9, hTh] at this
    exact this
  have hrow : ∀ j : Nat, j < n.toNatClampNeg → F.heap[H.size + 1 + j]? = some (vp_cell (xgA g 20) (k.toNatClampNeg, .inl (fun _ => 0))) := fun j hj => by
    have := Jvm.Free.Multi.fill_inner (T.setVm vm₁) (xgA g 29) (xgA g 20) n.toNatClampNeg k.toNatClampNeg (defaultValue .int) n.toNatClampNeg j hj
    rw [hF9, hTh] at this
    rw [this]
    congr 1
    show ({ cls := xgA g 20, slots := Array.replicate k.toNatClampNeg (.int 0), vm := .none } : Cell) = _
    rw [arrV_new]
    rfl
  have hout : F.heap[H.size]? = some (vp_cell (xgA g 29) (n.toNatClampNeg, .inr (.inr (.inr (.inr fun i => if i < n.toNatClampNeg then some (H.size + 1 + i) else none))))) := by
    rw [f2, x_outer, vp_cell_q]
  obtain ⟨t, a1, b1⟩ := kk F.heap (hW.grid hN f1 hold hout hrow) (x_grow hS (by omega) hold) F rfl X'
  refine ⟨t, step t ?_, b1⟩
  have e : T.heap.size = xgB g + xsN σ := by rw [hT]; exact hW.1
  rw [e]
  exact a1
end XMULTI
