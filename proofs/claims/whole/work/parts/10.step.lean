/-! ONE STEP OF THE INTERPRETER IS STEPS OF THE MACHINE -/
theorem x_at {m : XM} {pc len : Nat} {ins : Instr} (hm : m ∈ xMs) (hat : xmAt m pc = some (ins, len)) : decode (xmC m) pc = .ok (ins, len) ∧ (xLen ins = 0 ∨ len = xLen ins) ∧ xRoomI m ins = true := by
  have hin : (pc, ins, len) ∈ xmT m := x_lookup hat
  have h : xOkb m = true := xOkA m hm
  unfold xOkb at h
  have ha := (Bool.and_eq_true_iff.mp (Bool.and_eq_true_iff.mp h).1).1
  have h2 := Bool.and_eq_true_iff.mp (List.all_eq_true.mp ha _ hin)
  have hd := xDec m hm _ hin
  refine ⟨hd, ?_, h2.2⟩
  rcases Bool.or_eq_true_iff.mp h2.1 with q | q
  · exact Or.inl (eq_of_beq q)
  · exact Or.inr (eq_of_beq q)
theorem x_own {m : XM} (hm : m ∈ xMs) : xmOwn m < 21 := by
  have h := xOkA m hm
  unfold xOkb at h
  simp only [Bool.and_eq_true, decide_eq_true_eq] at h
  exact h.1.2
theorem xRoomI_v {m : XM} {ix : Nat} (h : xRoomI m (.invokevirtual ix) = true) : xRoomC m ix = true := h
theorem xRoomI_s {m : XM} {ix : Nat} (h : xRoomI m (.invokespecial ix) = true) : xRoomC m ix = true := h
theorem xRoomI_t {m : XM} {ix : Nat} (h : xRoomI m (.invokestatic ix) = true) : xRoomC m ix = true := h
theorem x_brk {c : Prop} [Decidable c] {t u : Nat} {P : Nat → Prop} (h : P (if c then t else u)) : (c → P t) ∧ (¬ c → P u) := ⟨fun z => by rw [if_pos z] at h; exact h, fun z => by rw [if_neg z] at h; exact h⟩
section XSTEP
variable {p : Program} {l : Launch} {e : Env} {R : Room} {s : State} {mid : MethodId} {args : Array Value} {below : List Frame} {meth : Method} {c : Code} {H : Heap} {locs : List Loc} {cells slots : Nat} {Q : State → Prop}
variable {g : XG} {m : XM} {pc len : Nat} {ls : Array Slot} {xl st : List Value} {σ : XS}
theorem x_ldI (hx : p.tables.exec = Jvm.exec) (hb : c.code = xmC m) {i : Nat} {f : XF} (hl : xLr g xl ls) (h : xldI pc len xl st σ i = some f) : ∃ x, f = (pc + len, xl, .int x :: st, σ) ∧ ls[i]? = some (.val (.int x)) := by
  unfold xldI at h
  split at h
  · rename_i x hx1
    exact ⟨x, (Option.some.inj h).symm, hl.2.2 i _ hx1 (fun q => by intro z; cases z)⟩
  · cases h
theorem x_ldL (hx : p.tables.exec = Jvm.exec) (hb : c.code = xmC m) {i : Nat} {f : XF} (hl : xLr g xl ls) (h : xldL pc len xl st σ i = some f) : ∃ x, f = (pc + len, xl, .long x :: st, σ) ∧ ls[i]? = some (.val (.long x)) := by
  unfold xldL at h
  split at h
  · rename_i x hx1
    exact ⟨x, (Option.some.inj h).symm, hl.2.2 i _ hx1 (fun q => by intro z; cases z)⟩
  · cases h
theorem x_ldA (hx : p.tables.exec = Jvm.exec) (hb : c.code = xmC m) {i : Nat} {f : XF} (hl : xLr g xl ls) (h : xldA pc len xl st σ i = some f) : ∃ x, f = (pc + len, xl, .ref x :: st, σ) ∧ ls[i]? = some (.val (.ref (xAd g x))) := by
  unfold xldA at h
  split at h
  · rename_i x hx1
    exact ⟨x, (Option.some.inj h).symm, hl.2.2 i _ hx1 (fun q => by intro z; cases z)⟩
  · cases h
theorem x_stI {i : Nat} {f : XF} (h : xstI pc len xl st σ i = some f) : ∃ x r xl', st = .int x :: r ∧ xSt1 xl i (.int x) = some xl' ∧ f = (pc + len, xl', r, σ) := by
  obtain ⟨x, r, rfl, h2⟩ := xo1_inv h
  cases h1 : xSt1 xl i (.int x) with
  | none => rw [h1] at h2; cases h2
  | some xl' =>
    rw [h1] at h2
    exact ⟨x, r, xl', rfl, h1, (Option.some.inj h2).symm⟩
theorem x_stA {i : Nat} {f : XF} (h : xstA pc len xl st σ i = some f) : ∃ x r xl', st = .ref x :: r ∧ xSt1 xl i (.ref x) = some xl' ∧ f = (pc + len, xl', r, σ) := by
  obtain ⟨x, r, rfl, h2⟩ := xr1_inv h
  cases h1 : xSt1 xl i (.ref x) with
  | none => rw [h1] at h2; cases h2
  | some xl' =>
    rw [h1] at h2
    exact ⟨x, r, xl', rfl, h1, (Option.some.inj h2).symm⟩
theorem x_stL {i : Nat} {f : XF} (h : xstL pc len xl st σ i = some f) : ∃ x r xl', st = .long x :: r ∧ xSt2 xl i (.long x) = some xl' ∧ f = (pc + len, xl', r, σ) := by
  unfold xstL at h
  split at h
  · rename_i x r
    cases h1 : xSt2 xl i (.long x) with
    | none => rw [h1] at h; cases h
    | some xl' =>
      rw [h1] at h
      exact ⟨x, r, xl', rfl, h1, (Option.some.inj h).symm⟩
  · cases h
set_option maxHeartbeats 4000000 in
theorem x_step {ins : Instr} (hm : m ∈ xMs) (hF : xFix g m p s mid args meth c) (hat : xmAt m pc = some (ins, len)) {f : XF} (h : xstep m pc ins len xl st σ = some f) (hW : xWd g σ H) (hS : va_S (xA g) s.heap H locs) (hl : xLr g xl ls) (hlen : ls.size = xmL m) (hfr : xmFr m ≤ R.frames) (hlo : xmLo m ≤ R.locals) (hc : cells + (xsN f.2.2.2 - xsN σ) ≤ R.cells) (hz : slots + (xsZ f.2.2.2 - xsZ σ) ≤ R.slots)
    (kk : ∀ H' locs' ls', xWd g f.2.2.2 H' → va_S (xA g) s.heap H' locs' → xLr g f.2.1 ls' → ls'.size = ls.size → W p l e R s mid args below meth c H' locs' (cells + (xsN f.2.2.2 - xsN σ)) (slots + (xsZ f.2.2.2 - xsZ σ)) Q (F0 mid f.1 ls' (f.2.2.1.map (xcv g)))) : W p l e R s mid args below meth c H locs cells slots Q (F0 mid pc ls (st.map (xcv g))) := by
  obtain ⟨hd, hln, hrm⟩ := x_at hm hat
  have ho := x_own hm
  obtain ⟨hx, hb, hml, hown, hts, hO, hsz, hin⟩ := id hF
  have hv := hO.2.2.2.2.2.2.1
  have k0 : xsN f.2.2.2 = xsN σ → xsZ f.2.2.2 = xsZ σ → ∀ H' locs' ls', xWd g f.2.2.2 H' → va_S (xA g) s.heap H' locs' → xLr g f.2.1 ls' → ls'.size = ls.size → W p l e R s mid args below meth c H' locs' cells slots Q (F0 mid f.1 ls' (f.2.2.1.map (xcv g))) := fun e1 e2 H' locs' ls' a1 a2 a3 a4 => by
    have := kk H' locs' ls' a1 a2 a3 a4
    rw [e1, e2, Nat.sub_self, Nat.sub_self] at this
    exact this
  cases ins
  case iconst i =>
    have e1 : len = 1 := hln.resolve_left (by simp [xLen])
    subst e1
    cases h
    exact lv_iconst hx hb hd rfl (k0 rfl rfl H locs ls hW hS hl rfl)
  case bipush i =>
    have e1 : len = 2 := hln.resolve_left (by simp [xLen])
    subst e1
    cases h
    exact lv_bipush hx hb hd rfl (k0 rfl rfl H locs ls hW hS hl rfl)
  case sipush i =>
    have e1 : len = 3 := hln.resolve_left (by simp [xLen])
    subst e1
    cases h
    exact lv_sipush hx hb hd rfl (k0 rfl rfl H locs ls hW hS hl rfl)
  case lconst i =>
    have e1 : len = 1 := hln.resolve_left (by simp [xLen])
    subst e1
    cases h
    exact lv_lconst hx hb hd rfl (k0 rfl rfl H locs ls hW hS hl rfl)
  case ldc ix =>
    have e1 : len = 2 := hln.resolve_left (by simp [xLen])
    subst e1
    have h : (match xNum (xmOwn m) ix with
      | some (v, _) => some (pc + 2, xl, .int v :: st, σ)
      | none => (xTxt (xmOwn m) ix).map fun i => (pc + 2, xl, .ref (1000010 + i) :: st, σ)) = some f := h
    cases h1 : xNum (xmOwn m) ix with
    | some v =>
      rw [h1] at h
      cases h
      exact lv_ldc hx hb hown (hts _ (xNum_ok ho h1)) hd (k0 rfl rfl H locs ls hW hS hl rfl)
    | none =>
      rw [h1] at h
      cases h2 : xTxt (xmOwn m) ix with
      | none => rw [h2] at h; cases h
      | some i =>
        rw [h2] at h
        cases h
        exact xr_ldcS hF h2 hd (k0 rfl rfl H locs ls hW hS hl rfl)
  case ldc_w ix =>
    have e1 : len = 3 := hln.resolve_left (by simp [xLen])
    subst e1
    have h : ((xNum (xmOwn m) ix).map fun v => ((pc + 3, xl, .int v.1 :: st, σ) : XF)) = some f := h
    cases h1 : xNum (xmOwn m) ix with
    | none => rw [h1] at h; cases h
    | some v =>
      rw [h1] at h
      cases h
      exact lv_ldcw hx hb hown (hts _ (xNum_ok ho h1)) hd (k0 rfl rfl H locs ls hW hS hl rfl)
  case ldc2_w ix =>
    have e1 : len = 3 := hln.resolve_left (by simp [xLen])
    subst e1
    have h : ((xLng (xmOwn m) ix).map fun v => ((pc + 3, xl, .long v.1 :: st, σ) : XF)) = some f := h
    cases h1 : xLng (xmOwn m) ix with
    | none => rw [h1] at h; cases h
    | some v =>
      rw [h1] at h
      cases h
      exact lv_ldc2 hx hb hown (hts _ (xLng_ok ho h1)) hd (k0 rfl rfl H locs ls hW hS hl rfl)
  case iload_n k =>
    have e1 : len = 1 := hln.resolve_left (by simp [xLen])
    subst e1
    obtain ⟨x, rfl, h1⟩ := x_ldI (p := p) (c := c) (m := m) hx hb hl h
    exact lv_iload_n hx hb hd rfl h1 (k0 rfl rfl H locs ls hW hS hl rfl)
  case iload k =>
    have e1 : len = 2 := hln.resolve_left (by simp [xLen])
    subst e1
    obtain ⟨x, rfl, h1⟩ := x_ldI (p := p) (c := c) (m := m) hx hb hl h
    exact lv_iload hx hb hd h1 (k0 rfl rfl H locs ls hW hS hl rfl)
  case lload_n k =>
    have e1 : len = 1 := hln.resolve_left (by simp [xLen])
    subst e1
    obtain ⟨x, rfl, h1⟩ := x_ldL (p := p) (c := c) (m := m) hx hb hl h
    exact lv_lload_n hx hb hd rfl h1 (k0 rfl rfl H locs ls hW hS hl rfl)
  case aload_n k =>
    have e1 : len = 1 := hln.resolve_left (by simp [xLen])
    subst e1
    obtain ⟨x, rfl, h1⟩ := x_ldA (p := p) (c := c) (m := m) hx hb hl h
    exact lv_aload_n hx hb hd rfl h1 (k0 rfl rfl H locs ls hW hS hl rfl)
  case aload k =>
    have e1 : len = 2 := hln.resolve_left (by simp [xLen])
    subst e1
    obtain ⟨x, rfl, h1⟩ := x_ldA (p := p) (c := c) (m := m) hx hb hl h
    exact lv_aload hx hb hd h1 (k0 rfl rfl H locs ls hW hS hl rfl)
  case istore_n k =>
    have e1 : len = 1 := hln.resolve_left (by simp [xLen])
    subst e1
    obtain ⟨x, r, xl', rfl, h1, rfl⟩ := x_stI h
    exact lv_istore_n hx hb hd rfl (xLr_has hl) (xSt1_lt h1) rfl (fun ls' h' => k0 rfl rfl H locs ls' hW hS (xSt1_lr hv h1 h') (by rw [h'.1, hl.1]))
  case istore k =>
    have e1 : len = 2 := hln.resolve_left (by simp [xLen])
    subst e1
    obtain ⟨x, r, xl', rfl, h1, rfl⟩ := x_stI h
    exact lv_istore hx hb hd (xLr_has hl) (xSt1_lt h1) rfl (fun ls' h' => k0 rfl rfl H locs ls' hW hS (xSt1_lr hv h1 h') (by rw [h'.1, hl.1]))
  case astore_n k =>
    have e1 : len = 1 := hln.resolve_left (by simp [xLen])
    subst e1
    obtain ⟨x, r, xl', rfl, h1, rfl⟩ := x_stA h
    exact lv_astore_n hx hb hd rfl (xLr_has hl) (xSt1_lt h1) rfl (fun ls' h' => k0 rfl rfl H locs ls' hW hS (xSt1_lr hv h1 h') (by rw [h'.1, hl.1]))
  case astore k =>
    have e1 : len = 2 := hln.resolve_left (by simp [xLen])
    subst e1
    obtain ⟨x, r, xl', rfl, h1, rfl⟩ := x_stA h
    exact lv_astore hx hb hd (xLr_has hl) (xSt1_lt h1) rfl (fun ls' h' => k0 rfl rfl H locs ls' hW hS (xSt1_lr hv h1 h') (by rw [h'.1, hl.1]))
  case lstore_n k =>
    have e1 : len = 1 := hln.resolve_left (by simp [xLen])
    subst e1
    obtain ⟨x, r, xl', rfl, h1, rfl⟩ := x_stL h
    exact lv_lstore_n hx hb hd rfl (xLr_has hl) (xSt2_lt h1) rfl (fun ls' h' => k0 rfl rfl H locs ls' hW hS (xSt2_lr hv h1 h') (by rw [h'.1, hl.1]))
  case iinc k n =>
    have e1 : len = 3 := hln.resolve_left (by simp [xLen])
    subst e1
    have h : (match xl[k]? with
      | some (.int x) => (xSt1 xl k (.int (x + Int32.ofInt n))).map fun ls' => ((pc + 3, ls', st, σ) : XF)
      | _ => none) = some f := h
    split at h
    · rename_i x hx1
      cases h1 : xSt1 xl k (.int (x + Int32.ofInt n)) with
      | none => rw [h1] at h; cases h
      | some xl' =>
        rw [h1] at h
        cases h
        obtain ⟨j, hj⟩ := List.getElem?_of_mem (xPr_mem (g := g) hx1 (fun q z => by cases z))
        exact lv_iinc hx hb hd (xLr_has hl) hj rfl (xSt1_lt h1) rfl (fun ls' h' => k0 rfl rfl H locs ls' hW hS (xSt1_lr hv h1 h') (by rw [h'.1, hl.1]))
    · cases h
  case iadd =>
    have e1 : len = 1 := hln.resolve_left (by simp [xLen])
    subst e1
    obtain ⟨x, y, r, rfl, h2⟩ := xo2_inv h
    replace h := h2
    cases h
    exact lv_iadd hx hb hd (k0 rfl rfl H locs ls hW hS hl rfl)
  case isub =>
    have e1 : len = 1 := hln.resolve_left (by simp [xLen])
    subst e1
    obtain ⟨x, y, r, rfl, h2⟩ := xo2_inv h
    replace h := h2
    cases h
    exact lv_isub hx hb hd (k0 rfl rfl H locs ls hW hS hl rfl)
  case imul =>
    have e1 : len = 1 := hln.resolve_left (by simp [xLen])
    subst e1
    obtain ⟨x, y, r, rfl, h2⟩ := xo2_inv h
    replace h := h2
    cases h
    exact lv_imul hx hb hd (k0 rfl rfl H locs ls hW hS hl rfl)
  case iand =>
    have e1 : len = 1 := hln.resolve_left (by simp [xLen])
    subst e1
    obtain ⟨x, y, r, rfl, h2⟩ := xo2_inv h
    replace h := h2
    cases h
    exact lv_iand hx hb hd (k0 rfl rfl H locs ls hW hS hl rfl)
  case ior =>
    have e1 : len = 1 := hln.resolve_left (by simp [xLen])
    subst e1
    obtain ⟨x, y, r, rfl, h2⟩ := xo2_inv h
    replace h := h2
    cases h
    exact lv_ior hx hb hd (k0 rfl rfl H locs ls hW hS hl rfl)
  case ixor =>
    have e1 : len = 1 := hln.resolve_left (by simp [xLen])
    subst e1
    obtain ⟨x, y, r, rfl, h2⟩ := xo2_inv h
    replace h := h2
    cases h
    exact lv_ixor hx hb hd (k0 rfl rfl H locs ls hW hS hl rfl)
  case ishl =>
    have e1 : len = 1 := hln.resolve_left (by simp [xLen])
    subst e1
    obtain ⟨x, y, r, rfl, h2⟩ := xo2_inv h
    replace h := h2
    cases h
    exact lv_ishl hx hb hd (k0 rfl rfl H locs ls hW hS hl rfl)
  case ishr =>
    have e1 : len = 1 := hln.resolve_left (by simp [xLen])
    subst e1
    obtain ⟨x, y, r, rfl, h2⟩ := xo2_inv h
    replace h := h2
    cases h
    exact lv_ishr hx hb hd (k0 rfl rfl H locs ls hW hS hl rfl)
  case iushr =>
    have e1 : len = 1 := hln.resolve_left (by simp [xLen])
    subst e1
    obtain ⟨x, y, r, rfl, h2⟩ := xo2_inv h
    replace h := h2
    cases h
    exact lv_iushr hx hb hd rfl (k0 rfl rfl H locs ls hW hS hl rfl)
  case idiv =>
    have e1 : len = 1 := hln.resolve_left (by simp [xLen])
    subst e1
    obtain ⟨x, y, r, rfl, h2⟩ := xo2_inv h
    replace h := h2
    obtain ⟨hb1, rfl⟩ := xis_inv h
    exact lv_idiv hx hb hd (by simpa using hb1) (k0 rfl rfl H locs ls hW hS hl rfl)
  case irem =>
    have e1 : len = 1 := hln.resolve_left (by simp [xLen])
    subst e1
    obtain ⟨x, y, r, rfl, h2⟩ := xo2_inv h
    replace h := h2
    obtain ⟨hb1, rfl⟩ := xis_inv h
    exact lv_irem hx hb hd (by simpa using hb1) (k0 rfl rfl H locs ls hW hS hl rfl)
  case i2l =>
    have e1 : len = 1 := hln.resolve_left (by simp [xLen])
    subst e1
    obtain ⟨x, r, rfl, h2⟩ := xo1_inv h
    replace h := h2
    cases h
    exact lv_i2l hx hb hd rfl (k0 rfl rfl H locs ls hW hS hl rfl)
  case i2b =>
    have e1 : len = 1 := hln.resolve_left (by simp [xLen])
    subst e1
    obtain ⟨x, r, rfl, h2⟩ := xo1_inv h
    replace h := h2
    cases h
    exact lv_i2b hx hb hd rfl (k0 rfl rfl H locs ls hW hS hl rfl)
  case i2c =>
    have e1 : len = 1 := hln.resolve_left (by simp [xLen])
    subst e1
    obtain ⟨x, r, rfl, h2⟩ := xo1_inv h
    replace h := h2
    cases h
    exact lv_i2c hx hb hd rfl (k0 rfl rfl H locs ls hW hS hl rfl)
  case ladd =>
    have e1 : len = 1 := hln.resolve_left (by simp [xLen])
    subst e1
    obtain ⟨x, y, r, rfl, h2⟩ := xl2_inv h
    replace h := h2
    cases h
    exact lv_ladd hx hb hd (k0 rfl rfl H locs ls hW hS hl rfl)
  case lsub =>
    have e1 : len = 1 := hln.resolve_left (by simp [xLen])
    subst e1
    obtain ⟨x, y, r, rfl, h2⟩ := xl2_inv h
    replace h := h2
    cases h
    exact lv_lsub hx hb hd (k0 rfl rfl H locs ls hW hS hl rfl)
  case lmul =>
    have e1 : len = 1 := hln.resolve_left (by simp [xLen])
    subst e1
    obtain ⟨x, y, r, rfl, h2⟩ := xl2_inv h
    replace h := h2
    cases h
    exact lv_lmul hx hb hd (k0 rfl rfl H locs ls hW hS hl rfl)
  case lcmp =>
    have e1 : len = 1 := hln.resolve_left (by simp [xLen])
    subst e1
    obtain ⟨x, y, r, rfl, h2⟩ := xl2_inv h
    replace h := h2
    cases h
    exact W.lcmp hx hb hd (k0 rfl rfl H locs ls hW hS hl rfl)
  case dup =>
    have e1 : len = 1 := hln.resolve_left (by simp [xLen])
    subst e1
    cases st with
    | nil => cases h
    | cons v r =>
      obtain ⟨hb1, rfl⟩ := xis_inv h
      exact lv_dup hx hb hd (by rw [xcv_cat hv]; simpa using hb1) (k0 rfl rfl H locs ls hW hS hl rfl)
  case pop =>
    have e1 : len = 1 := hln.resolve_left (by simp [xLen])
    subst e1
    cases st with
    | nil => cases h
    | cons v r =>
      obtain ⟨hb1, rfl⟩ := xis_inv h
      exact lv_pop hx hb hd (by rw [xcv_cat hv]; simpa using hb1) (k0 rfl rfl H locs ls hW hS hl rfl)
  case dup2 =>
    have e1 : len = 1 := hln.resolve_left (by simp [xLen])
    subst e1
    cases st with
    | nil => cases h
    | cons v r =>
      cases r with
      | nil => cases h
      | cons w r =>
        obtain ⟨hb1, rfl⟩ := xis_inv h
        simp only [Bool.and_eq_true, beq_iff_eq] at hb1
        exact lv_dup2_11 hx hb hd (by rw [xcv_cat hv]; exact hb1.1) (by rw [xcv_cat hv]; exact hb1.2) (k0 rfl rfl H locs ls hW hS hl rfl)
  case goto off =>
    have e1 : len = 3 := hln.resolve_left (by simp [xLen])
    subst e1
    obtain ⟨t, ht, rfl⟩ := xsw_inv h
    exact lv_goto hx hb hd ht (k0 rfl rfl H locs ls hW hS hl rfl)
  case ifCond cd off =>
    have e1 : len = 3 := hln.resolve_left (by simp [xLen])
    subst e1
    obtain ⟨x, r, rfl, h2⟩ := xo1_inv h
    replace h := h2
    obtain ⟨t, ht, rfl⟩ := xbr_inv h
    obtain ⟨kt, kf⟩ := x_brk (P := fun q => W p l e R s mid args below meth c H locs cells slots Q (F0 mid q ls (r.map (xcv g)))) (k0 rfl rfl H locs ls hW hS hl rfl)
    cases cd with
    | eq => exact lv_if_eq hx hb hd ht (fun z => kt (decide_eq_true z)) (fun z => kf (fun q => z (of_decide_eq_true q)))
    | lt => exact lv_if_lt hx hb hd ht (fun z => kt (decide_eq_true z)) (fun z => kf (fun q => z (of_decide_eq_true q)))
    | ge => exact lv_if_ge hx hb hd ht (fun z => kt (decide_eq_true z)) (fun z => kf (fun q => z (of_decide_eq_true q)))
    | gt => exact lv_if_gt hx hb hd ht (fun z => kt (decide_eq_true z)) (fun z => kf (fun q => z (of_decide_eq_true q)))
    | le => exact lv_if_le hx hb hd ht (fun z => kt (decide_eq_true z)) (fun z => kf (fun q => z (of_decide_eq_true q)))
    | ne => exact lv_if_ne hx hb hd ht (fun z => kt (by simpa [xIcmp] using z)) (fun z => kf (fun q => absurd z (by simpa [xIcmp] using q)))
  case if_icmp cd off =>
    have e1 : len = 3 := hln.resolve_left (by simp [xLen])
    subst e1
    obtain ⟨x, y, r, rfl, h2⟩ := xo2_inv h
    replace h := h2
    obtain ⟨t, ht, rfl⟩ := xbr_inv h
    obtain ⟨kt, kf⟩ := x_brk (P := fun q => W p l e R s mid args below meth c H locs cells slots Q (F0 mid q ls (r.map (xcv g)))) (k0 rfl rfl H locs ls hW hS hl rfl)
    cases cd with
    | eq => exact lv_icmp_eq hx hb hd ht (fun z => kt (decide_eq_true z)) (fun z => kf (fun q => z (of_decide_eq_true q)))
    | lt => exact lv_icmp_lt hx hb hd ht (fun z => kt (decide_eq_true z)) (fun z => kf (fun q => z (of_decide_eq_true q)))
    | ge => exact lv_icmp_ge hx hb hd ht (fun z => kt (decide_eq_true z)) (fun z => kf (fun q => z (of_decide_eq_true q)))
    | gt => exact lv_icmp_gt hx hb hd ht (fun z => kt (decide_eq_true z)) (fun z => kf (fun q => z (of_decide_eq_true q)))
    | le => exact lv_icmp_le hx hb hd ht (fun z => kt (decide_eq_true z)) (fun z => kf (fun q => z (of_decide_eq_true q)))
    | ne => exact lv_icmp_ne hx hb hd ht (fun z => kt (by simpa [xIcmp] using z)) (fun z => kf (fun q => absurd z (by simpa [xIcmp] using q)))
  case tableswitch d lo hi offs =>
    obtain ⟨x, r, rfl, h2⟩ := xo1_inv h
    replace h := h2
    by_cases h1 : x.toInt < lo ∨ hi < x.toInt
    · rw [if_pos h1] at h
      obtain ⟨t, ht, rfl⟩ := xsw_inv h
      exact lv_tableOut hx hb hd h1 ht (k0 rfl rfl H locs ls hW hS hl rfl)
    · rw [if_neg h1] at h
      split at h
      · rename_i o1 ho1
        obtain ⟨t, ht, rfl⟩ := xsw_inv h
        exact lv_tableIn hx hb hd (fun z => h1 (Or.inl z)) (fun z => h1 (Or.inr z)) ho1 ht (k0 rfl rfl H locs ls hW hS hl rfl)
      · cases h
  case lookupswitch d ps =>
    obtain ⟨x, r, rfl, h2⟩ := xo1_inv h
    replace h := h2
    split at h
    · rename_i h1
      obtain ⟨t, ht, rfl⟩ := xsw_inv h
      exact lv_lookup hx hb hd h1 rfl ht (k0 rfl rfl H locs ls hW hS hl rfl)
    · cases h
  case getfield ix =>
    have e1 : len = 3 := hln.resolve_left (by simp [xLen])
    subst e1
    obtain ⟨a, r, rfl, h2⟩ := xr1_inv h
    replace h := h2
    cases h1 : xFld (xmOwn m) ix with
    | some q =>
      obtain ⟨ci, k, po⟩ := q
      simp only [h1] at h
      obtain ⟨hb1, rfl⟩ := xis_inv h
      exact xr_get hF ho h1 hW (by simpa using hb1) hd (k0 rfl rfl H locs ls hW hS hl rfl)
    | none =>
      simp only [h1] at h
      cases h9 : xTf (xmOwn m) ix with
      | none => simp only [h9] at h; cases h
      | some q =>
        obtain ⟨f0, po⟩ := q
        simp only [h9] at h
        obtain ⟨hb1, rfl⟩ := xis_inv h
        exact xr_getO hF h9 hW hS (by simpa using hb1) hd (k0 rfl rfl H locs ls hW hS hl rfl)
  case putfield ix =>
    have e1 : len = 3 := hln.resolve_left (by simp [xLen])
    subst e1
    have h : xPf m pc 3 xl σ st (xFld (xmOwn m) ix) = some f := h
    cases h1 : xFld (xmOwn m) ix with
    | none => rw [h1] at h; cases h
    | some q =>
      obtain ⟨ci, k, po⟩ := q
      rw [h1] at h
      unfold xPf at h
      simp only at h
      split at h
      · rename_i x a r
        obtain ⟨hb1, rfl⟩ := xis_inv h
        simp only [Bool.and_eq_true, Bool.or_eq_true, beq_iff_eq, Bool.not_eq_true', decide_eq_true_eq] at hb1
        exact xr_put hF ho h1 hW hS hb1.1.1 hb1.1.2 hb1.2 hd (fun H' locs' a1 a2 => k0 rfl rfl H' locs' ls a1 a2 hl rfl)
      · rename_i q a r
        obtain ⟨hb1, rfl⟩ := xis_inv h
        simp only [Bool.and_eq_true, beq_iff_eq] at hb1
        exact xr_putF hF ho h1 hW hS hb1.1.1.1.1 hb1.1.1.1.2 hb1.1.1.2 hb1.1.2 hb1.2 hd (fun H' locs' a1 a2 => k0 rfl rfl H' locs' ls a1 a2 hl rfl)
      · cases h
  case getstatic ix =>
    have e1 : len = 3 := hln.resolve_left (by simp [xLen])
    subst e1
    have h : (match xSt (xmOwn m) ix with
      | some (w, _) => some ((pc + 3, xl, (if w = 5 then .int 1 else if w = 6 then .retAddr 1 else .ref (1000000 + w)) :: st, σ) : XF)
      | none => none) = some f := h
    cases h1 : xSt (xmOwn m) ix with
    | none => rw [h1] at h; cases h
    | some q =>
      obtain ⟨w, po⟩ := q
      rw [h1] at h
      cases h
      exact xr_gets hF ho h1 hS hd (k0 rfl rfl H locs ls hW hS hl rfl)
  case iaload =>
    have e1 : len = 1 := hln.resolve_left (by simp [xLen])
    subst e1
    obtain ⟨a, i, r, rfl, h2⟩ := xra_inv h
    replace h := h2
    obtain ⟨hb1, rfl⟩ := xis_inv h
    simp only [Bool.and_eq_true, Bool.or_eq_true, beq_iff_eq] at hb1
    rcases hb1.1 with hk | hk
    · exact xr_iald hF hW hk (xIn_in hb1.2) hd (k0 rfl rfl H locs ls hW hS hl rfl)
    · exact xr_ialdO hF hW hS hk (xIn_in hb1.2) hd (k0 rfl rfl H locs ls hW hS hl rfl)
  case baload =>
    have e1 : len = 1 := hln.resolve_left (by simp [xLen])
    subst e1
    obtain ⟨a, i, r, rfl, h2⟩ := xra_inv h
    replace h := h2
    obtain ⟨hb1, rfl⟩ := xis_inv h
    simp only [Bool.and_eq_true, Bool.or_eq_true, beq_iff_eq] at hb1
    rcases hb1.1 with hk | hk
    · exact xr_bald hF hW hk (xIn_in hb1.2) hd (k0 rfl rfl H locs ls hW hS hl rfl)
    · exact xr_baldO hF hW hS hk (xIn_in hb1.2) hd (k0 rfl rfl H locs ls hW hS hl rfl)
  case aaload =>
    have e1 : len = 1 := hln.resolve_left (by simp [xLen])
    subst e1
    obtain ⟨a, i, r, rfl, h2⟩ := xra_inv h
    replace h := h2
    obtain ⟨hb1, rfl⟩ := xis_inv h
    simp only [Bool.and_eq_true, decide_eq_true_eq] at hb1
    exact xr_aald hF hW hb1.1.1 hb1.1.2 (xIn_in hb1.2) hd (k0 rfl rfl H locs ls hW hS hl rfl)
  case iastore =>
    have e1 : len = 1 := hln.resolve_left (by simp [xLen])
    subst e1
    obtain ⟨a, i, x, r, rfl, h2⟩ := xrs_inv h
    replace h := h2
    obtain ⟨hb1, rfl⟩ := xis_inv h
    simp only [Bool.and_eq_true, beq_iff_eq] at hb1
    exact xr_iast hF hW hS hb1.1 (xIn_in hb1.2) hd (fun H' locs' a1 a2 => k0 rfl rfl H' locs' ls a1 a2 hl rfl)
  case bastore =>
    have e1 : len = 1 := hln.resolve_left (by simp [xLen])
    subst e1
    obtain ⟨a, i, x, r, rfl, h2⟩ := xrs_inv h
    replace h := h2
    by_cases h1 : (xsS σ a).1 = 21
    · rw [if_pos h1] at h
      obtain ⟨hb1, rfl⟩ := xis_inv h
      exact xr_bast hF hW hS h1 (xIn_in hb1) hd (fun H' locs' a1 a2 => k0 rfl rfl H' locs' ls a1 a2 hl rfl)
    · rw [if_neg h1] at h
      obtain ⟨hb1, rfl⟩ := xis_inv h
      simp only [Bool.and_eq_true, Bool.or_eq_true, beq_iff_eq, decide_eq_true_eq] at hb1
      exact xr_zast hF hW hS hb1.1.1 hb1.1.2 (xIn_in hb1.2) hd (fun H' locs' a1 a2 => k0 rfl rfl H' locs' ls a1 a2 hl rfl)
  case aastore =>
    have e1 : len = 1 := hln.resolve_left (by simp [xLen])
    subst e1
    obtain ⟨a, i, q, r, rfl, h2⟩ := xrq_inv h
    replace h := h2
    obtain ⟨hb1, rfl⟩ := xis_inv h
    simp only [Bool.and_eq_true, beq_iff_eq, decide_eq_true_eq] at hb1
    exact xr_aast hF hW hS hb1.1.1.1 hb1.1.1.2 hb1.1.2 (xIn_in hb1.2) hd (fun H' locs' a1 a2 => k0 rfl rfl H' locs' ls a1 a2 hl rfl)
  case arraylength =>
    have e1 : len = 1 := hln.resolve_left (by simp [xLen])
    subst e1
    obtain ⟨a, r, rfl, h2⟩ := xr1_inv h
    replace h := h2
    obtain ⟨hb1, rfl⟩ := xis_inv h
    simp only [Bool.and_eq_true, Bool.or_eq_true, beq_iff_eq, decide_eq_true_eq] at hb1
    obtain ⟨g1, g2⟩ := hb1
    by_cases g3 : (xsS σ a).1 ≤ 29
    · exact xr_alen hF hW g1 g3 hd (k0 rfl rfl H locs ls hW hS hl rfl)
    · exact xr_alenO hF hW hS (g2.resolve_right g3) hd (k0 rfl rfl H locs ls hW hS hl rfl)
  case new ix =>
    have e1 : len = 3 := hln.resolve_left (by simp [xLen])
    subst e1
    have h : (match xKl (xmOwn m) ix with
      | some (ci, _) => xis (decide (ci ≤ 12) && decide (xsN σ + 1 ≤ 1000000)) (pc + 3, xl, .ref (xsN σ) :: st, xNew σ ci 0 (xNf ci))
      | none => none) = some f := h
    cases h1 : xKl (xmOwn m) ix with
    | none => rw [h1] at h; cases h
    | some q =>
      obtain ⟨ci, po⟩ := q
      rw [h1] at h
      obtain ⟨hb1, rfl⟩ := xis_inv h
      simp only [Bool.and_eq_true, decide_eq_true_eq] at hb1
      have eN : xsN (xNew σ ci 0 (xNf ci)) - xsN σ = 1 := Nat.add_sub_cancel_left _ _
      have eZ : xsZ (xNew σ ci 0 (xNf ci)) - xsZ σ = xNf ci := Nat.add_sub_cancel_left _ _
      simp only [eN, eZ] at hc hz kk
      have had : xAd g (xsN σ) = xgB g + xsN σ := by unfold xAd; rw [if_pos (by omega)]
      refine xr_new hF ho h1 hb1.1 hW hS hb1.2 hc hz hd (fun H' a1 a2 => ?_)
      rw [← had]
      exact kk H' locs ls a1 a2 hl rfl
  case newarray at0 =>
    have e1 : len = 2 := hln.resolve_left (by simp [xLen])
    subst e1
    obtain ⟨n, r, rfl, h2⟩ := xo1_inv h
    replace h := h2
    obtain ⟨w1, w2, w3⟩ := xArr_ok
    cases at0
    case int =>
      obtain ⟨hb1, rfl⟩ := xis_inv h
      simp only [Bool.and_eq_true, Bool.not_eq_true', decide_eq_true_eq, decide_eq_false_iff_not] at hb1
      have eN : xsN (xNew σ 20 n.toNatClampNeg n.toNatClampNeg) - xsN σ = 1 := Nat.add_sub_cancel_left _ _
      have eZ : xsZ (xNew σ 20 n.toNatClampNeg n.toNatClampNeg) - xsZ σ = n.toNatClampNeg := Nat.add_sub_cancel_left _ _
      simp only [eN, eZ] at hc hz kk
      have had : xAd g (xsN σ) = xgB g + xsN σ := by unfold xAd; rw [if_pos (by omega)]
      refine xr_newa (at0 := .int) (ty := .int) (kd := 20) hF rfl (by decide) (by decide) w1 rfl rfl (fun _ => rfl) hW hS hb1.2 hb1.1.1 hb1.1.2 (by decide) hc hz hd (fun H' a1 a2 => ?_)
      rw [← had]
      exact kk H' locs ls a1 a2 hl rfl
    case byte =>
      obtain ⟨hb1, rfl⟩ := xis_inv h
      simp only [Bool.and_eq_true, Bool.not_eq_true', decide_eq_true_eq, decide_eq_false_iff_not] at hb1
      have eN : xsN (xNew σ 21 n.toNatClampNeg n.toNatClampNeg) - xsN σ = 1 := Nat.add_sub_cancel_left _ _
      have eZ : xsZ (xNew σ 21 n.toNatClampNeg n.toNatClampNeg) - xsZ σ = n.toNatClampNeg := Nat.add_sub_cancel_left _ _
      simp only [eN, eZ] at hc hz kk
      have had : xAd g (xsN σ) = xgB g + xsN σ := by unfold xAd; rw [if_pos (by omega)]
      refine xr_newa (at0 := .byte) (ty := .byte) (kd := 21) hF rfl (by decide) (by decide) w2 rfl rfl (fun _ => rfl) hW hS hb1.2 hb1.1.1 hb1.1.2 (by decide) hc hz hd (fun H' a1 a2 => ?_)
      rw [← had]
      exact kk H' locs ls a1 a2 hl rfl
    case boolean =>
      obtain ⟨hb1, rfl⟩ := xis_inv h
      simp only [Bool.and_eq_true, Bool.not_eq_true', decide_eq_true_eq, decide_eq_false_iff_not] at hb1
      have eN : xsN (xNew σ 22 n.toNatClampNeg n.toNatClampNeg) - xsN σ = 1 := Nat.add_sub_cancel_left _ _
      have eZ : xsZ (xNew σ 22 n.toNatClampNeg n.toNatClampNeg) - xsZ σ = n.toNatClampNeg := Nat.add_sub_cancel_left _ _
      simp only [eN, eZ] at hc hz kk
      have had : xAd g (xsN σ) = xgB g + xsN σ := by unfold xAd; rw [if_pos (by omega)]
      refine xr_newa (at0 := .boolean) (ty := .boolean) (kd := 22) hF rfl (by decide) (by decide) w3 rfl rfl (fun _ => rfl) hW hS hb1.2 hb1.1.1 hb1.1.2 (by decide) hc hz hd (fun H' a1 a2 => ?_)
      rw [← had]
      exact kk H' locs ls a1 a2 hl rfl
    all_goals cases h
  case anewarray ix =>
    have e1 : len = 3 := hln.resolve_left (by simp [xLen])
    subst e1
    obtain ⟨n, r, rfl, h2⟩ := xo1_inv h
    replace h := h2
    cases h1 : xKl (xmOwn m) ix with
    | none => simp only [h1] at h; cases h
    | some q =>
      obtain ⟨ci, po⟩ := q
      simp only [h1] at h
      obtain ⟨hb1, rfl⟩ := xis_inv h
      simp only [Bool.and_eq_true, Bool.not_eq_true', decide_eq_true_eq, decide_eq_false_iff_not] at hb1
      have eN : xsN (xNew σ (xAk ci) n.toNatClampNeg n.toNatClampNeg) - xsN σ = 1 := Nat.add_sub_cancel_left _ _
      have eZ : xsZ (xNew σ (xAk ci) n.toNatClampNeg n.toNatClampNeg) - xsZ σ = n.toNatClampNeg := Nat.add_sub_cancel_left _ _
      simp only [eN, eZ] at hc hz kk
      have had : xAd g (xsN σ) = xgB g + xsN σ := by unfold xAd; rw [if_pos (by omega)]
      refine xr_anew hF ho h1 hb1.1.1.1 hW hS hb1.2 hb1.1.1.2 hb1.1.2 hc hz hd (fun H' a1 a2 => ?_)
      rw [← had]
      exact kk H' locs ls a1 a2 hl rfl
  case multianewarray ix dim =>
    have e1 : len = 4 := hln.resolve_left (by simp [xLen])
    subst e1
    obtain ⟨n, k, r, rfl, h2⟩ := xo2_inv h
    replace h := h2
    cases h1 : xKl (xmOwn m) ix with
    | none => simp only [h1] at h; cases h
    | some q =>
      obtain ⟨ci, po⟩ := q
      simp only [h1] at h
      obtain ⟨hb1, rfl⟩ := xis_inv h
      simp only [Bool.and_eq_true, Bool.not_eq_true', decide_eq_true_eq, decide_eq_false_iff_not, beq_iff_eq] at hb1
      obtain ⟨⟨⟨⟨⟨⟨g1, g2⟩, g3⟩, g4⟩, g5⟩, g6⟩, g7⟩ := hb1
      subst g1
      subst g2
      have eN : xsN (xGrid σ n.toNatClampNeg k.toNatClampNeg) - xsN σ = 1 + n.toNatClampNeg := by show xsN σ + 1 + _ - xsN σ = _; omega
      have eZ : xsZ (xGrid σ n.toNatClampNeg k.toNatClampNeg) - xsZ σ = n.toNatClampNeg + n.toNatClampNeg * k.toNatClampNeg := by show xsZ σ + _ + _ - xsZ σ = _; omega
      simp only [eN, eZ] at hc hz kk
      have had : xAd g (xsN σ) = xgB g + xsN σ := by unfold xAd; rw [if_pos (by omega)]
      refine xr_multi hF ho h1 hW hS g3 g4 g5 g6 g7 hc hz hd (fun H' a1 a2 => ?_)
      rw [← had, Nat.add_assoc cells, Nat.add_assoc slots]
      exact kk H' locs ls a1 a2 hl rfl
  case invokespecial ix =>
    have e1 : len = 3 := hln.resolve_left (by simp [xLen])
    subst e1
    obtain ⟨a, r, rfl, h2⟩ := xr1_inv h
    replace h := h2
    have hrm := xRoomI_s hrm
    unfold xRoomC at hrm
    cases h1 : xCal (xmOwn m) ix with
    | none => simp only [h1] at h; cases h
    | some q =>
      obtain ⟨k, j, po⟩ := q
      simp only [h1] at h hrm
      obtain ⟨hb1, rfl⟩ := xis_inv h
      simp only [Bool.and_eq_true, decide_eq_true_eq, beq_iff_eq] at hb1
      obtain ⟨rfl, hb2⟩ := hb1
      rw [if_pos rfl] at hrm
      simp only [Bool.and_eq_true, decide_eq_true_eq] at hrm
      have hm9 := List.all_eq_true.mp (xCs_ok _ ho) _ (x_lookup h1)
      simp only [if_true, decide_eq_true_eq] at hm9
      refine W.objInit hx hb hown (hts _ (xw_of hm9 rfl)) (hts _ xObj_ok.1) (hts _ xObj_ok.2) rfl (by show ls.size = _; rw [hml]; exact hlen) rfl hd (by omega) (by
        have e9 := xcat_map hv r
        show 2 * 0 + _ + 12 ≤ _
        omega) ?_
      exact k0 rfl rfl H locs ls hW hS hl rfl
  case invokestatic ix =>
    have e1 : len = 3 := hln.resolve_left (by simp [xLen])
    subst e1
    have hrm := xRoomI_t hrm
    unfold xRoomC at hrm
    unfold xstep at h
    cases h1 : xCal (xmOwn m) ix with
    | none => simp only [h1] at h; cases h
    | some q =>
      obtain ⟨k, j, po⟩ := q
      simp only [h1] at h hrm
      by_cases k5 : k = 5
      · subst k5
        rw [if_pos rfl] at h
        rw [if_neg (by decide), if_pos rfl] at hrm
        simp only [Bool.and_eq_true, decide_eq_true_eq] at hrm
        obtain ⟨s0, sp, d, dp, n, r, rfl, h2⟩ := xcp_inv h
        replace h := h2
        obtain ⟨hb1, rfl⟩ := xis_inv h
        simp only [Bool.and_eq_true, Bool.or_eq_true, Bool.not_eq_true', decide_eq_true_eq, decide_eq_false_iff_not, beq_iff_eq] at hb1
        obtain ⟨⟨⟨⟨⟨⟨⟨g1, g2⟩, g3⟩, g4⟩, g5⟩, g6⟩, g7⟩, g8⟩ := hb1
        exact xr_copy hF ho hv h1 hW hS hlen g2 g3 g4 g5 g6 g7 g8 g1 (by omega) (by omega) hd (fun H' locs' a1 a2 => k0 rfl rfl H' locs' ls a1 a2 hl rfl)
      · rw [if_neg k5] at h
        by_cases k6 : k = 6
        · subst k6
          rw [if_pos rfl] at h
          rw [if_neg (by decide), if_neg (by decide), if_pos (Or.inl rfl)] at hrm
          simp only [Bool.and_eq_true, decide_eq_true_eq] at hrm
          obtain ⟨x, y, r, rfl, h2⟩ := xo2_inv h
          replace h := h2
          obtain ⟨hb1, rfl⟩ := xis_inv h
          have hb1 := of_decide_eq_true hb1
          have hm9 := List.all_eq_true.mp (xCs_ok _ ho) _ (x_lookup h1)
          simp only [show ¬ ((6 : Nat) = 4) by decide, show ¬ ((6 : Nat) = 5) by decide, if_false, if_true, decide_eq_true_eq] at hm9
          simp only [Nat.sub_self, Nat.add_zero] at hc hz
          refine va_mmax hx hb (by rw [hml]; exact hlen.symm) hown (hts _ (xw_of hm9 rfl)) (hts _ xMath_ok.1) (hts _ xMath_ok.2.2.2.2) (hts _ xMath_ok.2.1) (by omega) (by
            have e9 := xcat_map hv r
            omega) hc hz hd ?_
          exact k0 rfl rfl H locs ls hW hS hl rfl
        · rw [if_neg k6] at h
          by_cases k7 : k = 7
          · subst k7
            rw [if_pos rfl] at h
            rw [if_neg (by decide), if_neg (by decide), if_pos (Or.inr rfl)] at hrm
            simp only [Bool.and_eq_true, decide_eq_true_eq] at hrm
            obtain ⟨x, y, r, rfl, h2⟩ := xo2_inv h
            replace h := h2
            obtain ⟨hb1, rfl⟩ := xis_inv h
            have hb1 := of_decide_eq_true hb1
            have hm9 := List.all_eq_true.mp (xCs_ok _ ho) _ (x_lookup h1)
            simp only [show ¬ ((7 : Nat) = 4) by decide, show ¬ ((7 : Nat) = 5) by decide, show ¬ ((7 : Nat) = 6) by decide, if_false, if_true, decide_eq_true_eq] at hm9
            simp only [Nat.sub_self, Nat.add_zero] at hc hz
            refine va_mmin hx hb (by rw [hml]; exact hlen.symm) hown (hts _ (xw_of hm9 rfl)) (hts _ xMath_ok.2.2.1) (hts _ xMath_ok.2.2.2.2) (hts _ xMath_ok.2.2.2.1) (by omega) (by
              have e9 := xcat_map hv r
              omega) hc hz hd ?_
            exact k0 rfl rfl H locs ls hW hS hl rfl
          · rw [if_neg k7] at h
            cases h
  all_goals cases h
end XSTEP
