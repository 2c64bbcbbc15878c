theorem xfl_len {g : XG} (hv : xgV g = .null ∨ ∃ t, xgV g = .ref t) : ∀ as : List Value, (lg_sl (as.map (xcv g))).length = (xfl as).length
  | [] => rfl
  | v :: as => by
    have ih := xfl_len hv as
    unfold lg_sl xfl at ih ⊢
    simp only [List.map_cons, List.flatMap_cons, List.length_append, ih, xcv_cat hv]
    congr 1
    by_cases h : v.category = 2
    · rw [if_pos h, if_pos h]
      rfl
    · rw [if_neg h, if_neg h]
      rfl
theorem xfl_at {g : XG} (hv : xgV g = .null ∨ ∃ t, xgV g = .ref t) : ∀ (as : List Value) (i : Nat) (w : Value), (xfl as)[i]? = some w → (∀ q, w ≠ .retAddr q) → (lg_sl (as.map (xcv g)))[i]? = some (.val (xcv g w))
  | [], i, w, h, _ => by simp [xfl] at h
  | v :: as, i, w, h, hw => by
    have ih := xfl_at hv as
    unfold lg_sl at ih ⊢
    unfold xfl at ih h
    simp only [List.map_cons, List.flatMap_cons, xcv_cat hv] at h ⊢
    by_cases hc : v.category = 2
    · rw [if_pos hc] at h ⊢
      rcases i with _ | _ | i
      · simp only [List.cons_append, List.getElem?_cons_zero, Option.some.injEq] at h ⊢
        rw [h]
      · simp only [List.cons_append, List.getElem?_cons_succ, List.getElem?_cons_zero, Option.some.injEq] at h
        exact absurd h.symm (hw 0)
      · simp only [List.cons_append, List.nil_append, List.getElem?_cons_succ] at h ⊢
        exact ih i w h hw
    · rw [if_neg hc] at h ⊢
      rcases i with _ | i
      · simp only [List.cons_append, List.getElem?_cons_zero, Option.some.injEq] at h ⊢
        rw [h]
      · simp only [List.cons_append, List.nil_append, List.getElem?_cons_succ] at h ⊢
        exact ih i w h hw
theorem xLr_ini {g : XG} (hv : xgV g = .null ∨ ∃ t, xgV g = .ref t) {as : List Value} {n : Nat} (h : (xfl as).length ≤ n) : xLr g (xIni as n) ((lg_sl (as.map (xcv g)) ++ List.replicate (n - (lg_sl (as.map (xcv g))).length) Slot.unset).toArray) := by
  have he := lv_entry (as.map (xcv g)) (n := n) (by rw [xfl_len hv]; exact h)
  have hsz : (xIni as n).length = n := by unfold xIni; rw [List.length_append, List.length_replicate]; omega
  refine ⟨by rw [hsz]; exact he.1, he.2.1, fun i w hi hw => ?_⟩
  rw [List.getElem?_toArray]
  unfold xIni at hi
  by_cases hl : i < (xfl as).length
  · rw [List.getElem?_append_left hl] at hi
    rw [List.getElem?_append_left (by rw [xfl_len hv]; exact hl)]
    exact xfl_at hv as i w hi hw
  · rw [List.getElem?_append_right (by omega), List.getElem?_replicate] at hi
    split at hi
    · cases hi
      exact absurd rfl (hw 0)
    · cases hi
/-- a method's contract, in the interpreter's words -/
def xPc (g : XG) (as : List Value) (σ : XS) : Array Value → State → Prop := fun v U => v = (as.map (xcv g)).toArray ∧ xOw g U ∧ xWd g σ U.heap
def xQc (g : XG) (r : Option Value) (τ : XS) : Array Value → State → Outcome → State → Prop := fun _ st o t => o = .returned (r.map (xcv g)) ∧ xWd g τ t.heap ∧ va_F (xA g) st t
theorem xPc_blind (g : XG) (as : List Value) (σ : XS) : FrameBlind (xPc g as σ) := fun a U f mk h => by
  obtain ⟨h1, h2, h3⟩ := h
  exact ⟨h1, xOw.moved (u := U) (U := U.calling f mk a) (State.WarmedH.refl U) (fun _ _ _ => rfl) (by rw [h3.1]; exact Nat.le_add_right _ _) h2, h3⟩
theorem x_words {cm : XM} (hcm : cm ∈ xMs) (h13 : xmOwn cm ≠ 13) : GoodIn xw (Cond.code (xmY cm) (xmC cm) (xmL cm) (xmRet cm) :: xw) := fun w h => by
  rcases List.mem_cons.mp h with e | h
  · subst e
    have h9 : goodWord (Cond.code (xmY cm) (xmC cm) (xmL cm) (xmRet cm)) = true := rfl
    exact ⟨xw_of (xCodeA cm hcm h13) h9, good_of_word h9⟩
  · exact ⟨h, good_of_word (List.mem_filter.mp h).2⟩
/-- what the table says of a method's words -/
theorem x_wordb {cm : XM} (hcm : cm ∈ xMs) (h13 : xmOwn cm ≠ 13) : (if xmK cm = 0 then Cond.static (xmY cm) else Cond.instanceMethod (xmY cm)) ∈ xw ∧ (xmK cm = 1 → Cond.selects (xmY cm).cls (xmY cm) (xmY cm) ∈ xw) ∧ Cond.initialized (xmY cm).cls ∈ xw ∧ (xmY cm).cls ≠ "java/lang/invoke/MethodHandle" ∧ (xmY cm).cls ≠ "java/lang/invoke/VarHandle" ∧ (parseMethodDescriptor (xmY cm).desc).map (fun d => d.parameters.length) = some (if xmK cm = 0 then xmN cm else xmN cm - 1) ∧ xR (xmOwn cm) = (xmY cm).cls ∧ xmK cm ≤ 2 ∧ (xmK cm = 0 ∨ 1 ≤ xmN cm) ∧ (xmK cm = 2 → (xmY cm).name = "<init>" ∧ xmRet cm = none) ∧ plainName (xmY cm).cls = true := by
  have h := xWordA cm hcm
  unfold xWordb at h
  simp only [Bool.or_eq_true, beq_iff_eq, Bool.and_eq_true, decide_eq_true_eq, bne_iff_ne, ne_eq] at h
  obtain ⟨⟨⟨⟨⟨⟨⟨⟨⟨⟨g1, g2⟩, g3⟩, g4⟩, g5⟩, g6⟩, g7⟩, g8⟩, g9⟩, g10⟩, g11⟩ := h.resolve_left h13
  refine ⟨?_, fun h1 => xw_of (g2.resolve_left (fun z => z h1)) rfl, xw_of g3 rfl, g4, g5, g6, g7, g8, g9, fun h2 => g10.resolve_left (fun z => z h2), g11⟩
  by_cases hk : xmK cm = 0
  · rw [if_pos hk] at g1 ⊢
    exact xw_of g1 rfl
  · rw [if_neg hk] at g1 ⊢
    exact xw_of g1 rfl
theorem x_retW {p : Program} {l : Launch} {e : Env} {R : Room} {s : State} {mid : MethodId} {args : Array Value} {below : List Frame} {meth : Method} {c : Code} {H : Heap} {locs : List Loc} {cells slots : Nat} {g : XG} {m : XM} {pc len : Nat} {ls : Array Slot} {st : List Value} {ins : Instr} {r : Option Value} {τ : XS} (hx : p.tables.exec = Jvm.exec) (hb : c.code = xmC m) (hr : meth.sig.returnType = xmRet m) (hlocks : meth.locks = false) (hm : m ∈ xMs) (hat : xmAt m pc = some (ins, len)) (h : xRet m ins st = some r) (hW : xWd g τ H) (hS : va_S (xA g) s.heap H locs) : W p l e R s mid args below meth c H locs cells slots (MQ below (xQc g r τ) args s cells slots (xA g)) (F0 mid pc ls (st.map (xcv g))) := by
  obtain ⟨hd, hln, -⟩ := x_at hm hat
  have hq : ∀ t : State, t.heap = H → s.WarmedH t.vm → xQc g r τ args s (.returned (r.map (xcv g))) t := fun t ht _ => ⟨rfl, by rw [ht]; exact hW, hS.F ht⟩
  cases ins
  case return_ =>
    have e1 : len = 1 := hln.resolve_left (by simp [xLen])
    subst e1
    unfold xRet at h
    simp only at h
    split at h
    · rename_i e2
      cases h
      rw [e2] at hr
      exact W.vret hx hb hr hq hS.2.2 hd hlocks
    · cases h
  case ireturn =>
    have e1 : len = 1 := hln.resolve_left (by simp [xLen])
    subst e1
    unfold xRet at h
    simp only at h
    split at h
    · rename_i v e2
      cases h
      rw [e2] at hr
      exact W.iret hx hb hr hq hS.2.2 hd hlocks
    · rename_i v e2
      split at h
      · rename_i h1
        cases h
        rw [e2] at hr
        exact W.zret hx hb hr (by rcases h1 with q | q <;> (subst q; decide +kernel)) hq hS.2.2 hd hlocks
      · cases h
    · rename_i v e2
      split at h
      · rename_i h1
        cases h
        rw [e2] at hr
        exact W.zret hx hb hr h1 hq hS.2.2 hd hlocks
      · cases h
    · rename_i v e2
      split at h
      · rename_i h1
        cases h
        rw [e2] at hr
        exact W.zret hx hb hr h1 hq hS.2.2 hd hlocks
      · cases h
    · cases h
  case lreturn =>
    have e1 : len = 1 := hln.resolve_left (by simp [xLen])
    subst e1
    unfold xRet at h
    simp only at h
    split at h
    · rename_i v e2
      cases h
      rw [e2] at hr
      exact W.lret hx hb hr hq hS.2.2 hd hlocks
    · cases h
  case areturn =>
    have e1 : len = 1 := hln.resolve_left (by simp [xLen])
    subst e1
    unfold xRet at h
    simp only at h
    split at h
    · rename_i a n e2
      cases h
      rw [e2] at hr
      exact W.aret hx hb hr (Or.inl ⟨_, rfl⟩) (Or.inr ⟨_, rfl⟩) hq hS.2.2 hd hlocks
    · cases h
  all_goals cases h
/-- what the induction gives of a run -/
def xRuns (l : Launch) (g : XG) (m : XM) (pc : Nat) (xl st : List Value) (σ : XS) (r : Option Value) (τ : XS) : Prop := ∀ (p : Program) (e : Env) (R : Room) (s : State) (mid : MethodId) (args : Array Value) (below : List Frame) (meth : Method) (c : Code) (H : Heap) (locs : List Loc) (cells slots : Nat) (Q : State → Prop) (ls : Array Slot), xFix g m p s mid args meth c → xWd g σ H → va_S (xA g) s.heap H locs → xLr g xl ls → ls.size = xmL m → xmFr m ≤ R.frames → xmLo m ≤ R.locals → cells + (xsN τ - xsN σ) ≤ R.cells → slots + (xsZ τ - xsZ σ) ≤ R.slots →
  (∀ (pc' : Nat) (ls' : Array Slot) (H' : Heap) (locs' : List Loc) (ins : Instr) (len : Nat) (st' : List Value), xmAt m pc' = some (ins, len) → xRet m ins st' = some r → xWd g τ H' → va_S (xA g) s.heap H' locs' → W p l e R s mid args below meth c H' locs' (cells + (xsN τ - xsN σ)) (slots + (xsZ τ - xsZ σ)) Q (F0 mid pc' ls' (st'.map (xcv g)))) →
  W p l e R s mid args below meth c H locs cells slots Q (F0 mid pc ls (st.map (xcv g)))
theorem x_met {l : Launch} {g : XG} {cm : XM} (hcm : cm ∈ xMs) (h13 : xmOwn cm ≠ 13) {as : List Value} {σ τ : XS} {r : Option Value} (hfl : (xfl as).length ≤ xmL cm) (h : xRuns l g cm 0 (xIni as (xmL cm)) [] σ r τ) : Met l (xmY cm) (Cond.code (xmY cm) (xmC cm) (xmL cm) (xmRet cm) :: xw) { frames := xmFr cm, cells := xsN τ - xsN σ, slots := xsZ τ - xsZ σ, locals := xmLo cm } (xPc g as σ) (xQc g r τ) (xsN τ - xsN σ) (xsZ τ - xsZ σ) (xA g) := by
  obtain ⟨-, -, -, -, -, -, w7, -, -, w10, w11⟩ := x_wordb hcm h13
  refine Met.ofW (cc := xmC cm) (maxL := xmL cm) (ret := xmRet cm) w11 rfl ?_
  intro p e s m args below meth c s₁ B hml hv
  obtain ⟨rfl, hO, hW⟩ := hv
  have hx := B.exec
  have hb := B.bytes
  have hr := B.returns
  have hts := atoms_spec (ws := Cond.code (xmY cm) (xmC cm) (xmL cm) (xmRet cm) :: xw) B.pre
  have hown : s.vm.findClass (xmY cm).cls = some m.cls := findClass_of_methodNamed B.named
  have hlocks := B.notSynchronized
  have hsz : xgB g ≤ s.heap.size := by rw [hW.1]; exact Nat.le_add_right _ _
  have hF : xFix g cm p s m ((as.map (xcv g)).toArray) meth c := ⟨hx, hb, hml, by rw [w7]; exact hown, fun w h => hts w (List.mem_cons_of_mem _ h), hO, hsz, fun h2 => by rw [← (w10 h2).1]; exact (name_of_methodNamed B.named B.method).1⟩
  have hv := hO.2.2.2.2.2.2.1
  have hl := xLr_ini hv hfl
  rw [lg_entry_eq]
  generalize (lg_sl (as.map (xcv g)) ++ List.replicate (xmL cm - (lg_sl (as.map (xcv g))).length) Slot.unset).toArray = ls at hl ⊢
  have hlen : ls.size = xmL cm := by
    rw [hl.1]
    unfold xIni
    rw [List.length_append, List.length_replicate]
    omega
  refine h p e _ s m _ below meth c s.heap [] 0 0 _ ls hF hW va_S.rf hl hlen (Nat.le_refl _) (Nat.le_refl _) (by rw [Nat.zero_add]; exact Nat.le_refl _) (by rw [Nat.zero_add]; exact Nat.le_refl _) ?_
  intro pc' ls' H' locs' ins len st' hat hrt hW' hS'
  rw [Nat.zero_add, Nat.zero_add]
  exact x_retW hx hb hr hlocks hcm hat hrt hW' hS'
section XCALL
variable {p : Program} {l : Launch} {e : Env} {R : Room} {s : State} {mid : MethodId} {args : Array Value} {below : List Frame} {meth : Method} {c : Code} {H : Heap} {locs : List Loc} {cells slots : Nat} {Q : State → Prop}
variable {g : XG} {m : XM} {pc : Nat} {ls : Array Slot} {rest st0 : List Value} {σ τ : XS} {r : Option Value} {a : Array Value} {mc ms : Nat}
theorem x_cont (hr : va_Run p l e R s mid args below meth c H locs cells slots mc ms (F0 mid pc ls st0) rest (xQc g r τ a) (xA g)) (hS : va_S (xA g) s.heap H locs)
    (kk : ∀ (H1 : Heap) (locs1 : List Loc), xWd g τ H1 → va_S (xA g) s.heap H1 locs1 → W p l e R s mid args below meth c H1 locs1 (cells + mc) (slots + ms) Q (F0 mid (pc + 3) ls ((r.map (xcv g)).toList ++ rest))) : W p l e R s mid args below meth c H locs cells slots Q (F0 mid pc ls st0) := by
  intro T hT X
  obtain ⟨v, st₀, t, T', L, h0, X', hL, e1, e2, ⟨hv, hw, hz, hk⟩, st⟩ := hr T hT X
  have hv : v = r.map (xcv g) := Outcome.returned.inj hv
  subst hv
  rw [h0] at hz hk
  obtain ⟨t2, a1, b1⟩ := kk T'.heap (locs ++ L) (by rw [e1]; exact hw)
    ⟨Nat.le_trans hS.1 (by rw [e1]; exact hz), fun q h1 h2 => by rw [e1, hk q (Nat.lt_of_lt_of_le h1 hS.1) h2]; exact hS.2.1 q h1 h2, fun q hq => by
      rcases List.mem_append.mp hq with h | h
      · exact hS.2.2 q h
      · exact hL q h⟩ T' rfl X'
  exact ⟨t2, st t2 a1, b1⟩
theorem x_preS (hF : xFix g m p s mid args meth c) (hW : xWd g σ H) (hS : va_S (xA g) s.heap H locs) (as : List Value) : ∀ U : State, U.heap = H → s.WarmedH U.vm → xPc g as σ (as.map (xcv g)).toArray U := fun U hU hWm => by
  obtain ⟨hx, hb, hml, hown, hts, hO, hsz, hin⟩ := hF
  exact ⟨rfl, xOw.moved hWm (fun q h1 h2 => by rw [hU]; exact hS.2.1 q h1 h2) hsz hO, by rw [hU]; exact hW⟩
end XCALL
