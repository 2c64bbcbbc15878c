/-! THE CLAIM OUT OF ONE WALK OF THE LAW'S BODY. Your part is whole_start (and what it stands on); all else here is the same for every law, but numbers. -/
def R_law : String := "ThreePhasesLaw"
def lw_P (b : Addr) (xs : List Int32) (args : Array Value) (s : State) : Prop := args = #[.ref b] ∧ s.IntsAt b xs ∧ xs.length ≤ 3072 ∧ (Jvm.Cond.and given_1 narrow_1).before args s = true
def lw_Q (_ : Array Value) (s : State) (o : Outcome) (t : State) : Prop := o = .returned (some (.int 1)) ∧ Framed s o t [] 600000 7302250
def lw_Z (below : List Frame) (a : Array Value) (s : State) : State → Prop := fun t => ∃ o, t.status = .running ∧ Ended t below o ∧ lw_Q a s o t
/-- the law's own end, with 1 on the stack, nothing written that was there before, its room as the claim has it -/
theorem lw_ret {p : Program} {l : Launch} {e : Env} {s : State} {m : MethodId} {below : List Frame} {meth : Method} {c : Code} {b : Nat} (hx : p.tables.exec = Jvm.exec) (hb : c.code = code) (hr : meth.sig.returnType = ret) (hlocks : meth.locks = false) {pc : Nat} {H : Heap} {ls : Array Slot} (hdg : decode code pc = .ok (.ireturn, 1)) : W p l e room_1 s m #[Value.ref b] below meth c H [] 600000 7302250 (lw_Z below #[Value.ref b] s) (F0 m pc ls [.int 1]) := by
  intro T hT X
  obtain ⟨fs, hret, hrun, hended, hW, hframe⟩ := X.leave (v := some (.int 1)) (hlocks := hlocks) (fun h => by rw [hr] at h; cases h)
  have hmeth' : T.vm.method? m = some meth := X.method'
  refine ⟨T.setFrames fs, ?_, .returned (some (.int 1)), hrun, hended, rfl, ⟨_, rfl⟩, hW, hframe⟩
  jvm_step X.here [X.here.top, hx, hb, hdg, hmeth', hr, ret, narrow_b1]
  (try refine ⟨rfl, ?_⟩); (try refine ⟨rfl, ?_⟩)
  first | (intro acts; rw [hret _ acts rfl rfl rfl]) | rw [hret _ _ rfl rfl rfl]
  exact Steps.refl _
/-- what holds at the law's entry: the machine, the code, the tables' words (any of lw_tbl by 'hts w (by decide +kernel)'), the script of L ints xs at the cell b, what the Statement gives of the start (any of its parts by flat_of_before) -/
def lw_At (p : Program) (s : State) (m : MethodId) (meth : Method) (c : Code) (b L : Nat) (xs : Nat → Int32) : Prop :=
  p.tables.exec = Jvm.exec ∧ c.code = code ∧ meth.sig.returnType = ret ∧ c.maxLocals = 4 ∧ s.vm.findClass R_law = some m.cls ∧ (∀ w ∈ lw_tbl, w.before #[Value.ref b] s = true) ∧ va_X b L xs s s.heap ∧ b < s.heap.size ∧ meth.locks = false ∧ (Jvm.Cond.and given_1 narrow_1).before #[Value.ref b] s = true
/-- what is left: the law's loop, in the interpreter -/
def xPure : Prop := ∀ (L : Nat) (xs : Nat → Int32), L ≤ 3072 → ∃ (n : Nat) (τ : XS), xexec n xm_La_law 18 [.ref 1000000, .ref 0, .ref 400, .int 0] [] (xB L xs xσ2.2.2.1) = some (some (.int 1), τ) ∧ xsN τ ≤ 600000 ∧ xsZ τ ≤ 7302250
set_option maxRecDepth 100000 in
theorem xLa_in : xm_La_law ∈ xMs := List.mem_of_getElem? (i := 313) rfl
theorem x_lawret {p : Program} {l : Launch} {e : Env} {s : State} {m : MethodId} {below : List Frame} {meth : Method} {c : Code} {b : Nat} {g : XG} (hx : p.tables.exec = Jvm.exec) (hb : c.code = code) (hr : meth.sig.returnType = ret) (hlocks : meth.locks = false) {pc len : Nat} {ins : Instr} {st : List Value} {H : Heap} {ls : Array Slot} {locs : List Loc} {cells slots : Nat} (hf : ∀ q ∈ locs, s.heap.size ≤ q.base) (hc : cells ≤ 600000) (hz : slots ≤ 7302250) (hat : xmAt xm_La_law pc = some (ins, len)) (h : xRet xm_La_law ins st = some (some (.int 1))) : W p l e room_1 s m #[Value.ref b] below meth c H locs cells slots (lw_Z below #[Value.ref b] s) (F0 m pc ls (st.map (xcv g))) := by
  obtain ⟨hd, hln, -⟩ := x_at xLa_in hat
  have hret : xmRet xm_La_law = some .boolean := rfl
  cases ins
  case ireturn =>
    have e1 : len = 1 := hln.resolve_left (by simp [xLen])
    subst e1
    unfold xRet at h
    simp only [hret] at h
    split at h
    · rename_i z
      cases z
    · rename_i v z
      split at h
      · cases h
        refine va_forget hf ?_
        refine W.widen (k := 600000) (n := 7302250) hc hz ?_
        exact lw_ret hx hb hr hlocks hd
      · cases h
    · rename_i z
      cases z
    · rename_i z
      cases z
    · cases h
  case return_ =>
    unfold xRet at h
    simp only [hret] at h
    cases h
  case lreturn =>
    unfold xRet at h
    simp only [hret] at h
    cases h
  case areturn =>
    unfold xRet at h
    simp only [hret] at h
    cases h
  all_goals cases h
set_option maxHeartbeats 4000000 in
set_option maxRecDepth 100000 in
theorem x_whole (hpure : xPure) {p : Program} {e : Env} {s : State} {m : MethodId} {below : List Frame} {meth : Method} {c : Code} (l : Launch) {b L : Nat} {xs : Nat → Int32} (hL : L ≤ 3072) (C0 : lw_At p s m meth c b L xs) : W p l e room_1 s m #[Value.ref b] below meth c s.heap [] 0 0 (lw_Z below #[Value.ref b] s) (entryFrame m ([Value.ref b] : List Value).toArray 4) := by
  obtain ⟨hx, hb, hr, hml, hown, hts, hX, hbl, hlocks, hgv⟩ := C0
  obtain ⟨g, hO, hgB, hgO, hgL, hgX⟩ := x_env hts hX hbl hgv
  have hxw : ∀ w ∈ xw, w.before #[Value.ref b] s = true := fun w h => hts w (xw_good w h).1
  have hF : xFix g xm_La_law p s m #[Value.ref b] meth c := ⟨hx, hb, hml, hown, hxw, hO, by rw [hgB]; exact Nat.le_refl _, fun h => absurd h (by decide)⟩
  have hv := hO.2.2.2.2.2.2.1
  have hs0 : va_S (xA g) s.heap s.heap [] := va_S.rf
  have hW0 : xWd g xNil s.heap := by
    refine ⟨by rw [hgB]; rfl, by decide, fun k q hk => ?_, fun a _ => Or.inr rfl, fun a _ h => absurd rfl h, fun a i h => (by cases h), fun a h => absurd h (Nat.not_lt_zero a)⟩
    exact absurd (xWs_inv hk).1 (Nat.not_lt_zero k)
  have eb : xcv g (.ref 1000000) = .ref b := by
    show Value.ref (xAd g 1000000) = _
    rw [← hgO]
    exact congrArg Value.ref (xAd_old (j := 0))
  have hl0 := xLr_ini (as := [.ref 1000000]) (n := 4) hv (by decide)
  have emap : [Value.ref 1000000].map (xcv g) = [Value.ref b] := by rw [List.map_cons, eb]; rfl
  rw [emap] at hl0
  rw [lg_entry_eq]
  generalize (lg_sl [Value.ref b] ++ List.replicate (4 - (lg_sl [Value.ref b]).length) Slot.unset).toArray = ls at hl0 ⊢
  have hln0 : ls.size = xmL xm_La_law := hl0.1
  have hfr : xmFr xm_La_law ≤ room_1.frames := by decide
  have hlo : xmLo xm_La_law ≤ room_1.locals := by decide
  have e1N : xsN xσ1 = 400 := congrArg Prod.fst xσ1_1
  have e1Z : xsZ xσ1 = 7668 := congrArg Prod.snd xσ1_1
  have e2N : xsN xσ2 = 435 := congrArg Prod.fst xσ2_1
  have e2Z : xsZ xσ2 = 13969 := congrArg Prod.snd xσ2_1
  have i0 : xIni [.ref 1000000] 4 = [.ref 1000000, .retAddr 0, .retAddr 0, .retAddr 0] := rfl
  rw [i0] at hl0
  -- new ThreePhases()
  refine x_stepN (σ := xNil) (st := []) (f := (3, [.ref 1000000, .retAddr 0, .retAddr 0, .retAddr 0], [.ref 0], xNew xNil 11 0 10)) (ins := .new 7) (len := 3) rfl rfl xLa_in hF hW0 hs0 hl0 hln0 hfr hlo (by decide) (by decide) (fun H1 locs1 ls1 hW1 hS1 hl1 hn1 => ?_)
  refine x_stepN (σ := xNew xNil 11 0 10) (st := [.ref 0]) (f := (4, [.ref 1000000, .retAddr 0, .retAddr 0, .retAddr 0], [.ref 0, .ref 0], xNew xNil 11 0 10)) (ins := .dup) (len := 1) rfl rfl xLa_in hF hW1 hS1 hl1 hn1 hfr hlo (by decide) (by decide) (fun H2 locs2 ls2 hW2 hS2 hl2 hn2 => ?_)
  refine x_newN (σ := xNew xNil 11 0 10) (τ := xσ1) (r := none) (n := 4000) (st := [.ref 0, .ref 0]) (cm := xm_TP_new) (a := 0) (as := []) (rest := [.ref 0]) (ix := 9) rfl rfl rfl xC1_eq xLa_in hF hW2 hS2 hl2 hn2 hfr hlo (by rw [e1N]; decide) (by rw [e1Z]; decide) (fun H3 locs3 hW3 hS3 => ?_)
  refine x_stepN (σ := xσ1) (st := [.ref 0]) (f := (8, [.ref 1000000, .ref 0, .retAddr 0, .retAddr 0], [], xσ1)) (ins := .astore_n 1) (len := 1) rfl rfl xLa_in hF hW3 hS3 hl2 hn2 hfr hlo (by show xsN xσ1 ≤ _; rw [e1N]; decide) (by show xsZ xσ1 ≤ _; rw [e1Z]; decide) (fun H4 locs4 ls4 hW4 hS4 hl4 hn4 => ?_)
  -- new ThreePhasesModel()
  have eN3 : xsN (xNew xσ1 12 0 61) = 401 := by show xsN xσ1 + 1 = _; rw [e1N]
  have eZ3 : xsZ (xNew xσ1 12 0 61) = 7668 + 61 := by show xsZ xσ1 + _ = _; rw [e1Z]
  refine x_stepN (σ := xσ1) (st := []) (f := (11, [.ref 1000000, .ref 0, .retAddr 0, .retAddr 0], [.ref 400], xNew xσ1 12 0 61)) (ins := .new 10) (len := 3) rfl (by
    show xis (decide (12 ≤ 12) && decide (xsN xσ1 + 1 ≤ 1000000)) _ = _
    rw [e1N]
    rfl) xLa_in hF hW4 hS4 hl4 hn4 hfr hlo (by rw [eN3]; decide) (by rw [eZ3]; decide) (fun H5 locs5 ls5 hW5 hS5 hl5 hn5 => ?_)
  refine x_stepN (σ := xNew xσ1 12 0 61) (st := [.ref 400]) (f := (12, [.ref 1000000, .ref 0, .retAddr 0, .retAddr 0], [.ref 400, .ref 400], xNew xσ1 12 0 61)) (ins := .dup) (len := 1) rfl rfl xLa_in hF hW5 hS5 hl5 hn5 hfr hlo (by rw [eN3]; decide) (by rw [eZ3]; decide) (fun H6 locs6 ls6 hW6 hS6 hl6 hn6 => ?_)
  refine x_newN (σ := xNew xσ1 12 0 61) (τ := xσ2) (r := none) (n := 4000) (st := [.ref 400, .ref 400]) (cm := xm_Mo_new) (a := 400) (as := []) (rest := [.ref 400]) (ix := 12) rfl rfl rfl xC2_eq xLa_in hF hW6 hS6 hl6 hn6 hfr hlo (by rw [e2N]; decide) (by rw [e2Z]; decide) (fun H7 locs7 hW7 hS7 => ?_)
  refine x_stepN (σ := xσ2) (st := [.ref 400]) (f := (16, [.ref 1000000, .ref 0, .ref 400, .retAddr 0], [], xσ2)) (ins := .astore_n 2) (len := 1) rfl rfl xLa_in hF hW7 hS7 hl6 hn6 hfr hlo (by show xsN xσ2 ≤ _; rw [e2N]; decide) (by show xsZ xσ2 ≤ _; rw [e2Z]; decide) (fun H8 locs8 ls8 hW8 hS8 hl8 hn8 => ?_)
  refine x_stepN (σ := xσ2) (st := []) (f := (17, [.ref 1000000, .ref 0, .ref 400, .retAddr 0], [.int 0], xσ2)) (ins := .iconst 0) (len := 1) rfl rfl xLa_in hF hW8 hS8 hl8 hn8 hfr hlo (by show xsN xσ2 ≤ _; rw [e2N]; decide) (by show xsZ xσ2 ≤ _; rw [e2Z]; decide) (fun H9 locs9 ls9 hW9 hS9 hl9 hn9 => ?_)
  refine x_stepN (σ := xσ2) (st := [.int 0]) (f := (18, [.ref 1000000, .ref 0, .ref 400, .int 0], [], xσ2)) (ins := .istore_n 3) (len := 1) rfl rfl xLa_in hF hW9 hS9 hl9 hn9 hfr hlo (by show xsN xσ2 ≤ _; rw [e2N]; decide) (by show xsZ xσ2 ≤ _; rw [e2Z]; decide) (fun H10 locs10 ls10 hW10 hS10 hl10 hn10 => ?_)
  -- the loop
  obtain ⟨n, τ, hex, hN, hZ⟩ := hpure L xs hL
  have hWB : xWd g (xB L xs xσ2.2.2.1) H10 := by
    refine hW10.ghost xσ2_1.symm (fun a ha => ?_) (fun a ha => ?_) (fun a ha k hk => ?_) (fun a ha => ?_) (fun a ha => ?_)
    · rw [e2N] at ha
      show xS0 L a = _
      unfold xS0
      rw [if_pos ha]
      exact (xσ2_S a ha).symm
    · rw [e2N] at ha
      show (if a < 1000000 then xσ2.2.2.1 a else xoI xs a) = _
      rw [if_pos (by omega)]
    · rw [e2N] at ha
      have eS : xsS xσ2 a = xLS.getD a (99, 0) := xσ2_S a ha
      rw [eS] at hk
      refine (xσ2_R a ha k ?_ (fun h => ?_)).symm
      · unfold xBd
        rcases hk with ⟨z1, z2, z3⟩ | ⟨z1, z2⟩
        · rw [if_pos z1]
          exact z2
        · rw [if_neg (by omega), if_pos z1]
          exact z2
      · rcases hk with ⟨z1, z2, z3⟩ | ⟨z1, z2⟩
        · exact z3
        · omega
    · rw [e2N] at ha
      show xS0 L a = _
      unfold xS0
      rw [if_neg (by omega), hgL]
    · show (if a < 1000000 then xσ2.2.2.1 a else xoI xs a) = _
      rw [if_neg (by omega), hgX]
  have hm2 := xexec_mono n hex
  have hB1 : xsN (xB L xs xσ2.2.2.1) = 435 := rfl
  have hB2 : xsZ (xB L xs xσ2.2.2.1) = 13969 := rfl
  have eN9 : xsN xσ2 + (xsN τ - xsN (xB L xs xσ2.2.2.1)) = xsN τ := by have := hm2.1; rw [e2N]; omega
  have eZ9 : xsZ xσ2 + (xsZ τ - xsZ (xB L xs xσ2.2.2.1)) = xsZ τ := by have := hm2.2; rw [e2Z]; omega
  refine x_run l g n xLa_in hex p e room_1 s m _ below meth c H10 locs10 (xsN xσ2) (xsZ xσ2) _ ls10 hF hWB hS10 hl10 hn10 hfr hlo (by rw [eN9]; exact hN) (by rw [eZ9]; exact hZ) (fun pc' ls' H' locs' ins len st' a1 a2 a3 a4 => ?_)
  rw [eN9, eZ9]
  exact x_lawret hx hb hr hlocks (fun q hq => by have h9 := a4.2.2 q hq; unfold xA at h9; rw [hgB] at h9; exact h9) hN hZ a1 a2
