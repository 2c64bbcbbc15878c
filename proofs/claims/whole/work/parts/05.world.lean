/-! THE INTERPRETER'S CELLS IN THE MACHINE'S HEAP -/
/-- what the old cells are: kind and length -/
def xoS (L a : Nat) : Nat × Nat := if a < 1000000 then (99, 0) else if a = 1000000 then (40, L) else if a < 1000005 then (40, (xTab.getD (a - 1000000) []).length) else if 1000010 ≤ a ∧ a < 1000027 then (42, xTl.getD (a - 1000010) 0) else if 1000030 ≤ a ∧ a < 1000047 then (43, xTl.getD (a - 1000030) 0) else (99, 0)
/-- what they hold -/
def xoI (xs : Nat → Int32) (a : Nat) : Nat → Int32 := if a = 1000000 then xs else if a < 1000005 then (fun i => (xTab.getD (a - 1000000) []).getD i 0) else if 1000030 ≤ a ∧ a < 1000047 then (fun i => (xTb.getD (a - 1000030) []).getD i 0) else (fun _ => 0)
/-- a run's surroundings: where its cells begin, the classes' numbers and slots, the array classes by kind, the old cells' addresses, the script, the formatter -/
abbrev XG : Type := Nat × va_G × (Nat → ClassId) × (Nat → Nat) × (Nat × (Nat → Int32)) × Value
abbrev xgB (g : XG) : Nat := g.1
abbrev xgD (g : XG) : va_G := g.2.1
abbrev xgA (g : XG) : Nat → ClassId := g.2.2.1
abbrev xgO (g : XG) : Nat → Nat := g.2.2.2.1
abbrev xgL (g : XG) : Nat := g.2.2.2.2.1.1
abbrev xgX (g : XG) : Nat → Int32 := g.2.2.2.2.1.2
abbrev xgV (g : XG) : Value := g.2.2.2.2.2
def xA (g : XG) : Nat → Prop := fun q => xgB g ≤ q
def xAd (g : XG) (a : Nat) : Nat := if a < 1000000 then xgB g + a else xgO g (a - 1000000)
def xcv (g : XG) (v : Value) : Value := match v with
  | .ref a => .ref (xAd g a)
  | .retAddr 1 => xgV g
  | v => v
def xEnt (g : XG) (σ : XS) (a : Nat) : va_E := if (xsS σ a).1 ≤ 12 then .inr ((xsS σ a).1, (List.range (xNf (xsS σ a).1)).map fun j => xcv g (xfv σ (xsS σ a).1 a j)) else if (xsS σ a).1 ≤ 22 then .inl (xgA g (xsS σ a).1, (xsS σ a).2, .inl (xsI σ a)) else .inl (xgA g (xsS σ a).1, (xsS σ a).2, .inr (.inr (.inr (.inr fun i => (xsR σ a i).map (xAd g)))))
def xWs (g : XG) (σ : XS) : va_W := (List.range (xsN σ)).map fun a => (xgB g + a, xEnt g σ a)
def xTys (g : XG) : List (ClassId × FieldType) := [(xgA g 20, .int), (xgA g 21, .byte), (xgA g 22, .boolean), (xgA g 23, .object "ThreePhases$Merged"), (xgA g 24, .object "ThreePhases$Member"), (xgA g 25, .object "ThreePhases$Told"), (xgA g 26, .object "ThreePhases$Council"), (xgA g 27, .object "ThreePhases$Run"), (xgA g 28, .object "ThreePhases$Replies"), (xgA g 29, .array .int)]
/-- the heap holds the cells (an old cell may be left out: then nothing can be read of it) -/
def xWd (g : XG) (σ : XS) (H : Heap) : Prop := H.size = xgB g + xsN σ ∧ xsN σ ≤ 1000000 ∧ va_P (xgD g) xCl (xWs g σ) H ∧ (∀ a, xsN σ ≤ a → xsS σ a = xoS (xgL g) a ∨ xsS σ a = (99, 0)) ∧ (∀ a, 1000000 ≤ a → (xsS σ a).1 ≠ 99 → xsI σ a = xoI (xgX g) a) ∧ (∀ a i, (xsS σ a).1 = 21 → (xsI σ a i).toInt8.toInt32 = xsI σ a i) ∧ ∀ a, a < xsN σ → (xsS σ a).1 ≤ 12 ∨ (20 ≤ (xsS σ a).1 ∧ (xsS σ a).1 ≤ 29)
/-- arrays of arrays -/
def xAOA (U : State) : Prop := (Cond.arrayOver (.array .int)).before #[] U = true
/-- what the old world is, at a state -/
def xOw (g : XG) (U : State) : Prop := va_K (xgD g) xCl (xTys g) U ∧ va_X (xgO g 0) (xgL g) (xgX g) U U.heap ∧ xgO g 0 < xgB g ∧ (∀ j, 1 ≤ j → j ≤ 4 → va_T .int (xgO g j) (xTab.getD j []).length (fun i => .int ((xTab.getD j []).getD i 0)) (xA g) U U.heap ∧ va_Z "ThreePhases$Reader" (xTabN.getD j "") "[I" (.ref (xgO g j)) (xA g) U U.heap) ∧ va_Z "java/lang/String" "COMPACT_STRINGS" "Z" (.int 1) (xA g) U U.heap ∧ va_Z "jdk/internal/util/Preconditions" "SIOOBE_FORMATTER" "Ljava/util/function/BiFunction;" (xgV g) (xA g) U U.heap ∧ (xgV g = .null ∨ ∃ t, xgV g = .ref t) ∧ vk_S 17 xTl xTb (fun i => xgO g (10 + i)) (fun i => xgO g (30 + i)) (xA g) U U.heap ∧ (∀ i, i < 17 → vk_R "ThreePhases$Reader" (xTx.getD i (0, "")).1 (xTx.getD i (0, "")).2 (xgO g (10 + i)) U) ∧ (∀ e ∈ xNest, va_Nw (.methodLinkNest (xR e.1) e.2.1 e.2.2 "ThreePhases") U) ∧ (∀ C ∈ xAos, va_AO C U) ∧ xAOA U ∧ (Cond.arrayClass .int).before #[] U = true
/-- what a frame of a method stands on -/
def xFix (g : XG) (m : XM) (p : Program) (s : State) (mid : MethodId) (args : Array Value) (meth : Method) (c : Code) : Prop := p.tables.exec = Jvm.exec ∧ c.code = xmC m ∧ c.maxLocals = xmL m ∧ s.vm.findClass (xR (xmOwn m)) = some mid.cls ∧ (∀ w ∈ xw, w.before args s = true) ∧ xOw g s ∧ xgB g ≤ s.heap.size ∧ (xmK m = 2 → meth.name = "<init>")
/-- the locals -/
def xLr (g : XG) (xl : List Value) (ls : Array Slot) : Prop := ls.size = xl.length ∧ lv_wf ls ∧ ∀ (i : Nat) (v : Value), xl[i]? = some v → (∀ q, v ≠ .retAddr q) → ls[i]? = some (.val (xcv g v))
def xNr (v : Value) : Bool := match v with
  | .retAddr _ => false
  | _ => true
def xPr (g : XG) (xl : List Value) : List (Nat × Value) := (List.range xl.length).filterMap fun i => match xl[i]? with
  | some v => if xNr v then some (i, xcv g v) else none
  | none => none
theorem xNr_ne {v : Value} (h : xNr v = true) : ∀ q, v ≠ .retAddr q := fun q e => by rw [e] at h; cases h
theorem xNr_of {v : Value} (h : ∀ q, v ≠ .retAddr q) : xNr v = true := by
  cases v <;> first | rfl | exact absurd rfl (h _)
theorem xPr_mem {g : XG} {xl : List Value} {i : Nat} {v : Value} (h : xl[i]? = some v) (hv : ∀ q, v ≠ .retAddr q) : (i, xcv g v) ∈ xPr g xl := by
  refine List.mem_filterMap.mpr ⟨i, List.mem_range.mpr (List.getElem?_eq_some_iff.mp h).1, ?_⟩
  simp only [h, xNr_of hv, if_true]
theorem xPr_of {g : XG} {xl : List Value} {q : Nat × Value} (h : q ∈ xPr g xl) : ∃ v, xl[q.1]? = some v ∧ (∀ z, v ≠ .retAddr z) ∧ q.2 = xcv g v := by
  obtain ⟨i, -, hi⟩ := List.mem_filterMap.mp h
  cases hv : xl[i]? with
  | none => rw [hv] at hi; cases hi
  | some v =>
    rw [hv] at hi
    by_cases hn : xNr v = true
    · simp only [hn, if_true] at hi
      cases hi
      exact ⟨v, hv, xNr_ne hn, rfl⟩
    · simp only [hn] at hi
      cases hi
theorem xLr_has {g : XG} {xl : List Value} {ls : Array Slot} (h : xLr g xl ls) : lv_has ls xl.length (xPr g xl) := ⟨h.1, h.2.1, fun q hq => by
  obtain ⟨v, h1, h2, h3⟩ := xPr_of hq
  rw [h3]
  exact h.2.2 _ _ h1 h2⟩
theorem xcv_cat {g : XG} (hv : xgV g = .null ∨ ∃ t, xgV g = .ref t) (v : Value) : (xcv g v).category = v.category := by
  cases v with
  | retAddr n =>
    rcases n with _ | _ | n
    · rfl
    · rcases hv with h | ⟨t, h⟩ <;> (show (xgV g).category = 1; rw [h]; rfl)
    · rfl
  | _ => rfl
theorem xcat_map {g : XG} (hv : xgV g = .null ∨ ∃ t, xgV g = .ref t) (l : List Value) : ((l.map (xcv g)).map fun v => v.category).sum = xcat l := by
  unfold xcat
  rw [List.map_map]
  congr 1
  exact List.map_congr_left fun v _ => xcv_cat hv v
theorem xSt1_lr {g : XG} (hv : xgV g = .null ∨ ∃ t, xgV g = .ref t) {xl xl' : List Value} {i : Nat} {v : Value} (h : xSt1 xl i v = some xl') {ls' : Array Slot} (h' : lv_has ls' xl.length ((i, xcv g v) :: (xPr g xl).filter (fun q => !(q.1 == i) && !(q.1 + 1 == i && q.2.category == 2)))) : xLr g xl' ls' := by
  unfold xSt1 at h
  by_cases hc : (decide (i < xl.length) && xNo2 xl i) = true
  · rw [if_pos hc] at h
    cases h
    simp only [Bool.and_eq_true, decide_eq_true_eq] at hc
    refine ⟨by rw [List.length_set]; exact h'.1, h'.2.1, fun j w hj hw => ?_⟩
    by_cases e : j = i
    · subst e
      rw [List.getElem?_set_self hc.1] at hj
      cases hj
      exact h'.2.2 (_, _) List.mem_cons_self
    · rw [List.getElem?_set_ne (Ne.symm e)] at hj
      refine h'.2.2 (_, _) (List.mem_cons_of_mem _ (List.mem_filter.mpr ⟨xPr_mem hj hw, ?_⟩))
      simp only [Bool.and_eq_true, Bool.not_eq_true', beq_eq_false_iff_ne, ne_eq, Bool.and_eq_false_iff]
      refine ⟨e, ?_⟩
      by_cases e2 : j + 1 = i
      · right
        subst e2
        have h2 := hc.2
        simp only [xNo2, hj, bne_iff_ne, ne_eq] at h2
        show ¬ (xcv g w).category = 2
        rw [xcv_cat hv]
        exact h2
      · left
        exact e2
  · rw [if_neg hc] at h
    cases h
theorem xSt1_lt {xl xl' : List Value} {i : Nat} {v : Value} (h : xSt1 xl i v = some xl') : i < xl.length := by
  unfold xSt1 at h
  by_cases hc : (decide (i < xl.length) && xNo2 xl i) = true
  · simp only [Bool.and_eq_true, decide_eq_true_eq] at hc
    exact hc.1
  · rw [if_neg hc] at h
    cases h
theorem xSt2_lt {xl xl' : List Value} {i : Nat} {v : Value} (h : xSt2 xl i v = some xl') : i + 1 < xl.length := by
  unfold xSt2 at h
  by_cases hc : (decide (i + 1 < xl.length) && xNo2 xl i) = true
  · simp only [Bool.and_eq_true, decide_eq_true_eq] at hc
    exact hc.1
  · rw [if_neg hc] at h
    cases h
theorem xSt2_lr {g : XG} (hv : xgV g = .null ∨ ∃ t, xgV g = .ref t) {xl xl' : List Value} {i : Nat} {v : Value} (h : xSt2 xl i v = some xl') {ls' : Array Slot} (h' : lv_has ls' xl.length ((i, xcv g v) :: (xPr g xl).filter (fun q => !(q.1 == i) && (!(q.1 == i + 1) && !(q.1 + 1 == i && q.2.category == 2))))) : xLr g xl' ls' := by
  unfold xSt2 at h
  by_cases hc : (decide (i + 1 < xl.length) && xNo2 xl i) = true
  · rw [if_pos hc] at h
    cases h
    simp only [Bool.and_eq_true, decide_eq_true_eq] at hc
    refine ⟨by rw [List.length_set, List.length_set]; exact h'.1, h'.2.1, fun j w hj hw => ?_⟩
    by_cases e3 : j = i + 1
    · subst e3
      rw [List.getElem?_set_self (by rw [List.length_set]; exact hc.1)] at hj
      cases hj
      exact absurd rfl (hw 0)
    · rw [List.getElem?_set_ne (Ne.symm e3)] at hj
      by_cases e : j = i
      · subst e
        rw [List.getElem?_set_self (by omega)] at hj
        cases hj
        exact h'.2.2 (_, _) List.mem_cons_self
      · rw [List.getElem?_set_ne (Ne.symm e)] at hj
        refine h'.2.2 (_, _) (List.mem_cons_of_mem _ (List.mem_filter.mpr ⟨xPr_mem hj hw, ?_⟩))
        simp only [Bool.and_eq_true, Bool.not_eq_true', beq_eq_false_iff_ne, ne_eq, Bool.and_eq_false_iff]
        refine ⟨e, e3, ?_⟩
        by_cases e2 : j + 1 = i
        · right
          subst e2
          have h2 := hc.2
          simp only [xNo2, hj, bne_iff_ne, ne_eq] at h2
          show ¬ (xcv g w).category = 2
          rw [xcv_cat hv]
          exact h2
        · left
          exact e2
  · rw [if_neg hc] at h
    cases h
/-- the cells in their places -/
theorem xWs_get {g : XG} {σ : XS} {a : Nat} (h : a < xsN σ) : (xWs g σ)[a]? = some (xgB g + a, xEnt g σ a) := by
  unfold xWs
  rw [List.getElem?_map, List.getElem?_range h]
  rfl
theorem xWs_inv {g : XG} {σ : XS} {k : Nat} {q : Nat × va_E} (h : (xWs g σ)[k]? = some q) : k < xsN σ ∧ q = (xgB g + k, xEnt g σ k) := by
  have hk : k < xsN σ := by
    have := (List.getElem?_eq_some_iff.mp h).1
    simpa [xWs] using this
  rw [xWs_get hk] at h
  exact ⟨hk, (Option.some.inj h).symm⟩
theorem xWs_D (g : XG) (σ : XS) : va_D (xA g) (xWs g σ) := ⟨fun i j p q hi hj e => by
  obtain ⟨h1, rfl⟩ := xWs_inv hi
  obtain ⟨h2, rfl⟩ := xWs_inv hj
  exact Nat.add_left_cancel e, fun k q hk => by
  obtain ⟨h1, rfl⟩ := xWs_inv hk
  exact Nat.le_add_right _ _⟩
theorem xWs_set {g : XG} {σ σ' : XS} {a : Nat} {e : va_E} (ha : a < xsN σ) (hn : xsN σ' = xsN σ) (he : xEnt g σ' a = e) (ho : ∀ b, b ≠ a → xEnt g σ' b = xEnt g σ b) : (xWs g σ).set a (xgB g + a, e) = xWs g σ' := by
  refine List.ext_getElem? fun k => ?_
  rw [List.getElem?_set]
  by_cases e1 : a = k
  · subst e1
    rw [if_pos rfl, xWs_get (by rw [hn]; exact ha), he, if_pos (by simpa [xWs] using ha)]
  · rw [if_neg e1]
    by_cases hk : k < xsN σ
    · rw [xWs_get hk, xWs_get (by rw [hn]; exact hk), ho k (Ne.symm e1)]
    · rw [List.getElem?_eq_none (by simpa [xWs] using Nat.le_of_not_lt hk), List.getElem?_eq_none (by simpa [xWs, hn] using Nat.le_of_not_lt hk)]
theorem xEnt_c {g : XG} {σ σ' : XS} {a : Nat} (h1 : xsS σ' a = xsS σ a) (h2 : xsI σ' a = xsI σ a) (h3 : xsR σ' a = xsR σ a) : xEnt g σ' a = xEnt g σ a := by
  unfold xEnt xfv
  rw [h1, h2, h3]
theorem xWd.lt {g : XG} {σ : XS} {H : Heap} (h : xWd g σ H) {a : Nat} (hk : (xsS σ a).1 ≤ 29) : a < xsN σ := by
  rcases Nat.lt_or_ge a (xsN σ) with q | q
  · exact q
  · exfalso
    rcases h.2.2.2.1 a q with z | z
    · rw [z] at hk
      unfold xoS at hk
      repeat' split at hk
      all_goals first | (simp at hk; done) | omega
    · rw [z] at hk
      simp at hk
theorem xWd.pl {g : XG} {σ : XS} {H : Heap} (h : xWd g σ H) {a : Nat} (hk : (xsS σ a).1 ≤ 29) : (xWs g σ)[a]? = some (xAd g a, xEnt g σ a) := by
  have hn := h.lt hk
  rw [xWs_get hn]
  unfold xAd
  rw [if_pos (Nat.lt_of_lt_of_le hn h.2.1)]
theorem xWd.ad {g : XG} {σ : XS} {H : Heap} (h : xWd g σ H) {a : Nat} (hk : (xsS σ a).1 ≤ 29) : xAd g a = xgB g + a := by
  unfold xAd
  rw [if_pos (Nat.lt_of_lt_of_le (h.lt hk) h.2.1)]
theorem xEnt_o {g : XG} {σ : XS} {a : Nat} (hk : (xsS σ a).1 ≤ 12) : xEnt g σ a = .inr ((xsS σ a).1, (List.range (xNf (xsS σ a).1)).map fun j => xcv g (xfv σ (xsS σ a).1 a j)) := by
  unfold xEnt
  rw [if_pos hk]
theorem xEnt_i {g : XG} {σ : XS} {a : Nat} (h1 : 12 < (xsS σ a).1) (h2 : (xsS σ a).1 ≤ 22) : xEnt g σ a = .inl (xgA g (xsS σ a).1, (xsS σ a).2, .inl (xsI σ a)) := by
  unfold xEnt
  rw [if_neg (Nat.not_le.mpr h1), if_pos h2]
theorem xEnt_q {g : XG} {σ : XS} {a : Nat} (h : 22 < (xsS σ a).1) : xEnt g σ a = .inl (xgA g (xsS σ a).1, (xsS σ a).2, .inr (.inr (.inr (.inr fun i => (xsR σ a i).map (xAd g))))) := by
  unfold xEnt
  rw [if_neg (by omega), if_neg (by omega)]
/-- an old cell by its kind -/
theorem xWd.old {g : XG} {σ : XS} {H : Heap} (h : xWd g σ H) {a : Nat} (hk : 40 ≤ (xsS σ a).1) (hk2 : (xsS σ a).1 ≤ 43) : 1000000 ≤ a ∧ xsS σ a = xoS (xgL g) a ∧ xsI σ a = xoI (xgX g) a := by
  rcases Nat.lt_or_ge a (xsN σ) with q | q
  · exfalso
    rcases h.2.2.2.2.2.2 a q with z | z <;> omega
  · rcases h.2.2.2.1 a q with e | e
    · have z : 1000000 ≤ a := by
        rw [e] at hk2
        unfold xoS at hk2
        rcases Nat.lt_or_ge a 1000000 with z | z
        · rw [if_pos z] at hk2
          simp at hk2
        · exact z
      exact ⟨z, e, h.2.2.2.2.1 a z (by omega)⟩
    · rw [e] at hk2
      simp at hk2
theorem xIn_in {i : Int32} {n : Nat} (h : xIn i n = true) : vp_in i n := by
  unfold xIn at h
  simp only [Bool.not_eq_true', Bool.or_eq_false_iff, decide_eq_false_iff_not] at h
  exact fun q => q.elim h.1 h.2
theorem xo1_inv {β : Type} {st : List Value} {k : Int32 → List Value → Option β} {f : β} (h : xo1 st k = some f) : ∃ x r, st = .int x :: r ∧ k x r = some f := by
  unfold xo1 at h
  split at h
  · exact ⟨_, _, rfl, h⟩
  · cases h
theorem xo2_inv {β : Type} {st : List Value} {k : Int32 → Int32 → List Value → Option β} {f : β} (h : xo2 st k = some f) : ∃ x y r, st = .int y :: .int x :: r ∧ k x y r = some f := by
  unfold xo2 at h
  split at h
  · exact ⟨_, _, _, rfl, h⟩
  · cases h
theorem xl2_inv {β : Type} {st : List Value} {k : Int64 → Int64 → List Value → Option β} {f : β} (h : xl2 st k = some f) : ∃ x y r, st = .long y :: .long x :: r ∧ k x y r = some f := by
  unfold xl2 at h
  split at h
  · exact ⟨_, _, _, rfl, h⟩
  · cases h
theorem xr1_inv {β : Type} {st : List Value} {k : Nat → List Value → Option β} {f : β} (h : xr1 st k = some f) : ∃ x r, st = .ref x :: r ∧ k x r = some f := by
  unfold xr1 at h
  split at h
  · exact ⟨_, _, rfl, h⟩
  · cases h
theorem xra_inv {β : Type} {st : List Value} {k : Nat → Int32 → List Value → Option β} {f : β} (h : xra st k = some f) : ∃ a i r, st = .int i :: .ref a :: r ∧ k a i r = some f := by
  unfold xra at h
  split at h
  · exact ⟨_, _, _, rfl, h⟩
  · cases h
theorem xrs_inv {β : Type} {st : List Value} {k : Nat → Int32 → Int32 → List Value → Option β} {f : β} (h : xrs st k = some f) : ∃ a i x r, st = .int x :: .int i :: .ref a :: r ∧ k a i x r = some f := by
  unfold xrs at h
  split at h
  · exact ⟨_, _, _, _, rfl, h⟩
  · cases h
theorem xrq_inv {β : Type} {st : List Value} {k : Nat → Int32 → Nat → List Value → Option β} {f : β} (h : xrq st k = some f) : ∃ a i q r, st = .ref q :: .int i :: .ref a :: r ∧ k a i q r = some f := by
  unfold xrq at h
  split at h
  · exact ⟨_, _, _, _, rfl, h⟩
  · cases h
theorem xcp_inv {β : Type} {st : List Value} {k : Nat → Int32 → Nat → Int32 → Int32 → List Value → Option β} {f : β} (h : xcp st k = some f) : ∃ s0 sp d dp n r, st = .int n :: .int dp :: .ref d :: .int sp :: .ref s0 :: r ∧ k s0 sp d dp n r = some f := by
  unfold xcp at h
  split at h
  · exact ⟨_, _, _, _, _, _, rfl, h⟩
  · cases h
theorem xis_inv {b : Bool} {f f' : XF} (h : xis b f = some f') : b = true ∧ f = f' := by
  unfold xis at h
  by_cases hb : b = true
  · rw [if_pos hb] at h
    exact ⟨hb, Option.some.inj h⟩
  · rw [if_neg hb] at h
    cases h
theorem xTg_inv {pc t : Nat} {off : Int} (h : xTg pc off = some t) : (pc : Int) + off = (t : Int) := by
  unfold xTg at h
  by_cases hc : 0 ≤ (pc : Int) + off
  · rw [if_pos hc] at h
    cases h
    exact (Int.toNat_of_nonneg hc).symm
  · rw [if_neg hc] at h
    cases h
theorem xsw_inv {pc : Nat} {off : Int} {ls st : List Value} {σ : XS} {f : XF} (h : xsw pc off ls st σ = some f) : ∃ t : Nat, (pc : Int) + off = (t : Int) ∧ f = (t, ls, st, σ) := by
  unfold xsw at h
  cases ht : xTg pc off with
  | none => rw [ht] at h; cases h
  | some t =>
    rw [ht] at h
    exact ⟨t, xTg_inv ht, (Option.some.inj h).symm⟩
theorem xbr_inv {c : Prop} [Decidable c] {pc len : Nat} {off : Int} {ls st : List Value} {σ : XS} {f : XF} (h : xbr c pc len off ls st σ = some f) : ∃ t : Nat, (pc : Int) + off = (t : Int) ∧ f = (if c then t else pc + len, ls, st, σ) := by
  unfold xbr at h
  cases ht : xTg pc off with
  | none => rw [ht] at h; cases h
  | some t =>
    rw [ht] at h
    exact ⟨t, xTg_inv ht, (Option.some.inj h).symm⟩
