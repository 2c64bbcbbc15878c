/-! THE LAW, OUT OF THE INTERPRETER'S RUN OF ITS LOOP -/
theorem x_arrc {c : ClassId} {n : Nat} {f f' : Nat → Value} (h : ∀ j, j < n → f j = f' j) : arrV c n f = arrV c n f' := by
  unfold arrV
  congr 1
  apply Array.ext
  · simp
  · intro j h1 h2
    simp only [Array.getElem_ofFn]
    exact h j (by simpa using h1)
/-- the numbers stay; what the cells are and whom they name may be told otherwise where nobody looks; old cells come into sight -/
theorem xWd.ghost {g : XG} {σ σ' : XS} {H : Heap} (h : xWd g σ H) (h1 : σ'.1 = σ.1) (hS : ∀ a, a < xsN σ → xsS σ' a = xsS σ a) (hI : ∀ a, a < xsN σ → xsI σ' a = xsI σ a) (hR : ∀ a, a < xsN σ → ∀ k, ((xsS σ a).1 ≤ 12 ∧ k < xNf (xsS σ a).1 ∧ xFk (xsS σ a).1 k = 2) ∨ (23 ≤ (xsS σ a).1 ∧ k < (xsS σ a).2) → xsR σ' a k = xsR σ a k) (hO : ∀ a, xsN σ ≤ a → xsS σ' a = xoS (xgL g) a) (hOI : ∀ a, 1000000 ≤ a → xsI σ' a = xoI (xgX g) a) : xWd g σ' H := by
  obtain ⟨g1, g2, g3, g4, g5, g6, g7⟩ := h
  have eN : xsN σ' = xsN σ := congrArg Prod.fst h1
  refine ⟨by rw [eN]; exact g1, by rw [eN]; exact g2, fun k q hk => ?_, fun a ha => Or.inl (hO a (by rw [← eN]; exact ha)), fun a ha _ => hOI a ha, fun a i ha => ?_, fun a ha => by rw [hS a (by rw [← eN]; exact ha)]; exact g7 a (by rw [← eN]; exact ha)⟩
  · obtain ⟨z1, rfl⟩ := xWs_inv hk
    rw [eN] at z1
    have e0 := g3 k _ (xWs_get z1)
    rcases g7 k z1 with q | ⟨q1, q2⟩
    · rw [xEnt_o q] at e0
      rw [xEnt_o (by rw [hS k z1]; exact q), hS k z1]
      have e : ((List.range (xNf (xsS σ k).1)).map fun j => xcv g (xfv σ' (xsS σ k).1 k j)) = ((List.range (xNf (xsS σ k).1)).map fun j => xcv g (xfv σ (xsS σ k).1 k j)) := by
        apply List.map_congr_left
        intro j hj
        congr 1
        unfold xfv
        by_cases hf : xFk (xsS σ k).1 j = 2
        · rw [if_pos hf, if_pos hf, hR k z1 j (Or.inl ⟨q, List.mem_range.mp hj, hf⟩)]
        · rw [if_neg hf, if_neg hf, hI k z1]
      rw [e]
      exact e0
    · by_cases q3 : (xsS σ k).1 ≤ 22
      · rw [xEnt_i (by omega) q3] at e0
        rw [xEnt_i (by rw [hS k z1]; omega) (by rw [hS k z1]; exact q3), hS k z1, hI k z1]
        exact e0
      · rw [xEnt_q (by omega)] at e0
        rw [xEnt_q (by rw [hS k z1]; omega), hS k z1]
        have e0 : H[xgB g + k]? = some (vp_cell _ _) := e0
        show H[_]? = some (vp_cell _ _)
        rw [e0, vp_cell_q, vp_cell_q]
        congr 1
        refine x_arrc fun j hj => ?_
        rw [hR k z1 j (Or.inr ⟨by omega, hj⟩)]
  · rcases Nat.lt_or_ge a (xsN σ) with q | q
    · rw [hS a q] at ha
      rw [hI a q]
      exact g6 a i ha
    · rw [hO a q] at ha
      unfold xoS at ha
      repeat' split at ha
      all_goals (exfalso; simp at ha; try omega)
/-- the state at the head of the law's loop: the interpreter's own -/
def xB (L : Nat) (xs : Nat → Int32) (f : Nat → Nat → Int32) : XS := ((435, 13969), xS0 L, (fun a => if a < 1000000 then f a else xoI xs a), xR0)
section XLAW
variable {p : Program} {l : Launch} {e : Env} {R : Room} {s : State} {mid : MethodId} {args : Array Value} {below : List Frame} {meth : Method} {c : Code} {H : Heap} {locs : List Loc} {Q : State → Prop}
variable {g : XG} {m : XM} {pc len : Nat} {ls : Array Slot} {xl st : List Value} {σ : XS}
theorem x_stepN {ins : Instr} {f : XF} (hat : xmAt m pc = some (ins, len)) (h : xstep m pc ins len xl st σ = some f) (hm : m ∈ xMs) (hF : xFix g m p s mid args meth c) (hW : xWd g σ H) (hS : va_S (xA g) s.heap H locs) (hl : xLr g xl ls) (hlen : ls.size = xmL m) (hfr : xmFr m ≤ R.frames) (hlo : xmLo m ≤ R.locals) (hc : xsN f.2.2.2 ≤ R.cells) (hz : xsZ f.2.2.2 ≤ R.slots)
    (kk : ∀ H' locs' ls', xWd g f.2.2.2 H' → va_S (xA g) s.heap H' locs' → xLr g f.2.1 ls' → ls'.size = xmL m → W p l e R s mid args below meth c H' locs' (xsN f.2.2.2) (xsZ f.2.2.2) Q (F0 mid f.1 ls' (f.2.2.1.map (xcv g)))) : W p l e R s mid args below meth c H locs (xsN σ) (xsZ σ) Q (F0 mid pc ls (st.map (xcv g))) := by
  have m1 := xstep_mono h
  have eN : xsN σ + (xsN f.2.2.2 - xsN σ) = xsN f.2.2.2 := by have := m1.1; omega
  have eZ : xsZ σ + (xsZ f.2.2.2 - xsZ σ) = xsZ f.2.2.2 := by have := m1.2; omega
  refine x_step hm hF hat h hW hS hl hlen hfr hlo (by rw [eN]; exact hc) (by rw [eZ]; exact hz) (fun H' locs' ls' a1 a2 a3 a4 => ?_)
  rw [eN, eZ]
  exact kk H' locs' ls' a1 a2 a3 (by rw [a4]; exact hlen)
theorem x_newN {cm : XM} {ix j po a : Nat} {as rest : List Value} {τ : XS} {r : Option Value} {n : Nat} (hat : xmAt m pc = some (.invokespecial ix, 3)) (h1 : xCal (xmOwn m) ix = some (2, j, po)) (ha : xArg j st = some (cm, .ref a :: as, rest)) (hex : xexec n cm 0 (xIni (.ref a :: as) (xmL cm)) [] σ = some (r, τ)) (hm : m ∈ xMs) (hF : xFix g m p s mid args meth c) (hW : xWd g σ H) (hS : va_S (xA g) s.heap H locs) (hl : xLr g xl ls) (hlen : ls.size = xmL m) (hfr : xmFr m ≤ R.frames) (hlo : xmLo m ≤ R.locals) (hc : xsN τ ≤ R.cells) (hz : xsZ τ ≤ R.slots)
    (kk : ∀ H' locs', xWd g τ H' → va_S (xA g) s.heap H' locs' → W p l e R s mid args below meth c H' locs' (xsN τ) (xsZ τ) Q (F0 mid (pc + 3) ls ((r.map (xcv g)).toList ++ rest.map (xcv g)))) : W p l e R s mid args below meth c H locs (xsN σ) (xsZ σ) Q (F0 mid pc ls (st.map (xcv g))) := by
  have m1 := xexec_mono n hex
  have eN : xsN σ + (xsN τ - xsN σ) = xsN τ := by have := m1.1; omega
  have eZ : xsZ σ + (xsZ τ - xsZ σ) = xsZ τ := by have := m1.2; omega
  obtain ⟨hd, -, hrm⟩ := x_at hm hat
  have hfl := (xArg_inv ha).2.2.2.1
  refine x_callI (τ := τ) (r := r) hm hF h1 ha hrm (fun hcm h13 => x_met hcm h13 hfl (x_run l g n hcm hex)) hW hS hlen hfr hlo (by rw [eN]; exact hc) (by rw [eZ]; exact hz) hd (fun H' locs' a1 a2 => ?_)
  rw [eN, eZ]
  exact kk H' locs' a1 a2
end XLAW
theorem xC1_eq : xC1 = some (none, xσ1) := by
  have h := xC1_ok
  have e : xσ1 = (xC1.getD (none, xNil)).2 := rfl
  rw [e]
  cases hc : xC1 with
  | none => rw [hc] at h; cases h
  | some q =>
    rw [hc] at h
    simp only [Option.map_some, Option.some.injEq, Prod.mk.injEq] at h
    obtain ⟨v, τ⟩ := q
    simp only at h
    rw [h.1]
    rfl
theorem xσ1_1 : xσ1.1 = (400, 7668) := by
  have h := xC1_ok
  rw [xC1_eq] at h
  simp only [Option.map_some, Option.some.injEq, Prod.mk.injEq] at h
  exact h.2
theorem xC2_eq : xC2 = some (none, xσ2) := by
  have h := xC2_ok
  have e : xσ2 = (xC2.getD (none, xNil)).2 := rfl
  rw [e]
  cases hc : xC2 with
  | none => rw [hc] at h; cases h
  | some q =>
    rw [hc] at h
    simp only [Option.map_some, Option.some.injEq, Prod.mk.injEq] at h
    obtain ⟨v, τ⟩ := q
    simp only at h
    rw [h.1]
    rfl
theorem xσ2_1 : xσ2.1 = (435, 13969) := by
  have h := xC2_ok
  rw [xC2_eq] at h
  simp only [Option.map_some, Option.some.injEq, Prod.mk.injEq] at h
  exact h.2
