/-! A RUN OF THE INTERPRETER IS A RUN OF THE MACHINE -/
theorem xAOA.spec {U : State} (h : xAOA U) : ∃ comp c k, U.vm.findClass (FieldType.array .int).toString = some comp ∧ (U.vm.classes.findIdx? fun (x : Class) => match x.kind with | .array component _ => component == comp | _ => false) = some c ∧ U.vm.classes[c]? = some k ∧ k.kind = .array comp (.array .int) ∧ U.vm.findClass ("[" ++ (FieldType.array .int).toString) = some c := by
  unfold xAOA at h
  simp only [Cond.before, Cond.holds, Cond.value, beq_iff_eq] at h
  cases hc : U.vm.findClass (FieldType.array .int).toString with
  | none => simp [hc] at h
  | some comp =>
    simp only [hc, Option.bind_some, Option.bind_eq_some_iff, Option.map_eq_some_iff] at h
    obtain ⟨c, hi, k, hk, hb⟩ := h
    obtain ⟨hlt, hp, -⟩ := Array.findIdx?_eq_some_iff_getElem.mp hi
    have hkk : U.vm.classes[c] = k := (Array.getElem?_eq_some_iff.mp hk).2
    rw [hkk] at hp
    cases hkind : k.kind with
    | array component ty =>
      rw [hkind] at hb hp
      simp at hb hp
      exact ⟨comp, c, k, rfl, hi, hk, by rw [hkind, hp, hb.1], hb.2⟩
    | _ => rw [hkind] at hb; simp at hb
theorem xAOA.moved {u U : State} (hvm : u.vm.Alike U.vm) (h : xAOA u) : xAOA U := by
  obtain ⟨comp, c, k, h1, h2, h3, h4, h5⟩ := h.spec
  obtain ⟨k', hk', he⟩ := hvm.2.2 _ _ h3
  have hi : (U.vm.classes.findIdx? fun (x : Class) => match x.kind with | .array component _ => component == comp | _ => false) = some c := by
    refine (va_idx_bare U.vm comp).symm.trans ?_
    first | rw [hvm.bare_eq] | rw [← hvm.bare_eq]
    exact (va_idx_bare u.vm comp).trans h2
  have hkind : k'.kind = .array comp (.array .int) := by rw [he]; exact h4
  have f1 : U.vm.findClass (FieldType.array .int).toString = some comp := by rw [hvm.findClass]; exact h1
  have f2 : U.vm.findClass ("[" ++ (FieldType.array .int).toString) = some c := by rw [hvm.findClass]; exact h5
  unfold xAOA Cond.before Cond.holds
  simp only [Cond.value]
  rw [f1, Option.bind_some]
  refine (congrArg (fun o : Option Nat => (o.bind (fun c => (U.vm.classes[c]?).map fun (k : Class) => match k.kind with | .array _ ty => decide (ty = FieldType.array .int) && decide (U.vm.findClass ("[" ++ (FieldType.array .int).toString) = some c) | _ => false) == some true)) hi).trans ?_
  simp [hk', hkind, f2]
theorem xOw.moved {g : XG} {u U : State} (hW : u.WarmedH U.vm) (hq : ∀ q : Nat, q < u.heap.size → ¬ xA g q → U.heap[q]? = u.heap[q]?) (hsz : xgB g ≤ u.heap.size) (h : xOw g u) : xOw g U := by
  obtain ⟨h1, h2, h3, h4, h5, h6, h7, h8, h9, h10, h11, h12, h13⟩ := h
  have ha := hW.alike
  refine ⟨va_K.moved ha h1, (va_X.moved ha h2).kept (hq _ (Nat.lt_of_lt_of_le h3 hsz) (Nat.not_le.mpr h3)), h3, fun j a b => ⟨(va_T.moved ha (h4 j a b).1).kept hq, (va_Z.moved ha (h4 j a b).2).kept hq⟩, (va_Z.moved ha h5).kept hq, (va_Z.moved ha h6).kept hq, h7, (vk_S.moved ha h8).kept hq, fun i hi => vk_R.warm hW (h9 i hi), fun e he => va_Nw.warmM hW (h10 e he), fun C hC => va_AO.moved ha (h11 C hC), xAOA.moved ha h12, word_at hW (Or.inr ⟨_, rfl⟩) h13⟩
theorem xis_f {b : Bool} {f f' : XF} (h : xis b f = some f') : f' = f := (xis_inv h).2.symm
def xMono (σ τ : XS) : Prop := xsN σ ≤ xsN τ ∧ xsZ σ ≤ xsZ τ
theorem xMono.rf (σ : XS) : xMono σ σ := ⟨Nat.le_refl _, Nat.le_refl _⟩
theorem xMono.new {σ : XS} {a b c : Nat} : xMono σ (xNew σ a b c) := ⟨Nat.le_add_right _ _, Nat.le_add_right _ _⟩
theorem xMono.grid {σ : XS} {a b : Nat} : xMono σ (xGrid σ a b) := ⟨by show xsN σ ≤ xsN σ + 1 + a; omega, by show xsZ σ ≤ xsZ σ + a + a * b; omega⟩
set_option maxHeartbeats 4000000 in
theorem xstep_mono {m : XM} {pc len : Nat} {ins : Instr} {xl st : List Value} {σ : XS} {f : XF} (h : xstep m pc ins len xl st σ = some f) : xMono σ f.2.2.2 := by
  cases ins
  all_goals first
    | (cases h; done)
    | (cases h; exact xMono.rf _)
    | (obtain ⟨x, r, rfl, h⟩ := xo1_inv h; cases h; exact xMono.rf _)
    | (obtain ⟨x, y, r, rfl, h⟩ := xo2_inv h; cases h; exact xMono.rf _)
    | (obtain ⟨x, y, r, rfl, h⟩ := xl2_inv h; cases h; exact xMono.rf _)
    | (obtain ⟨x, y, r, rfl, h⟩ := xo2_inv h; rw [xis_f h]; exact xMono.rf _)
    | (obtain ⟨a, i, r, rfl, h⟩ := xra_inv h; rw [xis_f h]; exact xMono.rf _)
    | (obtain ⟨a, i, x, r, rfl, h⟩ := xrs_inv h; rw [xis_f h]; exact xMono.rf _)
    | (obtain ⟨a, i, x, r, rfl, h⟩ := xrq_inv h; rw [xis_f h]; exact xMono.rf _)
    | (obtain ⟨a, r, rfl, h⟩ := xr1_inv h; rw [xis_f h]; exact xMono.rf _)
    | (obtain ⟨t, ht, rfl⟩ := xsw_inv h; exact xMono.rf _)
    | (obtain ⟨x, r, rfl, h⟩ := xo1_inv h; obtain ⟨t, ht, rfl⟩ := xbr_inv h; exact xMono.rf _)
    | (obtain ⟨x, y, r, rfl, h⟩ := xo2_inv h; obtain ⟨t, ht, rfl⟩ := xbr_inv h; exact xMono.rf _)
    | (obtain ⟨x, r, xl', rfl, h1, rfl⟩ := x_stI h; exact xMono.rf _)
    | (obtain ⟨x, r, xl', rfl, h1, rfl⟩ := x_stA h; exact xMono.rf _)
    | (obtain ⟨x, r, xl', rfl, h1, rfl⟩ := x_stL h; exact xMono.rf _)
    | skip
  all_goals try unfold xstep at h
  all_goals try unfold xldI at h
  all_goals try unfold xldL at h
  all_goals try unfold xldA at h
  all_goals try unfold xPf at h
  all_goals try unfold xo1 at h
  all_goals try unfold xo2 at h
  all_goals try unfold xr1 at h
  all_goals try unfold xrs at h
  all_goals try unfold xcp at h
  all_goals try simp only [Option.map_eq_some_iff] at h
  all_goals repeat' split at h
  all_goals first
    | (cases h; done)
    | (cases h; exact xMono.rf _)
    | (rw [xis_f h]; exact xMono.rf _)
    | (rw [xis_f h]; exact xMono.new)
    | (rw [xis_f h]; exact xMono.grid)
    | (obtain ⟨t, ht, rfl⟩ := xsw_inv h; exact xMono.rf _)
    | (obtain ⟨z, -, rfl⟩ := h; exact xMono.rf _)
    | (obtain ⟨z, -, rfl⟩ := Option.map_eq_some_iff.mp h; exact xMono.rf _)
theorem xexec_mono : ∀ (n : Nat) {m : XM} {pc : Nat} {xl st : List Value} {σ τ : XS} {r : Option Value}, xexec n m pc xl st σ = some (r, τ) → xMono σ τ
  | 0, m, pc, xl, st, σ, τ, r, h => by cases h
  | n + 1, m, pc, xl, st, σ, τ, r, h => by
    unfold xexec at h
    cases hat : xmAt m pc with
    | none => simp only [hat] at h; cases h
    | some q =>
      obtain ⟨ins, len⟩ := q
      simp only [hat] at h
      cases hcl : xCall m ins st σ with
      | some q =>
        obtain ⟨cm, as, rest⟩ := q
        simp only [hcl] at h
        cases hce : xexec n cm 0 (xIni as (xmL cm)) [] σ with
        | none => simp only [hce] at h; cases h
        | some q =>
          obtain ⟨v, σ1⟩ := q
          simp only [hce] at h
          have h1 := xexec_mono n hce
          have h2 := xexec_mono n h
          exact ⟨Nat.le_trans h1.1 h2.1, Nat.le_trans h1.2 h2.2⟩
      | none =>
        simp only [hcl] at h
        cases hrt : xRet m ins st with
        | some v =>
          simp only [hrt] at h
          cases h
          exact xMono.rf _
        | none =>
          simp only [hrt] at h
          cases hst : xstep m pc ins len xl st σ with
          | none => simp only [hst] at h; cases h
          | some f =>
            obtain ⟨pc', xl', st', σ'⟩ := f
            simp only [hst] at h
            have h1 := xstep_mono hst
            have h2 := xexec_mono n h
            exact ⟨Nat.le_trans h1.1 h2.1, Nat.le_trans h1.2 h2.2⟩
