/-- THE INTERPRETER IS SOUND -/
theorem x_run (l : Launch) (g : XG) : ∀ (n : Nat) {m : XM} (hm : m ∈ xMs) {pc : Nat} {xl st : List Value} {σ τ : XS} {r : Option Value}, xexec n m pc xl st σ = some (r, τ) → xRuns l g m pc xl st σ r τ
  | 0, m, hm, pc, xl, st, σ, τ, r, h => by cases h
  | n + 1, m, hm, pc, xl, st, σ, τ, r, h => by
    intro p e R s mid args below meth c H locs cells slots Q ls hF hW hS hl hlen hfr hlo hc hz hret
    unfold xexec at h
    cases hat : xmAt m pc with
    | none => simp only [hat] at h; cases h
    | some q =>
      obtain ⟨ins, len⟩ := q
      simp only [hat] at h
      obtain ⟨hd, hln, hrm⟩ := x_at hm hat
      cases hcl : xCall m ins st σ with
      | some q =>
        obtain ⟨cm, as, rest⟩ := q
        simp only [hcl] at h
        cases hce : xexec n cm 0 (xIni as (xmL cm)) [] σ with
        | none => simp only [hce] at h; cases h
        | some q =>
          obtain ⟨v, σ1⟩ := q
          simp only [hce] at h
          have m1 := xexec_mono n hce
          have m2 := xexec_mono n h
          have eN : (xsN σ1 - xsN σ) + (xsN τ - xsN σ1) = xsN τ - xsN σ := by have := m1.1; have := m2.1; omega
          have eZ : (xsZ σ1 - xsZ σ) + (xsZ τ - xsZ σ1) = xsZ τ - xsZ σ := by have := m1.2; have := m2.2; omega
          have kk : len = 3 → ∀ (H1 : Heap) (locs1 : List Loc), xWd g σ1 H1 → va_S (xA g) s.heap H1 locs1 → W p l e R s mid args below meth c H1 locs1 (cells + (xsN σ1 - xsN σ)) (slots + (xsZ σ1 - xsZ σ)) Q (F0 mid (pc + 3) ls ((v.map (xcv g)).toList ++ rest.map (xcv g))) := fun e3 H1 locs1 a1 a2 => by
            subst e3
            have h9 := x_run l g n hm h p e R s mid args below meth c H1 locs1 (cells + (xsN σ1 - xsN σ)) (slots + (xsZ σ1 - xsZ σ)) Q ls hF a1 a2 hl hlen hfr hlo (by rw [Nat.add_assoc, eN]; exact hc) (by rw [Nat.add_assoc, eZ]; exact hz) (fun pc' ls' H' locs' ins' len' st' b1 b2 b3 b4 => by
              rw [Nat.add_assoc, Nat.add_assoc, eN, eZ]
              exact hret pc' ls' H' locs' ins' len' st' b1 b2 b3 b4)
            have e9 : (v.toList ++ rest).map (xcv g) = (v.map (xcv g)).toList ++ rest.map (xcv g) := by
              rw [List.map_append]
              cases v <;> rfl
            rw [e9] at h9
            exact h9
          have hc1 : cells + (xsN σ1 - xsN σ) ≤ R.cells := by omega
          have hz1 : slots + (xsZ σ1 - xsZ σ) ≤ R.slots := by omega
          have hmet : (xfl as).length ≤ xmL cm → ∀ (hcm : cm ∈ xMs) (h13 : xmOwn cm ≠ 13), Met l (xmY cm) (Cond.code (xmY cm) (xmC cm) (xmL cm) (xmRet cm) :: xw) { frames := xmFr cm, cells := xsN σ1 - xsN σ, slots := xsZ σ1 - xsZ σ, locals := xmLo cm } (xPc g as σ) (xQc g v σ1) (xsN σ1 - xsN σ) (xsZ σ1 - xsZ σ) (xA g) := fun hfl hcm h13 => x_met hcm h13 hfl (x_run l g n hcm hce)
          cases ins
          case invokestatic ix =>
            have e1 : len = 3 := hln.resolve_left (by simp [xLen])
            unfold xCall at hcl
            cases h1 : xCal (xmOwn m) ix with
            | none => simp only [h1] at hcl; cases hcl
            | some q =>
              obtain ⟨k, j, po⟩ := q
              simp only [h1] at hcl
              split at hcl
              · rename_i hk
                have hfl := (xArg_inv hcl).2.2.2.1
                subst e1
                rcases hk with hk | hk
                · subst hk
                  exact x_callS hm hF h1 hcl hrm (hmet hfl) hW hS hlen hfr hlo hc1 hz1 hd (kk rfl)
                · subst hk
                  exact x_callN hm hF h1 hcl hrm (hmet hfl) hW hS hlen hfr hlo hc1 hz1 hd (kk rfl)
              · cases hcl
          case invokespecial ix =>
            have e1 : len = 3 := hln.resolve_left (by simp [xLen])
            unfold xCall at hcl
            cases h1 : xCal (xmOwn m) ix with
            | none => simp only [h1] at hcl; cases hcl
            | some q =>
              obtain ⟨k, j, po⟩ := q
              simp only [h1] at hcl
              split at hcl
              · rename_i hk
                subst hk
                split at hcl
                · rename_i hca
                  cases hcl
                  have hfl := (xArg_inv hca).2.2.2.1
                  subst e1
                  exact x_callI hm hF h1 hca hrm (hmet hfl) hW hS hlen hfr hlo hc1 hz1 hd (kk rfl)
                · cases hcl
              · cases hcl
          case invokevirtual ix =>
            have e1 : len = 3 := hln.resolve_left (by simp [xLen])
            unfold xCall at hcl
            cases h1 : xCal (xmOwn m) ix with
            | none => simp only [h1] at hcl; cases hcl
            | some q =>
              obtain ⟨k, j, po⟩ := q
              simp only [h1] at hcl
              split at hcl
              · rename_i hk
                subst hk
                split at hcl
                · rename_i hca
                  split at hcl
                  · rename_i hko
                    cases hcl
                    have hfl := (xArg_inv hca).2.2.2.1
                    subst e1
                    exact x_callV hm hF h1 hca hko hrm (hmet hfl) hW hS hlen hfr hlo hc1 hz1 hd (kk rfl)
                  · cases hcl
                · cases hcl
              · cases hcl
          all_goals cases hcl
      | none =>
        simp only [hcl] at h
        cases hrt : xRet m ins st with
        | some v =>
          simp only [hrt] at h
          cases h
          have h9 := hret pc ls H locs ins len st hat hrt hW hS
          rw [Nat.sub_self, Nat.sub_self] at h9
          exact h9
        | none =>
          simp only [hrt] at h
          cases hst : xstep m pc ins len xl st σ with
          | none => simp only [hst] at h; cases h
          | some f =>
            obtain ⟨pc', xl', st', σ'⟩ := f
            simp only [hst] at h
            have m1 := xstep_mono hst
            have m2 := xexec_mono n h
            have m1a : xsN σ ≤ xsN σ' := m1.1
            have m1b : xsZ σ ≤ xsZ σ' := m1.2
            have eN : (xsN σ' - xsN σ) + (xsN τ - xsN σ') = xsN τ - xsN σ := by have := m2.1; omega
            have eZ : (xsZ σ' - xsZ σ) + (xsZ τ - xsZ σ') = xsZ τ - xsZ σ := by have := m2.2; omega
            refine x_step hm hF hat hst hW hS hl hlen hfr hlo (by show cells + (xsN σ' - xsN σ) ≤ _; omega) (by show slots + (xsZ σ' - xsZ σ) ≤ _; omega) (fun H' locs' ls' a1 a2 a3 a4 => ?_)
            exact x_run l g n hm h p e R s mid args below meth c H' locs' (cells + (xsN σ' - xsN σ)) (slots + (xsZ σ' - xsZ σ)) Q ls' hF a1 a2 a3 (by rw [a4]; exact hlen) hfr hlo (by rw [Nat.add_assoc, eN]; exact hc) (by rw [Nat.add_assoc, eZ]; exact hz) (fun pc2 ls2 H2 locs2 ins2 len2 st2 b1 b2 b3 b4 => by
              rw [Nat.add_assoc, Nat.add_assoc, eN, eZ]
              exact hret pc2 ls2 H2 locs2 ins2 len2 st2 b1 b2 b3 b4)
