def xTyK (k : Nat) : FieldType := match k with
  | 20 => .int
  | 21 => .byte
  | 22 => .boolean
  | 23 => .object "ThreePhases$Merged"
  | 24 => .object "ThreePhases$Member"
  | 25 => .object "ThreePhases$Told"
  | 26 => .object "ThreePhases$Council"
  | 27 => .object "ThreePhases$Run"
  | 28 => .object "ThreePhases$Replies"
  | _ => .array .int
theorem x_arrP {args : Array Value} {s : State} {ty : FieldType} (hra : ∀ cA, va_RA s cA ty = (s.vm.findClass ("[" ++ ty.toString) = some cA)) (h : (Cond.arrayClass ty).before args s = true) : ∃ cA, ArrOfT s cA ty ∧ va_RA s cA ty := by
  obtain ⟨cA, kA, comp, h1, h2, h3⟩ := Cond.arrayClass_spec h
  refine ⟨cA, fun n z => ⟨fun k h => (by cases h), kA, h2, comp, h3⟩, ?_⟩
  rw [hra]
  exact h1
theorem x_arrO {s : State} {C : String} (h : va_AO C s) : ∃ cA, ArrOfT s cA (.object C) ∧ va_RA s cA (.object C) := by
  obtain ⟨comp, c, k, h1, h2, h3, h4, h5⟩ := Cond.arrayOver_spec h
  exact ⟨c, fun n z => ⟨fun k h => (by cases h), k, h3, comp, h4⟩, k, comp, h3, h4, h1, h5⟩
theorem x_arrA {s : State} (h : xAOA s) : ∃ cA, ArrOfT s cA (.array .int) ∧ va_RA s cA (.array .int) := by
  obtain ⟨comp, c, k, h1, h2, h3, h4, h5⟩ := h.spec
  exact ⟨c, fun n z => ⟨fun k h => (by cases h), k, h3, comp, h4⟩, h5⟩
theorem x_env {s : State} {b L : Nat} {xs : Nat → Int32} (hts : ∀ w ∈ lw_tbl, w.before #[Value.ref b] s = true) (hX : va_X b L xs s s.heap) (hbl : b < s.heap.size) (hgv : (Jvm.Cond.and given_1 narrow_1).before #[Value.ref b] s = true) : ∃ g : XG, xOw g s ∧ xgB g = s.heap.size ∧ xgO g 0 = b ∧ xgL g = L ∧ xgX g = xs := by
  have hfl := flat_of_before _ hgv
  have hF : ∀ {i : Nat} {w : Cond}, xFl[i]? = some w → w.before #[Value.ref b] s = true := fun h => hfl _ (List.mem_of_getElem? h)
  have hT : ∀ {i : Nat} {w : Cond}, lw_tbl[i]? = some w → w.before #[Value.ref b] s = true := fun h => hts _ (List.mem_of_getElem? h)
  have hxw : ∀ w ∈ xw, w.before #[Value.ref b] s = true := fun w h => hts w (xw_good w h).1
  have hA : ∀ a : Nat, a < s.heap.size → ¬ (fun q : Nat => s.heap.size ≤ q) a := fun a h z => Nat.not_le.mpr h z
  -- classes
  have hcl : ∀ ci : Nat, ∃ q : ClassId × (Nat → Nat), ci < 13 → u_Kn s (xR ci) (xT ci) (xNf ci) q.1 q.2 := fun ci => by
    by_cases h : ci < 13
    · obtain ⟨cC, iS, hk⟩ := u_known (N := xNf ci) hxw (xin h) (hT (xNew_ok ci h).1)
      exact ⟨(cC, iS), fun _ => hk⟩
    · exact ⟨(0, fun _ => 0), fun z => absurd z h⟩
  obtain ⟨dq, hdq⟩ := Classical.axiomOfChoice hcl
  -- words on arrays
  have hao : ∀ C ∈ xAos, va_AO C s := fun C hC => by
    obtain ⟨k, hk⟩ := List.getElem?_of_mem hC
    have hk6 : k < 6 := (List.getElem?_eq_some_iff.mp hk).1
    have h9 := xe_ao k hk6
    rw [hk] at h9
    exact va_AO.of (hT h9)
  have haoa : xAOA s := hT xe_aoa
  have har : ∀ k : Nat, ∃ cA : ClassId, 20 ≤ k → k ≤ 29 → ArrOfT s cA (xTyK k) ∧ va_RA s cA (xTyK k) := fun k => by
    by_cases h : 20 ≤ k ∧ k ≤ 29
    · have hk : k = 20 ∨ k = 21 ∨ k = 22 ∨ k = 23 ∨ k = 24 ∨ k = 25 ∨ k = 26 ∨ k = 27 ∨ k = 28 ∨ k = 29 := by omega
      have key : ∃ cA, ArrOfT s cA (xTyK k) ∧ va_RA s cA (xTyK k) := by
        rcases hk with h | h | h | h | h | h | h | h | h | h
        · subst h; exact x_arrP (fun _ => rfl) (hxw _ xArr_ok.1)
        · subst h; exact x_arrP (fun _ => rfl) (hxw _ xArr_ok.2.1)
        · subst h; exact x_arrP (fun _ => rfl) (hxw _ xArr_ok.2.2)
        · subst h; exact x_arrO (hao _ (by decide +kernel))
        · subst h; exact x_arrO (hao _ (by decide +kernel))
        · subst h; exact x_arrO (hao _ (by decide +kernel))
        · subst h; exact x_arrO (hao _ (by decide +kernel))
        · subst h; exact x_arrO (hao _ (by decide +kernel))
        · subst h; exact x_arrO (hao _ (by decide +kernel))
        · subst h; exact x_arrA haoa
      obtain ⟨cA, h9⟩ := key
      exact ⟨cA, fun _ _ => h9⟩
    · exact ⟨0, fun h1 h2 => absurd ⟨h1, h2⟩ h⟩
  obtain ⟨cA, hcA⟩ := Classical.axiomOfChoice har
  -- the reader's tables
  have htb : ∀ j : Nat, ∃ t : Nat, 1 ≤ j → j ≤ 4 → va_T .int t (xTab.getD j []).length (fun i => .int ((xTab.getD j []).getD i 0)) (fun q : Nat => s.heap.size ≤ q) s s.heap ∧ va_Z "ThreePhases$Reader" (xTabN.getD j "") "[I" (.ref t) (fun q : Nat => s.heap.size ≤ q) s s.heap := fun j => by
    by_cases h : 1 ≤ j ∧ j ≤ 4
    · obtain ⟨w1, w2, w3⟩ := xe_tab j (by omega) h.1
      have hlen : (xTab.getD j []).length < 2 ^ 31 := by
        have : j = 1 ∨ j = 2 ∨ j = 3 ∨ j = 4 := by omega
        rcases this with h | h | h | h <;> (subst h; decide +kernel)
      obtain ⟨t, ht, hT9⟩ := va_Tof (f := fun i => .int ((xTab.getD j []).getD i 0)) (A := fun q : Nat => s.heap.size ≤ q) hlen (hF w1) (va_eqt (hF w2)) (fun i hi => va_eqt (hF (w3 i hi))) hA
      exact ⟨t, fun _ _ => ⟨hT9, va_Zref (hT (xe_ls j (by omega) h.1)) (hT xe_one.2.2.2.2.1) ht hA⟩⟩
    · exact ⟨0, fun h1 h2 => absurd ⟨h1, h2⟩ h⟩
  obtain ⟨tj, htj⟩ := Classical.axiomOfChoice htb
  -- the formatter
  have hfm : ∃ v : Value, va_Z "jdk/internal/util/Preconditions" "SIOOBE_FORMATTER" "Ljava/util/function/BiFunction;" v (fun q : Nat => s.heap.size ≤ q) s s.heap ∧ (v = .null ∨ ∃ t, v = .ref t) := by
    rcases va_Zqof (A := fun q : Nat => s.heap.size ≤ q) (hT xe_one.2.2.2.1) (hT xe_one.2.2.2.2.2.2) (hF xe_one.2.1) hA with h | ⟨t, h⟩
    · exact ⟨_, h, Or.inl rfl⟩
    · exact ⟨_, h, Or.inr ⟨t, rfl⟩⟩
  obtain ⟨vF, hvF, hvF2⟩ := hfm
  -- the texts
  obtain ⟨adK, adV, hK, hev⟩ := vk_Sof (N := 17) (tm := xTm) (len := xTl) (byt := xTb) (A := fun q : Nat => s.heap.size ≤ q) (by decide +kernel) (fun i hi => hF (xe_str i hi).1) (fun i hi => hF (xe_str i hi).2.1) (fun i hi => hF (xe_str i hi).2.2.1) (fun i hi => hF (xe_str i hi).2.2.2.1) (fun i hi j hj => hF ((xe_str i hi).2.2.2.2 j hj)) (fun i j hi hj hne => by
    rcases Nat.lt_or_ge i j with q | q
    · exact Or.inl (hF (xe_ne j hj i q))
    · exact Or.inr (hF (xe_ne i hi j (by omega)))) hA
  obtain ⟨O, hO⟩ : ∃ O : Nat → Nat, O = fun j => if j = 0 then b else if j < 5 then tj j else if j < 30 then adK (j - 10) else adV (j - 30) := ⟨_, rfl⟩
  have o0 : O 0 = b := by rw [hO]; rfl
  have o1 : ∀ j, 1 ≤ j → j ≤ 4 → O j = tj j := fun j h1 h2 => by rw [hO]; show (if j = 0 then b else _) = _; rw [if_neg (by omega), if_pos (by omega)]
  have o2 : ∀ i, i < 17 → O (10 + i) = adK i := fun i h => by rw [hO]; show (if 10 + i = 0 then b else _) = _; rw [if_neg (by omega), if_neg (by omega), if_pos (by omega), Nat.add_sub_cancel_left]
  have o3 : ∀ i, i < 17 → O (30 + i) = adV i := fun i h => by rw [hO]; show (if 30 + i = 0 then b else _) = _; rw [if_neg (by omega), if_neg (by omega), if_neg (by omega), Nat.add_sub_cancel_left]
  refine ⟨(s.heap.size, ((fun ci => (dq ci).1), (fun ci => (dq ci).2)), cA, O, (L, xs), vF), ⟨⟨fun ci q hq => ?_, fun k q hq => ?_⟩, by show va_X (O 0) L xs s s.heap; rw [o0]; exact hX, by show O 0 < _; rw [o0]; exact hbl, fun j h1 h2 => by
    show va_T .int (O j) _ _ _ s s.heap ∧ va_Z _ _ _ (.ref (O j)) _ s s.heap
    rw [o1 j h1 h2]
    exact htj j h1 h2, va_Zof (hT xe_one.2.2.1) (hT xe_one.2.2.2.2.2.1) (va_eqi (hF xe_one.1)) hA, hvF, hvF2, ⟨fun i hi => ?_, fun i j hi hj e => hK.2 i j hi hj ?_⟩, fun i hi => ?_, fun e he => ?_, hao, haoa, hxw _ xArr_ok.1⟩, rfl, o0, rfl, rfl⟩
  · have h13 : ci < 13 := (List.getElem?_eq_some_iff.mp hq).1
    rw [xCl_get ci h13] at hq
    cases hq
    exact hdq ci h13
  · have h10 : k < 10 := (List.getElem?_eq_some_iff.mp hq).1
    have hk : k = 0 ∨ k = 1 ∨ k = 2 ∨ k = 3 ∨ k = 4 ∨ k = 5 ∨ k = 6 ∨ k = 7 ∨ k = 8 ∨ k = 9 := by omega
    rcases hk with h | h | h | h | h | h | h | h | h | h
    · subst h; cases hq; exact hcA 20 (by decide) (by decide)
    · subst h; cases hq; exact hcA 21 (by decide) (by decide)
    · subst h; cases hq; exact hcA 22 (by decide) (by decide)
    · subst h; cases hq; exact hcA 23 (by decide) (by decide)
    · subst h; cases hq; exact hcA 24 (by decide) (by decide)
    · subst h; cases hq; exact hcA 25 (by decide) (by decide)
    · subst h; cases hq; exact hcA 26 (by decide) (by decide)
    · subst h; cases hq; exact hcA 27 (by decide) (by decide)
    · subst h; cases hq; exact hcA 28 (by decide) (by decide)
    · subst h; cases hq; exact hcA 29 (by decide) (by decide)
  · have h9 := hK.1 i hi
    rw [← o2 i hi, ← o3 i hi] at h9
    exact h9
  · have e : O (10 + i) = O (10 + j) := e
    rw [o2 i hi, o2 j hj] at e
    exact e
  · have h9 := hev i hi
    rw [← o2 i hi] at h9
    exact vk_R.of (hT (xe_ref i hi)) h9
  · obtain ⟨k, hk⟩ := List.getElem?_of_mem he
    have hk9 : k < 9 := (List.getElem?_eq_some_iff.mp hk).1
    have h9 := xe_nest k hk9
    rw [hk] at h9
    exact va_Nw.of rfl (hT h9)
