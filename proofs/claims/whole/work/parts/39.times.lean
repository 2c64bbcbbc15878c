/-! PLAY, the minutes: 1000000 is never -/
def addT (t d : Nat) : Nat := if 1000000 ≤ t then 1000000 else t + d
def kth (r : Nat → Nat) (n k : Nat) : Nat → Nat
  | 0 => 1000000
  | a + 1 => if k ≤ cntW (fun b => r b ≤ r a) n then min (kth r n k a) (r a) else kth r n k a
theorem kth_s (r : Nat → Nat) (n k a : Nat) : kth r n k (a + 1) = if k ≤ cntW (fun b => r b ≤ r a) n then min (kth r n k a) (r a) else kth r n k a := rfl
abbrev kt (r : Nat → Nat) (n k : Nat) : Nat := kth r n k n
theorem kth_le {r : Nat → Nat} {n k x : Nat} : ∀ a, kth r n k a ≤ x ↔ 1000000 ≤ x ∨ ∃ i, i < a ∧ k ≤ cntW (fun b => r b ≤ r i) n ∧ r i ≤ x
  | 0 => ⟨fun h => Or.inl h, fun h => h.elim id fun ⟨i, hi, _⟩ => absurd hi (by omega)⟩
  | a + 1 => by
    have ih := kth_le (r := r) (n := n) (k := k) (x := x) a
    rw [kth_s]
    by_cases t : k ≤ cntW (fun b => r b ≤ r a) n
    · rw [if_pos t]
      constructor
      · intro h
        by_cases u : kth r n k a ≤ x
        · rcases ih.mp u with v | ⟨i, hi, v⟩
          · exact Or.inl v
          · exact Or.inr ⟨i, by omega, v⟩
        · exact Or.inr ⟨a, by omega, t, by omega⟩
      · rintro (v | ⟨i, hi, v1, v2⟩)
        · have := ih.mpr (Or.inl v); omega
        · by_cases e : i = a
          · subst e; omega
          · have := ih.mpr (Or.inr ⟨i, by omega, v1, v2⟩); omega
    · rw [if_neg t, ih]
      constructor
      · rintro (v | ⟨i, hi, v⟩)
        · exact Or.inl v
        · exact Or.inr ⟨i, by omega, v⟩
      · rintro (v | ⟨i, hi, v1, v2⟩)
        · exact Or.inl v
        · by_cases e : i = a
          · subst e; exact absurd v1 t
          · exact Or.inr ⟨i, by omega, v1, v2⟩
theorem cnt_le {p q : Nat → Prop} [DecidablePred p] [DecidablePred q] : ∀ n, (∀ k, k < n → p k → q k) → cntW p n ≤ cntW q n
  | 0, _ => Nat.le_refl _
  | n + 1, h => by
    have := cnt_le (p := p) (q := q) n fun k hk => h k (by omega)
    rw [cntW_s, cntW_s]
    by_cases t : p n
    · rw [if_pos t, if_pos (h n (by omega) t)]; omega
    · rw [if_neg t]
      split <;> omega
theorem amax {r : Nat → Nat} {x : Nat} : ∀ n, (∃ i, i < n ∧ r i ≤ x) → ∃ i, i < n ∧ r i ≤ x ∧ ∀ b, b < n → r b ≤ x → r b ≤ r i
  | 0, ⟨i, hi, _⟩ => absurd hi (by omega)
  | n + 1, ⟨i, hi, h⟩ => by
    by_cases t : ∃ i, i < n ∧ r i ≤ x
    · obtain ⟨j, hj, h1, h2⟩ := amax n t
      by_cases u : r n ≤ x ∧ r j < r n
      · refine ⟨n, by omega, u.1, fun b hb hx => ?_⟩
        by_cases e : b = n
        · rw [e]; omega
        · have := h2 b (by omega) hx; omega
      · refine ⟨j, by omega, h1, fun b hb hx => ?_⟩
        by_cases e : b = n
        · subst e; omega
        · exact h2 b (by omega) hx
    · refine ⟨n, by omega, ?_, fun b hb hx => ?_⟩
      · by_cases e : i = n
        · rw [← e]; exact h
        · exact absurd ⟨i, by omega, h⟩ t
      · by_cases e : b = n
        · rw [e]; omega
        · exact absurd ⟨b, by omega, hx⟩ t
theorem kt_le {r : Nat → Nat} {n k x : Nat} (hk : 1 ≤ k) : kt r n k ≤ x ↔ 1000000 ≤ x ∨ k ≤ cntW (fun b => r b ≤ x) n := by
  rw [kth_le]
  constructor
  · rintro (v | ⟨i, hi, v1, v2⟩)
    · exact Or.inl v
    · refine Or.inr (Nat.le_trans v1 (cnt_le n fun b _ h => ?_))
      show r b ≤ x
      have : r b ≤ r i := h
      omega
  · rintro (v | v)
    · exact Or.inl v
    · have : ∃ i, i < n ∧ r i ≤ x := Classical.byContradiction fun z => by
        rw [cnt0 _ n fun i hi h => z ⟨i, hi, h⟩] at v
        omega
      obtain ⟨i, hi, h1, h2⟩ := amax n this
      exact Or.inr ⟨i, hi, Nat.le_trans v (cnt_le n fun b hb h => h2 b hb h), h1⟩
theorem eq_of_le {a b : Nat} (h : ∀ x, a ≤ x ↔ b ≤ x) : a = b := Nat.le_antisymm ((h b).mpr (Nat.le_refl _)) ((h a).mp (Nat.le_refl _))
theorem kt_inf (r : Nat → Nat) (n k : Nat) : kt r n k ≤ 1000000 := (kth_le n).mpr (Or.inl (Nat.le_refl _))
/-- never's rows may be longer, and later -/
theorem kt_cap {r q : Nat → Nat} {n m k : Nat} (hk : 1 ≤ k) (hm : m ≤ n) (h1 : ∀ b, b < m → r b = q b ∨ (1000000 ≤ r b ∧ 1000000 ≤ q b)) (h2 : ∀ b, m ≤ b → b < n → 1000000 ≤ r b) : kt r n k = kt q m k := eq_of_le fun x => by
  rw [kt_le hk, kt_le hk]
  by_cases t : 1000000 ≤ x
  · exact ⟨fun _ => Or.inl t, fun _ => Or.inl t⟩
  · have : cntW (fun b => r b ≤ x) n = cntW (fun b => q b ≤ x) m := by
      have e1 : cntW (fun b => r b ≤ x) n = cntW (fun b => b < m ∧ q b ≤ x) n := cntW_congr n fun b hb => by
        by_cases u : b < m
        · rcases h1 b u with v | v
          · rw [v]; exact ⟨fun z => ⟨u, z⟩, fun z => z.2⟩
          · exact ⟨fun z => absurd z (by omega), fun z => absurd z.2 (by omega)⟩
        · exact ⟨fun z => absurd z (by have := h2 b (by omega) hb; omega), fun z => absurd z.1 u⟩
      have e2 := cnt_up (fun b => b < m ∧ q b ≤ x) m (n - m) fun b hb z => absurd z.1 (by omega)
      rw [show m + (n - m) = n by omega] at e2
      rw [e1, e2]
      exact cntW_congr m fun b hb => ⟨fun z => z.2, fun z => ⟨hb, z⟩⟩
    rw [this]
/-- 0's word, which all wait for, may come at any time up to one's own -/
theorem kt_swap {r q : Nat → Nat} {n k a : Nat} (hk : 1 ≤ k) (h0 : r 0 ≤ a) (h1 : q 0 = a) (h : ∀ b, b < n → ¬ b = 0 → r b = q b) : max a (kt r n k) = max a (kt q n k) := eq_of_le fun x => by
  rw [Nat.max_le, Nat.max_le, kt_le hk, kt_le hk]
  refine and_congr_right fun ha => ?_
  have : cntW (fun b => r b ≤ x) n = cntW (fun b => q b ≤ x) n := cntW_congr n fun b hb => by
    by_cases e : b = 0
    · subst e
      exact ⟨fun _ => by omega, fun _ => by omega⟩
    · rw [h b hb e]
  rw [this]
theorem kt_bt {r : Nat → Nat} {n k hi : Nat} (h : ∀ b, b < n → r b ≤ hi ∨ 1000000 ≤ r b) : kt r n k ≤ hi ∨ kt r n k = 1000000 := by
  have hx := kt_inf r n k
  by_cases t : 1000000 ≤ kt r n k
  · exact Or.inr (by omega)
  · have := (kth_le (r := r) (n := n) (k := k) (x := kt r n k) n).mp (Nat.le_refl _)
    rcases this with v | ⟨i, hi', v1, v2⟩
    · exact absurd v t
    · rcases h i hi' with u | u
      · left
        have := (kth_le (r := r) (n := n) (k := k) (x := r i) n).mpr (Or.inr ⟨i, hi', v1, Nat.le_refl _⟩)
        exact Nat.le_trans this u
      · omega
def mnT (C : Nat → Nat) (a : Nat) : Nat → Nat
  | 0 => 1000000
  | n + 1 => min (mnT C a n) (C (a + n))
theorem mnT_s (C : Nat → Nat) (a n : Nat) : mnT C a (n + 1) = min (mnT C a n) (C (a + n)) := rfl
def low (C : Nat → Nat) (p b : Nat) : Nat := if p = 0 then 0 else mnT C p (b - p)
theorem mnT_inf (C : Nat → Nat) (a : Nat) : ∀ n, mnT C a n ≤ 1000000
  | 0 => Nat.le_refl _
  | n + 1 => by have := mnT_inf C a n; rw [mnT_s]; omega
theorem mnT_up {C : Nat → Nat} {a n : Nat} : ∀ d, (∀ i, n ≤ i → i < n + d → 1000000 ≤ C (a + i)) → mnT C a (n + d) = mnT C a n
  | 0, _ => rfl
  | d + 1, h => by
    rw [← Nat.add_assoc, mnT_s, mnT_up d fun i h1 h2 => h i h1 (by omega)]
    have := h (n + d) (by omega) (by omega)
    have := mnT_inf C a n
    omega
theorem mnT_bt {C : Nat → Nat} {a hi : Nat} : ∀ n, (∀ i, i < n → C (a + i) ≤ hi ∨ C (a + i) = 1000000) → mnT C a n ≤ hi ∨ mnT C a n = 1000000
  | 0, _ => Or.inr rfl
  | n + 1, h => by
    rw [mnT_s]
    have h1 := mnT_bt n fun i hi => h i (by omega)
    have h2 := h n (by omega)
    omega
theorem low_inf (C : Nat → Nat) (p b : Nat) : low C p b ≤ 1000000 := by
  unfold low
  split
  · omega
  · exact mnT_inf _ _ _
theorem low_cut {C : Nat → Nat} {p b c : Nat} (hb : b ≤ c) (h : ∀ s, b ≤ s → s < c → C s = 1000000) : low C p c = low C p b := by
  unfold low
  by_cases t : p = 0
  · rw [if_pos t, if_pos t]
  · rw [if_neg t, if_neg t]
    by_cases u : p ≤ b
    · rw [show c - p = (b - p) + (c - b) by omega]
      exact mnT_up _ fun i h1 h2 => by rw [h (p + i) (by omega) (by omega)]; exact Nat.le_refl _
    · rw [show b - p = 0 by omega]
      have := mnT_up (C := C) (a := p) (n := 0) (c - p) fun i h1 h2 => by rw [h (p + i) (by omega) (by omega)]; exact Nat.le_refl _
      rwa [Nat.zero_add] at this
theorem low_bt {C : Nat → Nat} {p b hi : Nat} (h : ∀ s, p ≤ s → s < b → C s ≤ hi ∨ C s = 1000000) : low C p b ≤ hi ∨ low C p b = 1000000 := by
  unfold low
  split
  · left; omega
  · exact mnT_bt _ fun i h1 => h _ (by omega) (by omega)
abbrev TT : Type := (Nat → Nat → Nat) × (Nat → Nat → Nat) × (Nat → Nat → Nat) × (Nat → Nat → Nat)
def hon (D : CD) (m : Nat) : Bool := decide (m < 3 * dF D + 1) && !(dL D).testBit m
theorem hon_iff {D : CD} {m : Nat} : hon D m = true ↔ m < 3 * dF D + 1 ∧ (dL D).testBit m = false := by
  unfold hon
  simp
/-- when the words of all come to one -/
def wds (D : CD) (X : Nat → Nat → Nat) (m s b : Nat) : Nat := if b = m then X b s else addT (X b s) (dD D b m)
abbrev qth (D : CD) (X : Nat → Nat → Nat) (m s : Nat) : Nat := kt (wds D X m s) (3 * dF D + 1) (2 * dF D + 1)
def sA0 (D : CD) (t : TT) (s : Nat) : Nat := max (max (s - 1) (t.1 0 (s - 1))) (low (t.2.2.2 0) (s - dW D) 11)
def sA (D : CD) (t : TT) (s m : Nat) : Nat := if m = 0 then sA0 D t s else max (addT (sA0 D t s) (dD D 0 m)) (low (t.2.2.2 m) (s - dW D) 11)
def upA (D : CD) (s : Nat) (t : TT) : Nat → Nat → Nat := fun m i => if i = s ∧ hon D m = true then sA D t s m else t.1 m i
def upP (D : CD) (s : Nat) (A P : Nat → Nat → Nat) : Nat → Nat → Nat := fun m i => if i = s ∧ hon D m = true then max (A m s) (qth D A m s) else P m i
def upR (D : CD) (s : Nat) (P R : Nat → Nat → Nat) : Nat → Nat → Nat := fun m i => if i = s ∧ hon D m = true then max (max (P m s) (qth D P m s)) (R m (s - 1)) else R m i
def upC (D : CD) (s : Nat) (R C : Nat → Nat → Nat) : Nat → Nat → Nat := fun m i => if i = s ∧ hon D m = true ∧ s % dS D = 0 then max (R m s) (qth D R m s) else C m i
def ttS (D : CD) (s : Nat) (t : TT) : TT := (upA D s t, upP D s (upA D s t) t.2.1, upR D s (upP D s (upA D s t) t.2.1) t.2.2.1, upC D s (upR D s (upP D s (upA D s t) t.2.1) t.2.2.1) t.2.2.2)
def tt0 : TT := (fun _ s => if s = 0 then 0 else 1000000, fun _ _ => 1000000, fun _ s => if s = 0 then 0 else 1000000, fun _ _ => 1000000)
def ttN (D : CD) : Nat → TT
  | 0 => tt0
  | s + 1 => if s + 1 ≤ dN D then ttS D (s + 1) (ttN D s) else ttN D s
def ttF (D : CD) : TT := if (dL D).testBit 0 = true then tt0 else ttN D 10
/-- a minute: within these, or never -/
def bt (x lo hi : Nat) : Prop := (lo ≤ x ∧ x ≤ hi) ∨ x = 1000000
/-- what holds of the minutes behind s places -/
def wfM (D : CD) (s : Nat) (t : TT) : Prop := (∀ m, t.1 m 0 = 0) ∧ (∀ m, t.2.2.1 m 0 = 0) ∧ (∀ m, t.2.2.2 m 0 = 1000000) ∧ (∀ m i, s < i → t.1 m i = 1000000 ∧ t.2.1 m i = 1000000 ∧ t.2.2.1 m i = 1000000 ∧ t.2.2.2 m i = 1000000) ∧ (∀ m i, hon D m = false → 1 ≤ i → t.1 m i = 1000000 ∧ t.2.1 m i = 1000000 ∧ t.2.2.1 m i = 1000000 ∧ t.2.2.2 m i = 1000000) ∧ ∀ m i, 1 ≤ i → bt (t.1 m i) (i - 1) (36 * (i - 1) + 9) ∧ bt (t.2.1 m i) (i - 1) (36 * (i - 1) + 18) ∧ bt (t.2.2.1 m i) (i - 1) (36 * (i - 1) + 27) ∧ bt (t.2.2.2 m i) (i - 1) (36 * i)
theorem wfM_0 (D : CD) : wfM D 0 tt0 := by
  refine ⟨fun m => rfl, fun m => rfl, fun m => rfl, fun m i hi => ?_, fun m i _ hi => ?_, fun m i hi => ?_⟩
  · exact ⟨if_neg (by omega), rfl, if_neg (by omega), rfl⟩
  · exact ⟨if_neg (by omega), rfl, if_neg (by omega), rfl⟩
  · exact ⟨Or.inr (if_neg (by omega)), Or.inr rfl, Or.inr (if_neg (by omega)), Or.inr rfl⟩
theorem addT_bt {t d lo hi : Nat} (h : bt t lo hi) (hd : d ≤ 9) : bt (addT t d) lo (hi + 9) := by
  unfold addT
  rcases h with h | h
  · by_cases z : 1000000 ≤ t
    · rw [if_pos z]; exact Or.inr rfl
    · rw [if_neg z]; exact Or.inl (by omega)
  · rw [if_pos (by omega)]; exact Or.inr rfl
theorem qth_bt {D : CD} {X : Nat → Nat → Nat} {m s lo hi : Nat} (w : wfC D) (hm : m < 7) (h : ∀ b, bt (X b s) lo hi) : qth D X m s ≤ hi + 9 ∨ qth D X m s = 1000000 := by
  have hF := w.1
  refine kt_bt fun b hb => ?_
  unfold wds
  by_cases e : b = m
  · rw [if_pos e]
    rcases h b with z | z <;> omega
  · rw [if_neg e]
    rcases addT_bt (h b) (w.2.2.2.2.2.2.2 b m (by omega) hm).2 with z | z <;> omega
theorem bt_max {a b lo hi hi' : Nat} (h : bt a lo hi) (h2 : b ≤ hi' ∨ b = 1000000) (hh : hi ≤ hi') (hl : hi' ≤ 400) : bt (max a b) lo hi' := by
  unfold bt at h ⊢
  omega
theorem hon7 {D : CD} {m : Nat} (w : wfC D) (h : hon D m = true) : m < 7 := by
  have := (hon_iff.mp h).1
  have := w.1
  omega
theorem wfM_s {D : CD} {s : Nat} {t : TT} (w : wfC D) (h0 : (dL D).testBit 0 = false) (hs : s + 1 ≤ 10) (h : wfM D s t) : wfM D (s + 1) (ttS D (s + 1) t) := by
  obtain ⟨a0, r0, c0, up, li, b⟩ := h
  have d9 := w.2.2.2.2.2.2.2
  have w2 := w.2.1
  have lb : ∀ m, low (t.2.2.2 m) (s + 1 - dW D) 11 ≤ 36 * s ∨ low (t.2.2.2 m) (s + 1 - dW D) 11 = 1000000 := fun m => by
    refine low_bt fun i h1 h2 => ?_
    by_cases z : s < i
    · exact Or.inr (up m i z).2.2.2
    · by_cases y : i = 0
      · subst y; exact Or.inr (c0 m)
      · rcases (b m i (by omega)).2.2.2 with z | z <;> omega
  have e0 : s + 1 - 1 = s := rfl
  have bA0 : bt (sA0 D t (s + 1)) s (36 * s) := by
    unfold sA0
    rw [e0]
    have h1 : bt (max s (t.1 0 s)) s (36 * s) := by
      by_cases y : s = 0
      · subst y; rw [a0]; exact Or.inl ⟨by omega, by omega⟩
      · rcases (b 0 s (by omega)).1 with z | z
        · exact Or.inl (by omega)
        · exact Or.inr (by omega)
    exact bt_max h1 (lb 0) (by omega) (by omega)
  have bA : ∀ m, hon D m = true → bt (sA D t (s + 1) m) s (36 * s + 9) := fun m hm => by
    unfold sA
    by_cases y : m = 0
    · rw [if_pos y]
      rcases bA0 with z | z
      · exact Or.inl (by omega)
      · exact Or.inr z
    · rw [if_neg y]
      exact bt_max (addT_bt bA0 (d9 0 m (by omega) (hon7 w hm)).2) ((lb m).imp (fun z => by omega) id) (by omega) (by omega)
  have BA : ∀ m, bt (upA D (s + 1) t m (s + 1)) s (36 * s + 9) := fun m => by
    unfold upA
    by_cases y : hon D m = true
    · rw [if_pos ⟨rfl, y⟩]; exact bA m y
    · rw [if_neg (fun z => y z.2)]; exact Or.inr (up m _ (by omega)).1
  have BP : ∀ m, bt (upP D (s + 1) (upA D (s + 1) t) t.2.1 m (s + 1)) s (36 * s + 18) := fun m => by
    unfold upP
    by_cases y : hon D m = true
    · rw [if_pos ⟨rfl, y⟩]; exact bt_max (BA m) (qth_bt w (hon7 w y) BA) (by omega) (by omega)
    · rw [if_neg (fun z => y z.2)]; exact Or.inr (up m _ (by omega)).2.1
  have BR : ∀ m, bt (upR D (s + 1) (upP D (s + 1) (upA D (s + 1) t) t.2.1) t.2.2.1 m (s + 1)) s (36 * s + 27) := fun m => by
    unfold upR
    by_cases y : hon D m = true
    · rw [if_pos ⟨rfl, y⟩]
      refine bt_max (bt_max (BP m) (qth_bt w (hon7 w y) BP) (by omega) (by omega)) ?_ (Nat.le_refl _) (by omega)
      rw [e0]
      by_cases z : s = 0
      · subst z; rw [r0]; exact Or.inl (by omega)
      · rcases (b m s (by omega)).2.2.1 with z | z <;> omega
    · rw [if_neg (fun z => y z.2)]; exact Or.inr (up m _ (by omega)).2.2.1
  have BC : ∀ m, bt (upC D (s + 1) (upR D (s + 1) (upP D (s + 1) (upA D (s + 1) t) t.2.1) t.2.2.1) t.2.2.2 m (s + 1)) s (36 * (s + 1)) := fun m => by
    unfold upC
    by_cases y : hon D m = true ∧ (s + 1) % dS D = 0
    · rw [if_pos ⟨rfl, y⟩]; exact bt_max (BR m) ((qth_bt w (hon7 w y.1) BR).imp (fun z => by omega) id) (by omega) (by omega)
    · rw [if_neg (fun z => y z.2)]; exact Or.inr (up m _ (by omega)).2.2.2
  have oA : ∀ m i, ¬ i = s + 1 → (ttS D (s + 1) t).1 m i = t.1 m i := fun m i hi => if_neg (fun z => hi z.1)
  have oP : ∀ m i, ¬ i = s + 1 → (ttS D (s + 1) t).2.1 m i = t.2.1 m i := fun m i hi => if_neg (fun z => hi z.1)
  have oR : ∀ m i, ¬ i = s + 1 → (ttS D (s + 1) t).2.2.1 m i = t.2.2.1 m i := fun m i hi => if_neg (fun z => hi z.1)
  have oC : ∀ m i, ¬ i = s + 1 → (ttS D (s + 1) t).2.2.2 m i = t.2.2.2 m i := fun m i hi => if_neg (fun z => hi z.1)
  refine ⟨fun m => by rw [oA _ _ (by omega)]; exact a0 m, fun m => by rw [oR _ _ (by omega)]; exact r0 m, fun m => by rw [oC _ _ (by omega)]; exact c0 m, fun m i hi => ?_, fun m i hm hi => ?_, fun m i hi => ?_⟩
  · rw [oA _ _ (by omega), oP _ _ (by omega), oR _ _ (by omega), oC _ _ (by omega)]
    exact up m i (by omega)
  · have y : ¬ hon D m = true := by rw [hm]; decide
    have := li m i hm hi
    exact ⟨(if_neg (fun z => y z.2)).trans this.1, (if_neg (fun z => y z.2)).trans this.2.1, (if_neg (fun z => y z.2)).trans this.2.2.1, (if_neg (fun z => y z.2.1)).trans this.2.2.2⟩
  · by_cases e : i = s + 1
    · subst e
      exact ⟨BA m, BP m, BR m, BC m⟩
    · rw [oA _ _ e, oP _ _ e, oR _ _ e, oC _ _ e]
      exact b m i hi
theorem wfM_up {D : CD} {s s' : Nat} {t : TT} (h : wfM D s t) (hs : s ≤ s') : wfM D s' t := by
  obtain ⟨a0, r0, c0, up, li, b⟩ := h
  exact ⟨a0, r0, c0, fun m i hi => up m i (by omega), li, b⟩
theorem wfM_N {D : CD} (w : wfC D) (h0 : (dL D).testBit 0 = false) : ∀ s, s ≤ 10 → wfM D (min s (dN D)) (ttN D s)
  | 0, _ => by rw [Nat.zero_min]; exact wfM_0 D
  | s + 1, h => by
    have ih := wfM_N w h0 s (by omega)
    unfold ttN
    by_cases t : s + 1 ≤ dN D
    · rw [if_pos t, Nat.min_eq_left t]
      rw [Nat.min_eq_left (by omega)] at ih
      exact wfM_s w h0 h ih
    · rw [if_neg t, Nat.min_eq_right (by omega)]
      rw [Nat.min_eq_right (by omega)] at ih
      exact ih
theorem wfM_F {D : CD} (w : wfC D) : wfM D 10 (ttF D) := by
  unfold ttF
  by_cases t : (dL D).testBit 0 = true
  · rw [if_pos t]; exact wfM_up (wfM_0 D) (by omega)
  · rw [if_neg t]
    exact wfM_up (wfM_N w (by simpa using t) 10 (by omega)) (by omega)
theorem ttN_s {D : CD} {s : Nat} (h : s + 1 ≤ dN D) : ttN D (s + 1) = ttS D (s + 1) (ttN D s) := by
  show (if s + 1 ≤ dN D then _ else _) = _
  rw [if_pos h]
theorem ttN_e {D : CD} {s : Nat} (h : dN D < s + 1) : ttN D (s + 1) = ttN D s := by
  show (if s + 1 ≤ dN D then _ else _) = _
  rw [if_neg (by omega)]
theorem ttN_up {D : CD} {n : Nat} (h : dN D ≤ n) : ∀ d, ttN D (n + d) = ttN D n
  | 0 => rfl
  | d + 1 => by rw [← Nat.add_assoc, ttN_e (by omega), ttN_up h d]
