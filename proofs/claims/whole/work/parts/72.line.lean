/-! which line a word begins -/
def wL (i : Nat) : Nat := (wT.getD i []).length
def wB (i j : Nat) : Nat := 96 + (wT.getD i []).getD j 0
theorem wC_cd : ∀ i, i < 17 → wC i = cdN (wB i) 0 (wL i) := by decide +kernel
theorem wB_L : ∀ i, i < 17 → ∀ j, j < wL i → isL (wB i j) = true := by decide +kernel
theorem wL_b : ∀ i, i < 17 → 3 ≤ wL i ∧ wL i ≤ 7 := by decide +kernel
theorem wix_C : ∀ i, i < 17 → wix (wC i) = i + 1 := by decide +kernel
theorem wxN_i (c : Nat) : ∀ k j, wxN c k j = 99 ∨ ∃ i, j ≤ i ∧ i < j + k ∧ wxN c k j = i + 1 ∧ c = wC i
  | 0, j => Or.inl rfl
  | k + 1, j => by
    rw [wxN_s]
    by_cases z : c = wC j
    · rw [if_pos z]
      exact Or.inr ⟨j, Nat.le_refl _, by omega, rfl, z⟩
    · rw [if_neg z]
      rcases wxN_i c k (j + 1) with h | ⟨i, a, b, e, h⟩
      · exact Or.inl h
      · exact Or.inr ⟨i, by omega, by omega, e, h⟩
theorem wix_iff {c i : Nat} (hi : i < 17) : wix c = i + 1 ↔ c = wC i := by
  refine ⟨fun h => ?_, fun h => by rw [h]; exact wix_C i hi⟩
  unfold wix at h
  rcases wxN_i c 17 0 with z | ⟨j, a, b, e, q⟩
  · omega
  · have : j = i := by omega
    rw [← this]; exact q
theorem cdN_inj {B C : Nat → Nat} {s : Nat} : ∀ d d', (∀ i, s ≤ i → i < s + d → isL (B i) = true) → (∀ i, i < d' → isL (C i) = true) → (cdN B s d = cdN C 0 d' ↔ d = d' ∧ ∀ j, j < d → B (s + j) = C j)
  | 0, 0, _, _ => ⟨fun _ => ⟨rfl, fun j h => absurd h (by omega)⟩, fun _ => rfl⟩
  | 0, d' + 1, _, h2 => by
    have := isL_iff.mp (h2 d' (by omega))
    rw [cdN_s, Nat.zero_add]
    exact ⟨fun h => by unfold cdN at h; omega, fun h => by omega⟩
  | d + 1, 0, h1, _ => by
    have := isL_iff.mp (h1 (s + d) (by omega) (by omega))
    rw [cdN_s]
    exact ⟨fun h => by rw [show cdN C 0 0 = 0 from rfl] at h; omega, fun h => by omega⟩
  | d + 1, d' + 1, h1, h2 => by
    have a := isL_iff.mp (h1 (s + d) (by omega) (by omega))
    have b := isL_iff.mp (h2 d' (by omega))
    have ih := cdN_inj (B := B) (C := C) (s := s) d d' (fun i p q => h1 i p (by omega)) fun i p => h2 i (by omega)
    rw [cdN_s, cdN_s, Nat.zero_add]
    constructor
    · intro h
      have e1 : cdN B s d = cdN C 0 d' := by omega
      obtain ⟨q1, q2⟩ := ih.mp e1
      subst q1
      refine ⟨rfl, fun j hj => ?_⟩
      by_cases z : j = d
      · subst z; omega
      · exact q2 j (by omega)
    · rintro ⟨q1, q2⟩
      have : d = d' := by omega
      subst this
      have e1 := ih.mpr ⟨rfl, fun j hj => q2 j (by omega)⟩
      have := q2 d (by omega)
      rw [e1, this]
/-- a word is the i-th -/
theorem wI_iff {B : Nat → Nat} {s e i : Nat} (hi : i < 17) (hl : ∀ j, s ≤ j → j < e → isL (B j) = true) (hs : s ≤ e) : wI B s e = i + 1 ↔ e - s = wL i ∧ ∀ j, j < wL i → B (s + j) = wB i j := by
  have b := wL_b i hi
  have key := cdN_inj (B := B) (C := wB i) (s := s) (e - s) (wL i) (fun j p q => hl j p (by omega)) (wB_L i hi)
  unfold wI
  by_cases z : 8 < e - s
  · rw [if_pos z]
    exact ⟨fun h => by omega, fun h => by omega⟩
  · rw [if_neg z, wix_iff hi, wC_cd i hi, key]
    constructor
    · rintro ⟨a, c⟩
      exact ⟨a, fun j hj => c j (by omega)⟩
    · rintro ⟨a, c⟩
      exact ⟨a, fun j hj => c j (by omega)⟩
theorem wI_99 {B : Nat → Nat} {s e : Nat} : wI B s e = 99 ∨ ∃ i, i < 17 ∧ wI B s e = i + 1 := by
  unfold wI
  split
  · exact Or.inl rfl
  · rcases wxN_i (cdN B s (e - s)) 17 0 with z | ⟨j, a, b, q, _⟩
    · exact Or.inl z
    · exact Or.inr ⟨j, by omega, q⟩
def lo3 (t : Nat) : Nat := if t = 0 then 0 else if t = 1 then 7 else if t = 2 then 16 else 17
section LINE
variable {L : Nat} {xs : Nat → Int32} {f g : Hp} {B : Nat → Nat} {n : Nat}
theorem k_wd : ∀ i, i < 17 → xS0 L (1000010 + i) = (42, xTl.getD i 0) ∧ xS0 L (1000010 + i + 20) = (43, wL i) := fun i hi => by
  rcases (show i = 0 ∨ i = 1 ∨ i = 2 ∨ i = 3 ∨ i = 4 ∨ i = 5 ∨ i = 6 ∨ i = 7 ∨ i = 8 ∨ i = 9 ∨ i = 10 ∨ i = 11 ∨ i = 12 ∨ i = 13 ∨ i = 14 ∨ i = 15 ∨ i = 16 by omega) with rfl | rfl | rfl | rfl | rfl | rfl | rfl | rfl | rfl | rfl | rfl | rfl | rfl | rfl | rfl | rfl | rfl <;> exact ⟨rfl, rfl⟩
theorem x_wd : ∀ i, i < 17 → ∀ j, j < wL i → xoI xs (1000010 + i + 20) j = iN (wB i j) := fun i hi j hj => by
  have e : xoI xs (1000010 + i + 20) j = (xTb.getD i []).getD j 0 := by
    unfold xoI
    rw [if_neg (by omega), if_neg (by omega), if_pos (by omega), show 1000010 + i + 20 - 1000030 = i by omega]
  rw [e]
  have all : ∀ i, i < 17 → ∀ j, j < wL i → (xTb.getD i []).getD j 0 = iN (wB i j) := by decide +kernel
  exact all i hi j hj
theorem c_isWord {Q : Int32 → Hp → Prop} {s e i : Nat} (hi : i < 17) (c : cB f B n) (hse : s ≤ e) (hen : e ≤ n) (hl : ∀ j, s ≤ j → j < e → isL (B j) = true) (h8 : f 51 8 = iN s) (h9 : f 51 9 = iN e) (h1 : wI B s e = i + 1 → Q 1 f) (h0 : ¬ wI B s e = i + 1 → Q 0 f) : CI L xs xm_Re_isWord [.ref 51, .ref (1000010 + i)] f Q := by
  have h6 := c.1
  obtain ⟨k1, k2⟩ := k_wd (L := L) i hi
  have wb := wL_b i hi
  rw [wI_iff hi hl hse] at h1 h0
  refine t_Re_isWord_0 k1 (js_len k1 k2 ?_)
  rw [h9, h8, iN_sub hse, iN_inj (by omega) (by omega)]
  refine ⟨fun z => ?_, fun z => h0 fun y => z y.1.symm⟩
  refine for0 (wL i + 1) (fun k l g => (l = [.ref 51, .ref (1000010 + i), .int (iN k)] ∧ g = f ∧ ∀ j, j < k → j < wL i → B (s + j) = wB i j) ∧ k ≤ wL i ∨ k = wL i + 1 ∧ False) (Or.inl ⟨⟨rfl, rfl, fun j h => absurd h (by omega)⟩, by omega⟩) ?_ ?_
  · rintro k l g hk (⟨⟨rfl, rfl, b1⟩, b2⟩ | ⟨_, b⟩) k2'
    · refine t_Re_isWord_20 k1 (js_len k1 k2 ?_)
      rw [iN_lt (by omega) (by omega)]
      refine ⟨fun u => ⟨s + k, by rw [h8, iN_add], by omega, js_char k1 k2 (by omega) u (by omega) (x_wd i hi k u) ?_ ?_⟩, fun u => h1 ⟨z.symm, fun j hj => b1 j (by omega) hj⟩⟩
      · have := isL_iff.mp (wB_L i hi k u); omega
      · have := isL_iff.mp (wB_L i hi k u)
        obtain ⟨c1, c2⟩ := c.2.2 (s + k) (by omega)
        have hb := hl (s + k) (by omega) (by omega)
        rw [c2, (sgn_ok _ c1).2.2.2.1 hb, iN_inj (by omega) (by omega), iN_inc]
        refine ⟨fun v => k2' _ _ (Or.inl ⟨⟨rfl, rfl, fun j hj hj2 => ?_⟩, by omega⟩), fun v => h0 fun y => v (y.2 k u)⟩
        by_cases jk : j = k
        · rw [jk]; exact v
        · exact b1 j (by omega) hj2
    · exact b.elim
  · rintro l g (⟨_, b⟩ | ⟨_, b⟩)
    · omega
    · exact b.elim
theorem c_wordOf {Q : Nat → Hp → Prop} {i : Nat} (hi : i < 17) (h : Q (1000010 + i) f) : CR L xs xm_Re_wordOf [.int (iN i)] f Q := by
  refine t_Re_wordOf_0 ?_
  have ne : ∀ k : Nat, k < 2147483648 → ¬ i = k → ¬ iN i = iN k := fun k hk h z => h ((iN_inj (by omega) hk).mp z)
  have go : ∀ (k : Nat) {X : Prop}, k < 17 → (¬ i = k → X) → ((iN i = iN k → Q (1000010 + k) f) ∧ (¬ iN i = iN k → X)) := fun k {X} hk hX => ⟨fun z => by rw [(iN_inj (by omega) (by omega)).mp z] at h; exact h, fun z => hX fun y => z (by rw [y])⟩
  refine go 0 (by omega) fun n0 => go 1 (by omega) fun n1 => go 2 (by omega) fun n2 => go 3 (by omega) fun n3 => go 4 (by omega) fun n4 => go 5 (by omega) fun n5 => go 6 (by omega) fun n6 => go 7 (by omega) fun n7 => go 8 (by omega) fun n8 => go 9 (by omega) fun n9 => go 10 (by omega) fun n10 => go 11 (by omega) fun n11 => go 12 (by omega) fun n12 => go 13 (by omega) fun n13 => go 14 (by omega) fun n14 => go 15 (by omega) fun n15 => ?_
  have : i = 16 := by omega
  rw [this] at h
  exact h
theorem x_tab1 : ∀ k, k < 4 → xoI xs 1000001 k = iN (lo3 k) := fun k hk => by
  rcases (show k = 0 ∨ k = 1 ∨ k = 2 ∨ k = 3 by omega) with rfl | rfl | rfl | rfl <;> rfl
theorem c_lineOf {Q : Int32 → Hp → Prop} {s e t : Nat} (ht : t < 3) (c : cB f B n) (h7 : f 51 7 = 1) (hse : s ≤ e) (hen : e ≤ n) (hl : ∀ j, s ≤ j → j < e → isL (B j) = true) (h8 : f 51 8 = iN s) (h9 : f 51 9 = iN e) (h1 : ∀ i, lo3 t ≤ i → i < lo3 (t + 1) → wI B s e = i + 1 → Q (iN i) f) (h0 : (∀ i, lo3 t ≤ i → i < lo3 (t + 1) → ¬ wI B s e = i + 1) → Q (-1) f) : CI L xs xm_Re_lineOf [.ref 51, .int (iN t)] f Q := by
  have b3 : lo3 t ≤ lo3 (t + 1) ∧ lo3 (t + 1) ≤ 17 := by
    rcases (show t = 0 ∨ t = 1 ∨ t = 2 by omega) with rfl | rfl | rfl <;> decide
  refine t_Re_lineOf_0 ?_
  rw [h7]
  refine brT rfl (brF (iN_nn (by omega)) (brT ((iN_lt (b := 3) (by omega) (by omega)).mpr (by omega)) ⟨t, rfl, by omega, ?_⟩))
  rw [x_tab1 t (by omega)]
  refine for0 (lo3 (t + 1) - lo3 t) (fun k l g => l = [.ref 51, .int (iN t), .int (iN (lo3 t + k))] ∧ g = f ∧ ∀ i, lo3 t ≤ i → i < lo3 t + k → ¬ wI B s e = i + 1) ⟨rfl, rfl, fun i a b => absurd a (by omega)⟩ ?_ ?_
  · rintro k l g hk ⟨rfl, rfl, b⟩ k2
    refine t_Re_lineOf_23 ⟨t + 1, iN_inc t, by omega, ?_⟩
    rw [x_tab1 (t + 1) (by omega)]
    refine brT ((iN_lt (b := _) (by omega) (by omega)).mpr (by omega)) (c_wordOf (by omega) ⟨_, (k_wd _ (by omega)).1, c_isWord (by omega) c hse hen hl h8 h9 (fun z => br1 (h1 _ (by omega) (by omega) z)) fun z => br0 ?_⟩)
    rw [iN_inc]
    refine k2 _ _ ⟨rfl, rfl, fun i a b' => ?_⟩
    by_cases ik : i = lo3 t + k
    · rw [ik]; exact z
    · exact b i a (by omega)
  · rintro l g ⟨rfl, rfl, b⟩
    refine t_Re_lineOf_23 ⟨t + 1, iN_inc t, by omega, ?_⟩
    rw [x_tab1 (t + 1) (by omega)]
    exact brF (fun z => absurd ((iN_lt (b := _) (by omega) (by omega)).mp z) (by omega)) (h0 fun i a b' => b i a (by omega))
end LINE
