/-! suspects, lack -/
def sus (M : Nat) (q : Nat → Int32) (s : Nat) : Prop := ∀ m m', m < M → m' < M → s.testBit m = false → s.testBit m' = false → ¬ q m = -1 → ¬ q m' = -1 → q m = q m'
noncomputable def sp (F : Nat) (q : Nat → Int32) (s : Nat) : Bool := @decide (¬ F < bcn s ∧ sus (3 * F + 1) q s) (Classical.propDecidable _)
theorem sp_iff {F : Nat} {q : Nat → Int32} {s : Nat} : sp F q s = true ↔ ¬ F < bcn s ∧ sus (3 * F + 1) q s := by
  unfold sp
  exact @decide_eq_true_iff _ (Classical.propDecidable _)
def one (q : Nat → Int32) (s k : Nat) (x : Int32) : Prop := (x = -1 ∧ ∀ m, m < k → s.testBit m = false → q m = -1) ∨ (¬ x = -1 ∧ (∃ m, m < k ∧ s.testBit m = false ∧ q m = x) ∧ ∀ m, m < k → s.testBit m = false → ¬ q m = -1 → q m = x)
theorem one_skip {q : Nat → Int32} {s k : Nat} {x : Int32} (h : one q s k x) (z : s.testBit k = true ∨ q k = -1) : one q s (k + 1) x := by
  rcases h with ⟨e, a⟩ | ⟨e, ⟨m0, m1, m2⟩, a⟩
  · refine Or.inl ⟨e, fun m hm hb => ?_⟩
    by_cases t : m = k
    · subst t
      rcases z with z | z
      · rw [z] at hb; cases hb
      · exact z
    · exact a m (by omega) hb
  · refine Or.inr ⟨e, ⟨m0, by omega, m2⟩, fun m hm hb hq => ?_⟩
    by_cases t : m = k
    · subst t
      rcases z with z | z
      · rw [z] at hb; cases hb
      · exact absurd z hq
    · exact a m (by omega) hb hq
theorem one_take {q : Nat → Int32} {s k : Nat} {x : Int32} (h : one q s k x) (hb : s.testBit k = false) (hq : ¬ q k = -1) (z : x = -1 ∨ x = q k) : one q s (k + 1) (q k) := by
  refine Or.inr ⟨hq, ⟨k, by omega, hb, rfl⟩, fun m hm hb' hq' => ?_⟩
  by_cases t : m = k
  · rw [t]
  · rcases h with ⟨e, a⟩ | ⟨e, -, a⟩
    · exact absurd (a m (by omega) hb') hq'
    · rw [a m (by omega) hb' hq', z.resolve_left e]
theorem one_bad {q : Nat → Int32} {s k M : Nat} {x : Int32} (h : one q s k x) (hk : k < M) (hb : s.testBit k = false) (hq : ¬ q k = -1) (z : ¬ x = -1) (z2 : ¬ x = q k) : ¬ sus M q s := by
  rcases h with ⟨e, a⟩ | ⟨e, ⟨m0, m1, m2, m3⟩, a⟩
  · exact absurd e z
  · intro y
    exact z2 (by rw [← m3]; exact y m0 k (by omega) hk m2 hb (by rw [m3]; exact e) hq)
theorem one_end {q : Nat → Int32} {s M : Nat} {x : Int32} (h : one q s M x) : sus M q s := by
  intro m m' hm hm' hb hb' hq hq'
  rcases h with ⟨e, a⟩ | ⟨e, -, a⟩
  · exact absurd (a m hm hb) hq
  · rw [a m hm hb hq, a m' hm' hb' hq']
def andN (F : Nat) (p : Nat → Bool) : Nat → Nat
  | 0 => 2 ^ (3 * F + 1) - 1
  | n + 1 => if p n = true then andN F p n &&& n else andN F p n
theorem andN_s (F : Nat) (p : Nat → Bool) (n : Nat) : andN F p (n + 1) = if p n = true then andN F p n &&& n else andN F p n := rfl
theorem andN_lt {F : Nat} (hF : F ≤ 2) (p : Nat → Bool) : ∀ n, andN F p n < 128
  | 0 => by have := pow7 hF; unfold andN; omega
  | n + 1 => by
    have := andN_lt hF p n
    rw [andN_s]
    split
    · exact Nat.lt_of_le_of_lt Nat.and_le_left this
    · exact this
theorem andN_0 {F : Nat} (p : Nat → Bool) : ∀ n, cntW (fun s => p s = true) n = 0 → andN F p n = 2 ^ (3 * F + 1) - 1
  | 0, _ => rfl
  | n + 1, h => by
    rw [cntW_s] at h
    rw [andN_s]
    by_cases t : p n = true
    · rw [if_pos t] at h; omega
    · rw [if_neg t] at h ⊢
      exact andN_0 p n h
def fnd (p : Nat → Bool) (k : Nat) : Nat → Int32
  | 0 => -2
  | n + 1 => if p n = true ∧ cntW (fun s => p s = true) n = k then iN n else fnd p k n
theorem fnd_s (p : Nat → Bool) (k n : Nat) : fnd p k (n + 1) = if p n = true ∧ cntW (fun s => p s = true) n = k then iN n else fnd p k n := rfl
theorem fnd_at {p : Nat → Bool} {k s : Nat} (hp : p s = true) (hc : cntW (fun s => p s = true) s = k) : ∀ d, fnd p k (s + 1 + d) = iN s
  | 0 => by rw [Nat.add_zero, fnd_s, if_pos ⟨hp, hc⟩]
  | d + 1 => by
    rw [← Nat.add_assoc, fnd_s, if_neg, fnd_at hp hc d]
    rintro ⟨-, z⟩
    have := cnt_lt (p := fun s => p s = true) hp (show s < s + 1 + d by omega)
    omega
def mxN (G : Nat → Nat) : Nat → Nat
  | 0 => 0
  | n + 1 => max (mxN G n) (G n)
theorem mxN_le {G : Nat → Nat} {b : Nat} : ∀ n, mxN G n ≤ b ↔ ∀ k, k < n → G k ≤ b
  | 0 => ⟨fun _ k hk => absurd hk (by omega), fun _ => Nat.zero_le _⟩
  | n + 1 => by
    show max (mxN G n) (G n) ≤ b ↔ _
    rw [Nat.max_le, mxN_le n]
    constructor
    · rintro ⟨h1, h2⟩ k hk
      by_cases t : k = n
      · rw [t]; exact h2
      · exact h1 k (by omega)
    · intro h
      exact ⟨fun k hk => h k (by omega), h n (by omega)⟩
/-- how many unlike results: by members, by results -/
theorem kinds_eq {q : Nat → Int32} (hq : ∀ m, q m = -1 ∨ ∃ r, r < 100 ∧ q m = iN r) : ∀ n, cntW (fun m => ¬ q m = -1 ∧ cntW (fun m' => q m' = q m) m = 0) n = cntW (fun r => 0 < cntW (fun m => q m = iN r) n) 100
  | 0 => (cnt0 _ 100 fun r _ => by show ¬ 0 < cntW _ 0; exact Nat.lt_irrefl 0).symm
  | n + 1 => by
    rw [cntW_s, kinds_eq hq n]
    rcases hq n with e | ⟨r0, hr0, e⟩
    · rw [if_neg (fun z => z.1 e)]
      refine cntW_congr 100 fun r hr => ?_
      rw [cntW_s, if_neg (by rw [e]; exact fun z => iN_ne1 (by omega) z.symm)]
    · by_cases t : cntW (fun m' => q m' = iN r0) n = 0
      · rw [if_pos ⟨by rw [e]; exact iN_ne1 (by omega), by rw [e]; exact t⟩]
        have := cnt_or (p := fun r => 0 < cntW (fun m => q m = iN r) n ∧ r < 100) (q := fun r => 0 < cntW (fun m => q m = iN r) (n + 1) ∧ r < 100) (r := r0) (fun z => by have := z.1; omega) (fun r => by
          rw [cntW_s, e]
          by_cases u : r = r0
          · subst u
            rw [if_pos rfl]
            exact ⟨fun _ => Or.inr rfl, fun _ => ⟨by omega, hr0⟩⟩
          · constructor
            · rintro ⟨z1, z2⟩
              rw [if_neg (fun z => u ((iN_inj (by omega) (by omega)).mp z).symm)] at z1
              exact Or.inl ⟨z1, z2⟩
            · rintro (⟨z1, z2⟩ | z)
              · rw [if_neg (fun z => u ((iN_inj (by omega) (by omega)).mp z).symm)]
                exact ⟨z1, z2⟩
              · exact absurd z u) 100
        rw [if_pos hr0] at this
        have c1 : cntW (fun r => 0 < cntW (fun m => q m = iN r) n ∧ r < 100) 100 = cntW (fun r => 0 < cntW (fun m => q m = iN r) n) 100 := cntW_congr 100 fun r hr => ⟨fun z => z.1, fun z => ⟨z, hr⟩⟩
        have c2 : cntW (fun r => 0 < cntW (fun m => q m = iN r) (n + 1) ∧ r < 100) 100 = cntW (fun r => 0 < cntW (fun m => q m = iN r) (n + 1)) 100 := cntW_congr 100 fun r hr => ⟨fun z => z.1, fun z => ⟨z, hr⟩⟩
        rw [← c2, this, c1]
      · rw [if_neg (fun z => t (by have := z.2; rw [e] at this; exact this))]
        refine cntW_congr 100 fun r hr => ?_
        rw [cntW_s, e]
        by_cases u : r = r0
        · subst u
          rw [if_pos rfl]
          exact ⟨fun _ => by omega, fun _ => by omega⟩
        · rw [if_neg (fun z => u ((iN_inj (by omega) (by omega)).mp z).symm)]
theorem most_eq {M : Nat} {q : Nat → Int32} (hM : M ≤ 14) (hq : ∀ m, q m = -1 ∨ ∃ r, r < 100 ∧ q m = iN r) : mxN (fun m => if q m = -1 then 0 else bcn (voc M q (q m))) M = mxN (fun r => bcn (voc M q (iN r))) 100 := by
  apply Nat.le_antisymm
  · rw [mxN_le]
    intro m hm
    show (if q m = -1 then 0 else bcn (voc M q (q m))) ≤ _
    by_cases t : q m = -1
    · rw [if_pos t]; omega
    · rw [if_neg t]
      obtain ⟨r, hr, e⟩ := (hq m).resolve_left t
      rw [e]
      exact (mxN_le (G := fun r => bcn (voc M q (iN r))) 100).mp (Nat.le_refl _) r hr
  · rw [mxN_le]
    intro r hr
    show bcn (voc M q (iN r)) ≤ _
    by_cases t : ∃ m, m < M ∧ q m = iN r
    · obtain ⟨m, hm, e⟩ := t
      have := (mxN_le (G := fun m => if q m = -1 then 0 else bcn (voc M q (q m))) M).mp (Nat.le_refl _) m hm
      have t2 : ¬ q m = -1 := by rw [e]; exact iN_ne1 (by omega)
      rw [if_neg t2, e] at this
      exact this
    · rw [voc_cnt hM, cnt0 _ _ fun m hm e => t ⟨m, hm, e⟩]
      omega
theorem lack_d : ∀ a, a < 4 → ∀ b, b < 16 → imax 0 (iN a - iN b) = iN (a - b) := by decide +kernel
section SUSP
variable {L : Nat} {xs : Nat → Int32} {f g : Hp} {T : TD}
theorem c_isSuspect {Q : Int32 → Hp → Prop} {F s : Nat} {q : Nat → Int32} (hF : F ≤ 2) (h4 : f 246 4 = iN F) (h5 : f 246 5 = iN (3 * F + 1)) (h8 : ∀ m, m < 3 * F + 1 → f 248 m = q m) (hs : s < 128) (h1 : sp F q s = true → Q 1 f) (h0 : ¬ sp F q s = true → Q 0 f) : CI L xs xm_Ta_isSuspect [.ref 246, .int (iN s)] f Q := by
  have hb := bcn_le s
  refine t_Ta_isSuspect_0 (c_bitCount hs ?_)
  rw [h4, iN_lt (by omega) (by omega)]
  refine ⟨fun p => h0 fun z => (sp_iff.mp z).1 p, fun p => ?_⟩
  refine for0 (3 * F + 1) (fun k l g => ∃ x, l = [.ref 246, .int (iN s), .int x, .int (iN k)] ∧ g = f ∧ one q s k x) ⟨-1, rfl, rfl, Or.inl ⟨rfl, fun m hm => absurd hm (by omega)⟩⟩ ?_ ?_
  · rintro k l g hk ⟨x, rfl, rfl, ho⟩ k2
    refine t_Ta_isSuspect_17 ?_
    rw [h5, iN_inc]
    refine brT ((iN_lt (b := _) (by omega) (by omega)).mpr (by omega)) (c_hasBit (by omega) (by omega) (fun t => br1 (k2 _ _ ⟨x, rfl, rfl, one_skip ho (Or.inl t)⟩)) fun t => br0 ⟨k, rfl, by omega, ?_⟩)
    rw [h8 k hk]
    refine ⟨fun z => k2 _ _ ⟨x, rfl, rfl, one_skip ho (Or.inr z)⟩, fun z => ⟨fun z2 => k2 _ _ ⟨_, rfl, rfl, one_take ho t z (Or.inl z2)⟩, fun z2 => ⟨fun z3 => k2 _ _ ⟨_, rfl, rfl, one_take ho t z (Or.inr z3)⟩, fun z3 => h0 fun y => one_bad ho hk t z z2 z3 (sp_iff.mp y).2⟩⟩⟩
  · rintro l g ⟨x, rfl, rfl, ho⟩
    refine t_Ta_isSuspect_17 ?_
    rw [h5]
    exact brF (fun z => absurd ((iN_lt (b := _) (by omega) (by omega)).mp z) (by omega)) (h1 (sp_iff.mpr ⟨p, one_end ho⟩))
theorem r_isOneBut {Q : Int32 → Hp → Prop} {F s : Nat} {q : Nat → Int32} (hF : F ≤ 2) (h5 : f 400 13 = iN (3 * F + 1)) (h8 : ∀ m, m < 3 * F + 1 → f 433 m = q m) (hs : s < 128) (h1 : sus (3 * F + 1) q s → Q 1 f) (h0 : ¬ sus (3 * F + 1) q s → Q 0 f) : CI L xs xm_Mo_isOneBut [.ref 400, .int (iN s)] f Q := by
  refine t_Mo_isOneBut_0 ?_
  refine for0 (3 * F + 1) (fun k l g => ∃ x y, l = [.ref 400, .int (iN s), .int x, .int y, .int (iN k)] ∧ g = f ∧ ((y = 1 ∧ one q s k x) ∨ (y = 0 ∧ ¬ sus (3 * F + 1) q s))) ⟨-1, 1, rfl, rfl, Or.inl ⟨rfl, Or.inl ⟨rfl, fun m hm => absurd hm (by omega)⟩⟩⟩ ?_ ?_
  · rintro k l g hk ⟨x, y, rfl, rfl, ho⟩ k2
    refine t_Mo_isOneBut_7 ?_
    rw [h5, iN_inc, bit1 (by omega) (by omega)]
    refine brT ((iN_lt (b := _) (by omega) (by omega)).mpr (by omega)) ?_
    by_cases t : s.testBit k = true
    · rw [if_pos t]
      exact brT (by decide) (k2 _ _ ⟨x, y, rfl, rfl, ho.imp (fun z => ⟨z.1, one_skip z.2 (Or.inl t)⟩) id⟩)
    · rw [if_neg t]
      have t : s.testBit k = false := by simpa using t
      refine brF (by decide) ⟨k, rfl, by omega, ?_⟩
      rw [h8 k hk]
      refine ⟨fun z => k2 _ _ ⟨x, y, rfl, rfl, ho.imp (fun z2 => ⟨z2.1, one_skip z2.2 (Or.inr z)⟩) id⟩, fun z => ?_⟩
      have tk : ∀ x' y', one q s k x' → (x' = -1 ∨ x' = q k) → Wp L xs xm_Mo_isOneBut 60 [.ref 400, .int (iN s), .int x', .int y', .int (iN k)] [] g (QI Q) := fun x' y' ho' hx' => t_Mo_isOneBut_60 ⟨k, rfl, by omega, by rw [h8 k hk, iN_inc]; exact k2 _ _ ⟨_, 1, rfl, rfl, Or.inl ⟨rfl, one_take ho' t z hx'⟩⟩⟩
      rcases ho with ⟨rfl, ho⟩ | ⟨rfl, ho⟩
      · exact br1 ⟨fun z2 => tk _ _ ho (Or.inl z2), fun z2 => ⟨fun z3 => tk _ _ ho (Or.inr z3), fun z3 => k2 _ _ ⟨_, 0, rfl, rfl, Or.inr ⟨rfl, one_bad ho hk t z z2 z3⟩⟩⟩⟩
      · exact br0 (k2 _ _ ⟨_, 0, rfl, rfl, Or.inr ⟨rfl, ho⟩⟩)
  · rintro l g ⟨x, y, rfl, rfl, ho⟩
    refine t_Mo_isOneBut_7 ?_
    rw [h5]
    refine brF (fun z => absurd ((iN_lt (b := _) (by omega) (by omega)).mp z) (by omega)) ?_
    rcases ho with ⟨rfl, ho⟩ | ⟨rfl, ho⟩
    · exact ⟨Or.inr rfl, h1 (one_end ho)⟩
    · exact ⟨Or.inl rfl, h0 ho⟩
theorem c_susSets {Q : Int32 → Hp → Prop} {F : Nat} {q : Nat → Int32} (hF : F ≤ 2) (h4 : f 246 4 = iN F) (h5 : f 246 5 = iN (3 * F + 1)) (h8 : ∀ m, m < 3 * F + 1 → f 248 m = q m) (kk : Q (iN (cntW (fun s => sp F q s = true) (2 ^ (3 * F + 1)))) f) : CI L xs xm_Ta_suspectSets [.ref 246] f Q := by
  obtain ⟨N, hN⟩ : ∃ N, N = 2 ^ (3 * F + 1) := ⟨_, rfl⟩
  have hp := pow7 hF
  rw [← hN] at hp kk
  have e : (1 : Int32) <<< (iN (3 * F + 1) &&& 31) = iN N := by rw [shl1 (by omega), hN]
  refine t_Ta_suspectSets_0 ?_
  refine for0 N (fun k l g => l = [.ref 246, .int (iN (cntW (fun s => sp F q s = true) k)), .int (iN k)] ∧ g = f) ⟨rfl, rfl⟩ ?_ ?_
  · rintro k l g hk ⟨rfl, rfl⟩ k2
    refine t_Ta_suspectSets_4 ?_
    rw [h5, e, iN_inc, iN_inc]
    refine brT ((iN_lt (b := _) (by omega) (by omega)).mpr (by omega)) (c_isSuspect hF h4 h5 h8 (by omega) (fun p => br1 (k2 _ _ ⟨?_, rfl⟩)) fun p => br0 (k2 _ _ ⟨?_, rfl⟩))
    · rw [cntW_s, if_pos p]
    · rw [cntW_s, if_neg p]
  · rintro l g ⟨rfl, rfl⟩
    refine t_Ta_suspectSets_4 ?_
    rw [h5, e]
    exact brF (fun z => absurd ((iN_lt (b := _) (by omega) (by omega)).mp z) (by omega)) kk
theorem c_susAll {Q : Int32 → Hp → Prop} {F : Nat} {q : Nat → Int32} (hF : F ≤ 2) (h4 : f 246 4 = iN F) (h5 : f 246 5 = iN (3 * F + 1)) (h8 : ∀ m, m < 3 * F + 1 → f 248 m = q m) (kk : Q (if cntW (fun s => sp F q s = true) (2 ^ (3 * F + 1)) = 0 then 0 else iN (andN F (sp F q) (2 ^ (3 * F + 1)))) f) : CI L xs xm_Ta_suspectsInAll [.ref 246] f Q := by
  obtain ⟨N, hN⟩ : ∃ N, N = 2 ^ (3 * F + 1) := ⟨_, rfl⟩
  have hp := pow7 hF
  rw [← hN] at hp kk
  have e : (1 : Int32) <<< (iN (3 * F + 1) &&& 31) = iN N := by rw [shl1 (by omega), hN]
  refine t_Ta_suspectsInAll_0 ?_
  refine for0 N (fun k l g => l = [.ref 246, .int (if cntW (fun s => sp F q s = true) k = 0 then -1 else iN (andN F (sp F q) k)), .int (iN k)] ∧ g = f) ⟨rfl, rfl⟩ ?_ ?_
  · rintro k l g hk ⟨rfl, rfl⟩ k2
    refine t_Ta_suspectsInAll_4 ?_
    rw [h5, e, iN_inc]
    refine brT ((iN_lt (b := _) (by omega) (by omega)).mpr (by omega)) (c_isSuspect hF h4 h5 h8 (by omega) (fun p => br1 (k2 _ _ ⟨?_, rfl⟩)) fun p => br0 (k2 _ _ ⟨?_, rfl⟩))
    · rw [cntW_s, if_pos p, if_neg (show ¬ cntW (fun s => sp F q s = true) k + 1 = 0 by omega), andN_s, if_pos p]
      by_cases t : cntW (fun s => sp F q s = true) k = 0
      · rw [if_pos t, andN_0 _ k t, ← hN]
        have e1 : (-1 : Int32) &&& iN k = iN k := by rw [Int32.and_comm]; exact Int32.and_neg_one
        have e2 : (N - 1) &&& k = k := by rw [hN, Nat.and_comm, Nat.and_two_pow_sub_one_eq_mod, ← hN, Nat.mod_eq_of_lt hk]
        rw [e1, e2]
      · rw [if_neg t, iN_and]
    · rw [cntW_s, if_neg p, andN_s, if_neg p]
  · rintro l g ⟨rfl, rfl⟩
    refine t_Ta_suspectsInAll_4 ?_
    rw [h5, e]
    refine brF (fun z => absurd ((iN_lt (b := _) (by omega) (by omega)).mp z) (by omega)) ?_
    by_cases t : cntW (fun s => sp F q s = true) N = 0
    · rw [if_pos t] at kk ⊢
      exact brT rfl kk
    · rw [if_neg t] at kk ⊢
      exact brF (iN_ne1 (by have := andN_lt hF (sp F q) N; omega)) kk
theorem c_susSet {Q : Int32 → Hp → Prop} {F n : Nat} {q : Nat → Int32} (hF : F ≤ 2) (h4 : f 246 4 = iN F) (h5 : f 246 5 = iN (3 * F + 1)) (h8 : ∀ m, m < 3 * F + 1 → f 248 m = q m) (hn : n < 2147483648) (kk : Q (fnd (sp F q) n (2 ^ (3 * F + 1))) f) : CI L xs xm_Ta_suspectSet [.ref 246, .int (iN n)] f Q := by
  obtain ⟨N, hN⟩ : ∃ N, N = 2 ^ (3 * F + 1) := ⟨_, rfl⟩
  have hp := pow7 hF
  rw [← hN] at hp kk
  have e : (1 : Int32) <<< (iN (3 * F + 1) &&& 31) = iN N := by rw [shl1 (by omega), hN]
  refine t_Ta_suspectSet_0 ?_
  refine for0 N (fun k l g => l = [.ref 246, .int (iN n), .int (iN (cntW (fun s => sp F q s = true) k)), .int (iN k)] ∧ g = f ∧ fnd (sp F q) n k = -2) ⟨rfl, rfl, rfl⟩ ?_ ?_
  · rintro k l g hk ⟨rfl, rfl, hf⟩ k2
    have cl := cntW_le (fun s => sp F q s = true) k
    refine t_Ta_suspectSet_4 ?_
    rw [h5, e, iN_inc, iN_inc]
    refine brT ((iN_lt (b := _) (by omega) (by omega)).mpr (by omega)) (c_isSuspect hF h4 h5 h8 (by omega) (fun p => br1 ?_) fun p => br0 (k2 _ _ ⟨?_, rfl, ?_⟩))
    · rw [iN_inj (by omega) (by omega)]
      refine ⟨fun z => ?_, fun z => k2 _ _ ⟨?_, rfl, ?_⟩⟩
      · have := fnd_at p z (N - (k + 1))
        rw [show k + 1 + (N - (k + 1)) = N by omega] at this
        rw [this] at kk
        exact kk
      · rw [cntW_s, if_pos p]
      · rw [fnd_s, if_neg (fun y => z y.2)]; exact hf
    · rw [cntW_s, if_neg p]
    · rw [fnd_s, if_neg (fun y => p y.1)]; exact hf
  · rintro l g ⟨rfl, rfl, hf⟩
    refine t_Ta_suspectSet_4 ?_
    rw [h5, e]
    rw [hf] at kk
    exact brF (fun z => absurd ((iN_lt (b := _) (by omega) (by omega)).mp z) (by omega)) kk
theorem r_suspects {j k0 : Nat} {z : Int32} (w : wfT T) (r : rT f 0 T) (hj : j < tZ T 0) (hk0 : k0 < tZ T 2) (hz : ¬ z < 0) (hz2 : ∀ m, 2 ≤ m → m ≤ 9 → ¬ z = iN m) {F : Nat} {R : PD} {q : Nat → Int32} (eF : F = dF (T.2.2.1 j)) (eR : R = T.2.2.2.2 k0) (eq : q = hRes (3 * F + 1) R R.1) : CI L xs xm_Mo_suspects [.ref 400, .int (iN j), .int (iN k0), .int z] f (fun v h => FrR f h ∧ (z = 0 → v = iN (cntW (fun s => sp F q s = true) (2 ^ (3 * F + 1)))) ∧ (z = 1 → v = if cntW (fun s => sp F q s = true) (2 ^ (3 * F + 1)) = 0 then 0 else iN (andN F (sp F q) (2 ^ (3 * F + 1)))) ∧ ∀ n, ¬ z = 0 → ¬ z = 1 → z - 10 = iN n → n < 2147483648 → v = fnd (sp F q) n (2 ^ (3 * F + 1))) := by
  have wc := w.2.2.2.1 j hj
  have wp := w.2.2.2.2.2 k0 hk0
  have z2 := w.2.2.1 2 (by omega)
  refine t_Mo_suspects_0 (r_CR w r hj hk0 fun g cu g56 rp fr => brF hz ?_)
  generalize T.2.2.1 j = D at *
  rw [← eR] at wp rp
  clear eR
  have hF : F ≤ 2 := by rw [eF]; exact wc.1
  have hM : g 400 13 = iN (3 * F + 1) := by rw [eF]; exact cu.2.2.1
  have hF12 : g 400 12 = iN F := by rw [eF]; exact cu.2.1
  have w1 := wp.1
  refine r_isIn (a := 2) (b := 9) (by omega) (by omega) (fun m m1 m2 e => absurd e (hz2 m m1 m2)) fun _ => br0 ?_
  refine r_come hF wp hM g56 (by omega) rp (n := 12) (by omega) (N := R.1) (by omega) fun h a1 a2 a3 a4 a5 => ?_
  have ff : FrR f h := fun a ha => by rw [a5 a (by omega) (by omega) (by omega), fr a ha]
  have h13 : h 400 13 = iN (3 * F + 1) := by rw [a4 13 (by omega), hM]
  have h12 : h 400 12 = iN F := by rw [a4 12 (by omega), hF12]
  have h8 : ∀ m, m < 3 * F + 1 → h 433 m = q m := fun m hm => by rw [a1 m (by omega), eq]
  clear eq eF
  obtain ⟨N, hN⟩ : ∃ N, N = 2 ^ (3 * F + 1) := ⟨_, rfl⟩
  have hp := pow7 hF
  rw [← hN] at hp ⊢
  have e : (1 : Int32) <<< (iN (3 * F + 1) &&& 31) = iN N := by rw [shl1 (by omega), hN]
  rw [h13, e, show iN N - 1 = iN (N - 1) from iN_sub (b := 1) (by omega)]
  refine for0 N (fun k l h' => ∃ x, l = [.ref 400, .int (iN j), .int (iN k0), .int z, .int (iN (cntW (fun s => sp F q s = true) k)), .int (iN (andN F (sp F q) k)), .int x, .int (iN k)] ∧ h' = h ∧ ∀ n, n < 2147483648 → z - 10 = iN n → x = fnd (sp F q) n k) ⟨-2, ?_, rfl, fun _ _ _ => rfl⟩ ?_ ?_
  · rw [hN]; rfl
  · rintro k l h' hk ⟨x, rfl, rfl, hx⟩ k2
    have hb := bcn_le k
    have cl := cntW_le (fun s => sp F q s = true) k
    refine t_Mo_suspects_59 ?_
    rw [h13, e, iN_inc, iN_inc, iN_and]
    refine brT ((iN_lt (b := _) (by omega) (by omega)).mpr (by omega)) (r_bitsOf (by omega) ?_)
    rw [h12, iN_lt (by omega) (by omega)]
    have nx : ¬ sp F q k = true → Wp L xs xm_Mo_suspects 59 [.ref 400, .int (iN j), .int (iN k0), .int z, .int (iN (cntW (fun s => sp F q s = true) k)), .int (iN (andN F (sp F q) k)), .int x, .int (iN (k + 1))] [] h' _ := fun y => k2 _ _ ⟨x, by rw [cntW_s, if_neg y, andN_s, if_neg y], rfl, fun n hn en => by rw [fnd_s, if_neg (fun u => y u.1)]; exact hx n hn en⟩
    refine ⟨fun p => nx fun y => (sp_iff.mp y).1 p, fun p => r_isOneBut hF h13 h8 (by omega) (fun y => br1 ?_) fun y => br0 (nx fun u => y (sp_iff.mp u).2)⟩
    have hs : sp F q k = true := sp_iff.mpr ⟨p, y⟩
    refine ⟨fun u => k2 _ _ ⟨_, by rw [cntW_s, if_pos hs, andN_s, if_pos hs], rfl, fun n hn en => ?_⟩, fun u => k2 _ _ ⟨x, by rw [cntW_s, if_pos hs, andN_s, if_pos hs], rfl, fun n hn en => ?_⟩⟩
    · rw [en, iN_inj (by omega) hn] at u
      rw [fnd_s, if_pos ⟨hs, u⟩]
    · rw [fnd_s, if_neg (fun v => u (by rw [en, v.2]))]
      exact hx n hn en
  · rintro l h' ⟨x, rfl, rfl, hx⟩
    have cl := cntW_le (fun s => sp F q s = true) N
    refine t_Mo_suspects_59 ?_
    rw [h13, e]
    refine brF (fun z => absurd ((iN_lt (b := _) (by omega) (by omega)).mp z) (by omega)) ⟨fun p => ?_, fun p => ⟨fun p1 => ?_, fun p1 => ?_⟩⟩
    · exact ⟨ff, fun _ => rfl, fun y => absurd (p.symm.trans y) (by decide), fun _ y => absurd p y⟩
    · rw [show (0 : Int32) = iN 0 from rfl, iN_inj (by omega) (by omega)]
      refine ⟨fun p2 => ⟨ff, fun y => absurd (p1.symm.trans y) (by decide), fun _ => ?_, fun _ _ y => absurd p1 y⟩, fun p2 => ⟨ff, fun y => absurd (p1.symm.trans y) (by decide), fun _ => ?_, fun _ _ y => absurd p1 y⟩⟩
      · rw [if_pos p2]
      · rw [if_neg p2]
    · exact ⟨ff, fun y => absurd y p, fun y => absurd y p1, fun n _ _ en hn => hx n hn en⟩
theorem op_suspects (i : Inv f) (x y z : Int32) : CI L xs xm_TP_suspects [.ref 0, .int x, .int y, .int z] f (fun v g => CI L xs xm_Mo_suspects [.ref 400, .int x, .int y, .int z] g (fun w h => w = v ∧ Inv h)) := by
  obtain ⟨⟨T, w, c, r⟩, im⟩ := id i
  have no : ¬ ((∃ j, j < tZ T 0 ∧ x = iN j) ∧ ∃ j, j < tZ T 2 ∧ y = iN j) → CI L xs xm_Mo_suspects [.ref 400, .int x, .int y, .int z] f (fun w h => w = -2 ∧ Inv h) := fun q => t_Mo_suspects_0 (r_CRno w r q (fun g fr => ⟨rfl, i.q (FrC.refl f) fr⟩) fun g fr => ⟨rfl, i.q (FrC.refl f) fr⟩)
  refine t_TP_suspects_0 (c_tallies w c (fun q => br0 (no fun z => q z.1)) (fun _ q => br0 (no fun z => q z.2)) fun j k g hj hk e1 e2 hd hg => br1 ?_)
  subst e1
  subst e2
  have wp := w.2.2.2.2.2 k hk
  have hF := (w.2.2.2.1 j hj).1
  have run := fun (h1 : ¬ z < 0) (h2 : ∀ m, 2 ≤ m → m ≤ 9 → ¬ z = iN m) => r_suspects (L := L) (xs := xs) w (r.fr (hg 401 (by omega))) hj hk h1 h2 rfl rfl rfl
  obtain ⟨-, d2, d3, d4, -⟩ := hd
  refine ⟨fun p => ?_, fun p0 => ⟨fun p => ?_, fun p1 => ⟨fun p => ?_, fun p2 => ?_⟩⟩⟩
  · refine c_susSets hF d2 d3 d4 (CI.mono (run (by rw [p]; decide) fun m m1 m2 e => ?_) fun v h b => ⟨b.2.1 p, i.q hg b.1⟩)
    rw [p, show (0 : Int32) = iN 0 from rfl, iN_inj (by omega) (by omega)] at e
    omega
  · refine c_susAll hF d2 d3 d4 (CI.mono (run (by rw [p]; decide) fun m m1 m2 e => ?_) fun v h b => ⟨b.2.2.1 p, i.q hg b.1⟩)
    rw [p, show (1 : Int32) = iN 1 from rfl, iN_inj (by omega) (by omega)] at e
    omega
  · refine t_Mo_suspects_0 (r_CR w (r.fr (hg 401 (by omega))) hj hk fun g1 cu g56 rp fr => ?_)
    by_cases hz : z < 0
    · exact brT hz ⟨rfl, i.q hg fr⟩
    · refine brF hz ?_
      obtain ⟨n, hn, rfl⟩ := iN_ex (n := 10) (by omega) hz p
      refine r_isIn (a := 2) (b := 9) (by omega) (by omega) (fun m m1 m2 e => br1 ⟨rfl, i.q hg fr⟩) fun q => ?_
      exfalso
      have n0 : ¬ n = 0 := fun e => p0 (by rw [e]; rfl)
      have n1 : ¬ n = 1 := fun e => p1 (by rw [e]; rfl)
      exact q n (by omega) (by omega) rfl
  · obtain ⟨n, hn, hn2, rfl⟩ := iN_lo (a := 10) (by omega) p2
    have e10 : iN n - 10 = iN (n - 10) := iN_sub (b := 10) hn
    rw [e10]
    refine c_susSet hF d2 d3 d4 (by omega) (CI.mono (run (iN_nn hn2) fun m m1 m2 e => ?_) fun v h b => ⟨b.2.2.2 _ p0 p1 e10 (by omega), i.q hg b.1⟩)
    rw [iN_inj (by omega) (by omega)] at e
    omega
theorem c_lacking {Q : Int32 → Hp → Prop} {F : Nat} {q : Nat → Int32} (hF : F ≤ 2) (h4 : f 246 4 = iN F) (h5 : f 246 5 = iN (3 * F + 1)) (h8 : ∀ m, m < 3 * F + 1 → f 248 m = q m) (kk : Q (iN (F + 1 - mxN (fun m => if q m = -1 then 0 else bcn (voc (3 * F + 1) q (q m))) (3 * F + 1))) f) : CI L xs xm_Ta_lacking [.ref 246] f Q := by
  have bd : ∀ n, mxN (fun m => if q m = -1 then 0 else bcn (voc (3 * F + 1) q (q m))) n ≤ 14 := fun n => (mxN_le n).mpr fun k _ => by
    show (if q k = -1 then 0 else bcn (voc (3 * F + 1) q (q k))) ≤ 14
    split
    · omega
    · exact bcn_le _
  refine t_Ta_lacking_0 ?_
  refine for0 (3 * F + 1) (fun k l g => l = [.ref 246, .int (iN (mxN (fun m => if q m = -1 then 0 else bcn (voc (3 * F + 1) q (q m))) k)), .int (iN k)] ∧ g = f) ⟨rfl, rfl⟩ ?_ ?_
  · rintro k l g hk ⟨rfl, rfl⟩ k2
    have b1 := bd k
    refine t_Ta_lacking_4 ?_
    rw [h5, iN_inc]
    refine brT ((iN_lt (b := _) (by omega) (by omega)).mpr (by omega)) ⟨k, rfl, by omega, ?_⟩
    rw [h8 k hk]
    refine ⟨fun p => k2 _ _ ⟨?_, rfl⟩, fun p => c_voicesOf h5 (by omega) ?_⟩
    · show _ = [Value.ref 246, .int (iN (max _ (if q k = -1 then 0 else _))), _]
      rw [if_pos p, Nat.max_zero]
    · rw [voc_congr h8]
      have b2 := bcn_le (voc (3 * F + 1) q (q k))
      refine c_bitCount (voc_lt (by omega)) ?_
      rw [imax_iN (by omega) (by omega)]
      refine k2 _ _ ⟨?_, rfl⟩
      show _ = [Value.ref 246, .int (iN (max _ (if q k = -1 then 0 else _))), _]
      rw [if_neg p]
  · rintro l g ⟨rfl, rfl⟩
    have b1 := bd (3 * F + 1)
    refine t_Ta_lacking_4 ?_
    rw [h5]
    refine brF (fun z => absurd ((iN_lt (b := _) (by omega) (by omega)).mp z) (by omega)) ?_
    rw [h4, iN_inc, lack_d (F + 1) (by omega) (mxN (fun m => if q m = -1 then 0 else bcn (voc (3 * F + 1) q (q m))) (3 * F + 1)) (by omega)]
    exact kk
theorem and_lo {V k : Nat} (hk : k < 7) (hV : V < 128) : (iN V &&& ((1 : Int32) <<< (iN k &&& 31) - 1)) = 0 ↔ ∀ m, m < k → V.testBit m = false := by
  rw [shl1 (by omega), show iN (2 ^ k) - 1 = iN (2 ^ k - 1) from iN_sub (b := 1) (Nat.one_le_two_pow), iN_and, Nat.and_two_pow_sub_one_eq_mod, show (0 : Int32) = iN 0 from rfl]
  have h1 : V % 2 ^ k < 128 := Nat.lt_of_le_of_lt (Nat.mod_le _ _) hV
  rw [iN_inj (by omega) (by omega)]
  constructor
  · intro h m hm
    have : (V % 2 ^ k).testBit m = V.testBit m := by rw [Nat.testBit_mod_two_pow]; simp [hm]
    rw [← this, h, Nat.zero_testBit]
  · intro h
    apply Nat.eq_of_testBit_eq
    intro m
    rw [Nat.testBit_mod_two_pow, Nat.zero_testBit]
    by_cases t : m < k
    · simp [h m t]
    · simp [t]
theorem c_unlikeRes {Q : Int32 → Hp → Prop} {F : Nat} {q : Nat → Int32} (hF : F ≤ 2) (h5 : f 246 5 = iN (3 * F + 1)) (h8 : ∀ m, m < 3 * F + 1 → f 248 m = q m) (kk : Q (iN (cntW (fun m => ¬ q m = -1 ∧ cntW (fun m' => q m' = q m) m = 0) (3 * F + 1))) f) : CI L xs xm_Ta_unlikeResults [.ref 246] f Q := by
  refine t_Ta_unlikeResults_0 ?_
  refine for0 (3 * F + 1) (fun k l g => l = [.ref 246, .int (iN (cntW (fun m => ¬ q m = -1 ∧ cntW (fun m' => q m' = q m) m = 0) k)), .int (iN k)] ∧ g = f) ⟨rfl, rfl⟩ ?_ ?_
  · rintro k l g hk ⟨rfl, rfl⟩ k2
    refine t_Ta_unlikeResults_4 ?_
    rw [h5, iN_inc, iN_inc]
    refine brT ((iN_lt (b := _) (by omega) (by omega)).mpr (by omega)) ⟨k, rfl, by omega, ?_⟩
    rw [h8 k hk]
    refine ⟨fun p => k2 _ _ ⟨?_, rfl⟩, fun p => c_voicesOf h5 (by omega) ?_⟩
    · rw [cntW_s, if_neg (fun z => z.1 p)]
    · rw [voc_congr h8, and_lo (by omega) (voc_lt (by omega))]
      have e : (∀ m, m < k → (voc (3 * F + 1) q (q k)).testBit m = false) ↔ cntW (fun m' => q m' = q k) k = 0 := by
        constructor
        · intro h
          refine cnt0 _ _ fun m hm z => ?_
          have := (voc_bit (M := 3 * F + 1) (q := q) (r := q k) (show m < 3 * F + 1 by omega)).mpr z
          rw [h m hm] at this
          cases this
        · intro h m hm
          by_cases z : q m = q k
          · have := cnt_lt (p := fun m' => q m' = q k) z hm
            omega
          · have := fun y => z ((voc_bit (M := 3 * F + 1) (q := q) (r := q k) (show m < 3 * F + 1 by omega)).mp y)
            simpa using this
      rw [e]
      refine ⟨fun p2 => k2 _ _ ⟨?_, rfl⟩, fun p2 => k2 _ _ ⟨?_, rfl⟩⟩
      · rw [cntW_s, if_pos ⟨p, p2⟩]
      · rw [cntW_s, if_neg (fun z => p2 z.2)]
  · rintro l g ⟨rfl, rfl⟩
    refine t_Ta_unlikeResults_4 ?_
    rw [h5]
    exact brF (fun z => absurd ((iN_lt (b := _) (by omega) (by omega)).mp z) (by omega)) kk
theorem r_lack {j k0 n : Nat} (w : wfT T) (r : rT f 0 T) (hj : j < tZ T 0) (hk0 : k0 < tZ T 2) (hn : n ≤ 2) {F : Nat} {R : PD} {q : Nat → Int32} (eF : F = dF (T.2.2.1 j)) (eR : R = T.2.2.2.2 k0) (eq : q = hRes (3 * F + 1) R R.1) : CI L xs xm_Mo_lack [.ref 400, .int (iN j), .int (iN k0), .int (iN n)] f (fun v h => FrR f h ∧ (n = 0 → v = iN (F + 1 - mxN (fun r => bcn (voc (3 * F + 1) q (iN r))) 100)) ∧ (n = 1 → v = iN (cntW (fun r => 0 < bcn (voc (3 * F + 1) q (iN r))) 100)) ∧ (n = 2 → v = iN (hFk (3 * F + 1) R R.1))) := by
  have wc := w.2.2.2.1 j hj
  have wp := w.2.2.2.2.2 k0 hk0
  have z2 := w.2.2.1 2 (by omega)
  refine t_Mo_lack_0 (r_CR w r hj hk0 fun g cu g56 rp fr => ?_)
  generalize T.2.2.1 j = D at *
  rw [← eR] at wp rp
  clear eR
  have hF : F ≤ 2 := by rw [eF]; exact wc.1
  have hM : g 400 13 = iN (3 * F + 1) := by rw [eF]; exact cu.2.2.1
  have hF12 : g 400 12 = iN F := by rw [eF]; exact cu.2.1
  have w1 := wp.1
  refine r_isIn (a := 0) (b := 2) (by omega) (by omega) (fun m _ _ e => br1 ?_) fun q => absurd rfl (q n (by omega) hn)
  refine r_come hF wp hM g56 (by omega) rp (n := 12) (by omega) (N := R.1) (by omega) fun h a1 a2 a3 a4 a5 => ?_
  have ff : FrR f h := fun a ha => by rw [a5 a (by omega) (by omega) (by omega), fr a ha]
  have h13 : h 400 13 = iN (3 * F + 1) := by rw [a4 13 (by omega), hM]
  have h12 : h 400 12 = iN F := by rw [a4 12 (by omega), hF12]
  have h8 : ∀ m, m < 3 * F + 1 → h 433 m = q m := fun m hm => by rw [a1 m (by omega), eq]
  clear eq eF
  refine ⟨fun p => ⟨ff, fun z => ?_, fun z => ?_, fun _ => a3⟩, fun p => ?_⟩
  · rw [z] at p; exact absurd p (by decide)
  · rw [z] at p; exact absurd p (by decide)
  have n2 : ¬ n = 2 := fun z => p (by rw [z]; rfl)
  have bd : ∀ k, mxN (fun r => bcn (voc (3 * F + 1) q (iN r))) k ≤ 14 := fun k => (mxN_le k).mpr fun i _ => bcn_le _
  refine for0 100 (fun k l h' => ∃ v : Value, (v.category != 2) = true ∧ l = [.ref 400, .int (iN j), .int (iN k0), .int (iN n), .int (iN (mxN (fun r => bcn (voc (3 * F + 1) q (iN r))) k)), .int (iN (cntW (fun r => 0 < bcn (voc (3 * F + 1) q (iN r))) k)), .int (iN k), v] ∧ h' = h) ⟨_, rfl, rfl, rfl⟩ ?_ ?_
  · rintro k l h' hk ⟨v, hv, rfl, rfl⟩ k2
    have b1 := bd k
    have b2 := bcn_le (voc (3 * F + 1) q (iN k))
    refine t_Mo_lack_53 hv (brT ((iN_lt (b := 100) (by omega) (by omega)).mpr (by omega)) (r_tell h13 (by omega) ?_))
    rw [voc_congr h8]
    refine r_bitsOf (voc_lt (by omega)) ?_
    have fin : ∀ (s0 : Int32) (b : Nat), iN (cntW (fun r => 0 < bcn (voc (3 * F + 1) q (iN r))) k) + s0 = iN (cntW (fun r => 0 < bcn (voc (3 * F + 1) q (iN r))) (k + 1)) → Wp L xs xm_Mo_lack 83 [.ref 400, .int (iN j), .int (iN k0), .int (iN n), .int (iN (mxN (fun r => bcn (voc (3 * F + 1) q (iN r))) k)), .int (iN (cntW (fun r => 0 < bcn (voc (3 * F + 1) q (iN r))) k)), .int (iN k), .int (iN (bcn (voc (3 * F + 1) q (iN k))))] [.int s0, .int (iN (cntW (fun r => 0 < bcn (voc (3 * F + 1) q (iN r))) k))] h' (QI _) := fun s0 _ es => t_Mo_lack_83 (by
      rw [es, iN_inc, iN_lt (by omega) (by omega)]
      refine ⟨fun y => k2 _ _ ⟨.int (iN (bcn (voc (3 * F + 1) q (iN k)))), rfl, ?_, rfl⟩, fun y => k2 _ _ ⟨.int (iN (bcn (voc (3 * F + 1) q (iN k)))), rfl, ?_, rfl⟩⟩
      · show _ = [Value.ref 400, _, _, _, .int (iN (max _ (bcn (voc (3 * F + 1) q (iN k))))), _, _, _]
        rw [Nat.max_eq_right (by omega)]
      · show _ = [Value.ref 400, _, _, _, .int (iN (max _ (bcn (voc (3 * F + 1) q (iN k))))), _, _, _]
        rw [Nat.max_eq_left (by omega)])
    refine ⟨fun y => fin 1 0 ?_, fun y => fin 0 0 ?_⟩
    · rw [show (0 : Int32) = iN 0 from rfl, iN_lt (by omega) (by omega)] at y
      rw [iN_inc, cntW_s, if_pos y]
    · rw [show (0 : Int32) = iN 0 from rfl, iN_lt (by omega) (by omega)] at y
      rw [show (0 : Int32) = iN 0 from rfl, iN_add, cntW_s, if_neg y]; rfl
  · rintro l h' ⟨v, hv, rfl, rfl⟩
    have b1 := bd 100
    refine t_Mo_lack_53 hv (brF (by decide) ⟨fun p1 => ⟨ff, fun z => ?_, fun _ => rfl, fun z => absurd z n2⟩, fun p1 => ?_⟩)
    · rw [z] at p1; exact absurd p1 (by decide)
    · have n1 : ¬ n = 1 := fun z => p1 (by rw [z]; rfl)
      rw [h12, iN_inc, iN_lt (by omega) (by omega)]
      refine ⟨fun y => ⟨ff, fun _ => ?_, fun z => absurd z n1, fun z => absurd z n2⟩, fun y => ⟨ff, fun _ => ?_, fun z => absurd z n1, fun z => absurd z n2⟩⟩
      · rw [show F + 1 - mxN (fun r => bcn (voc (3 * F + 1) q (iN r))) 100 = 0 by omega]; rfl
      · rw [iN_sub (by omega)]
theorem op_lack (i : Inv f) (x y z : Int32) : CI L xs xm_TP_lack [.ref 0, .int x, .int y, .int z] f (fun v g => CI L xs xm_Mo_lack [.ref 400, .int x, .int y, .int z] g (fun w h => w = v ∧ Inv h)) := by
  obtain ⟨⟨T, w, c, r⟩, im⟩ := id i
  have no : ¬ ((∃ j, j < tZ T 0 ∧ x = iN j) ∧ ∃ j, j < tZ T 2 ∧ y = iN j) → CI L xs xm_Mo_lack [.ref 400, .int x, .int y, .int z] f (fun w h => w = -2 ∧ Inv h) := fun q => t_Mo_lack_0 (r_CRno w r q (fun g fr => ⟨rfl, i.q (FrC.refl f) fr⟩) fun g fr => ⟨rfl, i.q (FrC.refl f) fr⟩)
  refine t_TP_lack_0 (c_tallies w c (fun q => br0 (no fun z => q z.1)) (fun _ q => br0 (no fun z => q z.2)) fun j k g hj hk e1 e2 hd hg => br1 ?_)
  subst e1
  subst e2
  have wp := w.2.2.2.2.2 k hk
  have hF := (w.2.2.2.1 j hj).1
  have run := fun {n : Nat} (hn : n ≤ 2) => r_lack (L := L) (xs := xs) w (r.fr (hg 401 (by omega))) hj hk hn rfl rfl rfl
  have hq := hRes_r (M := 3 * dF (T.2.2.1 j) + 1) wp _ (Nat.le_refl _)
  obtain ⟨d1, d2, d3, d4, -⟩ := hd
  refine ⟨fun p => ?_, fun p0 => ⟨fun p => ?_, fun p1 => ⟨fun p => ?_, fun p2 => ?_⟩⟩⟩
  · subst p
    refine c_lacking hF d2 d3 d4 (CI.mono (run (n := 0) (by omega)) fun v h b => ⟨?_, i.q hg b.1⟩)
    rw [b.2.1 rfl, most_eq (by omega) hq]
  · subst p
    refine c_unlikeRes hF d3 d4 (CI.mono (run (n := 1) (by omega)) fun v h b => ⟨?_, i.q hg b.1⟩)
    rw [b.2.2.1 rfl, kinds_eq hq]
    refine congrArg iN (cntW_congr 100 fun r _ => ?_)
    rw [voc_cnt (by omega)]
  · subst p
    refine CI.mono (run (n := 2) (by omega)) fun v h b => ⟨?_, i.q hg b.1⟩
    rw [b.2.2.2 rfl, d1]
  · refine t_Mo_lack_0 (r_CR w (r.fr (hg 401 (by omega))) hj hk fun g1 cu g56 rp fr => ?_)
    refine r_isIn (a := 0) (b := 2) (by omega) (by omega) (fun m _ hm e => ?_) fun q => br0 ⟨rfl, i.q hg fr⟩
    exfalso
    have : m = 0 ∨ m = 1 ∨ m = 2 := by omega
    rcases this with t | t | t <;> subst t
    · exact p0 e
    · exact p1 e
    · exact p2 e
end SUSP
