/-! proofs merged -/
def iw (D : CD) (W k : Nat) : Bool := W.testBit k && hon D k
theorem iw_iff {D : CD} {W k : Nat} : iw D W k = true ↔ W.testBit k = true ∧ hon D k = true := by unfold iw; rw [Bool.and_eq_true]
def mgF (D : CD) (S : ST) (W n : Nat) : Nat := mxN (fun k => if iw D W k = true then nb (S 2 k 0) else 0) n
def pfG (S : ST) (k : Nat) : Nat → Nat := fun i => if S 11 k (i + 1) = -1 then 0 else i + 1
def mgP (D : CD) (S : ST) (W n : Nat) : Nat := mxN (fun k => if iw D W k = true then mxN (pfG S k) 12 else 0) n
def mgU (D : CD) (S : ST) (W n : Nat) : Nat := max (mgF D S W n) (mgP D S W n)
def nxt (p : Int32 × Int32) (v o : Int32) : Int32 × Int32 := if ¬ v = -1 ∧ (p.1 < v ∨ (v = p.1 ∧ o < p.2)) then (v, o) else p
def mgO (D : CD) (S : ST) (W s : Nat) : Nat → Int32 × Int32
  | 0 => (-1, 10)
  | k + 1 => if iw D W k = true then nxt (mgO D S W s k) (S 11 k s) (S 12 k s) else mgO D S W s k
theorem mgO_s (D : CD) (S : ST) (W s k : Nat) : mgO D S W s (k + 1) = if iw D W k = true then nxt (mgO D S W s k) (S 11 k s) (S 12 k s) else mgO D S W s k := rfl
theorem mgF_s (D : CD) (S : ST) (W n : Nat) : mgF D S W (n + 1) = max (mgF D S W n) (if iw D W n = true then nb (S 2 n 0) else 0) := rfl
theorem mgP_s (D : CD) (S : ST) (W n : Nat) : mgP D S W (n + 1) = max (mgP D S W n) (if iw D W n = true then mxN (pfG S n) 12 else 0) := rfl
theorem pfG_le (S : ST) (k n : Nat) : mxN (pfG S k) n ≤ n := (mxN_le n).mpr fun i hi => by
  unfold pfG
  split <;> omega
theorem mgF_le {D : CD} {S : ST} {W : Nat} (ws : wfS D S) (n : Nat) (hn : n ≤ 7) : mgF D S W n ≤ 12 := (mxN_le n).mpr fun k hk => by
  show (if iw D W k = true then nb (S 2 k 0) else 0) ≤ 12
  obtain ⟨l, hl, el⟩ := (ws.1 k (by omega)).2.2.1
  split
  · rw [el, nb_iN (by omega)]; exact hl
  · omega
theorem mgP_le {D : CD} {S : ST} {W n : Nat} : mgP D S W n ≤ 12 := (mxN_le n).mpr fun k hk => by
  show (if iw D W k = true then mxN (pfG S k) 12 else 0) ≤ 12
  split
  · exact pfG_le S k 12
  · omega
theorem mgO_ord {D : CD} {S : ST} {W s : Nat} (ws : wfS D S) (hs : 1 ≤ s ∧ s ≤ 12) : ∀ n, n ≤ 7 → ordI D (mgO D S W s n).2
  | 0, _ => Or.inl rfl
  | n + 1, hn => by
    have ih := mgO_ord (W := W) ws hs n (by omega)
    rw [mgO_s]
    split
    · unfold nxt
      split
      · rename_i z
        exact ((ws.2.1 n s (by omega) hs.1 hs.2).2.2.2.2.1.resolve_left z.1).2
      · exact ih
    · exact ih
theorem lt_tri {x y : Int32} (h1 : ¬ x < y) (h2 : ¬ x = y) : y < x := by
  rw [Int32.lt_iff_toInt_lt] at h1 ⊢
  have : ¬ x.toInt = y.toInt := fun z => h2 (Int32.toInt_inj.mp z)
  omega
theorem lt_asy {x y : Int32} (h1 : x < y) : ¬ y < x ∧ ¬ x = y := by
  rw [Int32.lt_iff_toInt_lt] at h1
  refine ⟨?_, fun z => ?_⟩
  · rw [Int32.lt_iff_toInt_lt]; omega
  · rw [z] at h1; omega
section MERGE
variable {L : Nat} {xs : Nat → Int32} {f g : Hp} {D : CD} {S S' : ST} {o0 : Nat}
theorem c_mgClear {Q : Hp → Prop} {a : Nat} (ka : xS0 L a = (3, 0)) (kk : ∀ g, g a 0 = 0 → g a 1 = 0 → g a 2 = 0 → (∀ s, s < 13 → g (a + 1) s = 10) → (∀ s, s < 13 → g (a + 2) s = -1) → (∀ x, x < a ∨ a + 3 ≤ x → g x = f x) → Q g) : CV L xs xm_Mg_clear [.ref a] f Q := by
  refine t_Mg_clear_0 ka fun g1 e1 g2 e2 g3 e3 => fill_go (kf_3_3 ka).2 fun g4 a1 a2 => fill_go (kf_3_4 ka).2 fun g5 b1 b2 => ?_
  refine kk g5 ?_ ?_ ?_ (fun s hs => by rw [b2 _ (by omega), a1 s hs]) b1 fun x hx => by rw [b2 x (by omega), a2 x (by omega), e3, xu_a (by omega), e2, xu_a (by omega), e1, xu_a (by omega)]
  · rw [b2 _ (by omega), a2 _ (by omega), e3, xu_k (by omega), e2, xu_k (by omega), e1, xu_eq]
  · rw [b2 _ (by omega), a2 _ (by omega), e3, xu_k (by omega), e2, xu_eq]
  · rw [b2 _ (by omega), a2 _ (by omega), e3, xu_eq]
theorem c_mgAdd {Q : Hp → Prop} {a m F U l : Nat} {O : Nat → Int32 × Int32} (ka : xS0 L a = (3, 0)) (ha : a + 3 ≤ 93 ∨ 170 ≤ a) (h : cA f D S) (hm : m < 7) (el : S 2 m 0 = iN l) (hl : l ≤ 12) (hF : F ≤ 12) (hU : U ≤ 12) (e1 : f a 1 = iN F) (e2 : f a 2 = iN U) (eO : ∀ s, 1 ≤ s → s ≤ 12 → f (a + 1) s = (O s).2 ∧ f (a + 2) s = (O s).1) (kk : ∀ g, g a 0 = f a 0 → g a 1 = iN (max F l) → g a 2 = iN (max (max U (max F l)) (mxN (pfG S m) 12)) → (∀ s, 1 ≤ s → s ≤ 12 → g (a + 1) s = (nxt (O s) (S 11 m s) (S 12 m s)).2 ∧ g (a + 2) s = (nxt (O s) (S 11 m s) (S 12 m s)).1) → (∀ x, x < a ∨ a + 3 ≤ x → g x = f x) → Q g) : CV L xs xm_Mg_add [.ref a, .ref (93 + 11 * m)] f Q := by
  refine t_Mg_add_0 ka (k_mem hm) fun g1 q1 g2 q2 => ?_
  rw [e1, h.s hm (by omega), el, imax_iN (by omega) (by omega)] at q1
  have r1 : g1 a 1 = iN (max F l) := by rw [q1, xu_eq]
  have r2 : g1 a 2 = iN U := by rw [q1, xu_k (by omega)]; exact e2
  rw [r1, r2, imax_iN (by omega) (by omega)] at q2
  have x2 : ∀ x, ¬ x = a → g2 x = f x := fun x hx => by rw [q2, xu_a hx, q1, xu_a hx]
  refine for0 12 (fun k l' g => ∃ y y2 : Value, (y.category != 2) = true ∧ (y2.category != 2) = true ∧ l' = [.ref a, .ref (93 + 11 * m), .int (iN (k + 1)), y, y2] ∧ g a 0 = f a 0 ∧ g a 1 = iN (max F l) ∧ g a 2 = iN (max (max U (max F l)) (mxN (pfG S m) k)) ∧ (∀ s, 1 ≤ s → s ≤ 12 → g (a + 1) s = (if s ≤ k then nxt (O s) (S 11 m s) (S 12 m s) else O s).2 ∧ g (a + 2) s = (if s ≤ k then nxt (O s) (S 11 m s) (S 12 m s) else O s).1) ∧ ∀ x, x < a ∨ a + 3 ≤ x → g x = f x) ⟨_, _, rfl, rfl, rfl, by rw [q2, xu_k (by omega), q1, xu_k (by omega)], by rw [q2, xu_k (by omega)]; exact r1, by rw [q2, xu_eq, show mxN (pfG S m) 0 = 0 from rfl, Nat.max_zero], fun s p q => by rw [if_neg (by omega), x2 _ (by omega), x2 _ (by omega)]; exact eO s p q, fun x hx => x2 x (by omega)⟩ ?_ ?_
  · rintro k l' g hk ⟨y, y2, hy, hy2, rfl, b0, b1, b2, b3, b4⟩ k2
    have v6 : g (93 + 11 * m + 6) (k + 1) = S 11 m (k + 1) := by rw [b4 _ (by omega)]; exact h.a (j := 3) hm (by omega) (by omega) (by omega)
    have v7 : g (93 + 11 * m + 7) (k + 1) = S 12 m (k + 1) := by rw [b4 _ (by omega)]; exact h.a (j := 4) hm (by omega) (by omega) (by omega)
    obtain ⟨o1, o2⟩ := b3 (k + 1) (by omega) (by omega)
    rw [if_neg (by omega)] at o1 o2
    have pl := pfG_le S m k
    refine t_Mg_add_32 ka (k_mem hm) hy hy2 (brF (fun z => absurd ((iN_lt (a := 12) (by omega) (by omega)).mp z) (by omega)) ⟨k + 1, rfl, by omega, ?_⟩)
    rw [v6, v7, iN_inc]
    refine ⟨fun z => k2 _ _ ⟨_, _, rfl, rfl, rfl, b0, b1, ?_, fun s p q => ?_, b4⟩, fun z g1 e1 => ?_⟩
    · rw [b2, mxN_s]; congr 1
      unfold pfG
      rw [if_pos z]; omega
    · by_cases u : s = k + 1
      · subst u
        rw [if_pos (by omega), nxt, if_neg (fun v => v.1 z)]; exact ⟨o1, o2⟩
      · rw [b3 s p q |>.1, b3 s p q |>.2]
        by_cases u2 : s ≤ k
        · rw [if_pos u2, if_pos (by omega)]; exact ⟨rfl, rfl⟩
        · rw [if_neg u2, if_neg (by omega)]; exact ⟨rfl, rfl⟩
    · rw [b2, imax_iN (by omega) (by omega)] at e1
      have w0 : g1 a 0 = f a 0 := by rw [e1, xu_k (by omega)]; exact b0
      have w1 : g1 a 1 = iN (max F l) := by rw [e1, xu_k (by omega)]; exact b1
      have w2 : g1 a 2 = iN (max (max U (max F l)) (mxN (pfG S m) (k + 1))) := by
        rw [e1, xu_eq, mxN_s]; congr 1
        have : pfG S m k = k + 1 := if_neg z
        rw [this]; omega
      have w3 : ∀ x, ¬ x = a → g1 x = g x := fun x hx => by rw [e1, xu_a hx]
      have keep : ¬ ((O (k + 1)).1 < S 11 m (k + 1) ∨ (S 11 m (k + 1) = (O (k + 1)).1 ∧ S 12 m (k + 1) < (O (k + 1)).2)) → ∀ y3 y4 : Value, (y3.category != 2) = true → (y4.category != 2) = true → Wp L xs xm_Mg_add 32 [.ref a, .ref (93 + 11 * m), .int (iN (k + 1 + 1)), y3, y4] [] g1 (QV Q) := fun u y3 y4 hy3 hy4 => k2 _ _ ⟨y3, y4, hy3, hy4, rfl, w0, w1, w2, fun s p q => by
        rw [w3 _ (by omega), w3 _ (by omega), b3 s p q |>.1, b3 s p q |>.2]
        by_cases u1 : s = k + 1
        · subst u1
          rw [if_neg (by omega), if_pos (by omega), nxt, if_neg (fun v => u v.2)]; exact ⟨rfl, rfl⟩
        · by_cases u2 : s ≤ k
          · rw [if_pos u2, if_pos (by omega)]; exact ⟨rfl, rfl⟩
          · rw [if_neg u2, if_neg (by omega)]; exact ⟨rfl, rfl⟩, fun x hx => by rw [w3 x (by omega), b4 x hx]⟩
      have take : ((O (k + 1)).1 < S 11 m (k + 1) ∨ (S 11 m (k + 1) = (O (k + 1)).1 ∧ S 12 m (k + 1) < (O (k + 1)).2)) → Wp L xs xm_Mg_add 104 [.ref a, .ref (93 + 11 * m), .int (iN (k + 1)), .int (S 11 m (k + 1)), .int (S 12 m (k + 1))] [] g1 (QV Q) := fun u => by
        refine t_Mg_add_104 ka (k_mem hm) ⟨k + 1, rfl, by omega, fun h1 x1 h2 x2 => ?_⟩
        rw [iN_inc]
        have hn : nxt (O (k + 1)) (S 11 m (k + 1)) (S 12 m (k + 1)) = (S 11 m (k + 1), S 12 m (k + 1)) := if_pos ⟨z, u⟩
        refine k2 _ _ ⟨_, _, rfl, rfl, rfl, by rw [x2, xu_a (by omega), x1, xu_a (by omega)]; exact w0, by rw [x2, xu_a (by omega), x1, xu_a (by omega)]; exact w1, by rw [x2, xu_a (by omega), x1, xu_a (by omega)]; exact w2, fun s p q => ?_, fun x hx => by rw [x2, xu_a (by omega), x1, xu_a (by omega), w3 x (by omega), b4 x hx]⟩
        by_cases u1 : s = k + 1
        · subst u1
          rw [if_pos (by omega), hn, x2, xu_eq, xu_a (by omega), x1, xu_eq]; exact ⟨rfl, rfl⟩
        · rw [x2, xu_k u1, xu_a (by omega), x1, xu_k u1, xu_a (by omega), w3 _ (by omega), w3 _ (by omega), b3 s p q |>.1, b3 s p q |>.2]
          by_cases u2 : s ≤ k
          · rw [if_pos u2, if_pos (by omega)]; exact ⟨rfl, rfl⟩
          · rw [if_neg u2, if_neg (by omega)]; exact ⟨rfl, rfl⟩
      rw [w3 _ (by omega), w3 _ (by omega), o1, o2]
      refine ⟨fun u => take (Or.inl u), fun u => ⟨fun u2 => ⟨fun u3 => take (Or.inr ⟨u2, u3⟩), fun u3 => keep (fun v => v.elim u fun v => u3 v.2) _ _ rfl rfl⟩, fun u2 => keep (fun v => v.elim u fun v => u2 v.1) _ _ rfl rfl⟩⟩
  · rintro l' g ⟨y, y2, hy, hy2, rfl, b0, b1, b2, b3, b4⟩
    refine t_Mg_add_32 ka (k_mem hm) hy hy2 (brT (by decide) (kk g b0 b1 b2 (fun s p q => ?_) b4))
    have := b3 s p q
    rw [if_pos q] at this
    exact this
theorem c_merge {Q : Hp → Prop} {a W : Nat} (w : wfC D) (ws : wfS D S) (ka : xS0 L a = (3, 0)) (ha : 170 ≤ a) (h : cA f D S) (hv : ∀ g, (∀ x, x < a ∨ a + 3 ≤ x → g x = f x) → g a 0 = 0 → cA g D S) (hW : W < 128) (kk : ∀ g, g a 0 = 0 → g a 1 = iN (mgF D S W (3 * dF D + 1)) → g a 2 = iN (mgU D S W (3 * dF D + 1)) → (∀ s, 1 ≤ s → s ≤ 12 → g (a + 1) s = (mgO D S W s (3 * dF D + 1)).2) → (∀ x, x < a ∨ a + 3 ≤ x → g x = f x) → Q g) : CV L xs xm_As_merge [.ref 75, .int (iN W), .ref a] f Q := by
  have hF := w.1
  refine t_As_merge_0 ka (c_mgClear ka fun g1 a0 a1 a2 a3 a4 a5 => ?_)
  refine for0 (3 * dF D + 1) (fun k l g => l = [.ref 75, .int (iN W), .ref a, .int (iN k)] ∧ g a 0 = 0 ∧ g a 1 = iN (mgF D S W k) ∧ g a 2 = iN (mgU D S W k) ∧ (∀ s, 1 ≤ s → s ≤ 12 → g (a + 1) s = (mgO D S W s k).2 ∧ g (a + 2) s = (mgO D S W s k).1) ∧ ∀ x, x < a ∨ a + 3 ≤ x → g x = f x) ⟨rfl, a0, a1, a2, fun s p q => ⟨a3 s (by omega), a4 s (by omega)⟩, a5⟩ ?_ ?_
  · rintro k l g hk ⟨rfl, b0, b1, b2, b3, b4⟩ k2
    have hg := hv g b4 b0
    refine t_As_merge_6 ka ?_
    rw [hg.2.1, iN_inc]
    have skip : ¬ iw D W k = true → Wp L xs xm_As_merge 6 [.ref 75, .int (iN W), .ref a, .int (iN (k + 1))] [] g (QV Q) := fun z => k2 _ _ ⟨rfl, b0, by rw [mgF_s, if_neg z, Nat.max_zero]; exact b1, by unfold mgU; rw [mgF_s, mgP_s, if_neg z, if_neg z, Nat.max_zero, Nat.max_zero]; exact b2, fun s p q => by rw [mgO_s, if_neg z]; exact b3 s p q, b4⟩
    refine brT ((iN_lt (b := _) (by omega) (by omega)).mpr (by omega)) (c_hasBit (by omega) (by omega) (fun u => br1 (c_asHon w hg (by omega) (fun hh => br1 ⟨k, rfl, by omega, ?_⟩) fun hh => br0 (skip fun z => hf hh (iw_iff.mp z).2))) fun u => br0 (skip fun z => by have := (iw_iff.mp z).1; rw [u] at this; cases this))
    have z : iw D W k = true := iw_iff.mpr ⟨u, hh⟩
    obtain ⟨l, hl, el⟩ := (ws.1 k (by omega)).2.2.1
    have nl : nb (S 2 k 0) = l := by rw [el, nb_iN (by omega)]
    have lF := mgF_le (W := W) ws k (by omega)
    have lP := mgP_le (D := D) (S := S) (W := W) (n := k)
    refine c_mgAdd ka (Or.inr ha) hg (by omega) el hl lF (by unfold mgU; omega) b1 b2 b3 fun g3 c0 c1 c2 c3 c4 => k2 _ _ ⟨rfl, by rw [c0, b0], by rw [c1, mgF_s, if_pos z, nl], ?_, fun s p q => by rw [mgO_s, if_pos z]; exact c3 s p q, fun x hx => by rw [c4 x hx, b4 x hx]⟩
    rw [c2]
    unfold mgU
    rw [mgF_s, mgP_s, if_pos z, if_pos z, nl]
    congr 1; omega
  · rintro l g ⟨rfl, b0, b1, b2, b3, b4⟩
    have hg := hv g b4 b0
    refine t_As_merge_6 ka ?_
    rw [hg.2.1]
    exact brF (fun z => absurd ((iN_lt (b := _) (by omega) (by omega)).mp z) (by omega)) (kk g b0 b1 b2 (fun s p q => (b3 s p q).1) b4)
theorem r_orderBy {Q : Int32 → Hp → Prop} {W s : Nat} (w : wfC D) (cu : cur f o0 D) (h : rM f S) (hW : W < 128) (hs : 1 ≤ s ∧ s ≤ 12) (kk : Q (mgO D S W s (3 * dF D + 1)).2 f) : CI L xs xm_Mo_orderBy [.ref 400, .int (iN W), .int (iN s)] f Q := by
  have hF := w.1
  refine t_Mo_orderBy_0 ?_
  refine for0 (3 * dF D + 1) (fun k l g => ∃ y : Value, (y.category != 2) = true ∧ l = [.ref 400, .int (iN W), .int (iN s), .int (mgO D S W s k).1, .int (mgO D S W s k).2, .int (iN k), y] ∧ g = f) ⟨_, rfl, rfl, rfl⟩ ?_ ?_
  · rintro k l g hk ⟨y, hy, rfl, rfl⟩ k2
    have v17 : g 417 (13 * k + s) = S 11 k s := h.a (j := 3) (by omega) (by omega) hs.1 hs.2
    have v18 : g 418 (13 * k + s) = S 12 k s := h.a (j := 4) (by omega) (by omega) hs.1 hs.2
    refine t_Mo_orderBy_9 hy ?_
    rw [cu.2.2.1, iN_inc, bit1 (by omega) (by omega)]
    refine brT ((iN_lt (b := _) (by omega) (by omega)).mpr (by omega)) ?_
    have skip : (iw D W k = true → ¬ (¬ S 11 k s = -1 ∧ ((mgO D S W s k).1 < S 11 k s ∨ (S 11 k s = (mgO D S W s k).1 ∧ S 12 k s < (mgO D S W s k).2)))) → ∀ y' : Value, (y'.category != 2) = true → Wp L xs xm_Mo_orderBy 9 [.ref 400, .int (iN W), .int (iN s), .int (mgO D S W s k).1, .int (mgO D S W s k).2, .int (iN (k + 1)), y'] [] g (QI Q) := fun z y' hy' => k2 _ _ ⟨y', hy', by
      rw [mgO_s]
      by_cases u : iw D W k = true
      · rw [if_pos u, nxt, if_neg (z u)]
      · rw [if_neg u], rfl⟩
    by_cases u : W.testBit k = true
    · rw [if_pos u]
      refine brF (by decide) (r_liar w cu hk (fun hh => br0 (r_at ⟨13 * k + s, rfl, by omega, ?_⟩)) fun hh => br1 (skip (fun z => absurd (iw_iff.mp z).2 (hf hh)) y hy))
      rw [v17]
      refine ⟨fun z => skip (fun _ v => v.1 z) y hy, fun z => r_at ⟨13 * k + s, rfl, by omega, ?_⟩⟩
      rw [v17]
      have hi : iw D W k = true := iw_iff.mpr ⟨u, hh⟩
      have take : ((mgO D S W s k).1 < S 11 k s ∨ (S 11 k s = (mgO D S W s k).1 ∧ S 12 k s < (mgO D S W s k).2)) → Wp L xs xm_Mo_orderBy 98 [.ref 400, .int (iN W), .int (iN s), .int (mgO D S W s k).1, .int (mgO D S W s k).2, .int (iN k), .int (S 11 k s)] [] g (QI Q) := fun v => by
        refine t_Mo_orderBy_98 (r_at ⟨13 * k + s, rfl, by omega, ?_⟩)
        rw [v18, iN_inc]
        refine k2 _ _ ⟨.int (S 11 k s), rfl, ?_, rfl⟩
        rw [mgO_s, if_pos hi, nxt, if_pos ⟨z, v⟩]
      refine ⟨fun v => skip (fun _ x => ?_) _ rfl, fun v => ⟨fun v2 => r_at ⟨13 * k + s, rfl, by omega, ?_⟩, fun v2 => take (Or.inl (lt_tri v v2))⟩⟩
      · rcases x.2 with x | x
        · exact (lt_asy v).1 x
        · exact (lt_asy v).2 x.1
      · rw [v18]
        refine ⟨fun v3 => take (Or.inr ⟨v2, v3⟩), fun v3 => skip (fun _ x => ?_) _ rfl⟩
        rcases x.2 with x | x
        · exact (lt_asy x).2 v2.symm
        · exact v3 x.2
    · rw [if_neg u]
      exact brT (by decide) (skip (fun z => absurd (iw_iff.mp z).1 u) y hy)
  · rintro l g ⟨y, hy, rfl, rfl⟩
    refine t_Mo_orderBy_9 hy ?_
    rw [cu.2.2.1]
    exact brF (fun z => absurd ((iN_lt (b := _) (by omega) (by omega)).mp z) (by omega)) kk
theorem r_merges {Q : Hp → Prop} {W : Nat} (w : wfC D) (ws : wfS D S) (cu : cur f o0 D) (h : rM f S) (hW : W < 128) (kk : ∀ g, g 400 44 = iN (mgF D S W (3 * dF D + 1)) → g 400 45 = iN (mgU D S W (3 * dF D + 1)) → (∀ s, 1 ≤ s → s ≤ 12 → g 426 s = if mgF D S W (3 * dF D + 1) < s ∧ s ≤ mgU D S W (3 * dF D + 1) then (mgO D S W s (3 * dF D + 1)).2 else -1) → (∀ j, ¬ j = 44 → ¬ j = 45 → g 400 j = f 400 j) → (∀ x, ¬ x = 400 → ¬ x = 426 → g x = f x) → Q g) : CV L xs xm_Mo_merges [.ref 400, .int (iN W)] f Q := by
  have hF := w.1
  have fM := mgF_le (W := W) ws (3 * dF D + 1) (by omega)
  have pM := mgP_le (D := D) (S := S) (W := W) (n := 3 * dF D + 1)
  have cm : ∀ {g : Hp}, (∀ j, ¬ j = 44 → ¬ j = 45 → g 400 j = f 400 j) → cur g o0 D := fun z => cu.co fun j p q => z j (by omega) (by omega)
  have hm : ∀ {g : Hp}, (∀ x, ¬ x = 400 → ¬ x = 426 → g x = f x) → rM g S := fun z => h.fr fun x p q => z x (by omega) (by omega)
  refine t_Mo_merges_0 fun g1 e1 => ?_
  refine for0 (3 * dF D + 1) (fun k l g => l = [.ref 400, .int (iN W), .int (iN k), .retAddr 0] ∧ g 400 44 = iN (mgF D S W k) ∧ (∀ j, ¬ j = 44 → g 400 j = f 400 j) ∧ ∀ x, ¬ x = 400 → g x = f x) ⟨rfl, by rw [e1, xu_eq]; rfl, fun j p => by rw [e1, xu_k p], fun x p => by rw [e1, xu_a p]⟩ ?_ ?_
  · rintro k l g hk ⟨rfl, b1, b2, b3⟩ k2
    have cg := cm fun j p _ => b2 j p
    obtain ⟨l0, hl, el⟩ := (ws.1 k (by omega)).2.2.1
    have nl : nb (S 2 k 0) = l0 := by rw [el, nb_iN (by omega)]
    have lF := mgF_le (W := W) ws k (by omega)
    refine t_Mo_merges_7 ?_
    rw [cg.2.2.1, iN_inc, bit1 (by omega) (by omega)]
    refine brT ((iN_lt (b := _) (by omega) (by omega)).mpr (by omega)) ?_
    have skip : ¬ iw D W k = true → Wp L xs xm_Mo_merges 7 [.ref 400, .int (iN W), .int (iN (k + 1)), .retAddr 0] [] g (QV Q) := fun z => k2 _ _ ⟨rfl, by rw [mgF_s, if_neg z, Nat.max_zero]; exact b1, b2, b3⟩
    by_cases u : W.testBit k = true
    · rw [if_pos u]
      refine brT (by decide) (r_liar w cg hk (fun hh => br0 ⟨k, rfl, by omega, ?_⟩) fun hh => br1 (skip fun z => hf hh (iw_iff.mp z).2))
      have z : iw D W k = true := iw_iff.mpr ⟨u, hh⟩
      rw [b1, show g 408 k = iN l0 by rw [b3 _ (by omega)]; exact (h.s (j := 2) (by omega) (by omega)).trans el, iN_lt (by omega) (by omega)]
      refine ⟨fun v g3 e3 => k2 _ _ ⟨rfl, ?_, fun j p => by rw [e3, xu_k p, b2 j p], fun x p => by rw [e3, xu_a p, b3 x p]⟩, fun v => k2 _ _ ⟨rfl, ?_, b2, b3⟩⟩
      · rw [e3, xu_eq, mgF_s, if_pos z, nl]; congr 1; omega
      · rw [b1, mgF_s, if_pos z, nl]; congr 1; omega
    · rw [if_neg u]
      exact brF (by decide) (skip fun z => u (iw_iff.mp z).1)
  · rintro l g ⟨rfl, b1, b2, b3⟩
    have cg := cm fun j p _ => b2 j p
    refine t_Mo_merges_7 ?_
    rw [cg.2.2.1]
    refine brF (fun z => absurd ((iN_lt (b := _) (by omega) (by omega)).mp z) (by omega)) fun g2 e2 => ?_
    rw [b1] at e2
    refine for0 (3 * dF D + 1) (fun k l g => ∃ y : Value, (y.category != 2) = true ∧ l = [.ref 400, .int (iN W), .int (iN k), y] ∧ g 400 44 = iN (mgF D S W (3 * dF D + 1)) ∧ g 400 45 = iN (max (mgF D S W (3 * dF D + 1)) (mgP D S W k)) ∧ (∀ j, ¬ j = 44 → ¬ j = 45 → g 400 j = f 400 j) ∧ ∀ x, ¬ x = 400 → g x = f x) ⟨_, rfl, rfl, by rw [e2, xu_k (by omega)]; exact b1, by rw [e2, xu_eq]; congr 1; unfold mgP mxN; omega, fun j p q => by rw [e2, xu_k q, b2 j p], fun x p => by rw [e2, xu_a p, b3 x p]⟩ ?_ ?_
    · rintro k l g hk ⟨y, hy, rfl, c1, c2, c3, c4⟩ k2
      have cg := cm c3
      have lP := mgP_le (D := D) (S := S) (W := W) (n := k)
      obtain ⟨U0, hU0⟩ : ∃ U0, U0 = max (mgF D S W (3 * dF D + 1)) (mgP D S W k) := ⟨_, rfl⟩
      refine t_Mo_merges_71 hy ?_
      rw [cg.2.2.1, iN_inc, bit1 (by omega) (by omega)]
      refine brT ((iN_lt (b := _) (by omega) (by omega)).mpr (by omega)) ?_
      have skip : ¬ iw D W k = true → Wp L xs xm_Mo_merges 71 [.ref 400, .int (iN W), .int (iN (k + 1)), y] [] g (QV Q) := fun z => k2 _ _ ⟨y, hy, rfl, c1, by rw [mgP_s, if_neg z, Nat.max_zero]; exact c2, c3, c4⟩
      by_cases u : W.testBit k = true
      · rw [if_pos u]
        refine brF (by decide) (r_liar w cg hk (fun hh => br0 ?_) fun hh => br1 (skip fun z => hf hh (iw_iff.mp z).2))
        have z : iw D W k = true := iw_iff.mpr ⟨u, hh⟩
        rw [c2, ← hU0, iN_inc]
        have bU : U0 ≤ 12 := by omega
        have p0 := pfG_le S k U0
        refine for0 (12 - U0) (fun i l h' => l = [.ref 400, .int (iN W), .int (iN k), .int (iN (U0 + 1 + i))] ∧ h' 400 44 = iN (mgF D S W (3 * dF D + 1)) ∧ h' 400 45 = iN (max U0 (mxN (pfG S k) (U0 + i))) ∧ (∀ j, ¬ j = 44 → ¬ j = 45 → h' 400 j = f 400 j) ∧ ∀ x, ¬ x = 400 → h' x = f x) ⟨rfl, c1, by rw [c2, ← hU0]; congr 1; rw [Nat.add_zero]; omega, c3, c4⟩ ?_ ?_
        · rintro i l h' hi ⟨rfl, d1, d2, d3, d4⟩ k3
          have pi := pfG_le S k (U0 + i)
          refine t_Mo_merges_105 (brT ((iN_lt (b := 13) (by omega) (by omega)).mpr (by omega)) (r_at ⟨13 * k + (U0 + 1 + i), rfl, by omega, ?_⟩))
          rw [show h' 417 (13 * k + (U0 + 1 + i)) = S 11 k (U0 + 1 + i) by rw [d4 _ (by omega)]; exact h.a (j := 3) (by omega) (by omega) (by omega) (by omega), iN_inc]
          have eg : pfG S k (U0 + i) = if S 11 k (U0 + 1 + i) = -1 then 0 else U0 + 1 + i := by
            unfold pfG
            rw [show U0 + i + 1 = U0 + 1 + i by omega]
          refine ⟨fun v => k3 _ _ ⟨by rw [show U0 + 1 + (i + 1) = U0 + 1 + i + 1 by omega], d1, ?_, d3, d4⟩, fun v g4 e4 => k3 _ _ ⟨by rw [show U0 + 1 + (i + 1) = U0 + 1 + i + 1 by omega], by rw [e4, xu_k (by omega)]; exact d1, ?_, fun j p q => by rw [e4, xu_k q, d3 j p q], fun x p => by rw [e4, xu_a p, d4 x p]⟩⟩
          · rw [d2, show U0 + (i + 1) = U0 + i + 1 by omega, mxN_s, eg, if_pos v]; congr 1; omega
          · rw [e4, xu_eq, show U0 + (i + 1) = U0 + i + 1 by omega, mxN_s, eg, if_neg v]; congr 1; omega
        · rintro l h' ⟨rfl, d1, d2, d3, d4⟩
          rw [show U0 + (12 - U0) = 12 by omega] at d2
          refine t_Mo_merges_105 (brF (fun z => absurd ((iN_lt (b := 13) (by omega) (by omega)).mp z) (by omega)) ?_)
          rw [iN_inc]
          refine k2 _ _ ⟨_, rfl, rfl, d1, ?_, d3, d4⟩
          rw [d2, mgP_s, if_pos z, hU0]; congr 1; omega
      · rw [if_neg u]
        exact brT (by decide) (skip fun z => u (iw_iff.mp z).1)
    · rintro l g ⟨y, hy, rfl, c1, c2, c3, c4⟩
      have cg := cm c3
      have c2 : g 400 45 = iN (mgU D S W (3 * dF D + 1)) := c2
      have uM : mgU D S W (3 * dF D + 1) ≤ 12 := by unfold mgU; omega
      refine t_Mo_merges_71 hy ?_
      rw [cg.2.2.1]
      refine brF (fun z => absurd ((iN_lt (b := _) (by omega) (by omega)).mp z) (by omega)) ?_
      refine for0 12 (fun k l h' => l = [.ref 400, .int (iN W), .int (iN (k + 1)), y] ∧ (∀ s, 1 ≤ s → s ≤ k → h' 426 s = if mgF D S W (3 * dF D + 1) < s ∧ s ≤ mgU D S W (3 * dF D + 1) then (mgO D S W s (3 * dF D + 1)).2 else -1) ∧ ∀ x, ¬ x = 426 → h' x = g x) ⟨rfl, fun s p q => absurd p (by omega), fun _ _ => rfl⟩ ?_ ?_
      · rintro k l h' hk ⟨rfl, d1, d2⟩ k2
        have fin : ∀ (v : Int32) (g2 : Hp), (v = if mgF D S W (3 * dF D + 1) < k + 1 ∧ k + 1 ≤ mgU D S W (3 * dF D + 1) then (mgO D S W (k + 1) (3 * dF D + 1)).2 else -1) → g2 = xu h' 426 (k + 1) v → Wp L xs xm_Mo_merges 144 [.ref 400, .int (iN W), .int (iN (k + 1) + 1), y] [] g2 (QV Q) := by
          intro v g2 ev e2
          rw [iN_inc]
          refine k2 _ _ ⟨rfl, fun s p q => ?_, fun x hx => by rw [e2, xu_a hx, d2 x hx]⟩
          rw [e2, xu_at]
          by_cases z : s = k + 1
          · subst z; rw [if_pos ⟨rfl, rfl⟩, ev]
          · rw [if_neg (fun y => z y.2)]; exact d1 s p (by omega)
        refine t_Mo_merges_144 hy (brT ((iN_lt (b := 13) (by omega) (by omega)).mpr (by omega)) ?_)
        rw [d2 400 (by omega), c1, c2, iN_lt (by omega) (by omega), iN_lt (by omega) (by omega)]
        refine ⟨fun p => ⟨fun q => ⟨k + 1, rfl, by omega, fun g2 e2 => fin _ g2 (by rw [if_neg (by omega)]) e2⟩, fun q => r_orderBy w (cg.fr (d2 400 (by omega))) (hm fun x a b => by rw [d2 x b, c4 x a]) hW (by omega) ⟨k + 1, rfl, by omega, fun g4 e4 => fin _ g4 (by rw [if_pos (by omega)]) e4⟩⟩, fun p => ⟨k + 1, rfl, by omega, fun g1 e1 => fin _ g1 (by rw [if_neg (by omega)]) e1⟩⟩
      · rintro l h' ⟨rfl, d1, d2⟩
        exact t_Mo_merges_144 hy (brF (by decide) (kk h' (by rw [d2 400 (by omega)]; exact c1) (by rw [d2 400 (by omega)]; exact c2) d1 (fun j p q => by rw [d2 400 (by omega)]; exact c3 j p q) fun x p q => by rw [d2 x q, c4 x p]))
end MERGE
