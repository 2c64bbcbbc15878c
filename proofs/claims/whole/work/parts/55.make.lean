/-! a view is made -/
def mkW (D : CD) (S : ST) (m : Nat) : Nat := bN (fun k => S 1 k 0 = 0 ∧ S 0 k 0 = S 0 m 0) (3 * dF D + 1)
abbrev mkvOk (D : CD) (S : ST) (m : Nat) : Prop := S 1 m 0 = 0 ∧ prim D S m = m ∧ S 16 (nb (S 0 m 0)) 0 = 0 ∧ 2 * dF D + 1 ≤ bcn (mkW D S m)
def mvS (D : CD) (S : ST) (v W : Nat) : ST := fun j v' k => if j = 16 ∧ v' = v ∧ k = 0 then 1 else if j = 17 ∧ v' = v ∧ k = 0 then iN (mgF D S W (3 * dF D + 1)) else if j = 18 ∧ v' = v ∧ k = 0 then iN (mgU D S W (3 * dF D + 1)) else if j = 19 ∧ v' = v then (mgO D S W k (3 * dF D + 1)).2 else S j v' k
def mkL (D : CD) (W : Nat) (T : ST) : Nat → ST
  | 0 => T
  | n + 1 => if W.testBit n = true then entS D (mkL D W T n) n else mkL D W T n
theorem mkL_s (D : CD) (W : Nat) (T : ST) (n : Nat) : mkL D W T (n + 1) = if W.testBit n = true then entS D (mkL D W T n) n else mkL D W T n := rfl
def mkvS (D : CD) (S : ST) (m : Nat) : ST := mkL D (mkW D S m) (mvS D S (nb (S 0 m 0)) (mkW D S m)) (3 * dF D + 1)
theorem mvS_off {D : CD} {S : ST} {v W j v' k : Nat} (h : ¬ v' = v ∨ j < 16) : mvS D S v W j v' k = S j v' k := by
  unfold mvS
  rw [if_neg (by omega), if_neg (by omega), if_neg (by omega), if_neg (by omega)]
theorem mvS_16 {D : CD} {S : ST} {v W : Nat} : mvS D S v W 16 v 0 = 1 := if_pos ⟨rfl, rfl, rfl⟩
theorem mvS_17 {D : CD} {S : ST} {v W : Nat} : mvS D S v W 17 v 0 = iN (mgF D S W (3 * dF D + 1)) := by
  unfold mvS
  rw [if_neg (by omega), if_pos ⟨rfl, rfl, rfl⟩]
theorem mvS_18 {D : CD} {S : ST} {v W : Nat} : mvS D S v W 18 v 0 = iN (mgU D S W (3 * dF D + 1)) := by
  unfold mvS
  rw [if_neg (by omega), if_neg (by omega), if_pos ⟨rfl, rfl, rfl⟩]
theorem mvS_19 {D : CD} {S : ST} {v W k : Nat} : mvS D S v W 19 v k = (mgO D S W k (3 * dF D + 1)).2 := by
  unfold mvS
  rw [if_neg (by omega), if_neg (by omega), if_neg (by omega), if_pos ⟨rfl, rfl⟩]
theorem mgU_le {D : CD} {S : ST} {W n : Nat} (ws : wfS D S) (hn : n ≤ 7) : mgU D S W n ≤ 12 := by
  have := mgF_le (W := W) ws n hn
  have := mgP_le (D := D) (S := S) (W := W) (n := n)
  unfold mgU
  omega
theorem mv_wf {D : CD} {S : ST} {v W : Nat} (w : wfC D) (ws : wfS D S) (hv : 1 ≤ v ∧ v ≤ 9) : wfS D (mvS D S v W) := by
  have hF := w.1
  obtain ⟨h1, h2, h3, h4, h5, h6, h7, h8⟩ := id ws
  have lo : ∀ j m' k, j < 16 → mvS D S v W j m' k = S j m' k := fun j m' k hj => mvS_off (Or.inr hj)
  refine ⟨fun m' hm' => ?_, fun m' s' hm' a b => ?_, fun m' b hm' hb => ?_, fun m' hm' z => ?_, fun m' hm' z s' a b => ?_, fun m' a hm' ha z1 z2 => ?_, by rw [mvS_off (by omega)]; exact h7, fun v' hv' => ?_⟩
  · rw [lo _ _ _ (by omega), lo _ _ _ (by omega), lo _ _ _ (by omega), lo _ _ _ (by omega), lo _ _ _ (by omega)]
    exact h1 m' hm'
  · rw [lo _ _ _ (by omega), lo _ _ _ (by omega), lo _ _ _ (by omega), lo _ _ _ (by omega), lo _ _ _ (by omega), lo _ _ _ (by omega)]
    exact h2 m' s' hm' a b
  · rw [lo _ _ _ (by omega)]; exact h3 m' b hm' hb
  · rw [lo _ _ _ (by omega)] at z
    exact ⟨by rw [lo _ _ _ (by omega)]; exact (h4 m' hm' z).1, fun s a b => by rw [lo _ _ _ (by omega)]; exact (h4 m' hm' z).2 s a b⟩
  · rw [lo _ _ _ (by omega)]; exact h5 m' hm' z s' a b
  · rw [lo _ _ _ (by omega)] at z1
    rw [lo _ _ _ (by omega), lo _ _ _ (by omega)] at z2
    have : cntW (fun b => mvS D S v W 14 m' b = mvS D S v W 14 m' a ∧ mvS D S v W 15 m' b = mvS D S v W 15 m' a) (3 * dF D + 1) = cntW (fun b => S 14 m' b = S 14 m' a ∧ S 15 m' b = S 15 m' a) (3 * dF D + 1) := cntW_congr _ fun b _ => by rw [lo _ _ _ (by omega), lo _ _ _ (by omega), lo _ _ _ (by omega), lo _ _ _ (by omega)]
    rw [this]
    exact h6 m' a hm' ha z1 z2
  · by_cases y : v' = v
    · subst y
      refine ⟨Or.inr mvS_16, fun _ => ⟨⟨_, mgF_le ws _ (by omega), mvS_17⟩, ⟨_, mgU_le ws (by omega), mvS_18⟩, fun s a b _ _ => ?_⟩⟩
      rw [mvS_19]; exact mgO_ord ws ⟨a, b⟩ _ (by omega)
    · have := h8 v' hv'
      rw [mvS_off (Or.inl y), mvS_off (Or.inl y), mvS_off (Or.inl y)]
      refine ⟨this.1, fun z => ⟨(this.2 z).1, (this.2 z).2.1, fun s a b c d => ?_⟩⟩
      rw [mvS_off (Or.inl y)]
      exact (this.2 z).2.2 s a b c d
theorem mkL_off {D : CD} {W : Nat} {T : ST} {j m' k : Nat} : ∀ n, n ≤ m' ∨ 16 ≤ j → mkL D W T n j m' k = T j m' k
  | 0, _ => rfl
  | n + 1, h => by
    rw [mkL_s]
    split
    · rw [entS_off (by omega), mkL_off n (by omega)]
    · exact mkL_off n (by omega)
theorem mkL_wf {D : CD} {W v : Nat} {T : ST} (w : wfC D) (ws : wfS D T) (hv : v ≤ 9) (mv : ¬ T 16 v 0 = 0) (hW : ∀ k, W.testBit k = true → T 0 k 0 = iN v) : ∀ n, n ≤ 7 → wfS D (mkL D W T n)
  | 0, _ => ws
  | n + 1, hn => by
    have ih := mkL_wf w ws hv mv hW n (by omega)
    rw [mkL_s]
    split
    · rename_i z
      refine ent_wf w ih (by omega) ?_
      rw [mkL_off n (by omega), mkL_off n (by omega), hW n z, nb_iN (by omega)]
      exact mv
    · exact ih
theorem mkW_t {D : CD} {S : ST} {m k : Nat} (h : (mkW D S m).testBit k = true) : k < 3 * dF D + 1 ∧ S 1 k 0 = 0 ∧ S 0 k 0 = S 0 m 0 := by
  unfold mkW at h
  rw [bN_bit, Bool.and_eq_true, decide_eq_true_iff, decide_eq_true_iff] at h
  exact h
theorem mkW_lt {D : CD} (w : wfC D) {S : ST} {m : Nat} : mkW D S m < 128 := by
  have hF := w.1
  refine Nat.lt_of_lt_of_le (bN_lt _ _) ?_
  exact Nat.le_trans (Nat.pow_le_pow_right (by omega) (show 3 * dF D + 1 ≤ 7 by omega)) (by decide)
theorem mkv_wf {D : CD} {S : ST} {m : Nat} (w : wfC D) (ws : wfS D S) (hm : m < 7) (ok : mkvOk D S m) : wfS D (mkvS D S m) := by
  have hF := w.1
  obtain ⟨v, v1, v9, ev⟩ := (ws.2.2.2.1 m hm ok.1).1
  have nv : nb (S 0 m 0) = v := by rw [ev, nb_iN (by omega)]
  unfold mkvS
  rw [nv]
  refine mkL_wf w (mv_wf w ws ⟨v1, v9⟩) v9 (by rw [mvS_16]; decide) (fun k z => ?_) _ (by omega)
  rw [mvS_off (by omega), (mkW_t z).2.2]; exact ev
section MAKE
variable {L : Nat} {xs : Nat → Int32} {f g : Hp} {D : CD} {S S' : ST} {o0 : Nat}
theorem cA.view {v : Nat} {T : ST} (h : cA f D S) (hv : v < 10) (e : ∀ x, x < 170 + 3 * v ∨ 170 + 3 * v + 3 ≤ x → g x = f x) (eT : ∀ j m k, ¬ m = v ∨ j < 16 → T j m k = S j m k) (n : cVw g (170 + 3 * v) T v) : cA g D T := by
  obtain ⟨h1, h2, h3, h4, h5⟩ := h
  refine ⟨h1.fr fun a p q => e a (by omega), by rw [e 75 (by omega)]; exact h2, by rw [e 75 (by omega)]; exact h3, fun m hm => ?_, fun v' hv' => ?_⟩
  · obtain ⟨a1, a2, a3, a4, a5, a6, a7, a8⟩ := h4 m hm
    refine ⟨fun j hj => by rw [e _ (by omega), eT _ _ _ (by omega)]; exact a1 j hj, by rw [e _ (by omega)]; exact a2, by rw [e _ (by omega)]; exact a3, fun i hi => by rw [e _ (by omega), eT _ _ _ (by omega)]; exact a4 i hi, fun hq i hi => ?_, fun j s hj p q => by rw [e _ (by omega), eT _ _ _ (by omega)]; exact a6 j s hj p q, fun b hb => by rw [e _ (by omega), eT _ _ _ (by omega)]; exact a7 b hb, fun b hb hq => ?_⟩
    · rw [eT _ _ _ (by omega)] at hq
      rw [e _ (by omega), eT _ _ _ (by omega)]; exact a5 hq i hi
    · rw [eT _ _ _ (by omega)] at hq
      rw [e _ (by omega), eT _ _ _ (by omega)]; exact a8 b hb hq
  · by_cases y : v' = v
    · rw [y]; exact n
    · obtain ⟨a1, a2⟩ := h5 v' hv'
      refine ⟨by rw [e _ (by omega), eT _ _ _ (Or.inl y)]; exact a1, fun hq => ?_⟩
      rw [eT _ _ _ (Or.inl y)] at hq
      obtain ⟨b1, b2, b3⟩ := a2 hq
      refine ⟨by rw [e _ (by omega), eT _ _ _ (Or.inl y)]; exact b1, by rw [e _ (by omega), eT _ _ _ (Or.inl y)]; exact b2, fun s p q r t => ?_⟩
      rw [eT _ _ _ (Or.inl y)] at r t
      rw [e _ (by omega), eT _ _ _ (Or.inl y)]; exact b3 s p q r t
theorem rM.view {v : Nat} {T : ST} (h : rM f S) (hv : v < 10) (e : ∀ x, 406 ≤ x → x ≤ 421 → g x = f x) (e2 : ∀ v', ¬ v' = v → v' < 10 → g 422 v' = f 422 v' ∧ g 423 v' = f 423 v' ∧ g 424 v' = f 424 v' ∧ ∀ s, 1 ≤ s → s ≤ 12 → g 425 (13 * v' + s) = f 425 (13 * v' + s)) (eT : ∀ j m k, ¬ m = v ∨ j < 16 → T j m k = S j m k) (n : g 422 v = T 16 v 0 ∧ (¬ T 16 v 0 = 0 → g 423 v = T 17 v 0 ∧ g 424 v = T 18 v 0 ∧ ∀ s, 1 ≤ s → s ≤ 12 → g 425 (13 * v + s) = if T 17 v 0 < iN s ∧ ¬ T 18 v 0 < iN s then T 19 v s else -1)) : rM g T := by
  obtain ⟨a1, a2, a3, a4, a5, a6, a7⟩ := h
  refine ⟨fun j m hj hm => by rw [e _ (by omega) (by omega), eT _ _ _ (by omega)]; exact a1 j m hj hm, fun m i hm hi => by rw [e _ (by omega) (by omega), eT _ _ _ (by omega)]; exact a2 m i hm hi, fun m i hm hi hq => ?_, fun j m s hj hm p q => by rw [e _ (by omega) (by omega), eT _ _ _ (by omega)]; exact a4 j m s hj hm p q, fun m b hm hb => by rw [e _ (by omega) (by omega), eT _ _ _ (by omega)]; exact a5 m b hm hb, fun m b hm hb hq => ?_, fun v' hv' => ?_⟩
  · rw [eT _ _ _ (by omega)] at hq
    rw [e _ (by omega) (by omega), eT _ _ _ (by omega)]; exact a3 m i hm hi hq
  · rw [eT _ _ _ (by omega)] at hq
    rw [e _ (by omega) (by omega), eT _ _ _ (by omega)]; exact a6 m b hm hb hq
  · by_cases y : v' = v
    · rw [y]; exact n
    · obtain ⟨q1, q2, q3, q4⟩ := e2 v' y hv'
      have := a7 v' hv'
      rw [q1, q2, q3, eT _ _ _ (Or.inl y), eT _ _ _ (Or.inl y), eT _ _ _ (Or.inl y)]
      refine ⟨this.1, fun z => ⟨(this.2 z).1, (this.2 z).2.1, fun s p q => ?_⟩⟩
      rw [q4 s p q, eT _ _ _ (Or.inl y)]; exact (this.2 z).2.2 s p q
theorem c_makeView {Q : Int32 → Hp → Prop} {m : Nat} (w : wfC D) (ws : wfS D S) (h : cA f D S) (hm : m < 7) (h1 : mkvOk D S m → ∀ g, cA g D (mkvS D S m) → FrA f g → Q 1 g) (h0 : ¬ mkvOk D S m → Q 0 f) : CI L xs xm_As_makeView [.ref 75, .int (iN m)] f Q := by
  have hF := w.1
  obtain ⟨⟨v, hv, ev⟩, -⟩ := ws.1 m hm
  have nv : nb (S 0 m 0) = v := by rw [ev, nb_iN (by omega)]
  have hv10 : v < 10 := by omega
  have ep : prim D S m = v % (3 * dF D + 1) := by unfold prim; rw [nv]
  refine t_As_makeView_0 ⟨m, rfl, hm, ?_⟩
  rw [h.s hm (by omega), h.s hm (by omega)]
  refine ⟨fun p => ?_, fun p => h0 fun z => p z.1⟩
  rw [show S 0 m 0 = iN v from ev]
  refine c_prim w h (by omega) ?_
  have hp : v % (3 * dF D + 1) < 3 * dF D + 1 := Nat.mod_lt _ (by omega)
  rw [iN_inj (by omega) (by omega)]
  refine ⟨fun p2 => ⟨v, rfl, hv10, ?_⟩, fun p2 => h0 fun z => p2 (by rw [← ep]; exact z.2.1)⟩
  rw [(h.2.2.2.2 v hv10).1]
  refine ⟨fun p3 => ?_, fun p3 => h0 fun z => p3 (by have := z.2.2.1; rw [nv] at this; exact this)⟩
  refine for0 (3 * dF D + 1) (fun k l g => l = [.ref 75, .int (iN m), .int (iN v), .int (iN (bN (fun k => S 1 k 0 = 0 ∧ S 0 k 0 = S 0 m 0) k)), .int (iN k)] ∧ g = f) ⟨rfl, rfl⟩ ?_ ?_
  · rintro k l g hk ⟨rfl, rfl⟩ k2
    refine t_As_makeView_50 ?_
    rw [h.2.1, iN_inc]
    refine brT ((iN_lt (b := _) (by omega) (by omega)).mpr (by omega)) ⟨k, rfl, by omega, ?_⟩
    rw [h.s (m := k) (by omega) (by omega), h.s (m := k) (by omega) (by omega), or1 _ _ (by omega)]
    refine ⟨fun u => ⟨fun u2 => k2 _ _ ⟨?_, rfl⟩, fun u2 => k2 _ _ ⟨?_, rfl⟩⟩, fun u => k2 _ _ ⟨?_, rfl⟩⟩
    · rw [bN_s, if_pos ⟨u, u2.trans ev.symm⟩]
    · rw [bN_s, if_neg fun z => u2 (z.2.trans ev)]
    · rw [bN_s, if_neg fun z => u z.1]
  · rintro l g ⟨rfl, rfl⟩
    refine t_As_makeView_50 ?_
    rw [h.2.1]
    refine brF (fun z => absurd ((iN_lt (b := _) (by omega) (by omega)).mp z) (by omega)) ?_
    have hW := mkW_lt w (S := S) (m := m)
    rw [show bN (fun k => S 1 k 0 = 0 ∧ S 0 k 0 = S 0 m 0) (3 * dF D + 1) = mkW D S m from rfl]
    have hbc := bcn_le (mkW D S m)
    refine c_bitCount hW ?_
    rw [h.2.2.1, iN_lt (by omega) (by omega)]
    refine ⟨fun u => h0 fun z => by have := z.2.2.2; omega, fun u => ⟨v, rfl, hv10, ?_⟩⟩
    have ok : mkvOk D S m := ⟨p, by rw [ep]; exact p2, by rw [nv]; exact p3, by omega⟩
    have v1 : 1 ≤ v := by
      obtain ⟨v', a, b, e⟩ := (ws.2.2.2.1 m hm p).1
      have := (iN_inj (by omega) (by omega)).mp (ev.symm.trans e)
      omega
    refine c_merge w ws (k_view hv10) (by omega) h (fun g' x1 x2 => h.view hv10 x1 (fun _ _ _ _ => rfl) ⟨x2.trans p3.symm, fun z => absurd p3 z⟩) hW fun g2 c0 c1 c2 c3 c4 g3 e3 => ?_
    have hT : cA g3 D (mvS D S v (mkW D S m)) := h.view hv10 (fun x hx => by rw [e3, xu_a (by omega)]; exact c4 x hx) (fun j m' k z => mvS_off z) ⟨by rw [e3, xu_eq, mvS_16], fun _ => ⟨by rw [e3, xu_k (by omega), mvS_17]; exact c1, by rw [e3, xu_k (by omega), mvS_18]; exact c2, fun s a b _ _ => by rw [e3, xu_a (by omega), mvS_19]; exact c3 s a b⟩⟩
    have fT : FrA g g3 := fun x hx => by rw [e3, xu_a (by omega)]; exact c4 x (by omega)
    have wT := mv_wf w ws (W := mkW D S m) ⟨v1, hv⟩
    have t16 : ¬ mvS D S v (mkW D S m) 16 v 0 = 0 := by rw [mvS_16]; decide
    have tW : ∀ k, (mkW D S m).testBit k = true → mvS D S v (mkW D S m) 0 k 0 = iN v := fun k z => by rw [mvS_off (by omega), (mkW_t z).2.2]; exact ev
    have h1' := h1 ok
    unfold mkvS at h1'
    rw [nv] at h1'
    refine for0 (3 * dF D + 1) (fun k l g' => l = [.ref 75, .int (iN m), .int (iN v), .int (iN (mkW D S m)), .int (iN k)] ∧ cA g' D (mkL D (mkW D S m) (mvS D S v (mkW D S m)) k) ∧ FrA g g') ⟨rfl, hT, fT⟩ ?_ ?_
    · rintro k l g' hk ⟨rfl, b1, b2⟩ k2
      have wk := mkL_wf w wT hv t16 tW k (by omega)
      refine t_As_makeView_136 ?_
      rw [b1.2.1, iN_inc]
      refine brT ((iN_lt (b := _) (by omega) (by omega)).mpr (by omega)) (c_hasBit (by omega) (by omega) (fun u2 => br1 ?_) fun u2 => br0 (k2 _ _ ⟨rfl, ?_, b2⟩))
      · refine c_enter w wk b1 (by omega) ?_ ?_ fun g4 c4 f4 => k2 _ _ ⟨rfl, ?_, b2.trans f4⟩
        · rw [mkL_off k (by omega), mvS_off (by omega)]; exact (mkW_t u2).2.1
        · rw [mkL_off k (by omega), mkL_off k (by omega), tW k u2, nb_iN (by omega)]; exact t16
        · rw [mkL_s, if_pos u2]; exact c4
      · rw [mkL_s, if_neg (by rw [u2]; decide)]; exact b1
    · rintro l g' ⟨rfl, b1, b2⟩
      refine t_As_makeView_136 ?_
      rw [b1.2.1]
      exact brF (fun z => absurd ((iN_lt (b := _) (by omega) (by omega)).mp z) (by omega)) (h1' g' b1 b2)
theorem r_makes {Q : Int32 → Hp → Prop} {m : Nat} (w : wfC D) (ws : wfS D S) (cu : cur f o0 D) (h : rM f S) (hm : m < 3 * dF D + 1) (h1 : mkvOk D S m → ∀ g, rM g (mkvS D S m) → FrM f g → FrK f g → Q 1 g) (h0 : ¬ mkvOk D S m → Q 0 f) : CI L xs xm_Mo_makes [.ref 400, .int (iN m)] f Q := by
  have hF := w.1
  have hm7 : m < 7 := by omega
  obtain ⟨⟨v, hv, ev⟩, -⟩ := ws.1 m hm7
  have nv : nb (S 0 m 0) = v := by rw [ev, nb_iN (by omega)]
  have hv10 : v < 10 := by omega
  have ep : prim D S m = v % (3 * dF D + 1) := by unfold prim; rw [nv]
  have x0 : f 406 m = iN v := (h.s (j := 0) hm7 (by omega)).trans ev
  refine t_Mo_makes_0 ⟨m, rfl, hm7, ?_⟩
  rw [show f 407 m = S 1 m 0 from h.s (j := 1) hm7 (by omega)]
  refine ⟨fun p => ⟨v, x0, hv10, ?_⟩, fun p => h0 fun z => p z.1⟩
  rw [(h.2.2.2.2.2.2 v hv10).1]
  refine ⟨fun p3 => ?_, fun p3 => h0 fun z => p3 (by have := z.2.2.1; rw [nv] at this; exact this)⟩
  have hp : v % (3 * dF D + 1) < 3 * dF D + 1 := Nat.mod_lt _ (by omega)
  rw [cu.2.2.1, x0, jrem_iN (by omega) (by omega), iN_inj (by omega) (by omega)]
  refine ⟨fun z => absurd ((iN_inj (b := 0) (by omega) (by omega)).mp z) (by omega), fun p2 => ?_, fun p2 => h0 fun z => p2 (by rw [← ep]; exact z.2.1)⟩
  refine for0 (3 * dF D + 1) (fun k l g => l = [.ref 400, .int (iN m), .int (iN v), .int (iN (bN (fun k => S 1 k 0 = 0 ∧ S 0 k 0 = S 0 m 0) k)), .int (iN k)] ∧ g = f) ⟨rfl, rfl⟩ ?_ ?_
  · rintro k l g hk ⟨rfl, rfl⟩ k2
    refine t_Mo_makes_42 ?_
    rw [cu.2.2.1, iN_inc]
    refine brT ((iN_lt (b := _) (by omega) (by omega)).mpr (by omega)) ⟨k, rfl, by omega, ?_⟩
    rw [show g 407 k = S 1 k 0 from h.s (j := 1) (by omega) (by omega), show g 406 k = S 0 k 0 from h.s (j := 0) (by omega) (by omega), or1 _ _ (by omega), or0]
    refine ⟨fun u => ⟨fun u2 => k2 _ _ ⟨?_, rfl⟩, fun u2 => k2 _ _ ⟨?_, rfl⟩⟩, fun u => k2 _ _ ⟨?_, rfl⟩⟩
    · rw [bN_s, if_pos ⟨u, u2.trans ev.symm⟩]
    · rw [bN_s, if_neg fun z => u2 (z.2.trans ev)]
    · rw [bN_s, if_neg fun z => u z.1]
  · rintro l g ⟨rfl, rfl⟩
    refine t_Mo_makes_42 ?_
    rw [cu.2.2.1]
    refine brF (fun z => absurd ((iN_lt (b := _) (by omega) (by omega)).mp z) (by omega)) ?_
    have hW := mkW_lt w (S := S) (m := m)
    rw [show bN (fun k => S 1 k 0 = 0 ∧ S 0 k 0 = S 0 m 0) (3 * dF D + 1) = mkW D S m from rfl]
    have hbc := bcn_le (mkW D S m)
    refine r_bitsOf hW ?_
    rw [cu.2.2.2.1, iN_lt (by omega) (by omega)]
    refine ⟨fun u => h0 fun z => by have := z.2.2.2; omega, fun u => ?_⟩
    have ok : mkvOk D S m := ⟨p, by rw [ep]; exact p2, by rw [nv]; exact p3, by omega⟩
    have v1 : 1 ≤ v := by
      obtain ⟨v', a, b, e⟩ := (ws.2.2.2.1 m hm7 p).1
      have := (iN_inj (by omega) (by omega)).mp (ev.symm.trans e)
      omega
    refine r_merges w ws cu h hW fun g2 c1 c2 c3 c4 c5 => ⟨v, rfl, hv10, fun g3 e3 g4 e4 g5 e5 => ?_⟩
    have lF := mgF_le (W := mkW D S m) ws (3 * dF D + 1) (by omega)
    have lU := mgU_le (W := mkW D S m) (n := 3 * dF D + 1) ws (by omega)
    rw [show g3 400 44 = _ from (by rw [e3, xu_a (by omega)]; exact c1 : g3 400 44 = iN (mgF D S (mkW D S m) (3 * dF D + 1)))] at e4
    rw [show g4 400 45 = _ from (by rw [e4, xu_a (by omega), e3, xu_a (by omega)]; exact c2 : g4 400 45 = iN (mgU D S (mkW D S m) (3 * dF D + 1)))] at e5
    have n5 : ∀ x, ¬ x = 422 → ¬ x = 423 → ¬ x = 424 → g5 x = g2 x := fun x a b c => by rw [e5, xu_a c, e4, xu_a b, e3, xu_a a]
    have wT := mv_wf w ws (W := mkW D S m) ⟨v1, hv⟩
    have t16 : ¬ mvS D S v (mkW D S m) 16 v 0 = 0 := by rw [mvS_16]; decide
    have tW : ∀ k, (mkW D S m).testBit k = true → mvS D S v (mkW D S m) 0 k 0 = iN v := fun k z => by rw [mvS_off (by omega), (mkW_t z).2.2]; exact ev
    have h1' := h1 ok
    unfold mkvS at h1'
    rw [nv] at h1'
    refine for0 12 (fun k l g' => l = [.ref 400, .int (iN m), .int (iN v), .int (iN (mkW D S m)), .int (iN (k + 1))] ∧ (∀ v' s, v' < 10 → 1 ≤ s → s ≤ 12 → g' 425 (13 * v' + s) = if v' = v ∧ s ≤ k then g2 426 s else g 425 (13 * v' + s)) ∧ ∀ x, ¬ x = 425 → g' x = g5 x) ⟨rfl, fun v' s _ _ _ => by rw [if_neg (by omega), n5 _ (by omega) (by omega) (by omega), c5 _ (by omega) (by omega)], fun _ _ => rfl⟩ ?_ ?_
    · rintro k l g' hk ⟨rfl, b1, b2⟩ k2
      refine t_Mo_makes_137 (brT ((iN_lt (b := 13) (by omega) (by omega)).mpr (by omega)) ⟨k + 1, rfl, by omega, 13 * v + (k + 1), by simp only [lit, iN_add, iN_mul], by omega, fun g6 e6 => ?_⟩)
      rw [iN_inc]
      refine k2 _ _ ⟨rfl, fun v' s a b c => ?_, fun x hx => by rw [e6, xu_a hx, b2 x hx]⟩
      rw [e6, xu_at]
      by_cases z : v' = v ∧ s = k + 1
      · obtain ⟨rfl, rfl⟩ := z
        rw [if_pos ⟨rfl, rfl⟩, if_pos ⟨rfl, by omega⟩, b2 _ (by omega), n5 _ (by omega) (by omega) (by omega)]
      · rw [if_neg (by omega), b1 v' s a b c]
        by_cases y : v' = v ∧ s ≤ k
        · rw [if_pos y, if_pos (by omega)]
        · rw [if_neg y, if_neg (by omega)]
    · rintro l g' ⟨rfl, b1, b2⟩
      refine t_Mo_makes_137 (brF (by decide) ?_)
      have n9 : ∀ x, ¬ x = 400 → ¬ x = 422 → ¬ x = 423 → ¬ x = 424 → ¬ x = 425 → ¬ x = 426 → g' x = g x := fun x a b c d e i => by rw [b2 x e, n5 x b c d, c5 x a i]
      have hT : rM g' (mvS D S v (mkW D S m)) := by
        refine h.view hv10 (fun x a b => n9 x (by omega) (by omega) (by omega) (by omega) (by omega) (by omega)) (fun v' a b => ⟨?_, ?_, ?_, fun s c d => by rw [b1 v' s b c d, if_neg (fun y => a y.1)]⟩) (fun j m' k z => mvS_off z) ⟨?_, fun _ => ⟨?_, ?_, fun s a b => ?_⟩⟩
        · rw [b2 _ (by omega), e5, xu_a (by omega), e4, xu_a (by omega), e3, xu_k a, c5 _ (by omega) (by omega)]
        · rw [b2 _ (by omega), e5, xu_a (by omega), e4, xu_k a, e3, xu_a (by omega), c5 _ (by omega) (by omega)]
        · rw [b2 _ (by omega), e5, xu_k a, e4, xu_a (by omega), e3, xu_a (by omega), c5 _ (by omega) (by omega)]
        · rw [b2 _ (by omega), e5, xu_a (by omega), e4, xu_a (by omega), e3, xu_eq, mvS_16]
        · rw [b2 _ (by omega), e5, xu_a (by omega), e4, xu_eq, mvS_17]
        · rw [b2 _ (by omega), e5, xu_eq, mvS_18]
        · rw [b1 v s hv10 a b, if_pos ⟨rfl, b⟩, c3 s a b, mvS_17, mvS_18, mvS_19]
          by_cases y : mgF D S (mkW D S m) (3 * dF D + 1) < s ∧ s ≤ mgU D S (mkW D S m) (3 * dF D + 1)
          · rw [if_pos y, if_pos (by rw [iN_lt (by omega) (by omega), iN_lt (by omega) (by omega)]; omega)]
          · rw [if_neg y, if_neg (by rw [iN_lt (by omega) (by omega), iN_lt (by omega) (by omega)]; omega)]
      have mT : FrM g g' := fun x hx hy => n9 x hy (by omega) (by omega) (by omega) (by omega) (by omega)
      have kT : FrK g g' := fun j hj => by rw [b2 _ (by omega), n5 _ (by omega) (by omega) (by omega)]; exact c4 j (by omega) (by omega)
      refine for0 (3 * dF D + 1) (fun k l h' => l = [.ref 400, .int (iN m), .int (iN v), .int (iN (mkW D S m)), .int (iN k)] ∧ rM h' (mkL D (mkW D S m) (mvS D S v (mkW D S m)) k) ∧ FrM g h' ∧ FrK g h') ⟨rfl, hT, mT, kT⟩ ?_ ?_
      · rintro k l h' hk ⟨rfl, d1, d2, d3⟩ k2
        have wk := mkL_wf w wT hv t16 tW k (by omega)
        refine t_Mo_makes_172 ?_
        rw [(cu.k d3).2.2.1, iN_inc, bit1 (by omega) (by omega)]
        refine brT ((iN_lt (b := _) (by omega) (by omega)).mpr (by omega)) ?_
        by_cases u2 : (mkW D S m).testBit k = true
        · rw [if_pos u2]
          refine brT (by decide) (r_enters w wk (cu.k d3) d1 hk ?_ fun g4 c4 m4 k4 => k2 _ _ ⟨rfl, ?_, d2.trans m4, d3.trans k4⟩)
          · rw [mkL_off k (by omega), mkL_off k (by omega), tW k u2, nb_iN (by omega)]; exact t16
          · rw [mkL_s, if_pos u2]; exact c4
        · rw [if_neg u2]
          refine brF (by decide) (k2 _ _ ⟨rfl, ?_, d2, d3⟩)
          rw [mkL_s, if_neg u2]; exact d1
      · rintro l h' ⟨rfl, d1, d2, d3⟩
        refine t_Mo_makes_172 ?_
        rw [(cu.k d3).2.2.1]
        exact brF (fun z => absurd ((iN_lt (b := _) (by omega) (by omega)).mp z) (by omega)) (h1' h' d1 d2 d3)
end MAKE
