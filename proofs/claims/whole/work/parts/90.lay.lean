/-! a text is laid, on both sides -/
def pl (t k : Nat) : Nat := if t = 0 then 610 + 82 * k else if t = 1 then 774 + 161 * k else 1096 + 37 * k
def sz (t : Nat) : Nat := if t = 0 then 82 else if t = 1 then 161 else 37
theorem sz_b {t k : Nat} (hk : k < 2) : 610 ≤ pl t k ∧ pl t k + sz t ≤ 1170 ∧ sz t ≤ 161 ∧ 37 ≤ sz t := by
  unfold pl sz
  split
  · omega
  · split <;> omega
section LAY
variable {L : Nat} {xs : Nat → Int32} {f g h : Hp} {u : Nat → Int32} {o : Nat}
theorem sh_rC {D : CD} (s : shC u D) (hn : dN D ≤ 10) (e : ∀ j, j < 82 → h 401 (o + j) = u j) : rC h o D := by
  refine ⟨(e 0 (by omega)).trans s.1, (e 1 (by omega)).trans s.2.1, (e 2 (by omega)).trans s.2.2.1, (e 3 (by omega)).trans s.2.2.2.1, (e 4 (by omega)).trans s.2.2.2.2.1, fun i hi => ?_, fun j hj => ⟨?_, ?_⟩, fun a b ha hb => ?_⟩
  · rw [Nat.add_assoc]; exact (e _ (by omega)).trans (s.2.2.2.2.2.1 i hi)
  · rw [Nat.add_assoc]; exact (e _ (by omega)).trans (s.2.2.2.2.2.2.1 j hj).1
  · rw [Nat.add_assoc]; exact (e _ (by omega)).trans (s.2.2.2.2.2.2.1 j hj).2
  · rw [show o + 33 + 7 * a + b = o + (33 + 7 * a + b) by omega]; exact (e _ (by omega)).trans (s.2.2.2.2.2.2.2 a b ha hb)
theorem sh_rR {D : RD} (s : shR u D) (hn : D.1 ≤ 40) (e : ∀ j, j < 161 → h 401 (o + j) = u j) : rR h o D := by
  refine ⟨(e 0 (by omega)).trans s.1, fun k hk => ?_⟩
  have := s.2 k hk
  refine ⟨?_, ?_, ?_, ?_⟩
  · rw [Nat.add_assoc]; exact (e _ (by omega)).trans this.1
  · rw [Nat.add_assoc]; exact (e _ (by omega)).trans this.2.1
  · rw [Nat.add_assoc]; exact (e _ (by omega)).trans this.2.2.1
  · rw [Nat.add_assoc]; exact (e _ (by omega)).trans this.2.2.2
theorem sh_rP {D : PD} (s : shP u D) (hn : D.1 ≤ 12) (e : ∀ j, j < 37 → h 401 (o + j) = u j) : rP h o D := by
  refine ⟨(e 0 (by omega)).trans s.1, fun k hk => ?_⟩
  have := s.2 k hk
  refine ⟨?_, ?_, ?_⟩
  · rw [Nat.add_assoc]; exact (e _ (by omega)).trans this.1
  · rw [Nat.add_assoc]; exact (e _ (by omega)).trans this.2.1
  · rw [Nat.add_assoc]; exact (e _ (by omega)).trans this.2.2
theorem r_size {Q : Int32 → Hp → Prop} {t : Nat} (ht : t < 3) (kk : Q (iN (sz t)) f) : CI L xs xm_Mo_sizeOf [.int (iN t)] f Q := by
  refine t_Mo_sizeOf_0 ?_
  rcases (show t = 0 ∨ t = 1 ∨ t = 2 by omega) with rfl | rfl | rfl
  · exact brT rfl kk
  · exact brF (by decide) (brT rfl kk)
  · exact brF (by decide) (brF (by decide) kk)
theorem r_copy {Q : Int32 → Hp → Prop} {t k : Nat} {x2 : Int32} (ht : t < 3) (hk : k < 2) (kk : ∀ g, (∀ x, ¬ x = 401 → g x = f x) → (∀ j, j < sz t → g 401 (pl t k + j) = f 403 j) → (∀ j, ¬ (pl t k ≤ j ∧ j < pl t k + sz t) → g 401 j = f 401 j) → Q (iN k) g) : Wp L xs xm_Mo_text 307 [.ref 400, .int (iN t), .int x2, .int (iN k), .int 0] [] f (QI Q) := by
  have b := sz_b (t := t) hk
  refine for0 (sz t) (fun j l g => l = [.ref 400, .int (iN t), .int x2, .int (iN k), .int (iN j)] ∧ (∀ x, ¬ x = 401 → g x = f x) ∧ (∀ i, i < j → g 401 (pl t k + i) = f 403 i) ∧ ∀ i, ¬ (pl t k ≤ i ∧ i < pl t k + j) → g 401 i = f 401 i) ⟨rfl, fun _ _ => rfl, fun i h => absurd h (by omega), fun _ _ => rfl⟩ ?_ ?_
  · rintro j l g hj ⟨rfl, b1, b2, b3⟩ k2
    refine t_Mo_text_307 (r_size ht (brT ((iN_lt (b := _) (by omega) (by omega)).mpr (by omega)) (r_place (j := k) ht ⟨j, rfl, by omega, pl t k + j, iN_add (pl t k) j, by omega, fun g3 e3 => ?_⟩)))
    rw [b1 403 (by omega)] at e3
    rw [iN_inc]
    refine k2 _ _ ⟨rfl, fun x hx => by rw [e3, xu_a hx, b1 x hx], fun i hi => ?_, fun i hi => by rw [e3, xu_k (by omega)]; exact b3 i (by omega)⟩
    by_cases z : i = j
    · rw [z, e3, xu_eq]
    · rw [e3, xu_k (by omega)]; exact b2 i (by omega)
  · rintro l g ⟨rfl, b1, b2, b3⟩
    exact t_Mo_text_307 (r_size ht (brF (fun z => absurd ((iN_lt (b := _) (by omega) (by omega)).mp z) (by omega)) (kk g b1 b2 b3)))
theorem c_put {Q : Hp → Prop} {t k z : Nat} {X : DT} (ht : t < 3) (hk : k < 2) (cx : cX f X) (wc : wfC X.1) (wr : wfR X.2.2.1) (wp : wfP X.2.2.2) (hz : f 3 t = iN z) (hz2 : z ≤ 2) (kk : ∀ g, (t = 0 → cC g (7 + 21 * k) X.1) → (t = 1 → cR g (19 + 21 * k) X.2.2.1) → (t = 2 → cP g (24 + 21 * k) X.2.2.2) → (∀ a, ¬ a = 3 → ¬ (t = 0 ∧ 7 + 21 * k ≤ a ∧ a < 19 + 21 * k) → ¬ (t = 1 ∧ 19 + 21 * k ≤ a ∧ a < 24 + 21 * k) → ¬ (t = 2 ∧ 24 + 21 * k ≤ a ∧ a < 28 + 21 * k) → g a = f a) → g 3 t = iN (if k = z then z + 1 else z) → (∀ s, ¬ s = t → g 3 s = f 3 s) → Q g) : CV L xs xm_To_put [.ref 1, .int (iN t), .int (iN k), .ref 51] f Q := by
  have k1 : xS0 L 1 = (10, 0) := rfl
  -- the size
  have fin : ∀ h, h 3 = f 3 → (∀ g, (∀ a, ¬ a = 3 → g a = h a) → g 3 t = iN (if k = z then z + 1 else z) → (∀ s, ¬ s = t → g 3 s = f 3 s) → Q g) → Wp L xs xm_To_put 73 [.ref 1, .int (iN t), .int (iN k), .ref 51] [] h (QV Q) := fun h e kq => by
    refine t_To_put_73 k1 ⟨t, rfl, ht, ?_⟩
    have e3 : h (1 + 2) t = iN z := by
      have q := hz
      rw [← e] at q
      exact q
    rw [e3, iN_inj (by omega) (by omega), iN_inc]
    refine ⟨fun y g1 e1 => by
      have e1 : g1 = xu h 3 t (iN (z + 1)) := e1
      exact kq g1 (fun a ha => by rw [e1, xu_a ha]) (by rw [e1, if_pos y]; exact xu_eq) fun s hs => by rw [e1, xu_k hs, e], fun y => kq h (fun _ _ => rfl) (by rw [if_neg y, e]; exact hz) fun s hs => by rw [e]⟩
  have kd : xS0 L (1 + 6 + 21 * k) = (1, 0) ∧ xS0 L (1 + 18 + 21 * k) = (6, 0) ∧ xS0 L (1 + 23 + 21 * k) = (5, 0) := by
    rcases (show k = 0 ∨ k = 1 by omega) with rfl | rfl <;> exact ⟨rfl, rfl, rfl⟩
  refine t_To_put_0 k1 (brF (iN_nn (by omega)) (brT ((iN_lt (b := 3) (by omega) (by omega)).mpr (by omega)) (brF (iN_nn (by omega)) (brT ((iN_lt (b := 2) (by omega) (by omega)).mpr (by omega)) ?_))))
  rcases (show t = 0 ∨ t = 1 ∨ t = 2 by omega) with rfl | rfl | rfl
  · refine brT rfl ⟨k, rfl, hk, c_coTake kd.1 rfl (by omega) fun g p e => fin g (e 3 (by omega)) fun g' n1 s1 s2 => ?_⟩
    refine kk g' (fun _ => ?_) (fun y => by cases y) (fun y => by cases y) (fun a a1 a2 a3 a4 => by rw [n1 a a1, e a (by omega)]) s1 s2
    exact (p.co wc cx.1).fr fun a q1 q2 => n1 a (by omega)
  · refine brF (by decide) (brT rfl ⟨k, rfl, hk, c_ruTake kd.2.1 rfl (by omega) fun g p e => fin g (e 3 (by omega)) fun g' n1 s1 s2 => ?_⟩)
    refine kk g' (fun y => by cases y) (fun _ => ?_) (fun y => by cases y) (fun a a1 a2 a3 a4 => by rw [n1 a a1, e a (by omega)]) s1 s2
    exact (p.co wr cx.2.2.1).fr fun a q1 q2 => n1 a (by omega)
  · refine brF (by decide) (brF (by decide) ⟨k, rfl, hk, c_rpTake kd.2.2 rfl (by omega) fun g p e => fin g (e 3 (by omega)) fun g' n1 s1 s2 => ?_⟩)
    refine kk g' (fun y => by cases y) (fun y => by cases y) (fun _ => ?_) (fun a a1 a2 a3 a4 => by rw [n1 a a1, e a (by omega)]) s1 s2
    exact (p.co wp cx.2.2.2).fr fun a q1 q2 => n1 a (by omega)
/-- all holds with the text laid -/
theorem Inv.lay {T : TD} {t k : Nat} {X : DT} (w : wfT T) (c : cT f 1 T) (r : rT f 0 T) (im : ∀ k, k < 3 → Img f k) (ht : t < 3) (hk : k < 2) (wx : wfX X) (wy : wfY X) (h4 : X.2.1 ≤ 3 * dF X.1 + 1) (e : ∀ a, a < 51 ∨ (256 ≤ a ∧ a < 400) ∨ a = 402 → ¬ a = 1 → ¬ a = 3 → ¬ (t = 0 ∧ 7 + 21 * k ≤ a ∧ a < 19 + 21 * k) → ¬ (t = 1 ∧ 19 + 21 * k ≤ a ∧ a < 24 + 21 * k) → ¬ (t = 2 ∧ 24 + 21 * k ≤ a ∧ a < 28 + 21 * k) → g a = f a) (c1 : g 1 1 = 0 ∧ g 1 2 = 0 ∧ g 1 3 = -1) (cz : ∀ s, s < 3 → g 3 s = iN (if t = s ∧ k = tZ T s then tZ T s + 1 else tZ T s)) (cn : (t = 0 → cC g (7 + 21 * k) X.1) ∧ (t = 1 → cR g (19 + 21 * k) X.2.2.1) ∧ (t = 2 → cP g (24 + 21 * k) X.2.2.2)) (r1 : g 401 4 = 0 ∧ g 401 5 = 0 ∧ g 401 6 = -1) (rz : ∀ s, s < 3 → g 401 s = iN (if t = s ∧ k = tZ T s then tZ T s + 1 else tZ T s)) (rk : ∀ j, 10 ≤ j → ¬ (pl t k ≤ j ∧ j < pl t k + sz t) → g 401 j = f 401 j) (rn : (t = 0 → rC g (610 + 82 * k) X.1) ∧ (t = 1 → rR g (774 + 161 * k) X.2.2.1) ∧ (t = 2 → rP g (1096 + 37 * k) X.2.2.2)) : Inv g := by
  have z0 := w.2.2.1 0 (by omega)
  have z1 := w.2.2.1 1 (by omega)
  have z2 := w.2.2.1 2 (by omega)
  have w' : wfT ((0, 0, -1, T.1.2.2.2), T.2) := ⟨by show 0 ≤ 600; omega, w.2.1, w.2.2⟩
  have b := sz_b (t := t) hk
  have less : ∀ s j, s < 3 → ¬ (t = s ∧ j = k) → j < tZ (upT ((0, 0, -1, T.1.2.2.2), T.2) t k X) s → j < tZ T s := fun s j hs ne hj => by
    rw [upT_z hs] at hj
    have hj : j < if t = s ∧ k = tZ T s then tZ T s + 1 else tZ T s := hj
    split at hj <;> omega
  refine ⟨⟨upT ((0, 0, -1, T.1.2.2.2), T.2) t k X, upT_wf w' hk wx wy h4, ⟨c1.1, c1.2.1, c1.2.2, fun i hi => ?_, fun s hs => ?_, fun j hj => ?_, fun j hj => ?_, fun j hj => ?_⟩, ⟨?_, ?_, ?_, fun i hi => ?_, fun s hs => ?_, fun j hj => ?_, fun j hj => ?_, fun j hj => ?_⟩⟩, fun k' hk' => (im k' hk').co hk' (fun a ha => e a (by omega) (by omega) (by omega) (by omega) (by omega) (by omega)) fun j hj => rk j (by omega) (by omega)⟩
  · rw [e (1 + 1) (by omega) (by omega) (by omega) (by omega) (by omega) (by omega)]; exact c.2.2.2.1 i hi
  · rw [upT_z hs]; exact cz s hs
  · show cC g (1 + 6 + 21 * j) (if t = 0 ∧ j = k then X.1 else T.2.2.1 j)
    by_cases y : t = 0 ∧ j = k
    · rw [if_pos y, y.2]; exact cn.1 y.1
    · rw [if_neg y]
      have lj := less 0 j (by omega) y hj
      exact (c.2.2.2.2.2.1 j lj).fr fun a p q => e a (by omega) (by omega) (by omega) (by omega) (by omega) (by omega)
  · show cR g (1 + 18 + 21 * j) (if t = 1 ∧ j = k then X.2.2.1 else T.2.2.2.1 j)
    by_cases y : t = 1 ∧ j = k
    · rw [if_pos y, y.2]; exact cn.2.1 y.1
    · rw [if_neg y]
      have lj := less 1 j (by omega) y hj
      exact (c.2.2.2.2.2.2.1 j lj).fr fun a p q => e a (by omega) (by omega) (by omega) (by omega) (by omega) (by omega)
  · show cP g (1 + 23 + 21 * j) (if t = 2 ∧ j = k then X.2.2.2 else T.2.2.2.2 j)
    by_cases y : t = 2 ∧ j = k
    · rw [if_pos y, y.2]; exact cn.2.2 y.1
    · rw [if_neg y]
      have lj := less 2 j (by omega) y hj
      exact (c.2.2.2.2.2.2.2 j lj).fr fun a p q => e a (by omega) (by omega) (by omega) (by omega) (by omega) (by omega)
  · exact r1.1
  · exact r1.2.1
  · exact r1.2.2
  · rw [rk _ (by omega) (by omega)]; exact r.2.2.2.1 i hi
  · rw [upT_z hs, Nat.zero_add]; exact rz s hs
  · show rC g (0 + 610 + 82 * j) (if t = 0 ∧ j = k then X.1 else T.2.2.1 j)
    by_cases y : t = 0 ∧ j = k
    · rw [if_pos y, y.2]; exact rn.1 y.1
    · rw [if_neg y]
      have lj := less 0 j (by omega) y hj
      refine (r.2.2.2.2.2.1 j lj).co (w.2.2.2.1 j lj) fun a p q => rk a (by omega) ?_
      unfold pl sz
      split
      · omega
      · split <;> omega
  · show rR g (0 + 774 + 161 * j) (if t = 1 ∧ j = k then X.2.2.1 else T.2.2.2.1 j)
    by_cases y : t = 1 ∧ j = k
    · rw [if_pos y, y.2]; exact rn.2.1 y.1
    · rw [if_neg y]
      have lj := less 1 j (by omega) y hj
      refine (r.2.2.2.2.2.2.1 j lj).co (w.2.2.2.2.1 j lj) fun a p q => rk a (by omega) ?_
      unfold pl sz
      split
      · omega
      · split <;> omega
  · show rP g (0 + 1096 + 37 * j) (if t = 2 ∧ j = k then X.2.2.2 else T.2.2.2.2 j)
    by_cases y : t = 2 ∧ j = k
    · rw [if_pos y, y.2]; exact rn.2.2 y.1
    · rw [if_neg y]
      have lj := less 2 j (by omega) y hj
      refine (r.2.2.2.2.2.2.2 j lj).co (w.2.2.2.2.2 j lj) fun a p q => rk a (by omega) ?_
      unfold pl sz
      split
      · omega
      · split <;> omega
end LAY
