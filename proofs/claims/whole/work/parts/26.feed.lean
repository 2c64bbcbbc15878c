/-! feed -/
def wsel (a b c d e : Int32) (j : Nat) : Int32 := if j < 4 then a else if j < 8 then b else if j < 12 then c else if j < 16 then d else e
def rby (w : Int32) (j : Nat) : Int32 := (w >>> (iN (24 - 8 * (j % 4)) &&& 31)) &&& 255
theorem byt_nc (y : Int32) : y &&& 255 = iN (y &&& 255).toNatClampNeg ∧ (y &&& 255).toNatClampNeg < 256 := by
  obtain ⟨u, hu, e⟩ := byt_lt y
  rw [e, iN_nc (by omega)]
  exact ⟨rfl, hu⟩
def fdT (t : Nat → Nat) (n : Nat) (a b c d e : Int32) (j : Nat) : Nat := if n ≤ j ∧ j < n + 20 then (rby (wsel a b c d e (j - n)) (j - n)).toNatClampNeg else t j
section FEED
variable {L : Nat} {xs : Nat → Int32} {f : Hp}
theorem wr1 {Q : Hp → Prop} {w : Int32} {s n : Nat} (hs : s < 32) (hn : f 1 1 = iN n) (hb : n < 600) (k : ∀ g, g 1 1 = iN (n + 1) → (∀ j, ¬ j = 1 → g 1 j = f 1 j) → (∀ i, g 2 i = if i = n then (w >>> (iN s &&& 31)).toInt8.toInt32 else f 2 i) → (∀ a, ¬ a = 1 → ¬ a = 2 → g a = f a) → Wp L xs xm_To_write 3 [.ref 1, .int w, .int (iN s + (-8))] [] g (QV Q)) : Wp L xs xm_To_write 3 [.ref 1, .int w, .int (iN s)] [] f (QV Q) := by
  refine t_To_write_3 rfl (brF (iN_nn (by omega)) (brT (by rw [hn]; exact ((iN_lt (b := 600) (by omega) (by omega)).mpr (by omega))) ⟨n, hn, hb, fun g1 e1 g2 e2 => ?_⟩))
  have q1 : g1 1 1 = iN n := by rw [e1, xu_a (by omega), hn]
  rw [q1, iN_inc] at e2
  rw [byt_two] at e1
  refine k g2 (by rw [e2, xu_eq]) (fun j hj => by rw [e2, xu_k hj, e1, xu_a (by omega)]) (fun i => ?_) fun a h1 h2 => by rw [e2, xu_a h1, e1, xu_a h2]
  rw [e2, xu_a (by omega), e1]
  show xu f 2 n _ 2 i = _
  rw [xu_at]
  by_cases h : i = n
  · rw [if_pos ⟨rfl, h⟩, if_pos h]
  · rw [if_neg (fun z => h z.2), if_neg h]
theorem c_write {Q : Hp → Prop} {w : Int32} {n : Nat} (hn : f 1 1 = iN n) (hb : n + 4 ≤ 600) (k : ∀ g, g 1 1 = iN (n + 4) → (∀ j, ¬ j = 1 → g 1 j = f 1 j) → (∀ i, g 2 i = if n ≤ i ∧ i < n + 4 then (w >>> (iN (24 - 8 * (i - n)) &&& 31)).toInt8.toInt32 else f 2 i) → (∀ a, ¬ a = 1 → ¬ a = 2 → g a = f a) → Q g) : CV L xs xm_To_write [.ref 1, .int w] f Q := by
  refine t_To_write_0 rfl ?_
  refine wr1 (s := 24) (by omega) hn (by omega) fun g1 a1 b1 c1 d1 => ?_
  rw [show iN 24 + (-8) = iN 16 by decide]
  refine wr1 (s := 16) (by omega) a1 (by omega) fun g2 a2 b2 c2 d2 => ?_
  rw [show iN 16 + (-8) = iN 8 by decide]
  refine wr1 (s := 8) (by omega) a2 (by omega) fun g3 a3 b3 c3 d3 => ?_
  rw [show iN 8 + (-8) = iN 0 by decide]
  refine wr1 (s := 0) (by omega) a3 (by omega) fun g4 a4 b4 c4 d4 => ?_
  refine t_To_write_3 rfl (brT (by decide) ?_)
  refine k g4 a4 (fun j hj => by rw [b4 j hj, b3 j hj, b2 j hj, b1 j hj]) (fun i => ?_) fun a p q => by rw [d4 a p q, d3 a p q, d2 a p q, d1 a p q]
  rw [c4, c3, c2, c1]
  by_cases h : n ≤ i ∧ i < n + 4
  · rw [if_pos h]
    have : i = n ∨ i = n + 1 ∨ i = n + 2 ∨ i = n + 3 := by omega
    rcases this with e | e | e | e
    · rw [if_neg (by omega), if_neg (by omega), if_neg (by omega), if_pos e, show 24 - 8 * (i - n) = 24 by omega]
    · rw [if_neg (by omega), if_neg (by omega), if_pos (by omega), show 24 - 8 * (i - n) = 16 by omega]
    · rw [if_neg (by omega), if_pos (by omega), show 24 - 8 * (i - n) = 8 by omega]
    · rw [if_pos (by omega), show 24 - 8 * (i - n) = 0 by omega]
  · rw [if_neg h, if_neg (by omega), if_neg (by omega), if_neg (by omega), if_neg (by omega)]
theorem r_feed {Q : Int32 → Hp → Prop} {a b c d e : Int32} {n : Nat} (hn : f 401 4 = iN n) (hb : n + 20 ≤ 600) (k : ∀ g, g 401 4 = iN (n + 20) → (∀ j, g 401 (10 + j) = if n ≤ j ∧ j < n + 20 then rby (wsel a b c d e (j - n)) (j - n) else f 401 (10 + j)) → (∀ j, j < 10 → ¬ j = 4 → g 401 j = f 401 j) → (∀ a, ¬ a = 401 → g a = f a) → Q (iN (n + 20)) g) : CI L xs xm_Mo_feed [.ref 400, .int a, .int b, .int c, .int d, .int e] f Q := by
  refine t_Mo_feed_0 (brF (by rw [hn, show iN n + 20 = iN (n + 20) from iN_add n 20]; exact (fun z => absurd ((iN_lt (a := 600) (by omega) (by omega)).mp z) (by omega))) ?_)
  refine for0 20 (fun k l g => ∃ v : Value, (v.category != 2) = true ∧ l = [.ref 400, .int a, .int b, .int c, .int d, .int e, .int (iN k), v] ∧ g 401 4 = iN (n + k) ∧ (∀ j, g 401 (10 + j) = if n ≤ j ∧ j < n + k then rby (wsel a b c d e (j - n)) (j - n) else f 401 (10 + j)) ∧ (∀ j, j < 10 → ¬ j = 4 → g 401 j = f 401 j) ∧ ∀ a, ¬ a = 401 → g a = f a) ⟨.retAddr 0, rfl, rfl, hn, fun j => by rw [if_neg (by omega)], fun _ _ _ => rfl, fun _ _ => rfl⟩ ?_ ?_
  · rintro i l g hi ⟨v, hv, rfl, h4, h10, hlo, ha⟩ kk
    have st : ∀ s0 : Int32, s0 = wsel a b c d e i → Wp L xs xm_Mo_feed 73 [.ref 400, .int a, .int b, .int c, .int d, .int e, .int (iN i), v] [.int s0] g (QI Q) := by
      intro s0 hs0
      refine t_Mo_feed_73 hv ⟨10 + (n + i), by rw [h4]; exact iN_add 10 _, by omega, fun g1 e1 g2 e2 => ?_⟩
      have q1 : g1 401 4 = iN (n + i) := by rw [e1, xu_k (by omega), h4]
      rw [q1, iN_inc] at e2
      have es : (24 - 8 * jrem (iN i) 4) = iN (24 - 8 * (i % 4)) := by
        rw [show jrem (iN i) 4 = iN (i % 4) from jrem_iN (b := 4) (by omega) (by omega), show 8 * iN (i % 4) = iN (8 * (i % 4)) from iN_mul 8 _]
        exact iN_sub (a := 24) (by omega)
      rw [es] at e1
      rw [iN_inc]
      refine kk _ g2 ⟨.int s0, rfl, rfl, by rw [e2, xu_eq]; rfl, fun j => ?_, fun j p q => by rw [e2, xu_k (by omega), e1, xu_k (by omega)]; exact hlo j p q, fun a p => by rw [e2, xu_a p, e1, xu_a p]; exact ha a p⟩
      rw [e2, xu_k (by omega), e1, xu_at]
      by_cases h : j = n + i
      · rw [if_pos ⟨rfl, by omega⟩, if_pos (by omega), hs0, show j - n = i by omega]; rfl
      · rw [if_neg (by omega), h10 j]
        by_cases h2 : n ≤ j ∧ j < n + i
        · rw [if_pos h2, if_pos (by omega)]
        · rw [if_neg h2, if_neg (by omega)]
    refine t_Mo_feed_20 hv (brT ((iN_lt (b := 20) (by omega) (by omega)).mpr (by omega)) ?_)
    by_cases h1 : i < 4
    · exact brT ((iN_lt (b := 4) (by omega) (by omega)).mpr (by omega)) (st _ (by unfold wsel; rw [if_pos h1]))
    · refine brF (fun z => absurd ((iN_lt (b := 4) (by omega) (by omega)).mp z) (by omega)) ?_
      by_cases h2 : i < 8
      · exact brT ((iN_lt (b := 8) (by omega) (by omega)).mpr (by omega)) (st _ (by unfold wsel; rw [if_neg h1, if_pos h2]))
      · refine brF (fun z => absurd ((iN_lt (b := 8) (by omega) (by omega)).mp z) (by omega)) ?_
        by_cases h3 : i < 12
        · exact brT ((iN_lt (b := 12) (by omega) (by omega)).mpr (by omega)) (st _ (by unfold wsel; rw [if_neg h1, if_neg h2, if_pos h3]))
        · refine brF (fun z => absurd ((iN_lt (b := 12) (by omega) (by omega)).mp z) (by omega)) ?_
          by_cases h4 : i < 16
          · exact brT ((iN_lt (b := 16) (by omega) (by omega)).mpr (by omega)) (st _ (by unfold wsel; rw [if_neg h1, if_neg h2, if_neg h3, if_pos h4]))
          · exact brF (fun z => absurd ((iN_lt (b := 16) (by omega) (by omega)).mp z) (by omega)) (st _ (by unfold wsel; rw [if_neg h1, if_neg h2, if_neg h3, if_neg h4]))
  · rintro l g ⟨v, hv, rfl, h4, h10, hlo, ha⟩
    refine t_Mo_feed_20 hv (brF (fun z => absurd ((iN_lt (b := 20) (by omega) (by omega)).mp z) (by omega)) ?_)
    rw [h4]
    exact k g h4 h10 hlo ha
theorem op_feed (i : Inv f) (a b c d e : Int32) : CI L xs xm_TP_feed [.ref 0, .int a, .int b, .int c, .int d, .int e] f (fun v g => CI L xs xm_Mo_feed [.ref 400, .int a, .int b, .int c, .int d, .int e] g (fun w h => w = v ∧ Inv h)) := by
  obtain ⟨⟨T, w, ct, r⟩, im⟩ := id i
  have hn := ct.1
  have hr := r.1
  rw [Nat.zero_add] at hr
  have hb := w.1
  refine t_TP_feed_0 ⟨fun p => ?_, fun p => ?_⟩
  · rw [hn] at p
    exact t_Mo_feed_0 (brT (by rw [hr]; exact p) ⟨rfl, i⟩)
  · rw [hn, show iN T.1.1 + 20 = iN (T.1.1 + 20) from iN_add _ 20] at p
    have hb2 : T.1.1 + 20 ≤ 600 := by
      rcases Nat.lt_or_ge 600 (T.1.1 + 20) with q | q
      · exact absurd (((iN_lt (a := 600) (by omega) (by omega)).mpr (by omega))) p
      · exact q
    generalize hN : T.1.1 = n at *
    refine c_write hn (by omega) fun g1 a1 b1 c1 d1 => ?_
    refine c_write a1 (by omega) fun g2 a2 b2 c2 d2 => ?_
    refine c_write a2 (by omega) fun g3 a3 b3 c3 d3 => ?_
    refine c_write a3 (by omega) fun g4 a4 b4 c4 d4 => ?_
    refine c_write a4 (by omega) fun g5 a5 b5 c5 d5 => ?_
    have D : ∀ x, ¬ x = 1 → ¬ x = 2 → g5 x = f x := fun x p q => by rw [d5 x p q, d4 x p q, d3 x p q, d2 x p q, d1 x p q]
    have B : ∀ j, ¬ j = 1 → g5 1 j = f 1 j := fun j p => by rw [b5 j p, b4 j p, b3 j p, b2 j p, b1 j p]
    refine r_feed (n := n) (by rw [D 401 (by omega) (by omega)]; exact hr) hb2 fun g6 a6 b6 c6 d6 => ⟨a5.symm ▸ rfl, ?_⟩
    refine Inv.head w ct r im (n + 20, T.1.2.1, T.1.2.2.1, fdT T.1.2.2.2 n a b c d e) ⟨hb2, fun j hj => ?_⟩ (fun x p q1 q2 => by rw [d6 x (by omega), D x q1 q2]) (fun k hk => ?_) ⟨?_, ?_, ?_, fun j hj => ?_⟩ ⟨a6, ?_, ?_, fun j hj => ?_⟩
    · show fdT T.1.2.2.2 n a b c d e j < 256
      unfold fdT
      by_cases h : n ≤ j ∧ j < n + 20
      · rw [if_pos h]; exact (byt_nc _).2
      · rw [if_neg h]; exact w.2.1 j hj
    · rcases hk with hk | hk
      · rw [c6 k (by omega) (by omega), D 401 (by omega) (by omega)]
      · have := b6 (k - 10)
        rw [show 10 + (k - 10) = k by omega, if_neg (by omega)] at this
        rw [this, D 401 (by omega) (by omega)]
    · rw [d6 1 (by omega)]; exact a5
    · rw [d6 1 (by omega), B 2 (by omega)]; exact ct.2.1
    · rw [d6 1 (by omega), B 3 (by omega)]; exact ct.2.2.1
    · rw [d6 2 (by omega), c5, c4, c3, c2, c1]
      have old : f 2 j = sgn (T.1.2.2.2 j) := ct.2.2.2.1 j hj
      show _ = sgn (fdT T.1.2.2.2 n a b c d e j)
      unfold fdT
      by_cases h : n ≤ j ∧ j < n + 20
      · rw [if_pos h]
        have key : ∀ (z : Int32) (s : Nat), z = wsel a b c d e (j - n) → s = 24 - 8 * ((j - n) % 4) → (z >>> (iN s &&& 31)).toInt8.toInt32 = sgn (rby (wsel a b c d e (j - n)) (j - n)).toNatClampNeg := by
          intro z s e1 e2
          rw [e1, e2]
          exact byt_sgn (byt_nc _).1
        by_cases h4 : n + 4 + 4 + 4 + 4 ≤ j
        · rw [if_pos (by omega)]
          exact key _ _ (by unfold wsel; rw [if_neg (by omega), if_neg (by omega), if_neg (by omega), if_neg (by omega)]) (by omega)
        · rw [if_neg (by omega)]
          by_cases h3 : n + 4 + 4 + 4 ≤ j
          · rw [if_pos (by omega)]
            exact key _ _ (by unfold wsel; rw [if_neg (by omega), if_neg (by omega), if_neg (by omega), if_pos (by omega)]) (by omega)
          · rw [if_neg (by omega)]
            by_cases h2 : n + 4 + 4 ≤ j
            · rw [if_pos (by omega)]
              exact key _ _ (by unfold wsel; rw [if_neg (by omega), if_neg (by omega), if_pos (by omega)]) (by omega)
            · rw [if_neg (by omega)]
              by_cases h1 : n + 4 ≤ j
              · rw [if_pos (by omega)]
                exact key _ _ (by unfold wsel; rw [if_neg (by omega), if_pos (by omega)]) (by omega)
              · rw [if_neg (by omega), if_pos (by omega)]
                exact key _ _ (by unfold wsel; rw [if_pos (by omega)]) (by omega)
      · rw [if_neg h, if_neg (by omega), if_neg (by omega), if_neg (by omega), if_neg (by omega), if_neg (by omega)]
        exact old
    · rw [c6 5 (by omega) (by omega), D 401 (by omega) (by omega)]; have := r.2.1; rw [Nat.zero_add] at this; exact this
    · rw [c6 6 (by omega) (by omega), D 401 (by omega) (by omega)]; have := r.2.2.1; rw [Nat.zero_add] at this; exact this
    · rw [b6]
      show _ = iN (fdT T.1.2.2.2 n a b c d e j)
      unfold fdT
      by_cases h : n ≤ j ∧ j < n + 20
      · rw [if_pos h, if_pos h]; exact (byt_nc _).1
      · rw [if_neg h, if_neg h, D 401 (by omega) (by omega)]; have := r.2.2.2.1 j hj; rw [Nat.zero_add] at this; exact this
end FEED
