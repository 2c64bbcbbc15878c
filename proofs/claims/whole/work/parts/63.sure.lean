/-! what is sure of a place -/
abbrev okW (D : CD) (S : ST) (s W : Nat) : Prop := bcn W = 2 * dF D + 1 ∧ ¬ (iN W &&& (iN (dL D) ^^^ (-1))) = 0 ∧ mgF D S W (3 * dF D + 1) < s
def ovW (D : CD) (S : ST) (s W : Nat) : Int32 := if mgF D S W (3 * dF D + 1) < s ∧ s ≤ mgU D S W (3 * dF D + 1) then (mgO D S W s (3 * dF D + 1)).2 else -1
def loN (D : CD) (S : ST) (s n : Nat) : Nat := cntW (fun W => okW D S s W ∧ (ovW D S s W = -1 ∨ ovW D S s W = 10)) n
def suN (D : CD) (S : ST) (s : Nat) : Nat → Int32
  | 0 => -2
  | n + 1 => if okW D S s n then (if suN D S s n = -2 ∨ suN D S s n = ovW D S s n then ovW D S s n else -1) else suN D S s n
theorem suN_s (D : CD) (S : ST) (s n : Nat) : suN D S s (n + 1) = if okW D S s n then (if suN D S s n = -2 ∨ suN D S s n = ovW D S s n then ovW D S s n else -1) else suN D S s n := rfl
section SURE
variable {L : Nat} {xs : Nat → Int32} {f g : Hp} {D : CD} {S S' : ST} {R : RD} {T : TD} {o0 : Nat}
theorem lo_p {s n : Nat} (h : okW D S s n ∧ (ovW D S s n = -1 ∨ ovW D S s n = 10)) : loN D S s (n + 1) = loN D S s n + 1 := cnt_pos (p := fun W => okW D S s W ∧ (ovW D S s W = -1 ∨ ovW D S s W = 10)) h
theorem lo_n {s n : Nat} (h : ¬ (okW D S s n ∧ (ovW D S s n = -1 ∨ ovW D S s n = 10))) : loN D S s (n + 1) = loN D S s n := cnt_neg (p := fun W => okW D S s W ∧ (ovW D S s W = -1 ∨ ovW D S s W = 10)) h
theorem su_stay {s n : Nat} (h : suN D S s n = -1) : ∀ d, suN D S s (n + d) = -1
  | 0 => h
  | d + 1 => by
    have ih := su_stay h d
    rw [← Nat.add_assoc, suN_s, ih]
    split
    · split
      · rename_i z
        rcases z with z | z
        · exact absurd z (by decide)
        · exact z.symm
      · rfl
    · rfl
theorem c_counts {Q : Int32 → Hp → Prop} {W s : Nat} (w : wfC D) (ws : wfS D S) (h : cA f D S) (hW : W < 128) (hs : 1 ≤ s ∧ s ≤ 12) (h1 : okW D S s W → ∀ g, cA g D S → (∀ x, x < 252 ∨ 255 ≤ x → g x = f x) → g 252 1 = iN (mgF D S W (3 * dF D + 1)) → g 252 2 = iN (mgU D S W (3 * dF D + 1)) → (∀ s, 1 ≤ s → s ≤ 12 → g 253 s = (mgO D S W s (3 * dF D + 1)).2) → Q 1 g) (h0 : ¬ okW D S s W → ∀ g, cA g D S → (∀ x, x < 252 ∨ 255 ≤ x → g x = f x) → Q 0 g) : CI L xs xm_As_counts [.ref 75, .int (iN W), .int (iN s), .ref 252] f Q := by
  have hF := w.1
  refine t_As_counts_0 rfl (c_isQuorumSet rfl h.1.1 hF hW (fun q => br1 ?_) fun q => br0 (h0 (fun z => q z.1) f h fun _ _ => rfl))
  rw [h.1.2.2.2.1]
  refine ⟨fun z => h0 (fun y => y.2.1 z) f h fun _ _ => rfl, fun z => ?_⟩
  have lF := mgF_le (W := W) ws (3 * dF D + 1) (by omega)
  refine c_merge w ws rfl (by omega) h (fun g' e _ => h.fr fun x a b _ => e x (by omega)) hW fun g3 m0 m1 m2 m3 m4 => ?_
  have cg : cA g3 D S := h.fr fun x a b _ => m4 x (by omega)
  rw [m1, iN_lt (by omega) (by omega)]
  exact ⟨fun u => h1 ⟨q, z, u⟩ g3 cg m4 m1 m2 m3, fun u => h0 (fun y => u y.2.2) g3 cg m4⟩
theorem c_ordAt {Q : Int32 → Hp → Prop} {W s : Nat} (w : wfC D) (ws : wfS D S) (hs : 1 ≤ s ∧ s ≤ 12) (m1 : f 252 1 = iN (mgF D S W (3 * dF D + 1))) (m2 : f 252 2 = iN (mgU D S W (3 * dF D + 1))) (m3 : ∀ s, 1 ≤ s → s ≤ 12 → f 253 s = (mgO D S W s (3 * dF D + 1)).2) (kk : Q (ovW D S s W) f) : CI L xs xm_Mg_orderAt [.ref 252, .int (iN s)] f Q := by
  have hF := w.1
  have lF := mgF_le (W := W) ws (3 * dF D + 1) (by omega)
  have lU := mgU_le (W := W) (n := 3 * dF D + 1) ws (by omega)
  refine t_Mg_orderAt_0 rfl (c_isP hs (br1 ?_))
  unfold ovW at kk
  rw [m1, m2, iN_lt (by omega) (by omega), iN_lt (by omega) (by omega)]
  refine ⟨fun q => ⟨fun q2 => ?_, fun q2 => ⟨s, rfl, by omega, ?_⟩⟩, fun q => ?_⟩
  · rw [if_neg (by omega)] at kk; exact kk
  · rw [if_pos (by omega)] at kk; rw [m3 s hs.1 hs.2]; exact kk
  · rw [if_neg (by omega)] at kk; exact kk
theorem c_lostAt {Q : Int32 → Hp → Prop} {s : Nat} (w : wfC D) (ws : wfS D S) (h : cA f D S) (hs : 1 ≤ s ∧ s ≤ 12) (kk : ∀ g, (∀ x, x < 252 ∨ 255 ≤ x → g x = f x) → Q (iN (loN D S s (2 ^ (3 * dF D + 1)))) g) : CI L xs xm_As_lostAt [.ref 75, .int (iN s), .ref 252] f Q := by
  have hF := w.1
  have pw : 2 ^ (3 * dF D + 1) ≤ 128 := Nat.le_trans (Nat.pow_le_pow_right (by omega) (show 3 * dF D + 1 ≤ 7 by omega)) (by decide)
  refine t_As_lostAt_0 rfl ?_
  refine for0 (2 ^ (3 * dF D + 1)) (fun n l g => ∃ y : Value, (y.category != 2) = true ∧ l = [.ref 75, .int (iN s), .ref 252, .int (iN (loN D S s n)), .int (iN n), y] ∧ cA g D S ∧ ∀ x, x < 252 ∨ 255 ≤ x → g x = f x) ⟨.retAddr 0, rfl, rfl, h, fun _ _ => rfl⟩ ?_ ?_
  · rintro n l g hn ⟨y, hy, rfl, b1, b2⟩ k2
    refine t_As_lostAt_5 rfl hy ?_
    rw [b1.2.1, shl1 (by omega), iN_inc, iN_inc, show iN (loN D S s n) + 0 = iN (loN D S s n) from by simp]
    refine brT ((iN_lt (b := _) (by omega) (by omega)).mpr (by omega)) (c_counts w ws b1 (by omega) hs (fun ok g1 c1 e1 m1 m2 m3 => br1 (c_ordAt w ws hs m1 m2 m3 ?_)) fun nk g1 c1 e1 => br0 (k2 _ _ ⟨y, hy, by rw [lo_n (fun z => nk z.1)], c1, fun x hx => by rw [e1 x hx, b2 x hx]⟩))
    have e2 : ∀ x, x < 252 ∨ 255 ≤ x → g1 x = f x := fun x hx => by rw [e1 x hx, b2 x hx]
    exact ⟨fun z => k2 _ _ ⟨.int (ovW D S s n), rfl, by rw [lo_p ⟨ok, Or.inl z⟩], c1, e2⟩, fun z => ⟨fun z2 => k2 _ _ ⟨.int (ovW D S s n), rfl, by rw [lo_p ⟨ok, Or.inr z2⟩], c1, e2⟩, fun z2 => k2 _ _ ⟨.int (ovW D S s n), rfl, by rw [lo_n (fun v => v.2.elim z z2)], c1, e2⟩⟩⟩
  · rintro l g ⟨y, hy, rfl, b1, b2⟩
    refine t_As_lostAt_5 rfl hy ?_
    rw [b1.2.1, shl1 (by omega)]
    exact brF (fun z => absurd ((iN_lt (b := _) (by omega) (by omega)).mp z) (by omega)) (kk g b2)
theorem c_sureAt {Q : Int32 → Hp → Prop} {s : Nat} (w : wfC D) (ws : wfS D S) (h : cA f D S) (hs : 1 ≤ s ∧ s ≤ 12) (kk : ∀ g, (∀ x, x < 252 ∨ 255 ≤ x → g x = f x) → Q (if suN D S s (2 ^ (3 * dF D + 1)) = -2 then -1 else suN D S s (2 ^ (3 * dF D + 1))) g) : CI L xs xm_As_sureAt [.ref 75, .int (iN s), .ref 252] f Q := by
  have hF := w.1
  have pw : 2 ^ (3 * dF D + 1) ≤ 128 := Nat.le_trans (Nat.pow_le_pow_right (by omega) (show 3 * dF D + 1 ≤ 7 by omega)) (by decide)
  refine t_As_sureAt_0 rfl ?_
  refine for0 (2 ^ (3 * dF D + 1)) (fun n l g => ∃ y : Value, (y.category != 2) = true ∧ l = [.ref 75, .int (iN s), .ref 252, .int (suN D S s n), .int (iN n), y] ∧ cA g D S ∧ ∀ x, x < 252 ∨ 255 ≤ x → g x = f x) ⟨.retAddr 0, rfl, rfl, h, fun _ _ => rfl⟩ ?_ ?_
  · rintro n l g hn ⟨y, hy, rfl, b1, b2⟩ k2
    refine t_As_sureAt_6 rfl hy ?_
    rw [b1.2.1, shl1 (by omega), iN_inc]
    refine brT ((iN_lt (b := _) (by omega) (by omega)).mpr (by omega)) (c_counts w ws b1 (by omega) hs (fun ok g1 c1 e1 m1 m2 m3 => br1 (c_ordAt w ws hs m1 m2 m3 ?_)) fun nk g1 c1 e1 => br0 (k2 _ _ ⟨y, hy, by rw [suN_s, if_neg nk], c1, fun x hx => by rw [e1 x hx, b2 x hx]⟩))
    have e2 : ∀ x, x < 252 ∨ 255 ≤ x → g1 x = f x := fun x hx => by rw [e1 x hx, b2 x hx]
    have es := suN_s D S s n
    rw [if_pos ok] at es
    have out : suN D S s (n + 1) = -1 → Q (-1) g1 := fun u => by
      have := su_stay u (2 ^ (3 * dF D + 1) - (n + 1))
      rw [show n + 1 + (2 ^ (3 * dF D + 1) - (n + 1)) = 2 ^ (3 * dF D + 1) by omega] at this
      have K := kk g1 e2
      rw [this, if_neg (by decide)] at K
      exact K
    refine ⟨fun z => out ?_, fun z => ⟨fun z2 => k2 _ _ ⟨.int (ovW D S s n), rfl, by rw [es, if_pos (Or.inl z2)], c1, e2⟩, fun z2 => ⟨fun z3 => k2 _ _ ⟨.int (ovW D S s n), rfl, by rw [es, if_pos (Or.inr z3)], c1, e2⟩, fun z3 => out ?_⟩⟩⟩
    · rw [es, z, ite_self]
    · rw [es, if_neg (fun v => v.elim z2 z3)]
  · rintro l g ⟨y, hy, rfl, b1, b2⟩
    have K := kk g b2
    refine t_As_sureAt_6 rfl hy ?_
    rw [b1.2.1, shl1 (by omega)]
    refine brF (fun z => absurd ((iN_lt (b := _) (by omega) (by omega)).mp z) (by omega)) ⟨fun z => ?_, fun z => ?_⟩
    · rw [if_pos z] at K; exact K
    · rw [if_neg z] at K; exact K
theorem r_sure {Q : Int32 → Hp → Prop} {s : Nat} {x y z b : Int32} (w : wfC D) (ws : wfS D S) (cu : cur f o0 D) (h : rM f S) (hs : 1 ≤ s ∧ s ≤ 12) (kk : ∀ g, (∀ x, ¬ x = 400 → ¬ x = 426 → g x = f x) → Q (if b = 0 then (if suN D S s (2 ^ (3 * dF D + 1)) = -2 then -1 else suN D S s (2 ^ (3 * dF D + 1))) else iN (loN D S s (2 ^ (3 * dF D + 1)))) g) : Wp L xs xm_Mo_sure 34 [.ref 400, .int x, .int y, .int z, .int (iN s), .int b, .int (-2), .int 0, .int 0, .retAddr 0] [] f (QI Q) := by
  have hF := w.1
  have pw : 2 ^ (3 * dF D + 1) ≤ 128 := Nat.le_trans (Nat.pow_le_pow_right (by omega) (show 3 * dF D + 1 ≤ 7 by omega)) (by decide)
  refine for0 (2 ^ (3 * dF D + 1)) (fun n l g => ∃ u : Value, (u.category != 2) = true ∧ l = [.ref 400, .int x, .int y, .int z, .int (iN s), .int b, .int (suN D S s n), .int (iN (loN D S s n)), .int (iN n), u] ∧ (∀ j, ¬ j = 44 → ¬ j = 45 → g 400 j = f 400 j) ∧ ∀ x, ¬ x = 400 → ¬ x = 426 → g x = f x) ⟨.retAddr 0, rfl, rfl, fun _ _ _ => rfl, fun _ _ _ => rfl⟩ ?_ ?_
  · rintro n l g hn ⟨u, hu, rfl, b1, b2⟩ k2
    have cg : cur g o0 D := cu.co fun j p q => b1 j (by omega) (by omega)
    have hg : rM g S := h.fr fun x p q => b2 x (by omega) (by omega)
    refine t_Mo_sure_34 hu ?_
    rw [cg.2.2.1, shl1 (by omega), iN_inc]
    have hbc := bcn_le n
    refine brT ((iN_lt (b := _) (by omega) (by omega)).mpr (by omega)) (r_bitsOf (by omega) ?_)
    rw [cg.2.2.2.1, cg.2.2.2.2.2.2.1, iN_inj (by omega) (by omega)]
    have no : ∀ g1 : Hp, (∀ j, ¬ j = 44 → ¬ j = 45 → g1 400 j = g 400 j) → (∀ x, ¬ x = 400 → ¬ x = 426 → g1 x = g x) → ¬ okW D S s n → Wp L xs xm_Mo_sure 34 [.ref 400, .int x, .int y, .int z, .int (iN s), .int b, .int (suN D S s n), .int (iN (loN D S s n)), .int (iN (n + 1)), u] [] g1 (QI Q) := fun g1 e1 e2 nk => k2 _ _ ⟨u, hu, by rw [suN_s, if_neg nk, lo_n (fun z => nk z.1)], fun j p q => by rw [e1 j p q, b1 j p q], fun x p q => by rw [e2 x p q, b2 x p q]⟩
    refine ⟨fun q => ⟨fun q2 => no g (fun _ _ _ => rfl) (fun _ _ _ => rfl) fun v => v.2.1 q2, fun q2 => ?_⟩, fun q => no g (fun _ _ _ => rfl) (fun _ _ _ => rfl) fun v => q v.1⟩
    have lF := mgF_le (W := n) ws (3 * dF D + 1) (by omega)
    refine r_merges w ws cg hg (by omega) fun g2 p1 p2 p3 p4 p5 => ?_
    rw [p1, iN_lt (by omega) (by omega)]
    refine ⟨fun q3 => ⟨s, rfl, by omega, ?_⟩, fun q3 => no g2 p4 p5 fun v => q3 v.2.2⟩
    have ok : okW D S s n := ⟨q, q2, q3⟩
    have ov : g2 426 s = ovW D S s n := p3 s hs.1 hs.2
    rw [ov]
    have es := suN_s D S s n
    rw [if_pos ok] at es
    have c1 : ∀ j, ¬ j = 44 → ¬ j = 45 → g2 400 j = f 400 j := fun j p q => by rw [p4 j p q, b1 j p q]
    have c2 : ∀ x, ¬ x = 400 → ¬ x = 426 → g2 x = f x := fun x p q => by rw [p5 x p q, b2 x p q]
    have go : ∀ e : Nat, loN D S s (n + 1) = loN D S s n + e → Wp L xs xm_Mo_sure 119 [.ref 400, .int x, .int y, .int z, .int (iN s), .int b, .int (suN D S s n), .int (iN (loN D S s n)), .int (iN n), .int (ovW D S s n)] [.int (iN e), .int (iN (loN D S s n))] g2 (QI Q) := fun e he => by
      refine t_Mo_sure_119 ?_
      rw [iN_add, ← he, iN_inc]
      exact ⟨fun z => k2 _ _ ⟨.int (ovW D S s n), rfl, by rw [es, if_pos (Or.inl z)], c1, c2⟩, fun z => ⟨fun z2 => k2 _ _ ⟨.int (ovW D S s n), rfl, by rw [es, if_pos (Or.inr z2)], c1, c2⟩, fun z2 => k2 _ _ ⟨.int (ovW D S s n), rfl, by rw [es, if_neg (fun v => v.elim z z2)], c1, c2⟩⟩⟩
    exact ⟨fun v => go 1 (lo_p ⟨ok, Or.inl v⟩), fun v => ⟨fun v2 => go 1 (lo_p ⟨ok, Or.inr v2⟩), fun v2 => go 0 (lo_n fun t => t.2.elim v v2)⟩⟩
  · rintro l g ⟨u, hu, rfl, b1, b2⟩
    have cg : cur g o0 D := cu.co fun j p q => b1 j (by omega) (by omega)
    have K := kk g b2
    refine t_Mo_sure_34 hu ?_
    rw [cg.2.2.1, shl1 (by omega)]
    refine brF (fun z => absurd ((iN_lt (b := _) (by omega) (by omega)).mp z) (by omega)) ⟨fun p => ?_, fun p => ?_⟩
    · rw [if_pos p] at K
      refine ⟨fun v => ?_, fun v => ?_⟩
      · rw [if_pos v] at K; exact K
      · rw [if_neg v] at K; exact K
    · rw [if_neg p] at K; exact K
theorem op_sure (i : Inv f) (x y z u v : Int32) : CI L xs xm_TP_sure [.ref 0, .int x, .int y, .int z, .int u, .int v] f (fun r g => CI L xs xm_Mo_sure [.ref 400, .int x, .int y, .int z, .int u, .int v] g (fun w h => w = r ∧ Inv h)) := by
  obtain ⟨⟨T, w, c, rt⟩, im⟩ := id i
  refine t_TP_sure_0 (c_isPlace (fun s s1 s2 e => br1 ?_) fun no => br0 ?_)
  · subst e
    refine c_reaches w c (fun D S hg g ca fa => br1 ?_) fun ng g fa => br0 (t_Mo_sure_0 (r_reachesN w (rt.fr (fa 401 (by omega))) ng fun g2 fm => br0 ⟨rfl, i.q fa.c fm.r⟩))
    obtain ⟨wc, ws⟩ := gd_w w hg
    have fin : ∀ {r : Int32} {g3 : Hp}, (∀ x, x < 252 ∨ 255 ≤ x → g3 x = g x) → (if v = 0 then (if suN D S s (2 ^ (3 * dF D + 1)) = -2 then -1 else suN D S s (2 ^ (3 * dF D + 1))) else iN (loN D S s (2 ^ (3 * dF D + 1)))) = r → CI L xs xm_Mo_sure [.ref 400, .int x, .int y, .int z, .int (iN s), .int v] g3 (fun w h => w = r ∧ Inv h) := fun {r g3} e er => by
      have rt3 : rT g3 0 T := rt.fr (by rw [e 401 (by omega), fa 401 (by omega)])
      refine t_Mo_sure_0 (r_reaches w rt3 hg fun g2 o0 ho cu rc hr fm => br1 (r_isIn (a := 1) (b := 12) (by omega) (by omega) (fun k a b _ => br1 ?_) fun nn => absurd rfl (nn s s1 s2)))
      refine r_sure wc ws cu hr ⟨s1, s2⟩ fun g4 e4 => ⟨er, i.q (g := g3) (fun a ha => by rw [e a (by omega), fa a (by omega)]) fun a ha => ?_⟩
      rw [e4 a (by omega) (by omega), fm a (by omega) (by omega)]
    exact ⟨fun p => c_sureAt wc ws ca ⟨s1, s2⟩ fun g3 e3 => fin e3 (if_pos p), fun p => c_lostAt wc ws ca ⟨s1, s2⟩ fun g3 e3 => fin e3 (if_neg p)⟩
  · exact t_Mo_sure_0 (r_reach2 w rt (fun D S hg g o0 ho cu rc hr fm => br1 (r_isIn (a := 1) (b := 12) (by omega) (by omega) (fun k a b e => absurd e (no k a b)) fun _ => br0 ⟨rfl, i.q (fun _ _ => rfl) fm.r⟩)) fun g fm => br0 ⟨rfl, i.q (fun _ _ => rfl) fm.r⟩)
end SURE
