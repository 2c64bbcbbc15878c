/-! runs by a seed -/
def nx (x : Int32) : Int32 := x * 1103515245 + 12345
def bl (x : Int32) (n : Nat) : Nat := nb (jushr (nx x) 16) % n
theorem ju16 (x : Int32) : ∃ u, u < 65536 ∧ jushr x 16 = iN u := by
  have e : ((16 : Int32).toUInt32 &&& Int32.toUInt32 31) = 16 := by decide
  unfold jushr
  rw [e]
  refine ⟨(x.toUInt32 >>> 16).toNat, ?_, ?_⟩
  · rw [UInt32.toNat_shiftRight]
    show x.toUInt32.toNat >>> (16 % 32) < 65536
    rw [Nat.shiftRight_eq_div_pow]
    have := x.toUInt32.toNat_lt
    rw [show 2 ^ (16 % 32) = 65536 from by decide]
    omega
  · generalize x.toUInt32 >>> 16 = y
    unfold iN
    apply Int32.toBitVec_inj.mp
    simp
theorem bl_lt {x : Int32} {n : Nat} (h : 0 < n) : bl x n < n := Nat.mod_lt _ h
theorem bl_v (x : Int32) {n : Nat} (hn : n < 2147483648) : jrem (jushr (nx x) 16) (iN n) = iN (bl x n) := by
  obtain ⟨u, hu, e⟩ := ju16 (nx x)
  unfold bl
  rw [e, jrem_iN (by omega) hn, nb_iN (by omega)]
def kdN (k t : Nat) : Nat := if k = 2 ∨ k = 3 then 1 else if k = 4 ∨ k = 5 then 2 else if k = 6 then 3 else if k = 7 then 4 else if k = 8 then (if t = 0 then 5 else if t = 1 then 6 else 7) else 8
/-- the other one drawn, and the seed behind it -/
def dB (D : CD) (x : Int32) (a : Nat) : Nat := if 1 < 3 * dF D + 1 then (a + 1 + bl x (3 * dF D)) % (3 * dF D + 1) else 0
def dX (D : CD) (x : Int32) : Int32 := if 1 < 3 * dF D + 1 then nx x else x
def dS4 (D : CD) (S : ST) (k a b s : Nat) (x : Int32) : Int32 × ST := if k < 2 then (nx x, (stp D S 0 a s (bl x 10)).getD S) else if k = 8 then (nx x, (stp D S (kdN 8 (bl x 4)) a b s).getD S) else (x, (stp D S (kdN k 0) a b s).getD S)
def dr1 (D : CD) (p : Int32 × ST) : Int32 × ST := dS4 D p.2 (bl p.1 10) (bl (nx p.1) (3 * dF D + 1)) (dB D (nx (nx p.1)) (bl (nx p.1) (3 * dF D + 1))) (1 + bl (dX D (nx (nx p.1))) 12) (nx (dX D (nx (nx p.1))))
def drw (D : CD) (x : Int32) : Nat → Int32 × ST
  | 0 => (x, s0S D)
  | n + 1 => dr1 D (drw D x n)
theorem drw_s (D : CD) (x : Int32) (n : Nat) : drw D x (n + 1) = dr1 D (drw D x n) := rfl
section DRAWN
variable {L : Nat} {xs : Nat → Int32} {f g : Hp} {D : CD} {S S' : ST} {R : RD} {T : TD} {o0 : Nat}
theorem dB_lt (D : CD) (x : Int32) (a : Nat) : dB D x a < 3 * dF D + 1 := by
  unfold dB
  split
  · exact Nat.mod_lt _ (by omega)
  · omega
theorem kdN_le (k t : Nat) : kdN k t ≤ 8 := by
  unfold kdN
  repeat' split
  all_goals omega
theorem wfD_k {K a b s : Nat} (hK : K ≤ 8) (h0 : ¬ K = 0) (ha : a ≤ 6) (hb : b ≤ 6) (hs : 1 ≤ s ∧ s ≤ 12) : wfD K a (iN b) (iN s) := ⟨hK, ha, fun z => absurd z h0, fun _ => ⟨⟨b, hb, rfl⟩, s, hs.1, hs.2, rfl⟩, fun _ => ⟨b, hb, rfl⟩⟩
theorem wfD_0 {a s o : Nat} (ha : a ≤ 6) (hs : 1 ≤ s ∧ s ≤ 12) (ho : o ≤ 9) : wfD 0 a (iN s) (iN o) := ⟨by omega, ha, fun _ => ⟨⟨s, hs.1, hs.2, rfl⟩, o, ho, rfl⟩, fun z => absurd z (by omega), fun z => absurd z (by omega)⟩
theorem kdN_n0 (k t : Nat) : ¬ kdN k t = 0 := by
  unfold kdN
  repeat' split
  all_goals omega
theorem getD_wf {K a : Nat} {B C : Int32} (w : wfC D) (ws : wfS D S) (wd : wfD K a B C) : wfS D ((stp D S K a (nb B) (nb C)).getD S) := by
  cases e : stp D S K a (nb B) (nb C)
  · exact ws
  · exact stp_wf w ws wd e
theorem dS4_wf {k a b s : Nat} {x : Int32} (w : wfC D) (ws : wfS D S) (ha : a ≤ 6) (hb : b ≤ 6) (hs : 1 ≤ s ∧ s ≤ 12) : wfS D (dS4 D S k a b s x).2 := by
  have h0 : ∀ o, o ≤ 9 → wfS D ((stp D S 0 a s o).getD S) := fun o ho => by
    have := getD_wf w ws (wfD_0 ha hs ho)
    rwa [nb_iN (by omega), nb_iN (by omega)] at this
  have h1 : ∀ K, K ≤ 8 → ¬ K = 0 → wfS D ((stp D S K a b s).getD S) := fun K hK hn => by
    have := getD_wf w ws (wfD_k hK hn ha hb hs)
    rwa [nb_iN (by omega), nb_iN (by omega)] at this
  unfold dS4
  split
  · exact h0 _ (by have := bl_lt (x := x) (n := 10) (by omega); omega)
  · split
    · exact h1 _ (kdN_le _ _) (kdN_n0 _ _)
    · exact h1 _ (kdN_le _ _) (kdN_n0 _ _)
theorem drw_wf (w : wfC D) (x : Int32) : ∀ n, wfS D (drw D x n).2
  | 0 => s0_wf
  | n + 1 => by
    have hF := w.1
    rw [drw_s]
    unfold dr1
    have a1 := bl_lt (x := nx (drw D x n).1) (n := 3 * dF D + 1) (by omega)
    have b1 := dB_lt D (nx (nx (drw D x n).1)) (bl (nx (drw D x n).1) (3 * dF D + 1))
    have s1 := bl_lt (x := dX D (nx (nx (drw D x n).1))) (n := 12) (by omega)
    exact dS4_wf w (drw_wf w x n) (by omega) (by omega) (by omega)
theorem cA.seed {v : Int32} (h : cA f D S) : cA (xu f 75 6 v) D S := by
  obtain ⟨h1, h2, h3, h4, h5⟩ := h
  refine ⟨h1.fr fun a p q => xu_a (by omega), by rw [xu_k (by omega)]; exact h2, by rw [xu_k (by omega)]; exact h3, fun m hm => (h4 m hm).fr fun x p q => xu_a (by omega), fun v' hv => ?_⟩
  obtain ⟨a1, a2⟩ := h5 v' hv
  refine ⟨by rw [xu_a (by omega)]; exact a1, fun z => ?_⟩
  rw [xu_a (by omega), xu_a (by omega)]
  exact a2 z
/-- a number is drawn by the class; by the reference -/
theorem c_below {Q : Int32 → Hp → Prop} {n : Nat} {x : Int32} (h : cA f D S) (hx : f 75 6 = x) (hn : 0 < n) (hn2 : n < 2147483648) (kk : ∀ g, cA g D S → g 75 6 = nx x → FrZ f g → Q (iN (bl x n)) g) : CI L xs xm_As_below [.ref 75, .int (iN n)] f Q := by
  refine t_As_below_0 fun g1 e1 => brT ((iN_lt (a := 0) (by omega) (by omega)).mpr (by omega)) ⟨(fun z => absurd ((iN_inj (b := 0) (by omega) (by omega)).mp z) (by omega)), ?_⟩
  rw [hx] at e1
  have v1 : g1 75 6 = nx x := by rw [e1, xu_eq]; rfl
  rw [v1, bl_v x hn2]
  exact kk g1 (by rw [e1]; exact h.seed) v1 fun a ha => by rw [e1, xu_a (by omega)]
theorem r_below {Q : Int32 → Hp → Prop} {n : Nat} {x : Int32} (hx : f 400 60 = x) (hn : 0 < n) (hn2 : n < 2147483648) (kk : ∀ g, g 400 60 = nx x → (∀ j, ¬ j = 60 → g 400 j = f 400 j) → (∀ a, ¬ a = 400 → g a = f a) → Q (iN (bl x n)) g) : CI L xs xm_Mo_below [.ref 400, .int (iN n)] f Q := by
  refine t_Mo_below_0 fun g1 e1 => ⟨(fun z => absurd ((iN_inj (b := 0) (by omega) (by omega)).mp z) (by omega)), ?_⟩
  rw [hx] at e1
  have v1 : g1 400 60 = nx x := by rw [e1, xu_eq]; rfl
  rw [v1, bl_v x hn2]
  exact kk g1 v1 (fun j hj => by rw [e1, xu_k hj]) fun a ha => by rw [e1, xu_a ha]
theorem c_actD {Q : Int32 → Hp → Prop} {K a b s : Nat} (w : wfC D) (ws : wfS D S) (h : cA f D S) (wd : wfD K a (iN b) (iN s)) (hb : b < 2147483648) (hs : s < 2147483648) (kk : ∀ v g, cA g D ((stp D S K a b s).getD S) → g 75 6 = f 75 6 → FrZ f g → Q v g) : CI L xs xm_As_act [.ref 75, .int (iN K), .int (iN a), .int (iN b), .int (iN s)] f Q := by
  refine c_act w ws h wd (fun T e g c fr => ?_) fun e g c fr => ?_
  · rw [nb_iN hb, nb_iN hs] at e
    rw [e] at kk
    exact kk _ g c (by rw [fr 75 (by omega)]) fr.z
  · rw [nb_iN hb, nb_iN hs] at e
    rw [e] at kk
    exact kk _ g c (by rw [fr 75 (by omega)]) fr.z
theorem r_doesD {Q : Int32 → Hp → Prop} {K a : Nat} {B C : Int32} {X : Option ST} (w : wfC D) (ws : wfS D S) (cu : cur f o0 D) (rc : rC f o0 D) (ho : o0 ≤ 692) (h : rM f S) (wd : wfD K a B C) (eX : stp D S K a (nb B) (nb C) = X) (kk : ∀ v g, rM g (X.getD S) → FrM f g → FrK f g → Q v g) : CI L xs xm_Mo_does [.ref 400, .int (iN K), .int (iN a), .int B, .int C] f Q := by
  refine r_does w ws cu rc ho h wd (fun T e g c fm fk => ?_) fun e g c fm fk => ?_
  · rw [← eX, e] at kk
    exact kk _ g c fm fk
  · rw [← eX, e] at kk
    exact kk _ g c fm fk
theorem stp_ir {K a b c b' c' : Nat} (h : K = 3 ∨ K = 6 ∨ K = 7 ∨ K = 8) : stp D S K a b c = stp D S K a b' c' := by
  by_cases ha : a < 3 * dF D + 1
  · rcases h with rfl | rfl | rfl | rfl
    · rw [stp3 ha, stp3 ha]
    · rw [stp6 ha, stp6 ha]
    · rw [stp7 ha, stp7 ha]
    · rw [stp8 ha, stp8 ha]
  · rw [stpN ha, stpN ha]
theorem stp_ir2 {K a b c c' : Nat} (h : K = 4 ∨ K = 5) : stp D S K a b c = stp D S K a b c' := by
  by_cases ha : a < 3 * dF D + 1
  · rcases h with rfl | rfl
    · rw [stp4 ha, stp4 ha]
    · rw [stp5 ha, stp5 ha]
  · rw [stpN ha, stpN ha]
theorem c_kind {Q : Int32 → Hp → Prop} {k t : Nat} (hk : 2 ≤ k ∧ k ≤ 9) (ht : t < 4) (kk : Q (iN (kdN k t)) f) : CI L xs xm_As_drawnKind [.int (iN k), .int (iN t)] f Q := by
  refine t_As_drawnKind_0 ?_
  rcases (show k = 2 ∨ k = 3 ∨ k = 4 ∨ k = 5 ∨ k = 6 ∨ k = 7 ∨ k = 8 ∨ k = 9 by omega) with rfl | rfl | rfl | rfl | rfl | rfl | rfl | rfl
  · exact brT rfl kk
  · exact brF (by decide) (brT rfl kk)
  · exact brF (by decide) (brF (by decide) (brT rfl kk))
  · exact brF (by decide) (brF (by decide) (brF (by decide) (brT rfl kk)))
  · exact brF (by decide) (brF (by decide) (brF (by decide) (brF (by decide) (brT rfl kk))))
  · exact brF (by decide) (brF (by decide) (brF (by decide) (brF (by decide) (brF (by decide) (brT rfl kk)))))
  · refine brF (by decide) (brF (by decide) (brF (by decide) (brF (by decide) (brF (by decide) (brF (by decide) (brT rfl ?_))))))
    rcases (show t = 0 ∨ t = 1 ∨ t = 2 ∨ t = 3 by omega) with rfl | rfl | rfl | rfl
    · exact brT rfl kk
    · exact brF (by decide) (brT rfl kk)
    · exact brF (by decide) (brF (by decide) kk)
    · exact brF (by decide) (brF (by decide) kk)
  · exact brF (by decide) (brF (by decide) (brF (by decide) (brF (by decide) (brF (by decide) (brF (by decide) (brF (by decide) (brT rfl kk)))))))
theorem c_draw {Q : Hp → Prop} {c n : Nat} {x : Int32} (w : wfC D) (kc : xS0 L c = (1, 0)) (hc : c + 12 ≤ 75) (cc : cC f c D) (hn : n ≤ 200) (kk : ∀ g, cA g D (drw D x n).2 → FrZ f g → Q g) : CV L xs xm_As_draw [.ref 75, .ref c, .int x, .int (iN n)] f Q := by
  have hF := w.1
  refine t_As_draw_0 kc (c_begin w kc hc cc fun g1 h1 f1 g2 e2 => ?_)
  refine for0 n (fun k l g => ∃ y5 y6 y7 y8 : Value, (y5.category != 2) = true ∧ (y6.category != 2) = true ∧ (y7.category != 2) = true ∧ (y8.category != 2) = true ∧ l = [.ref 75, .ref c, .int x, .int (iN n), .int (iN k), y5, y6, y7, y8] ∧ cA g D (drw D x k).2 ∧ g 75 6 = (drw D x k).1 ∧ FrZ f g) ⟨.retAddr 0, .retAddr 0, .retAddr 0, .retAddr 0, rfl, rfl, rfl, rfl, rfl, by rw [e2]; exact h1.seed, by rw [e2, xu_eq]; rfl, fun a ha => by rw [e2, xu_a (by omega), f1 a ha]⟩ ?_ ?_
  · rintro k l g hk ⟨y5, y6, y7, y8, q5, q6, q7, q8, rfl, b1, b2, b3⟩ k2
    have ws := drw_wf w x k
    have es := drw_s D x k
    unfold dr1 at es
    generalize (drw D x k).2 = S at *
    generalize (drw D x k).1 = p at *
    have a1 := bl_lt (x := nx p) (n := 3 * dF D + 1) (by omega)
    have b1' := dB_lt D (nx (nx p)) (bl (nx p) (3 * dF D + 1))
    have s1 := bl_lt (x := dX D (nx (nx p))) (n := 12) (by omega)
    have k1 := bl_lt (x := p) (n := 10) (by omega)
    refine t_As_draw_13 kc q5 q6 q7 q8 (brT ((iN_lt (b := _) (by omega) (by omega)).mpr (by omega)) (brT ((iN_lt (b := 200) (by omega) (by omega)).mpr (by omega)) (c_below (n := 10) b1 b2 (by omega) (by omega) fun g3 c3 x3 f3 => ?_)))
    rw [c3.2.1]
    refine c_below c3 x3 (by omega) (by omega) fun g4 c4 x4 f4 => ?_
    rw [c4.2.1, iN_inc]
    generalize eb : dB D (nx (nx p)) (bl (nx p) (3 * dF D + 1)) = bb at *
    generalize ea : bl (nx p) (3 * dF D + 1) = a at *
    generalize ek : bl p 10 = kd at *
    have K77 : ∀ g5, cA g5 D S → g5 75 6 = dX D (nx (nx p)) → FrZ f g5 → Wp L xs xm_As_draw 77 [.ref 75, .ref c, .int x, .int (iN n), .int (iN k), .int (iN kd), .int (iN a), y7, y8] [.int (iN bb)] g5 (QV Q) := fun g5 c5 x5 f5 => by
      generalize ex : dX D (nx (nx p)) = xd at *
      refine t_As_draw_77 kc q7 q8 (c_below (n := 12) c5 x5 (by omega) (by omega) fun g6 c6 x6 f6 => ?_)
      rw [show (1 : Int32) + iN (bl xd 12) = iN (1 + bl xd 12) from iN_add 1 _]
      generalize esd : 1 + bl xd 12 = sd at *
      have f06 := f5.trans f6
      unfold dS4 at es
      have go : ∀ g7, cA g7 D (drw D x (k + 1)).2 → g7 75 6 = (drw D x (k + 1)).1 → FrZ f g7 → Wp L xs xm_As_draw 13 [.ref 75, .ref c, .int x, .int (iN n), .int (iN k + 1), .int (iN kd), .int (iN a), .int (iN bb), .int (iN sd)] [] g7 (QV Q) := fun g7 u1 u2 u3 => by
        rw [iN_inc]
        exact k2 _ _ ⟨.int (iN kd), .int (iN a), .int (iN bb), .int (iN sd), rfl, rfl, rfl, rfl, rfl, u1, u2, u3⟩
      refine ⟨fun z => ?_, fun z => ?_⟩
      · have z : kd < 2 := (iN_lt (b := 2) (by omega) (by omega)).mp z
        rw [if_pos z] at es
        refine c_below (n := 10) c6 x6 (by omega) (by omega) fun g7 c7 x7 f7 => ?_
        have o1 := bl_lt (x := nx xd) (n := 10) (by omega)
        refine c_actD (K := 0) w ws c7 (wfD_0 (by omega) (by omega) (by omega)) (by omega) (by omega) fun v g8 c8 x8 f8 => go g8 (by rw [es]; exact c8) (by rw [es, x8]; exact x7) ((f06.trans f7).trans f8)
      · have z : ¬ kd < 2 := fun y => z ((iN_lt (b := 2) (by omega) (by omega)).mpr y)
        rw [if_neg z] at es
        refine ⟨fun z8 => ?_, fun z8 => ?_⟩
        · have z8 : kd = 8 := (iN_inj (b := 8) (by omega) (by omega)).mp z8
          rw [if_pos z8] at es
          refine c_below (n := 4) c6 x6 (by omega) (by omega) fun g7 c7 x7 f7 => ?_
          refine c_kind (by omega) (bl_lt (by omega)) ?_
          rw [z8] at go ⊢
          exact c_actD w ws c7 (wfD_k (kdN_le _ _) (kdN_n0 _ _) (by omega) (by omega) (by omega)) (by omega) (by omega) fun v g8 c8 x8 f8 => go g8 (by rw [es]; exact c8) (by rw [es, x8]; exact x7) ((f06.trans f7).trans f8)
        · have z8 : ¬ kd = 8 := fun y => z8 ((iN_inj (b := 8) (by omega) (by omega)).mpr y)
          rw [if_neg z8] at es
          refine c_kind (t := 0) (by omega) (by omega) ?_
          exact c_actD w ws c6 (wfD_k (kdN_le _ _) (kdN_n0 _ _) (by omega) (by omega) (by omega)) (by omega) (by omega) fun v g8 c8 x8 f8 => go g8 (by rw [es]; exact c8) (by rw [es, x8]; exact x6) (f06.trans f8)
    have f04 := (b3.trans f3).trans f4
    refine ⟨fun z => ?_, fun z => ?_⟩
    · have z : 1 < 3 * dF D + 1 := (iN_lt (a := 1) (by omega) (by omega)).mp z
      rw [show iN (3 * dF D + 1) - 1 = iN (3 * dF D) from iN_sub (b := 1) (by omega)]
      refine c_below c4 x4 (by omega) (by omega) fun g5 c5 x5 f5 => ?_
      rw [c5.2.1, iN_add, jrem_iN (by have := bl_lt (x := nx (nx p)) (n := 3 * dF D) (by omega); omega) (by omega)]
      refine ⟨(fun z => absurd ((iN_inj (b := 0) (by omega) (by omega)).mp z) (by omega)), ?_⟩
      unfold dB at eb
      rw [if_pos z] at eb
      rw [eb]
      exact K77 g5 c5 (by rw [x5]; unfold dX; rw [if_pos z]) (f04.trans f5)
    · have z : ¬ 1 < 3 * dF D + 1 := fun y => z ((iN_lt (a := 1) (by omega) (by omega)).mpr y)
      unfold dB at eb
      rw [if_neg z] at eb
      rw [← eb] at K77
      exact K77 g4 c4 (by rw [x4]; unfold dX; rw [if_neg z]) f04
  · rintro l g ⟨y5, y6, y7, y8, q5, q6, q7, q8, rfl, b1, b2, b3⟩
    exact t_As_draw_13 kc q5 q6 q7 q8 (brF (fun z => absurd ((iN_lt (b := _) (by omega) (by omega)).mp z) (by omega)) (kk g b1 b3))
end DRAWN
