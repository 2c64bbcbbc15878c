/-! runs by a seed, the reference -/
section DRAWN2
variable {L : Nat} {xs : Nat → Int32} {f g : Hp} {D : CD} {S S' : ST} {R : RD} {T : TD} {o0 : Nat}
theorem r_draws {Q : Hp → Prop} {p : Int32} (w : wfC D) (ws : wfS D S) (cu : cur f o0 D) (rc : rC f o0 D) (ho : o0 ≤ 692) (h : rM f S) (hp : f 400 60 = p) (kk : ∀ g, rM g (dr1 D (p, S)).2 → g 400 60 = (dr1 D (p, S)).1 → cur g o0 D → rC g o0 D → FrM f g → Q g) : CV L xs xm_Mo_draws [.ref 400] f Q := by
  have hF := w.1
  unfold dr1 at kk
  have a1 := bl_lt (x := nx p) (n := 3 * dF D + 1) (by omega)
  have b1' := dB_lt D (nx (nx p)) (bl (nx p) (3 * dF D + 1))
  have s1 := bl_lt (x := dX D (nx (nx p))) (n := 12) (by omega)
  have k1 := bl_lt (x := p) (n := 10) (by omega)
  refine t_Mo_draws_0 (r_below (n := 10) hp (by omega) (by omega) fun g1 x1 j1 e1 => ?_)
  rw [show g1 400 13 = iN (3 * dF D + 1) from (j1 13 (by omega)).trans cu.2.2.1]
  refine r_below x1 (by omega) (by omega) fun g2 x2 j2 e2 => ?_
  have cu2 : cur g2 o0 D := cu.co fun j a b => by rw [j2 j (by omega), j1 j (by omega)]
  rw [cu2.2.2.1, iN_inc]
  generalize eb : dB D (nx (nx p)) (bl (nx p) (3 * dF D + 1)) = bb at *
  generalize ea : bl (nx p) (3 * dF D + 1) = a at *
  generalize ek : bl p 10 = kd at *
  have K41 : ∀ g3 s0, g3 400 60 = dX D (nx (nx p)) → cur g3 o0 D → (∀ x, ¬ x = 400 → g3 x = f x) → jrem (iN (a + 1) + s0) (iN (3 * dF D + 1)) = iN bb → Wp L xs xm_Mo_draws 41 [.ref 400, .int (iN kd), .int (iN a), .retAddr 0, .retAddr 0, .retAddr 0] [.int s0, .int (iN (a + 1))] g3 (QV Q) := fun g3 s0 x3 cu3 e3 hj => by
    generalize ex : dX D (nx (nx p)) = xd at *
    refine t_Mo_draws_41 ?_
    rw [cu3.2.2.1, hj]
    refine ⟨(fun z => absurd ((iN_inj (b := 0) (by omega) (by omega)).mp z) (by omega)), r_below (n := 12) x3 (by omega) (by omega) fun g4 x4 j4 e4 => ?_⟩
    rw [show (1 : Int32) + iN (bl xd 12) = iN (1 + bl xd 12) from iN_add 1 _]
    generalize esd : 1 + bl xd 12 = sd at *
    have cu4 : cur g4 o0 D := cu3.co fun j p q => j4 j (by omega)
    have e04 : ∀ x, ¬ x = 400 → g4 x = f x := fun x hx => by rw [e4 x hx, e3 x hx]
    have rc4 : rC g4 o0 D := rc.fr (e04 401 (by omega))
    have h4 : rM g4 S := h.fr fun x p q => e04 x (by omega)
    have fin : ∀ {g5 g6 : Hp} {X : ST} {y : Int32}, cur g5 o0 D → rC g5 o0 D → (∀ x, ¬ x = 400 → g5 x = f x) → g5 400 60 = y → (dS4 D S kd a bb sd (nx xd)) = (y, X) → rM g6 X → FrM g5 g6 → FrK g5 g6 → Q g6 := fun {g5 g6 X y} u1 u2 u3 u4 u5 u6 u7 u8 => by
      rw [u5] at kk
      exact kk g6 u6 (by rw [u8 60 (by omega)]; exact u4) (u1.k u8) (u2.fr (u7 401 (by omega) (by omega))) fun x hx hy => by rw [u7 x hx hy, u3 x hy]
    have nm1 : nb (-1) = nb (-1) := rfl
    have wN : ∀ K, K = 3 ∨ K = 6 ∨ K = 7 ∨ K = 8 → ∀ B C : Int32, wfD K a B C := fun K hK B C => ⟨by omega, by omega, fun z => absurd z (by omega), fun z => absurd z (by omega), fun z => absurd z (by omega)⟩
    have w45 : ∀ K, K = 4 ∨ K = 5 → ∀ C : Int32, wfD K a (iN bb) C := fun K hK C => ⟨by omega, by omega, fun z => absurd z (by omega), fun z => absurd z (by omega), fun _ => ⟨bb, by omega, rfl⟩⟩
    have w12 : ∀ K, K = 1 ∨ K = 2 → wfD K a (iN bb) (iN sd) := fun K hK => wfD_k (by omega) (by omega) (by omega) (by omega) (by omega)
    have pro : kd < 2 → CI L xs xm_Mo_below [.ref 400, .int 10] g4 (fun v2 g2 => CI L xs xm_Mo_does [.ref 400, .int 0, .int (iN a), .int (iN sd), .int v2] g2 (fun v3 g3 => Q g3)) := fun z => by
      refine r_below (n := 10) x4 (by omega) (by omega) fun g5 x5 j5 e5 => ?_
      have o1 := bl_lt (x := nx xd) (n := 10) (by omega)
      have cu5 : cur g5 o0 D := cu4.co fun j p q => j5 j (by omega)
      have e05 : ∀ x, ¬ x = 400 → g5 x = f x := fun x hx => by rw [e5 x hx, e04 x hx]
      exact r_doesD (K := 0) w ws cu5 (rc.fr (e05 401 (by omega))) ho (h.fr fun x p q => e05 x (by omega)) (wfD_0 (by omega) (by omega) (by omega)) (by rw [nb_iN (by omega), nb_iN (by omega)]) fun v g6 c6 m6 k6 => fin cu5 (rc.fr (e05 401 (by omega))) e05 x5 (by unfold dS4; rw [if_pos z]) c6 m6 k6
    have one : ∀ (K : Nat) (B C : Int32), ¬ kd < 2 → ¬ kd = 8 → kdN kd 0 = K → wfD K a B C → stp D S K a (nb B) (nb C) = stp D S K a bb sd → CI L xs xm_Mo_does [.ref 400, .int (iN K), .int (iN a), .int B, .int C] g4 (fun v3 g3 => Q g3) := fun K B C z z8 hK wd ee => r_doesD w ws cu4 rc4 ho h4 wd ee fun v g6 c6 m6 k6 => fin cu4 rc4 e04 x4 (by unfold dS4; rw [if_neg z, if_neg z8, hK]) c6 m6 k6
    rcases (show kd = 0 ∨ kd = 1 ∨ kd = 2 ∨ kd = 3 ∨ kd = 4 ∨ kd = 5 ∨ kd = 6 ∨ kd = 7 ∨ kd = 8 ∨ kd = 9 by omega) with z | z | z | z | z | z | z | z | z | z
    · rw [z]; exact brT rfl (pro (by omega))
    · rw [z]; exact brF (by decide) (brT rfl (pro (by omega)))
    · have o := one 1 (iN bb) (iN sd) (by omega) (by omega) (by rw [z]; rfl) (w12 1 (by omega)) (by rw [nb_iN (by omega), nb_iN (by omega)])
      rw [z]; exact brF (by decide) (brF (by decide) (brT rfl o))
    · have o := one 1 (iN bb) (iN sd) (by omega) (by omega) (by rw [z]; rfl) (w12 1 (by omega)) (by rw [nb_iN (by omega), nb_iN (by omega)])
      rw [z]; exact brF (by decide) (brF (by decide) (brF (by decide) (brT rfl o)))
    · have o := one 2 (iN bb) (iN sd) (by omega) (by omega) (by rw [z]; rfl) (w12 2 (by omega)) (by rw [nb_iN (by omega), nb_iN (by omega)])
      rw [z]; exact brF (by decide) (brF (by decide) (brF (by decide) (brF (by decide) (brT rfl o))))
    · have o := one 2 (iN bb) (iN sd) (by omega) (by omega) (by rw [z]; rfl) (w12 2 (by omega)) (by rw [nb_iN (by omega), nb_iN (by omega)])
      rw [z]; exact brF (by decide) (brF (by decide) (brF (by decide) (brF (by decide) (brF (by decide) (brT rfl o)))))
    · have o := one 3 (-1) (-1) (by omega) (by omega) (by rw [z]; rfl) (wN 3 (by omega) _ _) (stp_ir (by omega))
      rw [z]; exact brF (by decide) (brF (by decide) (brF (by decide) (brF (by decide) (brF (by decide) (brF (by decide) (brT rfl o))))))
    · have o := one 4 (iN bb) (-1) (by omega) (by omega) (by rw [z]; rfl) (w45 4 (by omega) _) (by rw [nb_iN (n := bb) (by omega)]; exact stp_ir2 (by omega))
      rw [z]; exact brF (by decide) (brF (by decide) (brF (by decide) (brF (by decide) (brF (by decide) (brF (by decide) (brF (by decide) (brT rfl o)))))))
    · have eight : CI L xs xm_Mo_below [.ref 400, .int 4] g4 (fun v12 g12 => ((v12 = 0 → CI L xs xm_Mo_does [.ref 400, .int 5, .int (iN a), .int (iN bb), .int (-1)] g12 (fun v15 g15 => Q g15)) ∧ (¬ v12 = 0 → ((v12 = 1 → CI L xs xm_Mo_does [.ref 400, .int 6, .int (iN a), .int (iN bb), .int (-1)] g12 (fun v14 g14 => Q g14)) ∧ (¬ v12 = 1 → CI L xs xm_Mo_does [.ref 400, .int 7, .int (iN a), .int (iN bb), .int (-1)] g12 (fun v13 g13 => Q g13)))))) := by
        refine r_below (n := 4) x4 (by omega) (by omega) fun g5 x5 j5 e5 => ?_
        have t1 := bl_lt (x := nx xd) (n := 4) (by omega)
        have cu5 : cur g5 o0 D := cu4.co fun j p q => j5 j (by omega)
        have e05 : ∀ x, ¬ x = 400 → g5 x = f x := fun x hx => by rw [e5 x hx, e04 x hx]
        have rc5 : rC g5 o0 D := rc.fr (e05 401 (by omega))
        have h5 : rM g5 S := h.fr fun x p q => e05 x (by omega)
        have two : ∀ (K : Nat), kdN 8 (bl (nx xd) 4) = K → wfD K a (iN bb) (-1) → stp D S K a (nb (iN bb)) (nb (-1)) = stp D S K a bb sd → CI L xs xm_Mo_does [.ref 400, .int (iN K), .int (iN a), .int (iN bb), .int (-1)] g5 (fun v3 g3 => Q g3) := fun K hK wd ee => r_doesD w ws cu5 rc5 ho h5 wd ee fun v g6 c6 m6 k6 => fin cu5 rc5 e05 x5 (by unfold dS4; rw [if_neg (by omega), if_pos z, hK]) c6 m6 k6
        generalize bl (nx xd) 4 = t at *
        refine ⟨fun q => two 5 ?_ (w45 5 (by omega) _) (by rw [nb_iN (n := bb) (by omega)]; exact stp_ir2 (by omega)), fun q => ⟨fun q2 => two 6 ?_ (wN 6 (by omega) _ _) (stp_ir (by omega)), fun q2 => two 7 ?_ (wN 7 (by omega) _ _) (stp_ir (by omega))⟩⟩
        · rw [(iN_inj (b := 0) (by omega) (by omega)).mp q]; rfl
        · rw [(iN_inj (b := 1) (by omega) (by omega)).mp q2]; rfl
        · have q : ¬ t = 0 := fun y => q ((iN_inj (b := 0) (by omega) (by omega)).mpr y)
          have q2 : ¬ t = 1 := fun y => q2 ((iN_inj (b := 1) (by omega) (by omega)).mpr y)
          unfold kdN
          rw [if_neg (by omega), if_neg (by omega), if_neg (by omega), if_neg (by omega), if_pos rfl, if_neg q, if_neg q2]
      rw [z]; exact brF (by decide) (brF (by decide) (brF (by decide) (brF (by decide) (brF (by decide) (brF (by decide) (brF (by decide) (brF (by decide) (brT rfl eight))))))))
    · have o := one 8 (-1) (-1) (by omega) (by omega) (by rw [z]; rfl) (wN 8 (by omega) _ _) (stp_ir (by omega))
      rw [z]; exact brF (by decide) (brF (by decide) (brF (by decide) (brF (by decide) (brF (by decide) (brF (by decide) (brF (by decide) (brF (by decide) (brF (by decide) o))))))))
  have e02 : ∀ x, ¬ x = 400 → g2 x = f x := fun x hx => by rw [e2 x hx, e1 x hx]
  refine ⟨fun z => ?_, fun z => ?_⟩
  · have z : 3 * dF D + 1 = 1 := (iN_inj (b := 1) (by omega) (by omega)).mp z
    unfold dB at eb
    rw [if_neg (by omega)] at eb
    refine K41 g2 0 (by rw [x2]; unfold dX; rw [if_neg (by omega)]) cu2 e02 ?_
    rw [show iN (a + 1) + 0 = iN (a + 1) from by simp, jrem_iN (by omega) (by omega)]
    congr 1
    rw [z, Nat.mod_one]; omega
  · have z : ¬ 3 * dF D + 1 = 1 := fun y => z ((iN_inj (b := 1) (by omega) (by omega)).mpr y)
    rw [show iN (3 * dF D + 1) - 1 = iN (3 * dF D) from iN_sub (b := 1) (by omega)]
    refine r_below x2 (by omega) (by omega) fun g3 x3 j3 e3 => ?_
    have v3 := bl_lt (x := nx (nx p)) (n := 3 * dF D) (by omega)
    unfold dB at eb
    rw [if_pos (by omega)] at eb
    refine K41 g3 _ (by rw [x3]; unfold dX; rw [if_pos (by omega)]) (cu2.co fun j a b => j3 j (by omega)) (fun x hx => by rw [e3 x hx, e02 x hx]) ?_
    rw [iN_add, jrem_iN (by omega) (by omega), eb]
theorem op_drawn (i : Inv f) (x y z u v : Int32) : CI L xs xm_TP_drawn [.ref 0, .int x, .int y, .int z, .int u, .int v] f (fun r g => CI L xs xm_Mo_drawn [.ref 400, .int x, .int y, .int z, .int u, .int v] g (fun w h => w = r ∧ Inv h)) := by
  obtain ⟨⟨T, w, c, rt⟩, im⟩ := id i
  have z0 := w.2.2.1 0 (by omega)
  refine t_TP_drawn_0 (c_has (s := 0) k_told (by omega) (c.sz (by omega)) z0 (fun j hj e => br1 ?_) fun q => br0 (t_Mo_drawn_0 (r_isC0 w rt q (br0 ⟨rfl, i⟩))))
  subst e
  have wc := w.2.2.2.1 j hj
  have ho := rC.wf_o w hj
  have bad : (∀ k, 0 ≤ k → k ≤ 200 → ¬ z = iN k) → CI L xs xm_Mo_drawn [.ref 400, .int (iN j), .int y, .int z, .int u, .int v] f (fun w h => w = -2 ∧ Inv h) := fun no =>
    t_Mo_drawn_0 (r_isC w rt hj fun g cu rc e => br1 (r_isIn (a := 0) (b := 200) (by omega) (by omega) (fun k a b e => absurd e (no k a b)) fun _ => br0 ⟨rfl, i400 i e⟩))
  refine ⟨fun p => bad fun k _ b e => ?_, fun p => ⟨fun p2 => bad fun k _ b e => ?_, fun p2 => ⟨j, rfl, by omega, ?_⟩⟩⟩
  · rw [e] at p; exact iN_nn (by omega) p
  · rw [e] at p2; exact absurd ((iN_lt (a := 200) (by omega) (by omega)).mp p2) (by omega)
  obtain ⟨n, hn, rfl⟩ := iN_ex0 p
  have n200 : n ≤ 200 := by
    rcases Nat.lt_or_ge 200 n with q | q
    · exact absurd ((iN_lt (a := 200) (by omega) (by omega)).mpr (by omega)) p2
    · exact q
  refine c_draw wc (k_coun (by omega)) (by omega) (cT_c c hj) n200 fun g ca fa => ?_
  have ws := drw_wf wc y n
  refine c_tell wc ws ca fun g1 f1 => ?_
  have fa1 := fa.trans f1
  refine t_Mo_drawn_0 (r_isC w (rt.fr (fa1 401 (by omega))) hj fun g2 cu rc e => br1 (r_isIn (a := 0) (b := 200) (by omega) (by omega) (fun k a b _ => br1 ?_) fun no => absurd rfl (no n (by omega) n200)))
  refine r_begins wc cu rc ho fun g3 m3 x3 fm3 j3 g4 e4 => ?_
  refine for0 n (fun k l g' => l = [.ref 400, .int (iN j), .int y, .int (iN n), .int u, .int v, .int (iN k)] ∧ rM g' (drw (T.2.2.1 j) y k).2 ∧ g' 400 60 = (drw (T.2.2.1 j) y k).1 ∧ cur g' (610 + 82 * j) (T.2.2.1 j) ∧ rC g' (610 + 82 * j) (T.2.2.1 j) ∧ FrM g2 g') ⟨rfl, by rw [e4]; exact m3.fr fun x a b => xu_a (by omega), by rw [e4, xu_eq]; rfl, cu.co fun j' a b => by rw [e4, xu_k (by omega), j3 j' (by omega)], rc.fr (by rw [e4, xu_a (by omega), fm3 401 (by omega) (by omega)]), fun x hx hy => by rw [e4, xu_a hy, fm3 x hx hy]⟩ ?_ ?_
  · rintro k l g' hk ⟨rfl, b1, b2, b3, b4, b5⟩ k2
    refine t_Mo_drawn_34 (brT ((iN_lt (b := _) (by omega) (by omega)).mpr (by omega)) (r_draws wc (drw_wf wc y k) b3 b4 ho b1 b2 fun g5 c1 c2 c3 c4 c5 => ?_))
    rw [iN_inc]
    exact k2 _ _ ⟨rfl, c1, c2, c3, c4, b5.trans c5⟩
  · rintro l g' ⟨rfl, b1, b2, b3, b4, b5⟩
    refine t_Mo_drawn_34 (brF (fun z => absurd ((iN_lt (b := _) (by omega) (by omega)).mp z) (by omega)) (r_nowOf wc ws b3 b1 fun g6 m6 => ⟨rfl, i.q fa1.c fun a ha => ?_⟩))
    rw [m6 a (by omega) (by omega), b5 a (by omega) (by omega), e a (by omega)]
end DRAWN2
