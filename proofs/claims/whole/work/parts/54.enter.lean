/-! a view is entered, made -/
abbrev inW (D : CD) (S : ST) (m s : Nat) : Prop := nb (S 2 m 0) < s ∧ s ≤ nb (S 2 m 0) + dW D
def enB (S : ST) (m F : Nat) : ST := if nb (S 2 m 0) < F then cutS (su S 1 m 0 1) m F else su S 1 m 0 1
def enL (D : CD) (m v F : Nat) (T : ST) : Nat → ST
  | 0 => T
  | d + 1 => if inW D (enL D m v F T d) m (F + d + 1) then accS D (enL D m v F T d) m (F + d + 1) (T 19 v (F + d + 1)) else enL D m v F T d
theorem enL_s (D : CD) (m v F : Nat) (T : ST) (d : Nat) : enL D m v F T (d + 1) = if inW D (enL D m v F T d) m (F + d + 1) then accS D (enL D m v F T d) m (F + d + 1) (T 19 v (F + d + 1)) else enL D m v F T d := rfl
def enF (S : ST) (m : Nat) : Nat := nb (S 17 (nb (S 0 m 0)) 0)
def enU (S : ST) (m : Nat) : Nat := nb (S 18 (nb (S 0 m 0)) 0)
def entS (D : CD) (S : ST) (m : Nat) : ST := if hon D m = true then enL D m (nb (S 0 m 0)) (enF S m) (enB S m (enF S m)) (enU S m - enF S m) else enB S m (enF S m)
theorem enB_off {S : ST} {m F j m' k : Nat} (h : ¬ m' = m ∨ 13 ≤ j ∨ j = 0 ∨ (2 < j ∧ j < 8)) : enB S m F j m' k = S j m' k := by
  unfold enB
  split
  · rw [cutS_off (by omega), su_at, if_neg (by omega)]
  · rw [su_at, if_neg (by omega)]
theorem enB_1 {S : ST} {m F : Nat} : enB S m F 1 m 0 = 1 := by
  unfold enB
  split
  · rw [cutS_off (by omega), su_eq]
  · rw [su_eq]
theorem enL_off {D : CD} {m v F : Nat} {T : ST} {j m' k : Nat} (h : ¬ m' = m ∨ j < 8 ∨ 13 < j) : ∀ d, enL D m v F T d j m' k = T j m' k
  | 0 => rfl
  | d + 1 => by
    rw [enL_s]
    split
    · rw [accS_off (by omega), enL_off h d]
    · exact enL_off h d
theorem entS_off {D : CD} {S : ST} {m j m' k : Nat} (h : ¬ m' = m ∨ 16 ≤ j) : entS D S m j m' k = S j m' k := by
  unfold entS
  split
  · rw [enL_off (by omega), enB_off (by omega)]
  · rw [enB_off (by omega)]
theorem enB_wf {D : CD} {S : ST} {m F : Nat} (ws : wfS D S) (hm : m < 7) (hF : F ≤ 12) : wfS D (enB S m F) := by
  obtain ⟨c1, c2, c3, c4, c5⟩ := ws.1 m hm
  have w1 : wfE D (su S 1 m 0 1) m := by
    refine (ws.e m).mem hm (fun j m' k z => by rw [su_at, if_neg (by omega)]) ?_ (fun s a b => ?_) (fun b hb => ?_) (fun z => ?_) fun z s a b => ?_
    · rw [su_j (by omega), su_eq, su_j (by omega), su_j (by omega), su_j (by omega)]
      exact ⟨c1, Or.inr rfl, c3, c4, c5⟩
    · rw [su_j (by omega), su_j (by omega), su_j (by omega), su_j (by omega), su_j (by omega), su_j (by omega)]
      exact ws.2.1 m s hm a b
    · rw [su_j (by omega)]; exact ws.2.2.1 m b hm hb
    · rw [su_eq] at z; exact absurd z (by decide)
    · rw [su_j (by omega)]; exact ws.2.2.2.2.1 m hm z s a b
  have w2 : wfE D (enB S m F) m := by
    unfold enB
    split
    · exact w1.cut hm hF
    · exact w1
  refine w2.s fun a ha z1 z2 => ?_
  have e14 : ∀ b, enB S m F 14 m b = S 14 m b := fun b => enB_off (by omega)
  have e15 : ∀ b, enB S m F 15 m b = S 15 m b := fun b => enB_off (by omega)
  have ec : cntW (fun b => enB S m F 14 m b = enB S m F 14 m a ∧ enB S m F 15 m b = enB S m F 15 m a) (3 * dF D + 1) = cntW (fun b => S 14 m b = S 14 m a ∧ S 15 m b = S 15 m a) (3 * dF D + 1) := cntW_congr _ fun b _ => by rw [e14, e14, e15, e15]
  rw [ec]
  rw [e14] at z1 z2
  refine ws.2.2.2.2.2.1 m a hm ha z1 ?_
  obtain ⟨l, hl, el⟩ := c3
  have nl : nb (S 2 m 0) = l := by rw [el, nb_iN (by omega)]
  unfold enB at z2
  rw [nl] at z2
  split at z2
  · rename_i y
    rw [cutS_low, Int32.lt_iff_toInt_lt, iN_toInt (by omega)] at z2
    rw [el, Int32.lt_iff_toInt_lt, iN_toInt (by omega)]
    omega
  · rw [su_j (by omega)] at z2; exact z2
theorem enL_wf {D : CD} {m v F U : Nat} {T : ST} (w : wfC D) (ws : wfS D T) (hm : m < 7) (hv : v < 10) (ok : ¬ T 1 m 0 = 0 ∧ hon D m = true) (mv : ¬ T 16 v 0 = 0) (e1 : T 17 v 0 = iN F) (e2 : T 18 v 0 = iN U) (hF : F ≤ 12) (hU : U ≤ 12) : ∀ d, F + d ≤ U ∨ d = 0 → wfS D (enL D m v F T d)
  | 0, _ => ws
  | d + 1, hd => by
    have ih := enL_wf w ws hm hv ok mv e1 e2 hF hU d (by omega)
    rw [enL_s]
    split
    · refine ih.acc w hm (by omega) ⟨by rw [enL_off (by omega)]; exact ok.1, ok.2⟩ ?_
      refine ((ws.2.2.2.2.2.2.2 v hv).2 mv).2.2 _ (by omega) (by omega) ?_ ?_
      · rw [e1]; exact ((iN_lt (b := _) (by omega) (by omega)).mpr (by omega))
      · rw [e2]; exact (fun z => absurd ((iN_lt (b := _) (by omega) (by omega)).mp z) (by omega))
    · exact ih
theorem ent_wf {D : CD} {S : ST} {m : Nat} (w : wfC D) (ws : wfS D S) (hm : m < 7) (mv : ¬ S 16 (nb (S 0 m 0)) 0 = 0) : wfS D (entS D S m) := by
  obtain ⟨⟨v, hv, ev⟩, -⟩ := ws.1 m hm
  have nv : nb (S 0 m 0) = v := by rw [ev, nb_iN (by omega)]
  rw [nv] at mv
  obtain ⟨⟨F, hF, eF⟩, ⟨U, hU, eU⟩, -⟩ := (ws.2.2.2.2.2.2.2 v (by omega)).2 mv
  have nF : enF S m = F := by unfold enF; rw [nv, eF, nb_iN (by omega)]
  have nU : enU S m = U := by unfold enU; rw [nv, eU, nb_iN (by omega)]
  have wb := enB_wf (F := F) ws hm hF
  unfold entS
  rw [nF, nU, nv]
  split
  · rename_i hh
    exact enL_wf w wb hm (by omega) ⟨by rw [enB_1]; decide, hh⟩ (by rw [enB_off (by omega)]; exact mv) (by rw [enB_off (by omega)]; exact eF) (by rw [enB_off (by omega)]; exact eU) hF hU _ (by omega)
  · exact wb
section ENTER
variable {L : Nat} {xs : Nat → Int32} {f g : Hp} {D : CD} {S S' : ST} {o0 : Nat}
theorem k_view {v : Nat} (h : v < 10) : xS0 L (170 + 3 * v) = (3, 0) := by
  have := (ke_23 (L := L) (a := 76) rfl h).2
  rwa [show 76 + 94 + 3 * v = 170 + 3 * v by omega] at this
theorem c_enter {Q : Hp → Prop} {m : Nat} (w : wfC D) (ws : wfS D S) (h : cA f D S) (hm : m < 7) (ia : S 1 m 0 = 0) (mv : ¬ S 16 (nb (S 0 m 0)) 0 = 0) (kk : ∀ g, cA g D (entS D S m) → FrA f g → Q g) : CV L xs xm_As_enter [.ref 75, .int (iN m)] f Q := by
  have hF' := w.1
  obtain ⟨⟨v, hv, ev⟩, -, ⟨l, hl, el⟩, -⟩ := ws.1 m hm
  have nv : nb (S 0 m 0) = v := by rw [ev, nb_iN (by omega)]
  have nl : nb (S 2 m 0) = l := by rw [el, nb_iN (by omega)]
  have hv10 : v < 10 := by omega
  rw [nv] at mv
  obtain ⟨⟨F, hF, eF⟩, ⟨U, hU, eU⟩, eO⟩ := (ws.2.2.2.2.2.2.2 v hv10).2 mv
  have nF : enF S m = F := by unfold enF; rw [nv, eF, nb_iN (by omega)]
  have nU : enU S m = U := by unfold enU; rw [nv, eU, nb_iN (by omega)]
  have wb := enB_wf (F := F) ws hm hF
  unfold entS at kk
  rw [nF, nU, nv] at kk
  refine t_As_enter_0 ⟨m, rfl, hm, v, (h.s (j := 0) hm (by omega)).trans ev, hv10, fun g1 e1 => ?_⟩
  have h1 : cA g1 D (su S 1 m 0 1) := by rw [e1]; exact h.sc (j := 1) hm (by omega)
  have f1 : FrA f g1 := by rw [e1]; exact (FrA.refl f).put0 hm
  have x1 : g1 (93 + 11 * m) 2 = iN l := by rw [h1.s hm (by omega), su_j (by omega)]; exact el
  have x2 : g1 (170 + 3 * v) 1 = iN F := by
    rw [e1, xu_a (by omega), ((h.2.2.2.2 v hv10).2 mv).1]; exact eF
  -- the rest, from a state like the one after the cut
  have rest : ∀ g3, cA g3 D (enB S m F) → FrA f g3 → Wp L xs xm_As_enter 49 [.ref 75, .int (iN m), .ref (93 + 11 * m), .ref (170 + 3 * v), .retAddr 0, .retAddr 0] [] g3 (QV Q) := fun g3 h3 f3 => by
    refine t_As_enter_49 (k_mem hm) (k_view hv10) (c_asHon w h3 (by omega) (fun hh => br1 ?_) fun hh => br0 ?_)
    · rw [if_pos hh] at kk
      have y0 : g3 (93 + 11 * m) 0 = iN v := by rw [h3.s hm (by omega), enB_off (by omega)]; exact ev
      rw [y0]
      refine c_prim w h3 (by omega) ?_
      have hp : v % (3 * dF D + 1) < 7 := Nat.lt_of_lt_of_le (Nat.mod_lt _ (by omega)) (by omega)
      rw [shl1 (by omega), ← Nat.one_shiftLeft, or1 _ _ (by omega)]
      have tm : ¬ enB S m F 16 v 0 = 0 := by rw [enB_off (by omega)]; exact mv
      have t17 : enB S m F 17 v 0 = iN F := by rw [enB_off (by omega)]; exact eF
      have t18 : enB S m F 18 v 0 = iN U := by rw [enB_off (by omega)]; exact eU
      rw [((h3.2.2.2.2 v hv10).2 tm).1, t17, iN_inc]
      refine for0 (U - F) (fun d l' g => l' = [.ref 75, .int (iN m), .ref (93 + 11 * m), .ref (170 + 3 * v), .int (iN ((1 <<< m) ||| (1 <<< (v % (3 * dF D + 1))))), .int (iN (F + d + 1))] ∧ cA g D (enL D m v F (enB S m F) d) ∧ FrA f g) ⟨rfl, h3, f3⟩ ?_ ?_
      · rintro d l' g hd ⟨rfl, b1, b2⟩ k2
        have wd := enL_wf w wb hm hv10 ⟨by rw [enB_1]; decide, hh⟩ tm t17 t18 hF hU d (by omega)
        obtain ⟨-, -, ⟨l2, hl2, el2⟩, -⟩ := wd.1 m hm
        have nl2 : nb (enL D m v F (enB S m F) d 2 m 0) = l2 := by rw [el2, nb_iN (by omega)]
        have tm' : ¬ enL D m v F (enB S m F) d 16 v 0 = 0 := by rw [enL_off (by omega)]; exact tm
        obtain ⟨z1, z2, z3⟩ := (b1.2.2.2.2 v hv10).2 tm'
        rw [enL_off (by omega), t17] at z3
        rw [enL_off (by omega), t18] at z2 z3
        refine t_As_enter_82 (k_mem hm) (k_view hv10) ?_
        rw [z2]
        refine brF (fun z => absurd ((iN_lt (b := _) (by omega) (by omega)).mp z) (by omega)) (brF (fun z => absurd ((iN_lt (a := 12) (by omega) (by omega)).mp z) (by omega)) (c_within w b1 hm (k_mem hm) (by omega) el2 hl2 (fun u => br1 ⟨F + d + 1, rfl, by omega, ?_⟩) fun u => br0 ?_))
        · have o1 : g (170 + 3 * v + 1) (F + d + 1) = enB S m F 19 v (F + d + 1) := by
            rw [z3 (F + d + 1) (by omega) (by omega) ((iN_lt (b := _) (by omega) (by omega)).mpr (by omega)) (fun z => absurd ((iN_lt (b := _) (by omega) (by omega)).mp z) (by omega)), enL_off (by omega)]
          have oo : ordI D (enB S m F 19 v (F + d + 1)) := by
            rw [enB_off (by omega)]
            refine eO _ (by omega) (by omega) ?_ ?_
            · rw [eF]; exact ((iN_lt (b := _) (by omega) (by omega)).mpr (by omega))
            · rw [eU]; exact (fun z => absurd ((iN_lt (b := _) (by omega) (by omega)).mp z) (by omega))
          rw [o1]
          refine c_accept b1 hm (by omega) fun g4 c4 f4 => ?_
          refine c_addPrep (p := 0) (c := 0) w c4 hm (by omega) ?_ ?_ (by omega) (bit_or (one7 hm) hp) ?_ (by omega) fun g5 c5 f5 => ?_
          · rw [su_j (by omega), su_j (by omega), su_eq]
            intro y
            rcases oo with z | ⟨k, hk, z⟩
            · rw [z] at y; exact absurd y (by decide)
            · rw [z] at y; exact iN_ne1 (by have := w.2.2.2.2.1; omega) y
          · rw [su_j (by omega), su_eq]; rfl
          · rw [su_eq]; rfl
          · rw [iN_inc]
            refine k2 _ _ ⟨rfl, ?_, (b2.trans f4).trans f5⟩
            rw [enL_s, if_pos (by unfold inW; rw [nl2]; exact u)]
            rw [Nat.zero_or, su_ow] at c5
            have ep : prim D (enL D m v F (enB S m F) d) m = v % (3 * dF D + 1) := by
              unfold prim; rw [enL_off (by omega), enB_off (by omega), nv]
            unfold accS
            rw [ep]
            exact c5
        · rw [iN_inc]
          refine k2 _ _ ⟨rfl, ?_, b2⟩
          rw [enL_s, if_neg (by unfold inW; rw [nl2]; exact u)]
          exact b1
      · rintro l' g ⟨rfl, b1, b2⟩
        have tm' : ¬ enL D m v F (enB S m F) (U - F) 16 v 0 = 0 := by rw [enL_off (by omega)]; exact tm
        obtain ⟨z1, z2, z3⟩ := (b1.2.2.2.2 v hv10).2 tm'
        rw [enL_off (by omega), t18] at z2
        refine t_As_enter_82 (k_mem hm) (k_view hv10) ?_
        rw [z2]
        exact brT ((iN_lt (b := _) (by omega) (by omega)).mpr (by omega)) (kk g b1 b2)
    · rw [if_neg (hf hh)] at kk
      exact kk g3 h3 f3
  rw [x1, x2, iN_lt (by omega) (by omega)]
  refine ⟨fun p g2 e2 => ?_, fun p => rest g1 ?_ f1⟩
  · have h2 : cA g2 D (su (su S 1 m 0 1) 2 m 0 (iN F)) := by rw [e2]; exact h1.sc (j := 2) hm (by omega)
    have y2 : g2 (93 + 11 * m) 2 = iN F := by rw [e2, xu_eq]
    rw [y2]
    refine c_forgetP h2 hm hF fun g3 h3 f3 => rest g3 ?_ ((by rw [e2]; exact f1.put0 hm : FrA f g2).trans f3)
    have : fgA (su (su S 1 m 0 1) 2 m 0 (iN F)) m F = su (su S 1 m 0 1) 2 m 0 (iN F) := by
      funext j m' k
      unfold fgA
      split
      · rename_i z
        obtain ⟨rfl, z1, z2, z3, z4⟩ := z
        have q8 := (ws.2.2.2.1 m' hm ia).2 k z1 (by omega)
        obtain ⟨q9, q10⟩ := (ws.2.1 m' k hm z1 (by omega)).2.2.2.1 q8
        rw [su_j (by omega), su_j (by omega)]
        split
        · rename_i y; rw [y, q8]
        · rcases (show j = 9 ∨ j = 10 by omega) with y | y
          · rw [y, q9]
          · rw [y, q10]
      · rfl
    unfold enB cutS
    rw [if_pos (by rw [nl]; exact p), this]
    exact h3
  · unfold enB
    rw [if_neg (by rw [nl]; exact p)]
    exact h1
theorem r_enters {Q : Hp → Prop} {m : Nat} (w : wfC D) (ws : wfS D S) (cu : cur f o0 D) (h : rM f S) (hm : m < 3 * dF D + 1) (mv : ¬ S 16 (nb (S 0 m 0)) 0 = 0) (kk : ∀ g, rM g (entS D S m) → FrM f g → FrK f g → Q g) : CV L xs xm_Mo_entersView [.ref 400, .int (iN m)] f Q := by
  have hF' := w.1
  have hm7 : m < 7 := by omega
  obtain ⟨⟨v, hv, ev⟩, -, ⟨l, hl, el⟩, -⟩ := ws.1 m hm7
  have nv : nb (S 0 m 0) = v := by rw [ev, nb_iN (by omega)]
  have nl : nb (S 2 m 0) = l := by rw [el, nb_iN (by omega)]
  have hv10 : v < 10 := by omega
  rw [nv] at mv
  obtain ⟨⟨F, hF, eF⟩, ⟨U, hU, eU⟩, eO⟩ := (ws.2.2.2.2.2.2.2 v hv10).2 mv
  have nF : enF S m = F := by unfold enF; rw [nv, eF, nb_iN (by omega)]
  have nU : enU S m = U := by unfold enU; rw [nv, eU, nb_iN (by omega)]
  have wb := enB_wf (F := F) ws hm7 hF
  unfold entS at kk
  rw [nF, nU, nv] at kk
  have x0 : f 406 m = iN v := (h.s (j := 0) hm7 (by omega)).trans ev
  refine t_Mo_entersView_0 ⟨m, rfl, hm7, fun g1 e1 => ⟨v, x0, hv10, ?_⟩⟩
  have h1 : rM g1 (su S 1 m 0 1) := by rw [e1]; exact h.sc (j := 1) hm7 (by omega)
  have f1 : FrM f g1 := by rw [e1]; exact (FrM.refl f).put (by omega)
  have k1 : FrK f g1 := by rw [e1]; exact (FrK.refl f).put (by omega)
  have x1 : g1 408 m = iN l := by rw [show g1 408 m = _ from h1.s (j := 2) hm7 (by omega), su_j (by omega)]; exact el
  have x2 : g1 423 v = iN F := by
    rw [e1, xu_a (by omega), ((h.2.2.2.2.2.2 v hv10).2 mv).1]; exact eF
  have tm : ¬ enB S m F 16 v 0 = 0 := by rw [enB_off (by omega)]; exact mv
  have t17 : enB S m F 17 v 0 = iN F := by rw [enB_off (by omega)]; exact eF
  have t18 : enB S m F 18 v 0 = iN U := by rw [enB_off (by omega)]; exact eU
  have rest : ∀ g3, rM g3 (enB S m F) → FrM f g3 → FrK f g3 → Wp L xs xm_Mo_entersView 40 [.ref 400, .int (iN m), .int (iN v), .retAddr 0] [] g3 (QV Q) := fun g3 h3 f3 k3 => by
    refine t_Mo_entersView_40 (r_liar w (cu.k k3) hm (fun hh => br0 ⟨v, rfl, hv10, ?_⟩) fun hh => br1 ?_)
    · rw [if_pos hh] at kk
      rw [((h3.2.2.2.2.2.2 v hv10).2 tm).1, t17, iN_inc]
      refine for0 (U - F) (fun d l' g => l' = [.ref 400, .int (iN m), .int (iN v), .int (iN (F + d + 1))] ∧ rM g (enL D m v F (enB S m F) d) ∧ FrM f g ∧ FrK f g) ⟨rfl, h3, f3, k3⟩ ?_ ?_
      · rintro d l' g hd ⟨rfl, b1, b2, b3⟩ k2
        have wd := enL_wf w wb hm7 hv10 ⟨by rw [enB_1]; decide, hh⟩ tm t17 t18 hF hU d (by omega)
        obtain ⟨-, -, ⟨l2, hl2, el2⟩, -⟩ := wd.1 m hm7
        have nl2 : nb (enL D m v F (enB S m F) d 2 m 0) = l2 := by rw [el2, nb_iN (by omega)]
        have tm' : ¬ enL D m v F (enB S m F) d 16 v 0 = 0 := by rw [enL_off (by omega)]; exact tm
        obtain ⟨z1, z2, z3⟩ := (b1.2.2.2.2.2.2 v hv10).2 tm'
        have z3 := z3 (F + d + 1) (by omega) (by omega)
        rw [enL_off (j := 17) (by omega), t17, enL_off (j := 18) (by omega), t18, if_pos ⟨((iN_lt (b := _) (by omega) (by omega)).mpr (by omega)), (fun z => absurd ((iN_lt (b := _) (by omega) (by omega)).mp z) (by omega))⟩, enL_off (by omega)] at z3
        rw [enL_off (by omega), t18] at z2
        refine t_Mo_entersView_58 ⟨v, rfl, hv10, ?_⟩
        rw [z2]
        refine brF (fun z => absurd ((iN_lt (b := _) (by omega) (by omega)).mp z) (by omega)) (r_within w (cu.k b3) b1 hm7 (by omega) el2 hl2 (fun u => br1 ⟨13 * v + (F + d + 1), by simp only [lit, iN_add, iN_mul], by omega, ?_⟩) fun u => br0 ?_)
        · have oo : ordI D (enB S m F 19 v (F + d + 1)) := by
            rw [enB_off (by omega)]
            refine eO _ (by omega) (by omega) ?_ ?_
            · rw [eF]; exact ((iN_lt (b := _) (by omega) (by omega)).mpr (by omega))
            · rw [eU]; exact (fun z => absurd ((iN_lt (b := _) (by omega) (by omega)).mp z) (by omega))
          rw [z3]
          refine r_accepts w wd (cu.k b3) b1 hm7 (by omega) ⟨by rw [enL_off (by omega), enB_1]; decide, hh⟩ oo fun g4 c4 m4 k4 => ?_
          rw [iN_inc]
          refine k2 _ _ ⟨rfl, ?_, b2.trans m4, b3.trans k4⟩
          rw [enL_s, if_pos (by unfold inW; rw [nl2]; exact u)]
          exact c4
        · rw [iN_inc]
          refine k2 _ _ ⟨rfl, ?_, b2, b3⟩
          rw [enL_s, if_neg (by unfold inW; rw [nl2]; exact u)]
          exact b1
      · rintro l' g ⟨rfl, b1, b2, b3⟩
        have tm' : ¬ enL D m v F (enB S m F) (U - F) 16 v 0 = 0 := by rw [enL_off (by omega)]; exact tm
        obtain ⟨z1, z2, z3⟩ := (b1.2.2.2.2.2.2 v hv10).2 tm'
        rw [enL_off (by omega), t18] at z2
        refine t_Mo_entersView_58 ⟨v, rfl, hv10, ?_⟩
        rw [z2]
        exact brT ((iN_lt (b := _) (by omega) (by omega)).mpr (by omega)) (kk g b1 b2 b3)
    · rw [if_neg (hf hh)] at kk
      exact kk g3 h3 f3 k3
  rw [x0, x1, x2, iN_lt (by omega) (by omega)]
  refine ⟨fun p => r_cuts h1 hm7 hF fun g3 h3 f3 k3 => rest g3 ?_ (f1.trans f3) (k1.trans k3), fun p => rest g1 ?_ f1 k1⟩
  · unfold enB
    rw [if_pos (by rw [nl]; exact p)]
    exact h3
  · unfold enB
    rw [if_neg (by rw [nl]; exact p)]
    exact h1
abbrev emOk (S : ST) (m : Nat) : Prop := S 1 m 0 = 0 ∧ ¬ S 16 (nb (S 0 m 0)) 0 = 0
theorem c_enterMade {Q : Int32 → Hp → Prop} {m : Nat} (w : wfC D) (ws : wfS D S) (h : cA f D S) (hm : m < 7) (h1 : emOk S m → ∀ g, cA g D (entS D S m) → FrA f g → Q 1 g) (h0 : ¬ emOk S m → Q 0 f) : CI L xs xm_As_enterMade [.ref 75, .int (iN m)] f Q := by
  obtain ⟨⟨v, hv, ev⟩, -⟩ := ws.1 m hm
  have nv : nb (S 0 m 0) = v := by rw [ev, nb_iN (by omega)]
  refine t_As_enterMade_0 ⟨m, rfl, hm, ?_⟩
  rw [h.s hm (by omega)]
  refine ⟨fun p => ⟨v, (h.s hm (by omega)).trans ev, by omega, ?_⟩, fun p => h0 fun z => p z.1⟩
  rw [(h.2.2.2.2 v (by omega)).1]
  refine ⟨fun p2 => h0 fun z => z.2 (by rw [nv]; exact p2), fun p2 => ?_⟩
  have ok : emOk S m := ⟨p, by rw [nv]; exact p2⟩
  exact c_enter w ws h hm ok.1 ok.2 fun g a b => h1 ok g a b
theorem r_entersAlone {Q : Int32 → Hp → Prop} {m : Nat} (w : wfC D) (ws : wfS D S) (cu : cur f o0 D) (h : rM f S) (hm : m < 3 * dF D + 1) (h1 : emOk S m → ∀ g, rM g (entS D S m) → FrM f g → FrK f g → Q 1 g) (h0 : ¬ emOk S m → Q 0 f) : CI L xs xm_Mo_entersAlone [.ref 400, .int (iN m)] f Q := by
  have hF' := w.1
  have hm7 : m < 7 := by omega
  obtain ⟨⟨v, hv, ev⟩, -⟩ := ws.1 m hm7
  have nv : nb (S 0 m 0) = v := by rw [ev, nb_iN (by omega)]
  refine t_Mo_entersAlone_0 ⟨m, rfl, hm7, ?_⟩
  rw [show f 407 m = S 1 m 0 from h.s (j := 1) hm7 (by omega)]
  refine ⟨fun p => ⟨v, (h.s (j := 0) hm7 (by omega)).trans ev, by omega, ?_⟩, fun p => h0 fun z => p z.1⟩
  rw [(h.2.2.2.2.2.2 v (by omega)).1]
  refine ⟨fun p2 => h0 fun z => z.2 (by rw [nv]; exact p2), fun p2 => ?_⟩
  have ok : emOk S m := ⟨p, by rw [nv]; exact p2⟩
  exact r_enters w ws cu h hm ok.2 fun g a b c => h1 ok g a b c
end ENTER
