/-! PLAY in the class: the whole plan -/
def SENT (D : CD) : Nat := sumW (fun i => sumW (fun m => sdS D (ttF D) (i + 1) m) (3 * dF D + 1)) 10
def QUIET (D : CD) : Nat := mxN (fun i => mxN (fun m => qtS D (ttF D) (i + 1) m) (3 * dF D + 1)) 10
theorem sumW_congr {F G : Nat → Nat} : ∀ n, (∀ k, k < n → F k = G k) → sumW F n = sumW G n
  | 0, _ => rfl
  | n + 1, h => by rw [sumW_s, sumW_s, sumW_congr n fun k hk => h k (by omega), h n (by omega)]
theorem sumW_up {F : Nat → Nat} (n : Nat) : ∀ d, (∀ k, n ≤ k → k < n + d → F k = 0) → sumW F (n + d) = sumW F n
  | 0, _ => rfl
  | d + 1, h => by rw [← Nat.add_assoc, sumW_s, sumW_up n d fun k h1 h2 => h k h1 (by omega), h (n + d) (by omega) (by omega)]; rfl
theorem sumW_0 {F : Nat → Nat} (n : Nat) (h : ∀ k, k < n → F k = 0) : sumW F n = 0 := by
  have := sumW_up (F := F) 0 n fun k _ h2 => h k (by omega)
  rw [Nat.zero_add] at this
  rw [this]; rfl
theorem mxN_congr {F G : Nat → Nat} : ∀ n, (∀ k, k < n → F k = G k) → mxN F n = mxN G n
  | 0, _ => rfl
  | n + 1, h => by rw [mxN_s, mxN_s, mxN_congr n fun k hk => h k (by omega), h n (by omega)]
theorem mxN_up {F : Nat → Nat} (n : Nat) : ∀ d, (∀ k, n ≤ k → k < n + d → F k = 0) → mxN F (n + d) = mxN F n
  | 0, _ => rfl
  | d + 1, h => by rw [← Nat.add_assoc, mxN_s, mxN_up n d fun k h1 h2 => h k h1 (by omega), h (n + d) (by omega) (by omega), Nat.max_zero]
theorem mxN_0 {F : Nat → Nat} (n : Nat) (h : ∀ k, k < n → F k = 0) : mxN F n = 0 := by
  have := mxN_up (F := F) 0 n fun k _ h2 => h k (by omega)
  rw [Nat.zero_add] at this
  rw [this]; rfl
theorem sdS_inf {D : CD} {t : TT} {s m : Nat} (h : t.1 m s = 1000000 ∧ t.2.1 m s = 1000000 ∧ t.2.2.1 m s = 1000000 ∧ t.2.2.2 m s = 1000000) : sdS D t s m = 0 ∧ qtS D t s m = 0 := by
  unfold sdS qtS
  rw [h.1, h.2.1, h.2.2.1]
  have e1 : sdN D 1000000 m = 0 := if_neg (by omega)
  have e2 : qtN D 1000000 m = 0 := if_neg (by omega)
  rw [e1, e2]
  exact ⟨by split <;> rfl, by split <;> rfl⟩
theorem ttS_o {D : CD} {t : TT} {s m i : Nat} (h : ¬ i = s) : (ttS D s t).1 m i = t.1 m i ∧ (ttS D s t).2.1 m i = t.2.1 m i ∧ (ttS D s t).2.2.1 m i = t.2.2.1 m i ∧ (ttS D s t).2.2.2 m i = t.2.2.2 m i := ⟨if_neg (fun z => h z.1), if_neg (fun z => h z.1), if_neg (fun z => h z.1), if_neg (fun z => h z.1)⟩
theorem ttN_st {D : CD} {s m i : Nat} (h : i ≤ s) : ∀ d, (ttN D (s + d)).1 m i = (ttN D s).1 m i ∧ (ttN D (s + d)).2.1 m i = (ttN D s).2.1 m i ∧ (ttN D (s + d)).2.2.1 m i = (ttN D s).2.2.1 m i ∧ (ttN D (s + d)).2.2.2 m i = (ttN D s).2.2.2 m i
  | 0 => ⟨rfl, rfl, rfl, rfl⟩
  | d + 1 => by
    have ih := ttN_st (D := D) (m := m) h d
    rw [← Nat.add_assoc]
    by_cases t : s + d + 1 ≤ dN D
    · rw [ttN_s t]
      have o := ttS_o (D := D) (t := ttN D (s + d)) (m := m) (show ¬ i = s + d + 1 by omega)
      rw [o.1, o.2.1, o.2.2.1, o.2.2.2]
      exact ih
    · rw [ttN_e (by omega)]
      exact ih
theorem low_w {D : CD} {t : TT} {s p m : Nat} (wm : wfM D s t) (hs : s ≤ 10) : low (t.2.2.2 m) p 11 ≤ 360 ∨ low (t.2.2.2 m) p 11 = 1000000 := by
  obtain ⟨a0, r0, c0, up, li, b⟩ := wm
  refine low_bt fun i h1 h2 => ?_
  by_cases y : i = 0
  · subst y; exact Or.inr (c0 m)
  · rcases (b m i (by omega)).2.2.2 with z | z <;> omega
theorem qtS_le {D : CD} {t : TT} {s m : Nat} (w : wfC D) (hm : m < 7) (hs : 1 ≤ s ∧ s ≤ 10) {n : Nat} (wm : wfM D n t) : qtS D t s m ≤ 400 := by
  obtain ⟨b1, b2, b3, b4⟩ := wm.2.2.2.2.2 m s hs.1
  unfold bt at b1 b2 b3
  have x1 := qtN_lt (m := m) w hm (show t.1 m s ≤ 360 ∨ 1000000 ≤ t.1 m s by omega)
  have x2 := qtN_lt (m := m) w hm (show t.2.1 m s ≤ 360 ∨ 1000000 ≤ t.2.1 m s by omega)
  have x3 := qtN_lt (m := m) w hm (show t.2.2.1 m s ≤ 360 ∨ 1000000 ≤ t.2.2.1 m s by omega)
  unfold qtS
  split <;> omega
theorem sent_eq {D : CD} (w : wfC D) (h0 : (dL D).testBit 0 = false) : sumW (fun i => sumW (fun m => sdS D (ttN D (i + 1)) (i + 1) m) (3 * dF D + 1)) (dN D) = SENT D ∧ mxN (fun i => mxN (fun m => qtS D (ttN D (i + 1)) (i + 1) m) (3 * dF D + 1)) (dN D) = QUIET D := by
  have w5 := w.2.2.2.2.1
  have eF : ttF D = ttN D 10 := if_neg (by rw [h0]; decide)
  have wm := wfM_N w h0 10 (by omega)
  rw [Nat.min_eq_right w5] at wm
  have hi : ∀ i, dN D ≤ i → i < 10 → ∀ m, sdS D (ttN D 10) (i + 1) m = 0 ∧ qtS D (ttN D 10) (i + 1) m = 0 := fun i h1 h2 m => sdS_inf (wm.2.2.2.1 m (i + 1) (by omega))
  have lo : ∀ i, i < dN D → ∀ m, sdS D (ttN D (i + 1)) (i + 1) m = sdS D (ttN D 10) (i + 1) m ∧ qtS D (ttN D (i + 1)) (i + 1) m = qtS D (ttN D 10) (i + 1) m := fun i h1 m => by
    have := ttN_st (D := D) (m := m) (Nat.le_refl (i + 1)) (10 - (i + 1))
    rw [show i + 1 + (10 - (i + 1)) = 10 by omega] at this
    unfold sdS qtS
    rw [this.1, this.2.1, this.2.2.1]
    exact ⟨rfl, rfl⟩
  unfold SENT QUIET
  rw [eF]
  constructor
  · have := sumW_up (F := fun i => sumW (fun m => sdS D (ttN D 10) (i + 1) m) (3 * dF D + 1)) (dN D) (10 - dN D) fun k h1 h2 => sumW_0 _ fun m _ => (hi k h1 (by omega) m).1
    rw [show dN D + (10 - dN D) = 10 by omega] at this
    rw [this]
    exact sumW_congr _ fun i hi => sumW_congr _ fun m _ => (lo i hi m).1
  · have := mxN_up (F := fun i => mxN (fun m => qtS D (ttN D 10) (i + 1) m) (3 * dF D + 1)) (dN D) (10 - dN D) fun k h1 h2 => mxN_0 _ fun m _ => (hi k h1 (by omega) m).2
    rw [show dN D + (10 - dN D) = 10 by omega] at this
    rw [this]
    exact mxN_congr _ fun i hi => mxN_congr _ fun m _ => (lo i hi m).2
theorem sent_0 {D : CD} (h0 : (dL D).testBit 0 = true) : SENT D = 0 ∧ QUIET D = 0 := by
  have eF : ttF D = tt0 := if_pos h0
  have hi : ∀ i m, sdS D tt0 (i + 1) m = 0 ∧ qtS D tt0 (i + 1) m = 0 := fun i m => sdS_inf ⟨rfl, rfl, rfl, rfl⟩
  unfold SENT QUIET
  rw [eF]
  exact ⟨sumW_0 _ fun k _ => sumW_0 _ fun m _ => (hi k m).1, mxN_0 _ fun k _ => mxN_0 _ fun m _ => (hi k m).2⟩
section PLAN3
variable {L : Nat} {xs : Nat → Int32} {f g : Hp} {T : TD} {D D0 : CD} {t : TT}
theorem c_place {Q : Hp → Prop} {s : Nat} (w : wfC D) (h0 : hon D 0 = true) (hs : s + 1 ≤ 10) (wm : wfM D s t) {a b : Nat} (cc : cC f 234 D) (ct : cTT f t) (h1 : f 200 1 = iN a) (h2 : f 200 2 = eQ b) (hb : b ≤ 400) (kk : ∀ g, cC g 234 D → cTT g (ttS D (s + 1) t) → g 200 1 = iN (a + sumW (fun m => sdS D (ttS D (s + 1) t) (s + 1) m) (3 * dF D + 1)) → g 200 2 = eQ (max b (mxN (fun m => qtS D (ttS D (s + 1) t) (s + 1) m) (3 * dF D + 1))) → (∀ x, x < 200 ∨ 246 ≤ x → g x = f x) → Q g) : CV L xs xm_Tt_acceptAll [.ref 200, .int (iN (s + 1))] f (fun g1 => CV L xs xm_Tt_prepareAll [.ref 200, .int (iN (s + 1))] g1 (fun g2 => CV L xs xm_Tt_runAll [.ref 200, .int (iN (s + 1))] g2 (fun g3 => CV L xs xm_Tt_cutAll [.ref 200, .int (iN (s + 1))] g3 (fun g4 => CV L xs xm_Tt_sendAll [.ref 200, .int (iN (s + 1))] g4 Q)))) := by
  have t0 := (hon_iff.mp h0).2
  have wn := wfM_s w t0 hs wm
  have bn := fun m => wn.2.2.2.2.2 m (s + 1) (by omega)
  have inf := wm.inf
  refine c_acceptAll w h0 (by omega) wm cc ct (fun m => (bn m).1) (fun m i => ?_) (fun m => (low_w (p := s + 1 - dW D) (m := m) wm (by omega)).imp (fun z => by omega) fun z => by omega) fun g1 a1 f1 => ?_
  · by_cases z : i ≤ 10
    · exact (inf m i z).2.2.1
    · rw [(wm.2.2.2.1 m i (by omega)).2.2.2]; exact Nat.le_refl _
  have cc1 : cC g1 234 D := cc.fr fun a p q => f1 a (by omega)
  refine c_prepareAll (P := t.2.1) w (by omega) cc1 a1 (fun m i hm hi => by rw [f1 _ (by omega)]; exact (ct m i hm hi).2.1) (fun m => (bt_inf (bn m).1 (by omega)).1) (fun m => (bn m).2.1) fun g2 a2 f2 => ?_
  have cc2 : cC g2 234 D := cc1.fr fun a p q => f2 a (by omega)
  refine c_runAll (R := t.2.2.1) w (by omega) cc2 a2 (fun m i hm hi => by rw [f2 _ (by omega), f1 _ (by omega)]; exact (ct m i hm hi).2.2.1) (fun m => (bt_inf (bn m).2.1 (by omega)).1) (fun m => (inf m s (by omega)).2.1.1) (fun m => (bn m).2.2.1) fun g3 a3 f3 => ?_
  have cc3 : cC g3 234 D := cc2.fr fun a p q => f3 a (by omega)
  refine c_cutAll (C := t.2.2.2) w (by omega) cc3 a3 (fun m i hm hi => by rw [f3 _ (by omega), f2 _ (by omega), f1 _ (by omega)]; exact (ct m i hm hi).2.2.2) (fun m => (bt_inf (bn m).2.2.1 (by omega)).1) (fun m => (bn m).2.2.2) fun g4 a4 f4 => ?_
  have cc4 : cC g4 234 D := cc3.fr fun a p q => f4 a (by omega)
  have ct4 : cTT g4 (ttS D (s + 1) t) := fun m i hm hi => ⟨by rw [f4 _ (by omega), f3 _ (by omega), f2 _ (by omega)]; exact a1 m i hm hi, by rw [f4 _ (by omega), f3 _ (by omega)]; exact a2 m i hm hi, by rw [f4 _ (by omega)]; exact a3 m i hm hi, a4 m i hm hi⟩
  have e200 : g4 200 = f 200 := by rw [f4 200 (by omega), f3 200 (by omega), f2 200 (by omega), f1 200 (by omega)]
  refine c_sendAll w (by omega) wn cc4 ct4 (by rw [e200]; exact h1) (by rw [e200]; exact h2) hb fun g5 d1 d2 d3 => kk g5 (cc4.fr fun a p q => d3 a (by omega)) (fun m i hm hi => ?_) d1 d2 fun x hx => ?_
  · rw [d3 _ (by omega), d3 _ (by omega), d3 _ (by omega), d3 _ (by omega)]; exact ct4 m i hm hi
  · rw [d3 x (by omega), f4 x (by omega), f3 x (by omega), f2 x (by omega), f1 x (by omega)]
theorem c_plan {Q : Hp → Prop} {c W l : Nat} (kc : xS0 L c = (1, 0)) (hc : c + 12 ≤ 200) (w : wfC D) (w0 : wfC D0) (cc : cC f c D0) (eD : D = ((dF D0, W, dS D0, l, dN D0), D0.2)) (kk : ∀ g, cC g 234 D → cTT g (ttF D) → g 200 1 = iN (SENT D) → g 200 2 = eQ (QUIET D) → (∀ x, x < 200 ∨ 246 ≤ x → g x = f x) → Q g) : CV L xs xm_Tt_plan [.ref 200, .ref c, .int (iN W), .int (iN l)] f Q := by
  have w5 := w.2.2.2.2.1
  have hF := w.1
  refine t_Tt_plan_0 kc (c_coTake rfl kc (by omega) fun g1 p1 p2 g2 e2 g3 e3 g4 e4 g5 e5 => ?_)
  have c1 := p1.co w0 cc
  have n5 : ∀ x, ¬ x = 200 → ¬ x = 234 → g5 x = g1 x := fun x p q => by rw [e5, xu_a p, e4, xu_a p, e3, xu_a q, e2, xu_a q]
  have k5 : ∀ i, ¬ i = 1 → ¬ i = 3 → g5 234 i = g1 234 i := fun i p q => by rw [e5, xu_a (by omega), e4, xu_a (by omega), e3, xu_k q, e2, xu_k p]
  have cc5 : cC g5 234 D := by
    obtain ⟨x1, x2, x3, x4, x5, x6, x7, x8⟩ := c1
    rw [eD]
    refine ⟨by rw [k5 0 (by omega) (by omega)]; exact x1, by rw [e5, xu_a (by omega), e4, xu_a (by omega), e3, xu_k (by omega), e2, xu_eq], by rw [k5 2 (by omega) (by omega)]; exact x3, by rw [e5, xu_a (by omega), e4, xu_a (by omega), e3, xu_eq], by rw [k5 4 (by omega) (by omega)]; exact x5, fun i hi => by rw [n5 _ (by omega) (by omega)]; exact x6 i hi, fun i hi => by rw [n5 _ (by omega) (by omega), n5 _ (by omega) (by omega)]; exact x7 i hi, fun a b ha hb => by rw [n5 _ (by omega) (by omega)]; exact x8 a b ha hb⟩
  have s1 : g5 200 1 = iN 0 := by rw [e5, xu_k (by omega), e4, xu_eq]; rfl
  have s2 : g5 200 2 = eQ 0 := by rw [e5, xu_eq]; rfl
  have fr5 : ∀ x, x < 200 ∨ 246 ≤ x → g5 x = f x := fun x hx => by rw [n5 x (by omega) (by omega), p2 x (by omega)]
  refine for0 7 (fun k l' g => l' = [.ref 200, .ref c, .int (iN W), .int (iN l), .int (iN k)] ∧ (∀ m i, m < k → i < 11 → g (210 + m) i = iN (tt0.1 m i) ∧ g (218 + m) i = iN (tt0.2.1 m i) ∧ g (202 + m) i = iN (tt0.2.2.1 m i) ∧ g (226 + m) i = iN (tt0.2.2.2 m i)) ∧ ∀ x, x < 202 ∨ 233 ≤ x → g x = g5 x) ⟨rfl, fun m i hm => absurd hm (by omega), fun _ _ => rfl⟩ ?_ ?_
  · rintro k l' g hk ⟨rfl, b1, b2⟩ k2
    refine t_Tt_plan_37 kc (brT ((iN_lt (b := 7) (by omega) (by omega)).mpr (by omega)) ⟨k, rfl, hk, ?_⟩)
    refine fill_go ((kf_9_0 (L := L) (a := 200) rfl).2.2 k hk).2 fun h1 x1 y1 => fill_go ((kf_9_3 (L := L) (a := 200) rfl).2.2 k hk).2 fun h2 x2 y2 => fill_go ((kf_9_4 (L := L) (a := 200) rfl).2.2 k hk).2 fun h3 x3 y3 => fill_go ((kf_9_5 (L := L) (a := 200) rfl).2.2 k hk).2 fun h4 x4 y4 h5 z5 h6 z6 => ?_
    have y1' : ∀ x, ¬ x = 202 + k → h1 x = g x := y1
    have y2' : ∀ x, ¬ x = 210 + k → h2 x = h1 x := y2
    have y3' : ∀ x, ¬ x = 218 + k → h3 x = h2 x := y3
    have y4' : ∀ x, ¬ x = 226 + k → h4 x = h3 x := y4
    have x1' : ∀ i, i < 11 → h1 (202 + k) i = 1000000 := x1
    have x2' : ∀ i, i < 11 → h2 (210 + k) i = 1000000 := x2
    have x3' : ∀ i, i < 11 → h3 (218 + k) i = 1000000 := x3
    have x4' : ∀ i, i < 11 → h4 (226 + k) i = 1000000 := x4
    rw [iN_inc]
    refine k2 _ _ ⟨rfl, fun m i hm hi => ?_, fun x hx => by rw [z6, xu_a (by omega), z5, xu_a (by omega), y4' x (by omega), y3' x (by omega), y2' x (by omega), y1' x (by omega), b2 x hx]⟩
    by_cases e : m = k
    · subst e
      refine ⟨?_, ?_, ?_, ?_⟩
      · rw [z6, xu_at]
        by_cases e0 : i = 0
        · subst e0; rw [if_pos ⟨rfl, rfl⟩]; rfl
        · rw [if_neg (fun z => e0 z.2), z5, xu_a (by omega), y4' _ (by omega), y3' _ (by omega), x2' i hi, show tt0.1 m i = 1000000 from if_neg e0]; rfl
      · rw [z6, xu_a (by omega), z5, xu_a (by omega), y4' _ (by omega), x3' i hi]; rfl
      · rw [z6, xu_a (by omega), z5, xu_at]
        by_cases e0 : i = 0
        · subst e0; rw [if_pos ⟨rfl, rfl⟩]; rfl
        · rw [if_neg (fun z => e0 z.2), y4' _ (by omega), y3' _ (by omega), y2' _ (by omega), x1' i hi, show tt0.2.2.1 m i = 1000000 from if_neg e0]; rfl
      · rw [z6, xu_a (by omega), z5, xu_a (by omega), x4' i hi]; rfl
    · have st : ∀ x, ¬ x = 202 + k → ¬ x = 210 + k → ¬ x = 218 + k → ¬ x = 226 + k → h6 x = g x := fun x q1 q2 q3 q4 => by rw [z6, xu_a q2, z5, xu_a q1, y4' x q4, y3' x q3, y2' x q2, y1' x q1]
      rw [st _ (by omega) (by omega) (by omega) (by omega), st _ (by omega) (by omega) (by omega) (by omega), st _ (by omega) (by omega) (by omega) (by omega), st _ (by omega) (by omega) (by omega) (by omega)]
      exact b1 m i (by omega) hi
  · rintro l' g ⟨rfl, b1, b2⟩
    have cg : cC g 234 D := cc5.fr fun a p q => b2 a (by omega)
    have ct : cTT g tt0 := fun m i hm hi => b1 m i hm hi
    have q1 : g 200 1 = iN 0 := by rw [b2 200 (by omega)]; exact s1
    have q2 : g 200 2 = eQ 0 := by rw [b2 200 (by omega)]; exact s2
    have fr : ∀ x, x < 200 ∨ 246 ≤ x → g x = f x := fun x hx => by rw [b2 x (by omega), fr5 x hx]
    refine t_Tt_plan_37 kc (brF (by decide) (c_hon (m := 0) rfl w cg (by omega) (fun hh => br1 ?_) fun hh => br0 ?_))
    · have t0 := (hon_iff.mp hh).2
      obtain ⟨es, eq⟩ := sent_eq w t0
      have eF : ttF D = ttN D 10 := if_neg (by rw [t0]; decide)
      refine for0 (dN D) (fun k l' g => l' = [.ref 200, .ref c, .int (iN W), .int (iN l), .int (iN (k + 1))] ∧ cC g 234 D ∧ cTT g (ttN D k) ∧ g 200 1 = iN (sumW (fun i => sumW (fun m => sdS D (ttN D (i + 1)) (i + 1) m) (3 * dF D + 1)) k) ∧ g 200 2 = eQ (mxN (fun i => mxN (fun m => qtS D (ttN D (i + 1)) (i + 1) m) (3 * dF D + 1)) k) ∧ ∀ x, x < 200 ∨ 246 ≤ x → g x = f x) ⟨rfl, cg, ct, q1, q2, fr⟩ ?_ ?_
      · rintro k l' g hk ⟨rfl, d1, d2, d3, d4, d5⟩ k2
        have wk := wfM_N w t0 k (by omega)
        rw [Nat.min_eq_left (by omega)] at wk
        have b4 : mxN (fun i => mxN (fun m => qtS D (ttN D (i + 1)) (i + 1) m) (3 * dF D + 1)) k ≤ 400 := (mxN_le k).mpr fun i hi => (mxN_le _).mpr fun m hm => qtS_le w (by omega) (by omega) (wfM_N w t0 (i + 1) (by omega))
        refine t_Tt_plan_133 kc (brF (by rw [d1.2.2.2.2.1]; exact (fun z => absurd ((iN_lt (b := _) (by omega) (by omega)).mp z) (by omega))) (brF (fun z => absurd ((iN_lt (a := 10) (by omega) (by omega)).mp z) (by omega)) (c_place w hh (by omega) wk d1 d2 d3 d4 b4 fun g' u1 u2 u3 u4 u5 => ?_)))
        rw [iN_inc]
        rw [← ttN_s (by omega)] at u2 u3 u4
        exact k2 _ _ ⟨rfl, u1, u2, u3, u4, fun x hx => by rw [u5 x hx, d5 x hx]⟩
      · rintro l' g ⟨rfl, d1, d2, d3, d4, d5⟩
        refine t_Tt_plan_133 kc (brT (by rw [d1.2.2.2.2.1]; exact ((iN_lt (b := _) (by omega) (by omega)).mpr (by omega))) (kk g d1 ?_ (by rw [d3, es]) (by rw [d4, eq]) d5))
        have := ttN_up (D := D) (Nat.le_refl (dN D)) (10 - dN D)
        rw [show dN D + (10 - dN D) = 10 by omega] at this
        rw [eF, this]
        exact d2
    · have t0 : (dL D).testBit 0 = true := by
        cases hb : (dL D).testBit 0 with
        | true => rfl
        | false =>
          have := hon_iff.mpr ⟨show 0 < 3 * dF D + 1 by omega, hb⟩
          rw [hh] at this; cases this
      obtain ⟨es, eq⟩ := sent_0 (D := D) t0
      have eF : ttF D = tt0 := if_pos t0
      exact kk g cg (by rw [eF]; exact ct) (by rw [es]; exact q1) (by rw [eq]; exact q2) fr
/-- done: the first minute in which more than faults ran it -/
def dnT (D : CD) (s : Nat) : Nat := kt (fun m => (ttF D).2.2.1 m s) (3 * dF D + 1) (dF D + 1)
theorem dnT_bt {D : CD} {s : Nat} (w : wfC D) (hs : 1 ≤ s ∧ s ≤ 10) : dnT D s ≤ 360 ∨ dnT D s = 1000000 := kt_bt fun b hb => by
  have := ((wfM_F w).2.2.2.2.2 b s hs.1).2.2.1
  show (ttF D).2.2.1 b s ≤ 360 ∨ 1000000 ≤ (ttF D).2.2.1 b s
  unfold bt at this
  omega
theorem dnT_lo {D : CD} {s : Nat} (w : wfC D) (hs : 1 ≤ s ∧ s ≤ 10) : s - 1 ≤ dnT D s := by
  have h := (kt_le (r := fun m => (ttF D).2.2.1 m s) (n := 3 * dF D + 1) (k := dF D + 1) (x := dnT D s) (by omega)).mp (Nat.le_refl _)
  rcases h with h | h
  · omega
  · refine Classical.byContradiction fun z => ?_
    rw [cnt0 _ _ fun m hm y => ?_] at h
    · omega
    · have := ((wfM_F w).2.2.2.2.2 m s hs.1).2.2.1
      have y : (ttF D).2.2.1 m s ≤ dnT D s := y
      unfold bt at this
      omega
theorem c_doneAt {Q : Int32 → Hp → Prop} {s : Nat} (w : wfC D) (cc : cC f 234 D) (ct : cTT f (ttF D)) (hs : 1 ≤ s ∧ s ≤ 10) (kk : ∀ g, (∀ x, ¬ x = 233 → g x = f x) → Q (iN (dnT D s)) g) : CI L xs xm_Tt_doneAt [.ref 200, .int (iN s)] f Q := by
  have hF := w.1
  have wm := wfM_F w
  refine t_Tt_doneAt_0 (fill_go rfl fun g1 a1 a2 => ?_)
  refine for0 7 (fun k l g => l = [.ref 200, .int (iN s), .int (iN k)] ∧ (∀ b, b < k → g 233 b = iN ((ttF D).2.2.1 b s)) ∧ ∀ x, ¬ x = 233 → g x = f x) ⟨rfl, fun b hb => absurd hb (by omega), a2⟩ ?_ ?_
  · rintro k l g hk ⟨rfl, b1, b2⟩ k2
    refine t_Tt_doneAt_11 (brT ((iN_lt (b := 7) (by omega) (by omega)).mpr (by omega)) (brF (fun z => absurd ((iN_lt (b := 1) (by omega) (by omega)).mp z) (by omega)) (brF (fun z => absurd ((iN_lt (a := 10) (by omega) (by omega)).mp z) (by omega)) ⟨k, rfl, hk, s, rfl, by omega, fun g4 e4 => ?_⟩)))
    rw [iN_inc]
    refine k2 _ _ ⟨rfl, fun b hb => ?_, fun x hx => by rw [e4, xu_a hx, b2 x hx]⟩
    rw [e4, xu_at]
    by_cases e : b = k
    · subst e
      rw [if_pos ⟨rfl, rfl⟩, b2 _ (by omega)]; exact (ct b s hk (by omega)).2.2.1
    · rw [if_neg (by omega), b1 b (by omega)]
  · rintro l g ⟨rfl, b1, b2⟩
    have cg : cC g 234 D := cc.fr fun a p q => b2 a (by omega)
    refine t_Tt_doneAt_11 (brF (by decide) ?_)
    rw [cg.1, iN_inc]
    refine c_least (r := fun m => (ttF D).2.2.1 m s) (by omega) b1 (fun b hb => ?_) ?_
    · have := (wm.inf b s hs.2).2.1.1
      show (ttF D).2.2.1 b s < 2147483648
      omega
    · have e : kt (fun m => (ttF D).2.2.1 m s) 7 (dF D + 1) = dnT D s := kt_cap (by omega) (by omega) (fun b _ => Or.inl rfl) fun b h1 h2 => by
        show 1000000 ≤ (ttF D).2.2.1 b s
        have : hon D b = false := by
          cases hh : hon D b with
          | false => rfl
          | true => have := (hon_iff.mp hh).1; omega
        rw [(wm.2.2.2.2.1 b s this hs.1).2.2.1]
        exact Nat.le_refl _
      rw [e]
      exact kk g b2
theorem c_doneAt0 {Q : Int32 → Hp → Prop} (cc : cC f 234 D) (w : wfC D) (kk : ∀ g, (∀ x, ¬ x = 233 → g x = f x) → Q (iN 1000000) g) : CI L xs xm_Tt_doneAt [.ref 200, .int (iN 0)] f Q := by
  have hF := w.1
  refine t_Tt_doneAt_0 (fill_go rfl fun g1 a1 a2 => ?_)
  have cg : cC g1 234 D := cc.fr fun a p q => a2 a (by omega)
  refine t_Tt_doneAt_11 (brT (by decide) (brT (by decide) ?_))
  rw [cg.1, iN_inc]
  refine c_least (r := fun _ => 1000000) (by omega) a1 (fun _ _ => by omega) ?_
  have : kt (fun _ => 1000000) 7 (dF D + 1) = 1000000 := by
    rcases kt_bt (r := fun _ => 1000000) (n := 7) (k := dF D + 1) (hi := 0) fun b hb => Or.inr (Nat.le_refl _) with z | z
    · have := (kth_le (r := fun _ => 1000000) (n := 7) (k := dF D + 1) (x := 0) 7).mp z
      rcases this with y | ⟨i, _, _, y⟩
      · omega
      · have y : 1000000 ≤ 0 := y
        omega
    · exact z
  rw [this]
  exact kk g1 a2
end PLAN3
