/-! the call text -/
theorem prs_wf {B : Nat → Nat} {n t : Nat} (ht : t < 3) : ∀ k p F X, p ≤ n → wfX X → wfY X → wfX (prs B n t k p F X).2 ∧ wfY (prs B n t k p F X).2
  | 0, p, F, X, _, wx, wy => ⟨wx, wy⟩
  | k + 1, p, F, X, hp, wx, wy => by
    have lw := lin_wf (B := B) (F := F) hp ht wx
    have ly := lin_wfy (B := B) (n := n) (p := p) (F := F) ht wx wy
    rw [prs_s]
    split
    · exact ⟨wx, wy⟩
    · split
      · exact prs_wf ht k _ _ _ lw.2.2.1 lw.1 ly
      · exact ⟨lw.1, ly⟩
section OPTEXT
variable {L : Nat} {xs : Nat → Int32} {f g h : Hp}
theorem r_text0 {Q : Int32 → Hp → Prop} {x y : Int32} {T : TD} (w : wfT T) (r : rT f 0 T) (e : h 401 = f 401) (kk : ∀ h4, (∀ a, ¬ a = 400 → ¬ a = 401 → h4 a = h a) → h4 400 2 = iN T.1.1 → h4 401 4 = 0 → h4 401 5 = 0 → h4 401 6 = -1 → (∀ j, ¬ j = 4 → ¬ j = 5 → ¬ j = 6 → h4 401 j = f 401 j) → ((∀ t, t < 3 → x = iN t → (y = -1 → ¬ tZ T t < 2) ∧ ∀ k, k < tZ T t → ¬ y = iN k) → Q (-2) h4) ∧ ∀ t, t < 3 → x = iN t → (y = -1 → tZ T t < 2 → Wp L xs xm_Mo_text 71 [.ref 400, .int x, .int y, .retAddr 0, .retAddr 0] [] h4 (QI Q)) ∧ ∀ k, k < tZ T t → y = iN k → Wp L xs xm_Mo_text 71 [.ref 400, .int x, .int y, .retAddr 0, .retAddr 0] [] h4 (QI Q)) : CI L xs xm_Mo_text [.ref 400, .int x, .int y] h Q := by
  have r4 : f 401 4 = iN T.1.1 := r.1
  refine t_Mo_text_0 fun g1 e1 g2 e2 g3 e3 g4 e4 => ?_
  rw [e, r4] at e1
  have K := kk g4 (fun a p q => by rw [e4, xu_a q, e3, xu_a q, e2, xu_a q, e1, xu_a p]) (by rw [e4, xu_a (by omega), e3, xu_a (by omega), e2, xu_a (by omega), e1, xu_eq]) (by rw [e4, xu_k (by omega), e3, xu_k (by omega), e2, xu_eq]) (by rw [e4, xu_k (by omega), e3, xu_eq]) (by rw [e4, xu_eq]) (fun j p q s => by rw [e4, xu_k s, e3, xu_k q, e2, xu_k p, e1, xu_a (by omega), e])
  have oth : ∀ j, ¬ j = 4 → ¬ j = 5 → ¬ j = 6 → g4 401 j = f 401 j := fun j p q s => by rw [e4, xu_k s, e3, xu_k q, e2, xu_k p, e1, xu_a (by omega), e]
  clear kk e1 e2 e3 e4
  refine r_isIn (a := 0) (b := 2) (by omega) (by omega) (fun t _ ht ex => br1 ?_) fun no => br0 (K.1 fun t ht ex => absurd ex (no t (by omega) (by omega)))
  have ht : t < 3 := by omega
  have z2 := w.2.2.1 t ht
  have s4 : g4 401 t = iN (tZ T t) := by
    rw [oth t (by omega) (by omega) (by omega)]
    have := r.2.2.2.2.1 t ht
    rw [Nat.zero_add] at this
    exact this
  have one : ∀ t', t' < 3 → x = iN t' → t' = t := fun t' h' e' => (iN_inj (by omega) (by omega)).mp (e'.symm.trans ex)
  have K2 := K.2 t ht ex
  refine ⟨fun hy => ⟨t, ex, by omega, ?_⟩, fun hy => ?_⟩
  · rw [s4, show (iN (tZ T t) < 2 ↔ tZ T t < 2) from iN_lt (b := 2) (by omega) (by omega)]
    refine ⟨fun q => K2.1 hy q, fun q => K.1 fun t' h' e' => ?_⟩
    rw [one t' h' e']
    exact ⟨fun _ => q, fun k hk yk => by rw [hy] at yk; exact iN_ne1 (by omega) yk.symm⟩
  · have K1 := K.1
    subst ex
    refine r_isOf ht s4 z2 (fun j hj ej => br1 (K2.2 j hj ej)) fun no => br0 (K1 fun t' h' e' => ?_)
    rw [one t' h' e']
    exact ⟨fun y1 => absurd y1 hy, no⟩
/-- both sides, once the text is to be read: kind t, place k -/
theorem text_both {T : TD} {t k : Nat} {y : Int32} (w : wfT T) (c : cT f 1 T) (r : rT f 0 T) (im : ∀ k, k < 3 → Img f k) (ht : t < 3) (hk : k < 2) (hy : (y = -1 ∧ k = tZ T t) ∨ (y = iN k ∧ k < tZ T t)) (n3 : ∀ a, ¬ a = 1 → g a = f a) (v3 : g 1 1 = 0 ∧ g 1 2 = 0 ∧ g 1 3 = -1) : Wp L xs xm_TP_text 95 [.ref 0, .int (iN t), .int y, .int (iN T.1.1), .int (iN k)] [] g (QI fun v g => CI L xs xm_Mo_text [.ref 400, .int (iN t), .int y] g (fun w h => w = v ∧ Inv h)) := by
  have wn := w.1
  have z2 := w.2.2.1 t ht
  have hB : ∀ i, i < 600 → T.1.2.2.2 i < 256 ∧ g 2 i = sgn (T.1.2.2.2 i) := fun i hi => ⟨w.2.1 i hi, by rw [n3 2 (by omega)]; exact c.2.2.2.1 i hi⟩
  have hB2 : ∀ i, i < 600 → f 401 (10 + i) = iN (T.1.2.2.2 i) := fun i hi => by
    have := r.2.2.2.1 i hi
    rw [Nat.zero_add] at this
    exact this
  have hZ : ∀ s, s < 3 → f 401 s = iN (tZ T s) := fun s hs => by
    have := r.2.2.2.2.1 s hs
    rw [Nat.zero_add] at this
    exact this
  have hC : ∀ s, s < 3 → f 3 s = iN (tZ T s) := c.2.2.2.2.1
  have pw := prs_wf (B := T.1.2.2.2) (n := T.1.1) ht 600 0 (0, 0) X0 (by omega) X0_wf.1 X0_wf.2
  -- the reference's reading, from any heap whose rows of texts are those of f
  have ref : ∀ (h : Hp) (v : Int32), h 401 = f 401 → (∀ h2 x3, (∀ x, ¬ x = 400 → ¬ x = 401 → ¬ x = 403 → h2 x = h x) → h2 401 4 = 0 → rF h2 (fin4 T.1.1 (prs T.1.2.2.2 T.1.1 t 600 0 (0, 0) X0)) → (∀ j, ¬ j = 4 → ¬ j = 5 → ¬ j = 6 → h2 401 j = f 401 j) → ((fin4 T.1.1 (prs T.1.2.2.2 T.1.1 t 600 0 (0, 0) X0)).1 = 0 → shT t (h2 403) (prs T.1.2.2.2 T.1.1 t 600 0 (0, 0) X0).2) → Wp L xs xm_Mo_text 262 [.ref 400, .int (iN t), .int y, .int x3, .retAddr 0] [] h2 (QI fun w h => w = v ∧ Inv h)) → CI L xs xm_Mo_text [.ref 400, .int (iN t), .int y] h (fun w h => w = v ∧ Inv h) := fun h v e kk => by
    refine r_text0 w r e fun h4 a1 a2 a3 a4 a5 a6 => ?_
    have go : Wp L xs xm_Mo_text 71 [.ref 400, .int (iN t), .int y, .retAddr 0, .retAddr 0] [] h4 (QI fun w h => w = v ∧ Inv h) := by
      refine r_text71 (B := T.1.2.2.2) (n := T.1.1) ht ⟨wn, a2, fun i hi => ⟨w.2.1 i hi, by rw [a6 _ (by omega) (by omega) (by omega)]; exact hB2 i hi⟩⟩ ⟨by show 0 ≤ 4; omega, by show 0 ≤ 600; omega, a4, a5⟩ fun g x3 b1 b2 b3 => ?_
      exact kk g x3 (fun x p q s => by rw [b3.1 x p q s, a1 x p q]) (by rw [b3.2 4 (by omega) (by omega)]; exact a3) b1 (fun j p q s => by rw [b3.2 j q s]; exact a6 j p q s) b2
    have one : ∀ t', t' < 3 → iN t = iN t' → t' = t := fun t' h' e' => ((iN_inj (by omega) (by omega)).mp e').symm
    refine ⟨fun bad => ?_, fun t' h' e' => ⟨fun _ _ => go, fun _ _ _ => go⟩⟩
    have := bad t ht rfl
    rcases hy with ⟨h1, h2⟩ | ⟨h1, h2⟩
    · exact absurd (show tZ T t < 2 by omega) (this.1 h1)
    · exact absurd h1 (this.2 k h2)
  generalize hRR : prs T.1.2.2.2 T.1.1 t 600 0 (0, 0) X0 = RR at pw ref
  refine t_TP_text_95 (c_read (B := T.1.2.2.2) (n := T.1.1) ht wn hB fun g1 b1 b2 b3 g2 e2 g3 e3 => ?_)
  rw [hRR] at b1 b2
  have F4 := b1.1
  have m3 : ∀ a, ¬ a = 1 → g3 a = g1 a := fun a ha => by rw [e3, xu_a ha, e2, xu_a ha]
  have q3 : g3 1 1 = 0 ∧ g3 1 2 = iN (fin4 T.1.1 RR).1 ∧ g3 1 3 = if (fin4 T.1.1 RR).1 = 0 then -1 else iN (fin4 T.1.1 RR).2 := by
    refine ⟨?_, ?_, ?_⟩
    · rw [e3, xu_k (by omega), e2, xu_k (by omega), b3 1 (by omega)]; exact v3.1
    · rw [e3, xu_k (by omega), e2, xu_eq]; exact b1.2.1
    · rw [e3, xu_eq, e2, xu_a (by omega)]; exact b1.2.2
  have s3 : g3 51 3 = iN (fin4 T.1.1 RR).1 := by rw [m3 51 (by omega)]; exact b1.2.1
  have fr3 : ∀ a, a < 51 ∨ 75 ≤ a → ¬ a = 1 → g3 a = f a := fun a p q => by rw [m3 a q, b3 a p, n3 a q]
  clear e2 e3
  rw [s3, show (iN (fin4 T.1.1 RR).1 = 0 ↔ (fin4 T.1.1 RR).1 = 0) from iN_inj (b := 0) (by omega) (by omega)]
  refine ⟨fun F0 => ?_, fun F0 => ?_⟩
  · rw [if_pos F0] at q3
    have h4 : RR.2.2.1 ≤ 3 * dF RR.2.1 + 1 := Classical.byContradiction fun y => by
      unfold fin4 at F0
      rw [if_neg y] at F0
      exact nt_0 (by decide) F0
    have x3 : cX g3 RR.2 := (b2 F0).fr (fun x p q => m3 x (by omega)) (by rw [m3 51 (by omega)])
    refine c_put (z := tZ T t) ht hk x3 (wfC_X pw.1 pw.2 h4) pw.2.2.2.2.2.2.2.2.1 pw.2.2.2.2.2.2.2.2.2 (by rw [fr3 3 (by omega) (by omega)]; exact hC t ht) z2 fun g4 p0 p1 p2 pe ps pz => ?_
    refine ref g4 (iN k) (by rw [pe 401 (by omega) (by omega) (by omega) (by omega), fr3 401 (by omega) (by omega)]) fun h2 x3' a1 a2 a3 a4 a5 => ?_
    -- the size, on the reference's side
    have fin : ∀ h3, (∀ x, ¬ x = 401 → h3 x = h2 x) → (∀ j, 3 ≤ j → h3 401 j = h2 401 j) → (∀ s, s < 3 → h3 401 s = iN (if t = s ∧ k = tZ T s then tZ T s + 1 else tZ T s)) → Wp L xs xm_Mo_text 307 [.ref 400, .int (iN t), .int y, .int (iN k), .int 0] [] h3 (QI fun w h => w = iN k ∧ Inv h) := fun h3 d1 d2 d3 => by
      have b := sz_b (t := t) hk
      refine r_copy ht hk fun g5 c1 c2 c3 => ⟨rfl, ?_⟩
      have row : ∀ a, ¬ a = 400 → ¬ a = 401 → ¬ a = 403 → g5 a = g4 a := fun a p q s => by rw [c1 a q, d1 a q, a1 a p q s]
      have sh := a5 F0
      have cp : ∀ j, j < sz t → g5 401 (pl t k + j) = h2 403 j := fun j hj => by rw [c2 j hj, d1 403 (by omega)]
      refine Inv.lay w c r im ht hk pw.1 pw.2 h4 (fun a p q1 q2 q3' q4 q5 => ?_) ⟨?_, ?_, ?_⟩ (fun s hs => ?_) ⟨fun y0 => ?_, fun y0 => ?_, fun y0 => ?_⟩ ⟨?_, ?_, ?_⟩ (fun s hs => ?_) (fun j hj hp => ?_) ⟨fun y0 => ?_, fun y0 => ?_, fun y0 => ?_⟩
      · rw [row a (by omega) (by omega) (by omega), pe a q2 q3' q4 q5, fr3 a (by omega) q1]
      · rw [row 1 (by omega) (by omega) (by omega), pe 1 (by omega) (by omega) (by omega) (by omega)]; exact q3.1
      · rw [row 1 (by omega) (by omega) (by omega), pe 1 (by omega) (by omega) (by omega) (by omega), q3.2.1, F0]; rfl
      · rw [row 1 (by omega) (by omega) (by omega), pe 1 (by omega) (by omega) (by omega) (by omega)]; exact q3.2.2
      · rw [row 3 (by omega) (by omega) (by omega)]
        by_cases ys : s = t
        · subst ys
          rw [ps]
          exact congrArg iN (by
            by_cases yk : k = tZ T s
            · rw [if_pos yk, if_pos (show s = s ∧ k = tZ T s from ⟨rfl, yk⟩)]
            · rw [if_neg yk, if_neg (show ¬ (s = s ∧ k = tZ T s) from fun q => yk q.2)])
        · rw [pz s ys, if_neg (show ¬ (t = s ∧ k = tZ T s) from fun q => ys q.1.symm), fr3 3 (by omega) (by omega)]; exact hC s hs
      · exact (p0 y0).fr fun a p q => row a (by omega) (by omega) (by omega)
      · exact (p1 y0).fr fun a p q => row a (by omega) (by omega) (by omega)
      · exact (p2 y0).fr fun a p q => row a (by omega) (by omega) (by omega)
      · rw [c3 4 (by omega), d2 4 (by omega)]; exact a2
      · rw [c3 5 (by omega), d2 5 (by omega), a3.2.2.1, F0]; rfl
      · rw [c3 6 (by omega), d2 6 (by omega), a3.2.2.2, if_pos F0]
      · rw [c3 s (by omega)]; exact d3 s hs
      · rw [c3 j hp, d2 j (by omega)]; exact a4 j (by omega) (by omega) (by omega)
      · subst y0
        exact sh_rC (o := 610 + 82 * k) sh pw.1.1 cp
      · subst y0
        exact sh_rR (o := 774 + 161 * k) sh pw.1.2.2.1 cp
      · subst y0
        exact sh_rP (o := 1096 + 37 * k) sh pw.1.2.2.2 cp
    have hs2 : ∀ s, s < 3 → h2 401 s = iN (tZ T s) := fun s hs => by rw [a4 s (by omega) (by omega) (by omega)]; exact hZ s hs
    refine t_Mo_text_262 (brT (by rw [a3.2.2.1, F0]; rfl) ?_)
    rcases hy with ⟨y1, yk⟩ | ⟨y1, yk⟩
    · refine brT y1 ⟨t, rfl, by omega, ?_⟩
      rw [hs2 t ht, ← yk]
      refine t_Mo_text_288 (brT y1 ⟨t, rfl, by omega, fun h3 e3 => ?_⟩)
      rw [hs2 t ht, iN_inc] at e3
      refine fin h3 (fun x hx => by rw [e3, xu_a hx]) (fun j hj => by rw [e3, xu_k (by omega)]) fun s hs => ?_
      by_cases ys : s = t
      · rw [ys, e3, xu_eq, if_pos (show t = t ∧ k = tZ T t from ⟨rfl, yk⟩)]
      · rw [e3, xu_k ys, if_neg (show ¬ (t = s ∧ k = tZ T s) from fun q => ys q.1.symm)]; exact hs2 s hs
    · have ny : ¬ y = -1 := by rw [y1]; exact iN_ne1 (by omega)
      refine brF ny ?_
      rw [y1] at fin ⊢
      refine t_Mo_text_288 (brF (iN_ne1 (by omega)) (fin h2 (fun _ _ => rfl) (fun _ _ => rfl) fun s hs => ?_))
      rw [hs2 s hs, if_neg (show ¬ (t = s ∧ k = tZ T s) from fun q => by have := q.1; subst this; omega)]
  · rw [if_neg F0] at q3
    refine ref g3 (-1) (fr3 401 (by omega) (by omega)) fun h2 x3' a1 a2 a3 a4 a5 => ?_
    have a31 := a3.1
    refine t_Mo_text_262 (brF (fun z => F0 ?_) ⟨rfl, ?_⟩)
    · rw [a3.2.2.1] at z
      exact (iN_inj (b := 0) (by omega) (by omega)).mp z
    refine Inv.head w c r im (0, iN (fin4 T.1.1 RR).1, iN (fin4 T.1.1 RR).2, T.1.2.2.2) ⟨by show 0 ≤ 600; omega, w.2.1⟩ (fun a p q1 q2 => by rw [a1 a (by omega) (by omega) (by omega), fr3 a (by omega) q1]) (fun j hj => a4 j (by omega) (by omega) (by omega)) ⟨?_, ?_, ?_, fun i hi => ?_⟩ ⟨a2, a3.2.2.1, by rw [a3.2.2.2, if_neg F0], fun i hi => by rw [a4 _ (by omega) (by omega) (by omega)]; exact hB2 i hi⟩
    · rw [a1 1 (by omega) (by omega) (by omega)]; exact q3.1
    · rw [a1 1 (by omega) (by omega) (by omega)]; exact q3.2.1
    · rw [a1 1 (by omega) (by omega) (by omega)]; exact q3.2.2
    · rw [a1 2 (by omega) (by omega) (by omega), fr3 2 (by omega) (by omega)]; exact c.2.2.2.1 i hi
theorem op_text (i : Inv f) (x y : Int32) : CI L xs xm_TP_text [.ref 0, .int x, .int y] f (fun v g => CI L xs xm_Mo_text [.ref 400, .int x, .int y] g (fun w h => w = v ∧ Inv h)) := by
  obtain ⟨⟨T, w, c, r⟩, im⟩ := id i
  have hB2 : ∀ i, i < 600 → f 401 (10 + i) = iN (T.1.2.2.2 i) := fun i hi => by
    have := r.2.2.2.1 i hi
    rw [Nat.zero_add] at this
    exact this
  refine t_TP_text_0 fun g1 e1 g2 e2 g3 e3 => ?_
  have n3 : ∀ a, ¬ a = 1 → g3 a = f a := fun a ha => by rw [e3, xu_a ha, e2, xu_a ha, e1, xu_a ha]
  have v3 : g3 1 1 = 0 ∧ g3 1 2 = 0 ∧ g3 1 3 = -1 := by
    refine ⟨?_, ?_, ?_⟩
    · rw [e3, xu_k (by omega), e2, xu_k (by omega), e1, xu_eq]
    · rw [e3, xu_k (by omega), e2, xu_eq]
    · rw [e3, xu_eq]
  clear e1 e2 e3
  have bad : (∀ t, t < 3 → x = iN t → (y = -1 → ¬ tZ T t < 2) ∧ ∀ k, k < tZ T t → ¬ y = iN k) → CI L xs xm_Mo_text [.ref 400, .int x, .int y] g3 (fun w h => w = -2 ∧ Inv h) := fun hb => by
    refine r_text0 w r (n3 401 (by omega)) fun h4 a1 a2 a3 a4 a5 a6 => ⟨fun _ => ⟨rfl, ?_⟩, fun t h' e' => ⟨fun p q => absurd q ((hb t h' e').1 p), fun k hk p => absurd p ((hb t h' e').2 k hk)⟩⟩
    refine Inv.head w c r im (0, 0, -1, T.1.2.2.2) ⟨by show 0 ≤ 600; omega, w.2.1⟩ (fun a p q1 q2 => by rw [a1 a (by omega) (by omega), n3 a q1]) (fun j hj => a6 j (by omega) (by omega) (by omega)) ⟨?_, ?_, ?_, fun i hi => ?_⟩ ⟨a3, a4, a5, fun i hi => by rw [a6 _ (by omega) (by omega) (by omega)]; exact hB2 i hi⟩
    · rw [a1 1 (by omega) (by omega)]; exact v3.1
    · rw [a1 1 (by omega) (by omega)]; exact v3.2.1
    · rw [a1 1 (by omega) (by omega)]; exact v3.2.2
    · rw [a1 2 (by omega) (by omega), n3 2 (by omega)]; exact c.2.2.2.1 i hi
  have f11 : f 1 1 = iN T.1.1 := c.1
  rw [f11]
  refine ⟨fun p => bad fun t ht ex => absurd p (by rw [ex]; exact iN_nn (by omega)), fun p => ⟨fun p2 => ?_, fun p2 => bad fun t ht ex => absurd (show x < 3 by rw [ex]; exact ((iN_lt (b := 3) (by omega) (by omega)).mpr (by omega))) p2⟩⟩
  obtain ⟨t, ht, ex⟩ := iN_ex (n := 3) (by omega) p p2
  subst ex
  have z2 := w.2.2.1 t ht
  have s3 : g3 3 t = iN (tZ T t) := by rw [n3 3 (by omega)]; exact c.2.2.2.2.1 t ht
  have one : ∀ t', t' < 3 → iN t = iN t' → t' = t := fun t' h' e' => ((iN_inj (by omega) (by omega)).mp e').symm
  refine ⟨fun hy => ⟨t, rfl, ht, ?_⟩, fun hy => t_TP_text_62 ⟨fun q => bad fun t' h' e' => ?_, fun q => ⟨fun q2 => brF hy ?_, fun q2 => bad fun t' h' e' => ?_⟩⟩⟩
  · rw [s3]
    refine t_TP_text_62 (brF (iN_nn (by omega)) ?_)
    rw [show (iN (tZ T t) < 2 ↔ tZ T t < 2) from iN_lt (b := 2) (by omega) (by omega)]
    refine ⟨fun q => brT hy (text_both w c r im ht q (Or.inl ⟨hy, rfl⟩) n3 v3), fun q => bad fun t' h' e' => ?_⟩
    rw [one t' h' e']
    exact ⟨fun _ => q, fun k hk yk => by rw [hy] at yk; exact iN_ne1 (by omega) yk.symm⟩
  · rw [one t' h' e']
    exact ⟨fun y1 => absurd y1 hy, fun k hk yk => by rw [yk] at q; exact iN_nn (by omega) q⟩
  · refine c_has (n := tZ T t) rfl ht s3 z2 (fun k hk ek => br1 ?_) fun no => br0 (bad fun t' h' e' => ?_)
    · rw [ek]
      exact text_both w c r im ht (by omega) (Or.inr ⟨rfl, hk⟩) n3 v3
    · rw [one t' h' e']
      exact ⟨fun y1 => absurd y1 hy, no⟩
  · rw [one t' h' e']
    exact ⟨fun y1 => absurd y1 hy, fun k hk yk => by rw [yk] at q2; exact q2 ((iN_lt (b := 2) (by omega) (by omega)).mpr (by omega))⟩
end OPTEXT
