/-! PLAY in the class -/
theorem imin_iN {a b : Nat} (ha : a < 2147483648) (hb : b < 2147483648) : imin (iN a) (iN b) = iN (min a b) := by
  unfold imin
  by_cases h : b < a
  · rw [if_pos ((iN_lt hb ha).mpr h), show min a b = b by omega]
  · rw [if_neg (fun z => h ((iN_lt hb ha).mp z)), show min a b = a by omega]
theorem subW_d : ∀ s, s < 11 → ∀ w, w < 10 → s ≤ w → ¬ (0 : Int32) < iN s - iN w := by decide +kernel
/-- places that are not above 0 are 0 -/
def plc (x : Int32) (p : Nat) : Prop := (p = 0 ∧ ¬ (0 : Int32) < x) ∨ (1 ≤ p ∧ p ≤ 10 ∧ x = iN p)
theorem plc_sub {s w : Nat} (hs : s ≤ 10) (hw : 1 ≤ w ∧ w ≤ 9) : plc (iN s - iN w) (s - w) := by
  by_cases h : s ≤ w
  · exact Or.inl ⟨by omega, subW_d s (by omega) w (by omega) h⟩
  · exact Or.inr ⟨by omega, by omega, iN_sub (by omega)⟩
def cTT (f : Hp) (t : TT) : Prop := ∀ m i, m < 7 → i < 11 → f (210 + m) i = iN (t.1 m i) ∧ f (218 + m) i = iN (t.2.1 m i) ∧ f (202 + m) i = iN (t.2.2.1 m i) ∧ f (226 + m) i = iN (t.2.2.2 m i)
def rawR (D : CD) (X : Nat → Nat → Nat) (m s b : Nat) : Nat := if b < 3 * dF D + 1 then (if b = m then X b s else X b s + dD D b m) else 1000000
theorem rawR_kt {D : CD} {X : Nat → Nat → Nat} {m s : Nat} (w : wfC D) : kt (rawR D X m s) 7 (2 * dF D + 1) = qth D X m s := by
  have := w.1
  refine kt_cap (by omega) (by omega) (fun b hb => ?_) fun b hb _ => ?_
  · unfold rawR wds addT
    rw [if_pos hb]
    by_cases e : b = m
    · rw [if_pos e, if_pos e]; exact Or.inl rfl
    · rw [if_neg e, if_neg e]
      by_cases z : 1000000 ≤ X b s
      · rw [if_pos z]; exact Or.inr ⟨by omega, Nat.le_refl _⟩
      · rw [if_neg z]; exact Or.inl rfl
  · unfold rawR
    rw [if_neg (by omega)]
    exact Nat.le_refl _
theorem rawR_lt {D : CD} {X : Nat → Nat → Nat} {m s b : Nat} (w : wfC D) (hm : m < 7) (hX : X b s ≤ 1000000) : rawR D X m s b < 2000000 := by
  have := w.1
  unfold rawR
  split
  · split
    · omega
    · have := (w.2.2.2.2.2.2.2 b m (by omega) hm).2
      omega
  · omega
section PLAN
variable {L : Nat} {xs : Nat → Int32} {f g : Hp} {T : TD} {D : CD} {t : TT}
theorem c_hon {Q : Int32 → Hp → Prop} {c m : Nat} (kc : xS0 L c = (1, 0)) (w : wfC D) (cc : cC f c D) (hm : m < 2147483648) (h1 : hon D m = true → Q 1 f) (h0 : hon D m = false → Q 0 f) : CI L xs xm_Co_isHonest [.ref c, .int (iN m)] f Q := by
  have hF := w.1
  have hp := pow7 hF
  have w4 := w.2.2.2.1
  refine c_coHonest kc cc.1 hF cc.2.2.2.1 (by omega) (fun k hk hb e => h1 ?_) fun q => h0 ?_
  · rw [iN_inj (by omega) (by omega)] at e
    subst e
    exact hon_iff.mpr ⟨hk, hb⟩
  · cases hh : hon D m with
    | false => rfl
    | true =>
      obtain ⟨a, b⟩ := hon_iff.mp hh
      exact absurd rfl (q m a b)
theorem c_lowAt {Q : Int32 → Hp → Prop} {m p : Nat} {x : Int32} {C : Nat → Nat} (hm : m < 7) (hC : ∀ s, s < 11 → f (226 + m) s = iN (C s)) (hb : ∀ s, C s ≤ 1000000) (hx : plc x p) (kk : Q (iN (low C p 11)) f) : CI L xs xm_Tt_lowAt [.ref 200, .int (iN m), .int x] f Q := by
  rcases hx with ⟨rfl, hx⟩ | ⟨h1, h2, rfl⟩
  · exact t_Tt_lowAt_0 (brF hx kk)
  · have e : low C p 11 = mnT C p (11 - p) := if_neg (by omega)
    rw [e] at kk
    refine t_Tt_lowAt_0 (brT ((iN_lt (a := 0) (by omega) (by omega)).mpr (by omega)) ?_)
    refine for0 (11 - p) (fun k l g => l = [.ref 200, .int (iN m), .int (iN p), .int (iN (mnT C p k)), .int (iN (p + k))] ∧ g = f) ⟨rfl, rfl⟩ ?_ ?_
    · rintro k l g hk ⟨rfl, rfl⟩ k2
      have i1 := mnT_inf C p k
      have i2 := hb (p + k)
      refine t_Tt_lowAt_12 (brF (fun z => absurd ((iN_lt (a := 10) (by omega) (by omega)).mp z) (by omega)) (brF (iN_nn (by omega)) (brT ((iN_lt (b := 7) (by omega) (by omega)).mpr (by omega)) ⟨m, rfl, hm, p + k, rfl, by omega, ?_⟩)))
      rw [hC _ (by omega), imin_iN (by omega) (by omega), iN_inc]
      exact k2 _ _ ⟨rfl, rfl⟩
    · rintro l g ⟨rfl, rfl⟩
      exact t_Tt_lowAt_12 (brT ((iN_lt (a := 10) (by omega) (by omega)).mpr (by omega)) kk)
theorem c_bounded {Q : Int32 → Hp → Prop} {v : Nat} (hv : v ≤ 400 ∨ (1000000 ≤ v ∧ v < 2147483648)) (kk : Q (iN (min v 1000000)) f) : CI L xs xm_Tt_bounded [.int (iN v)] f Q := by
  refine t_Tt_bounded_0 ?_
  rcases hv with hv | hv
  · rw [Nat.min_eq_left (by omega)] at kk
    exact brF (fun z => absurd ((iN_lt (a := 400) (by omega) (by omega)).mp z) (by omega)) kk
  · rw [Nat.min_eq_right hv.1] at kk
    exact brT ((iN_lt (a := 400) (by omega) (by omega)).mpr (by omega)) kk
theorem c_fillRow {Q : Hp → Prop} {x1 m s : Nat} {X : Nat → Nat → Nat} (kx : kG L x1 11) (w : wfC D) (cc : cC f 234 D) (hm : m < 7) (hs : s < 11) (hx1 : x1 + 8 ≤ 233) (hX : ∀ b, b < 7 → f (x1 + 1 + b) s = iN (X b s)) (kk : ∀ g, (∀ b, b < 7 → g 233 b = iN (rawR D X m s b)) → (∀ x, ¬ x = 233 → g x = f x) → Q g) : CV L xs xm_Tt_fillRow [.ref 200, .ref x1, .int (iN m), .int (iN s)] f Q := by
  have hF := w.1
  refine t_Tt_fillRow_0 kx (fill_go rfl fun g1 a1 a2 => ?_)
  refine for0 (3 * dF D + 1) (fun k l g => l = [.ref 200, .ref x1, .int (iN m), .int (iN s), .int (iN k)] ∧ (∀ b, b < 7 → g 233 b = iN (if b < k then rawR D X m s b else 1000000)) ∧ ∀ x, ¬ x = 233 → g x = f x) ⟨rfl, fun b hb => by rw [a1 b hb, if_neg (by omega)]; rfl, a2⟩ ?_ ?_
  · rintro k l g hk ⟨rfl, b1, b2⟩ k2
    have cg : cC g 234 D := cc.fr fun a p q => b2 a (by omega)
    refine t_Tt_fillRow_12 kx (c_members rfl cg.1 (brT ((iN_lt (b := _) (by omega) (by omega)).mpr (by omega)) ⟨k, rfl, by omega, s, rfl, hs, ?_⟩))
    have ex : g (x1 + 1 + k) s = iN (X k s) := by rw [b2 _ (by omega)]; exact hX k (by omega)
    have fin : ∀ (v : Int32) (g2 : Hp), v = iN (rawR D X m s k) → g2 = xu g 233 k v → Wp L xs xm_Tt_fillRow 12 [.ref 200, .ref x1, .int (iN m), .int (iN s), .int (iN k + 1)] [] g2 (QV Q) := by
      intro v g2 ev e2
      rw [iN_inc]
      refine k2 _ _ ⟨rfl, fun b hb => ?_, fun x hx => by rw [e2, xu_a hx, b2 x hx]⟩
      rw [e2, xu_at]
      by_cases e : b = k
      · subst e
        rw [if_pos ⟨rfl, rfl⟩, if_pos (by omega), ev]
      · rw [if_neg (by omega), b1 b hb]
        by_cases e3 : b < k
        · rw [if_pos e3, if_pos (by omega)]
        · rw [if_neg e3, if_neg (by omega)]
    rw [ex]
    refine ⟨fun p g3 e3 => fin _ g3 ?_ e3, fun p => ⟨m, rfl, hm, fun g2 e2 => fin _ g2 ?_ e2⟩⟩
    · have p := (iN_inj (by omega) (by omega)).mp p
      unfold rawR
      rw [if_pos hk, if_pos p, show (0 : Int32) = iN 0 from rfl, iN_add]; rfl
    · have p : ¬ k = m := fun z => p (by rw [z])
      have := cg.2.2.2.2.2.2.2 k m (by omega) hm
      unfold rawR
      rw [if_pos hk, if_neg p, show g (239 + k) m = iN (dD D k m) from this, iN_add]
  · rintro l g ⟨rfl, b1, b2⟩
    have cg : cC g 234 D := cc.fr fun a p q => b2 a (by omega)
    refine t_Tt_fillRow_12 kx (c_members rfl cg.1 (brF (fun z => absurd ((iN_lt (b := _) (by omega) (by omega)).mp z) (by omega)) (kk g (fun b hb => ?_) b2)))
    rw [b1 b hb]
    by_cases e : b < 3 * dF D + 1
    · rw [if_pos e]
    · rw [if_neg e]
      unfold rawR
      rw [if_neg e]
theorem c_least {Q : Int32 → Hp → Prop} {k : Nat} {r : Nat → Nat} (hk : k < 2147483648) (h : ∀ b, b < 7 → f 233 b = iN (r b)) (hb : ∀ b, b < 7 → r b < 2147483648) (kk : Q (iN (kt r 7 k)) f) : CI L xs xm_Tt_least [.ref 200, .int (iN k)] f Q := by
  refine t_Tt_least_0 ?_
  refine for0 7 (fun a l g => ∃ v v2 : Value, (v.category != 2) = true ∧ (v2.category != 2) = true ∧ l = [.ref 200, .int (iN k), .int (iN (kth r 7 k a)), .int (iN a), v, v2] ∧ g = f) ⟨_, _, rfl, rfl, rfl, rfl⟩ ?_ ?_
  · rintro a l g ha ⟨v, v2, hv, hv2, rfl, rfl⟩ k2
    have ki : kth r 7 k a ≤ 1000000 := (kth_le a).mpr (Or.inl (Nat.le_refl _))
    have ba := hb a ha
    refine t_Tt_least_5 hv hv2 (brT ((iN_lt (b := 7) (by omega) (by omega)).mpr (by omega)) ?_)
    refine for0 7 (fun b l h => l = [.ref 200, .int (iN k), .int (iN (kth r 7 k a)), .int (iN a), .int (iN (cntW (fun i => r i ≤ r a) b)), .int (iN b)] ∧ h = g) ⟨rfl, rfl⟩ ?_ ?_
    · rintro b l h' hb' ⟨rfl, rfl⟩ k3
      have bb := hb b hb'
      refine t_Tt_least_17 (brT ((iN_lt (b := 7) (by omega) (by omega)).mpr (by omega)) ⟨b, rfl, hb', a, rfl, ha, ?_⟩)
      rw [h a ha, h b hb', iN_lt (by omega) (by omega), iN_inc, iN_inc]
      refine ⟨fun p => k3 _ _ ⟨?_, rfl⟩, fun p => k3 _ _ ⟨?_, rfl⟩⟩
      · rw [cntW_s, if_neg (by omega)]
      · rw [cntW_s, if_pos (by omega)]
    · rintro l h' ⟨rfl, rfl⟩
      have cl := cntW_le (fun i => r i ≤ r a) 7
      refine t_Tt_least_17 (brF (by decide) ?_)
      rw [iN_lt (by omega) hk, iN_inc]
      refine ⟨fun p => k2 _ _ ⟨.int (iN (cntW (fun i => r i ≤ r a) 7)), .int (iN 7), rfl, rfl, ?_, rfl⟩, fun p => ⟨a, rfl, ha, ?_⟩⟩
      · rw [kth_s, if_neg (by omega)]
      · rw [h a ha, imin_iN (by omega) ba]
        refine k2 _ _ ⟨.int (iN (cntW (fun i => r i ≤ r a) 7)), .int (iN 7), rfl, rfl, ?_, rfl⟩
        rw [kth_s, if_pos (by omega)]
  · rintro l g ⟨v, v2, hv, hv2, rfl, rfl⟩
    exact t_Tt_least_5 hv hv2 (brF (by decide) kk)
theorem c_quorumth {Q : Int32 → Hp → Prop} {m s : Nat} {X : Nat → Nat → Nat} (w : wfC D) (cc : cC f 234 D) (hm : m < 7) (hX : ∀ b, X b s ≤ 1000000) (h : ∀ b, b < 7 → f 233 b = iN (rawR D X m s b)) (kk : Q (iN (qth D X m s)) f) : CI L xs xm_Tt_quorumth [.ref 200] f Q := by
  have hF := w.1
  refine t_Tt_quorumth_0 (c_quorumSize rfl cc.1 (c_least (by omega) h (fun b hb => by have := rawR_lt (D := D) (m := m) w hm (hX b); omega) ?_))
  rw [rawR_kt w]
  exact kk
theorem bt_inf {x lo hi : Nat} (h : bt x lo hi) (hh : hi ≤ 400) : x ≤ 1000000 ∧ (x ≤ 400 ∨ 1000000 ≤ x) := by
  unfold bt at h
  omega
theorem wfM.inf {s : Nat} (h : wfM D s t) (m i : Nat) (hi : i ≤ 10) : (t.1 m i ≤ 1000000 ∧ (t.1 m i ≤ 400 ∨ 1000000 ≤ t.1 m i)) ∧ (t.2.2.1 m i ≤ 1000000 ∧ (t.2.2.1 m i ≤ 400 ∨ 1000000 ≤ t.2.2.1 m i)) ∧ (t.2.2.2 m i ≤ 1000000 ∧ (t.2.2.2 m i ≤ 400 ∨ 1000000 ≤ t.2.2.2 m i)) := by
  obtain ⟨a0, r0, c0, up, li, b⟩ := h
  by_cases e : i = 0
  · subst e
    rw [a0, r0, c0]
    omega
  · obtain ⟨b1, b2, b3, b4⟩ := b m i (by omega)
    exact ⟨bt_inf b1 (by omega), bt_inf b3 (by omega), bt_inf b4 (by omega)⟩
theorem c_acceptAll {Q : Hp → Prop} {s : Nat} (w : wfC D) (h0 : hon D 0 = true) (hs : 1 ≤ s ∧ s ≤ 10) (wm : wfM D (s - 1) t) (cc : cC f 234 D) (ct : cTT f t) (wm' : ∀ m, bt (upA D s t m s) (s - 1) (36 * (s - 1) + 9)) (wl : ∀ m i, t.2.2.2 m i ≤ 1000000) (bl : ∀ m, low (t.2.2.2 m) (s - dW D) 11 ≤ 400 ∨ 1000000 ≤ low (t.2.2.2 m) (s - dW D) 11) (kk : ∀ g, (∀ m i, m < 7 → i < 11 → g (210 + m) i = iN (upA D s t m i)) → (∀ x, x < 210 ∨ 217 ≤ x → g x = f x) → Q g) : CV L xs xm_Tt_acceptAll [.ref 200, .int (iN s)] f Q := by
  have hF := w.1
  have w2 := w.2.1
  have inf := wm.inf
  have bA0 : bt (sA0 D t s) (s - 1) (36 * (s - 1) + 9) := by
    have := wm' 0
    unfold upA sA at this
    rw [if_pos ⟨rfl, h0⟩, if_pos rfl] at this
    exact this
  have iA0 := bt_inf bA0 (by omega)
  refine t_Tt_acceptAll_0 ⟨s - 1, iN_sub (b := 1) hs.1, by omega, ?_⟩
  rw [cc.2.1]
  refine c_lowAt (m := 0) (C := t.2.2.2 0) (by omega) (fun i hi => (ct 0 i (by omega) hi).2.2.2) (wl 0) (plc_sub hs.2 w2) ?_
  have e1 : imax (imax (iN s - 1) (f 210 (s - 1))) (iN (low (t.2.2.2 0) (s - dW D) 11)) = iN (sA0 D t s) := by
    have l0 := low_inf (t.2.2.2 0) (s - dW D) 11
    have a0 := (inf 0 (s - 1) (by omega)).1.1
    rw [show iN s - 1 = iN (s - 1) from iN_sub (b := 1) hs.1, show f 210 (s - 1) = iN (t.1 0 (s - 1)) from (ct 0 (s - 1) (by omega) (by omega)).1, imax_iN (by omega) (by omega), imax_iN (by omega) (by omega)]
    rfl
  rw [e1]
  refine c_bounded (by omega) ⟨s, rfl, by omega, fun g3 e3 => ?_⟩
  rw [Nat.min_eq_left iA0.1] at e3
  refine for0 (3 * dF D) (fun k l g => ∃ (v : Value) (x : Int32), (v.category != 2) = true ∧ l = [.ref 200, .int (iN s), .int x, .int (iN (k + 1)), v] ∧ (∀ m i, m < 7 → i < 11 → g (210 + m) i = iN (if i = s ∧ hon D m = true ∧ m ≤ k then sA D t s m else t.1 m i)) ∧ ∀ x, x < 210 ∨ 217 ≤ x → g x = f x) ⟨_, _, rfl, rfl, fun m i hm hi => ?_, fun x hx => by rw [e3, xu_a (by omega)]⟩ ?_ ?_
  · rw [e3, xu_at]
    by_cases z : m = 0 ∧ i = s
    · obtain ⟨rfl, rfl⟩ := z
      rw [if_pos ⟨rfl, rfl⟩, if_pos ⟨rfl, h0, Nat.le_refl _⟩, sA, if_pos rfl]
    · rw [if_neg (by omega), if_neg (fun y => z ⟨by omega, y.1⟩)]
      exact (ct m i hm hi).1
  · rintro k l g hk ⟨v, x, hv, rfl, b1, b2⟩ k2
    have cg : cC g 234 D := cc.fr fun a p q => b2 a (by omega)
    have d9 := w.2.2.2.2.2.2.2 0 (k + 1) (by omega) (by omega)
    refine t_Tt_acceptAll_48 hv (c_members rfl cg.1 (brT ((iN_lt (b := _) (by omega) (by omega)).mpr (by omega)) (c_hon rfl w cg (by omega) (fun hh => br1 ⟨s, rfl, by omega, k + 1, rfl, by omega, ?_⟩) fun hh => br0 ?_)))
    · rw [cg.2.1]
      refine c_lowAt (C := t.2.2.2 (k + 1)) (by omega) (fun i hi => by rw [b2 _ (by omega)]; exact (ct (k + 1) i (by omega) hi).2.2.2) (wl (k + 1)) (plc_sub hs.2 w2) ?_
      have q1 : g 210 s = iN (sA0 D t s) := by
        have := b1 0 s (by omega) (by omega)
        rw [if_pos ⟨rfl, h0, Nat.zero_le _⟩, sA, if_pos rfl] at this
        exact this
      have q2 : g 239 (k + 1) = iN (dD D 0 (k + 1)) := cg.2.2.2.2.2.2.2 0 (k + 1) (by omega) (by omega)
      have l0 := low_inf (t.2.2.2 (k + 1)) (s - dW D) 11
      have bm := wm' (k + 1)
      unfold upA at bm
      rw [if_pos ⟨rfl, hh⟩] at bm
      have im := bt_inf bm (by omega)
      have es : sA D t s (k + 1) = max (addT (sA0 D t s) (dD D 0 (k + 1))) (low (t.2.2.2 (k + 1)) (s - dW D) 11) := by unfold sA; rw [if_neg (by omega)]
      rw [q1, q2, iN_add, imax_iN (by omega) (by omega)]
      have bb := bl (k + 1)
      have e4 : min (max (sA0 D t s + dD D 0 (k + 1)) (low (t.2.2.2 (k + 1)) (s - dW D) 11)) 1000000 = sA D t s (k + 1) := by
        rw [es]
        unfold addT
        by_cases z : 1000000 ≤ sA0 D t s
        · rw [if_pos z]; omega
        · rw [if_neg z]
          rw [es] at im
          unfold addT at im
          rw [if_neg z] at im
          omega
      refine c_bounded ?_ fun g5 e5 => ?_
      · rw [es] at im
        unfold addT at im
        by_cases z : 1000000 ≤ sA0 D t s
        · right; omega
        · rw [if_neg z] at im
          omega
      · rw [e4] at e5
        rw [iN_inc]
        refine k2 _ _ ⟨_, x, rfl, rfl, fun m i hm hi => ?_, fun x hx => by rw [e5, xu_a (by omega), b2 x hx]⟩
        rw [e5, xu_at]
        by_cases z : m = k + 1 ∧ i = s
        · obtain ⟨rfl, rfl⟩ := z
          rw [if_pos ⟨rfl, rfl⟩, if_pos ⟨rfl, hh, Nat.le_refl _⟩]
        · rw [if_neg (by omega), b1 m i hm hi]
          by_cases y : i = s ∧ hon D m = true ∧ m ≤ k
          · rw [if_pos y, if_pos ⟨y.1, y.2.1, by omega⟩]
          · rw [if_neg y, if_neg (fun u => y ⟨u.1, u.2.1, by omega⟩)]
    · rw [iN_inc]
      refine k2 _ _ ⟨v, x, hv, rfl, fun m i hm hi => ?_, b2⟩
      rw [b1 m i hm hi]
      by_cases y : i = s ∧ hon D m = true ∧ m ≤ k
      · rw [if_pos y, if_pos ⟨y.1, y.2.1, by omega⟩]
      · rw [if_neg y, if_neg]
        rintro ⟨u1, u2, u3⟩
        by_cases e : m = k + 1
        · subst e; rw [hh] at u2; cases u2
        · exact y ⟨u1, u2, by omega⟩
  · rintro l g ⟨v, x, hv, rfl, b1, b2⟩
    have cg : cC g 234 D := cc.fr fun a p q => b2 a (by omega)
    refine t_Tt_acceptAll_48 hv (c_members rfl cg.1 (brF (fun z => absurd ((iN_lt (b := _) (by omega) (by omega)).mp z) (by omega)) (kk g (fun m i hm hi => ?_) b2)))
    rw [b1 m i hm hi]
    unfold upA
    by_cases y : i = s ∧ hon D m = true
    · rw [if_pos ⟨y.1, y.2, by have := (hon_iff.mp y.2).1; omega⟩, if_pos y]
    · rw [if_neg (fun u => y ⟨u.1, u.2.1⟩), if_neg y]
end PLAN
