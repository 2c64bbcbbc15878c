/-! PLAY in the class: prepared, run, cut, sent -/
def eQ (n : Nat) : Int32 := if n = 0 then -1 else iN (n - 1)
theorem eQ_max {n v : Nat} (hn : n < 2147483648) (hv : v < 2147483647) : imax (eQ n) (iN v) = eQ (max n (v + 1)) := by
  unfold eQ
  rw [if_neg (show ¬ max n (v + 1) = 0 by omega)]
  by_cases z : n = 0
  · rw [if_pos z, imax_m1 (by omega)]; congr 1; omega
  · rw [if_neg z, imax_iN (by omega) (by omega)]; congr 1; omega
def sdN (D : CD) (v m : Nat) : Nat := if v ≤ 400 then cntW (fun b => ¬ b = m ∧ hon D b = true) (3 * dF D + 1) else 0
def qtN (D : CD) (v m : Nat) : Nat := if v ≤ 400 then mxN (fun b => if ¬ b = m ∧ hon D b = true then v + dD D m b + 1 else 0) (3 * dF D + 1) else 0
def sdS (D : CD) (t : TT) (s m : Nat) : Nat := sdN D (t.1 m s) m + sdN D (t.2.1 m s) m + (if s % dS D = 0 then sdN D (t.2.2.1 m s) m else 0)
def qtS (D : CD) (t : TT) (s m : Nat) : Nat := max (max (qtN D (t.1 m s) m) (qtN D (t.2.1 m s) m)) (if s % dS D = 0 then qtN D (t.2.2.1 m s) m else 0)
theorem mxN_s (G : Nat → Nat) (n : Nat) : mxN G (n + 1) = max (mxN G n) (G n) := rfl
theorem qtN_lt {D : CD} {v m : Nat} (w : wfC D) (hm : m < 7) (hv : v ≤ 360 ∨ 1000000 ≤ v) : qtN D v m ≤ 400 := by
  unfold qtN
  split
  · refine (mxN_le _).mpr fun b hb => ?_
    show (if ¬ b = m ∧ hon D b = true then v + dD D m b + 1 else 0) ≤ 400
    have := w.1
    have := (w.2.2.2.2.2.2.2 m b hm (by omega)).2
    split <;> omega
  · omega
section PLAN2
variable {L : Nat} {xs : Nat → Int32} {f g : Hp} {T : TD} {D : CD} {t : TT}
theorem c_prepareAll {Q : Hp → Prop} {s : Nat} {A P : Nat → Nat → Nat} (w : wfC D) (hs : 1 ≤ s ∧ s ≤ 10) (cc : cC f 234 D) (cA : ∀ m i, m < 7 → i < 11 → f (210 + m) i = iN (A m i)) (cP : ∀ m i, m < 7 → i < 11 → f (218 + m) i = iN (P m i)) (iA : ∀ m, A m s ≤ 1000000) (bP : ∀ m, bt (upP D s A P m s) (s - 1) (36 * (s - 1) + 18)) (kk : ∀ g, (∀ m i, m < 7 → i < 11 → g (218 + m) i = iN (upP D s A P m i)) → (∀ x, x < 218 ∨ (225 ≤ x ∧ ¬ x = 233) → g x = f x) → Q g) : CV L xs xm_Tt_prepareAll [.ref 200, .int (iN s)] f Q := by
  have hF := w.1
  refine t_Tt_prepareAll_0 ?_
  refine for0 (3 * dF D + 1) (fun k l g => l = [.ref 200, .int (iN s), .int (iN k)] ∧ (∀ m i, m < 7 → i < 11 → g (218 + m) i = iN (if i = s ∧ hon D m = true ∧ m < k then max (A m s) (qth D A m s) else P m i)) ∧ ∀ x, x < 218 ∨ (225 ≤ x ∧ ¬ x = 233) → g x = f x) ⟨rfl, fun m i hm hi => by rw [if_neg (fun y => absurd y.2.2 (by omega))]; exact cP m i hm hi, fun _ _ => rfl⟩ ?_ ?_
  · rintro k l g hk ⟨rfl, b1, b2⟩ k2
    have cg : cC g 234 D := cc.fr fun a p q => b2 a (by omega)
    refine t_Tt_prepareAll_2 (c_members rfl cg.1 (brT ((iN_lt (b := _) (by omega) (by omega)).mpr (by omega)) (c_fillRow (X := A) (kf_9_3 (L := L) (a := 200) rfl).2 w cg (by omega) (by omega) (by omega) (fun b hb => by rw [b2 _ (by omega)]; exact cA b s hb (by omega)) fun g2 r1 r2 => ?_)))
    have cg2 : cC g2 234 D := cg.fr fun a p q => r2 a (by omega)
    rw [iN_inc]
    refine c_hon rfl w cg2 (by omega) (fun hh => br1 ⟨k, rfl, by omega, s, rfl, by omega, ?_⟩) fun hh => br0 (k2 _ _ ⟨rfl, fun m i hm hi => ?_, fun x hx => by rw [r2 x (by omega), b2 x hx]⟩)
    · refine c_quorumth w cg2 (by omega) iA r1 ?_
      have ea : g2 (210 + k) s = iN (A k s) := by rw [r2 _ (by omega), b2 _ (by omega)]; exact cA k s (by omega) (by omega)
      have qi := kt_inf (wds D A k s) (3 * dF D + 1) (2 * dF D + 1)
      have ik := iA k
      have bm := bP k
      unfold upP at bm
      rw [if_pos ⟨rfl, hh⟩] at bm
      have im := bt_inf bm (by omega)
      rw [ea, imax_iN (by omega) (by omega)]
      refine c_bounded (by omega) fun g6 e6 => ?_
      rw [Nat.min_eq_left im.1] at e6
      refine k2 _ _ ⟨rfl, fun m i hm hi => ?_, fun x hx => by rw [e6, xu_a (by omega), r2 x (by omega), b2 x hx]⟩
      rw [e6, xu_at]
      by_cases z : m = k ∧ i = s
      · obtain ⟨rfl, rfl⟩ := z
        rw [if_pos ⟨rfl, rfl⟩, if_pos ⟨rfl, hh, by omega⟩]
      · rw [if_neg (by omega), r2 _ (by omega), b1 m i hm hi]
        by_cases y : i = s ∧ hon D m = true ∧ m < k
        · rw [if_pos y, if_pos ⟨y.1, y.2.1, by omega⟩]
        · rw [if_neg y, if_neg (fun u => y ⟨u.1, u.2.1, by omega⟩)]
    · rw [r2 _ (by omega), b1 m i hm hi]
      by_cases y : i = s ∧ hon D m = true ∧ m < k
      · rw [if_pos y, if_pos ⟨y.1, y.2.1, by omega⟩]
      · rw [if_neg y, if_neg]
        rintro ⟨u1, u2, u3⟩
        by_cases e : m = k
        · subst e; rw [hh] at u2; cases u2
        · exact y ⟨u1, u2, by omega⟩
  · rintro l g ⟨rfl, b1, b2⟩
    have cg : cC g 234 D := cc.fr fun a p q => b2 a (by omega)
    refine t_Tt_prepareAll_2 (c_members rfl cg.1 (brF (fun z => absurd ((iN_lt (b := _) (by omega) (by omega)).mp z) (by omega)) (kk g (fun m i hm hi => ?_) b2)))
    rw [b1 m i hm hi]
    unfold upP
    by_cases y : i = s ∧ hon D m = true
    · rw [if_pos ⟨y.1, y.2, (hon_iff.mp y.2).1⟩, if_pos y]
    · rw [if_neg (fun u => y ⟨u.1, u.2.1⟩), if_neg y]
theorem c_runAll {Q : Hp → Prop} {s : Nat} {P R : Nat → Nat → Nat} (w : wfC D) (hs : 1 ≤ s ∧ s ≤ 10) (cc : cC f 234 D) (cP : ∀ m i, m < 7 → i < 11 → f (218 + m) i = iN (P m i)) (cR : ∀ m i, m < 7 → i < 11 → f (202 + m) i = iN (R m i)) (iP : ∀ m, P m s ≤ 1000000) (iR : ∀ m, R m (s - 1) ≤ 1000000) (bR : ∀ m, bt (upR D s P R m s) (s - 1) (36 * (s - 1) + 27)) (kk : ∀ g, (∀ m i, m < 7 → i < 11 → g (202 + m) i = iN (upR D s P R m i)) → (∀ x, x < 202 ∨ (209 ≤ x ∧ ¬ x = 233) → g x = f x) → Q g) : CV L xs xm_Tt_runAll [.ref 200, .int (iN s)] f Q := by
  have hF := w.1
  refine t_Tt_runAll_0 ?_
  refine for0 (3 * dF D + 1) (fun k l g => ∃ v : Value, (v.category != 2) = true ∧ l = [.ref 200, .int (iN s), .int (iN k), v] ∧ (∀ m i, m < 7 → i < 11 → g (202 + m) i = iN (if i = s ∧ hon D m = true ∧ m < k then max (max (P m s) (qth D P m s)) (R m (s - 1)) else R m i)) ∧ ∀ x, x < 202 ∨ (209 ≤ x ∧ ¬ x = 233) → g x = f x) ⟨_, rfl, rfl, fun m i hm hi => by rw [if_neg (fun y => absurd y.2.2 (by omega))]; exact cR m i hm hi, fun _ _ => rfl⟩ ?_ ?_
  · rintro k l g hk ⟨v, hv, rfl, b1, b2⟩ k2
    have cg : cC g 234 D := cc.fr fun a p q => b2 a (by omega)
    refine t_Tt_runAll_2 hv (c_members rfl cg.1 (brT ((iN_lt (b := _) (by omega) (by omega)).mpr (by omega)) (c_fillRow (X := P) (kf_9_4 (L := L) (a := 200) rfl).2 w cg (by omega) (by omega) (by omega) (fun b hb => by rw [b2 _ (by omega)]; exact cP b s hb (by omega)) fun g2 r1 r2 => ?_)))
    have cg2 : cC g2 234 D := cg.fr fun a p q => r2 a (by omega)
    rw [iN_inc]
    refine c_hon rfl w cg2 (by omega) (fun hh => br1 ⟨k, rfl, by omega, s, rfl, by omega, ?_⟩) fun hh => br0 (k2 _ _ ⟨v, hv, rfl, fun m i hm hi => ?_, fun x hx => by rw [r2 x (by omega), b2 x hx]⟩)
    · refine c_quorumth w cg2 (by omega) iP r1 ⟨s - 1, iN_sub (b := 1) hs.1, by omega, ?_⟩
      have ea : g2 (218 + k) s = iN (P k s) := by rw [r2 _ (by omega), b2 _ (by omega)]; exact cP k s (by omega) (by omega)
      have er : g2 (202 + k) (s - 1) = iN (R k (s - 1)) := by rw [r2 _ (by omega), b1 k (s - 1) (by omega) (by omega), if_neg (fun y => absurd y.1 (by omega))]
      have qi := kt_inf (wds D P k s) (3 * dF D + 1) (2 * dF D + 1)
      have ik := iP k
      have ir := iR k
      have bm := bR k
      unfold upR at bm
      rw [if_pos ⟨rfl, hh⟩] at bm
      have im := bt_inf bm (by omega)
      rw [ea, er, imax_iN (by omega) (by omega), imax_iN (by omega) (by omega)]
      refine c_bounded (by omega) fun g6 e6 => ?_
      rw [Nat.min_eq_left im.1] at e6
      refine k2 _ _ ⟨_, rfl, rfl, fun m i hm hi => ?_, fun x hx => by rw [e6, xu_a (by omega), r2 x (by omega), b2 x hx]⟩
      rw [e6, xu_at]
      by_cases z : m = k ∧ i = s
      · obtain ⟨rfl, rfl⟩ := z
        rw [if_pos ⟨rfl, rfl⟩, if_pos ⟨rfl, hh, by omega⟩]
      · rw [if_neg (by omega), r2 _ (by omega), b1 m i hm hi]
        by_cases y : i = s ∧ hon D m = true ∧ m < k
        · rw [if_pos y, if_pos ⟨y.1, y.2.1, by omega⟩]
        · rw [if_neg y, if_neg (fun u => y ⟨u.1, u.2.1, by omega⟩)]
    · rw [r2 _ (by omega), b1 m i hm hi]
      by_cases y : i = s ∧ hon D m = true ∧ m < k
      · rw [if_pos y, if_pos ⟨y.1, y.2.1, by omega⟩]
      · rw [if_neg y, if_neg]
        rintro ⟨u1, u2, u3⟩
        by_cases e : m = k
        · subst e; rw [hh] at u2; cases u2
        · exact y ⟨u1, u2, by omega⟩
  · rintro l g ⟨v, hv, rfl, b1, b2⟩
    have cg : cC g 234 D := cc.fr fun a p q => b2 a (by omega)
    refine t_Tt_runAll_2 hv (c_members rfl cg.1 (brF (fun z => absurd ((iN_lt (b := _) (by omega) (by omega)).mp z) (by omega)) (kk g (fun m i hm hi => ?_) b2)))
    rw [b1 m i hm hi]
    unfold upR
    by_cases y : i = s ∧ hon D m = true
    · rw [if_pos ⟨y.1, y.2, (hon_iff.mp y.2).1⟩, if_pos y]
    · rw [if_neg (fun u => y ⟨u.1, u.2.1⟩), if_neg y]
theorem c_isCheck {Q : Int32 → Hp → Prop} {s : Nat} (w : wfC D) (cc : cC f 234 D) (hs : s ≤ 10) (h1 : s % dS D = 0 → Q 1 f) (h0 : ¬ s % dS D = 0 → Q 0 f) : CI L xs xm_Tt_isCheckpoint [.ref 200, .int (iN s)] f Q := by
  have w3 := w.2.2.1
  have hd : s % dS D < 5 := Nat.lt_of_lt_of_le (Nat.mod_lt _ (by omega)) (by omega)
  refine t_Tt_isCheckpoint_0 ?_
  rw [cc.2.2.1, jrem_iN (by omega) (by omega)]
  refine brT ((iN_lt (a := 0) (by omega) (by omega)).mpr (by omega)) ⟨fun z => absurd ((iN_inj (b := 0) (by omega) (by omega)).mp z) (by omega), fun p => h1 ((iN_inj (b := 0) (by omega) (by omega)).mp p), fun p => h0 fun z => p (by rw [z]; rfl)⟩
theorem c_cutAll {Q : Hp → Prop} {s : Nat} {R C : Nat → Nat → Nat} (w : wfC D) (hs : 1 ≤ s ∧ s ≤ 10) (cc : cC f 234 D) (cR : ∀ m i, m < 7 → i < 11 → f (202 + m) i = iN (R m i)) (cC' : ∀ m i, m < 7 → i < 11 → f (226 + m) i = iN (C m i)) (iR : ∀ m, R m s ≤ 1000000) (bC : ∀ m, bt (upC D s R C m s) (s - 1) (36 * s)) (kk : ∀ g, (∀ m i, m < 7 → i < 11 → g (226 + m) i = iN (upC D s R C m i)) → (∀ x, x < 226 ∨ 234 ≤ x → g x = f x) → Q g) : CV L xs xm_Tt_cutAll [.ref 200, .int (iN s)] f Q := by
  have hF := w.1
  refine t_Tt_cutAll_0 ?_
  by_cases hz : s % dS D = 0
  · refine for0 (3 * dF D + 1) (fun k l g => l = [.ref 200, .int (iN s), .int (iN k)] ∧ (∀ m i, m < 7 → i < 11 → g (226 + m) i = iN (if i = s ∧ hon D m = true ∧ m < k then max (R m s) (qth D R m s) else C m i)) ∧ ∀ x, x < 226 ∨ 234 ≤ x → g x = f x) ⟨rfl, fun m i hm hi => by rw [if_neg (fun y => absurd y.2.2 (by omega))]; exact cC' m i hm hi, fun _ _ => rfl⟩ ?_ ?_
    · rintro k l g hk ⟨rfl, b1, b2⟩ k2
      have cg : cC g 234 D := cc.fr fun a p q => b2 a (by omega)
      refine t_Tt_cutAll_2 (c_members rfl cg.1 (brT ((iN_lt (b := _) (by omega) (by omega)).mpr (by omega)) (c_isCheck w cg hs.2 (fun _ => br1 (c_fillRow (X := R) (kf_9_0 (L := L) (a := 200) rfl).2 w cg (by omega) (by omega) (by omega) (fun b hb => by rw [b2 _ (by omega)]; exact cR b s hb (by omega)) fun g2 r1 r2 => ?_)) fun z => absurd hz z)))
      have cg2 : cC g2 234 D := cg.fr fun a p q => r2 a (by omega)
      rw [iN_inc]
      refine c_hon rfl w cg2 (by omega) (fun hh => br1 ⟨k, rfl, by omega, s, rfl, by omega, ?_⟩) fun hh => br0 (k2 _ _ ⟨rfl, fun m i hm hi => ?_, fun x hx => by rw [r2 x (by omega), b2 x hx]⟩)
      · refine c_quorumth w cg2 (by omega) iR r1 ?_
        have ea : g2 (202 + k) s = iN (R k s) := by rw [r2 _ (by omega), b2 _ (by omega)]; exact cR k s (by omega) (by omega)
        have qi := kt_inf (wds D R k s) (3 * dF D + 1) (2 * dF D + 1)
        have ik := iR k
        have bm := bC k
        unfold upC at bm
        rw [if_pos ⟨rfl, hh, hz⟩] at bm
        have im := bt_inf bm (by omega)
        rw [ea, imax_iN (by omega) (by omega)]
        refine c_bounded (by omega) fun g6 e6 => ?_
        rw [Nat.min_eq_left im.1] at e6
        refine k2 _ _ ⟨rfl, fun m i hm hi => ?_, fun x hx => by rw [e6, xu_a (by omega), r2 x (by omega), b2 x hx]⟩
        rw [e6, xu_at]
        by_cases z : m = k ∧ i = s
        · obtain ⟨rfl, rfl⟩ := z
          rw [if_pos ⟨rfl, rfl⟩, if_pos ⟨rfl, hh, by omega⟩]
        · rw [if_neg (by omega), r2 _ (by omega), b1 m i hm hi]
          by_cases y : i = s ∧ hon D m = true ∧ m < k
          · rw [if_pos y, if_pos ⟨y.1, y.2.1, by omega⟩]
          · rw [if_neg y, if_neg (fun u => y ⟨u.1, u.2.1, by omega⟩)]
      · rw [r2 _ (by omega), b1 m i hm hi]
        by_cases y : i = s ∧ hon D m = true ∧ m < k
        · rw [if_pos y, if_pos ⟨y.1, y.2.1, by omega⟩]
        · rw [if_neg y, if_neg]
          rintro ⟨u1, u2, u3⟩
          by_cases e : m = k
          · subst e; rw [hh] at u2; cases u2
          · exact y ⟨u1, u2, by omega⟩
    · rintro l g ⟨rfl, b1, b2⟩
      have cg : cC g 234 D := cc.fr fun a p q => b2 a (by omega)
      refine t_Tt_cutAll_2 (c_members rfl cg.1 (brF (fun z => absurd ((iN_lt (b := _) (by omega) (by omega)).mp z) (by omega)) (kk g (fun m i hm hi => ?_) b2)))
      rw [b1 m i hm hi]
      unfold upC
      by_cases y : i = s ∧ hon D m = true
      · rw [if_pos ⟨y.1, y.2, (hon_iff.mp y.2).1⟩, if_pos ⟨y.1, y.2, hz⟩]
      · rw [if_neg (fun u => y ⟨u.1, u.2.1⟩), if_neg (fun u => y ⟨u.1, u.2.1⟩)]
  · refine t_Tt_cutAll_2 (c_members rfl cc.1 (brT ((iN_lt (a := 0) (by omega) (by omega)).mpr (by omega)) (c_isCheck w cc hs.2 (fun z => absurd z hz) fun _ => br0 (kk f (fun m i hm hi => ?_) fun _ _ => rfl))))
    unfold upC
    rw [if_neg (fun u => hz u.2.2)]
    exact cC' m i hm hi
theorem c_send {Q : Hp → Prop} {m v a b : Nat} (w : wfC D) (hm : m < 7) (cc : cC f 234 D) (hv : v ≤ 360 ∨ (1000000 ≤ v ∧ v < 2147483648)) (h1 : f 200 1 = iN a) (h2 : f 200 2 = eQ b) (hb : b ≤ 400) (kk : ∀ g, g 200 1 = iN (a + sdN D v m) → g 200 2 = eQ (max b (qtN D v m)) → (∀ x, ¬ x = 200 → g x = f x) → Q g) : CV L xs xm_Tt_send [.ref 200, .int (iN m), .int (iN v)] f Q := by
  have hF := w.1
  refine t_Tt_send_0 ?_
  by_cases big : v ≤ 400
  · have e1 : sdN D v m = cntW (fun b => ¬ b = m ∧ hon D b = true) (3 * dF D + 1) := if_pos big
    have e2 : qtN D v m = mxN (fun b => if ¬ b = m ∧ hon D b = true then v + dD D m b + 1 else 0) (3 * dF D + 1) := if_pos big
    rw [e1, e2] at kk
    have bd : ∀ n, n ≤ 3 * dF D + 1 → mxN (fun b => if ¬ b = m ∧ hon D b = true then v + dD D m b + 1 else 0) n ≤ 400 := fun n hn => (mxN_le n).mpr fun i hi => by
      show (if ¬ i = m ∧ hon D i = true then v + dD D m i + 1 else 0) ≤ 400
      have := (w.2.2.2.2.2.2.2 m i hm (by omega)).2
      split <;> omega
    refine for0 (3 * dF D + 1) (fun k l g => ∃ y : Value, (y.category != 2) = true ∧ l = [.ref 200, .int (iN m), .int (iN v), .int (iN k), y] ∧ g 200 1 = iN (a + cntW (fun b => ¬ b = m ∧ hon D b = true) k) ∧ g 200 2 = eQ (max b (mxN (fun b => if ¬ b = m ∧ hon D b = true then v + dD D m b + 1 else 0) k)) ∧ ∀ x, ¬ x = 200 → g x = f x) ⟨_, rfl, rfl, h1, by rw [h2]; congr 1; unfold mxN; omega, fun _ _ => rfl⟩ ?_ ?_
    · rintro k l g hk ⟨y, hy, rfl, b1, b2, b3⟩ k2
      have cg : cC g 234 D := cc.fr fun a p q => b3 a (by omega)
      have d9 := (w.2.2.2.2.2.2.2 m k hm (by omega)).2
      have bk := bd k (by omega)
      refine t_Tt_send_2 hy (c_members rfl cg.1 (brT ((iN_lt (b := _) (by omega) (by omega)).mpr (by omega)) (brF (fun z => absurd ((iN_lt (a := 400) (by omega) (by omega)).mp z) (by omega)) ?_)))
      rw [iN_inc]
      refine ⟨fun p => k2 _ _ ⟨y, hy, rfl, ?_, ?_, b3⟩, fun p => c_hon rfl w cg (by omega) (fun hh => br1 fun g3 e3 => ⟨m, rfl, hm, k, rfl, by omega, ?_⟩) fun hh => br0 (k2 _ _ ⟨y, hy, rfl, ?_, ?_, b3⟩)⟩
      · rw [b1, cntW_s, if_neg (fun z => z.1 ((iN_inj (by omega) (by omega)).mp p))]
      · rw [b2, mxN_s, if_neg (fun z => z.1 ((iN_inj (by omega) (by omega)).mp p)), Nat.max_zero]
      · have p : ¬ k = m := fun z => p (by rw [z])
        have ed : g3 (239 + m) k = iN (dD D m k) := by rw [e3, xu_a (by omega)]; exact cg.2.2.2.2.2.2.2 m k hm (by omega)
        rw [ed, iN_add]
        refine brF (fun z => absurd ((iN_lt (a := 400) (by omega) (by omega)).mp z) (by omega)) fun g4 e4 => ?_
        have q2 : g3 200 2 = eQ (max b (mxN (fun b => if ¬ b = m ∧ hon D b = true then v + dD D m b + 1 else 0) k)) := by rw [e3, xu_k (by omega)]; exact b2
        refine k2 _ _ ⟨_, rfl, rfl, ?_, ?_, fun x hx => by rw [e4, xu_a hx, e3, xu_a hx, b3 x hx]⟩
        · rw [e4, xu_k (by omega), e3, xu_eq, b1, iN_inc, cntW_s, if_pos ⟨p, hh⟩]; rfl
        · rw [e4, xu_eq, q2, eQ_max (by omega) (by omega), mxN_s, if_pos ⟨p, hh⟩]; congr 1; omega
      · rw [b1, cntW_s, if_neg (fun z => by rw [hh] at z; cases z.2)]
      · rw [b2, mxN_s, if_neg (fun z => by rw [hh] at z; cases z.2), Nat.max_zero]
    · rintro l g ⟨y, hy, rfl, b1, b2, b3⟩
      have cg : cC g 234 D := cc.fr fun a p q => b3 a (by omega)
      exact t_Tt_send_2 hy (c_members rfl cg.1 (brF (fun z => absurd ((iN_lt (b := _) (by omega) (by omega)).mp z) (by omega)) (kk g b1 b2 b3)))
  · have e1 : sdN D v m = 0 := if_neg big
    have e2 : qtN D v m = 0 := if_neg big
    rw [e1, e2] at kk
    exact t_Tt_send_2 rfl (c_members rfl cc.1 (brT ((iN_lt (a := 0) (by omega) (by omega)).mpr (by omega)) (brT ((iN_lt (a := 400) (by omega) (by omega)).mpr (by omega)) (kk f h1 (by rw [h2]; congr 1; omega) fun _ _ => rfl))))
theorem c_sendAll {Q : Hp → Prop} {s a b : Nat} (w : wfC D) (hs : 1 ≤ s ∧ s ≤ 10) (wm : wfM D s t) (cc : cC f 234 D) (ct : cTT f t) (h1 : f 200 1 = iN a) (h2 : f 200 2 = eQ b) (hb : b ≤ 400) (kk : ∀ g, g 200 1 = iN (a + sumW (fun m => sdS D t s m) (3 * dF D + 1)) → g 200 2 = eQ (max b (mxN (fun m => qtS D t s m) (3 * dF D + 1))) → (∀ x, ¬ x = 200 → g x = f x) → Q g) : CV L xs xm_Tt_sendAll [.ref 200, .int (iN s)] f Q := by
  have hF := w.1
  have bs : ∀ m, (t.1 m s ≤ 360 ∨ (1000000 ≤ t.1 m s ∧ t.1 m s < 2147483648)) ∧ (t.2.1 m s ≤ 360 ∨ (1000000 ≤ t.2.1 m s ∧ t.2.1 m s < 2147483648)) ∧ (t.2.2.1 m s ≤ 360 ∨ (1000000 ≤ t.2.2.1 m s ∧ t.2.2.1 m s < 2147483648)) := fun m => by
    obtain ⟨b1, b2, b3, b4⟩ := wm.2.2.2.2.2 m s hs.1
    unfold bt at b1 b2 b3
    omega
  have bq : ∀ m, m < 7 → qtN D (t.1 m s) m ≤ 400 ∧ qtN D (t.2.1 m s) m ≤ 400 ∧ qtN D (t.2.2.1 m s) m ≤ 400 := fun m hm => ⟨qtN_lt w hm ((bs m).1.imp id fun z => z.1), qtN_lt w hm ((bs m).2.1.imp id fun z => z.1), qtN_lt w hm ((bs m).2.2.imp id fun z => z.1)⟩
  have bS : ∀ m, m < 7 → qtS D t s m ≤ 400 := fun m hm => by
    obtain ⟨x1, x2, x3⟩ := bq m hm
    unfold qtS
    split <;> omega
  refine t_Tt_sendAll_0 ?_
  refine for0 (3 * dF D + 1) (fun k l g => l = [.ref 200, .int (iN s), .int (iN k)] ∧ g 200 1 = iN (a + sumW (fun m => sdS D t s m) k) ∧ g 200 2 = eQ (max b (mxN (fun m => qtS D t s m) k)) ∧ ∀ x, ¬ x = 200 → g x = f x) ⟨rfl, h1, by rw [h2]; congr 1; unfold mxN; omega, fun _ _ => rfl⟩ ?_ ?_
  · rintro k l g hk ⟨rfl, b1, b2, b3⟩ k2
    have cg : cC g 234 D := cc.fr fun a p q => b3 a (by omega)
    obtain ⟨t1, t2, t3, t4⟩ := ct k s (by omega) (by omega)
    obtain ⟨v1, v2, v3⟩ := bs k
    obtain ⟨x1, x2, x3⟩ := bq k (by omega)
    have bk : mxN (fun m => qtS D t s m) k ≤ 400 := (mxN_le k).mpr fun i hi => bS i (by omega)
    refine t_Tt_sendAll_2 (c_members rfl cg.1 (brT ((iN_lt (b := _) (by omega) (by omega)).mpr (by omega)) ⟨k, rfl, by omega, s, rfl, by omega, ?_⟩))
    rw [b3 (210 + k) (by omega), t1]
    refine c_send w (by omega) cg v1 b1 b2 (by omega) fun g2 d1 d2 d3 => ?_
    have cg2 : cC g2 234 D := cg.fr fun a p q => d3 a (by omega)
    rw [d3 (218 + k) (by omega), b3 (218 + k) (by omega), t2]
    refine c_send w (by omega) cg2 v2 d1 d2 (by omega) fun g3 d4 d5 d6 => ?_
    have cg3 : cC g3 234 D := cg2.fr fun a p q => d6 a (by omega)
    rw [iN_inc]
    refine c_isCheck w cg3 hs.2 (fun z => br1 ?_) fun z => br0 (k2 _ _ ⟨rfl, ?_, ?_, fun x hx => by rw [d6 x hx, d3 x hx, b3 x hx]⟩)
    · rw [d6 (202 + k) (by omega), d3 (202 + k) (by omega), b3 (202 + k) (by omega), t3]
      refine c_send w (by omega) cg3 v3 d4 d5 (by omega) fun g4 d7 d8 d9 => k2 _ _ ⟨rfl, ?_, ?_, fun x hx => by rw [d9 x hx, d6 x hx, d3 x hx, b3 x hx]⟩
      · rw [d7, sumW_s]
        unfold sdS
        rw [if_pos z]; congr 1; omega
      · rw [d8, mxN_s]
        unfold qtS
        rw [if_pos z]; congr 1; omega
    · rw [d4, sumW_s]
      unfold sdS
      rw [if_neg z]; congr 1; omega
    · rw [d5, mxN_s]
      unfold qtS
      rw [if_neg z]; congr 1; omega
  · rintro l g ⟨rfl, b1, b2, b3⟩
    have cg : cC g 234 D := cc.fr fun a p q => b3 a (by omega)
    exact t_Tt_sendAll_2 (c_members rfl cg.1 (brF (fun z => absurd ((iN_lt (b := _) (by omega) (by omega)).mp z) (by omega)) (kk g b1 b2 b3)))
end PLAN2
