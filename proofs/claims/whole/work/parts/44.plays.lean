/-! PLAY in the reference: the whole play -/
section PLAYS2
variable {L : Nat} {xs : Nat → Int32} {f g : Hp} {T : TD} {D : CD} {t : TT}
def rS (D : CD) (s : Nat) (t : TT) : TT := (rA D s t, upP D s (rA D s t) t.2.1, upR D s (upP D s (rA D s t) t.2.1) t.2.2.1, upC D s (upR D s (upP D s (rA D s t) t.2.1) t.2.2.1) t.2.2.2)
theorem rS_lo {s : Nat} (h : s ≤ dN D) : rS D s t = ttS D s t := by
  unfold rS rA
  rw [if_pos h]
  rfl
theorem rS_hi {s : Nat} (h : dN D < s) (hs : 1 ≤ s ∧ s ≤ 10) (wm : wfM D (s - 1) t) : (rS D s t).1 = t.1 ∧ (rS D s t).2.1 = t.2.1 ∧ (rS D s t).2.2.1 = t.2.2.1 ∧ (rS D s t).2.2.2 = t.2.2.2 := by
  have up := wm.2.2.2.1
  have eA : rA D s t = t.1 := by unfold rA; rw [if_neg (by omega)]
  have eP : upP D s t.1 t.2.1 = t.2.1 := by
    funext m i
    unfold upP
    by_cases z : i = s ∧ hon D m = true
    · rw [if_pos z, z.1, (up m s (by omega)).1, (up m s (by omega)).2.1]
      have : qth D t.1 m s ≤ 1000000 := kt_inf _ _ _
      omega
    · rw [if_neg z]
  have eR : upR D s t.2.1 t.2.2.1 = t.2.2.1 := by
    funext m i
    unfold upR
    by_cases z : i = s ∧ hon D m = true
    · rw [if_pos z, z.1, (up m s (by omega)).2.1, (up m s (by omega)).2.2.1]
      have : qth D t.2.1 m s ≤ 1000000 := kt_inf _ _ _
      have : t.2.2.1 m (s - 1) ≤ 1000000 := by
        by_cases y : s - 1 = 0
        · rw [y, wm.2.1]; omega
        · exact (bt_inf (wm.2.2.2.2.2 m (s - 1) (by omega)).2.2.1 (by omega)).1
      omega
    · rw [if_neg z]
  have eC : upC D s t.2.2.1 t.2.2.2 = t.2.2.2 := by
    funext m i
    unfold upC
    by_cases z : i = s ∧ hon D m = true ∧ s % dS D = 0
    · rw [if_pos z, z.1, (up m s (by omega)).2.2.1, (up m s (by omega)).2.2.2]
      have : qth D t.2.2.1 m s ≤ 1000000 := kt_inf _ _ _
      omega
    · rw [if_neg z]
  unfold rS
  rw [eA, eP, eR, eC]
  exact ⟨rfl, rfl, rfl, rfl⟩
theorem rS_wf {s : Nat} (w : wfC D) (h0 : hon D 0 = true) (hs : 1 ≤ s ∧ s ≤ 10) (wm : wfM D (s - 1) t) : wfM D s (rS D s t) := by
  by_cases z : s ≤ dN D
  · rw [rS_lo z]
    have := wfM_s w (hon_iff.mp h0).2 (s := s - 1) (by omega) wm
    rwa [show s - 1 + 1 = s by omega] at this
  · obtain ⟨e1, e2, e3, e4⟩ := rS_hi (by omega) hs wm
    have : rS D s t = t := by
      show ((rS D s t).1, (rS D s t).2.1, (rS D s t).2.2.1, (rS D s t).2.2.2) = t
      rw [e1, e2, e3, e4]
    rw [this]
    exact wfM_up wm (by omega)
theorem rA_00 {s : Nat} (w : wfC D) (h0 : hon D 0 = true) (hs : 1 ≤ s) (wm : wfM D (s - 1) t) {m : Nat} (hm : hon D m = true) : wds D (rA D s t) m s 0 ≤ rA D s t m s := by
  unfold wds
  by_cases e : 0 = m
  · subst e; rw [if_pos rfl]; exact Nat.le_refl _
  · rw [if_neg e]
    unfold rA
    by_cases z : s ≤ dN D
    · rw [if_pos z]
      unfold upA
      rw [if_pos ⟨rfl, h0⟩, if_pos ⟨rfl, hm⟩]
      unfold sA
      rw [if_pos rfl, if_neg (fun y => e y.symm)]
      omega
    · rw [if_neg z, (wm.2.2.2.1 m s (by omega)).1]
      unfold addT
      rw [(wm.2.2.2.1 0 s (by omega)).1, if_pos (Nat.le_refl _)]
      exact Nat.le_refl _
theorem wds_le {X : Nat → Nat → Nat} {m s b : Nat} (w : wfC D) (hm : m < 7) (hb : b < 7) (h : X b s ≤ 400 ∨ X b s = 1000000) : wds D X m s b ≤ 1000000 := by
  have d9 := (w.2.2.2.2.2.2.2 b m hb hm).2
  unfold wds addT
  split
  · omega
  · split <;> omega
theorem r_playsPlace {Q : Hp → Prop} {o s : Nat} (w : wfC D) (h0 : hon D 0 = true) (hs : 1 ≤ s ∧ s ≤ 10) (wm : wfM D (s - 1) t) (cu : cur f o D) (rc : rDl f o D) (ho : o ≤ 692) (rt : rTT f t) (kk : ∀ g, rTT g (rS D s t) → (∀ x, x < 427 ∨ 431 < x → g x = f x) → Q g) : CV L xs xm_Mo_playsPlace [.ref 400, .int (iN s)] f Q := by
  have hF := w.1
  have w3 := w.2.2.1
  have wn := rS_wf w h0 hs wm
  have bn := fun m => wn.2.2.2.2.2 m s hs.1
  have ln := fun m (hh : hon D m = false) => wn.2.2.2.2.1 m s hh hs.1
  have bA : ∀ m, bt (upA D s t m s) (s - 1) (36 * (s - 1) + 9) := fun m => by
    have := wfM_s w (hon_iff.mp h0).2 (s := s - 1) (by omega) wm
    rw [show s - 1 + 1 = s by omega] at this
    exact (this.2.2.2.2.2 m s hs.1).1
  have iA : ∀ m, (rS D s t).1 m s ≤ 400 ∨ (rS D s t).1 m s = 1000000 := fun m => by have := bt_inf (bn m).1 (by omega); omega
  have iP : ∀ m, (rS D s t).2.1 m s ≤ 400 ∨ (rS D s t).2.1 m s = 1000000 := fun m => by have := bt_inf (bn m).2.1 (by omega); omega
  have iR : ∀ m, (rS D s t).2.2.1 m s ≤ 400 ∨ (rS D s t).2.2.1 m s = 1000000 := fun m => by have := bt_inf (bn m).2.2.1 (by omega); omega
  refine t_Mo_playsPlace_0 (r_playsAccepts w h0 hs wm cu rc ho rt bA fun g1 a1 f1 => ?_)
  have A1 : ∀ m i, m < 7 → 1 ≤ i → i ≤ 10 → g1 427 (13 * m + i) = iN (rEn ((rS D s t).1 m i)) := a1
  obtain ⟨A, hA⟩ : ∃ A, A = (rS D s t).1 := ⟨_, rfl⟩
  obtain ⟨P, hP⟩ : ∃ P, P = (rS D s t).2.1 := ⟨_, rfl⟩
  obtain ⟨R, hR⟩ : ∃ R, R = (rS D s t).2.2.1 := ⟨_, rfl⟩
  have eP : ∀ m i, P m i = if i = s ∧ hon D m = true then max (A m s) (qth D A m s) else t.2.1 m i := fun m i => by rw [hP, hA]; rfl
  have eR : ∀ m i, R m i = if i = s ∧ hon D m = true then max (max (P m s) (qth D P m s)) (t.2.2.1 m (s - 1)) else t.2.2.1 m i := fun m i => by rw [hR, hP]; rfl
  have eC : ∀ m i, (rS D s t).2.2.2 m i = if i = s ∧ hon D m = true ∧ s % dS D = 0 then max (R m s) (qth D R m s) else t.2.2.2 m i := fun m i => by rw [hR]; rfl
  have h00 : ∀ m, hon D m = true → wds D A m s 0 ≤ A m s := fun m hm => by rw [hA]; exact rA_00 w h0 hs.1 wm hm
  rw [← hA] at iA A1
  rw [← hP] at iP
  rw [← hR] at iR
  have lA : ∀ m, hon D m = false → A m s = 1000000 := fun m hh => by rw [hA]; exact (ln m hh).1
  have lP : ∀ m, hon D m = false → P m s = 1000000 := fun m hh => by rw [hP]; exact (ln m hh).2.1
  have lR : ∀ m, hon D m = false → R m s = 1000000 := fun m hh => by rw [hR]; exact (ln m hh).2.2.1
  refine for0 (3 * dF D + 1) (fun k l g => l = [.ref 400, .int (iN s), .int (iN k), .retAddr 0] ∧ (∀ m i, m < 7 → 1 ≤ i → i ≤ 10 → g 428 (13 * m + i) = iN (rEn (if i = s ∧ m < k then P m i else t.2.1 m i))) ∧ ∀ x, ¬ x = 428 → ¬ x = 431 → g x = g1 x) ⟨rfl, fun m i hm hi hi2 => by rw [if_neg (fun y => absurd y.2 (by omega)), f1 _ (by omega)]; exact (rt m i hm hi hi2).2.1, fun _ _ _ => rfl⟩ ?_ ?_
  · rintro k l g hk ⟨rfl, b1, b2⟩ k2
    have cg := cu.fr (g := g) (by rw [b2 400 (by omega) (by omega), f1 400 (by omega)])
    have rg := rc.fr (g := g) (by rw [b2 401 (by omega) (by omega), f1 401 (by omega)])
    have fin : ∀ (v : Int32) (g3 g4 : Hp), v = iN (rEn (P k s)) → (∀ x, ¬ x = 431 → g3 x = g x) → g4 = xu g3 428 (13 * k + s) v → Wp L xs xm_Mo_playsPlace 7 [.ref 400, .int (iN s), .int (iN k + 1), .retAddr 0] [] g4 (QV Q) := by
      intro v g3 g4 ev e3 e4
      rw [iN_inc]
      refine k2 _ _ ⟨rfl, fun m i hm hi hi2 => ?_, fun x p q => by rw [e4, xu_a p, e3 x q, b2 x p q]⟩
      rw [e4, xu_at]
      by_cases z : m = k ∧ i = s
      · obtain ⟨rfl, rfl⟩ := z
        rw [if_pos ⟨rfl, rfl⟩, if_pos ⟨rfl, by omega⟩, ev]
      · rw [if_neg (by omega), e3 428 (by omega), b1 m i hm hi hi2]
        by_cases y : i = s ∧ m < k
        · rw [if_pos y, if_pos ⟨y.1, by omega⟩]
        · rw [if_neg y, if_neg (fun u => y ⟨u.1, by omega⟩)]
    have gA : ∀ b, b < 7 → g 427 (13 * b + s) = iN (rEn (A b s)) := fun b hb => by rw [b2 427 (by omega) (by omega)]; exact A1 b s hb hs.1 hs.2
    refine t_Mo_playsPlace_7 ?_
    rw [cg.2.2.1]
    refine brT ((iN_lt (b := _) (by omega) (by omega)).mpr (by omega)) (r_laysComes rfl w cg rg ho (by omega) hs (by omega) gA iA lA fun g2 r1 r2 => r_at ⟨13 * k + s, rfl, by omega, fun g3 e3 => r_at ?_⟩)
    rw [r2 427 (by omega), gA k (by omega)] at e3
    have g3x : ∀ x, ¬ x = 431 → g3 x = g x := fun x hx => by rw [e3, xu_a hx, r2 x hx]
    have cg3 := cg.fr (g3x 400 (by omega))
    refine r_liar w cg3 hk (fun hh => br0 (r_at ⟨13 * k + s, rfl, by omega, ?_⟩)) fun hh => br1 ⟨13 * k + s, rfl, by omega, fun g10 e10 => fin _ g3 g10 (by rw [lP k hh]; rfl) g3x e10⟩
    rw [cg3.2.2.2.1, g3x 427 (by omega), gA k (by omega)]
    refine r_manyCome (M := 3 * dF D + 1) (r := fun b => if b = 0 then A k s else wds D A k s b) cg3.2.2.1 (by omega) (by omega) (fun b hb => ?_) (fun b hb => ?_) ?_
    · show g3 431 b = iN (rEn (if b = 0 then A k s else wds D A k s b))
      rw [e3, xu_at]
      by_cases z : b = 0
      · rw [if_pos ⟨rfl, z⟩, if_pos z]
      · rw [if_neg (fun y => z y.2), if_neg z, r1 b hb]
    · show (if b = 0 then A k s else wds D A k s b) ≤ 1000000
      split
      · have := iA k; omega
      · exact wds_le w (by omega) (by omega) (iA b)
    · have ik := iA k
      have ki := kt_inf (fun b => if b = 0 then A k s else wds D A k s b) (3 * dF D + 1) (2 * dF D + 1)
      refine r_later (by omega) ki ⟨13 * k + s, rfl, by omega, fun g9 e9 => fin _ g3 g9 ?_ g3x e9⟩
      rw [eP, if_pos ⟨rfl, hh⟩]
      congr 2
      exact (kt_swap (r := wds D A k s) (q := fun b => if b = 0 then A k s else wds D A k s b) (by omega) (h00 k hh) (if_pos rfl) fun b _ hb => (if_neg hb).symm).symm
  · rintro l g2 ⟨rfl, p1, p2⟩
    have cg2 := cu.fr (g := g2) (by rw [p2 400 (by omega) (by omega), f1 400 (by omega)])
    refine t_Mo_playsPlace_7 ?_
    rw [cg2.2.2.1]
    refine brF (fun z => absurd ((iN_lt (b := _) (by omega) (by omega)).mp z) (by omega)) ?_
    have P1 : ∀ m i, m < 7 → 1 ≤ i → i ≤ 10 → g2 428 (13 * m + i) = iN (rEn (P m i)) := fun m i hm hi hi2 => by
      rw [p1 m i hm hi hi2]
      by_cases z : i = s ∧ m < 3 * dF D + 1
      · rw [if_pos z]
      · rw [if_neg z, eP, if_neg (fun u => z ⟨u.1, (hon_iff.mp u.2).1⟩)]
    refine for0 (3 * dF D + 1) (fun k l g => ∃ v : Value, (v.category != 2) = true ∧ l = [.ref 400, .int (iN s), .int (iN k), v] ∧ (∀ m i, m < 7 → 1 ≤ i → i ≤ 10 → g 429 (13 * m + i) = iN (rEn (if i = s ∧ m < k then R m i else t.2.2.1 m i))) ∧ ∀ x, ¬ x = 429 → ¬ x = 431 → g x = g2 x) ⟨_, rfl, rfl, fun m i hm hi hi2 => by rw [if_neg (fun y => absurd y.2 (by omega)), p2 _ (by omega) (by omega), f1 _ (by omega)]; exact (rt m i hm hi hi2).2.2.1, fun _ _ _ => rfl⟩ ?_ ?_
    · rintro k l g hk ⟨v, hv, rfl, b1, b2⟩ k2
      have e401 : g 401 = f 401 := by rw [b2 401 (by omega) (by omega), p2 401 (by omega) (by omega), f1 401 (by omega)]
      have cg := cu.fr (g := g) (by rw [b2 400 (by omega) (by omega), p2 400 (by omega) (by omega), f1 400 (by omega)])
      have rg := rc.fr e401
      have gP : ∀ b, b < 7 → g 428 (13 * b + s) = iN (rEn (P b s)) := fun b hb => by rw [b2 428 (by omega) (by omega)]; exact P1 b s hb hs.1 hs.2
      have wr : t.2.2.1 k (s - 1) ≤ 1000000 := (wm.inf k (s - 1) (by omega)).2.1.1
      have fin : ∀ (g3 : Hp) (c : Nat), c ≤ 1000000 → (∀ x, ¬ x = 431 → g3 x = g x) → R k s = max c (t.2.2.1 k (s - 1)) → Wp L xs xm_Mo_playsPlace 147 [.ref 400, .int (iN s), .int (iN k), v] [.int (iN (rEn c))] g3 (QV Q) := by
        intro g3 c hc e3 ec
        have last : ∀ (u : Int32) (g4 : Hp), u = iN (rEn (R k s)) → g4 = xu g3 429 (13 * k + s) u → Wp L xs xm_Mo_playsPlace 94 [.ref 400, .int (iN s), .int (iN k + 1), .int (iN (rEn c))] [] g4 (QV Q) := by
          intro u g4 eu e4
          rw [iN_inc]
          refine k2 _ _ ⟨_, rfl, rfl, fun m i hm hi hi2 => ?_, fun x p q => by rw [e4, xu_a p, e3 x q, b2 x p q]⟩
          rw [e4, xu_at]
          by_cases z : m = k ∧ i = s
          · obtain ⟨rfl, rfl⟩ := z
            rw [if_pos ⟨rfl, rfl⟩, if_pos ⟨rfl, by omega⟩, eu]
          · rw [if_neg (by omega), e3 429 (by omega), b1 m i hm hi hi2]
            by_cases y : i = s ∧ m < k
            · rw [if_pos y, if_pos ⟨y.1, by omega⟩]
            · rw [if_neg y, if_neg (fun u => y ⟨u.1, by omega⟩)]
        refine t_Mo_playsPlace_147 hv (r_at ⟨fun p => ⟨13 * k + s, rfl, by omega, fun g5 e5 => last _ g5 ?_ e5⟩, fun p => ?_⟩)
        · have p := (iN_inj (b := 1) (by omega) (by omega)).mp p
          subst p
          have e1 := wm.2.1 k
          rw [ec, show 1 - 1 = 0 from rfl, e1, Nat.max_zero]
        · have p : ¬ s = 1 := fun z => p (by rw [z]; rfl)
          rw [show iN s - 1 = iN (s - 1) from iN_sub (b := 1) hs.1]
          refine r_at ⟨13 * k + (s - 1), rfl, by omega, ?_⟩
          have q := b1 k (s - 1) (by omega) (by omega) (by omega)
          rw [if_neg (fun y => absurd y.1 (by omega))] at q
          rw [e3 429 (by omega), q]
          refine r_later hc wr ⟨13 * k + s, rfl, by omega, fun g4 e4 => last _ g4 ?_ e4⟩
          rw [ec]
      refine t_Mo_playsPlace_94 hv ?_
      rw [cg.2.2.1]
      refine brT ((iN_lt (b := _) (by omega) (by omega)).mpr (by omega)) (r_laysComes rfl w cg rg ho (by omega) hs (by omega) gP iP lP fun g3 r1 r2 => ?_)
      have cg3 := cg.fr (r2 400 (by omega))
      refine r_liar w cg3 hk (fun hh => br0 (r_at ⟨13 * k + s, rfl, by omega, ?_⟩)) fun hh => br1 (fin g3 1000000 (by omega) r2 ?_)
      · rw [cg3.2.2.2.1, r2 428 (by omega), gP k (by omega)]
        have ik := iP k
        have ki := kt_inf (wds D P k s) (3 * dF D + 1) (2 * dF D + 1)
        refine r_manyCome cg3.2.2.1 (by omega) (by omega) r1 (fun b hb => wds_le w (by omega) (by omega) (iP b)) (r_later (by omega) ki (fin g3 _ (by omega) r2 ?_))
        rw [eR, if_pos ⟨rfl, hh⟩]
      · rw [lR k hh]; omega
    · rintro l g3 ⟨v, hv, rfl, q1, q2⟩
      have cg3 := cu.fr (g := g3) (by rw [q2 400 (by omega) (by omega), p2 400 (by omega) (by omega), f1 400 (by omega)])
      refine t_Mo_playsPlace_94 hv ?_
      rw [cg3.2.2.1]
      refine brF (fun z => absurd ((iN_lt (b := _) (by omega) (by omega)).mp z) (by omega)) ?_
      have R1 : ∀ m i, m < 7 → 1 ≤ i → i ≤ 10 → g3 429 (13 * m + i) = iN (rEn (R m i)) := fun m i hm hi hi2 => by
        rw [q1 m i hm hi hi2]
        by_cases z : i = s ∧ m < 3 * dF D + 1
        · rw [if_pos z]
        · rw [if_neg z, eR, if_neg (fun u => z ⟨u.1, (hon_iff.mp u.2).1⟩)]
      refine for0 (3 * dF D + 1) (fun k l g => l = [.ref 400, .int (iN s), .int (iN k), v] ∧ (∀ m i, m < 7 → 1 ≤ i → i ≤ 10 → g 430 (13 * m + i) = iN (rEn (if i = s ∧ m < k then (rS D s t).2.2.2 m i else t.2.2.2 m i))) ∧ ∀ x, ¬ x = 430 → ¬ x = 431 → g x = g3 x) ⟨rfl, fun m i hm hi hi2 => by rw [if_neg (fun y => absurd y.2 (by omega)), q2 _ (by omega) (by omega), p2 _ (by omega) (by omega), f1 _ (by omega)]; exact (rt m i hm hi hi2).2.2.2, fun _ _ _ => rfl⟩ ?_ ?_
      · rintro k l g hk ⟨rfl, b1, b2⟩ k2
        have e401 : g 401 = f 401 := by rw [b2 401 (by omega) (by omega), q2 401 (by omega) (by omega), p2 401 (by omega) (by omega), f1 401 (by omega)]
        have cg := cu.fr (g := g) (by rw [b2 400 (by omega) (by omega), q2 400 (by omega) (by omega), p2 400 (by omega) (by omega), f1 400 (by omega)])
        have rg := rc.fr e401
        have gR : ∀ b, b < 7 → g 429 (13 * b + s) = iN (rEn (R b s)) := fun b hb => by rw [b2 429 (by omega) (by omega)]; exact R1 b s hb hs.1 hs.2
        have tC : t.2.2.2 k s = 1000000 := (wm.2.2.2.1 k s (by omega)).2.2.2
        have fin : ∀ (u : Int32) (g4 g5 : Hp), u = iN (rEn ((rS D s t).2.2.2 k s)) → (∀ x, ¬ x = 431 → g4 x = g x) → g5 = xu g4 430 (13 * k + s) u → Wp L xs xm_Mo_playsPlace 191 [.ref 400, .int (iN s), .int (iN k + 1), v] [] g5 (QV Q) := by
          intro u g4 g5 eu e4 e5
          rw [iN_inc]
          refine k2 _ _ ⟨rfl, fun m i hm hi hi2 => ?_, fun x p q => by rw [e5, xu_a p, e4 x q, b2 x p q]⟩
          rw [e5, xu_at]
          by_cases z : m = k ∧ i = s
          · obtain ⟨rfl, rfl⟩ := z
            rw [if_pos ⟨rfl, rfl⟩, if_pos ⟨rfl, by omega⟩, eu]
          · rw [if_neg (by omega), e4 430 (by omega), b1 m i hm hi hi2]
            by_cases y : i = s ∧ m < k
            · rw [if_pos y, if_pos ⟨y.1, by omega⟩]
            · rw [if_neg y, if_neg (fun u => y ⟨u.1, by omega⟩)]
        refine t_Mo_playsPlace_191 hv ?_
        rw [cg.2.2.1]
        refine brT ((iN_lt (b := _) (by omega) (by omega)).mpr (by omega)) (r_laysComes rfl w cg rg ho (by omega) hs (by omega) gR iR lR fun g4 r1 r2 => r_at ?_)
        have cg4 := cg.fr (r2 400 (by omega))
        have hd : s % dS D < 5 := Nat.lt_of_lt_of_le (Nat.mod_lt _ (by omega)) (by omega)
        refine r_liar w cg4 hk (fun hh => br0 ⟨by rw [cg4.2.2.2.2.2.1]; exact fun z => absurd ((iN_inj (b := 0) (by omega) (by omega)).mp z) (by omega), ?_⟩) fun hh => br1 ⟨13 * k + s, rfl, by omega, fun g5 e5 => fin _ g4 g5 ?_ r2 e5⟩
        · rw [cg4.2.2.2.2.2.1, jrem_iN (by omega) (by omega)]
          refine ⟨fun p => r_at ⟨13 * k + s, rfl, by omega, ?_⟩, fun p => ⟨13 * k + s, rfl, by omega, fun g5 e5 => fin _ g4 g5 ?_ r2 e5⟩⟩
          · have p := (iN_inj (b := 0) (by omega) (by omega)).mp p
            rw [cg4.2.2.2.1, r2 429 (by omega), gR k (by omega)]
            have ik := iR k
            have ki := kt_inf (wds D R k s) (3 * dF D + 1) (2 * dF D + 1)
            refine r_manyCome cg4.2.2.1 (by omega) (by omega) r1 (fun b hb => wds_le w (by omega) (by omega) (iR b)) (r_later (by omega) ki ⟨13 * k + s, rfl, by omega, fun g8 e8 => fin _ g4 g8 ?_ r2 e8⟩)
            rw [eC, if_pos ⟨rfl, hh, p⟩]
          · have p : ¬ s % dS D = 0 := fun z => p (by rw [z]; rfl)
            rw [eC, if_neg (fun u => p u.2.2), tC]; rfl
        · rw [eC, if_neg (fun u => by rw [hh] at u; cases u.2.1), tC]; rfl
      · rintro l g ⟨rfl, b1, b2⟩
        have cg := cu.fr (g := g) (by rw [b2 400 (by omega) (by omega), q2 400 (by omega) (by omega), p2 400 (by omega) (by omega), f1 400 (by omega)])
        refine t_Mo_playsPlace_191 hv ?_
        rw [cg.2.2.1]
        refine brF (fun z => absurd ((iN_lt (b := _) (by omega) (by omega)).mp z) (by omega)) (kk g (fun m i hm hi hi2 => ⟨?_, ?_, ?_, ?_⟩) fun x hx => by rw [b2 x (by omega) (by omega), q2 x (by omega) (by omega), p2 x (by omega) (by omega), f1 x (by omega)])
        · rw [b2 427 (by omega) (by omega), q2 427 (by omega) (by omega), p2 427 (by omega) (by omega), ← hA]; exact A1 m i hm hi hi2
        · rw [b2 428 (by omega) (by omega), q2 428 (by omega) (by omega), ← hP]; exact P1 m i hm hi hi2
        · rw [b2 429 (by omega) (by omega), ← hR]; exact R1 m i hm hi hi2
        · rw [b1 m i hm hi hi2]
          by_cases z : i = s ∧ m < 3 * dF D + 1
          · rw [if_pos z]
          · rw [if_neg z, eC, if_neg (fun u => z ⟨u.1, (hon_iff.mp u.2.1).1⟩)]
theorem r_plays {Q : Hp → Prop} {o : Nat} (w : wfC D) (cu : cur f o D) (rc : rDl f o D) (ho : o ≤ 692) (kk : ∀ g, rTT g (ttF D) → (∀ x, x < 427 ∨ 431 < x → g x = f x) → Q g) : CV L xs xm_Mo_plays [.ref 400] f Q := by
  have hF := w.1
  refine t_Mo_plays_0 ?_
  refine for0 91 (fun k l g => l = [.ref 400, .int (iN k)] ∧ (∀ i, i < k → g 427 i = 99999999 ∧ g 428 i = 99999999 ∧ g 429 i = 99999999 ∧ g 430 i = 99999999) ∧ ∀ x, x < 427 ∨ 430 < x → g x = f x) ⟨rfl, fun i hi => absurd hi (by omega), fun _ _ => rfl⟩ ?_ ?_
  · rintro k l g hk ⟨rfl, b1, b2⟩ k2
    refine t_Mo_plays_2 (brT ((iN_lt (b := 91) (by omega) (by omega)).mpr (by omega)) ⟨k, rfl, hk, fun g2 e2 g3 e3 g4 e4 g5 e5 => ?_⟩)
    rw [iN_inc]
    refine k2 _ _ ⟨rfl, fun i hi => ?_, fun x hx => by rw [e5, xu_a (by omega), e4, xu_a (by omega), e3, xu_a (by omega), e2, xu_a (by omega), b2 x hx]⟩
    by_cases z : i = k
    · subst z
      exact ⟨by rw [e5, xu_a (by omega), e4, xu_a (by omega), e3, xu_a (by omega), e2, xu_eq], by rw [e5, xu_a (by omega), e4, xu_a (by omega), e3, xu_eq], by rw [e5, xu_a (by omega), e4, xu_eq], by rw [e5, xu_eq]⟩
    · obtain ⟨c1, c2, c3, c4⟩ := b1 i (by omega)
      exact ⟨by rw [e5, xu_a (by omega), e4, xu_a (by omega), e3, xu_a (by omega), e2, xu_k z]; exact c1, by rw [e5, xu_a (by omega), e4, xu_a (by omega), e3, xu_k z, e2, xu_a (by omega)]; exact c2, by rw [e5, xu_a (by omega), e4, xu_k z, e3, xu_a (by omega), e2, xu_a (by omega)]; exact c3, by rw [e5, xu_k z, e4, xu_a (by omega), e3, xu_a (by omega), e2, xu_a (by omega)]; exact c4⟩
  · rintro l g ⟨rfl, b1, b2⟩
    have cg := cu.fr (b2 400 (by omega))
    have rt : rTT g tt0 := fun m i hm hi hi2 => by
      obtain ⟨c1, c2, c3, c4⟩ := b1 (13 * m + i) (by omega)
      have e1 : tt0.1 m i = 1000000 := if_neg (by omega)
      have e3 : tt0.2.2.1 m i = 1000000 := if_neg (by omega)
      rw [c1, c2, c3, c4, e1, e3]
      exact ⟨rfl, rfl, rfl, rfl⟩
    refine t_Mo_plays_2 (brF (by decide) (r_liar (m := 0) w cg (by omega) (fun hh => br0 ?_) fun hh => br1 ?_))
    · have t0 := (hon_iff.mp hh).2
      have eF : ttF D = ttN D 10 := if_neg (by rw [t0]; decide)
      refine for0 10 (fun k l h => l = [.ref 400, .int (iN (k + 1))] ∧ rTT h (ttN D k) ∧ ∀ x, x < 427 ∨ 431 < x → h x = f x) ⟨rfl, rt, fun x hx => b2 x (by omega)⟩ ?_ ?_
      · rintro k l h hk ⟨rfl, d1, d2⟩ k2
        have wk := wfM_N w t0 k (by omega)
        have wk : wfM D (k + 1 - 1) (ttN D k) := wfM_up wk (by omega)
        refine t_Mo_plays_61 (brF (fun z => absurd ((iN_lt (a := 10) (by omega) (by omega)).mp z) (by omega)) (r_playsPlace w hh (by omega) wk (cu.fr (d2 400 (by omega))) (rc.fr (d2 401 (by omega))) ho d1 fun g' u1 u2 => ?_))
        rw [iN_inc]
        refine k2 _ _ ⟨rfl, ?_, fun x hx => by rw [u2 x hx, d2 x hx]⟩
        by_cases z : k + 1 ≤ dN D
        · rw [ttN_s z, ← rS_lo z]; exact u1
        · rw [ttN_e (by omega)]
          obtain ⟨e1, e2, e3, e4⟩ := rS_hi (by omega) (by omega) wk
          intro m i hm hi hi2
          have := u1 m i hm hi hi2
          rw [e1, e2, e3, e4] at this
          exact this
      · rintro l h ⟨rfl, d1, d2⟩
        exact t_Mo_plays_61 (brT (by decide) (kk h (by rw [eF]; exact d1) d2))
    · have t0 : (dL D).testBit 0 = true := by
        cases hb : (dL D).testBit 0 with
        | true => rfl
        | false =>
          have := hon_iff.mpr ⟨show 0 < 3 * dF D + 1 by omega, hb⟩
          rw [hh] at this; cases this
      exact kk g (by rw [show ttF D = tt0 from if_pos t0]; exact rt) fun x hx => b2 x (by omega)
end PLAYS2
