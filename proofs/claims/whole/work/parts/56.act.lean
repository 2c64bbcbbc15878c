/-! a deed, as both sides do it -/
def wfD (K a : Nat) (B C : Int32) : Prop := K ≤ 8 ∧ a ≤ 6 ∧ (K = 0 → (∃ p, 1 ≤ p ∧ p ≤ 12 ∧ B = iN p) ∧ ∃ o, o ≤ 9 ∧ C = iN o) ∧ (K = 1 ∨ K = 2 → (∃ b, b ≤ 6 ∧ B = iN b) ∧ ∃ p, 1 ≤ p ∧ p ≤ 12 ∧ C = iN p) ∧ (K = 4 ∨ K = 5 → ∃ b, b ≤ 6 ∧ B = iN b)
def stp (D : CD) (S : ST) (K a b c : Nat) : Option ST := if ¬ a < 3 * dF D + 1 then none else if K = 0 then (if proOk D S a b c then some (accS D S a b (iN c)) else none) else if K = 3 then (if hon D a = true ∧ canRun D S a then some (rLp D a 12 S) else none) else if K = 6 then (if nb (S 0 a 0) < 9 then some (dbtS S a) else none) else if K = 7 then (if mkvOk D S a then some (mkvS D S a) else none) else if K = 8 then (if emOk S a then some (entS D S a) else none) else if a = b ∨ hon D b = false then none else if K = 1 then (if prpOk D S a b c then some (prpS D S a b c) else none) else if K = 2 then (if cmtOk D S a b c then some (cmtS S a b c) else none) else if K = 4 then (if mrkOk D S a b then some (mrkS D S a b) else none) else (if hon D a = true ∧ ftcOk S a b then some (ftcS S a b) else none)
section ACT
variable {L : Nat} {xs : Nat → Int32} {f g : Hp} {D : CD} {S S' : ST} {o0 a b c : Nat}
theorem stpN {K : Nat} (h : ¬ a < 3 * dF D + 1) : stp D S K a b c = none := if_pos h
theorem stp0 (h : a < 3 * dF D + 1) : stp D S 0 a b c = if proOk D S a b c then some (accS D S a b (iN c)) else none := by unfold stp; rw [if_neg (by omega), if_pos rfl]
theorem stp3 (h : a < 3 * dF D + 1) : stp D S 3 a b c = if hon D a = true ∧ canRun D S a then some (rLp D a 12 S) else none := by unfold stp; rw [if_neg (by omega), if_neg (by decide), if_pos rfl]
theorem stp6 (h : a < 3 * dF D + 1) : stp D S 6 a b c = if nb (S 0 a 0) < 9 then some (dbtS S a) else none := by unfold stp; rw [if_neg (by omega), if_neg (by decide), if_neg (by decide), if_pos rfl]
theorem stp7 (h : a < 3 * dF D + 1) : stp D S 7 a b c = if mkvOk D S a then some (mkvS D S a) else none := by unfold stp; rw [if_neg (by omega), if_neg (by decide), if_neg (by decide), if_neg (by decide), if_pos rfl]
theorem stp8 (h : a < 3 * dF D + 1) : stp D S 8 a b c = if emOk S a then some (entS D S a) else none := by unfold stp; rw [if_neg (by omega), if_neg (by decide), if_neg (by decide), if_neg (by decide), if_neg (by decide), if_pos rfl]
theorem stp1 (h : a < 3 * dF D + 1) : stp D S 1 a b c = if a = b ∨ hon D b = false then none else if prpOk D S a b c then some (prpS D S a b c) else none := by unfold stp; rw [if_neg (by omega), if_neg (by decide), if_neg (by decide), if_neg (by decide), if_neg (by decide), if_neg (by decide), if_pos rfl]
theorem stp2 (h : a < 3 * dF D + 1) : stp D S 2 a b c = if a = b ∨ hon D b = false then none else if cmtOk D S a b c then some (cmtS S a b c) else none := by unfold stp; rw [if_neg (by omega), if_neg (by decide), if_neg (by decide), if_neg (by decide), if_neg (by decide), if_neg (by decide), if_neg (c := 2 = 1) (by decide), if_pos rfl]
theorem stp4 (h : a < 3 * dF D + 1) : stp D S 4 a b c = if a = b ∨ hon D b = false then none else if mrkOk D S a b then some (mrkS D S a b) else none := by unfold stp; rw [if_neg (by omega), if_neg (by decide), if_neg (by decide), if_neg (by decide), if_neg (by decide), if_neg (by decide), if_neg (c := 4 = 1) (by decide), if_neg (c := 4 = 2) (by decide), if_pos rfl]
theorem stp5 (h : a < 3 * dF D + 1) : stp D S 5 a b c = if a = b ∨ hon D b = false then none else if hon D a = true ∧ ftcOk S a b then some (ftcS S a b) else none := by unfold stp; rw [if_neg (by omega), if_neg (by decide), if_neg (by decide), if_neg (by decide), if_neg (by decide), if_neg (by decide), if_neg (c := 5 = 1) (by decide), if_neg (c := 5 = 2) (by decide), if_neg (c := 5 = 4) (by decide)]
theorem hon_lt {m : Nat} (h : hon D m = true) : m < 3 * dF D + 1 := by
  unfold hon at h
  rw [Bool.and_eq_true, decide_eq_true_iff] at h
  exact h.1
theorem stp_wf {K : Nat} {B C : Int32} {T : ST} (w : wfC D) (ws : wfS D S) (wd : wfD K a B C) (e : stp D S K a (nb B) (nb C) = some T) : wfS D T := by
  have hF := w.1
  by_cases ha : a < 3 * dF D + 1
  · have ha7 : a < 7 := by omega
    have sm : ∀ {p : Prop} [Decidable p] {X : ST}, (if p then some X else none) = some T → p ∧ X = T := fun {p} _ {X} z => by
      by_cases y : p
      · rw [if_pos y] at z; exact ⟨y, Option.some.inj z⟩
      · rw [if_neg y] at z; cases z
    have sb : ∀ {q p : Prop} [Decidable q] [Decidable p] {X : ST}, (if q then none else if p then some X else none) = some T → ¬ q ∧ p ∧ X = T := fun {q p} _ _ {X} z => by
      by_cases y : q
      · rw [if_pos y] at z; cases z
      · rw [if_neg y] at z; exact ⟨y, sm z⟩
    obtain ⟨k8, a6, d0, d1, d4⟩ := wd
    have hh : ∀ {b : Nat}, ¬ (a = b ∨ hon D b = false) → hon D b = true := fun {b} z => by
      cases y : hon D b
      · exact absurd (Or.inr y) z
      · rfl
    rcases (show K = 0 ∨ K = 1 ∨ K = 2 ∨ K = 3 ∨ K = 4 ∨ K = 5 ∨ K = 6 ∨ K = 7 ∨ K = 8 by omega) with rfl | rfl | rfl | rfl | rfl | rfl | rfl | rfl | rfl
    · obtain ⟨⟨p, p1, p2, rfl⟩, o, ho, rfl⟩ := d0 rfl
      rw [nb_iN (by omega), nb_iN (by omega), stp0 ha] at e
      obtain ⟨ok, rfl⟩ := sm e
      exact ws.acc w ha7 ⟨p1, p2⟩ ⟨ok.2.1, ok.1⟩ (Or.inr ⟨o, ok.2.2.1, rfl⟩)
    · obtain ⟨⟨b, hb, rfl⟩, p, p1, p2, rfl⟩ := d1 (Or.inl rfl)
      rw [nb_iN (by omega), nb_iN (by omega), stp1 ha] at e
      obtain ⟨nq, ok, rfl⟩ := sb e
      refine (ws.prp ha7 (by omega) ⟨p1, p2⟩ ⟨ok.1, hh nq⟩ ok.2.1).set (by omega) ⟨p1, p2⟩ ⟨?_, hh nq⟩
      rw [su_j (by omega)]; exact ok.1
    · obtain ⟨⟨b, hb, rfl⟩, p, p1, p2, rfl⟩ := d1 (Or.inr rfl)
      rw [nb_iN (by omega), nb_iN (by omega), stp2 ha] at e
      obtain ⟨nq, ok, rfl⟩ := sb e
      exact ws.cmt ha7 (by omega) ⟨p1, p2⟩ ⟨ok.1, hh nq⟩ ok.2.1
    · rw [stp3 ha] at e
      obtain ⟨ok, rfl⟩ := sm e
      exact rLp_wf w ha _ S ws
    · obtain ⟨b, hb, rfl⟩ := d4 (Or.inl rfl)
      rw [nb_iN (by omega), stp4 ha] at e
      obtain ⟨nq, ok, rfl⟩ := sb e
      exact cvS_fin w (mrk_wf ws ha ha7 (by omega) ok.1) (by omega)
    · obtain ⟨b, hb, rfl⟩ := d4 (Or.inr rfl)
      rw [nb_iN (by omega), stp5 ha] at e
      obtain ⟨nq, ok, rfl⟩ := sb e
      exact (ftc_wf w ws ha ok.2).2
    · rw [stp6 ha] at e
      obtain ⟨ok, rfl⟩ := sm e
      obtain ⟨⟨v, hv, ev⟩, -⟩ := ws.1 a ha7
      rw [ev, nb_iN (by omega)] at ok
      exact ws.dbt ha7 ev ok
    · rw [stp7 ha] at e
      obtain ⟨ok, rfl⟩ := sm e
      exact mkv_wf w ws ha7 ok
    · rw [stp8 ha] at e
      obtain ⟨ok, rfl⟩ := sm e
      exact ent_wf w ws ha7 ok.2
  · rw [stpN ha] at e; cases e
theorem c_act {Q : Int32 → Hp → Prop} {K : Nat} {B C : Int32} (w : wfC D) (ws : wfS D S) (h : cA f D S) (wd : wfD K a B C) (h1 : ∀ T, stp D S K a (nb B) (nb C) = some T → ∀ g, cA g D T → FrA f g → Q 1 g) (h0 : stp D S K a (nb B) (nb C) = none → ∀ g, cA g D S → FrA f g → Q 0 g) : CI L xs xm_As_act [.ref 75, .int (iN K), .int (iN a), .int B, .int C] f Q := by
  have hF := w.1
  obtain ⟨k8, a6, d0, d1, d4⟩ := wd
  have fr := FrA.refl f
  refine t_As_act_0 (c_isSeat w h (by omega) (fun ha => br1 ?_) fun ha => br0 (h0 (stpN ha) f h fr))
  have ha7 : a < 7 := by omega
  have nq : ∀ {b : Nat}, ¬ a = b → hon D b = true → ¬ (a = b ∨ hon D b = false) := fun p q z => z.elim p fun y => by rw [q] at y; cases y
  rcases (show K = 0 ∨ K = 1 ∨ K = 2 ∨ K = 3 ∨ K = 4 ∨ K = 5 ∨ K = 6 ∨ K = 7 ∨ K = 8 by omega) with rfl | rfl | rfl | rfl | rfl | rfl | rfl | rfl | rfl
  · obtain ⟨⟨p, p1, p2, rfl⟩, o, ho, rfl⟩ := d0 rfl
    rw [nb_iN (by omega), nb_iN (by omega), stp0 ha] at h1 h0
    refine brT (by decide) (c_propose w ws h ha7 ⟨p1, p2⟩ ho (fun ok g c fr => ⟨Or.inr rfl, h1 _ (if_pos ok) g c fr⟩) fun ok => ⟨Or.inl rfl, h0 (if_neg ok) f h fr⟩)
  · obtain ⟨⟨b, hb, rfl⟩, p, p1, p2, rfl⟩ := d1 (Or.inl rfl)
    rw [nb_iN (by omega), nb_iN (by omega), stp1 ha] at h1 h0
    refine brF (by decide) (brT (by decide) ?_)
    rw [iN_inj (by omega) (by omega)]
    refine ⟨fun z => h0 (if_pos (Or.inl z)) f h fr, fun z => c_asHon w h (by omega) (fun hh => br1 (brT (by decide) (c_prepare w ws h ha7 (by omega) ⟨p1, p2⟩ (fun ok g c fr => ⟨Or.inr rfl, h1 _ ((if_neg (nq z hh)).trans (if_pos ok)) g c fr⟩) fun ok => ⟨Or.inl rfl, h0 ((if_neg (nq z hh)).trans (if_neg ok)) f h fr⟩))) fun hh => br0 (h0 (if_pos (Or.inr hh)) f h fr)⟩
  · obtain ⟨⟨b, hb, rfl⟩, p, p1, p2, rfl⟩ := d1 (Or.inr rfl)
    rw [nb_iN (by omega), nb_iN (by omega), stp2 ha] at h1 h0
    refine brF (by decide) (brF (by decide) (brT (by decide) ?_))
    rw [iN_inj (by omega) (by omega)]
    refine ⟨fun z => h0 (if_pos (Or.inl z)) f h fr, fun z => c_asHon w h (by omega) (fun hh => br1 (brF (by decide) (brT (by decide) (c_commit w ws h ha7 (by omega) ⟨p1, p2⟩ (fun ok g c fr => ⟨Or.inr rfl, h1 _ ((if_neg (nq z hh)).trans (if_pos ok)) g c fr⟩) fun ok => ⟨Or.inl rfl, h0 ((if_neg (nq z hh)).trans (if_neg ok)) f h fr⟩)))) fun hh => br0 (h0 (if_pos (Or.inr hh)) f h fr)⟩
  · rw [stp3 ha] at h1 h0
    exact brF (by decide) (brF (by decide) (brF (by decide) (brT (by decide) (c_runOn w ws h ha (fun ok g c fr => ⟨Or.inr rfl, h1 _ (if_pos ok) g c fr⟩) fun ok => ⟨Or.inl rfl, h0 (if_neg ok) f h fr⟩))))
  · obtain ⟨b, hb, rfl⟩ := d4 (Or.inl rfl)
    rw [nb_iN (by omega), stp4 ha] at h1 h0
    refine brF (by decide) (brF (by decide) (brF (by decide) (brF (by decide) (brT (by decide) ?_))))
    rw [iN_inj (by omega) (by omega)]
    refine ⟨fun z => h0 (if_pos (Or.inl z)) f h fr, fun z => c_asHon w h (by omega) (fun hh => br1 (brF (by decide) (brF (by decide) (brF (by decide) (brT (by decide) (c_mark w ws h ha (by omega) (fun ok g c fr => ⟨Or.inr rfl, h1 _ ((if_neg (nq z hh)).trans (if_pos ok)) g c fr⟩) fun ok g c fr => ⟨Or.inl rfl, h0 ((if_neg (nq z hh)).trans (if_neg ok)) g c fr⟩)))))) fun hh => br0 (h0 (if_pos (Or.inr hh)) f h fr)⟩
  · obtain ⟨b, hb, rfl⟩ := d4 (Or.inr rfl)
    rw [nb_iN (by omega), stp5 ha] at h1 h0
    refine brF (by decide) (brF (by decide) (brF (by decide) (brF (by decide) (brF (by decide) (brT (by decide) ?_)))))
    rw [iN_inj (by omega) (by omega)]
    refine ⟨fun z => h0 (if_pos (Or.inl z)) f h fr, fun z => c_asHon w h (by omega) (fun hh => br1 (brF (by decide) (brF (by decide) (brF (by decide) (brF (by decide) (brT (by decide) (c_asFetch w ws h ha (by omega) z hh (fun ok g c fr => ⟨Or.inr rfl, h1 _ ((if_neg (nq z hh)).trans (if_pos ok)) g c fr⟩) fun ok => ⟨Or.inl rfl, h0 ((if_neg (nq z hh)).trans (if_neg ok)) f h fr⟩))))))) fun hh => br0 (h0 (if_pos (Or.inr hh)) f h fr)⟩
  · rw [stp6 ha] at h1 h0
    obtain ⟨⟨v, hv, ev⟩, -⟩ := ws.1 a ha7
    rw [ev, nb_iN (by omega)] at h1 h0
    exact brF (by decide) (brF (by decide) (brF (by decide) (brF (by decide) (brF (by decide) (brF (by decide) (brT (by decide) ⟨a, rfl, ha7, c_doubt h ha7 ev hv (fun ok g c fr => ⟨Or.inr rfl, h1 _ (if_pos ok) g c fr⟩) fun ok => ⟨Or.inl rfl, h0 (if_neg ok) f h fr⟩⟩))))))
  · rw [stp7 ha] at h1 h0
    exact brF (by decide) (brF (by decide) (brF (by decide) (brF (by decide) (brF (by decide) (brF (by decide) (brF (by decide) (brT (by decide) (c_makeView w ws h ha7 (fun ok g c fr => ⟨Or.inr rfl, h1 _ (if_pos ok) g c fr⟩) fun ok => ⟨Or.inl rfl, h0 (if_neg ok) f h fr⟩))))))))
  · rw [stp8 ha] at h1 h0
    exact brF (by decide) (brF (by decide) (brF (by decide) (brF (by decide) (brF (by decide) (brF (by decide) (brF (by decide) (brF (by decide) (brT (by decide) (c_enterMade w ws h ha7 (fun ok g c fr => ⟨Or.inr rfl, h1 _ (if_pos ok) g c fr⟩) fun ok => ⟨Or.inl rfl, h0 (if_neg ok) f h fr⟩)))))))))
theorem r_words0 {Q : Int32 → Hp → Prop} {x y z : Int32} (w : wfC D) (cu : cur f o0 D) (hb : b < 3 * dF D + 1) (hh : hon D b = false) (h0 : Q 0 f) : CI L xs xm_Mo_words [.ref 400, .int x, .int (iN b), .int y, .int z] f Q := t_Mo_words_0 (t_Mo_isWord_0 (r_liar w cu hb (fun q => absurd q (hf hh)) fun _ => br1 (br0 h0)))
theorem r_does {Q : Int32 → Hp → Prop} {K : Nat} {B C : Int32} (w : wfC D) (ws : wfS D S) (cu : cur f o0 D) (rc : rC f o0 D) (ho0 : o0 ≤ 692) (h : rM f S) (wd : wfD K a B C) (h1 : ∀ T, stp D S K a (nb B) (nb C) = some T → ∀ g, rM g T → FrM f g → FrK f g → Q 1 g) (h0 : stp D S K a (nb B) (nb C) = none → ∀ g, rM g S → FrM f g → FrK f g → Q 0 g) : CI L xs xm_Mo_does [.ref 400, .int (iN K), .int (iN a), .int B, .int C] f Q := by
  have hF := w.1
  obtain ⟨k8, a6, d0, d1, d4⟩ := wd
  have fm := FrM.refl f
  have fk := FrK.refl f
  refine t_Mo_does_0 (r_isMember cu.2.2.1 hF (fun a' ha' ea => br1 ?_) fun q => br0 (h0 (stpN fun z => q a z rfl) f h fm fk))
  have ha : a < 3 * dF D + 1 := by rw [(iN_inj (by omega) (by omega)).mp ea]; exact ha'
  have ha7 : a < 7 := by omega
  have nq : ∀ {b : Nat}, ¬ a = b → hon D b = true → ¬ (a = b ∨ hon D b = false) := fun p q z => z.elim p fun y => by rw [q] at y; cases y
  have two : ∀ {b : Nat} {KK : Int32} {CC : Int32}, b ≤ 6 → (¬ b < 3 * dF D + 1 → Q 0 f) → (a = b → Q 0 f) → (b < 3 * dF D + 1 → ¬ a = b → Wp L xs xm_Mo_does 57 [.ref 400, .int KK, .int (iN a), .int (iN b), .int CC, .int 1] [] f (QI Q)) → Wp L xs xm_Mo_does 35 [.ref 400, .int KK, .int (iN a), .int (iN b), .int CC, .retAddr 0] [.int 1] f (QI Q) := fun {b KK CC} hb q1 q2 q3 => by
    refine t_Mo_does_35 (brF (by decide) (r_isMember cu.2.2.1 hF (fun b' hb' eb => br1 ?_) fun q => br0 (q1 fun z => q b z rfl)))
    have hb' : b < 3 * dF D + 1 := by rw [(iN_inj (by omega) (by omega)).mp eb]; exact hb'
    rw [iN_inj (by omega) (by omega)]
    exact ⟨q2, q3 hb'⟩
  have nb0 : ∀ {b : Nat}, ¬ b < 3 * dF D + 1 → hon D b = false := fun {b} z => by
    cases y : hon D b
    · rfl
    · exact absurd (hon_lt y) z
  rcases (show K = 0 ∨ K = 1 ∨ K = 2 ∨ K = 3 ∨ K = 4 ∨ K = 5 ∨ K = 6 ∨ K = 7 ∨ K = 8 by omega) with rfl | rfl | rfl | rfl | rfl | rfl | rfl | rfl | rfl
  · obtain ⟨⟨p, p1, p2, rfl⟩, o, ho, rfl⟩ := d0 rfl
    rw [nb_iN (by omega), nb_iN (by omega), stp0 ha] at h1 h0
    exact brF (by decide) (brF (by decide) (brF (by decide) (brF (by decide) (t_Mo_does_35 (brT rfl (t_Mo_does_57 (brT (by decide) (r_proposes w ws cu h ha ⟨p1, p2⟩ ho (fun ok g c fm fk => ⟨Or.inr rfl, h1 _ (if_pos ok) g c fm fk⟩) fun ok => ⟨Or.inl rfl, h0 (if_neg ok) f h fm fk⟩))))))))
  · obtain ⟨⟨b, hb, rfl⟩, p, p1, p2, rfl⟩ := d1 (Or.inl rfl)
    rw [nb_iN (by omega), nb_iN (by omega), stp1 ha] at h1 h0
    refine brT (by decide) (two hb (fun z => h0 (if_pos (Or.inr (nb0 z))) f h fm fk) (fun z => h0 (if_pos (Or.inl z)) f h fm fk) fun hb2 z => t_Mo_does_57 (brF (by decide) (brT (by decide) (brF (by decide) ?_))))
    cases hh : hon D b
    · exact r_words0 w cu hb2 hh ⟨Or.inl rfl, h0 (if_pos (Or.inr hh)) f h fm fk⟩
    · exact r_prepares w ws cu h ha hb2 ⟨p1, p2⟩ hh (fun ok g c fm fk => ⟨Or.inr rfl, h1 _ ((if_neg (nq z hh)).trans (if_pos ok)) g c fm fk⟩) fun ok => ⟨Or.inl rfl, h0 ((if_neg (nq z hh)).trans (if_neg ok)) f h fm fk⟩
  · obtain ⟨⟨b, hb, rfl⟩, p, p1, p2, rfl⟩ := d1 (Or.inr rfl)
    rw [nb_iN (by omega), nb_iN (by omega), stp2 ha] at h1 h0
    refine brF (by decide) (brT (by decide) (two hb (fun z => h0 (if_pos (Or.inr (nb0 z))) f h fm fk) (fun z => h0 (if_pos (Or.inl z)) f h fm fk) fun hb2 z => t_Mo_does_57 (brF (by decide) (brF (by decide) (brT (by decide) (brT (by decide) ?_))))))
    cases hh : hon D b
    · exact r_words0 w cu hb2 hh ⟨Or.inl rfl, h0 (if_pos (Or.inr hh)) f h fm fk⟩
    · exact r_commits w ws cu h ha hb2 ⟨p1, p2⟩ hh (fun ok g c fm fk => ⟨Or.inr rfl, h1 _ ((if_neg (nq z hh)).trans (if_pos ok)) g c fm fk⟩) fun ok => ⟨Or.inl rfl, h0 ((if_neg (nq z hh)).trans (if_neg ok)) f h fm fk⟩
  · rw [stp3 ha] at h1 h0
    exact brF (by decide) (brF (by decide) (brF (by decide) (brF (by decide) (t_Mo_does_35 (brT rfl (t_Mo_does_57 (brF (by decide) (brF (by decide) (brF (by decide) (brT (by decide) (r_runsOn w ws cu rc ho0 h ha (fun ok g c fm fk => ⟨Or.inr rfl, h1 _ (if_pos ok) g c fm fk⟩) fun ok => ⟨Or.inl rfl, h0 (if_neg ok) f h fm fk⟩)))))))))))
  · obtain ⟨b, hb, rfl⟩ := d4 (Or.inl rfl)
    rw [nb_iN (by omega), stp4 ha] at h1 h0
    refine brF (by decide) (brF (by decide) (brT (by decide) (two hb (fun z => h0 (if_pos (Or.inr (nb0 z))) f h fm fk) (fun z => h0 (if_pos (Or.inl z)) f h fm fk) fun hb2 z => t_Mo_does_57 (brF (by decide) (brF (by decide) (brF (by decide) (brF (by decide) (brT (by decide) ?_))))))))
    cases hh : hon D b
    · exact t_Mo_marks_0 (r_liar w cu hb2 (fun q => absurd q (hf hh)) fun _ => br1 ⟨Or.inl rfl, h0 (if_pos (Or.inr hh)) f h fm fk⟩)
    · exact r_marks w ws cu h ha hb2 hh (fun ok g c fm fk => ⟨Or.inr rfl, h1 _ ((if_neg (nq z hh)).trans (if_pos ok)) g c fm fk⟩) fun ok g c fm fk => ⟨Or.inl rfl, h0 ((if_neg (nq z hh)).trans (if_neg ok)) g c fm fk⟩
  · obtain ⟨b, hb, rfl⟩ := d4 (Or.inr rfl)
    rw [nb_iN (by omega), stp5 ha] at h1 h0
    refine brF (by decide) (brF (by decide) (brF (by decide) (brT (by decide) (two hb (fun z => h0 (if_pos (Or.inr (nb0 z))) f h fm fk) (fun z => h0 (if_pos (Or.inl z)) f h fm fk) fun hb2 z => t_Mo_does_57 (brF (by decide) (brF (by decide) (brF (by decide) (brF (by decide) (brF (by decide) (brT (by decide) ?_))))))))))
    cases hh : hon D b
    · refine t_Mo_fetches_0 (r_liar w cu ha (fun _ => br0 (r_liar w cu hb2 (fun q => absurd q (hf hh)) fun _ => br1 ⟨Or.inl rfl, h0 (if_pos (Or.inr hh)) f h fm fk⟩)) fun _ => br1 ⟨Or.inl rfl, h0 (if_pos (Or.inr hh)) f h fm fk⟩)
    · exact r_fetches w ws cu h ha hb2 hh (fun ok g c fm fk => ⟨Or.inr rfl, h1 _ ((if_neg (nq z hh)).trans (if_pos ok)) g c fm fk⟩) fun ok => ⟨Or.inl rfl, h0 ((if_neg (nq z hh)).trans (if_neg ok)) f h fm fk⟩
  · rw [stp6 ha] at h1 h0
    obtain ⟨⟨v, hv, ev⟩, -⟩ := ws.1 a ha7
    rw [ev, nb_iN (by omega)] at h1 h0
    exact brF (by decide) (brF (by decide) (brF (by decide) (brF (by decide) (t_Mo_does_35 (brT rfl (t_Mo_does_57 (brF (by decide) (brF (by decide) (brF (by decide) (brF (by decide) (brF (by decide) (brF (by decide) (brT (by decide) (r_doubts h ha7 ev hv (fun ok g c fm fk => ⟨Or.inr rfl, h1 _ (if_pos ok) g c fm fk⟩) fun ok => ⟨Or.inl rfl, h0 (if_neg ok) f h fm fk⟩))))))))))))))
  · rw [stp7 ha] at h1 h0
    exact brF (by decide) (brF (by decide) (brF (by decide) (brF (by decide) (t_Mo_does_35 (brT rfl (t_Mo_does_57 (brF (by decide) (brF (by decide) (brF (by decide) (brF (by decide) (brF (by decide) (brF (by decide) (brF (by decide) (brT (by decide) (r_makes w ws cu h ha (fun ok g c fm fk => ⟨Or.inr rfl, h1 _ (if_pos ok) g c fm fk⟩) fun ok => ⟨Or.inl rfl, h0 (if_neg ok) f h fm fk⟩)))))))))))))))
  · rw [stp8 ha] at h1 h0
    exact brF (by decide) (brF (by decide) (brF (by decide) (brF (by decide) (t_Mo_does_35 (brT rfl (t_Mo_does_57 (brF (by decide) (brF (by decide) (brF (by decide) (brF (by decide) (brF (by decide) (brF (by decide) (brF (by decide) (brF (by decide) (r_entersAlone w ws cu h ha (fun ok g c fm fk => ⟨Or.inr rfl, h1 _ (if_pos ok) g c fm fk⟩) fun ok => ⟨Or.inl rfl, h0 (if_neg ok) f h fm fk⟩)))))))))))))))
end ACT
