/-! what is true after a run -/
def uf (D : CD) (S : ST) (m n : Nat) : Nat := cntW (fun s => inW D S m (s + 1) ∧ S 8 m (s + 1) = -1) n
def ap (D : CD) (S : ST) (s m n : Nat) : Nat := cntW (fun k => hon D k = true ∧ S 11 k s = S 11 m s ∧ S 12 k s = S 12 m s) n
def cer (D : CD) (S : ST) (s n : Nat) : Nat := cntW (fun m => hon D m = true ∧ ¬ S 11 m s = -1 ∧ dF D < ap D S s m (3 * dF D + 1)) n
def ceB (D : CD) (S : ST) (n : Nat) : Nat := bN (fun s => 1 ≤ s ∧ 0 < cer D S s (3 * dF D + 1)) n
def vwB (S : ST) (n : Nat) : Nat := bN (fun v => ¬ S 16 v 0 = 0) n
def swS (S : ST) (m n : Nat) : Nat := sumW (fun s => bcn (nb (S 9 m (s + 1))) + bcn (nb (S 10 m (s + 1)))) n
def twS (D : CD) (S : ST) (n : Nat) : Nat := sumW (fun m => if hon D m = true then swS S m 12 else 0) n
def beB (D : CD) (S : ST) (n : Nat) : Nat := bN (fun m => hon D m = true ∧ S 3 m 0 < S 2 m 0) n
def stB (D : CD) (S : ST) (n : Nat) : Nat := bN (fun m => hon D m = true ∧ S 1 m 0 = 0) n
def fuB (D : CD) (S : ST) (n : Nat) : Nat := bN (fun m => hon D m = true ∧ uf D S m 12 = 0) n
section AFTER
variable {L : Nat} {xs : Nat → Int32} {f g : Hp} {D : CD} {S S' : ST} {R : RD} {T : TD} {o0 : Nat}
theorem uf_p {m n : Nat} (h : inW D S m (n + 1) ∧ S 8 m (n + 1) = -1) : uf D S m (n + 1) = uf D S m n + 1 := cnt_pos (p := fun s => inW D S m (s + 1) ∧ S 8 m (s + 1) = -1) h
theorem uf_n {m n : Nat} (h : ¬ (inW D S m (n + 1) ∧ S 8 m (n + 1) = -1)) : uf D S m (n + 1) = uf D S m n := cnt_neg (p := fun s => inW D S m (s + 1) ∧ S 8 m (s + 1) = -1) h
theorem uf_mono {m n : Nat} : ∀ d, uf D S m n ≤ uf D S m (n + d)
  | 0 => Nat.le_refl _
  | d + 1 => by
    have ih := uf_mono (m := m) (n := n) d
    by_cases z : inW D S m (n + d + 1) ∧ S 8 m (n + d + 1) = -1
    · rw [← Nat.add_assoc, uf_p z]; omega
    · rw [← Nat.add_assoc, uf_n z]; exact ih
theorem uf_up {m n : Nat} : ∀ d, (∀ k, n ≤ k → k < n + d → ¬ inW D S m (k + 1)) → uf D S m (n + d) = uf D S m n
  | 0, _ => rfl
  | d + 1, h => by
    rw [← Nat.add_assoc, uf_n (fun z => h (n + d) (by omega) (by omega) z.1), uf_up d fun k a b => h k a (by omega)]
theorem c_isFull {Q : Int32 → Hp → Prop} {m : Nat} (w : wfC D) (ws : wfS D S) (h : cA f D S) (hm : m < 7) (h1 : uf D S m 12 = 0 → Q 1 f) (h0 : ¬ uf D S m 12 = 0 → Q 0 f) : CI L xs xm_As_isFull [.ref (93 + 11 * m)] f Q := by
  obtain ⟨-, -, ⟨l, hl, el⟩, -⟩ := ws.1 m hm
  have nl : nb (S 2 m 0) = l := by rw [el, nb_iN (by omega)]
  refine t_As_isFull_0 (k_mem hm) ?_
  rw [h.s hm (by omega), el, iN_inc]
  have st : uf D S m l = 0 := by
    have := uf_up (D := D) (S := S) (m := m) (n := 0) l fun k a b z => by unfold inW at z; rw [nl] at z; omega
    rw [Nat.zero_add] at this
    rw [this]; rfl
  refine for0 (12 - l) (fun d l' g => l' = [.ref (93 + 11 * m), .int (iN (l + d + 1))] ∧ uf D S m (l + d) = 0 ∧ g = f) ⟨rfl, st, rfl⟩ ?_ ?_
  · rintro d l' g hd ⟨rfl, b1, rfl⟩ k2
    refine t_As_isFull_7 (k_mem hm) (brF (fun z => absurd ((iN_lt (a := 12) (by omega) (by omega)).mp z) (by omega)) (c_within w h hm (k_mem hm) (by omega) el hl (fun u => br1 ?_) fun u => br0 (h1 ?_)))
    · refine c_hasAcc h hm (k_mem hm) (by omega) (fun z => br1 ?_) fun z => br0 (h0 fun y => ?_)
      · rw [iN_inc]
        exact k2 _ _ ⟨rfl, by rw [show l + (d + 1) = l + d + 1 by omega, uf_n (fun y => z y.2)]; exact b1, rfl⟩
      · have := uf_p (D := D) (S := S) (m := m) (n := l + d) ⟨by unfold inW; rw [nl]; exact u, z⟩
        have m1 := uf_mono (D := D) (S := S) (m := m) (n := l + d + 1) (12 - (l + d + 1))
        rw [show l + d + 1 + (12 - (l + d + 1)) = 12 by omega] at m1
        omega
    · have := uf_up (D := D) (S := S) (m := m) (n := l + d) (12 - (l + d)) fun k a b z => by unfold inW at z; rw [nl] at z; omega
      rw [show l + d + (12 - (l + d)) = 12 by omega] at this
      rw [this]; exact b1
  · rintro l' g ⟨rfl, b1, rfl⟩
    refine t_As_isFull_7 (k_mem hm) (brT ((iN_lt (a := 12) (by omega) (by omega)).mpr (by omega)) (h1 ?_))
    rw [show l + (12 - l) = 12 by omega] at b1
    exact b1
theorem r_isFull {Q : Int32 → Hp → Prop} {m : Nat} (w : wfC D) (ws : wfS D S) (cu : cur f o0 D) (h : rM f S) (hm : m < 7) (h1 : uf D S m 12 = 0 → Q 1 f) (h0 : ¬ uf D S m 12 = 0 → Q 0 f) : CI L xs xm_Mo_isFull [.ref 400, .int (iN m)] f Q := by
  obtain ⟨-, -, ⟨l, hl, el⟩, -⟩ := ws.1 m hm
  have nl : nb (S 2 m 0) = l := by rw [el, nb_iN (by omega)]
  refine t_Mo_isFull_0 ?_
  refine for0 12 (fun k l' g => l' = [.ref 400, .int (iN m), .int (iN (if uf D S m k = 0 then 1 else 0)), .int (iN (k + 1))] ∧ g = f) ⟨rfl, rfl⟩ ?_ ?_
  · rintro k l' g hk ⟨rfl, rfl⟩ k2
    refine t_Mo_isFull_4 (brT ((iN_lt (b := 13) (by omega) (by omega)).mpr (by omega)) ?_)
    rw [iN_inc]
    by_cases z : uf D S m k = 0
    · rw [if_pos z]
      refine brF (by decide) (r_within w cu h hm (by omega) el hl (fun u => br1 (r_at ⟨13 * m + (k + 1), rfl, by omega, ?_⟩)) fun u => br0 (k2 _ _ ⟨?_, rfl⟩))
      · rw [show g 414 (13 * m + (k + 1)) = S 8 m (k + 1) from h.a (j := 0) hm (by omega) (by omega) (by omega)]
        refine ⟨fun y => k2 _ _ ⟨?_, rfl⟩, fun y => k2 _ _ ⟨?_, rfl⟩⟩
        · rw [uf_p ⟨by unfold inW; rw [nl]; exact u, y⟩, if_neg (by omega)]; rfl
        · rw [uf_n (fun v => y v.2), if_pos z]; rfl
      · rw [uf_n (fun v => u (by have := v.1; unfold inW at this; rw [nl] at this; exact this)), if_pos z]; rfl
    · rw [if_neg z]
      refine brT rfl (k2 _ _ ⟨?_, rfl⟩)
      have := uf_mono (D := D) (S := S) (m := m) (n := k) 1
      rw [if_neg (by omega)]; rfl
  · rintro l' g ⟨rfl, rfl⟩
    refine t_Mo_isFull_4 (brF (by decide) ?_)
    by_cases z : uf D S m 12 = 0
    · rw [if_pos z]; exact ⟨Or.inr rfl, h1 z⟩
    · rw [if_neg z]; exact ⟨Or.inl rfl, h0 z⟩
theorem c_behindO {Q : Int32 → Hp → Prop} (w : wfC D) (h : cA f D S) (kk : Q (iN (beB D S (3 * dF D + 1))) f) : CI L xs xm_As_behindOnes [.ref 75] f Q := by
  have hF := w.1
  refine t_As_behindOnes_0 ?_
  refine for0 (3 * dF D + 1) (fun k l g => l = [.ref 75, .int (iN (beB D S k)), .int (iN k)] ∧ g = f) ⟨rfl, rfl⟩ ?_ ?_
  · rintro k l g hk ⟨rfl, rfl⟩ k2
    refine t_As_behindOnes_4 ?_
    rw [h.2.1, iN_inc, or1 _ _ (by omega)]
    refine brT ((iN_lt (b := _) (by omega) (by omega)).mpr (by omega)) (c_asHon w h (by omega) (fun hh => br1 ⟨k, rfl, by omega, ?_⟩) fun hh => br0 (k2 _ _ ⟨by unfold beB; rw [bN_s, if_neg (fun z => hf hh z.1)], rfl⟩))
    rw [h.s (m := k) (by omega) (by omega), h.s (m := k) (by omega) (by omega)]
    exact ⟨fun z => k2 _ _ ⟨by unfold beB; rw [bN_s, if_pos ⟨hh, z⟩], rfl⟩, fun z => k2 _ _ ⟨by unfold beB; rw [bN_s, if_neg (fun y => z y.2)], rfl⟩⟩
  · rintro l g ⟨rfl, rfl⟩
    refine t_As_behindOnes_4 ?_
    rw [h.2.1]
    exact brF (fun z => absurd ((iN_lt (b := _) (by omega) (by omega)).mp z) (by omega)) kk
theorem c_stuckO {Q : Int32 → Hp → Prop} (w : wfC D) (h : cA f D S) (kk : Q (iN (stB D S (3 * dF D + 1))) f) : CI L xs xm_As_stuckOnes [.ref 75] f Q := by
  have hF := w.1
  refine t_As_stuckOnes_0 ?_
  refine for0 (3 * dF D + 1) (fun k l g => l = [.ref 75, .int (iN (stB D S k)), .int (iN k)] ∧ g = f) ⟨rfl, rfl⟩ ?_ ?_
  · rintro k l g hk ⟨rfl, rfl⟩ k2
    refine t_As_stuckOnes_4 ?_
    rw [h.2.1, iN_inc, or1 _ _ (by omega)]
    refine brT ((iN_lt (b := _) (by omega) (by omega)).mpr (by omega)) (c_asHon w h (by omega) (fun hh => br1 ⟨k, rfl, by omega, ?_⟩) fun hh => br0 (k2 _ _ ⟨by unfold stB; rw [bN_s, if_neg (fun z => hf hh z.1)], rfl⟩))
    rw [h.s (m := k) (by omega) (by omega)]
    exact ⟨fun z => k2 _ _ ⟨by unfold stB; rw [bN_s, if_pos ⟨hh, z⟩], rfl⟩, fun z => k2 _ _ ⟨by unfold stB; rw [bN_s, if_neg (fun y => z y.2)], rfl⟩⟩
  · rintro l g ⟨rfl, rfl⟩
    refine t_As_stuckOnes_4 ?_
    rw [h.2.1]
    exact brF (fun z => absurd ((iN_lt (b := _) (by omega) (by omega)).mp z) (by omega)) kk
theorem c_fullO {Q : Int32 → Hp → Prop} (w : wfC D) (ws : wfS D S) (h : cA f D S) (kk : Q (iN (fuB D S (3 * dF D + 1))) f) : CI L xs xm_As_fullOnes [.ref 75] f Q := by
  have hF := w.1
  refine t_As_fullOnes_0 ?_
  refine for0 (3 * dF D + 1) (fun k l g => l = [.ref 75, .int (iN (fuB D S k)), .int (iN k)] ∧ g = f) ⟨rfl, rfl⟩ ?_ ?_
  · rintro k l g hk ⟨rfl, rfl⟩ k2
    refine t_As_fullOnes_4 ?_
    rw [h.2.1, iN_inc, or1 _ _ (by omega)]
    refine brT ((iN_lt (b := _) (by omega) (by omega)).mpr (by omega)) (c_asHon w h (by omega) (fun hh => br1 ⟨k, rfl, by omega, ?_⟩) fun hh => br0 (k2 _ _ ⟨by unfold fuB; rw [bN_s, if_neg (fun z => hf hh z.1)], rfl⟩))
    exact c_isFull w ws h (by omega) (fun z => br1 (k2 _ _ ⟨by unfold fuB; rw [bN_s, if_pos ⟨hh, z⟩], rfl⟩)) fun z => br0 (k2 _ _ ⟨by unfold fuB; rw [bN_s, if_neg (fun y => z y.2)], rfl⟩)
  · rintro l g ⟨rfl, rfl⟩
    refine t_As_fullOnes_4 ?_
    rw [h.2.1]
    exact brF (fun z => absurd ((iN_lt (b := _) (by omega) (by omega)).mp z) (by omega)) kk
theorem r_honestBy {Q : Int32 → Hp → Prop} {b : Int32} (w : wfC D) (ws : wfS D S) (cu : cur f o0 D) (h : rM f S) (kk : Q (iN (if b = 0 then beB D S (3 * dF D + 1) else if b = 1 then stB D S (3 * dF D + 1) else fuB D S (3 * dF D + 1))) f) : CI L xs xm_Mo_honestBy [.ref 400, .int b] f Q := by
  have hF := w.1
  refine t_Mo_honestBy_0 ?_
  refine for0 (3 * dF D + 1) (fun k l g => l = [.ref 400, .int b, .int (iN (if b = 0 then beB D S k else if b = 1 then stB D S k else fuB D S k)), .int (iN k)] ∧ g = f) ⟨by unfold beB stB fuB bN; rw [ite_self, ite_self]; rfl, rfl⟩ ?_ ?_
  · rintro k l g hk ⟨rfl, rfl⟩ k2
    refine t_Mo_honestBy_4 ?_
    rw [cu.2.2.1, iN_inc, or1 _ _ (by omega), or0]
    refine brT ((iN_lt (b := _) (by omega) (by omega)).mpr (by omega)) (r_liar w cu hk (fun hh => br0 ⟨fun b0 => ?_, fun b0 => ⟨fun b1 => ?_, fun b1 => ?_⟩⟩) fun hh => br1 (k2 _ _ ⟨?_, rfl⟩))
    · rw [if_pos b0] at k2 ⊢
      refine ⟨k, rfl, by omega, ?_⟩
      rw [show g 409 k = S 3 k 0 from h.s (j := 3) (by omega) (by omega), show g 408 k = S 2 k 0 from h.s (j := 2) (by omega) (by omega)]
      exact ⟨fun z => k2 _ _ ⟨by unfold beB; rw [bN_s, if_pos ⟨hh, z⟩], rfl⟩, fun z => k2 _ _ ⟨by unfold beB; rw [bN_s, if_neg (fun y => z y.2)], rfl⟩⟩
    · rw [if_neg b0, if_pos b1] at k2 ⊢
      refine ⟨k, rfl, by omega, ?_⟩
      rw [show g 407 k = S 1 k 0 from h.s (j := 1) (by omega) (by omega)]
      exact ⟨fun z => k2 _ _ ⟨by unfold stB; rw [bN_s, if_pos ⟨hh, z⟩], rfl⟩, fun z => k2 _ _ ⟨by unfold stB; rw [bN_s, if_neg (fun y => z y.2)], rfl⟩⟩
    · rw [if_neg b0, if_neg b1] at k2 ⊢
      exact r_isFull w ws cu h (by omega) (fun z => br1 (k2 _ _ ⟨by unfold fuB; rw [bN_s, if_pos ⟨hh, z⟩], rfl⟩)) fun z => br0 (k2 _ _ ⟨by unfold fuB; rw [bN_s, if_neg (fun y => z y.2)], rfl⟩)
    · have q1 : beB D S (k + 1) = beB D S k := by unfold beB; rw [bN_s, if_neg (fun z => hf hh z.1)]
      have q2 : stB D S (k + 1) = stB D S k := by unfold stB; rw [bN_s, if_neg (fun z => hf hh z.1)]
      have q3 : fuB D S (k + 1) = fuB D S k := by unfold fuB; rw [bN_s, if_neg (fun z => hf hh z.1)]
      rw [q1, q2, q3]
  · rintro l g ⟨rfl, rfl⟩
    refine t_Mo_honestBy_4 ?_
    rw [cu.2.2.1]
    exact brF (fun z => absurd ((iN_lt (b := _) (by omega) (by omega)).mp z) (by omega)) kk
theorem c_madeV {Q : Int32 → Hp → Prop} (ws : wfS D S) (h : cA f D S) (kk : Q (iN (vwB S 10)) f) : CI L xs xm_As_madeViews [.ref 75] f Q := by
  refine t_As_madeViews_0 ?_
  have v1 : vwB S 1 = 0 := by unfold vwB; rw [bN_s, if_neg (fun z => z ws.2.2.2.2.2.2.1)]; rfl
  refine for0 9 (fun k l g => l = [.ref 75, .int (iN (vwB S (k + 1))), .int (iN (k + 1))] ∧ g = f) ⟨by rw [v1]; rfl, rfl⟩ ?_ ?_
  · rintro k l g hk ⟨rfl, rfl⟩ k2
    refine t_As_madeViews_4 (brF (fun z => absurd ((iN_lt (a := 9) (by omega) (by omega)).mp z) (by omega)) ⟨k + 1, rfl, by omega, ?_⟩)
    rw [iN_inc, or1 _ _ (by omega), (h.2.2.2.2 (k + 1) (by omega)).1]
    exact ⟨fun z => k2 _ _ ⟨by unfold vwB; rw [bN_s _ (k + 1), if_neg (fun y => y z)], rfl⟩, fun z => k2 _ _ ⟨by unfold vwB; rw [bN_s _ (k + 1), if_pos z], rfl⟩⟩
  · rintro l g ⟨rfl, rfl⟩
    exact t_As_madeViews_4 (brT (by decide) kk)
theorem r_viewsMade {Q : Int32 → Hp → Prop} (h : rM f S) (kk : Q (iN (vwB S 10)) f) : CI L xs xm_Mo_viewsMade [.ref 400] f Q := by
  refine t_Mo_viewsMade_0 ?_
  refine for0 10 (fun k l g => l = [.ref 400, .int (iN (vwB S k)), .int (iN k)] ∧ g = f) ⟨rfl, rfl⟩ ?_ ?_
  · rintro k l g hk ⟨rfl, rfl⟩ k2
    refine t_Mo_viewsMade_4 (brT ((iN_lt (b := 10) (by omega) (by omega)).mpr (by omega)) ⟨k, rfl, by omega, ?_⟩)
    rw [iN_inc, or1 _ _ (by omega), or0, (h.2.2.2.2.2.2 k (by omega)).1]
    exact ⟨fun z => k2 _ _ ⟨by unfold vwB; rw [bN_s, if_neg (fun y => y z)], rfl⟩, fun z => k2 _ _ ⟨by unfold vwB; rw [bN_s, if_pos z], rfl⟩⟩
  · rintro l g ⟨rfl, rfl⟩
    exact t_Mo_viewsMade_4 (brF (by decide) kk)
theorem ap_p {s m n : Nat} (h : hon D n = true ∧ S 11 n s = S 11 m s ∧ S 12 n s = S 12 m s) : ap D S s m (n + 1) = ap D S s m n + 1 := cnt_pos (p := fun k => hon D k = true ∧ S 11 k s = S 11 m s ∧ S 12 k s = S 12 m s) h
theorem ap_n {s m n : Nat} (h : ¬ (hon D n = true ∧ S 11 n s = S 11 m s ∧ S 12 n s = S 12 m s)) : ap D S s m (n + 1) = ap D S s m n := cnt_neg (p := fun k => hon D k = true ∧ S 11 k s = S 11 m s ∧ S 12 k s = S 12 m s) h
theorem cer_p {s n : Nat} (h : hon D n = true ∧ ¬ S 11 n s = -1 ∧ dF D < ap D S s n (3 * dF D + 1)) : cer D S s (n + 1) = cer D S s n + 1 := cnt_pos (p := fun m => hon D m = true ∧ ¬ S 11 m s = -1 ∧ dF D < ap D S s m (3 * dF D + 1)) h
theorem cer_n {s n : Nat} (h : ¬ (hon D n = true ∧ ¬ S 11 n s = -1 ∧ dF D < ap D S s n (3 * dF D + 1))) : cer D S s (n + 1) = cer D S s n := cnt_neg (p := fun m => hon D m = true ∧ ¬ S 11 m s = -1 ∧ dF D < ap D S s m (3 * dF D + 1)) h
theorem ap_le {s m n : Nat} : ap D S s m n ≤ n := cntW_le _ _
theorem ceB_1 : ceB D S 1 = 0 := by unfold ceB; rw [bN_s, if_neg (fun z => absurd z.1 (by omega))]; rfl
theorem ceB_s {k : Nat} (h : 1 ≤ k) : ceB D S (k + 1) = if 0 < cer D S k (3 * dF D + 1) then ceB D S k ||| (1 <<< k) else ceB D S k := by
  unfold ceB
  rw [bN_s]
  by_cases z : 0 < cer D S k (3 * dF D + 1)
  · rw [if_pos ⟨h, z⟩, if_pos z]
  · rw [if_neg (fun y => z y.2), if_neg z]
/-- the bits so far, with this place's where one was found -/
def ceX (D : CD) (S : ST) (s n : Nat) : Nat := if 0 < cer D S s n then ceB D S s ||| (1 <<< s) else ceB D S s
theorem ceX_0 {s : Nat} : ceX D S s 0 = ceB D S s := if_neg (by unfold cer; exact Nat.lt_irrefl 0)
theorem ceX_p {s n : Nat} (h : hon D n = true ∧ ¬ S 11 n s = -1 ∧ dF D < ap D S s n (3 * dF D + 1)) : ceX D S s (n + 1) = ceX D S s n ||| (1 <<< s) := by
  unfold ceX
  rw [cer_p h, if_pos (show 0 < cer D S s n + 1 by omega)]
  split
  · rw [Nat.or_assoc, Nat.or_self]
  · rfl
theorem ceX_n {s n : Nat} (h : ¬ (hon D n = true ∧ ¬ S 11 n s = -1 ∧ dF D < ap D S s n (3 * dF D + 1))) : ceX D S s (n + 1) = ceX D S s n := by
  unfold ceX
  rw [cer_n h]
theorem c_alikePr {Q : Int32 → Hp → Prop} {m s : Nat} (w : wfC D) (h : cA f D S) (hm : m < 3 * dF D + 1) (hs : 1 ≤ s ∧ s ≤ 12) (h1 : hon D m = true → ¬ S 11 m s = -1 → Q (iN (ap D S s m (3 * dF D + 1))) f) (h0 : ¬ (hon D m = true ∧ ¬ S 11 m s = -1) → Q 0 f) : CI L xs xm_As_alikeProofs [.ref 75, .int (iN m), .int (iN s)] f Q := by
  have hF := w.1
  have hm7 : m < 7 := by omega
  refine t_As_alikeProofs_0 ⟨m, rfl, hm7, c_asHon w h (by omega) (fun hh => br1 ⟨s, rfl, by omega, ?_⟩) fun hh => br0 (h0 fun z => hf hh z.1)⟩
  rw [h.a (j := 3) hm7 (by omega) hs.1 hs.2]
  refine ⟨fun z => h0 fun y => y.2 z, fun z => ?_⟩
  refine for0 (3 * dF D + 1) (fun k l g => ∃ y : Value, (y.category != 2) = true ∧ l = [.ref 75, .int (iN m), .int (iN s), .ref (93 + 11 * m), .int (iN (ap D S s m k)), .int (iN k), y] ∧ g = f) ⟨.retAddr 0, rfl, rfl, rfl⟩ ?_ ?_
  · rintro k l g hk ⟨y, hy, rfl, rfl⟩ k2
    refine t_As_alikeProofs_33 (k_mem hm7) hy ?_
    rw [h.2.1, iN_inc, iN_inc]
    refine brT ((iN_lt (b := _) (by omega) (by omega)).mpr (by omega)) ⟨k, rfl, by omega, c_asHon w h (by omega) (fun h2 => br1 ⟨s, rfl, by omega, ?_⟩) fun h2 => br0 (k2 _ _ ⟨.ref (93 + 11 * k), rfl, by rw [ap_n (fun u => hf h2 u.1)], rfl⟩)⟩
    rw [h.a (m := k) (j := 3) (by omega) (by omega) hs.1 hs.2, h.a (m := k) (j := 4) (by omega) (by omega) hs.1 hs.2, h.a (m := m) (j := 3) hm7 (by omega) hs.1 hs.2, h.a (m := m) (j := 4) hm7 (by omega) hs.1 hs.2]
    exact ⟨fun u => ⟨fun u2 => k2 _ _ ⟨.ref (93 + 11 * k), rfl, by rw [ap_p ⟨h2, u, u2⟩], rfl⟩, fun u2 => k2 _ _ ⟨.ref (93 + 11 * k), rfl, by rw [ap_n (fun v => u2 v.2.2)], rfl⟩⟩, fun u => k2 _ _ ⟨.ref (93 + 11 * k), rfl, by rw [ap_n (fun v => u v.2.1)], rfl⟩⟩
  · rintro l g ⟨y, hy, rfl, rfl⟩
    refine t_As_alikeProofs_33 (k_mem hm7) hy ?_
    rw [h.2.1]
    exact brF (fun z => absurd ((iN_lt (b := _) (by omega) (by omega)).mp z) (by omega)) (h1 hh z)
theorem c_certain {Q : Int32 → Hp → Prop} (w : wfC D) (h : cA f D S) (kk : Q (iN (ceB D S 13)) f) : CI L xs xm_As_certainPlaces [.ref 75] f Q := by
  have hF := w.1
  refine t_As_certainPlaces_0 ?_
  refine for0 12 (fun k l g => ∃ y : Value, (y.category != 2) = true ∧ l = [.ref 75, .int (iN (ceB D S (k + 1))), .int (iN (k + 1)), y] ∧ g = f) ⟨.retAddr 0, rfl, by rw [ceB_1]; rfl, rfl⟩ ?_ ?_
  · rintro k l g hk ⟨y, hy, rfl, rfl⟩ k2
    refine t_As_certainPlaces_4 hy (brF (fun z => absurd ((iN_lt (a := 12) (by omega) (by omega)).mp z) (by omega)) ?_)
    refine for0 (3 * dF D + 1) (fun m l' g' => l' = [.ref 75, .int (iN (ceX D S (k + 1) m)), .int (iN (k + 1)), .int (iN m)] ∧ g' = g) ⟨by rw [ceX_0]; rfl, rfl⟩ ?_ ?_
    · rintro m l' g' hm ⟨rfl, rfl⟩ k3
      have al := ap_le (D := D) (S := S) (s := k + 1) (m := m) (n := 3 * dF D + 1)
      refine t_As_certainPlaces_12 ?_
      rw [h.2.1, iN_inc, or1 _ _ (by omega)]
      refine brT ((iN_lt (b := _) (by omega) (by omega)).mpr (by omega)) (c_alikePr w h hm (by omega) (fun hh z => ?_) fun z => ?_)
      · rw [h.1.1, iN_lt (by omega) (by omega)]
        exact ⟨fun u => k3 _ _ ⟨by rw [ceX_p ⟨hh, z, u⟩], rfl⟩, fun u => k3 _ _ ⟨by rw [ceX_n (fun v => u v.2.2)], rfl⟩⟩
      · rw [h.1.1]
        exact brF (fun z => absurd ((iN_lt (b := 0) (by omega) (by omega)).mp z) (by omega)) (k3 _ _ ⟨by rw [ceX_n (fun v => z ⟨v.1, v.2.1⟩)], rfl⟩)
    · rintro l' g' ⟨rfl, rfl⟩
      refine t_As_certainPlaces_12 ?_
      rw [h.2.1]
      refine brF (fun z => absurd ((iN_lt (b := _) (by omega) (by omega)).mp z) (by omega)) ?_
      rw [iN_inc]
      exact k2 _ _ ⟨.int (iN (3 * dF D + 1)), rfl, by rw [ceB_s (k := k + 1) (by omega)]; rfl, rfl⟩
  · rintro l g ⟨y, hy, rfl, rfl⟩
    exact t_As_certainPlaces_4 hy (brT (by decide) kk)
theorem r_certain {Q : Int32 → Hp → Prop} (w : wfC D) (cu : cur f o0 D) (h : rM f S) (kk : Q (iN (ceB D S 13)) f) : CI L xs xm_Mo_certainOf [.ref 400] f Q := by
  have hF := w.1
  refine t_Mo_certainOf_0 ?_
  refine for0 12 (fun k l g => ∃ y y2 y3 : Value, (y.category != 2) = true ∧ (y2.category != 2) = true ∧ (y3.category != 2) = true ∧ l = [.ref 400, .int (iN (ceB D S (k + 1))), .int (iN (k + 1)), y, y2, y3] ∧ g = f) ⟨.retAddr 0, .retAddr 0, .retAddr 0, rfl, rfl, rfl, by rw [ceB_1]; rfl, rfl⟩ ?_ ?_
  · rintro k l g hk ⟨y, y2, y3, hy, hy2, hy3, rfl, rfl⟩ k2
    refine t_Mo_certainOf_4 hy hy2 hy3 (brT ((iN_lt (b := 13) (by omega) (by omega)).mpr (by omega)) ?_)
    have v17 : ∀ m, m < 7 → g 417 (13 * m + (k + 1)) = S 11 m (k + 1) := fun m hm => h.a (m := m) (j := 3) hm (by omega) (by omega) (by omega)
    have v18 : ∀ m, m < 7 → g 418 (13 * m + (k + 1)) = S 12 m (k + 1) := fun m hm => h.a (m := m) (j := 4) hm (by omega) (by omega) (by omega)
    refine for0 (3 * dF D + 1) (fun m l' g' => ∃ y2 y3 : Value, (y2.category != 2) = true ∧ (y3.category != 2) = true ∧ l' = [.ref 400, .int (iN (ceX D S (k + 1) m)), .int (iN (k + 1)), .int (iN m), y2, y3] ∧ g' = g) ⟨y2, y3, hy2, hy3, by rw [ceX_0]; rfl, rfl⟩ ?_ ?_
    · rintro m l' g' hm ⟨y2, y3, hy2, hy3, rfl, rfl⟩ k3
      have hm7 : m < 7 := by omega
      refine t_Mo_certainOf_12 hy2 hy3 ?_
      rw [cu.2.2.1, iN_inc]
      refine brT ((iN_lt (b := _) (by omega) (by omega)).mpr (by omega)) (r_liar w cu hm (fun hh => br0 (r_at ⟨13 * m + (k + 1), rfl, by omega, ?_⟩)) fun hh => br1 (k3 _ _ ⟨y2, y3, hy2, hy3, by rw [ceX_n (fun v => hf hh v.1)], rfl⟩))
      rw [v17 m hm7]
      refine ⟨fun z => k3 _ _ ⟨y2, y3, hy2, hy3, by rw [ceX_n (fun v => v.2.1 z)], rfl⟩, fun z => ?_⟩
      refine for0 (3 * dF D + 1) (fun j l'' g'' => l'' = [.ref 400, .int (iN (ceX D S (k + 1) m)), .int (iN (k + 1)), .int (iN m), .int (iN (ap D S (k + 1) m j)), .int (iN j)] ∧ g'' = g') ⟨rfl, rfl⟩ ?_ ?_
      · rintro j l'' g'' hj ⟨rfl, rfl⟩ k4
        have hj7 : j < 7 := by omega
        refine t_Mo_certainOf_51 ?_
        rw [cu.2.2.1, iN_inc, iN_inc, show iN (ap D S (k + 1) m j) + 0 = iN (ap D S (k + 1) m j) from by simp]
        refine brT ((iN_lt (b := _) (by omega) (by omega)).mpr (by omega)) (r_liar w cu hj (fun h2 => br0 (r_at ⟨13 * j + (k + 1), rfl, by omega, r_at ⟨13 * m + (k + 1), rfl, by omega, ?_⟩⟩)) fun h2 => br1 (k4 _ _ ⟨by rw [ap_n (fun v => hf h2 v.1)], rfl⟩))
        rw [v17 m hm7, v17 j hj7]
        refine ⟨fun u => r_at ⟨13 * j + (k + 1), rfl, by omega, r_at ⟨13 * m + (k + 1), rfl, by omega, ?_⟩⟩, fun u => k4 _ _ ⟨by rw [ap_n (fun v => u v.2.1)], rfl⟩⟩
        rw [v18 m hm7, v18 j hj7]
        exact ⟨fun u2 => k4 _ _ ⟨by rw [ap_p ⟨h2, u, u2⟩], rfl⟩, fun u2 => k4 _ _ ⟨by rw [ap_n (fun v => u2 v.2.2)], rfl⟩⟩
      · rintro l'' g'' ⟨rfl, rfl⟩
        have al := ap_le (D := D) (S := S) (s := k + 1) (m := m) (n := 3 * dF D + 1)
        refine t_Mo_certainOf_51 ?_
        rw [cu.2.2.1, cu.2.1, or1 _ _ (by omega), or0]
        refine brF (fun z => absurd ((iN_lt (b := _) (by omega) (by omega)).mp z) (by omega)) ?_
        rw [iN_lt (by omega) (by omega), iN_inc]
        exact ⟨fun u => k3 _ _ ⟨.int (iN (ap D S (k + 1) m (3 * dF D + 1))), .int (iN (3 * dF D + 1)), rfl, rfl, by rw [ceX_p ⟨hh, z, u⟩], rfl⟩, fun u => k3 _ _ ⟨.int (iN (ap D S (k + 1) m (3 * dF D + 1))), .int (iN (3 * dF D + 1)), rfl, rfl, by rw [ceX_n (fun v => u v.2.2)], rfl⟩⟩
    · rintro l' g' ⟨y2, y3, hy2, hy3, rfl, rfl⟩
      refine t_Mo_certainOf_12 hy2 hy3 ?_
      rw [cu.2.2.1]
      refine brF (fun z => absurd ((iN_lt (b := _) (by omega) (by omega)).mp z) (by omega)) ?_
      rw [iN_inc]
      exact k2 _ _ ⟨.int (iN (3 * dF D + 1)), y2, y3, rfl, hy2, hy3, by rw [ceB_s (k := k + 1) (by omega)]; rfl, rfl⟩
  · rintro l g ⟨y, y2, y3, hy, hy2, hy3, rfl, rfl⟩
    exact t_Mo_certainOf_4 hy hy2 hy3 (brF (by decide) kk)
theorem c_wordsA {Q : Int32 → Hp → Prop} (w : wfC D) (ws : wfS D S) (h : cA f D S) (kk : Q (iN (twS D S (3 * dF D + 1))) f) : CI L xs xm_As_words [.ref 75] f Q := by
  have hF := w.1
  refine t_As_words_0 ?_
  refine for0 (3 * dF D + 1) (fun k l g => ∃ y : Value, (y.category != 2) = true ∧ l = [.ref 75, .int (iN (twS D S k)), .int (iN k), y] ∧ g = f) ⟨.retAddr 0, rfl, rfl, rfl⟩ ?_ ?_
  · rintro k l g hk ⟨y, hy, rfl, rfl⟩ k2
    refine t_As_words_4 hy ?_
    rw [h.2.1]
    refine brT ((iN_lt (b := _) (by omega) (by omega)).mpr (by omega)) ?_
    cases hh : hon D k
    · refine t_As_words_14 (brF (by decide) (c_asHon w h (by omega) (fun z => absurd z (hf hh)) fun _ => br0 ?_))
      rw [iN_inc]
      have e : twS D S (k + 1) = twS D S k := by unfold twS; rw [sumW_s, if_neg (hf hh)]; rfl
      exact k2 _ _ ⟨.int 1, rfl, by rw [e], rfl⟩
    · refine for0 12 (fun s l' g' => l' = [.ref 75, .int (iN (twS D S k + swS S k s)), .int (iN k), .int (iN (s + 1))] ∧ g' = g) ⟨by unfold swS sumW; rw [Nat.add_zero]; rfl, rfl⟩ ?_ ?_
      · rintro s l' g' hs ⟨rfl, rfl⟩ k3
        obtain ⟨-, ⟨b, hb, eb⟩, ⟨c, hc, ec⟩, -⟩ := ws.2.1 k (s + 1) (by omega) (by omega) (by omega)
        refine t_As_words_14 (brF (fun z => absurd ((iN_lt (a := 12) (by omega) (by omega)).mp z) (by omega)) (c_asHon w h (by omega) (fun _ => br1 ⟨k, rfl, by omega, s + 1, rfl, by omega, ?_⟩) fun z => absurd hh (hf z)))
        rw [h.a (m := k) (j := 1) (by omega) (by omega) (by omega) (by omega), show S (8 + 1) k (s + 1) = iN b from eb]
        refine c_bitCount hb ?_
        rw [h.a (m := k) (j := 2) (by omega) (by omega) (by omega) (by omega), show S (8 + 2) k (s + 1) = iN c from ec]
        refine c_bitCount hc ?_
        rw [iN_add, iN_add, iN_inc]
        refine k3 _ _ ⟨?_, rfl⟩
        unfold swS
        rw [sumW_s, eb, ec, nb_iN (n := b) (by omega), nb_iN (n := c) (by omega), Nat.add_assoc, Nat.add_assoc]
      · rintro l' g' ⟨rfl, rfl⟩
        refine t_As_words_14 (brT (by decide) ?_)
        rw [iN_inc]
        exact k2 _ _ ⟨.int (iN 13), rfl, by unfold twS; rw [sumW_s, if_pos hh], rfl⟩
  · rintro l g ⟨y, hy, rfl, rfl⟩
    refine t_As_words_4 hy ?_
    rw [h.2.1]
    exact brF (fun z => absurd ((iN_lt (b := _) (by omega) (by omega)).mp z) (by omega)) kk
theorem r_wordsOf {Q : Int32 → Hp → Prop} (w : wfC D) (ws : wfS D S) (cu : cur f o0 D) (h : rM f S) (kk : Q (iN (twS D S (3 * dF D + 1))) f) : CI L xs xm_Mo_wordsOf [.ref 400] f Q := by
  have hF := w.1
  refine t_Mo_wordsOf_0 ?_
  refine for0 (3 * dF D + 1) (fun k l g => ∃ y : Value, (y.category != 2) = true ∧ l = [.ref 400, .int (iN (twS D S k)), .int (iN k), y] ∧ g = f) ⟨.retAddr 0, rfl, rfl, rfl⟩ ?_ ?_
  · rintro k l g hk ⟨y, hy, rfl, rfl⟩ k2
    refine t_Mo_wordsOf_4 hy ?_
    rw [cu.2.2.1]
    refine brT ((iN_lt (b := _) (by omega) (by omega)).mpr (by omega)) ?_
    refine for0 12 (fun s l' g' => l' = [.ref 400, .int (iN (twS D S k + if hon D k = true then swS S k s else 0)), .int (iN k), .int (iN (s + 1))] ∧ g' = g) ⟨by unfold swS sumW; rw [ite_self, Nat.add_zero]; rfl, rfl⟩ ?_ ?_
    · rintro s l' g' hs ⟨rfl, rfl⟩ k3
      obtain ⟨-, ⟨b, hb, eb⟩, ⟨c, hc, ec⟩, e8, -⟩ := ws.2.1 k (s + 1) (by omega) (by omega) (by omega)
      refine t_Mo_wordsOf_14 (brT ((iN_lt (b := 13) (by omega) (by omega)).mpr (by omega)) ?_)
      rw [iN_inc]
      have x0 : ∀ z : Int32, z + 0 = z := fun z => by simp
      refine r_liar w cu hk (fun hh => br0 (r_at ⟨13 * k + (s + 1), rfl, by omega, ?_⟩)) fun hh => br1 ?_
      · rw [if_pos hh] at k3 ⊢
        rw [show g' 414 (13 * k + (s + 1)) = S 8 k (s + 1) from h.a (m := k) (j := 0) (by omega) (by omega) (by omega) (by omega), x0]
        refine ⟨fun z => k3 _ _ ⟨?_, rfl⟩, fun z => r_at ⟨13 * k + (s + 1), rfl, by omega, ?_⟩⟩
        · have b0 : bcn (nb 0) = 0 := by decide
          have e : swS S k (s + 1) = swS S k s := by unfold swS; rw [sumW_s, (e8 z).1, (e8 z).2, b0]; rfl
          rw [e]
        · rw [show g' 415 (13 * k + (s + 1)) = iN b from (h.a (m := k) (j := 1) (by omega) (by omega) (by omega) (by omega)).trans eb]
          refine r_bitsOf hb (r_at ⟨13 * k + (s + 1), rfl, by omega, ?_⟩)
          rw [show g' 416 (13 * k + (s + 1)) = iN c from (h.a (m := k) (j := 2) (by omega) (by omega) (by omega) (by omega)).trans ec]
          refine r_bitsOf hc ?_
          rw [iN_add, iN_add]
          refine k3 _ _ ⟨?_, rfl⟩
          unfold swS
          rw [sumW_s, eb, ec, nb_iN (n := b) (by omega), nb_iN (n := c) (by omega), Nat.add_assoc]
      · rw [if_neg (hf hh)] at k3 ⊢
        rw [x0]
        exact k3 _ _ ⟨rfl, rfl⟩
    · rintro l' g' ⟨rfl, rfl⟩
      refine t_Mo_wordsOf_14 (brF (by decide) ?_)
      rw [iN_inc]
      exact k2 _ _ ⟨.int (iN 13), rfl, by unfold twS; rw [sumW_s], rfl⟩
  · rintro l g ⟨y, hy, rfl, rfl⟩
    refine t_Mo_wordsOf_4 hy ?_
    rw [cu.2.2.1]
    exact brF (fun z => absurd ((iN_lt (b := _) (by omega) (by omega)).mp z) (by omega)) kk
theorem op_after (i : Inv f) (x y z : Int32) : CI L xs xm_TP_after [.ref 0, .int x, .int y, .int z] f (fun v g => CI L xs xm_Mo_after [.ref 400, .int x, .int y, .int z] g (fun w h => w = v ∧ Inv h)) := by
  obtain ⟨⟨T, w, c, rt⟩, im⟩ := id i
  refine t_TP_after_0 (c_stop2 w c (fun j r D S hj hr ex ey eD eS wc ws v g nv ca fa => brF nv ?_) fun bad => brT rfl (t_Mo_after_0 (r_twoN w rt bad fun g e => ⟨rfl, i400 i e⟩)))
  subst ex ey
  have rt' := rt.fr (fa 401 (by omega))
  refine ⟨fun p => ?_, fun p0 => ⟨fun p => ?_, fun p1 => ⟨fun p => ?_, fun p2 => ⟨fun p => ?_, fun p3 => ⟨fun p => ?_, fun p4 => ⟨fun p => ?_, fun p5 => ?_⟩⟩⟩⟩⟩⟩
  · subst p
    exact c_behindO wc ca (t_Mo_after_0 (r_stop2 w rt' hj hr eD eS fun g3 o0 ho cu rc hm fm => brT rfl (r_honestBy wc ws cu hm ⟨rfl, i.q fa.c fm.r⟩)))
  · subst p
    exact c_stuckO wc ca (t_Mo_after_0 (r_stop2 w rt' hj hr eD eS fun g3 o0 ho cu rc hm fm => brF p0 (brT rfl (r_honestBy wc ws cu hm ⟨rfl, i.q fa.c fm.r⟩))))
  · exact c_madeV ws ca (t_Mo_after_0 (r_stop2 w rt' hj hr eD eS fun g3 o0 ho cu rc hm fm => brF p0 (brF p1 (brT p (r_viewsMade hm ⟨rfl, i.q fa.c fm.r⟩)))))
  · exact c_certain wc ca (t_Mo_after_0 (r_stop2 w rt' hj hr eD eS fun g3 o0 ho cu rc hm fm => brF p0 (brF p1 (brF p2 (brT p (r_certain wc cu hm ⟨rfl, i.q fa.c fm.r⟩))))))
  · exact c_wordsA wc ws ca (t_Mo_after_0 (r_stop2 w rt' hj hr eD eS fun g3 o0 ho cu rc hm fm => brF p0 (brF p1 (brF p2 (brF p3 (brT p (r_wordsOf wc ws cu hm ⟨rfl, i.q fa.c fm.r⟩)))))))
  · subst p
    exact c_fullO wc ws ca (t_Mo_after_0 (r_stop2 w rt' hj hr eD eS fun g3 o0 ho cu rc hm fm => brF p0 (brF p1 (brF p2 (brF p3 (brF p4 (brT rfl (r_honestBy wc ws cu hm ⟨rfl, i.q fa.c fm.r⟩))))))))
  · exact t_Mo_after_0 (r_stop2 w rt' hj hr eD eS fun g3 o0 ho cu rc hm fm => brF p0 (brF p1 (brF p2 (brF p3 (brF p4 (brF p5 ⟨rfl, i.q fa.c fm.r⟩))))))
end AFTER
