/-! unlike orders -/
def rn (D : CD) (S : ST) (s o : Nat) : Nat := cntW (fun m => hon D m = true ∧ S 13 m s = iN o) (3 * dF D + 1)
def ds (D : CD) (S : ST) (s n : Nat) : Nat := cntW (fun o => 0 < rn D S s o) n
def al (D : CD) (S : ST) (s n : Nat) : Nat := cntW (fun o => dF D < rn D S s o) n
def unB (D : CD) (S : ST) (n : Nat) : Nat := bN (fun s => 1 ≤ s ∧ 1 < ds D S s 11) n
def alB (D : CD) (S : ST) (n : Nat) : Nat := bN (fun s => 1 ≤ s ∧ 0 < al D S s 11) n
def mxR (D : CD) (S : ST) : Nat → Nat
  | 0 => 0
  | k + 1 => if hon D k = true then max (mxR D S k) (nb (S 3 k 0)) else mxR D S k
def mnR (D : CD) (S : ST) : Nat → Nat
  | 0 => 13
  | k + 1 => if hon D k = true then min (mnR D S k) (nb (S 3 k 0)) else mnR D S k
theorem mxR_s (D : CD) (S : ST) (k : Nat) : mxR D S (k + 1) = if hon D k = true then max (mxR D S k) (nb (S 3 k 0)) else mxR D S k := rfl
theorem mnR_s (D : CD) (S : ST) (k : Nat) : mnR D S (k + 1) = if hon D k = true then min (mnR D S k) (nb (S 3 k 0)) else mnR D S k := rfl
section UNLIKE
variable {L : Nat} {xs : Nat → Int32} {f g : Hp} {D : CD} {S S' : ST} {R : RD} {T : TD} {o0 : Nat}
theorem unB_1 : unB D S 1 = 0 := by unfold unB; rw [bN_s, if_neg (fun z => absurd z.1 (by omega))]; rfl
theorem alB_1 : alB D S 1 = 0 := by unfold alB; rw [bN_s, if_neg (fun z => absurd z.1 (by omega))]; rfl
theorem unB_s {k : Nat} (h : 1 ≤ k) : unB D S (k + 1) = if 1 < ds D S k 11 then unB D S k ||| (1 <<< k) else unB D S k := by
  unfold unB
  rw [bN_s]
  by_cases z : 1 < ds D S k 11
  · rw [if_pos ⟨h, z⟩, if_pos z]
  · rw [if_neg (fun y => z y.2), if_neg z]
theorem alB_s {k : Nat} (h : 1 ≤ k) : alB D S (k + 1) = if 0 < al D S k 11 then alB D S k ||| (1 <<< k) else alB D S k := by
  unfold alB
  rw [bN_s]
  by_cases z : 0 < al D S k 11
  · rw [if_pos ⟨h, z⟩, if_pos z]
  · rw [if_neg (fun y => z y.2), if_neg z]
theorem rn_le (w : wfC D) {s o : Nat} : rn D S s o ≤ 7 := by
  have := w.1
  unfold rn
  exact Nat.le_trans (cntW_le _ _) (by omega)
theorem ds_le {s n : Nat} : ds D S s n ≤ n := cntW_le _ _
theorem al_le {s n : Nat} : al D S s n ≤ n := cntW_le _ _
theorem ds_p {s n : Nat} (h : 0 < rn D S s n) : ds D S s (n + 1) = ds D S s n + 1 := cnt_pos (p := fun o => 0 < rn D S s o) h
theorem ds_n {s n : Nat} (h : ¬ 0 < rn D S s n) : ds D S s (n + 1) = ds D S s n := cnt_neg (p := fun o => 0 < rn D S s o) h
theorem al_p {s n : Nat} (h : dF D < rn D S s n) : al D S s (n + 1) = al D S s n + 1 := cnt_pos (p := fun o => dF D < rn D S s o) h
theorem al_n {s n : Nat} (h : ¬ dF D < rn D S s n) : al D S s (n + 1) = al D S s n := cnt_neg (p := fun o => dF D < rn D S s o) h
theorem c_runners {Q : Int32 → Hp → Prop} {s o : Nat} (w : wfC D) (h : cA f D S) (hs : 1 ≤ s ∧ s ≤ 12) (kk : Q (iN (rn D S s o)) f) : CI L xs xm_As_runners [.ref 75, .int (iN s), .int (iN o)] f Q := by
  have hF := w.1
  refine t_As_runners_0 ?_
  refine for0 (3 * dF D + 1) (fun k l g => l = [.ref 75, .int (iN s), .int (iN o), .int (iN (cntW (fun m => hon D m = true ∧ S 13 m s = iN o) k)), .int (iN k)] ∧ g = f) ⟨rfl, rfl⟩ ?_ ?_
  · rintro k l g hk ⟨rfl, rfl⟩ k2
    refine t_As_runners_5 ?_
    rw [h.2.1, iN_inc, iN_inc]
    refine brT ((iN_lt (b := _) (by omega) (by omega)).mpr (by omega)) (c_asHon w h (by omega) (fun hh => br1 ⟨k, rfl, by omega, s, rfl, by omega, ?_⟩) fun hh => br0 (k2 _ _ ⟨?_, rfl⟩))
    · rw [h.a (m := k) (j := 5) (by omega) (by omega) hs.1 hs.2]
      refine ⟨fun z => k2 _ _ ⟨?_, rfl⟩, fun z => k2 _ _ ⟨?_, rfl⟩⟩
      · rw [cnt_pos (p := fun m => hon D m = true ∧ S 13 m s = iN o) ⟨hh, z⟩]
      · rw [cnt_neg (p := fun m => hon D m = true ∧ S 13 m s = iN o) fun y => z y.2]
    · rw [cnt_neg (p := fun m => hon D m = true ∧ S 13 m s = iN o) fun y => hf hh y.1]
  · rintro l g ⟨rfl, rfl⟩
    refine t_As_runners_5 ?_
    rw [h.2.1]
    exact brF (fun z => absurd ((iN_lt (b := _) (by omega) (by omega)).mp z) (by omega)) kk
theorem r_ranSo {Q : Int32 → Hp → Prop} {s o : Nat} (w : wfC D) (cu : cur f o0 D) (h : rM f S) (hs : 1 ≤ s ∧ s ≤ 12) (kk : Q (iN (rn D S s o)) f) : CI L xs xm_Mo_ranSo [.ref 400, .int (iN s), .int (iN o)] f Q := by
  have hF := w.1
  refine t_Mo_ranSo_0 ?_
  refine for0 (3 * dF D + 1) (fun k l g => l = [.ref 400, .int (iN s), .int (iN o), .int (iN (cntW (fun m => hon D m = true ∧ S 13 m s = iN o) k)), .int (iN k)] ∧ g = f) ⟨rfl, rfl⟩ ?_ ?_
  · rintro k l g hk ⟨rfl, rfl⟩ k2
    refine t_Mo_ranSo_5 ?_
    rw [cu.2.2.1, iN_inc, iN_inc, show iN (cntW (fun m => hon D m = true ∧ S 13 m s = iN o) k) + 0 = iN (cntW (fun m => hon D m = true ∧ S 13 m s = iN o) k) from by simp]
    refine brT ((iN_lt (b := _) (by omega) (by omega)).mpr (by omega)) (r_liar w cu hk (fun hh => br0 (r_at ⟨13 * k + s, rfl, by omega, ?_⟩)) fun hh => br1 (k2 _ _ ⟨?_, rfl⟩))
    · rw [show g 419 (13 * k + s) = S 13 k s from h.a (m := k) (j := 5) (by omega) (by omega) hs.1 hs.2]
      refine ⟨fun z => k2 _ _ ⟨?_, rfl⟩, fun z => k2 _ _ ⟨?_, rfl⟩⟩
      · rw [cnt_pos (p := fun m => hon D m = true ∧ S 13 m s = iN o) ⟨hh, z⟩]
      · rw [cnt_neg (p := fun m => hon D m = true ∧ S 13 m s = iN o) fun y => z y.2]
    · rw [cnt_neg (p := fun m => hon D m = true ∧ S 13 m s = iN o) fun y => hf hh y.1]
  · rintro l g ⟨rfl, rfl⟩
    refine t_Mo_ranSo_5 ?_
    rw [cu.2.2.1]
    exact brF (fun z => absurd ((iN_lt (b := _) (by omega) (by omega)).mp z) (by omega)) kk
theorem c_unlikeP {Q : Int32 → Hp → Prop} (w : wfC D) (h : cA f D S) (kk : Q (iN (unB D S 13)) f) : CI L xs xm_As_unlikePlaces [.ref 75] f Q := by
  refine t_As_unlikePlaces_0 ?_
  refine for0 12 (fun k l g => ∃ y y2 : Value, (y.category != 2) = true ∧ (y2.category != 2) = true ∧ l = [.ref 75, .int (iN (unB D S (k + 1))), .int (iN (k + 1)), y, y2] ∧ g = f) ⟨.retAddr 0, .retAddr 0, rfl, rfl, by rw [unB_1]; rfl, rfl⟩ ?_ ?_
  · rintro k l g hk ⟨y, y2, hy, hy2, rfl, rfl⟩ k2
    refine t_As_unlikePlaces_4 hy hy2 (brF (fun z => absurd ((iN_lt (a := 12) (by omega) (by omega)).mp z) (by omega)) ?_)
    refine for0 11 (fun o l' g' => l' = [.ref 75, .int (iN (unB D S (k + 1))), .int (iN (k + 1)), .int (iN (ds D S (k + 1) o)), .int (iN o)] ∧ g' = g) ⟨rfl, rfl⟩ ?_ ?_
    · rintro o l' g' ho ⟨rfl, rfl⟩ k3
      have rl := rn_le w (S := S) (s := k + 1) (o := o)
      refine t_As_unlikePlaces_15 (brF (fun z => absurd ((iN_lt (a := 10) (by omega) (by omega)).mp z) (by omega)) (c_runners w h (by omega) ?_))
      rw [show (0 < iN (rn D S (k + 1) o) ↔ 0 < rn D S (k + 1) o) from iN_lt (a := 0) (by omega) (by omega), iN_inc, iN_inc]
      refine ⟨fun z => k3 _ _ ⟨by rw [ds_p z], rfl⟩, fun z => k3 _ _ ⟨by rw [ds_n z], rfl⟩⟩
    · rintro l' g' ⟨rfl, rfl⟩
      have dl := ds_le (D := D) (S := S) (s := k + 1) (n := 11)
      refine t_As_unlikePlaces_15 (brT (by decide) ?_)
      rw [show (1 < iN (ds D S (k + 1) 11) ↔ 1 < ds D S (k + 1) 11) from iN_lt (a := 1) (by omega) (by omega), iN_inc, or1 _ _ (by omega)]
      refine ⟨fun z => k2 _ _ ⟨.int (iN (ds D S (k + 1) 11)), .int (iN 11), rfl, rfl, ?_, rfl⟩, fun z => k2 _ _ ⟨.int (iN (ds D S (k + 1) 11)), .int (iN 11), rfl, rfl, ?_, rfl⟩⟩
      · rw [unB_s (k := k + 1) (by omega), if_pos z]
      · rw [unB_s (k := k + 1) (by omega), if_neg z]
  · rintro l g ⟨y, y2, hy, hy2, rfl, rfl⟩
    exact t_As_unlikePlaces_4 hy hy2 (brT (by decide) kk)
theorem c_alikeP {Q : Int32 → Hp → Prop} (w : wfC D) (h : cA f D S) (kk : Q (iN (alB D S 13)) f) : CI L xs xm_As_alikePlaces [.ref 75] f Q := by
  have hF := w.1
  refine t_As_alikePlaces_0 ?_
  refine for0 12 (fun k l g => ∃ y : Value, (y.category != 2) = true ∧ l = [.ref 75, .int (iN (alB D S (k + 1))), .int (iN (k + 1)), y] ∧ g = f) ⟨.retAddr 0, rfl, by rw [alB_1]; rfl, rfl⟩ ?_ ?_
  · rintro k l g hk ⟨y, hy, rfl, rfl⟩ k2
    refine t_As_alikePlaces_4 hy (brF (fun z => absurd ((iN_lt (a := 12) (by omega) (by omega)).mp z) (by omega)) ?_)
    refine for0 11 (fun o l' g' => l' = [.ref 75, .int (iN (if 0 < al D S (k + 1) o then alB D S (k + 1) ||| (1 <<< (k + 1)) else alB D S (k + 1))), .int (iN (k + 1)), .int (iN o)] ∧ g' = g) ⟨by rw [if_neg (show ¬ 0 < al D S (k + 1) 0 from by unfold al; exact Nat.lt_irrefl 0)]; rfl, rfl⟩ ?_ ?_
    · rintro o l' g' ho ⟨rfl, rfl⟩ k3
      have rl := rn_le w (S := S) (s := k + 1) (o := o)
      refine t_As_alikePlaces_12 (brF (fun z => absurd ((iN_lt (a := 10) (by omega) (by omega)).mp z) (by omega)) (c_runners w h (by omega) ?_))
      rw [h.1.1, iN_lt (by omega) (by omega), iN_inc, or1 _ _ (by omega)]
      refine ⟨fun z => k3 _ _ ⟨?_, rfl⟩, fun z => k3 _ _ ⟨by rw [al_n z], rfl⟩⟩
      rw [al_p z, if_pos (show 0 < al D S (k + 1) o + 1 by omega)]
      by_cases u : 0 < al D S (k + 1) o
      · rw [if_pos u, Nat.or_assoc, Nat.or_self]
      · rw [if_neg u]
    · rintro l' g' ⟨rfl, rfl⟩
      refine t_As_alikePlaces_12 (brT (by decide) ?_)
      rw [iN_inc]
      exact k2 _ _ ⟨.int (iN 11), rfl, by rw [alB_s (k := k + 1) (by omega)], rfl⟩
  · rintro l g ⟨y, hy, rfl, rfl⟩
    exact t_As_alikePlaces_4 hy (brT (by decide) kk)
def pB (D : CD) (S : ST) (b : Int32) (n : Nat) : Nat := if b = 0 then alB D S n else unB D S n
theorem r_placesBy {Q : Int32 → Hp → Prop} {b : Int32} (w : wfC D) (cu : cur f o0 D) (h : rM f S) (kk : Q (iN (pB D S b 13)) f) : CI L xs xm_Mo_placesBy [.ref 400, .int b] f Q := by
  have hF := w.1
  refine t_Mo_placesBy_0 ?_
  refine for0 12 (fun k l g => ∃ y y2 y3 : Value, (y.category != 2) = true ∧ (y2.category != 2) = true ∧ (y3.category != 2) = true ∧ l = [.ref 400, .int b, .int (iN (pB D S b (k + 1))), .int (iN (k + 1)), y, y2, y3] ∧ g = f) ⟨.retAddr 0, .retAddr 0, .retAddr 0, rfl, rfl, rfl, by unfold pB; rw [unB_1, alB_1, ite_self]; rfl, rfl⟩ ?_ ?_
  · rintro k l g hk ⟨y, y2, y3, hy, hy2, hy3, rfl, rfl⟩ k2
    refine t_Mo_placesBy_4 hy hy2 hy3 (brT ((iN_lt (b := 13) (by omega) (by omega)).mpr (by omega)) ?_)
    refine for0 11 (fun o l' g' => l' = [.ref 400, .int b, .int (iN (pB D S b (k + 1))), .int (iN (k + 1)), .int (iN (ds D S (k + 1) o)), .int (iN (if 0 < al D S (k + 1) o then 1 else 0)), .int (iN o)] ∧ g' = g) ⟨by rw [if_neg (show ¬ 0 < al D S (k + 1) 0 from by unfold al; exact Nat.lt_irrefl 0)]; rfl, rfl⟩ ?_ ?_
    · rintro o l' g' ho ⟨rfl, rfl⟩ k3
      have rl := rn_le w (S := S) (s := k + 1) (o := o)
      have fin : ∀ e : Nat, ds D S (k + 1) (o + 1) = ds D S (k + 1) o + e → Wp L xs xm_Mo_placesBy 43 [.ref 400, .int b, .int (iN (pB D S b (k + 1))), .int (iN (k + 1)), .int (iN (ds D S (k + 1) o)), .int (iN (if 0 < al D S (k + 1) o then 1 else 0)), .int (iN o)] [.int (iN e), .int (iN (ds D S (k + 1) o))] g' (QI Q) := fun e he => by
        refine t_Mo_placesBy_43 ?_
        rw [iN_add, ← he, iN_inc]
        by_cases u : 0 < al D S (k + 1) o
        · rw [if_pos u]
          refine brF (by decide) (k3 _ _ ⟨?_, rfl⟩)
          have : 0 < al D S (k + 1) (o + 1) := by
            by_cases z : dF D < rn D S (k + 1) o
            · rw [al_p z]; omega
            · rw [al_n z]; exact u
          rw [if_pos this]; rfl
        · rw [if_neg u]
          refine brT rfl (r_ranSo w cu h (by omega) ?_)
          rw [cu.2.1, iN_lt (by omega) (by omega)]
          refine ⟨fun z => k3 _ _ ⟨?_, rfl⟩, fun z => k3 _ _ ⟨?_, rfl⟩⟩
          · rw [al_p z, if_pos (show 0 < al D S (k + 1) o + 1 by omega)]; rfl
          · rw [al_n z, if_neg u]; rfl
      refine t_Mo_placesBy_19 (brF (fun z => absurd ((iN_lt (a := 10) (by omega) (by omega)).mp z) (by omega)) (r_ranSo w cu h (by omega) ?_))
      rw [show (0 < iN (rn D S (k + 1) o) ↔ 0 < rn D S (k + 1) o) from iN_lt (a := 0) (by omega) (by omega)]
      exact ⟨fun z => fin 1 (ds_p z), fun z => fin 0 (ds_n z)⟩
    · rintro l' g' ⟨rfl, rfl⟩
      have dl := ds_le (D := D) (S := S) (s := k + 1) (n := 11)
      refine t_Mo_placesBy_19 (brT (by decide) ?_)
      rw [show (1 < iN (ds D S (k + 1) 11) ↔ 1 < ds D S (k + 1) 11) from iN_lt (a := 1) (by omega) (by omega), iN_inc, or1 _ _ (by omega), or0]
      refine ⟨fun b0 => ?_, fun b0 => ?_⟩
      · have hb : ∀ n, pB D S b n = alB D S n := fun n => if_pos b0
        rw [hb]
        have k2 : ∀ y4 y5 y6 : Value, (y4.category != 2) = true → (y5.category != 2) = true → (y6.category != 2) = true → Wp L xs xm_Mo_placesBy 4 [.ref 400, .int b, .int (iN (alB D S (k + 2))), .int (iN (k + 1 + 1)), y4, y5, y6] [] g' (QI Q) := fun y4 y5 y6 p q r => k2 _ _ ⟨y4, y5, y6, p, q, r, by rw [hb], rfl⟩
        rw [alB_s (k := k + 1) (by omega)] at k2
        by_cases u : 0 < al D S (k + 1) 11
        · rw [if_pos u] at k2 ⊢
          exact brF (by decide) (k2 _ _ _ rfl rfl rfl)
        · rw [if_neg u] at k2 ⊢
          exact brT rfl (k2 _ _ _ rfl rfl rfl)
      · have hb : ∀ n, pB D S b n = unB D S n := fun n => if_neg b0
        rw [hb]
        have k2 : ∀ y4 y5 y6 : Value, (y4.category != 2) = true → (y5.category != 2) = true → (y6.category != 2) = true → Wp L xs xm_Mo_placesBy 4 [.ref 400, .int b, .int (iN (unB D S (k + 2))), .int (iN (k + 1 + 1)), y4, y5, y6] [] g' (QI Q) := fun y4 y5 y6 p q r => k2 _ _ ⟨y4, y5, y6, p, q, r, by rw [hb], rfl⟩
        rw [unB_s (k := k + 1) (by omega)] at k2
        refine ⟨fun u => ?_, fun u => ?_⟩
        · rw [if_pos u] at k2; exact k2 _ _ _ rfl rfl rfl
        · rw [if_neg u] at k2; exact k2 _ _ _ rfl rfl rfl
  · rintro l g ⟨y, y2, y3, hy, hy2, hy3, rfl, rfl⟩
    exact t_Mo_placesBy_4 hy hy2 hy3 (brF (by decide) kk)
theorem mxR_le (ws : wfS D S) : ∀ k, k ≤ 7 → mxR D S k ≤ 12
  | 0, _ => by unfold mxR; omega
  | k + 1, h => by
    have ih := mxR_le ws k (by omega)
    obtain ⟨r, hr, er⟩ := (ws.1 k (by omega)).2.2.2.1
    rw [mxR_s, er, nb_iN (by omega)]
    split <;> omega
theorem mnR_le (D : CD) (S : ST) : ∀ k, mnR D S k ≤ 13
  | 0 => Nat.le_refl _
  | k + 1 => by
    have ih := mnR_le D S k
    rw [mnR_s]
    split <;> omega
theorem mnR_mx (ws : wfS D S) : ∀ k, k ≤ 7 → mnR D S k = 13 → mxR D S k = 0
  | 0, _, _ => rfl
  | k + 1, h, e => by
    have ih := mnR_mx ws k (by omega)
    obtain ⟨r, hr, er⟩ := (ws.1 k (by omega)).2.2.2.1
    rw [mnR_s, er, nb_iN (by omega)] at e
    rw [mxR_s]
    split
    · rename_i z
      rw [if_pos z] at e
      omega
    · rename_i z
      rw [if_neg z] at e
      exact ih e
theorem c_greatest {Q : Int32 → Hp → Prop} (w : wfC D) (ws : wfS D S) (h : cA f D S) (kk : Q (iN (mxR D S (3 * dF D + 1))) f) : CI L xs xm_As_greatestRan [.ref 75] f Q := by
  have hF := w.1
  refine t_As_greatestRan_0 ?_
  refine for0 (3 * dF D + 1) (fun k l g => l = [.ref 75, .int (iN (mxR D S k)), .int (iN k)] ∧ g = f) ⟨rfl, rfl⟩ ?_ ?_
  · rintro k l g hk ⟨rfl, rfl⟩ k2
    have ml := mxR_le ws k (by omega)
    obtain ⟨r, hr, er⟩ := (ws.1 k (by omega)).2.2.2.1
    refine t_As_greatestRan_4 ?_
    rw [h.2.1, iN_inc]
    refine brT ((iN_lt (b := _) (by omega) (by omega)).mpr (by omega)) (c_asHon w h (by omega) (fun hh => br1 ⟨k, rfl, by omega, ?_⟩) fun hh => br0 (k2 _ _ ⟨by rw [mxR_s, if_neg (hf hh)], rfl⟩))
    rw [h.s (m := k) (by omega) (by omega), er, imax_iN (by omega) (by omega)]
    exact k2 _ _ ⟨by rw [mxR_s, if_pos hh, er, nb_iN (n := r) (by omega)], rfl⟩
  · rintro l g ⟨rfl, rfl⟩
    refine t_As_greatestRan_4 ?_
    rw [h.2.1]
    exact brF (fun z => absurd ((iN_lt (b := _) (by omega) (by omega)).mp z) (by omega)) kk
theorem c_leastR {Q : Int32 → Hp → Prop} (w : wfC D) (ws : wfS D S) (h : cA f D S) (kk : Q (iN (if mnR D S (3 * dF D + 1) = 13 then 0 else mnR D S (3 * dF D + 1))) f) : CI L xs xm_As_leastRan [.ref 75] f Q := by
  have hF := w.1
  refine t_As_leastRan_0 ?_
  refine for0 (3 * dF D + 1) (fun k l g => l = [.ref 75, .int (iN (mnR D S k)), .int (iN k)] ∧ g = f) ⟨rfl, rfl⟩ ?_ ?_
  · rintro k l g hk ⟨rfl, rfl⟩ k2
    have ml := mnR_le D S k
    obtain ⟨r, hr, er⟩ := (ws.1 k (by omega)).2.2.2.1
    refine t_As_leastRan_5 ?_
    rw [h.2.1, iN_inc]
    refine brT ((iN_lt (b := _) (by omega) (by omega)).mpr (by omega)) (c_asHon w h (by omega) (fun hh => br1 ⟨k, rfl, by omega, ?_⟩) fun hh => br0 (k2 _ _ ⟨by rw [mnR_s, if_neg (hf hh)], rfl⟩))
    rw [h.s (m := k) (by omega) (by omega), er, imin_iN (by omega) (by omega)]
    exact k2 _ _ ⟨by rw [mnR_s, if_pos hh, er, nb_iN (n := r) (by omega)], rfl⟩
  · rintro l g ⟨rfl, rfl⟩
    have ml := mnR_le D S (3 * dF D + 1)
    refine t_As_leastRan_5 ?_
    rw [h.2.1]
    refine brF (fun z => absurd ((iN_lt (b := _) (by omega) (by omega)).mp z) (by omega)) ?_
    by_cases z : mnR D S (3 * dF D + 1) = 13
    · rw [if_pos z] at kk
      exact brT ((iN_lt (a := 12) (by omega) (by omega)).mpr (by omega)) kk
    · rw [if_neg z] at kk
      exact brF (fun z => absurd ((iN_lt (a := 12) (by omega) (by omega)).mp z) (by omega)) kk
theorem r_ranBy {Q : Int32 → Hp → Prop} {b : Int32} (w : wfC D) (ws : wfS D S) (cu : cur f o0 D) (h : rM f S) (kk : Q (iN (if b = 0 then (if mnR D S (3 * dF D + 1) = 13 then 0 else mnR D S (3 * dF D + 1)) else mxR D S (3 * dF D + 1))) f) : CI L xs xm_Mo_ranBy [.ref 400, .int b] f Q := by
  have hF := w.1
  refine t_Mo_ranBy_0 ?_
  refine for0 (3 * dF D + 1) (fun k l g => l = [.ref 400, .int b, .int (if mnR D S k = 13 then -1 else iN (if b = 0 then mnR D S k else mxR D S k)), .int (iN k)] ∧ g = f) ⟨rfl, rfl⟩ ?_ ?_
  · rintro k l g hk ⟨rfl, rfl⟩ k2
    have ml := mnR_le D S k
    have xl := mxR_le ws k (by omega)
    obtain ⟨r, hr, er⟩ := (ws.1 k (by omega)).2.2.2.1
    have nr : nb (S 3 k 0) = r := by rw [er, nb_iN (by omega)]
    have e9 : g 409 k = iN r := (h.s (j := 3) (by omega) (by omega)).trans er
    refine t_Mo_ranBy_4 ?_
    rw [cu.2.2.1, iN_inc]
    refine brT ((iN_lt (b := _) (by omega) (by omega)).mpr (by omega)) (r_liar w cu hk (fun hh => br0 ?_) fun hh => br1 (k2 _ _ ⟨by rw [mnR_s, mxR_s, if_neg (hf hh), if_neg (hf hh)], rfl⟩))
    have k2' : Wp L xs xm_Mo_ranBy 4 [.ref 400, .int b, .int (iN (if b = 0 then min (mnR D S k) r else max (mxR D S k) r)), .int (iN (k + 1))] [] g (QI Q) := k2 _ _ ⟨by rw [mnR_s, mxR_s, if_pos hh, if_pos hh, nr, if_neg (show ¬ min (mnR D S k) r = 13 by omega)], rfl⟩
    by_cases z : mnR D S k = 13
    · rw [if_pos z]
      refine brT rfl ⟨k, rfl, by omega, ?_⟩
      rw [e9]
      have : (if b = 0 then min (mnR D S k) r else max (mxR D S k) r) = r := by
        have := mnR_mx ws k (by omega) z
        split <;> omega
      rw [this] at k2'
      exact k2'
    · rw [if_neg z]
      by_cases b0 : b = 0
      · rw [if_pos b0] at k2' ⊢
        refine brF (iN_ne1 (by omega)) (brT b0 ⟨k, rfl, by omega, ?_⟩)
        rw [e9, iN_lt (by omega) (by omega)]
        refine ⟨fun u => ?_, fun u => ?_⟩
        · rw [show min (mnR D S k) r = r by omega] at k2'; exact k2'
        · rw [show min (mnR D S k) r = mnR D S k by omega] at k2'; exact k2'
      · rw [if_neg b0] at k2' ⊢
        refine brF (iN_ne1 (by omega)) (brF b0 ⟨k, rfl, by omega, ?_⟩)
        rw [e9, iN_lt (by omega) (by omega)]
        refine ⟨fun u => ?_, fun u => ?_⟩
        · rw [show max (mxR D S k) r = r by omega] at k2'; exact k2'
        · rw [show max (mxR D S k) r = mxR D S k by omega] at k2'; exact k2'
  · rintro l g ⟨rfl, rfl⟩
    have ml := mnR_le D S (3 * dF D + 1)
    have xl := mxR_le ws (3 * dF D + 1) (by omega)
    refine t_Mo_ranBy_4 ?_
    rw [cu.2.2.1]
    refine brF (fun z => absurd ((iN_lt (b := _) (by omega) (by omega)).mp z) (by omega)) ?_
    by_cases z : mnR D S (3 * dF D + 1) = 13
    · rw [if_pos z]
      rw [mnR_mx ws _ (by omega) z, if_pos z, ite_self] at kk
      exact brT rfl kk
    · rw [if_neg z]
      rw [if_neg z] at kk
      refine brF (iN_ne1 ?_) kk
      split <;> omega
theorem c_stop2 {Q : Int32 → Hp → Prop} {x y : Int32} (w : wfT T) (c : cT f 1 T) (h1 : ∀ j r D S, j < tZ T 0 → r < tZ T 1 → x = iN j → y = iN r → D = T.2.2.1 j → S = (fol D (T.2.2.2.1 r) (min 40 (T.2.2.2.1 r).1)).2 → wfC D → wfS D S → ∀ v g, ¬ v = -1 → cA g D S → FrZ f g → Q v g) (h0 : ((∀ j, j < tZ T 0 → ¬ x = iN j) ∨ ∀ r, r < tZ T 1 → ¬ y = iN r) → Q (-1) f) : CI L xs xm_TP_stop [.ref 0, .int x, .int y] f Q := by
  have z0 := w.2.2.1 0 (by omega)
  have z1 := w.2.2.1 1 (by omega)
  refine t_TP_stop_0 (c_two w c (fun j r hj hr ex ey => ?_) fun bad => h0 bad)
  subst ex ey
  have wc := w.2.2.2.1 j hj
  have wr := w.2.2.2.2.1 r hr
  have r40 := wr.1
  refine ⟨j, rfl, by omega, r, rfl, by omega, c_follow (n := 40) wc wr (k_coun (by omega)) (k_run (by omega)) (by omega) (by omega) (cT_c c hj) (cT_r c hr) (by omega) fun g ca fa => ?_⟩
  have le := fol_le (T.2.2.1 j) (T.2.2.2.1 r) (min 40 (T.2.2.2.1 r).1)
  exact h1 j r _ _ hj hr rfl rfl rfl rfl wc (fol_wf wc wr _ (by omega)) _ g (iN_ne1 (by omega)) ca fa
theorem r_stop2 {A : Hp → Prop} {B : Hp → Prop} {j r : Nat} (w : wfT T) (rt : rT f 0 T) (hj : j < tZ T 0) (hr : r < tZ T 1) (eD : D = T.2.2.1 j) (eS : S = (fol D (T.2.2.2.1 r) (min 40 (T.2.2.2.1 r).1)).2) (kk : ∀ g o0, o0 ≤ 692 → cur g o0 D → rC g o0 D → rM g S → FrM f g → B g) : CI L xs xm_Mo_isCouncil [.ref 400, .int (iN j)] f (fun v1 g1 => (v1 = 0 → A g1) ∧ (¬ v1 = 0 → CI L xs xm_Mo_isRun [.ref 400, .int (iN r)] g1 (fun v2 g2 => (v2 = 0 → A g2) ∧ (¬ v2 = 0 → CV L xs xm_Mo_goes [.ref 400, .int 40] g2 B)))) := by
  have z1 := w.2.2.1 1 (by omega)
  subst eD eS
  have wc := w.2.2.2.1 j hj
  have wr := w.2.2.2.2.1 r hr
  refine r_two w rt hj hr fun g2 cu rc rr e47 e => ?_
  exact r_goes (n := 40) wc wr cu rc (rC.wf_o w hj) rr (by omega) e47 (by omega) fun g3 b1 b2 b3 b4 => kk g3 _ (rC.wf_o w hj) (cu.co fun j' p q => b4 j' (by omega)) (rc.fr (b3 401 (by omega) (by omega))) b1 fun x hx hy => by rw [b3 x hx hy, e x hy]
theorem op_unlike (i : Inv f) (x y z : Int32) : CI L xs xm_TP_unlike [.ref 0, .int x, .int y, .int z] f (fun v g => CI L xs xm_Mo_unlike [.ref 400, .int x, .int y, .int z] g (fun w h => w = v ∧ Inv h)) := by
  obtain ⟨⟨T, w, c, rt⟩, im⟩ := id i
  refine t_TP_unlike_0 (c_stop2 w c (fun j r D S hj hr ex ey eD eS wc ws v g nv ca fa => brF nv ?_) fun bad => brT rfl (t_Mo_unlike_0 (r_twoN w rt bad fun g e => ⟨rfl, i400 i e⟩)))
  subst ex ey
  have rt' := rt.fr (fa 401 (by omega))
  refine ⟨fun p => ?_, fun p0 => ⟨fun p => ?_, fun p1 => ⟨fun p => ?_, fun p2 => ⟨fun p => ?_, fun p3 => ?_⟩⟩⟩⟩
  · exact c_unlikeP wc ca (t_Mo_unlike_0 (r_stop2 w rt' hj hr eD eS fun g3 o0 ho cu rc hm fm => brT p (brT p (r_placesBy wc cu hm ⟨rfl, i.q fa.c fm.r⟩))))
  · exact c_alikeP wc ca (t_Mo_unlike_0 (r_stop2 w rt' hj hr eD eS fun g3 o0 ho cu rc hm fm => brF p0 (brT p (brF p0 (r_placesBy wc cu hm ⟨rfl, i.q fa.c fm.r⟩)))))
  · exact c_greatest wc ws ca (t_Mo_unlike_0 (r_stop2 w rt' hj hr eD eS fun g3 o0 ho cu rc hm fm => brF p0 (brF p1 (brT p (brT p (r_ranBy wc ws cu hm ⟨rfl, i.q fa.c fm.r⟩))))))
  · exact c_leastR wc ws ca (t_Mo_unlike_0 (r_stop2 w rt' hj hr eD eS fun g3 o0 ho cu rc hm fm => brF p0 (brF p1 (brF p2 (brT p (brF p2 (r_ranBy wc ws cu hm ⟨rfl, i.q fa.c fm.r⟩)))))))
  · exact t_Mo_unlike_0 (r_stop2 w rt' hj hr eD eS fun g3 o0 ho cu rc hm fm => brF p0 (brF p1 (brF p2 (brF p3 ⟨rfl, i.q fa.c fm.r⟩))))
end UNLIKE
