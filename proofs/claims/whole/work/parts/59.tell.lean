/-! what is told of a state -/
def tlP (D : CD) (S : ST) (m p q : Nat) : Int32 := if q = 0 then S 8 m p else if q = 1 then S 9 m p else if q = 2 then S 10 m p else if q = 3 then (if isPrep D S m p then 1 else 0) else if q = 4 then (if isCmt D S m p then 1 else 0) else if q = 5 then S 11 m p else if q = 6 then S 12 m p else if q = 7 then S 13 m p else -2
def tlN (D : CD) (S : ST) (m q : Nat) : Int32 := if q = 0 then S 0 m 0 else if q = 1 then (if S 1 m 0 = 0 then 0 else 1) else if q = 2 then S 2 m 0 else if q = 3 then S 3 m 0 else if q = 4 then nd (S 6 m) 1 else if q = 5 then S 4 m 0 else if q = 6 then S 5 m 0 else if q < 10 then -2 else if q < 18 then S 6 m (q - 10) else if q < 100 then -2 else if q / 100 ≤ 12 then tlP D S m (q / 100) (q % 100) else -2
def tl (D : CD) (S : ST) (x y : Int32) : Int32 := if x < 0 ∨ ¬ nb x < 3 * dF D + 1 ∨ y < 0 then -2 else tlN D S (nb x) (nb y)
section TELL
variable {L : Nat} {xs : Nat → Int32} {f g : Hp} {D : CD} {S S' : ST} {R : RD} {T : TD} {o0 : Nat}
theorem tl_no {x y : Int32} (h : (∀ m, m < 3 * dF D + 1 → ¬ x = iN m) ∨ y < 0) : tl D S x y = -2 := by
  unfold tl
  rw [if_pos]
  by_cases z : x < 0
  · exact Or.inl z
  · obtain ⟨n, hn, rfl⟩ := iN_ex0 z
    rcases h with h | h
    · refine Or.inr (Or.inl fun y => ?_)
      rw [nb_iN hn] at y
      exact h n y rfl
    · exact Or.inr (Or.inr h)
theorem tl_yes {m q : Nat} (w : wfC D) (hm : m < 3 * dF D + 1) (hq : q < 2147483648) : tl D S (iN m) (iN q) = tlN D S m q := by
  have hF := w.1
  unfold tl
  rw [if_neg, nb_iN (by omega), nb_iN hq]
  rintro (z | z | z)
  · exact iN_nn (by omega) z
  · rw [nb_iN (by omega)] at z; exact z hm
  · exact iN_nn hq z
theorem c_tellPlace {Q : Int32 → Hp → Prop} {m p q : Nat} (w : wfC D) (ws : wfS D S) (h : cA f D S) (hm : m < 7) (hp : 1 ≤ p ∧ p ≤ 12) (hq : q < 2147483648) (kk : Q (tlP D S m p q) f) : CI L xs xm_Me_tellPlace [.ref (93 + 11 * m), .int (iN p), .int (iN q)] f Q := by
  refine t_Me_tellPlace_0 (k_mem hm) ?_
  unfold tlP at kk
  rw [show (iN q = 0 ↔ q = 0) from iN_inj (b := 0) hq (by omega), show (iN q = 1 ↔ q = 1) from iN_inj (b := 1) hq (by omega), show (iN q = 2 ↔ q = 2) from iN_inj (b := 2) hq (by omega), show (iN q = 3 ↔ q = 3) from iN_inj (b := 3) hq (by omega), show (iN q = 4 ↔ q = 4) from iN_inj (b := 4) hq (by omega), show (iN q = 5 ↔ q = 5) from iN_inj (b := 5) hq (by omega), show (iN q = 6 ↔ q = 6) from iN_inj (b := 6) hq (by omega), show (iN q = 7 ↔ q = 7) from iN_inj (b := 7) hq (by omega)]
  refine ⟨fun z => ⟨p, rfl, by omega, ?_⟩, fun z => ?_⟩
  · rw [if_pos z] at kk; rw [h.a (j := 0) hm (by omega) hp.1 hp.2]; exact kk
  rw [if_neg z] at kk
  refine ⟨fun z => ⟨p, rfl, by omega, ?_⟩, fun z => ?_⟩
  · rw [if_pos z] at kk; rw [h.a (j := 1) hm (by omega) hp.1 hp.2]; exact kk
  rw [if_neg z] at kk
  refine ⟨fun z => ⟨p, rfl, by omega, ?_⟩, fun z => ?_⟩
  · rw [if_pos z] at kk; rw [h.a (j := 2) hm (by omega) hp.1 hp.2]; exact kk
  rw [if_neg z] at kk
  refine ⟨fun z => c_isPrep w ws h hm hp (fun u => br1 ?_) fun u => br0 ?_, fun z => ?_⟩
  · rw [if_pos z, if_pos u] at kk; exact kk
  · rw [if_pos z, if_neg u] at kk; exact kk
  rw [if_neg z] at kk
  refine ⟨fun z => c_isCmt w ws h hm hp (fun u => br1 ?_) fun u => br0 ?_, fun z => ?_⟩
  · rw [if_pos z, if_pos u] at kk; exact kk
  · rw [if_pos z, if_neg u] at kk; exact kk
  rw [if_neg z] at kk
  refine ⟨fun z => ⟨p, rfl, by omega, ?_⟩, fun z => ?_⟩
  · rw [if_pos z] at kk; rw [h.a (j := 3) hm (by omega) hp.1 hp.2]; exact kk
  rw [if_neg z] at kk
  refine ⟨fun z => ⟨p, rfl, by omega, ?_⟩, fun z => ?_⟩
  · rw [if_pos z] at kk; rw [h.a (j := 4) hm (by omega) hp.1 hp.2]; exact kk
  rw [if_neg z] at kk
  refine ⟨fun z => ⟨p, rfl, by omega, ?_⟩, fun z => ?_⟩
  · rw [if_pos z] at kk; rw [h.a (j := 5) hm (by omega) hp.1 hp.2]; exact kk
  rw [if_neg z] at kk
  exact kk
theorem r_placeNow {Q : Int32 → Hp → Prop} {m p q : Nat} (w : wfC D) (ws : wfS D S) (cu : cur f o0 D) (h : rM f S) (hm : m < 7) (hp : 1 ≤ p ∧ p ≤ 12) (hq : q < 2147483648) (kk : Q (tlP D S m p q) f) : CI L xs xm_Mo_placeNow [.ref 400, .int (iN m), .int (iN p), .int (iN q)] f Q := by
  refine t_Mo_placeNow_0 (r_at ?_)
  unfold tlP at kk
  rw [show (iN q = 0 ↔ q = 0) from iN_inj (b := 0) hq (by omega), show (iN q = 1 ↔ q = 1) from iN_inj (b := 1) hq (by omega), show (iN q = 2 ↔ q = 2) from iN_inj (b := 2) hq (by omega), show (iN q = 3 ↔ q = 3) from iN_inj (b := 3) hq (by omega), show (iN q = 4 ↔ q = 4) from iN_inj (b := 4) hq (by omega), show (iN q = 5 ↔ q = 5) from iN_inj (b := 5) hq (by omega), show (iN q = 6 ↔ q = 6) from iN_inj (b := 6) hq (by omega), show (iN q = 7 ↔ q = 7) from iN_inj (b := 7) hq (by omega)]
  refine ⟨fun z => ⟨13 * m + p, rfl, by omega, ?_⟩, fun z => ?_⟩
  · rw [if_pos z] at kk; rw [show f 414 (13 * m + p) = _ from h.a (j := 0) hm (by omega) hp.1 hp.2]; exact kk
  rw [if_neg z] at kk
  refine ⟨fun z => ⟨13 * m + p, rfl, by omega, ?_⟩, fun z => ?_⟩
  · rw [if_pos z] at kk; rw [show f 415 (13 * m + p) = _ from h.a (j := 1) hm (by omega) hp.1 hp.2]; exact kk
  rw [if_neg z] at kk
  refine ⟨fun z => ⟨13 * m + p, rfl, by omega, ?_⟩, fun z => ?_⟩
  · rw [if_pos z] at kk; rw [show f 416 (13 * m + p) = _ from h.a (j := 2) hm (by omega) hp.1 hp.2]; exact kk
  rw [if_neg z] at kk
  refine ⟨fun z => r_isPrep w ws cu h hm hp (fun u => br1 ?_) fun u => br0 ?_, fun z => ?_⟩
  · rw [if_pos z, if_pos u] at kk; exact kk
  · rw [if_pos z, if_neg u] at kk; exact kk
  rw [if_neg z] at kk
  refine ⟨fun z => r_isCmt w ws cu h hm hp (fun u => br1 ?_) fun u => br0 ?_, fun z => ?_⟩
  · rw [if_pos z, if_pos u] at kk; exact kk
  · rw [if_pos z, if_neg u] at kk; exact kk
  rw [if_neg z] at kk
  refine ⟨fun z => ⟨13 * m + p, rfl, by omega, ?_⟩, fun z => ?_⟩
  · rw [if_pos z] at kk; rw [show f 417 (13 * m + p) = _ from h.a (j := 3) hm (by omega) hp.1 hp.2]; exact kk
  rw [if_neg z] at kk
  refine ⟨fun z => ⟨13 * m + p, rfl, by omega, ?_⟩, fun z => ?_⟩
  · rw [if_pos z] at kk; rw [show f 418 (13 * m + p) = _ from h.a (j := 4) hm (by omega) hp.1 hp.2]; exact kk
  rw [if_neg z] at kk
  refine ⟨fun z => ⟨13 * m + p, rfl, by omega, ?_⟩, fun z => ?_⟩
  · rw [if_pos z] at kk; rw [show f 419 (13 * m + p) = _ from h.a (j := 5) hm (by omega) hp.1 hp.2]; exact kk
  rw [if_neg z] at kk
  exact kk
theorem c_tell {Q : Int32 → Hp → Prop} {x y : Int32} (w : wfC D) (ws : wfS D S) (h : cA f D S) (kk : ∀ g, FrZ f g → Q (tl D S x y) g) : CI L xs xm_As_tell [.ref 75, .int x, .int y] f Q := by
  have hF := w.1
  have K := kk f (FrZ.refl f)
  by_cases hx : x < 0
  · rw [tl_no (Or.inl fun m hm e => by rw [e] at hx; exact iN_nn (by omega) hx)] at K
    exact t_As_tell_0 (t_As_isSeat_0 (brT hx (br0 K)))
  obtain ⟨m, hm', rfl⟩ := iN_ex0 hx
  refine t_As_tell_0 (c_isSeat w h hm' (fun hm => br1 ?_) fun hm => br0 ?_)
  · have hm7 : m < 7 := by omega
    by_cases hy : y < 0
    · rw [tl_no (Or.inr hy)] at K
      have no : ∀ k : Nat, k < 2147483648 → ¬ y = iN k := fun k hk e => by rw [e] at hy; exact iN_nn hk hy
      refine brF (no 4 (by omega)) ⟨m, rfl, hm7, t_Me_tell_0 (k_mem hm7) (brF (no 0 (by omega)) (brF (no 1 (by omega)) (brF (no 2 (by omega)) (brF (no 3 (by omega)) (brF (no 4 (by omega)) (brF (no 5 (by omega)) (brF (no 6 (by omega)) (brT ?_ (t_Me_tell_104 (k_mem hm7) (brT ?_ K))))))))))⟩
      · rw [Int32.lt_iff_toInt_lt] at hy ⊢
        have : (0 : Int32).toInt = 0 := by decide
        have : (10 : Int32).toInt = 10 := by decide
        omega
      · rw [Int32.lt_iff_toInt_lt] at hy ⊢
        have : (0 : Int32).toInt = 0 := by decide
        have : (100 : Int32).toInt = 100 := by decide
        omega
    · obtain ⟨q, hq, rfl⟩ := iN_ex0 hy
      rw [tl_yes w hm hq] at K kk
      have iq : ∀ k : Nat, k < 2147483648 → (iN q = iN k ↔ q = k) := fun k hk => iN_inj hq hk
      by_cases q4 : q = 4
      · subst q4
        refine brT rfl ⟨m, rfl, hm7, c_rootOf rfl (kf_2_8 (k_mem hm7)).2 (by omega) (by omega) fun g2 e2 => ?_⟩
        have := kk g2 fun a ha => e2 a (by omega)
        rw [nd_congr (a := f (93 + 11 * m + 1)) (b := S 6 m) (k := 1) (fun i hi => (h.2.2.2.1 m hm7).2.2.2.1 i hi) (by omega)]
        exact this
      · refine brF (fun z => q4 ((iq 4 (by omega)).mp z)) ⟨m, rfl, hm7, t_Me_tell_0 (k_mem hm7) ?_⟩
        unfold tlN at K
        refine ⟨fun z => ?_, fun z => ?_⟩
        · rw [if_pos ((iq 0 (by omega)).mp z)] at K; rw [h.s hm7 (by omega)]; exact K
        have z0 : ¬ q = 0 := fun y => z ((iq 0 (by omega)).mpr y)
        rw [if_neg z0] at K
        refine ⟨fun z => ?_, fun z => ?_⟩
        · rw [if_pos ((iq 1 (by omega)).mp z)] at K; rw [h.s hm7 (by omega)]
          refine ⟨fun u => ?_, fun u => ?_⟩
          · rw [if_pos u] at K; exact K
          · rw [if_neg u] at K; exact K
        have z1 : ¬ q = 1 := fun y => z ((iq 1 (by omega)).mpr y)
        rw [if_neg z1] at K
        refine ⟨fun z => ?_, fun z => ?_⟩
        · rw [if_pos ((iq 2 (by omega)).mp z)] at K; rw [h.s hm7 (by omega)]; exact K
        have z2 : ¬ q = 2 := fun y => z ((iq 2 (by omega)).mpr y)
        rw [if_neg z2] at K
        refine ⟨fun z => ?_, fun z => ?_⟩
        · rw [if_pos ((iq 3 (by omega)).mp z)] at K; rw [h.s hm7 (by omega)]; exact K
        have z3 : ¬ q = 3 := fun y => z ((iq 3 (by omega)).mpr y)
        rw [if_neg z3, if_neg q4] at K
        refine brF (fun z => q4 ((iq 4 (by omega)).mp z)) ⟨fun z => ?_, fun z => ?_⟩
        · rw [if_pos ((iq 5 (by omega)).mp z)] at K; rw [h.s hm7 (by omega)]; exact K
        have z5 : ¬ q = 5 := fun y => z ((iq 5 (by omega)).mpr y)
        rw [if_neg z5] at K
        refine ⟨fun z => ?_, fun z => ?_⟩
        · rw [if_pos ((iq 6 (by omega)).mp z)] at K; rw [h.s hm7 (by omega)]; exact K
        have z6 : ¬ q = 6 := fun y => z ((iq 6 (by omega)).mpr y)
        rw [if_neg z6] at K
        by_cases p1 : q < 10
        · rw [if_pos p1] at K
          exact brT ((iN_lt (b := 10) (by omega) (by omega)).mpr (by omega)) (t_Me_tell_104 (k_mem hm7) (brT ((iN_lt (b := 100) (by omega) (by omega)).mpr (by omega)) K))
        · rw [if_neg p1] at K
          refine brF (fun z => absurd ((iN_lt (b := 10) (by omega) (by omega)).mp z) (by omega)) ?_
          by_cases p2 : q < 18
          · rw [if_pos p2] at K
            refine brT ((iN_lt (b := 18) (by omega) (by omega)).mpr (by omega)) ⟨q - 10, iN_sub (a := q) (b := 10) (by omega), by omega, ?_⟩
            rw [(h.2.2.2.1 m hm7).2.2.2.1 (q - 10) (by omega)]; exact K
          · rw [if_neg p2] at K
            refine brF (fun z => absurd ((iN_lt (b := 18) (by omega) (by omega)).mp z) (by omega)) (t_Me_tell_104 (k_mem hm7) ?_)
            by_cases p3 : q < 100
            · rw [if_pos p3] at K
              exact brT ((iN_lt (b := 100) (by omega) (by omega)).mpr (by omega)) K
            · rw [if_neg p3] at K
              refine brF (fun z => absurd ((iN_lt (b := 100) (by omega) (by omega)).mp z) (by omega)) ?_
              rw [show iN q / 100 = iN (q / 100) from idiv_iN (b := 100) hq (by omega), show jrem (iN q) 100 = iN (q % 100) from jrem_iN (b := 100) hq (by omega)]
              refine c_isPlace (fun s s1 s2 e => br1 ?_) fun no => br0 ?_
              · have := (iN_inj (by omega) (by omega)).mp e
                rw [if_pos (by omega)] at K
                exact c_tellPlace w ws h hm7 (by omega) (by omega) K
              · rw [if_neg (fun z => no (q / 100) (by omega) z rfl)] at K
                exact K
  · rw [tl_no (Or.inl fun k hk e => hm (by rw [(iN_inj (by omega) (by omega)).mp e]; exact hk))] at K
    exact K
theorem r_nowOf {Q : Int32 → Hp → Prop} {x y : Int32} (w : wfC D) (ws : wfS D S) (cu : cur f o0 D) (h : rM f S) (kk : ∀ g, FrM f g → Q (tl D S x y) g) : CI L xs xm_Mo_nowOf [.ref 400, .int x, .int y] f Q := by
  have hF := w.1
  have K := kk f (FrM.refl f)
  refine t_Mo_nowOf_0 (r_isMember cu.2.2.1 hF (fun m hm ex => br1 ?_) fun no => br0 ?_)
  · subst ex
    have hm7 : m < 7 := by omega
    refine ⟨fun hy => ?_, fun hy => ?_⟩
    · rw [tl_no (Or.inr hy)] at K; exact K
    · obtain ⟨q, hq, rfl⟩ := iN_ex0 hy
      rw [tl_yes w hm hq] at K kk
      have iq : ∀ k : Nat, k < 2147483648 → (iN q = iN k ↔ q = k) := fun k hk => iN_inj hq hk
      by_cases p3 : q < 100
      · refine brT ((iN_lt (b := 100) (by omega) (by omega)).mpr (by omega)) ?_
        unfold tlN at K
        refine ⟨fun z => ⟨m, rfl, hm7, ?_⟩, fun z => ?_⟩
        · rw [if_pos ((iq 0 (by omega)).mp z)] at K; rw [show f 406 m = _ from h.s (j := 0) hm7 (by omega)]; exact K
        have z0 : ¬ q = 0 := fun y => z ((iq 0 (by omega)).mpr y)
        rw [if_neg z0] at K
        refine ⟨fun z => ⟨m, rfl, hm7, ?_⟩, fun z => ?_⟩
        · rw [if_pos ((iq 1 (by omega)).mp z)] at K; rw [show f 407 m = _ from h.s (j := 1) hm7 (by omega)]
          refine ⟨fun u => ?_, fun u => ?_⟩
          · rw [if_pos u] at K; exact K
          · rw [if_neg u] at K; exact K
        have z1 : ¬ q = 1 := fun y => z ((iq 1 (by omega)).mpr y)
        rw [if_neg z1] at K
        refine ⟨fun z => ⟨m, rfl, hm7, ?_⟩, fun z => ?_⟩
        · rw [if_pos ((iq 2 (by omega)).mp z)] at K; rw [show f 408 m = _ from h.s (j := 2) hm7 (by omega)]; exact K
        have z2 : ¬ q = 2 := fun y => z ((iq 2 (by omega)).mpr y)
        rw [if_neg z2] at K
        refine ⟨fun z => ⟨m, rfl, hm7, ?_⟩, fun z => ?_⟩
        · rw [if_pos ((iq 3 (by omega)).mp z)] at K; rw [show f 409 m = _ from h.s (j := 3) hm7 (by omega)]; exact K
        have z3 : ¬ q = 3 := fun y => z ((iq 3 (by omega)).mpr y)
        rw [if_neg z3] at K
        refine ⟨fun z => ?_, fun z => ?_⟩
        · have q4 := (iq 4 (by omega)).mp z
          subst q4
          rw [show 8 * iN m = iN (8 * m) from iN_mul 8 _]
          refine r_rootOf rfl (by omega) (by omega) fun g2 e2 => ?_
          have := kk g2 fun a ha _ => e2 a (by omega)
          rw [nd_congr (a := fun i => f 412 (8 * m + i)) (b := S 6 m) (k := 1) (fun i hi => h.2.1 m i hm7 hi) (by omega)]
          exact this
        have z4 : ¬ q = 4 := fun y => z ((iq 4 (by omega)).mpr y)
        rw [if_neg z4] at K
        refine ⟨fun z => ⟨m, rfl, hm7, ?_⟩, fun z => ?_⟩
        · rw [if_pos ((iq 5 (by omega)).mp z)] at K; rw [show f 410 m = _ from h.s (j := 4) hm7 (by omega)]; exact K
        have z5 : ¬ q = 5 := fun y => z ((iq 5 (by omega)).mpr y)
        rw [if_neg z5] at K
        refine ⟨fun z => ⟨m, rfl, hm7, ?_⟩, fun z => ?_⟩
        · rw [if_pos ((iq 6 (by omega)).mp z)] at K; rw [show f 411 m = _ from h.s (j := 5) hm7 (by omega)]; exact K
        have z6 : ¬ q = 6 := fun y => z ((iq 6 (by omega)).mpr y)
        rw [if_neg z6] at K
        refine r_isIn (a := 10) (b := 17) (by omega) (by omega) (fun k k1 k2 e => br1 ⟨8 * m + (q - 10), ?_, by have := (iN_inj (by omega) (by omega)).mp e; omega, ?_⟩) fun no => br0 ?_
        · have := (iN_inj (by omega) (by omega)).mp e
          subst this
          rw [show 8 * iN m = iN (8 * m) from iN_mul 8 _, iN_add, show (10 : Int32) = iN 10 from rfl, iN_sub (by omega)]
          congr 1; omega
        · have := (iN_inj (by omega) (by omega)).mp e
          rw [if_neg (by omega), if_pos (by omega)] at K
          rw [h.2.1 m (q - 10) hm7 (by omega)]; exact K
        · by_cases p1 : q < 10
          · rw [if_pos p1] at K; exact K
          · rw [if_neg p1, if_neg (fun z => no q (by omega) (by omega) rfl), if_pos p3] at K; exact K
      · refine brF (fun z => absurd ((iN_lt (b := 100) (by omega) (by omega)).mp z) (by omega)) ?_
        unfold tlN at K
        rw [if_neg (by omega), if_neg (by omega), if_neg (by omega), if_neg (by omega), if_neg (by omega), if_neg (by omega), if_neg (by omega), if_neg (by omega), if_neg (by omega), if_neg p3] at K
        rw [show iN q / 100 = iN (q / 100) from idiv_iN (b := 100) hq (by omega), show jrem (iN q) 100 = iN (q % 100) from jrem_iN (b := 100) hq (by omega)]
        refine r_isIn (a := 1) (b := 12) (by omega) (by omega) (fun k k1 k2 e => br1 ?_) fun no => br0 ?_
        · have := (iN_inj (by omega) (by omega)).mp e
          rw [if_pos (by omega)] at K
          exact r_placeNow w ws cu h hm7 (by omega) (by omega) K
        · rw [if_neg (fun z => no (q / 100) (by omega) z rfl)] at K
          exact K
  · rw [tl_no (Or.inl no)] at K
    exact K
theorem op_state (i : Inv f) (x y z u v : Int32) : CI L xs xm_TP_state [.ref 0, .int x, .int y, .int z, .int u, .int v] f (fun r g => CI L xs xm_Mo_state [.ref 400, .int x, .int y, .int z, .int u, .int v] g (fun w h => w = r ∧ Inv h)) := by
  obtain ⟨⟨T, w, c, rt⟩, im⟩ := id i
  refine t_TP_state_0 (c_reaches w c (fun D S hg g ca fa => br1 ?_) fun ng g fa => br0 ?_)
  · obtain ⟨wc, ws⟩ := gd_w w hg
    refine c_tell wc ws ca fun g1 f1 => ?_
    have fa1 := fa.trans f1
    exact t_Mo_state_0 (r_reaches w (rt.fr (fa1 401 (by omega))) hg fun g2 o0 ho cu rc hr fm => br1 (r_nowOf wc ws cu hr fun g3 m3 => ⟨rfl, i.q fa1.c (fm.trans m3).r⟩))
  · exact t_Mo_state_0 (r_reachesN w (rt.fr (fa 401 (by omega))) ng fun g2 fm => br0 ⟨rfl, i.q fa.c fm.r⟩)
end TELL
