/-! BITS -/
theorem cntW_s (p : Nat → Prop) [DecidablePred p] (n : Nat) : cntW p (n + 1) = if p n then cntW p n + 1 else cntW p n := rfl
theorem iN_bv (n : Nat) : (iN n).toBitVec = BitVec.ofNat 32 n := rfl
theorem iN_or (a b : Nat) : iN a ||| iN b = iN (a ||| b) := by
  apply Int32.toBitVec_inj.mp
  rw [Int32.toBitVec_or, iN_bv, iN_bv, iN_bv]
  exact BitVec.ofNat_or.symm
theorem iN_and (a b : Nat) : iN a &&& iN b = iN (a &&& b) := by
  apply Int32.toBitVec_inj.mp
  rw [Int32.toBitVec_and, iN_bv, iN_bv, iN_bv]
  exact BitVec.ofNat_and.symm
theorem sh_k : ∀ k, k < 32 → ((iN k &&& 31).toBitVec.smod 32) = BitVec.ofNat 32 k := by decide
theorem iN_shr {n k : Nat} (hn : n < 2147483648) (hk : k < 32) : iN n >>> (iN k &&& 31) = iN (n >>> k) := by
  apply Int32.toBitVec_inj.mp
  rw [Int32.toBitVec_shiftRight, sh_k k hk, iN_bv, iN_bv]
  show (BitVec.ofNat 32 n).sshiftRight (BitVec.ofNat 32 k).toNat = _
  rw [BitVec.sshiftRight_eq_of_msb_false]
  · apply BitVec.eq_of_toNat_eq
    simp only [BitVec.toNat_ushiftRight, BitVec.toNat_ofNat]
    rw [Nat.mod_eq_of_lt (show n < 2 ^ 32 by omega), Nat.mod_eq_of_lt (show k < 2 ^ 32 by omega), Nat.mod_eq_of_lt]
    exact Nat.lt_of_le_of_lt (Nat.shiftRight_le n k) (by omega)
  · rw [BitVec.msb_eq_false_iff_two_mul_lt]
    simp only [BitVec.toNat_ofNat]
    rw [Nat.mod_eq_of_lt (show n < 2 ^ 32 by omega)]
    omega
theorem iN_shl {n k : Nat} (hk : k < 32) : iN n <<< (iN k &&& 31) = iN (n <<< k) := by
  apply Int32.toBitVec_inj.mp
  rw [Int32.toBitVec_shiftLeft, sh_k k hk, iN_bv, iN_bv]
  apply BitVec.eq_of_toNat_eq
  simp only [BitVec.shiftLeft_eq', BitVec.toNat_shiftLeft, BitVec.toNat_ofNat]
  rw [Nat.mod_eq_of_lt (show k < 2 ^ 32 by omega)]
  simp only [Nat.shiftLeft_eq]
  rw [Nat.mod_mul_mod]
theorem bit1 {n k : Nat} (hn : n < 2147483648) (hk : k < 32) : (iN n >>> (iN k &&& 31)) &&& 1 = iN (if n.testBit k then 1 else 0) := by
  rw [iN_shr hn hk, show (1 : Int32) = iN 1 from rfl, iN_and]
  congr 1
  rw [Nat.and_one_is_mod]
  have : n.testBit k = (decide ((n >>> k) % 2 = 1)) := by
    rw [Nat.testBit_eq_decide_div_mod_eq, Nat.shiftRight_eq_div_pow]
  rw [this]
  have h2 := Nat.mod_two_eq_zero_or_one (n >>> k)
  rcases h2 with h | h <;> simp [h]
/-- a set of numbers below n, as bits -/
def bN (p : Nat → Prop) [DecidablePred p] : Nat → Nat
  | 0 => 0
  | n + 1 => if p n then bN p n ||| (1 <<< n) else bN p n
theorem bN_s (p : Nat → Prop) [DecidablePred p] (n : Nat) : bN p (n + 1) = if p n then bN p n ||| (1 <<< n) else bN p n := rfl
theorem bN_bit (p : Nat → Prop) [DecidablePred p] : ∀ n i, (bN p n).testBit i = (decide (i < n) && decide (p i))
  | 0, i => by simp [bN]
  | n + 1, i => by
    unfold bN
    by_cases h : p n
    · rw [if_pos h, Nat.testBit_or, bN_bit p n i, Nat.one_shiftLeft, Nat.testBit_two_pow]
      by_cases e : n = i
      · subst e; simp [h]
      · by_cases l : i < n
        · simp [l, e, show i < n + 1 by omega]
        · simp [l, e, show ¬ i < n + 1 by omega]
    · rw [if_neg h, bN_bit p n i]
      by_cases e : n = i
      · subst e; simp [h]
      · by_cases l : i < n
        · simp [l, show i < n + 1 by omega]
        · simp [l, show ¬ i < n + 1 by omega]
theorem bN_congr {p q : Nat → Prop} [DecidablePred p] [DecidablePred q] : ∀ n, (∀ k, k < n → (p k ↔ q k)) → bN p n = bN q n
  | 0, _ => rfl
  | n + 1, h => by
    unfold bN
    rw [bN_congr n fun k hk => h k (by omega)]
    by_cases hp : p n
    · rw [if_pos hp, if_pos ((h n (by omega)).mp hp)]
    · rw [if_neg hp, if_neg fun e => hp ((h n (by omega)).mpr e)]
theorem bN_lt (p : Nat → Prop) [DecidablePred p] (n : Nat) : bN p n < 2 ^ n := by
  apply Nat.lt_pow_two_of_testBit
  intro i hi
  rw [bN_bit]
  simp [show ¬ i < n by omega]
theorem or1 (a k : Nat) (hk : k < 32) : iN a ||| ((1 : Int32) <<< (iN k &&& 31)) = iN (a ||| (1 <<< k)) := by
  rw [show (1 : Int32) = iN 1 from rfl, iN_shl hk, iN_or]
theorem or0 (x : Int32) : x ||| 0 = x := by simp
/-- how many bits -/
def bcn (n : Nat) : Nat := cntW (fun k => n.testBit k = true) 14
theorem bcn_le (n : Nat) : bcn n ≤ 14 := cntW_le _ 14
set_option maxRecDepth 100000 in
theorem bc_ok : ∀ n, n < 128 → ((((((((iN n - ((jushr (iN n) 1) &&& 1431655765)) &&& 858993459) + ((jushr (iN n - ((jushr (iN n) 1) &&& 1431655765)) 2) &&& 858993459)) + (jushr (((iN n - ((jushr (iN n) 1) &&& 1431655765)) &&& 858993459) + ((jushr (iN n - ((jushr (iN n) 1) &&& 1431655765)) 2) &&& 858993459)) 4)) &&& 252645135) + (jushr (((((iN n - ((jushr (iN n) 1) &&& 1431655765)) &&& 858993459) + ((jushr (iN n - ((jushr (iN n) 1) &&& 1431655765)) 2) &&& 858993459)) + (jushr (((iN n - ((jushr (iN n) 1) &&& 1431655765)) &&& 858993459) + ((jushr (iN n - ((jushr (iN n) 1) &&& 1431655765)) 2) &&& 858993459)) 4)) &&& 252645135) 8)) + (jushr ((((((iN n - ((jushr (iN n) 1) &&& 1431655765)) &&& 858993459) + ((jushr (iN n - ((jushr (iN n) 1) &&& 1431655765)) 2) &&& 858993459)) + (jushr (((iN n - ((jushr (iN n) 1) &&& 1431655765)) &&& 858993459) + ((jushr (iN n - ((jushr (iN n) 1) &&& 1431655765)) 2) &&& 858993459)) 4)) &&& 252645135) + (jushr (((((iN n - ((jushr (iN n) 1) &&& 1431655765)) &&& 858993459) + ((jushr (iN n - ((jushr (iN n) 1) &&& 1431655765)) 2) &&& 858993459)) + (jushr (((iN n - ((jushr (iN n) 1) &&& 1431655765)) &&& 858993459) + ((jushr (iN n - ((jushr (iN n) 1) &&& 1431655765)) 2) &&& 858993459)) 4)) &&& 252645135) 8)) 16)) &&& 63) = iN (bcn n) := by decide +kernel
section BITS
variable {L : Nat} {xs : Nat → Int32} {f : Hp} {Q : Int32 → Hp → Prop}
theorem c_bitCount {n : Nat} (hn : n < 128) (h : Q (iN (bcn n)) f) : CI L xs xm_ji_bitCount [.int (iN n)] f Q := by
  refine t_ji_bitCount_0 ?_
  rw [bc_ok n hn]
  exact h
theorem r_bitsOf {n : Nat} (hn : n < 128) (h : Q (iN (bcn n)) f) : CI L xs xm_Mo_bitsOf [.int (iN n)] f Q := by
  refine t_Mo_bitsOf_0 ?_
  refine for0 14 (fun k l g => l = [.int (iN n), .int (iN (cntW (fun k => n.testBit k = true) k)), .int (iN k)] ∧ g = f) ⟨rfl, rfl⟩ ?_ ?_
  · rintro k l g hk ⟨rfl, rfl⟩ kk
    refine t_Mo_bitsOf_4 (brT ((iN_lt (b := 14) (by omega) (by omega)).mpr (by omega)) ?_)
    rw [bit1 (by omega) (by omega), iN_add, iN_inc]
    refine kk _ _ ⟨?_, rfl⟩
    congr 4
    show _ = cntW _ (k + 1)
    rw [cntW_s]
    by_cases hb : n.testBit k = true
    · rw [if_pos hb, if_pos hb]
    · rw [if_neg hb, if_neg hb]; rfl
  · rintro l g ⟨rfl, rfl⟩
    exact t_Mo_bitsOf_4 (brF (fun z => absurd ((iN_lt (b := 14) (by omega) (by omega)).mp z) (by omega)) h)
theorem c_hasBit {n k : Nat} (hn : n < 2147483648) (hk : k < 32) (h1 : n.testBit k = true → Q 1 f) (h0 : n.testBit k = false → Q 0 f) : CI L xs xm_TP_hasBit [.int (iN n), .int (iN k)] f Q := by
  refine t_TP_hasBit_0 ?_
  rw [bit1 hn hk]
  cases hb : n.testBit k with
  | true => exact brF (by decide) (h1 hb)
  | false => exact brT (by decide) (h0 hb)
theorem r_isLiar {n k : Nat} (hl : f 400 17 = iN n) (hn : n < 2147483648) (hk : k < 32) (h1 : n.testBit k = true → Q 1 f) (h0 : n.testBit k = false → Q 0 f) : CI L xs xm_Mo_isLiar [.ref 400, .int (iN k)] f Q := by
  refine t_Mo_isLiar_0 ?_
  rw [hl, bit1 hn hk]
  cases hb : n.testBit k with
  | true => exact brT (by decide) (h1 hb)
  | false => exact brF (by decide) (h0 hb)
theorem c_members {c F : Nat} (kc : xS0 L c = (1, 0)) (h : f c 0 = iN F) (hq : Q (iN (3 * F + 1)) f) : CI L xs xm_Co_members [.ref c] f Q := by
  refine t_Co_members_0 kc ?_
  rw [h]
  have : 3 * iN F + 1 = iN (3 * F + 1) := by simp only [lit, iN_add, iN_mul]
  rw [this]; exact hq
theorem c_quorumSize {c F : Nat} (kc : xS0 L c = (1, 0)) (h : f c 0 = iN F) (hq : Q (iN (2 * F + 1)) f) : CI L xs xm_Co_quorumSize [.ref c] f Q := by
  refine t_Co_quorumSize_0 kc ?_
  rw [h]
  have : 2 * iN F + 1 = iN (2 * F + 1) := by simp only [lit, iN_add, iN_mul]
  rw [this]; exact hq
theorem c_cohas {c F : Nat} {x : Int32} (kc : xS0 L c = (1, 0)) (h : f c 0 = iN F) (hF : F ≤ 2) (h1 : ∀ k, k < 3 * F + 1 → x = iN k → Q 1 f) (h0 : (∀ k, k < 3 * F + 1 → ¬ x = iN k) → Q 0 f) : CI L xs xm_Co_has [.ref c, .int x] f Q := by
  refine t_Co_has_0 kc ⟨fun p => h0 fun k hk e => ?_, fun p => c_members kc h ⟨fun p2 => ?_, fun p2 => h0 fun k hk e => ?_⟩⟩
  · subst e; exact iN_nn (by omega) p
  · obtain ⟨k, hk, e⟩ := iN_ex (by omega) p p2
    exact h1 k hk e
  · subst e; exact p2 ((iN_lt (by omega) (by omega)).mpr hk)
theorem r_isMember {F : Nat} {x : Int32} (h : f 400 13 = iN (3 * F + 1)) (hF : F ≤ 2) (h1 : ∀ k, k < 3 * F + 1 → x = iN k → Q 1 f) (h0 : (∀ k, k < 3 * F + 1 → ¬ x = iN k) → Q 0 f) : CI L xs xm_Mo_isMember [.ref 400, .int x] f Q := by
  refine t_Mo_isMember_0 (r_isIn0 (n := 3 * F + 1) (by omega) (by rw [h]) (fun j hj e => ⟨Or.inr rfl, h1 j hj e⟩) fun q => ⟨Or.inl rfl, h0 q⟩)
/-- honest: a member, and no liar -/
theorem c_coHonest {c F l : Nat} {x : Int32} (kc : xS0 L c = (1, 0)) (h : f c 0 = iN F) (hF : F ≤ 2) (hl : f c 3 = iN l) (hl2 : l < 128) (h1 : ∀ k, k < 3 * F + 1 → l.testBit k = false → x = iN k → Q 1 f) (h0 : (∀ k, k < 3 * F + 1 → l.testBit k = false → ¬ x = iN k) → Q 0 f) : CI L xs xm_Co_isHonest [.ref c, .int x] f Q := by
  refine t_Co_isHonest_0 kc (c_cohas kc h hF (fun k hk e => br1 ?_) fun q => br0 (h0 fun k hk _ => q k hk))
  subst e
  rw [hl]
  refine c_hasBit (by omega) (by omega) (fun hb => br1 (h0 fun k' hk' hb' e => ?_)) fun hb => br0 (h1 k hk hb rfl)
  rw [iN_inj (by omega) (by omega)] at e
  subst e
  rw [hb] at hb'
  cases hb'
theorem c_isQuorumSet {c F n : Nat} (kc : xS0 L c = (1, 0)) (h : f c 0 = iN F) (hF : F ≤ 2) (hn : n < 128) (h1 : bcn n = 2 * F + 1 → Q 1 f) (h0 : ¬ bcn n = 2 * F + 1 → Q 0 f) : CI L xs xm_Co_isQuorumSet [.ref c, .int (iN n)] f Q := by
  have := bcn_le n
  refine t_Co_isQuorumSet_0 kc (c_bitCount hn (c_quorumSize kc h ⟨fun e => h1 ?_, fun e => h0 fun z => e (by rw [z])⟩))
  rwa [iN_inj (by omega) (by omega)] at e
end BITS
theorem pow7 {F : Nat} (h : F ≤ 2) : 2 ^ (3 * F + 1) ≤ 128 ∧ 1 ≤ 2 ^ (3 * F + 1) := by
  have : F = 0 ∨ F = 1 ∨ F = 2 := by omega
  rcases this with e | e | e <;> subst e <;> decide
theorem shl1 {m : Nat} (h : m < 32) : (1 : Int32) <<< (iN m &&& 31) = iN (2 ^ m) := by
  rw [show (1 : Int32) = iN 1 from rfl, iN_shl h, Nat.one_shiftLeft]
