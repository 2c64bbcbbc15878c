/-! NUMBERS, LOOPS, ROWS -/
theorem iN_inj {a b : Nat} (ha : a < 2147483648) (hb : b < 2147483648) : iN a = iN b ↔ a = b := by
  rw [← Int32.toInt_inj, iN_toInt ha, iN_toInt hb]; omega
theorem iN_lt {a b : Nat} (ha : a < 2147483648) (hb : b < 2147483648) : iN a < iN b ↔ a < b := by
  rw [Int32.lt_iff_toInt_lt, iN_toInt ha, iN_toInt hb]; omega
theorem iN_add (a b : Nat) : iN a + iN b = iN (a + b) := by unfold iN; exact (Int32.ofNat_add a b).symm
theorem iN_mul (a b : Nat) : iN a * iN b = iN (a * b) := by unfold iN; exact (Int32.ofNat_mul a b).symm
theorem iN_sub {a b : Nat} (h : b ≤ a) : iN a - iN b = iN (a - b) := by
  have e : iN a = iN (a - b) + iN b := by rw [iN_add]; congr 1; omega
  rw [e]
  apply Int32.toInt_inj.mp
  simp
theorem iN_dec {a : Nat} (h : 1 ≤ a) : iN a + (-1) = iN (a - 1) := by
  rw [← iN_sub h, Int32.sub_eq_add_neg]; rfl
theorem iN_inc (a : Nat) : iN a + 1 = iN (a + 1) := iN_add a 1
theorem iN_ex {x : Int32} {n : Nat} (hn : n < 2147483648) (h0 : ¬ x < 0) (h1 : x < iN n) : ∃ k, k < n ∧ x = iN k := by
  rw [Int32.lt_iff_toInt_lt] at h0 h1
  rw [iN_toInt hn] at h1
  have h0' : ¬ x.toInt < 0 := h0
  refine ⟨x.toInt.toNat, by omega, ?_⟩
  rw [← Int32.toInt_inj, iN_toInt (by omega)]
  omega
theorem iN_neg {a : Nat} (h : a < 2147483648) : ¬ iN a < 0 := iN_nn h
theorem iN_ne1 {a : Nat} (h : a < 2147483648) : ¬ iN a = -1 := by
  rw [← Int32.toInt_inj, iN_toInt h]
  show ¬ (a : Int) = -1
  omega
theorem jrem_iN {a b : Nat} (ha : a < 2147483648) (hb : b < 2147483648) : jrem (iN a) (iN b) = iN (a % b) := by
  unfold jrem
  have e : iN a / iN b = iN (a / b) := by
    rw [← Int32.toInt_inj, Int32.toInt_div, iN_toInt ha, iN_toInt hb, iN_toInt (Nat.lt_of_le_of_lt (Nat.div_le_self a b) ha)]
    have e1 : (a : Int).tdiv (b : Int) = ((a / b : Nat) : Int) := by
      rw [Int.ofNat_tdiv]
    rw [e1]
    have h1 : a / b < 2147483648 := Nat.lt_of_le_of_lt (Nat.div_le_self a b) ha
    rw [Int.bmod_def]
    generalize a / b = q at *
    omega
  rw [e, iN_mul, iN_sub (Nat.div_mul_le_self a b)]
  congr 1
  have := Nat.div_add_mod' a b
  omega
theorem br1 {X T : Prop} (h : T) : ((1 : Int32) = 0 → X) ∧ (¬ (1 : Int32) = 0 → T) := ⟨fun e => absurd e (by decide), fun _ => h⟩
theorem br0 {X T : Prop} (h : T) : ((0 : Int32) = 0 → T) ∧ (¬ (0 : Int32) = 0 → X) := ⟨fun _ => h, fun e => absurd rfl e⟩
theorem brT {c X T : Prop} (hc : c) (h : T) : (c → T) ∧ (¬ c → X) := ⟨fun _ => h, fun e => absurd hc e⟩
theorem brF {c X T : Prop} (hc : ¬ c) (h : T) : (c → X) ∧ (¬ c → T) := ⟨fun e => absurd e hc, fun _ => h⟩
/-- rows -/
theorem xu_eq {f : Hp} {a k : Nat} {v : Int32} : xu f a k v a k = v := by simp [xu, upd]
theorem xu_a {f : Hp} {a a' k : Nat} {v : Int32} (h : ¬ a' = a) : xu f a k v a' = f a' := by simp [xu, h]
theorem xu_k {f : Hp} {a k k' : Nat} {v : Int32} (h : ¬ k' = k) : xu f a k v a k' = f a k' := by simp [xu, upd, h]
theorem xu_at {f : Hp} {a a' k k' : Nat} {v : Int32} : xu f a k v a' k' = if a' = a ∧ k' = k then v else f a' k' := by
  unfold xu upd
  by_cases h1 : a' = a
  · subst h1
    by_cases h2 : k' = k <;> simp [h2]
  · simp [h1]
theorem xuc_eq {f : Hp} {a : Nat} {r : Nat → Int32} : xuc f a r a = r := by simp [xuc]
theorem xuc_a {f : Hp} {a a' : Nat} {r : Nat → Int32} (h : ¬ a' = a) : xuc f a r a' = f a' := by simp [xuc, h]
theorem xuc_at {f : Hp} {a a' k' : Nat} {r : Nat → Int32} : xuc f a r a' k' = if a' = a then r k' else f a' k' := by
  unfold xuc
  by_cases h1 : a' = a <;> simp [h1]
theorem cpy_at {s d : Nat → Int32} {n k : Nat} : va_cpy s d 0 0 n k = if k < n then s k else d k := by
  unfold va_cpy
  by_cases h : k < n <;> simp [h]
/-- a loop by its invariant: k runs up to n -/
theorem for_inv {L : Nat} {xs : Nat → Int32} {m : XM} {pc : Nat} {Q : Option Value → Hp → Prop} (n : Nat) (I : Nat → List Value → Hp → Prop) (step : ∀ k l g, k < n → I k l g → (∀ l' g', I (k + 1) l' g' → Wp L xs m pc l' [] g' Q) → Wp L xs m pc l [] g Q) (e : ∀ l g, I n l g → Wp L xs m pc l [] g Q) : ∀ j k l g, k + j = n → I k l g → Wp L xs m pc l [] g Q
  | 0, k, l, g, hk, h => by
    have : k = n := by omega
    subst this
    exact e l g h
  | j + 1, k, l, g, hk, h => step k l g (by omega) h fun l' g' h' => for_inv n I step e j (k + 1) l' g' (by omega) h'
theorem for0 {L : Nat} {xs : Nat → Int32} {m : XM} {pc : Nat} {Q : Option Value → Hp → Prop} (n : Nat) (I : Nat → List Value → Hp → Prop) {l : List Value} {g : Hp} (i0 : I 0 l g) (step : ∀ k l g, k < n → I k l g → (∀ l' g', I (k + 1) l' g' → Wp L xs m pc l' [] g' Q) → Wp L xs m pc l [] g Q) (e : ∀ l g, I n l g → Wp L xs m pc l [] g Q) : Wp L xs m pc l [] g Q := for_inv n I step e n 0 l g (by omega) i0
/-- the first n numbers that fit, as bits; how many fit -/
def bitsW (p : Nat → Prop) [DecidablePred p] : Nat → Int32
  | 0 => 0
  | n + 1 => if p n then bitsW p n ||| ((1 : Int32) <<< (iN n &&& 31)) else bitsW p n
def cntW (p : Nat → Prop) [DecidablePred p] : Nat → Nat
  | 0 => 0
  | n + 1 => if p n then cntW p n + 1 else cntW p n
theorem cntW_le (p : Nat → Prop) [DecidablePred p] : ∀ n, cntW p n ≤ n
  | 0 => Nat.le_refl 0
  | n + 1 => by
    have := cntW_le p n
    unfold cntW
    split <;> omega
theorem cntW_congr {p q : Nat → Prop} [DecidablePred p] [DecidablePred q] : ∀ n, (∀ k, k < n → (p k ↔ q k)) → cntW p n = cntW q n
  | 0, _ => rfl
  | n + 1, h => by
    unfold cntW
    rw [cntW_congr n fun k hk => h k (by omega)]
    by_cases hp : p n
    · rw [if_pos hp, if_pos ((h n (by omega)).mp hp)]
    · rw [if_neg hp, if_neg fun e => hp ((h n (by omega)).mpr e)]
theorem bitsW_congr {p q : Nat → Prop} [DecidablePred p] [DecidablePred q] : ∀ n, (∀ k, k < n → (p k ↔ q k)) → bitsW p n = bitsW q n
  | 0, _ => rfl
  | n + 1, h => by
    unfold bitsW
    rw [bitsW_congr n fun k hk => h k (by omega)]
    by_cases hp : p n
    · rw [if_pos hp, if_pos ((h n (by omega)).mp hp)]
    · rw [if_neg hp, if_neg fun e => hp ((h n (by omega)).mpr e)]
