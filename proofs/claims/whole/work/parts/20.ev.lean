/-! RUNS, WITHOUT FUEL: what the contracts speak of -/
theorem xexec_le : ∀ (n k : Nat) {m : XM} {pc : Nat} {xl st : List Value} {σ : XS} {q : Option Value × XS}, xexec n m pc xl st σ = some q → xexec (n + k) m pc xl st σ = some q
  | 0, k, m, pc, xl, st, σ, q, h => by cases h
  | n + 1, k, m, pc, xl, st, σ, q, h => by
    rw [show n + 1 + k = (n + k) + 1 by omega]
    unfold xexec at h ⊢
    cases hat : xmAt m pc with
    | none => simp only [hat] at h; cases h
    | some w =>
      obtain ⟨ins, len⟩ := w
      simp only [hat] at h ⊢
      cases hcl : xCall m ins st σ with
      | some w =>
        obtain ⟨cm, as, rest⟩ := w
        simp only [hcl] at h ⊢
        cases hce : xexec n cm 0 (xIni as (xmL cm)) [] σ with
        | none => simp only [hce] at h; cases h
        | some w =>
          obtain ⟨v, σ1⟩ := w
          simp only [hce] at h
          rw [xexec_le n k hce]
          exact xexec_le n k h
      | none =>
        simp only [hcl] at h ⊢
        cases hrt : xRet m ins st with
        | some v =>
          simp only [hrt] at h ⊢
          exact h
        | none =>
          simp only [hrt] at h ⊢
          cases hst : xstep m pc ins len xl st σ with
          | none => simp only [hst] at h; cases h
          | some f =>
            obtain ⟨pc', xl', st', σ'⟩ := f
            simp only [hst] at h ⊢
            exact xexec_le n k h
/-- from here the method answers r, and leaves τ -/
def Ev (m : XM) (pc : Nat) (xl st : List Value) (σ : XS) (r : Option Value) (τ : XS) : Prop := ∃ n, xexec n m pc xl st σ = some (r, τ)
theorem Ev.step {m : XM} {pc len pc' : Nat} {ins : Instr} {xl st xl' st' : List Value} {σ σ' τ : XS} {r : Option Value} (hat : xmAt m pc = some (ins, len)) (hc : xCall m ins st σ = none) (hr : xRet m ins st = none) (h : xstep m pc ins len xl st σ = some (pc', xl', st', σ')) (k : Ev m pc' xl' st' σ' r τ) : Ev m pc xl st σ r τ := by
  obtain ⟨n, hn⟩ := k
  refine ⟨n + 1, ?_⟩
  unfold xexec
  simp only [hat, hc, hr, h]
  exact hn
theorem Ev.ret {m : XM} {pc len : Nat} {ins : Instr} {xl st : List Value} {σ : XS} {r : Option Value} (hat : xmAt m pc = some (ins, len)) (hc : xCall m ins st σ = none) (hr : xRet m ins st = some r) : Ev m pc xl st σ r σ := by
  refine ⟨1, ?_⟩
  unfold xexec
  simp only [hat, hc, hr]
theorem Ev.call {m cm : XM} {pc len : Nat} {ins : Instr} {xl st as rest : List Value} {σ σ1 τ : XS} {r v : Option Value} (hat : xmAt m pc = some (ins, len)) (hc : xCall m ins st σ = some (cm, as, rest)) (h1 : Ev cm 0 (xIni as (xmL cm)) [] σ v σ1) (k : Ev m (pc + len) xl (v.toList ++ rest) σ1 r τ) : Ev m pc xl st σ r τ := by
  obtain ⟨n1, hn1⟩ := h1
  obtain ⟨n2, hn2⟩ := k
  refine ⟨n1 + n2 + 1, ?_⟩
  unfold xexec
  simp only [hat, hc, xexec_le n1 n2 hn1]
  rw [Nat.add_comm n1 n2]
  exact xexec_le n2 n1 hn2
section EV
variable {L : Nat} {xs : Nat → Int32} {f : Nat → Nat → Int32} {m : XM} {pc len : Nat} {xl st : List Value} {σ τ : XS} {r : Option Value}
theorem xB_I {a k : Nat} (h : a < 1000000) : xsI (xB L xs f) a k = f a k := by
  show (if a < 1000000 then f a else xoI xs a) k = _
  rw [if_pos h]
theorem xS0_lt {a : Nat} (h : (xS0 L a).1 ≤ 29) : a < 435 := by
  rcases Nat.lt_or_ge a 435 with q | q
  · exact q
  · exfalso
    unfold xS0 at h
    rw [if_neg (by omega)] at h
    unfold xoS at h
    repeat' split at h
    all_goals first | (simp at h; done) | omega
theorem xB_put {a k : Nat} {v : Int32} (h : a < 1000000) : xPut (xB L xs f) a k v = xB L xs (xu f a k v) := by
  unfold xPut xB
  congr 3
  funext a' k'
  show (if a' = a then upd (if a < 1000000 then f a else xoI xs a) k v else (if a' < 1000000 then f a' else xoI xs a')) k' = (if a' < 1000000 then (if a' = a then upd (f a) k v else f a') else xoI xs a') k'
  by_cases e : a' = a
  · subst e
    rw [if_pos rfl, if_pos h, if_pos h, if_pos rfl]
  · rw [if_neg e, if_neg e]
theorem xB_row {a : Nat} {g : Nat → Int32} (h : a < 1000000) : xRow (xB L xs f) a g = xB L xs (xuc f a g) := by
  unfold xRow xB
  congr 3
  funext a' k'
  show (if a' = a then g else (if a' < 1000000 then f a' else xoI xs a')) k' = (if a' < 1000000 then (if a' = a then g else f a') else xoI xs a') k'
  by_cases e : a' = a
  · subst e
    rw [if_pos rfl, if_pos h, if_pos rfl]
  · rw [if_neg e, if_neg e]
end EV
/-! WHAT A METHOD DOES OVER THE STATES OF THE LAW: Q of its answer and of the numbers behind it -/
abbrev Hp : Type := Nat → Nat → Int32
def Wp (L : Nat) (xs : Nat → Int32) (m : XM) (pc : Nat) (xl st : List Value) (f : Hp) (Q : Option Value → Hp → Prop) : Prop := ∃ r g, Ev m pc xl st (xB L xs f) r (xB L xs g) ∧ Q r g
def QI (Q : Int32 → Hp → Prop) : Option Value → Hp → Prop := fun r g => ∃ v, r = some (.int v) ∧ Q v g
def QV (Q : Hp → Prop) : Option Value → Hp → Prop := fun r g => r = none ∧ Q g
def QL (Q : Int64 → Hp → Prop) : Option Value → Hp → Prop := fun r g => ∃ v, r = some (.long v) ∧ Q v g
def QR (Q : Nat → Hp → Prop) : Option Value → Hp → Prop := fun r g => ∃ v, r = some (.ref v) ∧ Q v g
def Cl (L : Nat) (xs : Nat → Int32) (c : XM) (as : List Value) (f : Hp) (Q : Option Value → Hp → Prop) : Prop := Wp L xs c 0 (xIni as (xmL c)) [] f Q
def CI (L : Nat) (xs : Nat → Int32) (c : XM) (as : List Value) (f : Hp) (Q : Int32 → Hp → Prop) : Prop := Cl L xs c as f (QI Q)
def CV (L : Nat) (xs : Nat → Int32) (c : XM) (as : List Value) (f : Hp) (Q : Hp → Prop) : Prop := Cl L xs c as f (QV Q)
def CL (L : Nat) (xs : Nat → Int32) (c : XM) (as : List Value) (f : Hp) (Q : Int64 → Hp → Prop) : Prop := Cl L xs c as f (QL Q)
def CR (L : Nat) (xs : Nat → Int32) (c : XM) (as : List Value) (f : Hp) (Q : Nat → Hp → Prop) : Prop := Cl L xs c as f (QR Q)
def iN (k : Nat) : Int32 := Int32.ofNat k
def jrem (x y : Int32) : Int32 := x - x / y * y
def imax (x y : Int32) : Int32 := if x < y then y else x
def imin (x y : Int32) : Int32 := if y < x then y else x
def jushr (x y : Int32) : Int32 := (x.toUInt32 >>> (y.toUInt32 &&& Int32.toUInt32 31)).toInt32
def jchar (x : Int32) : Int32 := (x.toUInt32 % 65536).toInt32
theorem iN_nc {k : Nat} (h : k < 2147483648) : (iN k).toNatClampNeg = k := by
  unfold iN
  rw [Int32.toNatClampNeg_ofNat_of_lt h]
theorem iN_toInt {k : Nat} (h : k < 2147483648) : (iN k).toInt = k := by
  unfold iN
  rw [Int32.toInt_ofNat_of_lt h]
theorem iN_nn {k : Nat} (h : k < 2147483648) : ¬ iN k < 0 := by
  rw [Int32.lt_iff_toInt_lt, iN_toInt h]
  show ¬ (k : Int) < 0
  omega
theorem xIn_iN {k n : Nat} (h : k < n) (hn : n < 2147483648) : xIn (iN k) n = true := by
  unfold xIn
  rw [iN_nc (by omega)]
  have h1 : decide (iN k < 0) = false := by simpa using iN_nn (k := k) (by omega)
  have h2 : decide (n ≤ k) = false := by simpa using h
  rw [h1, h2]; rfl
section ROWS
variable {L : Nat} {xs : Nat → Int32} {f g : Hp} {m : XM} {pc len pc' : Nat} {xl xl' st st' : List Value} {Q Q' : Option Value → Hp → Prop}
theorem Wp.mono (h : Wp L xs m pc xl st f Q) (k : ∀ r g, Q r g → Q' r g) : Wp L xs m pc xl st f Q' := by
  obtain ⟨r, g, h1, h2⟩ := h
  exact ⟨r, g, h1, k r g h2⟩
theorem w_step {ins : Instr} (hat : xmAt m pc = some (ins, len)) (hc : xCall m ins st (xB L xs f) = none) (hr : xRet m ins st = none) (h : xstep m pc ins len xl st (xB L xs f) = some (pc', xl', st', xB L xs g)) (k : Wp L xs m pc' xl' st' g Q) : Wp L xs m pc xl st f Q := by
  obtain ⟨r, g', h1, h2⟩ := k
  exact ⟨r, g', Ev.step hat hc hr h h1, h2⟩
theorem w_ret {ins : Instr} {r : Option Value} (hat : xmAt m pc = some (ins, len)) (hc : xCall m ins st (xB L xs f) = none) (hr : xRet m ins st = some r) (k : Q r f) : Wp L xs m pc xl st f Q := ⟨r, f, Ev.ret hat hc hr, k⟩
theorem w_call {ins : Instr} {cm : XM} {as rest : List Value} (hat : xmAt m pc = some (ins, len)) (hp : pc + len = pc') (hc : xCall m ins st (xB L xs f) = some (cm, as, rest)) (h1 : Cl L xs cm as f (fun r g => Wp L xs m pc' xl (r.toList ++ rest) g Q)) : Wp L xs m pc xl st f Q := by
  obtain ⟨r, g, e1, r', g', e2, e3⟩ := h1
  subst hp
  exact ⟨r', g', Ev.call hat hc e1 e2, e3⟩
theorem w_iconst {i : Int} {v : Int32} (hat : xmAt m pc = some (.iconst i, len)) (hp : pc + len = pc') (hv : Int32.ofInt i = v) (k : Wp L xs m pc' xl (.int v :: st) f Q) : Wp L xs m pc xl st f Q := by
  subst hp; subst hv; exact w_step hat rfl rfl rfl k
theorem w_bipush {i : Int} {v : Int32} (hat : xmAt m pc = some (.bipush i, len)) (hp : pc + len = pc') (hv : (Int8.ofInt i).toInt32 = v) (k : Wp L xs m pc' xl (.int v :: st) f Q) : Wp L xs m pc xl st f Q := by
  subst hp; subst hv; exact w_step hat rfl rfl rfl k
theorem w_sipush {i : Int} {v : Int32} (hat : xmAt m pc = some (.sipush i, len)) (hp : pc + len = pc') (hv : (Int16.ofInt i).toInt32 = v) (k : Wp L xs m pc' xl (.int v :: st) f Q) : Wp L xs m pc xl st f Q := by
  subst hp; subst hv; exact w_step hat rfl rfl rfl k
theorem w_lconst {i : Fin 2} {v : Int64} (hat : xmAt m pc = some (.lconst i, len)) (hp : pc + len = pc') (hv : Int64.ofNat (i : Nat) = v) (k : Wp L xs m pc' xl (.long v :: st) f Q) : Wp L xs m pc xl st f Q := by
  subst hp; subst hv; exact w_step hat rfl rfl rfl k
theorem w_ldc {ix q : Nat} {v : Int32} (hat : xmAt m pc = some (.ldc ix, len)) (hp : pc + len = pc') (hv : xNum (xmOwn m) ix = some (v, q)) (k : Wp L xs m pc' xl (.int v :: st) f Q) : Wp L xs m pc xl st f Q := by
  subst hp; exact w_step hat rfl rfl (by unfold xstep; simp only [hv]) k
theorem w_ldcT {ix i : Nat} (hat : xmAt m pc = some (.ldc ix, len)) (hp : pc + len = pc') (hn : xNum (xmOwn m) ix = none) (hv : xTxt (xmOwn m) ix = some i) (k : Wp L xs m pc' xl (.ref (1000010 + i) :: st) f Q) : Wp L xs m pc xl st f Q := by
  subst hp; exact w_step hat rfl rfl (by unfold xstep; simp only [hv, hn, Option.map_some]) k
theorem w_ldcw {ix q : Nat} {v : Int32} (hat : xmAt m pc = some (.ldc_w ix, len)) (hp : pc + len = pc') (hv : xNum (xmOwn m) ix = some (v, q)) (k : Wp L xs m pc' xl (.int v :: st) f Q) : Wp L xs m pc xl st f Q := by
  subst hp; exact w_step hat rfl rfl (by unfold xstep; simp only [hv, Option.map_some]) k
theorem w_ldc2 {ix q : Nat} {v : Int64} (hat : xmAt m pc = some (.ldc2_w ix, len)) (hp : pc + len = pc') (hv : xLng (xmOwn m) ix = some (v, q)) (k : Wp L xs m pc' xl (.long v :: st) f Q) : Wp L xs m pc xl st f Q := by
  subst hp; exact w_step hat rfl rfl (by unfold xstep; simp only [hv, Option.map_some]) k
theorem w_iload_n {i : Fin 4} {x : Int32} (hat : xmAt m pc = some (.iload_n i, len)) (hp : pc + len = pc') (hl : xl[(i : Nat)]? = some (.int x)) (k : Wp L xs m pc' xl (.int x :: st) f Q) : Wp L xs m pc xl st f Q := by
  subst hp; exact w_step hat rfl rfl (by unfold xstep xldI; simp only [hl]) k
theorem w_iload {i : Nat} {x : Int32} (hat : xmAt m pc = some (.iload i, len)) (hp : pc + len = pc') (hl : xl[i]? = some (.int x)) (k : Wp L xs m pc' xl (.int x :: st) f Q) : Wp L xs m pc xl st f Q := by
  subst hp; exact w_step hat rfl rfl (by unfold xstep xldI; simp only [hl]) k
theorem w_aload_n {i : Fin 4} {x : Nat} (hat : xmAt m pc = some (.aload_n i, len)) (hp : pc + len = pc') (hl : xl[(i : Nat)]? = some (.ref x)) (k : Wp L xs m pc' xl (.ref x :: st) f Q) : Wp L xs m pc xl st f Q := by
  subst hp; exact w_step hat rfl rfl (by unfold xstep xldA; simp only [hl]) k
theorem w_aload {i : Nat} {x : Nat} (hat : xmAt m pc = some (.aload i, len)) (hp : pc + len = pc') (hl : xl[i]? = some (.ref x)) (k : Wp L xs m pc' xl (.ref x :: st) f Q) : Wp L xs m pc xl st f Q := by
  subst hp; exact w_step hat rfl rfl (by unfold xstep xldA; simp only [hl]) k
theorem w_lload_n {i : Fin 4} {x : Int64} (hat : xmAt m pc = some (.lload_n i, len)) (hp : pc + len = pc') (hl : xl[(i : Nat)]? = some (.long x)) (k : Wp L xs m pc' xl (.long x :: st) f Q) : Wp L xs m pc xl st f Q := by
  subst hp; exact w_step hat rfl rfl (by unfold xstep xldL; simp only [hl]) k
theorem w_istore_n {i : Fin 4} {x : Int32} (hat : xmAt m pc = some (.istore_n i, len)) (hp : pc + len = pc') (hl : xSt1 xl i (.int x) = some xl') (k : Wp L xs m pc' xl' st f Q) : Wp L xs m pc xl (.int x :: st) f Q := by
  subst hp; exact w_step hat rfl rfl (by unfold xstep xstI; simp only [xo1, hl, Option.map_some]) k
theorem w_istore {i : Nat} {x : Int32} (hat : xmAt m pc = some (.istore i, len)) (hp : pc + len = pc') (hl : xSt1 xl i (.int x) = some xl') (k : Wp L xs m pc' xl' st f Q) : Wp L xs m pc xl (.int x :: st) f Q := by
  subst hp; exact w_step hat rfl rfl (by unfold xstep xstI; simp only [xo1, hl, Option.map_some]) k
theorem w_astore_n {i : Fin 4} {x : Nat} (hat : xmAt m pc = some (.astore_n i, len)) (hp : pc + len = pc') (hl : xSt1 xl i (.ref x) = some xl') (k : Wp L xs m pc' xl' st f Q) : Wp L xs m pc xl (.ref x :: st) f Q := by
  subst hp; exact w_step hat rfl rfl (by unfold xstep xstA; simp only [xr1, hl, Option.map_some]) k
theorem w_astore {i : Nat} {x : Nat} (hat : xmAt m pc = some (.astore i, len)) (hp : pc + len = pc') (hl : xSt1 xl i (.ref x) = some xl') (k : Wp L xs m pc' xl' st f Q) : Wp L xs m pc xl (.ref x :: st) f Q := by
  subst hp; exact w_step hat rfl rfl (by unfold xstep xstA; simp only [xr1, hl, Option.map_some]) k
theorem w_lstore_n {i : Fin 4} {x : Int64} (hat : xmAt m pc = some (.lstore_n i, len)) (hp : pc + len = pc') (hl : xSt2 xl i (.long x) = some xl') (k : Wp L xs m pc' xl' st f Q) : Wp L xs m pc xl (.long x :: st) f Q := by
  subst hp; exact w_step hat rfl rfl (by unfold xstep xstL; simp only [hl, Option.map_some]) k
theorem w_iinc {i : Nat} {n : Int} {x v : Int32} (hat : xmAt m pc = some (.iinc i n, len)) (hp : pc + len = pc') (hl : xl[i]? = some (.int x)) (hv : x + Int32.ofInt n = v) (hl' : xSt1 xl i (.int v) = some xl') (k : Wp L xs m pc' xl' st f Q) : Wp L xs m pc xl st f Q := by
  subst hp; subst hv; exact w_step hat rfl rfl (by unfold xstep; simp only [hl, hl', Option.map_some]) k
theorem w_iadd {x y : Int32} (hat : xmAt m pc = some (.iadd, len)) (hp : pc + len = pc') (k : Wp L xs m pc' xl (.int (x + y) :: st) f Q) : Wp L xs m pc xl (.int y :: .int x :: st) f Q := by
  subst hp; exact w_step hat rfl rfl rfl k
theorem w_isub {x y : Int32} (hat : xmAt m pc = some (.isub, len)) (hp : pc + len = pc') (k : Wp L xs m pc' xl (.int (x - y) :: st) f Q) : Wp L xs m pc xl (.int y :: .int x :: st) f Q := by
  subst hp; exact w_step hat rfl rfl rfl k
theorem w_imul {x y : Int32} (hat : xmAt m pc = some (.imul, len)) (hp : pc + len = pc') (k : Wp L xs m pc' xl (.int (x * y) :: st) f Q) : Wp L xs m pc xl (.int y :: .int x :: st) f Q := by
  subst hp; exact w_step hat rfl rfl rfl k
theorem w_iand {x y : Int32} (hat : xmAt m pc = some (.iand, len)) (hp : pc + len = pc') (k : Wp L xs m pc' xl (.int (x &&& y) :: st) f Q) : Wp L xs m pc xl (.int y :: .int x :: st) f Q := by
  subst hp; exact w_step hat rfl rfl rfl k
theorem w_ior {x y : Int32} (hat : xmAt m pc = some (.ior, len)) (hp : pc + len = pc') (k : Wp L xs m pc' xl (.int (x ||| y) :: st) f Q) : Wp L xs m pc xl (.int y :: .int x :: st) f Q := by
  subst hp; exact w_step hat rfl rfl rfl k
theorem w_ixor {x y : Int32} (hat : xmAt m pc = some (.ixor, len)) (hp : pc + len = pc') (k : Wp L xs m pc' xl (.int (x ^^^ y) :: st) f Q) : Wp L xs m pc xl (.int y :: .int x :: st) f Q := by
  subst hp; exact w_step hat rfl rfl rfl k
theorem w_ishl {x y : Int32} (hat : xmAt m pc = some (.ishl, len)) (hp : pc + len = pc') (k : Wp L xs m pc' xl (.int (x <<< (y &&& 31)) :: st) f Q) : Wp L xs m pc xl (.int y :: .int x :: st) f Q := by
  subst hp; exact w_step hat rfl rfl rfl k
theorem w_ishr {x y : Int32} (hat : xmAt m pc = some (.ishr, len)) (hp : pc + len = pc') (k : Wp L xs m pc' xl (.int (x >>> (y &&& 31)) :: st) f Q) : Wp L xs m pc xl (.int y :: .int x :: st) f Q := by
  subst hp; exact w_step hat rfl rfl rfl k
theorem w_iushr {x y : Int32} (hat : xmAt m pc = some (.iushr, len)) (hp : pc + len = pc') (k : Wp L xs m pc' xl (.int (jushr x y) :: st) f Q) : Wp L xs m pc xl (.int y :: .int x :: st) f Q := by
  subst hp; exact w_step hat rfl rfl rfl k
theorem w_idiv {x y : Int32} (hat : xmAt m pc = some (.idiv, len)) (hp : pc + len = pc') (hy : y ≠ 0) (k : Wp L xs m pc' xl (.int (x / y) :: st) f Q) : Wp L xs m pc xl (.int y :: .int x :: st) f Q := by
  subst hp
  refine w_step hat rfl rfl ?_ k
  show xis (!decide (y = 0)) _ = _
  simp [xis, hy]
theorem w_irem {x y : Int32} (hat : xmAt m pc = some (.irem, len)) (hp : pc + len = pc') (hy : y ≠ 0) (k : Wp L xs m pc' xl (.int (jrem x y) :: st) f Q) : Wp L xs m pc xl (.int y :: .int x :: st) f Q := by
  subst hp
  refine w_step hat rfl rfl ?_ k
  show xis (!decide (y = 0)) _ = _
  simp [xis, hy, jrem]
theorem w_i2l {x : Int32} (hat : xmAt m pc = some (.i2l, len)) (hp : pc + len = pc') (k : Wp L xs m pc' xl (.long x.toInt64 :: st) f Q) : Wp L xs m pc xl (.int x :: st) f Q := by
  subst hp; exact w_step hat rfl rfl rfl k
theorem w_i2b {x : Int32} (hat : xmAt m pc = some (.i2b, len)) (hp : pc + len = pc') (k : Wp L xs m pc' xl (.int x.toInt8.toInt32 :: st) f Q) : Wp L xs m pc xl (.int x :: st) f Q := by
  subst hp; exact w_step hat rfl rfl rfl k
theorem w_i2c {x : Int32} (hat : xmAt m pc = some (.i2c, len)) (hp : pc + len = pc') (k : Wp L xs m pc' xl (.int (jchar x) :: st) f Q) : Wp L xs m pc xl (.int x :: st) f Q := by
  subst hp; exact w_step hat rfl rfl rfl k
theorem w_ladd {x y : Int64} (hat : xmAt m pc = some (.ladd, len)) (hp : pc + len = pc') (k : Wp L xs m pc' xl (.long (x + y) :: st) f Q) : Wp L xs m pc xl (.long y :: .long x :: st) f Q := by
  subst hp; exact w_step hat rfl rfl rfl k
theorem w_lsub {x y : Int64} (hat : xmAt m pc = some (.lsub, len)) (hp : pc + len = pc') (k : Wp L xs m pc' xl (.long (x - y) :: st) f Q) : Wp L xs m pc xl (.long y :: .long x :: st) f Q := by
  subst hp; exact w_step hat rfl rfl rfl k
theorem w_lmul {x y : Int64} (hat : xmAt m pc = some (.lmul, len)) (hp : pc + len = pc') (k : Wp L xs m pc' xl (.long (x * y) :: st) f Q) : Wp L xs m pc xl (.long y :: .long x :: st) f Q := by
  subst hp; exact w_step hat rfl rfl rfl k
theorem w_lcmp {x y : Int64} (hat : xmAt m pc = some (.lcmp, len)) (hp : pc + len = pc') (k : Wp L xs m pc' xl (.int (lg_cmp x y) :: st) f Q) : Wp L xs m pc xl (.long y :: .long x :: st) f Q := by
  subst hp; exact w_step hat rfl rfl rfl k
theorem w_dupI {x : Int32} (hat : xmAt m pc = some (.dup, len)) (hp : pc + len = pc') (k : Wp L xs m pc' xl (.int x :: .int x :: st) f Q) : Wp L xs m pc xl (.int x :: st) f Q := by
  subst hp; exact w_step hat rfl rfl rfl k
theorem w_dupA {x : Nat} (hat : xmAt m pc = some (.dup, len)) (hp : pc + len = pc') (k : Wp L xs m pc' xl (.ref x :: .ref x :: st) f Q) : Wp L xs m pc xl (.ref x :: st) f Q := by
  subst hp; exact w_step hat rfl rfl rfl k
theorem w_popI {x : Int32} (hat : xmAt m pc = some (.pop, len)) (hp : pc + len = pc') (k : Wp L xs m pc' xl st f Q) : Wp L xs m pc xl (.int x :: st) f Q := by
  subst hp; exact w_step hat rfl rfl rfl k
theorem w_dup2 {x : Int32} {a : Nat} (hat : xmAt m pc = some (.dup2, len)) (hp : pc + len = pc') (k : Wp L xs m pc' xl (.int x :: .ref a :: .int x :: .ref a :: st) f Q) : Wp L xs m pc xl (.int x :: .ref a :: st) f Q := by
  subst hp; exact w_step hat rfl rfl rfl k
theorem w_goto {off : Int} (hat : xmAt m pc = some (.goto off, len)) (ht : xTg pc off = some pc') (k : Wp L xs m pc' xl st f Q) : Wp L xs m pc xl st f Q := by
  refine w_step hat rfl rfl ?_ k
  show (xTg pc off).map _ = _
  rw [ht]; rfl
theorem w_br {cd : ClassFile.Cond} {off : Int} {t : Nat} {x : Int32} {c : Prop} (hat : xmAt m pc = some (.ifCond cd off, len)) (hp : pc + len = pc') (ht : xTg pc off = some t) (hc : xIcmp cd x 0 = true ↔ c) (kt : c → Wp L xs m t xl st f Q) (kf : ¬ c → Wp L xs m pc' xl st f Q) : Wp L xs m pc xl (.int x :: st) f Q := by
  subst hp
  by_cases h : c
  · refine w_step hat rfl rfl ?_ (kt h)
    show (xTg pc off).map _ = _
    rw [ht, Option.map_some, if_pos (hc.mpr h)]
  · refine w_step hat rfl rfl ?_ (kf h)
    show (xTg pc off).map _ = _
    rw [ht, Option.map_some, if_neg (fun q => h (hc.mp q))]
theorem w_br2 {cd : ClassFile.Cond} {off : Int} {t : Nat} {x y : Int32} {c : Prop} (hat : xmAt m pc = some (.if_icmp cd off, len)) (hp : pc + len = pc') (ht : xTg pc off = some t) (hc : xIcmp cd x y = true ↔ c) (kt : c → Wp L xs m t xl st f Q) (kf : ¬ c → Wp L xs m pc' xl st f Q) : Wp L xs m pc xl (.int y :: .int x :: st) f Q := by
  subst hp
  by_cases h : c
  · refine w_step hat rfl rfl ?_ (kt h)
    show (xTg pc off).map _ = _
    rw [ht, Option.map_some, if_pos (hc.mpr h)]
  · refine w_step hat rfl rfl ?_ (kf h)
    show (xTg pc off).map _ = _
    rw [ht, Option.map_some, if_neg (fun q => h (hc.mp q))]
theorem ic_eq {x y : Int32} : xIcmp .eq x y = true ↔ x = y := by simp [xIcmp]
theorem ic_ne {x y : Int32} : xIcmp .ne x y = true ↔ ¬ x = y := by simp [xIcmp]
theorem ic_lt {x y : Int32} : xIcmp .lt x y = true ↔ x < y := by simp [xIcmp]
theorem ic_ge {x y : Int32} : xIcmp .ge x y = true ↔ ¬ x < y := by
  simp only [xIcmp, decide_eq_true_iff]
  rw [Int32.le_iff_toInt_le, Int32.lt_iff_toInt_lt]; omega
theorem ic_gt {x y : Int32} : xIcmp .gt x y = true ↔ y < x := by simp [xIcmp]
theorem ic_le {x y : Int32} : xIcmp .le x y = true ↔ ¬ y < x := by
  simp only [xIcmp, decide_eq_true_iff]
  rw [Int32.le_iff_toInt_le, Int32.lt_iff_toInt_lt]; omega
theorem w_ts {d lo hi o : Int} {offs : Array Int} {t : Nat} {x : Int32} (hat : xmAt m pc = some (.tableswitch d lo hi offs, len)) (h1 : ¬ (x.toInt < lo ∨ hi < x.toInt)) (h2 : offs[(x.toInt - lo).toNat]? = some o) (ht : xTg pc o = some t) (k : Wp L xs m t xl st f Q) : Wp L xs m pc xl (.int x :: st) f Q := by
  refine w_step hat rfl rfl ?_ k
  show (if x.toInt < lo ∨ hi < x.toInt then _ else _) = _
  rw [if_neg h1]
  simp only [h2]
  show (xTg pc o).map _ = _
  rw [ht]; rfl
theorem w_tsd {d lo hi : Int} {offs : Array Int} {t : Nat} {x : Int32} (hat : xmAt m pc = some (.tableswitch d lo hi offs, len)) (h1 : x.toInt < lo ∨ hi < x.toInt) (ht : xTg pc d = some t) (k : Wp L xs m t xl st f Q) : Wp L xs m pc xl (.int x :: st) f Q := by
  refine w_step hat rfl rfl ?_ k
  show (if x.toInt < lo ∨ hi < x.toInt then _ else _) = _
  rw [if_pos h1]
  show (xTg pc d).map _ = _
  rw [ht]; rfl
theorem w_ls {d o : Int} {ps : Array (Int × Int)} {t : Nat} {x : Int32} (hat : xmAt m pc = some (.lookupswitch d ps, len)) (h1 : ((ps.toList.zip (ps.toList.drop 1)).all (fun (a, next) => a.1 < next.1)) = true) (h2 : Op.lookupswitch.offset ps.toList d x.toInt = o) (ht : xTg pc o = some t) (k : Wp L xs m t xl st f Q) : Wp L xs m pc xl (.int x :: st) f Q := by
  refine w_step hat rfl rfl ?_ k
  show (if _ = true then _ else _) = _
  rw [if_pos h1, h2]
  show (xTg pc o).map _ = _
  rw [ht]; rfl
theorem xB_lt {a kd n : Nat} (h : xS0 L a = (kd, n)) (hk : kd ≤ 29) : a < 1000000 := by
  have := xS0_lt (L := L) (a := a) (by rw [h]; exact hk)
  omega
theorem w_getI {ix ci i q a n : Nat} (hat : xmAt m pc = some (.getfield ix, len)) (hp : pc + len = pc') (hf : xFld (xmOwn m) ix = some (ci, i, q)) (h2 : (xFk ci i == 2) = false) (h12 : (ci ≤ 12 : Bool) = true) (ha : xS0 L a = (ci, n)) (k : Wp L xs m pc' xl (.int (f a i) :: st) f Q) : Wp L xs m pc xl (.ref a :: st) f Q := by
  subst hp
  refine w_step hat rfl rfl ?_ k
  have h29 : ci ≤ 29 := by have := of_decide_eq_true h12; omega
  have hb := xB_I (L := L) (xs := xs) (f := f) (k := i) (xB_lt ha h29)
  have h2' : ¬ xFk ci i = 2 := by simpa using h2
  unfold xstep
  simp only [xr1, hf, xfv, if_neg h2', hb]
  show xis ((xS0 L a).1 == ci) _ = _
  rw [ha]; simp [xis]
theorem w_getR {ix ci i q a n b : Nat} (hat : xmAt m pc = some (.getfield ix, len)) (hp : pc + len = pc') (hf : xFld (xmOwn m) ix = some (ci, i, q)) (h2 : (xFk ci i == 2) = true) (ha : xS0 L a = (ci, n)) (hb : xR0 a i = some b) (k : Wp L xs m pc' xl (.ref b :: st) f Q) : Wp L xs m pc xl (.ref a :: st) f Q := by
  subst hp
  refine w_step hat rfl rfl ?_ k
  have h2' : xFk ci i = 2 := by simpa using h2
  unfold xstep
  simp only [xr1, hf, xfv, if_pos h2']
  show xis ((xS0 L a).1 == ci) (_, _, xrf (xR0 a i) :: _, _) = _
  rw [ha, hb]; simp [xis, xrf]
theorem w_putI {ix ci i q a n : Nat} {x : Int32} (hat : xmAt m pc = some (.putfield ix, len)) (hp : pc + len = pc') (hf : xFld (xmOwn m) ix = some (ci, i, q)) (h2 : (xFk ci i == 0 && !(xFf ci i) && (ci ≤ 12 : Bool)) = true) (ha : xS0 L a = (ci, n)) (k : Wp L xs m pc' xl st (xu f a i x) Q) : Wp L xs m pc xl (.int x :: .ref a :: st) f Q := by
  subst hp
  refine w_step hat rfl rfl ?_ k
  simp only [Bool.and_eq_true, decide_eq_true_iff] at h2
  have h29 : ci ≤ 29 := by omega
  unfold xstep
  simp only [xPf, hf]
  rw [xB_put (xB_lt ha h29)]
  show xis ((xS0 L a).1 == ci && (xFk ci i == 0 || _) && !(xFf ci i)) _ = _
  rw [ha, h2.1.1, h2.1.2]; simp [xis]
theorem w_putB {ix ci i q a n : Nat} {x : Int32} (hat : xmAt m pc = some (.putfield ix, len)) (hp : pc + len = pc') (hf : xFld (xmOwn m) ix = some (ci, i, q)) (h2 : (xFk ci i == 1 && !(xFf ci i) && (ci ≤ 12 : Bool)) = true) (ha : xS0 L a = (ci, n)) (hx : x = 0 ∨ x = 1) (k : Wp L xs m pc' xl st (xu f a i x) Q) : Wp L xs m pc xl (.int x :: .ref a :: st) f Q := by
  subst hp
  refine w_step hat rfl rfl ?_ k
  simp only [Bool.and_eq_true, decide_eq_true_iff] at h2
  have h29 : ci ≤ 29 := by omega
  unfold xstep
  simp only [xPf, hf]
  rw [xB_put (xB_lt ha h29)]
  show xis ((xS0 L a).1 == ci && (xFk ci i == 0 || (xFk ci i == 1 && (decide (x = 0) || decide (x = 1)))) && !(xFf ci i)) _ = _
  have hx' : (decide (x = 0) || decide (x = 1)) = true := by simpa using hx
  rw [ha, h2.1.1, h2.1.2, hx']; simp [xis]
theorem w_iaload {a n i : Nat} {x : Int32} (hat : xmAt m pc = some (.iaload, len)) (hp : pc + len = pc') (ha : xS0 L a = (20, n)) (e : x = iN i) (hi : i < n) (hn : n < 2147483648) (k : Wp L xs m pc' xl (.int (f a i) :: st) f Q) : Wp L xs m pc xl (.int x :: .ref a :: st) f Q := by
  subst hp; subst e
  refine w_step hat rfl rfl ?_ k
  have hb := xB_I (L := L) (xs := xs) (f := f) (k := i) (xB_lt ha (by omega))
  unfold xstep
  simp only [xra, iN_nc (Nat.lt_trans hi hn), hb]
  show xis (((xS0 L a).1 == 20 || _) && xIn (iN i) (xS0 L a).2) _ = _
  rw [ha, xIn_iN hi hn]; simp [xis]
theorem w_iaload4 {a n i : Nat} {x : Int32} (hat : xmAt m pc = some (.iaload, len)) (hp : pc + len = pc') (ha : xS0 L a = (40, n)) (ho : 1000000 ≤ a) (e : x = iN i) (hi : i < n) (hn : n < 2147483648) (k : Wp L xs m pc' xl (.int (xoI xs a i) :: st) f Q) : Wp L xs m pc xl (.int x :: .ref a :: st) f Q := by
  subst hp; subst e
  refine w_step hat rfl rfl ?_ k
  have hb : xsI (xB L xs f) a i = xoI xs a i := by
    show (if a < 1000000 then f a else xoI xs a) i = _
    rw [if_neg (by omega)]
  unfold xstep
  simp only [xra, iN_nc (Nat.lt_trans hi hn), hb]
  show xis (((xS0 L a).1 == 20 || (xS0 L a).1 == 40) && xIn (iN i) (xS0 L a).2) _ = _
  rw [ha, xIn_iN hi hn]; simp [xis]
theorem w_baload {a kd n i : Nat} {x : Int32} (hat : xmAt m pc = some (.baload, len)) (hp : pc + len = pc') (ha : xS0 L a = (kd, n)) (hk : kd = 21 ∨ kd = 22) (e : x = iN i) (hi : i < n) (hn : n < 2147483648) (k : Wp L xs m pc' xl (.int (f a i) :: st) f Q) : Wp L xs m pc xl (.int x :: .ref a :: st) f Q := by
  subst hp; subst e
  refine w_step hat rfl rfl ?_ k
  have hb := xB_I (L := L) (xs := xs) (f := f) (k := i) (xB_lt ha (by omega))
  unfold xstep
  simp only [xra, iN_nc (Nat.lt_trans hi hn), hb]
  show xis (((xS0 L a).1 == 21 || (xS0 L a).1 == 22 || _) && xIn (iN i) (xS0 L a).2) _ = _
  rw [ha, xIn_iN hi hn]
  rcases hk with rfl | rfl <;> simp [xis]
theorem w_baload4 {a n i : Nat} {x : Int32} (hat : xmAt m pc = some (.baload, len)) (hp : pc + len = pc') (ha : xS0 L a = (43, n)) (ho : 1000000 ≤ a) (e : x = iN i) (hi : i < n) (hn : n < 2147483648) (k : Wp L xs m pc' xl (.int (xoI xs a i) :: st) f Q) : Wp L xs m pc xl (.int x :: .ref a :: st) f Q := by
  subst hp; subst e
  refine w_step hat rfl rfl ?_ k
  have hb : xsI (xB L xs f) a i = xoI xs a i := by
    show (if a < 1000000 then f a else xoI xs a) i = _
    rw [if_neg (by omega)]
  unfold xstep
  simp only [xra, iN_nc (Nat.lt_trans hi hn), hb]
  show xis (((xS0 L a).1 == 21 || (xS0 L a).1 == 22 || (xS0 L a).1 == 43) && xIn (iN i) (xS0 L a).2) _ = _
  rw [ha, xIn_iN hi hn]; simp [xis]
theorem w_aaload {a kd n i b : Nat} {x : Int32} (hat : xmAt m pc = some (.aaload, len)) (hp : pc + len = pc') (ha : xS0 L a = (kd, n)) (hk : 23 ≤ kd ∧ kd ≤ 29) (e : x = iN i) (hi : i < n) (hn : n < 2147483648) (hb : xR0 a i = some b) (k : Wp L xs m pc' xl (.ref b :: st) f Q) : Wp L xs m pc xl (.int x :: .ref a :: st) f Q := by
  subst hp; subst e
  refine w_step hat rfl rfl ?_ k
  unfold xstep
  simp only [xra, iN_nc (Nat.lt_trans hi hn)]
  show xis (decide (23 ≤ (xS0 L a).1) && decide ((xS0 L a).1 ≤ 29) && xIn (iN i) (xS0 L a).2) (_, _, xrf (xR0 a i) :: _, _) = _
  rw [ha, xIn_iN hi hn, hb]; simp [xis, hk.1, hk.2, xrf]
theorem w_iastore {a n i : Nat} {x v : Int32} (hat : xmAt m pc = some (.iastore, len)) (hp : pc + len = pc') (ha : xS0 L a = (20, n)) (e : x = iN i) (hi : i < n) (hn : n < 2147483648) (k : Wp L xs m pc' xl st (xu f a i v) Q) : Wp L xs m pc xl (.int v :: .int x :: .ref a :: st) f Q := by
  subst hp; subst e
  refine w_step hat rfl rfl ?_ k
  unfold xstep
  simp only [xrs, iN_nc (Nat.lt_trans hi hn)]
  rw [xB_put (xB_lt ha (by omega))]
  show xis ((xS0 L a).1 == 20 && xIn (iN i) (xS0 L a).2) _ = _
  rw [ha, xIn_iN hi hn]; simp [xis]
theorem w_bastore1 {a n i : Nat} {x v : Int32} (hat : xmAt m pc = some (.bastore, len)) (hp : pc + len = pc') (ha : xS0 L a = (21, n)) (e : x = iN i) (hi : i < n) (hn : n < 2147483648) (k : Wp L xs m pc' xl st (xu f a i v.toInt8.toInt32) Q) : Wp L xs m pc xl (.int v :: .int x :: .ref a :: st) f Q := by
  subst hp; subst e
  refine w_step hat rfl rfl ?_ k
  unfold xstep
  simp only [xrs, iN_nc (Nat.lt_trans hi hn)]
  rw [xB_put (xB_lt ha (by omega))]
  show (if (xS0 L a).1 = 21 then xis (xIn (iN i) (xS0 L a).2) _ else _) = _
  rw [ha, xIn_iN hi hn]; simp [xis]
theorem w_bastore2 {a n i : Nat} {x v : Int32} (hat : xmAt m pc = some (.bastore, len)) (hp : pc + len = pc') (ha : xS0 L a = (22, n)) (e : x = iN i) (hi : i < n) (hn : n < 2147483648) (hv : v = 0 ∨ v = 1) (k : Wp L xs m pc' xl st (xu f a i v) Q) : Wp L xs m pc xl (.int v :: .int x :: .ref a :: st) f Q := by
  subst hp; subst e
  refine w_step hat rfl rfl ?_ k
  have hv' : (decide (v = 0) || decide (v = 1)) = true := by simpa using hv
  unfold xstep
  simp only [xrs, iN_nc (Nat.lt_trans hi hn), xB_put (xB_lt ha (show 22 ≤ 29 by omega))]
  show (if (xS0 L a).1 = 21 then _ else xis ((xS0 L a).1 == 22 && (decide (v = 0) || decide (v = 1)) && xIn (iN i) (xS0 L a).2) _) = _
  rw [ha, xIn_iN hi hn, hv']; simp [xis]
theorem w_alen {a kd n : Nat} (hat : xmAt m pc = some (.arraylength, len)) (hp : pc + len = pc') (ha : xS0 L a = (kd, n)) (hk : (decide (20 ≤ kd) && (kd == 40 || kd == 43 || decide (kd ≤ 29))) = true) (k : Wp L xs m pc' xl (.int (iN n) :: st) f Q) : Wp L xs m pc xl (.ref a :: st) f Q := by
  subst hp
  refine w_step hat rfl rfl ?_ k
  unfold xstep
  simp only [xr1]
  show xis (decide (20 ≤ (xS0 L a).1) && ((xS0 L a).1 == 40 || (xS0 L a).1 == 43 || decide ((xS0 L a).1 ≤ 29))) (_, _, .int (Int32.ofNat (xS0 L a).2) :: _, _) = _
  rw [ha]
  simp only [hk, xis]; rfl
theorem w_getT {ix q a n : Nat} (hat : xmAt m pc = some (.getfield ix, len)) (hp : pc + len = pc') (hf : xFld (xmOwn m) ix = none) (h2 : xTf (xmOwn m) ix = some (0, q)) (ha : xS0 L a = (42, n)) (k : Wp L xs m pc' xl (.ref (a + 20) :: st) f Q) : Wp L xs m pc xl (.ref a :: st) f Q := by
  subst hp
  refine w_step hat rfl rfl ?_ k
  unfold xstep
  simp only [xr1, hf, h2]
  show xis ((xS0 L a).1 == 42) _ = _
  rw [ha]; simp [xis]
theorem w_getT1 {ix q a n : Nat} (hat : xmAt m pc = some (.getfield ix, len)) (hp : pc + len = pc') (hf : xFld (xmOwn m) ix = none) (h2 : xTf (xmOwn m) ix = some (1, q)) (ha : xS0 L a = (42, n)) (k : Wp L xs m pc' xl (.int 0 :: st) f Q) : Wp L xs m pc xl (.ref a :: st) f Q := by
  subst hp
  refine w_step hat rfl rfl ?_ k
  unfold xstep
  simp only [xr1, hf, h2]
  show xis ((xS0 L a).1 == 42) _ = _
  rw [ha]; simp [xis]
theorem w_gst {ix w q : Nat} (hat : xmAt m pc = some (.getstatic ix, len)) (hp : pc + len = pc') (hf : xSt (xmOwn m) ix = some (w, q)) (h5 : w < 5) (k : Wp L xs m pc' xl (.ref (1000000 + w) :: st) f Q) : Wp L xs m pc xl st f Q := by
  subst hp
  refine w_step hat rfl rfl ?_ k
  unfold xstep
  simp only [hf, if_neg (show ¬ w = 5 by omega), if_neg (show ¬ w = 6 by omega)]
theorem w_gst5 {ix q : Nat} (hat : xmAt m pc = some (.getstatic ix, len)) (hp : pc + len = pc') (hf : xSt (xmOwn m) ix = some (5, q)) (k : Wp L xs m pc' xl (.int 1 :: st) f Q) : Wp L xs m pc xl st f Q := by
  subst hp
  refine w_step hat rfl rfl ?_ k
  unfold xstep
  simp only [hf, if_pos]
theorem w_gst6 {ix q : Nat} (hat : xmAt m pc = some (.getstatic ix, len)) (hp : pc + len = pc') (hf : xSt (xmOwn m) ix = some (6, q)) (k : Wp L xs m pc' xl (.retAddr 1 :: st) f Q) : Wp L xs m pc xl st f Q := by
  subst hp
  refine w_step hat rfl rfl ?_ k
  unfold xstep
  simp only [hf, if_neg (show ¬ 6 = 5 by omega), if_pos]
theorem w_copy {ix q q2 s d kd ns nd sp dp c : Nat} {x y z : Int32} (hat : xmAt m pc = some (.invokestatic ix, len)) (hp : pc + len = pc') (hf : xCal (xmOwn m) ix = some (5, q, q2)) (hs : xS0 L s = (kd, ns)) (hd : xS0 L d = (kd, nd)) (hk : kd = 20 ∨ kd = 21) (ex : x = iN sp) (ey : y = iN dp) (ez : z = iN c) (h1 : sp + c ≤ ns) (h2 : dp + c ≤ nd) (hn : ns < 2147483648) (hm : nd < 2147483648) (hr : xcat st ≤ 8) (k : Wp L xs m pc' xl st (xuc f d (va_cpy (f s) (f d) sp dp c)) Q) : Wp L xs m pc xl (.int z :: .int y :: .ref d :: .int x :: .ref s :: st) f Q := by
  subst hp; subst ex; subst ey; subst ez
  refine w_step hat ?_ rfl ?_ k
  · unfold xCall; simp only [hf]; rw [if_neg (by omega)]
  have k29 : kd ≤ 29 := by omega
  have b1 : xsI (xB L xs f) s = f s := funext fun i => xB_I (xB_lt hs k29)
  have b2 : xsI (xB L xs f) d = f d := funext fun i => xB_I (xB_lt hd k29)
  unfold xstep
  simp only [hf, if_pos, xcp, b1, b2, iN_nc (show sp < 2147483648 by omega), iN_nc (show dp < 2147483648 by omega), iN_nc (show c < 2147483648 by omega)]
  rw [xB_row (xB_lt hd k29)]
  have e1 : decide (iN sp < 0) = false := by simpa using iN_nn (k := sp) (by omega)
  have e2 : decide (iN dp < 0) = false := by simpa using iN_nn (k := dp) (by omega)
  have e3 : decide (iN c < 0) = false := by simpa using iN_nn (k := c) (by omega)
  show xis (decide (xcat st ≤ 8) && ((xS0 L s).1 == 20 || (xS0 L s).1 == 21) && (xS0 L s).1 == (xS0 L d).1 && !decide (iN sp < 0) && !decide (iN dp < 0) && !decide (iN c < 0) && decide (sp + c ≤ (xS0 L s).2) && decide (dp + c ≤ (xS0 L d).2)) _ = _
  rw [hs, hd, e1, e2, e3]
  have e4 : decide (xcat st ≤ 8) = true := decide_eq_true hr
  have e5 : decide (sp + c ≤ ns) = true := decide_eq_true h1
  have e6 : decide (dp + c ≤ nd) = true := decide_eq_true h2
  simp only [e4, e5, e6]
  rcases hk with rfl | rfl <;> simp [xis]
theorem w_max {ix q q2 : Nat} {x y : Int32} (hat : xmAt m pc = some (.invokestatic ix, len)) (hp : pc + len = pc') (hf : xCal (xmOwn m) ix = some (6, q, q2)) (hr : xcat st ≤ 8) (k : Wp L xs m pc' xl (.int (imax x y) :: st) f Q) : Wp L xs m pc xl (.int y :: .int x :: st) f Q := by
  subst hp
  refine w_step hat ?_ rfl ?_ k
  · unfold xCall; simp only [hf]; rw [if_neg (by omega)]
  unfold xstep
  simp only [hf, if_neg (show ¬ 6 = 5 by omega), if_pos, xo2]
  have e4 : decide (xcat st ≤ 8) = true := decide_eq_true hr
  rw [e4]; rfl
theorem w_min {ix q q2 : Nat} {x y : Int32} (hat : xmAt m pc = some (.invokestatic ix, len)) (hp : pc + len = pc') (hf : xCal (xmOwn m) ix = some (7, q, q2)) (hr : xcat st ≤ 8) (k : Wp L xs m pc' xl (.int (imin x y) :: st) f Q) : Wp L xs m pc xl (.int y :: .int x :: st) f Q := by
  subst hp
  refine w_step hat ?_ rfl ?_ k
  · unfold xCall; simp only [hf]; rw [if_neg (by omega)]
  unfold xstep
  simp only [hf, if_neg (show ¬ 7 = 5 by omega), if_neg (show ¬ 7 = 6 by omega), if_pos, xo2]
  have e4 : decide (xcat st ≤ 8) = true := decide_eq_true hr
  rw [e4]; rfl
theorem w_cs {ix kd j q : Nat} {cm : XM} {as rest : List Value} (hat : xmAt m pc = some (.invokestatic ix, len)) (hp : pc + len = pc') (hf : xCal (xmOwn m) ix = some (kd, j, q)) (hk : kd = 0 ∨ kd = 3) (ha : xArg j st = some (cm, as, rest)) (h1 : Cl L xs cm as f (fun r g => Wp L xs m pc' xl (r.toList ++ rest) g Q)) : Wp L xs m pc xl st f Q := by
  refine w_call hat hp ?_ h1
  unfold xCall
  simp only [hf]
  rw [if_pos hk, ha]
theorem w_cv {ix j q a n ci : Nat} {cm : XM} {as rest : List Value} (hat : xmAt m pc = some (.invokevirtual ix, len)) (hp : pc + len = pc') (hf : xCal (xmOwn m) ix = some (1, j, q)) (ha : xArg j st = some (cm, .ref a :: as, rest)) (hk : xS0 L a = (ci, n)) (ho : xKo ci = xmOwn cm) (h1 : Cl L xs cm (.ref a :: as) f (fun r g => Wp L xs m pc' xl (r.toList ++ rest) g Q)) : Wp L xs m pc xl st f Q := by
  refine w_call hat hp ?_ h1
  unfold xCall
  simp only [hf, if_pos, ha]
  rw [if_pos]
  show xKo (xS0 L a).1 = _
  rw [hk]; exact ho
theorem w_ireturn {x : Int32} {Q : Int32 → Hp → Prop} (hat : xmAt m pc = some (.ireturn, len)) (hr : xRet m .ireturn [.int x] = some (some (.int x))) (k : Q x f) : Wp L xs m pc xl [.int x] f (QI Q) := w_ret hat rfl hr ⟨x, rfl, k⟩
theorem w_return {Q : Hp → Prop} (hat : xmAt m pc = some (.return_, len)) (hr : xRet m .return_ [] = some none) (k : Q f) : Wp L xs m pc xl [] f (QV Q) := w_ret hat rfl hr ⟨rfl, k⟩
theorem w_lreturn {x : Int64} {Q : Int64 → Hp → Prop} (hat : xmAt m pc = some (.lreturn, len)) (hr : xRet m .lreturn [.long x] = some (some (.long x))) (k : Q x f) : Wp L xs m pc xl [.long x] f (QL Q) := w_ret hat rfl hr ⟨x, rfl, k⟩
theorem w_areturn {x : Nat} {Q : Nat → Hp → Prop} (hat : xmAt m pc = some (.areturn, len)) (hr : xRet m .areturn [.ref x] = some (some (.ref x))) (k : Q x f) : Wp L xs m pc xl [.ref x] f (QR Q) := w_ret hat rfl hr ⟨x, rfl, k⟩
theorem xr_bool {x : Int32} (h1 : xmRet m = some .boolean) (h : x = 0 ∨ x = 1) : xRet m .ireturn [.int x] = some (some (.int x)) := by
  unfold xRet
  simp only [h1]
  rw [if_pos h]
theorem CI.k {c : XM} {as : List Value} {Q : Int32 → Hp → Prop} {Q' : Option Value → Hp → Prop} (h : CI L xs c as f Q) (k : ∀ v g, Q v g → Q' (some (.int v)) g) : Cl L xs c as f Q' := by
  refine Wp.mono h fun r g h => ?_
  obtain ⟨v, rfl, h⟩ := h
  exact k v g h
theorem CV.k {c : XM} {as : List Value} {Q : Hp → Prop} {Q' : Option Value → Hp → Prop} (h : CV L xs c as f Q) (k : ∀ g, Q g → Q' none g) : Cl L xs c as f Q' := by
  refine Wp.mono h fun r g h => ?_
  obtain ⟨rfl, h⟩ := h
  exact k g h
theorem CL.k {c : XM} {as : List Value} {Q : Int64 → Hp → Prop} {Q' : Option Value → Hp → Prop} (h : CL L xs c as f Q) (k : ∀ v g, Q v g → Q' (some (.long v)) g) : Cl L xs c as f Q' := by
  refine Wp.mono h fun r g h => ?_
  obtain ⟨v, rfl, h⟩ := h
  exact k v g h
theorem CR.k {c : XM} {as : List Value} {Q : Nat → Hp → Prop} {Q' : Option Value → Hp → Prop} (h : CR L xs c as f Q) (k : ∀ v g, Q v g → Q' (some (.ref v)) g) : Cl L xs c as f Q' := by
  refine Wp.mono h fun r g h => ?_
  obtain ⟨v, rfl, h⟩ := h
  exact k v g h
theorem CI.mono {c : XM} {as : List Value} {Q Q' : Int32 → Hp → Prop} (h : CI L xs c as f Q) (k : ∀ v g, Q v g → Q' v g) : CI L xs c as f Q' := CI.k h fun v g h => ⟨v, rfl, k v g h⟩
theorem CV.mono {c : XM} {as : List Value} {Q Q' : Hp → Prop} (h : CV L xs c as f Q) (k : ∀ g, Q g → Q' g) : CV L xs c as f Q' := CV.k h fun g h => ⟨rfl, k g h⟩
end ROWS
