/-! THE INTERPRETER. A small machine over numbered cells: what the landed class, the reference and the law do, as a function. References are cell numbers: below 1000000 the cells that the run makes, in their order; from there on the old ones (1000000 the script, 1000001 to 1000004 the reader's tables, 1000010 on the texts, 1000030 on their bytes). Kinds: 0 to 12 an object of that class, 20 int[], 21 byte[], 22 boolean[], 23 to 28 arrays of objects, 29 int[][], 40 an old int[], 42 a text, 43 a text's bytes. -/
abbrev XS : Type := (Nat × Nat) × (Nat → Nat × Nat) × (Nat → Nat → Int32) × (Nat → Nat → Option Nat)
abbrev xsN (σ : XS) : Nat := σ.1.1
abbrev xsZ (σ : XS) : Nat := σ.1.2
abbrev xsS (σ : XS) : Nat → Nat × Nat := σ.2.1
abbrev xsI (σ : XS) : Nat → Nat → Int32 := σ.2.2.1
abbrev xsR (σ : XS) : Nat → Nat → Option Nat := σ.2.2.2
def xu (f : Nat → Nat → Int32) (a k : Nat) (v : Int32) : Nat → Nat → Int32 := fun a' => if a' = a then upd (f a) k v else f a'
def xur (f : Nat → Nat → Option Nat) (a k : Nat) (v : Option Nat) : Nat → Nat → Option Nat := fun a' => if a' = a then va_up (f a) k v else f a'
/-- a whole row is written -/
def xuc (f : Nat → Nat → Int32) (a : Nat) (g : Nat → Int32) : Nat → Nat → Int32 := fun a' => if a' = a then g else f a'
def xPut (σ : XS) (a k : Nat) (v : Int32) : XS := (σ.1, σ.2.1, xu σ.2.2.1 a k v, σ.2.2.2)
def xPutR (σ : XS) (a k : Nat) (q : Nat) : XS := (σ.1, σ.2.1, σ.2.2.1, xur σ.2.2.2 a k (some q))
def xRow (σ : XS) (a : Nat) (g : Nat → Int32) : XS := (σ.1, σ.2.1, xuc σ.2.2.1 a g, σ.2.2.2)
/-- a new cell -/
def xNew (σ : XS) (kind len slots : Nat) : XS := ((σ.1.1 + 1, σ.1.2 + slots), (fun a => if a = σ.1.1 then (kind, len) else σ.2.1 a), (fun a => if a = σ.1.1 then (fun _ => 0) else σ.2.2.1 a), (fun a => if a = σ.1.1 then (fun _ => none) else σ.2.2.2 a))
/-- new int[n][k]: the outer row, then the inner ones -/
def xGrid (σ : XS) (n k : Nat) : XS := ((σ.1.1 + 1 + n, σ.1.2 + n + n * k), (fun a => if a = σ.1.1 then (29, n) else if σ.1.1 < a ∧ a < σ.1.1 + 1 + n then (20, k) else σ.2.1 a), (fun a => if σ.1.1 ≤ a ∧ a < σ.1.1 + 1 + n then (fun _ => 0) else σ.2.2.1 a), (fun a => if a = σ.1.1 then (fun i => if i < n then some (σ.1.1 + 1 + i) else none) else if σ.1.1 < a ∧ a < σ.1.1 + 1 + n then (fun _ => none) else σ.2.2.2 a))
def xrf (r : Option Nat) : Value := match r with
  | some q => .ref q
  | none => .null
def xfv (σ : XS) (ci a k : Nat) : Value := if xFk ci k = 2 then xrf (xsR σ a k) else .int (xsI σ a k)
abbrev XF : Type := Nat × List Value × List Value × XS
def xTg (pc : Nat) (off : Int) : Option Nat := if 0 ≤ (pc : Int) + off then some ((pc : Int) + off).toNat else none
def xo1 {β : Type} (st : List Value) (k : Int32 → List Value → Option β) : Option β := match st with
  | .int x :: r => k x r
  | _ => none
def xo2 {β : Type} (st : List Value) (k : Int32 → Int32 → List Value → Option β) : Option β := match st with
  | .int y :: .int x :: r => k x y r
  | _ => none
def xl2 {β : Type} (st : List Value) (k : Int64 → Int64 → List Value → Option β) : Option β := match st with
  | .long y :: .long x :: r => k x y r
  | _ => none
def xr1 {β : Type} (st : List Value) (k : Nat → List Value → Option β) : Option β := match st with
  | .ref a :: r => k a r
  | _ => none
/-- a row and a place in it -/
def xra {β : Type} (st : List Value) (k : Nat → Int32 → List Value → Option β) : Option β := match st with
  | .int i :: .ref a :: r => k a i r
  | _ => none
/-- a row, a place in it, a number -/
def xrs {β : Type} (st : List Value) (k : Nat → Int32 → Int32 → List Value → Option β) : Option β := match st with
  | .int x :: .int i :: .ref a :: r => k a i x r
  | _ => none
/-- a row, a place in it, a cell -/
def xrq {β : Type} (st : List Value) (k : Nat → Int32 → Nat → List Value → Option β) : Option β := match st with
  | .ref q :: .int i :: .ref a :: r => k a i q r
  | _ => none
def xcp {β : Type} (st : List Value) (k : Nat → Int32 → Nat → Int32 → Int32 → List Value → Option β) : Option β := match st with
  | .int n :: .int dp :: .ref d :: .int sp :: .ref s0 :: r => k s0 sp d dp n r
  | _ => none
def xbr (c : Prop) [Decidable c] (pc len : Nat) (off : Int) (ls st : List Value) (σ : XS) : Option XF := (xTg pc off).map fun t => (if c then t else pc + len, ls, st, σ)
def xIn (i : Int32) (n : Nat) : Bool := !(decide (i < 0) || decide (n ≤ i.toNatClampNeg))
def xNo2 (ls : List Value) (i : Nat) : Bool := match i with
  | 0 => true
  | j + 1 => (match ls[j]? with
    | some v => v.category != 2
    | none => true)
def xSt1 (ls : List Value) (i : Nat) (v : Value) : Option (List Value) := if decide (i < ls.length) && xNo2 ls i then some (ls.set i v) else none
def xSt2 (ls : List Value) (i : Nat) (v : Value) : Option (List Value) := if decide (i + 1 < ls.length) && xNo2 ls i then some ((ls.set i v).set (i + 1) (.retAddr 0)) else none
def xldI (pc len : Nat) (ls st : List Value) (σ : XS) (i : Nat) : Option XF := match ls[i]? with
  | some (.int x) => some (pc + len, ls, .int x :: st, σ)
  | _ => none
def xldL (pc len : Nat) (ls st : List Value) (σ : XS) (i : Nat) : Option XF := match ls[i]? with
  | some (.long x) => some (pc + len, ls, .long x :: st, σ)
  | _ => none
def xldA (pc len : Nat) (ls st : List Value) (σ : XS) (i : Nat) : Option XF := match ls[i]? with
  | some (.ref x) => some (pc + len, ls, .ref x :: st, σ)
  | _ => none
def xstI (pc len : Nat) (ls st : List Value) (σ : XS) (i : Nat) : Option XF := xo1 st fun x r => (xSt1 ls i (.int x)).map fun ls' => (pc + len, ls', r, σ)
def xstA (pc len : Nat) (ls st : List Value) (σ : XS) (i : Nat) : Option XF := xr1 st fun x r => (xSt1 ls i (.ref x)).map fun ls' => (pc + len, ls', r, σ)
def xstL (pc len : Nat) (ls st : List Value) (σ : XS) (i : Nat) : Option XF := match st with
  | .long x :: r => (xSt2 ls i (.long x)).map fun ls' => (pc + len, ls', r, σ)
  | _ => none
def xis (b : Bool) (f : XF) : Option XF := if b then some f else none
def xcat (l : List Value) : Nat := (l.map fun v => v.category).sum
def xsw (pc : Nat) (off : Int) (ls st : List Value) (σ : XS) : Option XF := (xTg pc off).map fun t => (t, ls, st, σ)
def xIcmp (cd : ClassFile.Cond) (x y : Int32) : Bool := match cd with
  | .eq => decide (x = y)
  | .ne => !decide (x = y)
  | .lt => decide (x < y)
  | .ge => decide (y ≤ x)
  | .gt => decide (y < x)
  | .le => decide (x ≤ y)
def xPf (m : XM) (pc len : Nat) (ls : List Value) (σ : XS) (st : List Value) (e : Option (Nat × Nat × Nat)) : Option XF := match e with
  | none => none
  | some (ci, k, _) => (match st with
    | .int x :: .ref a :: r => xis ((xsS σ a).1 == ci && (xFk ci k == 0 || (xFk ci k == 1 && (decide (x = 0) || decide (x = 1)))) && !(xFf ci k)) (pc + len, ls, r, xPut σ a k x)
    | .ref q :: .ref a :: r => xis ((xsS σ a).1 == ci && xFk ci k == 2 && xFf ci k && xmK m == 2 && xmOwn m == ci) (pc + len, ls, r, xPutR σ a k q)
    | _ => none)
def xstep (m : XM) (pc : Nat) (ins : Instr) (len : Nat) (ls st : List Value) (σ : XS) : Option XF := match ins with
  | .iconst i => some (pc + len, ls, .int (Int32.ofInt i) :: st, σ)
  | .bipush i => some (pc + len, ls, .int (Int8.ofInt i).toInt32 :: st, σ)
  | .sipush i => some (pc + len, ls, .int (Int16.ofInt i).toInt32 :: st, σ)
  | .lconst i => some (pc + len, ls, .long (Int64.ofNat (i : Nat)) :: st, σ)
  | .ldc ix => (match xNum (xmOwn m) ix with
    | some (v, _) => some (pc + len, ls, .int v :: st, σ)
    | none => (xTxt (xmOwn m) ix).map fun i => (pc + len, ls, .ref (1000010 + i) :: st, σ))
  | .ldc_w ix => (xNum (xmOwn m) ix).map fun v => (pc + len, ls, .int v.1 :: st, σ)
  | .ldc2_w ix => (xLng (xmOwn m) ix).map fun v => (pc + len, ls, .long v.1 :: st, σ)
  | .iload_n k => xldI pc len ls st σ k
  | .iload k => xldI pc len ls st σ k
  | .lload_n k => xldL pc len ls st σ k
  | .aload_n k => xldA pc len ls st σ k
  | .aload k => xldA pc len ls st σ k
  | .istore_n k => xstI pc len ls st σ k
  | .istore k => xstI pc len ls st σ k
  | .astore_n k => xstA pc len ls st σ k
  | .astore k => xstA pc len ls st σ k
  | .lstore_n k => xstL pc len ls st σ k
  | .iinc k n => (match ls[k]? with
    | some (.int x) => (xSt1 ls k (.int (x + Int32.ofInt n))).map fun ls' => (pc + len, ls', st, σ)
    | _ => none)
  | .iadd => xo2 st fun x y r => some (pc + len, ls, .int (x + y) :: r, σ)
  | .isub => xo2 st fun x y r => some (pc + len, ls, .int (x - y) :: r, σ)
  | .imul => xo2 st fun x y r => some (pc + len, ls, .int (x * y) :: r, σ)
  | .iand => xo2 st fun x y r => some (pc + len, ls, .int (x &&& y) :: r, σ)
  | .ior => xo2 st fun x y r => some (pc + len, ls, .int (x ||| y) :: r, σ)
  | .ixor => xo2 st fun x y r => some (pc + len, ls, .int (x ^^^ y) :: r, σ)
  | .ishl => xo2 st fun x y r => some (pc + len, ls, .int (x <<< (y &&& 31)) :: r, σ)
  | .ishr => xo2 st fun x y r => some (pc + len, ls, .int (x >>> (y &&& 31)) :: r, σ)
  | .iushr => xo2 st fun x y r => some (pc + len, ls, .int (x.toUInt32 >>> (y.toUInt32 &&& Int32.toUInt32 31)).toInt32 :: r, σ)
  | .idiv => xo2 st fun x y r => xis (!decide (y = 0)) (pc + len, ls, .int (x / y) :: r, σ)
  | .irem => xo2 st fun x y r => xis (!decide (y = 0)) (pc + len, ls, .int (x - x / y * y) :: r, σ)
  | .i2l => xo1 st fun x r => some (pc + len, ls, .long x.toInt64 :: r, σ)
  | .i2b => xo1 st fun x r => some (pc + len, ls, .int x.toInt8.toInt32 :: r, σ)
  | .i2c => xo1 st fun x r => some (pc + len, ls, .int (x.toUInt32 % 65536).toInt32 :: r, σ)
  | .ladd => xl2 st fun x y r => some (pc + len, ls, .long (x + y) :: r, σ)
  | .lsub => xl2 st fun x y r => some (pc + len, ls, .long (x - y) :: r, σ)
  | .lmul => xl2 st fun x y r => some (pc + len, ls, .long (x * y) :: r, σ)
  | .lcmp => xl2 st fun x y r => some (pc + len, ls, .int (lg_cmp x y) :: r, σ)
  | .dup => (match st with
    | v :: r => xis (v.category == 1) (pc + len, ls, v :: v :: r, σ)
    | _ => none)
  | .pop => (match st with
    | v :: r => xis (v.category == 1) (pc + len, ls, r, σ)
    | _ => none)
  | .dup2 => (match st with
    | v :: w :: r => xis (v.category == 1 && w.category == 1) (pc + len, ls, v :: w :: v :: w :: r, σ)
    | _ => none)
  | .ifCond cd off => xo1 st fun x r => xbr (xIcmp cd x 0 = true) pc len off ls r σ
  | .if_icmp cd off => xo2 st fun x y r => xbr (xIcmp cd x y = true) pc len off ls r σ
  | .goto off => xsw pc off ls st σ
  | .tableswitch d lo hi offs => xo1 st fun x r => if x.toInt < lo ∨ hi < x.toInt then xsw pc d ls r σ else (match offs[(x.toInt - lo).toNat]? with
    | some o => xsw pc o ls r σ
    | none => none)
  | .lookupswitch d ps => xo1 st fun x r => if (ps.toList.zip (ps.toList.drop 1)).all (fun (a, next) => a.1 < next.1) = true then xsw pc (Op.lookupswitch.offset ps.toList d x.toInt) ls r σ else none
  | .getfield ix => xr1 st fun a r => (match xFld (xmOwn m) ix with
    | some (ci, k, _) => xis ((xsS σ a).1 == ci) (pc + len, ls, xfv σ ci a k :: r, σ)
    | none => (match xTf (xmOwn m) ix with
      | some (f, _) => xis ((xsS σ a).1 == 42) (pc + len, ls, (if f = 0 then .ref (a + 20) else .int 0) :: r, σ)
      | none => none))
  | .putfield ix => xPf m pc len ls σ st (xFld (xmOwn m) ix)
  | .getstatic ix => (match xSt (xmOwn m) ix with
    | some (w, _) => some (pc + len, ls, (if w = 5 then .int 1 else if w = 6 then .retAddr 1 else .ref (1000000 + w)) :: st, σ)
    | none => none)
  | .iaload => xra st fun a i r => xis (((xsS σ a).1 == 20 || (xsS σ a).1 == 40) && xIn i (xsS σ a).2) (pc + len, ls, .int (xsI σ a i.toNatClampNeg) :: r, σ)
  | .baload => xra st fun a i r => xis (((xsS σ a).1 == 21 || (xsS σ a).1 == 22 || (xsS σ a).1 == 43) && xIn i (xsS σ a).2) (pc + len, ls, .int (xsI σ a i.toNatClampNeg) :: r, σ)
  | .aaload => xra st fun a i r => xis (decide (23 ≤ (xsS σ a).1) && decide ((xsS σ a).1 ≤ 29) && xIn i (xsS σ a).2) (pc + len, ls, xrf (xsR σ a i.toNatClampNeg) :: r, σ)
  | .iastore => xrs st fun a i x r => xis ((xsS σ a).1 == 20 && xIn i (xsS σ a).2) (pc + len, ls, r, xPut σ a i.toNatClampNeg x)
  | .bastore => xrs st fun a i x r => if (xsS σ a).1 = 21 then xis (xIn i (xsS σ a).2) (pc + len, ls, r, xPut σ a i.toNatClampNeg x.toInt8.toInt32) else xis ((xsS σ a).1 == 22 && (decide (x = 0) || decide (x = 1)) && xIn i (xsS σ a).2) (pc + len, ls, r, xPut σ a i.toNatClampNeg x)
  | .aastore => xrq st fun a i q r => xis (decide (23 ≤ (xsS σ a).1) && decide ((xsS σ a).1 ≤ 28) && (xsS σ q).1 == xAe (xsS σ a).1 && xIn i (xsS σ a).2) (pc + len, ls, r, xPutR σ a i.toNatClampNeg q)
  | .arraylength => xr1 st fun a r => xis (decide (20 ≤ (xsS σ a).1) && ((xsS σ a).1 == 40 || (xsS σ a).1 == 43 || decide ((xsS σ a).1 ≤ 29))) (pc + len, ls, .int (Int32.ofNat (xsS σ a).2) :: r, σ)
  | .new ix => (match xKl (xmOwn m) ix with
    | some (ci, _) => xis (decide (ci ≤ 12) && decide (xsN σ + 1 ≤ 1000000)) (pc + len, ls, .ref (xsN σ) :: st, xNew σ ci 0 (xNf ci))
    | none => none)
  | .newarray ty => xo1 st fun n r => (match ty with
    | .int => xis (!decide (n < 0) && decide (n.toNatClampNeg ≤ 100000) && decide (xsN σ + 1 ≤ 1000000)) (pc + len, ls, .ref (xsN σ) :: r, xNew σ 20 n.toNatClampNeg n.toNatClampNeg)
    | .byte => xis (!decide (n < 0) && decide (n.toNatClampNeg ≤ 100000) && decide (xsN σ + 1 ≤ 1000000)) (pc + len, ls, .ref (xsN σ) :: r, xNew σ 21 n.toNatClampNeg n.toNatClampNeg)
    | .boolean => xis (!decide (n < 0) && decide (n.toNatClampNeg ≤ 100000) && decide (xsN σ + 1 ≤ 1000000)) (pc + len, ls, .ref (xsN σ) :: r, xNew σ 22 n.toNatClampNeg n.toNatClampNeg)
    | _ => none)
  | .anewarray ix => xo1 st fun n r => (match xKl (xmOwn m) ix with
    | some (ci, _) => xis (decide (xAk ci ≤ 28) && !decide (n < 0) && decide (n.toNatClampNeg ≤ 100000) && decide (xsN σ + 1 ≤ 1000000)) (pc + len, ls, .ref (xsN σ) :: r, xNew σ (xAk ci) n.toNatClampNeg n.toNatClampNeg)
    | none => none)
  | .multianewarray ix dim => xo2 st fun n k r => (match xKl (xmOwn m) ix with
    | some (ci, _) => xis (ci == 29 && dim == 2 && !decide (n < 0) && !decide (k < 0) && decide (n.toNatClampNeg ≤ 1000) && decide (k.toNatClampNeg ≤ 1000) && decide (xsN σ + 1 + n.toNatClampNeg ≤ 1000000)) (pc + len, ls, .ref (xsN σ) :: r, xGrid σ n.toNatClampNeg k.toNatClampNeg)
    | none => none)
  | .invokespecial ix => xr1 st fun _ r => (match xCal (xmOwn m) ix with
    | some (k, _, _) => xis (k == 4 && decide (xcat r ≤ 8)) (pc + len, ls, r, σ)
    | none => none)
  | .invokestatic ix => (match xCal (xmOwn m) ix with
    | some (k, _, _) => if k = 5 then xcp st fun s0 sp d dp n r => xis (decide (xcat r ≤ 8) && ((xsS σ s0).1 == 20 || (xsS σ s0).1 == 21) && (xsS σ s0).1 == (xsS σ d).1 && !decide (sp < 0) && !decide (dp < 0) && !decide (n < 0) && decide (sp.toNatClampNeg + n.toNatClampNeg ≤ (xsS σ s0).2) && decide (dp.toNatClampNeg + n.toNatClampNeg ≤ (xsS σ d).2)) (pc + len, ls, r, xRow σ d (va_cpy (xsI σ s0) (xsI σ d) sp.toNatClampNeg dp.toNatClampNeg n.toNatClampNeg)) else if k = 6 then xo2 st fun x y r => xis (decide (xcat r ≤ 8)) (pc + len, ls, .int (if x < y then y else x) :: r, σ) else if k = 7 then xo2 st fun x y r => xis (decide (xcat r ≤ 8)) (pc + len, ls, .int (if y < x then y else x) :: r, σ) else none
    | none => none)
  | _ => none
def xKo (k : Nat) : Nat := if k = 42 then 16 else if k ≤ 12 then k else 99
/-- arguments as locals -/
def xfl (as : List Value) : List Value := as.flatMap fun v => if v.category = 2 then [v, .retAddr 0] else [v]
def xArg (j : Nat) (st : List Value) : Option (XM × List Value × List Value) := match xMs[j]? with
  | some c => if decide (xmN c ≤ st.length) && decide (xcat (st.drop (xmN c)) ≤ 8) && decide ((xfl (st.take (xmN c)).reverse).length ≤ xmL c) then some (c, (st.take (xmN c)).reverse, st.drop (xmN c)) else none
  | none => none
/-- is it a call of a method that is walked? the method, its arguments, what stays -/
def xCall (m : XM) (ins : Instr) (st : List Value) (σ : XS) : Option (XM × List Value × List Value) := match ins with
  | .invokestatic ix => (match xCal (xmOwn m) ix with
    | some (k, j, _) => if k = 0 ∨ k = 3 then xArg j st else none
    | none => none)
  | .invokespecial ix => (match xCal (xmOwn m) ix with
    | some (k, j, _) => if k = 2 then (match xArg j st with
      | some (c, .ref a :: as, r) => some (c, .ref a :: as, r)
      | _ => none) else none
    | none => none)
  | .invokevirtual ix => (match xCal (xmOwn m) ix with
    | some (k, j, _) => if k = 1 then (match xArg j st with
      | some (c, .ref a :: as, r) => if xKo (xsS σ a).1 = xmOwn c then some (c, .ref a :: as, r) else none
      | _ => none) else none
    | none => none)
  | _ => none
def xRet (m : XM) (ins : Instr) (st : List Value) : Option (Option Value) := match ins with
  | .return_ => (match st, xmRet m with
    | [], none => some none
    | _, _ => none)
  | .ireturn => (match st, xmRet m with
    | [.int v], some .int => some (some (.int v))
    | [.int v], some .boolean => if v = 0 ∨ v = 1 then some (some (.int v)) else none
    | [.int v], some .byte => if narrow .byte (.int v) = .int v then some (some (.int v)) else none
    | [.int v], some .char => if narrow .char (.int v) = .int v then some (some (.int v)) else none
    | _, _ => none)
  | .lreturn => (match st, xmRet m with
    | [.long v], some .long => some (some (.long v))
    | _, _ => none)
  | .areturn => (match st, xmRet m with
    | [.ref a], some (.object _) => some (some (.ref a))
    | _, _ => none)
  | _ => none
/-- a method's locals at its entry -/
def xIni (as : List Value) (n : Nat) : List Value := xfl as ++ List.replicate (n - (xfl as).length) (.retAddr 0)
def xexec : Nat → XM → Nat → List Value → List Value → XS → Option (Option Value × XS)
  | 0, _, _, _, _, _ => none
  | n + 1, m, pc, ls, st, σ => match xmAt m pc with
    | none => none
    | some (ins, len) => (match xCall m ins st σ with
      | some (c, as, r) => (match xexec n c 0 (xIni as (xmL c)) [] σ with
        | none => none
        | some (v, σ') => xexec n m (pc + len) ls (v.toList ++ r) σ')
      | none => (match xRet m ins st with
        | some v => some (v, σ)
        | none => (match xstep m pc ins len ls st σ with
          | none => none
          | some (pc', ls', st', σ') => xexec n m pc' ls' st' σ')))
