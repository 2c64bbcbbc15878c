/-! NEW CELLS, ROWS OF CELLS, COPIES, OLD CELLS -/
theorem xWd.push {g : XG} {σ : XS} {H H1 : Heap} (h : xWd g σ H) {kind len slots : Nat} (hkind : kind ≤ 12 ∨ (20 ≤ kind ∧ kind ≤ 29)) (hn : xsN σ + 1 ≤ 1000000) (hz : H1.size = H.size + 1) (ho : ∀ q, q < H.size → H1[q]? = H[q]?) (he : va_at (xgD g) xCl (xgB g + xsN σ, xEnt g (xNew σ kind len slots) (xsN σ)) H1) : xWd g (xNew σ kind len slots) H1 := by
  obtain ⟨h1, h2, h3, h4, h5, h6, h7⟩ := h
  refine ⟨by rw [hz, h1]; rfl, hn, fun k q hk => ?_, fun a ha => ?_, fun a ha hk => ?_, fun a i ha => ?_, fun a ha => ?_⟩
  · obtain ⟨z1, rfl⟩ := xWs_inv hk
    have z1 : k < xsN σ + 1 := z1
    rcases Nat.lt_or_ge k (xsN σ) with q | q
    · have e : xEnt g (xNew σ kind len slots) k = xEnt g σ k := xEnt_c (if_neg (Nat.ne_of_lt q)) (if_neg (Nat.ne_of_lt q)) (if_neg (Nat.ne_of_lt q))
      rw [e]
      exact (h3 k _ (xWs_get q)).kept (ho _ (by rw [h1]; show xgB g + k < _; omega))
    · have e : k = xsN σ := by omega
      subst e
      exact he
  · have ha : xsN σ + 1 ≤ a := ha
    show (if a = xsN σ then (kind, len) else xsS σ a) = _ ∨ (if a = xsN σ then (kind, len) else xsS σ a) = _
    rw [if_neg (by omega)]
    exact h4 a (by omega)
  · have hk : (if a = xsN σ then (kind, len) else xsS σ a).1 ≠ 99 := hk
    rw [if_neg (by omega)] at hk
    show (if a = xsN σ then (fun _ => 0) else xsI σ a) = _
    rw [if_neg (by omega)]
    exact h5 a ha hk
  · by_cases e : a = xsN σ
    · show ((if a = xsN σ then (fun _ => (0 : Int32)) else xsI σ a) i).toInt8.toInt32 = (if a = xsN σ then (fun _ => (0 : Int32)) else xsI σ a) i
      rw [if_pos e]
      decide +kernel
    · have ha2 : (if a = xsN σ then (kind, len) else xsS σ a).1 = 21 := ha
      rw [if_neg e] at ha2
      show ((if a = xsN σ then (fun _ => (0 : Int32)) else xsI σ a) i).toInt8.toInt32 = (if a = xsN σ then (fun _ => (0 : Int32)) else xsI σ a) i
      rw [if_neg e]
      exact h6 a i ha2
  · have ha : a < xsN σ + 1 := ha
    show (if a = xsN σ then (kind, len) else xsS σ a).1 ≤ 12 ∨ (20 ≤ (if a = xsN σ then (kind, len) else xsS σ a).1 ∧ (if a = xsN σ then (kind, len) else xsS σ a).1 ≤ 29)
    by_cases e : a = xsN σ
    · rw [if_pos e]
      exact hkind
    · rw [if_neg e]
      exact h7 a (by omega)
theorem xS_new {σ : XS} {kind len slots : Nat} : xsS (xNew σ kind len slots) (xsN σ) = (kind, len) := if_pos rfl
theorem xI_new {σ : XS} {kind len slots : Nat} : xsI (xNew σ kind len slots) (xsN σ) = fun _ => 0 := if_pos rfl
theorem xR_new {σ : XS} {kind len slots : Nat} : xsR (xNew σ kind len slots) (xsN σ) = fun _ => none := if_pos rfl
theorem x_grow {g : XG} {H0 H H1 : Heap} {locs : List Loc} (h : va_S (xA g) H0 H locs) (hz : H.size ≤ H1.size) (ho : ∀ q, q < H.size → H1[q]? = H[q]?) : va_S (xA g) H0 H1 locs := ⟨Nat.le_trans h.1 hz, fun q h1 h2 => by rw [ho q (Nat.lt_of_lt_of_le h1 h.1)]; exact h.2.1 q h1 h2, h.2.2⟩
section XALLOC
variable {p : Program} {l : Launch} {e : Env} {R : Room} {s : State} {mid : MethodId} {args : Array Value} {below : List Frame} {meth : Method} {c : Code} {H : Heap} {locs : List Loc} {cells slots : Nat} {Q : State → Prop}
variable {g : XG} {m : XM} {pc : Nat} {ls : Array Slot} {rest : List Value} {σ : XS} {cc : ByteArray}
theorem xr_new (hF : xFix g m p s mid args meth c) (ho : xmOwn m < 21) {ix ci po : Nat} (hf : xKl (xmOwn m) ix = some (ci, po)) (hci : ci ≤ 12) (hW : xWd g σ H) (hS : va_S (xA g) s.heap H locs) (hn : xsN σ + 1 ≤ 1000000) (hcells : cells + 1 ≤ R.cells) (hslots : slots + xNf ci ≤ R.slots) (hdg : decode (xmC m) pc = .ok (.new ix, 3))
    (kk : ∀ H', xWd g (xNew σ ci 0 (xNf ci)) H' → va_S (xA g) s.heap H' locs → W p l e R s mid args below meth c H' locs (cells + 1) (slots + xNf ci) Q (F0 mid (pc + 3) ls (.ref (xgB g + xsN σ) :: rest))) : W p l e R s mid args below meth c H locs cells slots Q (F0 mid pc ls rest) := by
  obtain ⟨hx, hb, hml, hown, hts, hO, hsz, hin⟩ := hF
  obtain ⟨-, h2⟩ := xKl_ok ho hf
  obtain ⟨h1, h2⟩ := h2 (by omega)
  obtain ⟨w1, w2⟩ := xNew_ok ci h1
  have hc := xCl_get _ h1
  have hKn := hO.1.1 ci _ hc
  refine W.newcK hx hb hown (hts _ h2) (hts _ (xw_of w1 rfl)) (hts _ (xw_of w2 rfl)) rfl hdg hcells hslots hKn.2.1 hW.1 fun H1 kC hkC e1 z1 o1 => ?_
  have z2 : H1.size = H.size + 1 := by rw [z1, hW.1]
  have o2 : ∀ q, q < H.size → H1[q]? = H[q]? := fun q hq => o1 q (by rw [← hW.1]; exact hq)
  refine kk H1 (hW.push (Or.inl hci) hn z2 o2 ?_) (x_grow hS (by omega) o2)
  rw [xEnt_o (by rw [xS_new]; exact hci), xS_new]
  refine ⟨_, hc, (u_born (xTy ci) hts (xin h1) hKn hkC e1 (xTy_ok _ h1)).to (fun j hj => ?_)⟩
  have hv : vp_V ((List.range (xNf ci)).map fun j => xcv g (xfv (xNew σ ci 0 (xNf ci)) ci (xsN σ) j)) j = xcv g (xfv (xNew σ ci 0 (xNf ci)) ci (xsN σ) j) := by
    unfold vp_V
    rw [List.getD_eq_getElem?_getD, List.getElem?_map, List.getElem?_range hj]
    rfl
  rw [hv]
  unfold xfv
  rw [xI_new, xR_new]
  rcases xFk_ok _ h1 j hj with ⟨z, t⟩ | ⟨z, t⟩ | ⟨z, ⟨n, -, t⟩ | t | t | t | t | ⟨n, -, t⟩⟩
  all_goals (rw [t, z]; rfl)
theorem xr_newa (hF : xFix g m p s mid args meth c) {at0 : ArrayType} {ty : FieldType} {kd : Nat} (hty : newarray.typeOf at0 = ty) (hk1 : 20 ≤ kd) (hk2 : kd ≤ 22) (hw : Cond.arrayClass ty ∈ xw) (ht : (xTys g)[kd - 20]? = some (xgA g kd, ty)) (hd : defaultValue ty = .int 0) (hra : ∀ cA, va_RA s cA ty = (s.vm.findClass ("[" ++ ty.toString) = some cA)) (hW : xWd g σ H) (hS : va_S (xA g) s.heap H locs) (hn : xsN σ + 1 ≤ 1000000) {n : Int32} (hn0 : ¬ n < 0) (hnb : n.toNatClampNeg ≤ 100000) (hcb : componentBytes ty ≤ 8) (hcells : cells + 1 ≤ R.cells) (hslots : slots + n.toNatClampNeg ≤ R.slots) (hdg : decode (xmC m) pc = .ok (.newarray at0, 2))
    (kk : ∀ H', xWd g (xNew σ kd n.toNatClampNeg n.toNatClampNeg) H' → va_S (xA g) s.heap H' locs → W p l e R s mid args below meth c H' locs (cells + 1) (slots + n.toNatClampNeg) Q (F0 mid (pc + 2) ls (.ref (xgB g + xsN σ) :: rest))) : W p l e R s mid args below meth c H locs cells slots Q (F0 mid pc ls (.int n :: rest)) := by
  obtain ⟨hx, hb, hml, hown, hts, hO, hsz, hin⟩ := hF
  subst hty
  refine va_newaK hx hb (hts _ hw) rfl hdg rfl hn0 rfl (by calc n.toNatClampNeg * componentBytes (newarray.typeOf at0) ≤ 100000 * 8 := Nat.mul_le_mul hnb hcb
      _ ≤ 536870912 := by decide) hcells hslots hW.1 fun H1 cA e1 z1 o1 hAr hNm => ?_
  have hcA : cA = xgA g kd := by
    have h9 := (hO.1.2 _ _ ht).2
    rw [hra] at h9
    exact Option.some.inj (hNm.symm.trans h9)
  subst hcA
  have z2 : H1.size = H.size + 1 := by rw [z1, hW.1]
  have o2 : ∀ q, q < H.size → H1[q]? = H[q]? := fun q hq => o1 q (by rw [← hW.1]; exact hq)
  refine kk H1 (hW.push (Or.inr ⟨hk1, by omega⟩) hn z2 o2 ?_) (x_grow hS (by omega) o2)
  rw [xEnt_i (by rw [xS_new]; show 12 < kd; omega) (by rw [xS_new]; exact hk2), xS_new, xI_new]
  show H1[_]? = some (vp_cell _ _)
  rw [e1, hd]
  rfl
theorem xr_anew (hF : xFix g m p s mid args meth c) (ho : xmOwn m < 21) {ix ci po : Nat} (hf : xKl (xmOwn m) ix = some (ci, po)) (hak : xAk ci ≤ 28) (hW : xWd g σ H) (hS : va_S (xA g) s.heap H locs) (hn : xsN σ + 1 ≤ 1000000) {n : Int32} (hn0 : ¬ n < 0) (hnb : n.toNatClampNeg ≤ 100000) (hcells : cells + 1 ≤ R.cells) (hslots : slots + n.toNatClampNeg ≤ R.slots) (hdg : decode (xmC m) pc = .ok (.anewarray ix, 3))
    (kk : ∀ H', xWd g (xNew σ (xAk ci) n.toNatClampNeg n.toNatClampNeg) H' → va_S (xA g) s.heap H' locs → W p l e R s mid args below meth c H' locs (cells + 1) (slots + n.toNatClampNeg) Q (F0 mid (pc + 3) ls (.ref (xgB g + xsN σ) :: rest))) : W p l e R s mid args below meth c H locs cells slots Q (F0 mid pc ls (.int n :: rest)) := by
  obtain ⟨hx, hb, hml, hown, hts, hO, hsz, hin⟩ := hF
  obtain ⟨-, h2⟩ := xKl_ok ho hf
  have hne : ci ≠ 29 := fun h => by subst h; revert hak; decide
  obtain ⟨h1, h2⟩ := h2 hne
  have hfacts : 23 ≤ xAk ci ∧ xR ci ∈ xAos ∧ (xTys g)[xAk ci - 20]? = some (xgA g (xAk ci), .object (xR ci)) := by
    have : ci = 0 ∨ ci = 1 ∨ ci = 2 ∨ ci = 3 ∨ ci = 4 ∨ ci = 5 ∨ ci = 6 ∨ ci = 7 ∨ ci = 8 ∨ ci = 9 ∨ ci = 10 ∨ ci = 11 ∨ ci = 12 := by omega
    rcases this with h | h | h | h | h | h | h | h | h | h | h | h | h <;> (subst h; first | (exfalso; revert hak; decide) | exact ⟨by decide, by decide +kernel, rfl⟩)
  obtain ⟨f0, f1, f2⟩ := hfacts
  refine W.anew hx hb hown (hts _ h2) (va_AO.use (hO.2.2.2.2.2.2.2.2.2.2.1 _ f1)) rfl hdg rfl hn0 (by calc n.toNatClampNeg * 4 ≤ 100000 * 4 := Nat.mul_le_mul hnb (Nat.le_refl 4)
      _ ≤ 536870912 := by decide) hcells hslots fun cA kA comp g1 g2 g3 g4 => ?_
  have hcA : cA = xgA g (xAk ci) := by
    obtain ⟨_, _, -, -, -, h9⟩ := (hO.1.2 _ _ f2).2
    exact Option.some.inj (g1.symm.trans h9)
  subst hcA
  generalize hH1 : H.push ({ cls := xgA g (xAk ci), slots := Array.replicate n.toNatClampNeg .null, vm := .none } : Cell) = H1
  have z1 : H1.size = H.size + 1 := by rw [← hH1, Array.size_push]
  have e1 : H1[H.size]? = some (arrV (xgA g (xAk ci)) n.toNatClampNeg (fun _ => .null)) := by rw [← hH1, Array.getElem?_push_size, ← arrV_new]
  have o1 : ∀ q : Nat, q < H.size → H1[q]? = H[q]? := fun q hq => by rw [← hH1, Array.getElem?_push, if_neg (Nat.ne_of_lt hq)]
  have k1 := kk H1 (hW.push (Or.inr ⟨by omega, by omega⟩) hn z1 o1 (by
    rw [xEnt_q (by rw [xS_new]; show 22 < xAk ci; omega), xS_new, xR_new]
    show H1[_]? = some (vp_cell _ _)
    rw [← hW.1, e1]
    rfl)) (x_grow hS (by omega) o1)
  rw [← hW.1] at k1
  exact k1
theorem xr_aast (hF : xFix g m p s mid args meth c) {a q : Nat} {i : Int32} (hW : xWd g σ H) (hS : va_S (xA g) s.heap H locs) (h1 : 23 ≤ (xsS σ a).1) (h2 : (xsS σ a).1 ≤ 28) (hq : (xsS σ q).1 = xAe (xsS σ a).1) (hi : vp_in i (xsS σ a).2) (hdg : decode (xmC m) pc = .ok (.aastore, 1))
    (kk : ∀ H' locs', xWd g (xPutR σ a i.toNatClampNeg q) H' → va_S (xA g) s.heap H' locs' → W p l e R s mid args below meth c H' locs' cells slots Q (F0 mid (pc + 1) ls rest)) : W p l e R s mid args below meth c H locs cells slots Q (F0 mid pc ls (.ref (xAd g q) :: .int i :: .ref (xAd g a) :: rest)) := by
  obtain ⟨hx, hb, hml, hown, hts, hO, hsz, hin⟩ := hF
  have he := hW.pl (a := a) (by omega)
  rw [xEnt_q (by omega)] at he
  have hfacts : xAe (xsS σ a).1 ≤ 12 ∧ (xTys g)[(xsS σ a).1 - 20]? = some (xgA g (xsS σ a).1, .object (xR (xAe (xsS σ a).1))) := by
    have : (xsS σ a).1 = 23 ∨ (xsS σ a).1 = 24 ∨ (xsS σ a).1 = 25 ∨ (xsS σ a).1 = 26 ∨ (xsS σ a).1 = 27 ∨ (xsS σ a).1 = 28 := by omega
    rcases this with h | h | h | h | h | h <;> (rw [h]; exact ⟨by decide, rfl⟩)
  obtain ⟨f0, ht⟩ := hfacts
  have hq12 : (xsS σ q).1 ≤ 12 := by rw [hq]; exact f0
  have heq := hW.pl (a := q) (by omega)
  rw [xEnt_o hq12, hq] at heq
  have hc := xCl_get (xAe (xsS σ a).1) (by omega)
  have hlt : i.toNatClampNeg < (xsS σ a).2 := Nat.not_le.mp fun z => hi (Or.inr z)
  have h0 : ¬ i < 0 := fun z => hi (Or.inl z)
  obtain ⟨r', hr', cellV, g1, g2, g3, -⟩ := hW.2.2.1 q _ heq
  have hcls := (hO.1.1 _ _ hc).2
  obtain ⟨kA, comp, k1, k2, k3, -⟩ := (hO.1.2 _ _ ht).2
  have hcomp : comp = (xgD g).1 (xAe (xsS σ a).1) := Option.some.inj (k3.symm.trans hcls.1)
  subst hcomp
  obtain ⟨kC, hkC, -⟩ := hcls.2
  refine W.aast hx hb (hW.2.2.1 a _ he) (fun z h => by cases h) (fun h => by cases h) k1 k2 rfl hkC ⟨h0, by show _ < (arrV _ _ _).slots.size; rw [arrV_size]; exact hlt⟩ g1 (fun z h => by rw [g3] at h; cases h) (by rw [g2]; exact hkC) (by rw [g2]; exact va_assign hcls) rfl rfl hdg fun H1 e z oq => ?_
  have had := hW.ad (a := a) (by omega)
  refine kk H1 _ ?_ (hS.put z oq (by rw [had]; exact Nat.le_add_right _ _))
  rw [had] at e oq
  refine hW.set1 (hW.lt (by omega)) rfl rfl (fun _ _ => rfl) (fun b hb => x_urn hb) (fun h => by omega) z ?_ oq
  rw [xEnt_q (show 22 < (xsS (xPutR σ a i.toNatClampNeg q) a).1 from (by omega : 22 < (xsS σ a).1))]
  have e5 : H1[xgB g + a]? = some (vp_cell (xgA g (xsS σ a).1) ((xsS σ a).2, .inr (.inr (.inr (.inr (va_up (fun j => (xsR σ a j).map (xAd g)) i.toNatClampNeg (some (xAd g q)))))))) := by
    rw [← x_setq]
    exact e
  have e6 : (fun j => (xsR (xPutR σ a i.toNatClampNeg q) a j).map (xAd g)) = va_up (fun j => (xsR σ a j).map (xAd g)) i.toNatClampNeg (some (xAd g q)) := by
    funext j
    show (xur σ.2.2.2 a i.toNatClampNeg (some q) a j).map (xAd g) = _
    rw [x_ur1]
    unfold va_up
    by_cases hj : j = i.toNatClampNeg
    · rw [if_pos hj, if_pos hj]
      rfl
    · rw [if_neg hj, if_neg hj]
  show H1[_]? = some (vp_cell _ (_, .inr (.inr (.inr (.inr (fun j => (xsR (xPutR σ a i.toNatClampNeg q) a j).map (xAd g)))))))
  rw [e6]
  exact e5
end XALLOC
