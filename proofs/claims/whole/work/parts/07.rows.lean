/-! WHAT A STEP DOES TO THE HEAP -/
theorem xWd.set1 {g : XG} {σ σ' : XS} {H H1 : Heap} {a : Nat} (h : xWd g σ H) (ha : a < xsN σ) (hn : xsN σ' = xsN σ) (hS : xsS σ' = xsS σ) (hI : ∀ b, b ≠ a → xsI σ' b = xsI σ b) (hR : ∀ b, b ≠ a → xsR σ' b = xsR σ b) (hby : (xsS σ a).1 = 21 → ∀ i, (xsI σ' a i).toInt8.toInt32 = xsI σ' a i) (hz : H1.size = H.size) (he : va_at (xgD g) xCl (xgB g + a, xEnt g σ' a) H1) (ho : ∀ q, q ≠ xgB g + a → H1[q]? = H[q]?) : xWd g σ' H1 := by
  obtain ⟨h1, h2, h3, h4, h5, h6, h7⟩ := h
  refine ⟨by rw [hz, hn]; exact h1, by rw [hn]; exact h2, ?_, fun b hb => by rw [hS]; exact h4 b (by rw [← hn]; exact hb), fun b hb hk => by rw [hI b (by omega)]; exact h5 b hb (by rw [hS] at hk; exact hk), fun b i hb => ?_, fun b hb => by rw [hS]; exact h7 b (by rw [← hn]; exact hb)⟩
  · rw [← xWs_set ha hn rfl (fun b hb => xEnt_c (congrFun hS b) (hI b hb) (hR b hb))]
    exact h3.set (xWs_D g σ) (xWs_get ha) he ho
  · rw [hS] at hb
    by_cases e : b = a
    · subst e
      exact hby hb i
    · rw [hI b e]
      exact h6 b i hb
theorem x_up1 {f : Nat → Nat → Int32} {a k : Nat} {v : Int32} : xu f a k v a = upd (f a) k v := if_pos rfl
theorem x_upn {f : Nat → Nat → Int32} {a b k : Nat} {v : Int32} (h : b ≠ a) : xu f a k v b = f b := if_neg h
theorem x_ur1 {f : Nat → Nat → Option Nat} {a k : Nat} {v : Option Nat} : xur f a k v a = va_up (f a) k v := if_pos rfl
theorem x_urn {f : Nat → Nat → Option Nat} {a b k : Nat} {v : Option Nat} (h : b ≠ a) : xur f a k v b = f b := if_neg h
theorem x_uc1 {f : Nat → Nat → Int32} {a : Nat} {r : Nat → Int32} : xuc f a r a = r := if_pos rfl
theorem x_ucn {f : Nat → Nat → Int32} {a b : Nat} {r : Nat → Int32} (h : b ≠ a) : xuc f a r b = f b := if_neg h
theorem x_seti (cA : ClassId) (n k : Nat) (f : Nat → Int32) (x : Int32) : (vp_cell cA (n, .inl f)).setSlot k (.int x) = vp_cell cA (n, .inl (upd f k x)) := by
  rw [vp_cell_i, vp_cell_i, arrV_store]
  congr 1
  funext q
  by_cases hq : q = k
  · subst hq
    simp [updV, upd]
  · simp [updV, upd, hq]
theorem x_setq (cA : ClassId) (n k : Nat) (f : Nat → Option Nat) (v : Nat) : (vp_cell cA (n, .inr (.inr (.inr (.inr f))))).setSlot k (.ref v) = vp_cell cA (n, .inr (.inr (.inr (.inr (va_up f k (some v)))))) := by
  rw [vp_cell_q, vp_cell_q, arrV_store]
  congr 1
  funext q
  by_cases hq : q = k
  · subst hq
    simp [updV, va_up, va_rf]
  · simp [updV, va_up, hq]
/-- a row of numbers is written -/
theorem xWd.row {g : XG} {σ : XS} {H H1 : Heap} {a : Nat} {r : Nat → Int32} (h : xWd g σ H) (h1 : 12 < (xsS σ a).1) (h2 : (xsS σ a).1 ≤ 22) (hby : (xsS σ a).1 = 21 → ∀ i, (r i).toInt8.toInt32 = r i) (hz : H1.size = H.size) (he : H1[xAd g a]? = some (vp_cell (xgA g (xsS σ a).1) ((xsS σ a).2, .inl r))) (ho : ∀ q, q ≠ xAd g a → H1[q]? = H[q]?) : xWd g (xRow σ a r) H1 := by
  have hk : (xsS σ a).1 ≤ 29 := by omega
  rw [h.ad hk] at he ho
  refine h.set1 (h.lt hk) rfl rfl (fun b hb => x_ucn hb) (fun _ _ => rfl) (fun z i => ?_) hz ?_ ho
  · show (xuc _ a r a i).toInt8.toInt32 = xuc _ a r a i
    rw [x_uc1]
    exact hby z i
  · rw [xEnt_i (show 12 < (xsS (xRow σ a r) a).1 from h1) (show (xsS (xRow σ a r) a).1 ≤ 22 from h2)]
    show H1[_]? = some (vp_cell _ (_, .inl (xuc σ.2.2.1 a r a)))
    rw [x_uc1]
    exact he
theorem x_putrow (σ : XS) (a k : Nat) (v : Int32) : xPut σ a k v = xRow σ a (upd (xsI σ a) k v) := by
  unfold xPut xRow
  congr 3
theorem x_rng_set {N k : Nat} {f f' : Nat → Value} {v : Value} (hk : f' k = v) (ho : ∀ j, j ≠ k → f' j = f j) : ((List.range N).map f).set k v = (List.range N).map f' := by
  refine List.ext_getElem? fun j => ?_
  rw [List.getElem?_set, List.getElem?_map, List.getElem?_map]
  by_cases e : k = j
  · subst e
    rw [if_pos rfl]
    by_cases h : k < N
    · rw [if_pos (by simpa using h), List.getElem?_range h, Option.map_some, hk]
    · rw [if_neg (by simpa using h), List.getElem?_eq_none (by simpa using Nat.le_of_not_lt h)]
      rfl
  · rw [if_neg e]
    by_cases h : j < N
    · rw [List.getElem?_range h, Option.map_some, Option.map_some, ho j (Ne.symm e)]
    · rw [List.getElem?_eq_none (by simpa using Nat.le_of_not_lt h)]
      rfl
section XROWS
variable {p : Program} {l : Launch} {e : Env} {R : Room} {s : State} {mid : MethodId} {args : Array Value} {below : List Frame} {meth : Method} {c : Code} {H : Heap} {locs : List Loc} {cells slots : Nat} {Q : State → Prop}
variable {g : XG} {m : XM} {pc : Nat} {ls : Array Slot} {rest : List Value} {σ : XS} {cc : ByteArray}
theorem xr_get (hF : xFix g m p s mid args meth c) (ho : xmOwn m < 21) {ix ci k po : Nat} (hf : xFld (xmOwn m) ix = some (ci, k, po)) {a : Nat} (hW : xWd g σ H) (hk : (xsS σ a).1 = ci) (hdg : decode (xmC m) pc = .ok (.getfield ix, 3))
    (kk : W p l e R s mid args below meth c H locs cells slots Q (F0 mid (pc + 3) ls (xcv g (xfv σ ci a k) :: rest))) : W p l e R s mid args below meth c H locs cells slots Q (F0 mid pc ls (.ref (xAd g a) :: rest)) := by
  obtain ⟨hx, hb, hml, hown, hts, hO, hsz, hin⟩ := hF
  obtain ⟨h1, h2, h3⟩ := xFld_ok ho hf
  subst hk
  have he := hW.pl (a := a) (by omega)
  rw [xEnt_o (by omega)] at he
  exact va_get (own := xR (xmOwn m)) (ref := (xT (xsS σ a).1 k).1) hx hb hts (xin h1) hown hO.1 hW.2.2.1 a he (xCl_get _ h1) k h2 (hts _ h3) (fun _ z => z) (by rw [List.getElem?_map, List.getElem?_range h2]; rfl) hdg kk
theorem xr_put (hF : xFix g m p s mid args meth c) (ho : xmOwn m < 21) {ix ci k po : Nat} (hf : xFld (xmOwn m) ix = some (ci, k, po)) {a : Nat} {x : Int32} (hW : xWd g σ H) (hS : va_S (xA g) s.heap H locs) (hk : (xsS σ a).1 = ci) (hfk : xFk ci k = 0 ∨ (xFk ci k = 1 ∧ (x = 0 ∨ x = 1))) (hff : xFf ci k = false) (hdg : decode (xmC m) pc = .ok (.putfield ix, 3))
    (kk : ∀ H' locs', xWd g (xPut σ a k x) H' → va_S (xA g) s.heap H' locs' → W p l e R s mid args below meth c H' locs' cells slots Q (F0 mid (pc + 3) ls rest)) : W p l e R s mid args below meth c H locs cells slots Q (F0 mid pc ls (.int x :: .ref (xAd g a) :: rest)) := by
  obtain ⟨hx, hb, hml, hown, hts, hO, hsz, hin⟩ := hF
  obtain ⟨h1, h2, h3⟩ := xFld_ok ho hf
  subst hk
  have hlt := hW.lt (a := a) (by omega)
  have hc := xCl_get _ h1
  have he := hW.pl (a := a) (by omega)
  rw [xEnt_o (by omega)] at he
  have had := hW.ad (a := a) (by omega)
  have hap := va_apart (own := xR (xmOwn m)) (args := args) hts (xin h1) (xTy (xsS σ a).1) (xTy_ok _ h1) (xNm_ok _ h1) hO.1 hc
  obtain ⟨r, g1, cell, q1, q2, q3, q4⟩ := hW.2.2.1 a _ he
  have hr : r = (xR (xsS σ a).1, xT (xsS σ a).1, xNf (xsS σ a).1) := Option.some.inj (g1.symm.trans hc)
  subst hr
  obtain ⟨hSl, hfc, kC, hkC, hkind⟩ := hO.1.1 _ _ hc
  obtain ⟨cf, kf, fi, f, hi, hsl⟩ := hSl k h2
  have hlay := hts _ (xin h1 _ (u_in_lay h2))
  unfold u_lay at hlay
  rw [if_neg (by rw [(xTo_ok _ h1 k h2).2, hff]; decide)] at hlay
  have hst := (u_facts hfc hkC (u_lays hts (xin h1) h2) hi).1
  have hnf : narrow (xTy (xsS σ a).1 k) (.int x) = .int x ∧ fits (xTy (xsS σ a).1 k) (.int x) = true := by
    rcases xFk_ok _ h1 k h2 with ⟨z, t⟩ | ⟨z, t⟩ | ⟨z, -⟩
    · rw [t]
      exact ⟨rfl, rfl⟩
    · rw [t]
      rcases hfk with q | ⟨-, q | q⟩
      · omega
      · subst q
        exact ⟨by decide +kernel, by decide +kernel⟩
      · subst q
        exact ⟨by decide +kernel, by decide +kernel⟩
    · omega
  have h6 := u_store hfc hkC hkind hlay hi (xTy_ok _ h1 k h2) hnf.1 hnf.2
  refine W.putK hx hb (f := f) ⟨hown, hts _ h3, ⟨_, _, _, hi⟩, hst⟩ (by rw [q2]; exact h6) q1 q3 (by rw [hsl]; exact k2_hasslot (q4 k h2)) rfl rfl hdg fun H' e1 e2 e3 => ?_
  rw [hsl] at e1 ⊢
  refine kk H' _ ?_ (hS.put e2 e3 (by rw [had]; exact Nat.le_add_right _ _))
  rw [had] at e1 e3
  refine hW.set1 hlt rfl rfl (fun b hb => x_upn hb) (fun _ _ => rfl) (fun z => by omega) e2 ?_ e3
  rw [xEnt_o (show (xsS (xPut σ a k x) a).1 ≤ 12 from (by omega : (xsS σ a).1 ≤ 12))]
  refine ⟨_, hc, t_OB.to (V := updV (vp_V ((List.range (xNf (xsS σ a).1)).map fun j => xcv g (xfv σ (xsS σ a).1 a j))) k (.int x)) ⟨_, e1, q2, q3, t_set q4 hap h2 (.int x)⟩ (fun j _ => ?_)⟩
  rw [vp_updV_set (by simpa using h2)]
  congr 1
  refine x_rng_set ?_ (fun j hj => ?_)
  · show xcv g (if xFk (xsS σ a).1 k = 2 then _ else .int (xu σ.2.2.1 a k x a k)) = _
    rw [if_neg (by rcases hfk with z | ⟨z, -⟩ <;> omega), x_up1]
    show Value.int (upd _ k x k) = _
    rw [pk_us]
  · show xcv g (if xFk (xsS σ a).1 j = 2 then _ else .int (xu σ.2.2.1 a k x a j)) = xcv g (if xFk (xsS σ a).1 j = 2 then _ else .int (xsI σ a j))
    rw [x_up1, pk_un hj]
    rfl
theorem xr_putF (hF : xFix g m p s mid args meth c) (ho : xmOwn m < 21) {ix ci k po : Nat} (hf : xFld (xmOwn m) ix = some (ci, k, po)) {a q : Nat} (hW : xWd g σ H) (hS : va_S (xA g) s.heap H locs) (hk : (xsS σ a).1 = ci) (hfk : xFk ci k = 2) (hff : xFf ci k = true) (hK : xmK m = 2) (hoc : xmOwn m = ci) (hdg : decode (xmC m) pc = .ok (.putfield ix, 3))
    (kk : ∀ H' locs', xWd g (xPutR σ a k q) H' → va_S (xA g) s.heap H' locs' → W p l e R s mid args below meth c H' locs' cells slots Q (F0 mid (pc + 3) ls rest)) : W p l e R s mid args below meth c H locs cells slots Q (F0 mid pc ls (.ref (xAd g q) :: .ref (xAd g a) :: rest)) := by
  obtain ⟨hx, hb, hml, hown, hts, hO, hsz, hin⟩ := hF
  obtain ⟨h1, h2, h3⟩ := xFld_ok ho hf
  subst hk
  have hlt := hW.lt (a := a) (by omega)
  have hc := xCl_get _ h1
  have he := hW.pl (a := a) (by omega)
  rw [xEnt_o (by omega)] at he
  have had := hW.ad (a := a) (by omega)
  have hap := va_apart (own := xR (xmOwn m)) (args := args) hts (xin h1) (xTy (xsS σ a).1) (xTy_ok _ h1) (xNm_ok _ h1) hO.1 hc
  obtain ⟨r, g1, cell, q1, q2, q3, q4⟩ := hW.2.2.1 a _ he
  have hr : r = (xR (xsS σ a).1, xT (xsS σ a).1, xNf (xsS σ a).1) := Option.some.inj (g1.symm.trans hc)
  subst hr
  obtain ⟨hSl, hfc, kC, hkC, hkind⟩ := hO.1.1 _ _ hc
  obtain ⟨cf, kf, fi, f, hi, hsl⟩ := hSl k h2
  have hlay := hts _ (xin h1 _ (u_in_lay h2))
  unfold u_lay at hlay
  rw [if_pos (by rw [(xTo_ok _ h1 k h2).2, hff])] at hlay
  have hst := (u_facts hfc hkC (u_lays hts (xin h1) h2) hi).1
  have hcf : mid.cls = cf := by
    obtain ⟨_, _, c', _, _, _, -, -, hf', -, -, -, hown2, -⟩ := Cond.laysFinal_spec hlay
    have e1 : c' = cf := by have := hi.symm.trans hf'; simp at this; exact this.1.symm
    rw [(xTo_ok _ h1 k h2).1, ← hoc] at hown2
    rw [← e1]; exact Option.some.inj (hown.symm.trans hown2)
  have hnf : narrow (xTy (xsS σ a).1 k) (.ref (xAd g q)) = .ref (xAd g q) ∧ fits (xTy (xsS σ a).1 k) (.ref (xAd g q)) = true := by
    rcases xFk_ok _ h1 k h2 with ⟨z, t⟩ | ⟨z, t⟩ | ⟨-, ⟨n, -, t⟩ | t | t | t | t | ⟨n, -, t⟩⟩
    · omega
    · omega
    all_goals (rw [t]; exact ⟨rfl, rfl⟩)
  have h6 := u_fits hfc hkC hkind (Or.inr hlay) hi (xTy_ok _ h1 k h2) hnf.1 hnf.2
  refine W.putFinK hx hb hown (hts _ h3) hi hst hcf (hin hK) (by rw [q2]; exact h6) q1 q3 (by rw [hsl]; exact k2_hasslot (q4 k h2)) rfl rfl hdg fun H' e1 e2 e3 => ?_
  rw [hsl] at e1 ⊢
  refine kk H' _ ?_ (hS.put e2 e3 (by rw [had]; exact Nat.le_add_right _ _))
  rw [had] at e1 e3
  refine hW.set1 hlt rfl rfl (fun _ _ => rfl) (fun b hb => x_urn hb) (fun z => by omega) e2 ?_ e3
  rw [xEnt_o (show (xsS (xPutR σ a k q) a).1 ≤ 12 from (by omega : (xsS σ a).1 ≤ 12))]
  refine ⟨_, hc, t_OB.to (V := updV (vp_V ((List.range (xNf (xsS σ a).1)).map fun j => xcv g (xfv σ (xsS σ a).1 a j))) k (.ref (xAd g q))) ⟨_, e1, q2, q3, t_set q4 hap h2 (.ref (xAd g q))⟩ (fun j _ => ?_)⟩
  rw [vp_updV_set (by simpa using h2)]
  congr 1
  refine x_rng_set ?_ (fun j hj => ?_)
  · show xcv g (if xFk (xsS σ a).1 k = 2 then xrf (xur σ.2.2.2 a k (some q) a k) else _) = _
    rw [if_pos hfk, x_ur1]
    show xcv g (xrf (va_up _ k (some q) k)) = _
    unfold va_up
    rw [if_pos rfl]
    rfl
  · show xcv g (if xFk (xsS σ a).1 j = 2 then xrf (xur σ.2.2.2 a k (some q) a j) else _) = xcv g (if xFk (xsS σ a).1 j = 2 then xrf (xsR σ a j) else _)
    rw [x_ur1]
    unfold va_up
    rw [if_neg hj]
    rfl
theorem xTy_at (g : XG) {k : Nat} (h1 : 20 ≤ k) (h2 : k ≤ 29) : ∃ ty, (xTys g)[k - 20]? = some (xgA g k, ty) := by
  have : k = 20 ∨ k = 21 ∨ k = 22 ∨ k = 23 ∨ k = 24 ∨ k = 25 ∨ k = 26 ∨ k = 27 ∨ k = 28 ∨ k = 29 := by omega
  rcases this with h | h | h | h | h | h | h | h | h | h <;> (subst h; exact ⟨_, rfl⟩)
theorem xr_alen (hF : xFix g m p s mid args meth c) {a : Nat} (hW : xWd g σ H) (h1 : 20 ≤ (xsS σ a).1) (h2 : (xsS σ a).1 ≤ 29) (hdg : decode (xmC m) pc = .ok (.arraylength, 1))
    (kk : W p l e R s mid args below meth c H locs cells slots Q (F0 mid (pc + 1) ls (.int (Int32.ofNat (xsS σ a).2) :: rest))) : W p l e R s mid args below meth c H locs cells slots Q (F0 mid pc ls (.ref (xAd g a) :: rest)) := by
  obtain ⟨hx, hb, hml, hown, hts, hO, hsz, hin⟩ := hF
  obtain ⟨ty, ht⟩ := xTy_at g h1 h2
  have he := hW.pl (a := a) h2
  by_cases h3 : (xsS σ a).1 ≤ 22
  · rw [xEnt_i (by omega) h3] at he
    exact va_alen hx hb hO.1 hW.2.2.1 a _ he ht rfl hdg kk
  · rw [xEnt_q (by omega)] at he
    exact va_alen hx hb hO.1 hW.2.2.1 a _ he ht rfl hdg kk
theorem xr_iald (hF : xFix g m p s mid args meth c) {a : Nat} {i : Int32} (hW : xWd g σ H) (hk : (xsS σ a).1 = 20) (hi : vp_in i (xsS σ a).2) (hdg : decode (xmC m) pc = .ok (.iaload, 1))
    (kk : W p l e R s mid args below meth c H locs cells slots Q (F0 mid (pc + 1) ls (.int (xsI σ a i.toNatClampNeg) :: rest))) : W p l e R s mid args below meth c H locs cells slots Q (F0 mid pc ls (.int i :: .ref (xAd g a) :: rest)) := by
  obtain ⟨hx, hb, hml, hown, hts, hO, hsz, hin⟩ := hF
  have he := hW.pl (a := a) (by omega)
  rw [xEnt_i (by omega) (by omega)] at he
  exact va_iald hx hb hO.1 hW.2.2.1 a 0 he (by rw [hk]; rfl) hi hdg kk
theorem xr_bald (hF : xFix g m p s mid args meth c) {a : Nat} {i : Int32} (hW : xWd g σ H) (hk : (xsS σ a).1 = 21 ∨ (xsS σ a).1 = 22) (hi : vp_in i (xsS σ a).2) (hdg : decode (xmC m) pc = .ok (.baload, 1))
    (kk : W p l e R s mid args below meth c H locs cells slots Q (F0 mid (pc + 1) ls (.int (xsI σ a i.toNatClampNeg) :: rest))) : W p l e R s mid args below meth c H locs cells slots Q (F0 mid pc ls (.int i :: .ref (xAd g a) :: rest)) := by
  obtain ⟨hx, hb, hml, hown, hts, hO, hsz, hin⟩ := hF
  have he := hW.pl (a := a) (by omega)
  rw [xEnt_i (by omega) (by omega)] at he
  rcases hk with hk | hk
  · exact va_bald hx hb hO.1 hW.2.2.1 a 1 he (by rw [hk]; rfl) hi hdg kk
  · exact va_zald hx hb hO.1 hW.2.2.1 a 2 he (by rw [hk]; rfl) hi hdg kk
theorem xr_aald (hF : xFix g m p s mid args meth c) {a : Nat} {i : Int32} (hW : xWd g σ H) (h1 : 23 ≤ (xsS σ a).1) (h2 : (xsS σ a).1 ≤ 29) (hi : vp_in i (xsS σ a).2) (hdg : decode (xmC m) pc = .ok (.aaload, 1))
    (kk : W p l e R s mid args below meth c H locs cells slots Q (F0 mid (pc + 1) ls (xcv g (xrf (xsR σ a i.toNatClampNeg)) :: rest))) : W p l e R s mid args below meth c H locs cells slots Q (F0 mid pc ls (.int i :: .ref (xAd g a) :: rest)) := by
  obtain ⟨hx, hb, hml, hown, hts, hO, hsz, hin⟩ := hF
  have he := hW.pl (a := a) h2
  rw [xEnt_q (by omega)] at he
  have hlt : i.toNatClampNeg < (xsS σ a).2 := Nat.not_le.mp fun q => hi (Or.inr q)
  have hty : ∃ ty : FieldType, ty.isReference = true ∧ (xTys g)[(xsS σ a).1 - 20]? = some (xgA g (xsS σ a).1, ty) := by
    have : (xsS σ a).1 = 23 ∨ (xsS σ a).1 = 24 ∨ (xsS σ a).1 = 25 ∨ (xsS σ a).1 = 26 ∨ (xsS σ a).1 = 27 ∨ (xsS σ a).1 = 28 ∨ (xsS σ a).1 = 29 := by omega
    rcases this with h | h | h | h | h | h | h <;> (rw [h]; exact ⟨_, rfl, rfl⟩)
  obtain ⟨ty, hr, ht⟩ := hty
  have hv : va_rf ((xsR σ a i.toNatClampNeg).map (xAd g)) = xcv g (xrf (xsR σ a i.toNatClampNeg)) := by
    cases xsR σ a i.toNatClampNeg <;> rfl
  refine W.aald (v := va_rf ((xsR σ a i.toNatClampNeg).map (xAd g))) (ty := ty) hx hb (hW.2.2.1 a _ he) ((hO.1.2 _ _ ht).1 (xsS σ a).2 (fun j => va_rf ((xsR σ a j).map (xAd g)))) hr (fun q => by cases q) (by show ¬ (i < 0 ∨ (arrV _ _ _).slots.size ≤ _); rw [arrV_size]; exact hi) (by show (arrV _ _ _).slots[_]? = _; rw [arrV_read _ _ hlt]) rfl rfl hdg ?_
  rw [hv]
  exact kk
theorem xr_iast (hF : xFix g m p s mid args meth c) {a : Nat} {i x : Int32} (hW : xWd g σ H) (hS : va_S (xA g) s.heap H locs) (hk : (xsS σ a).1 = 20) (hi : vp_in i (xsS σ a).2) (hdg : decode (xmC m) pc = .ok (.iastore, 1))
    (kk : ∀ H' locs', xWd g (xPut σ a i.toNatClampNeg x) H' → va_S (xA g) s.heap H' locs' → W p l e R s mid args below meth c H' locs' cells slots Q (F0 mid (pc + 1) ls rest)) : W p l e R s mid args below meth c H locs cells slots Q (F0 mid pc ls (.int x :: .int i :: .ref (xAd g a) :: rest)) := by
  obtain ⟨hx, hb, hml, hown, hts, hO, hsz, hin⟩ := hF
  have he := hW.pl (a := a) (by omega)
  rw [xEnt_i (by omega) (by omega)] at he
  have ht : (xTys g)[0]? = some (xgA g (xsS σ a).1, .int) := by rw [hk]; rfl
  refine W.iast hx hb (hW.2.2.1 a _ he) ((hO.1.2 _ _ ht).1 (xsS σ a).2 (fun j => .int (xsI σ a j))) (fun q => by cases q) (by show ¬ (i < 0 ∨ (arrV _ _ _).slots.size ≤ _); rw [arrV_size]; exact hi) rfl rfl hdg fun H1 e z oq => ?_
  refine kk H1 _ ?_ (hS.put z oq (by rw [hW.ad (a := a) (by omega)]; exact Nat.le_add_right _ _))
  rw [x_putrow]
  exact hW.row (by omega) (by omega) (fun h => by omega) z (by rw [e, x_seti]) oq
theorem xr_bast (hF : xFix g m p s mid args meth c) {a : Nat} {i x : Int32} (hW : xWd g σ H) (hS : va_S (xA g) s.heap H locs) (hk : (xsS σ a).1 = 21) (hi : vp_in i (xsS σ a).2) (hdg : decode (xmC m) pc = .ok (.bastore, 1))
    (kk : ∀ H' locs', xWd g (xPut σ a i.toNatClampNeg x.toInt8.toInt32) H' → va_S (xA g) s.heap H' locs' → W p l e R s mid args below meth c H' locs' cells slots Q (F0 mid (pc + 1) ls rest)) : W p l e R s mid args below meth c H locs cells slots Q (F0 mid pc ls (.int x :: .int i :: .ref (xAd g a) :: rest)) := by
  obtain ⟨hx, hb, hml, hown, hts, hO, hsz, hin⟩ := hF
  have he := hW.pl (a := a) (by omega)
  rw [xEnt_i (by omega) (by omega)] at he
  have ht : (xTys g)[1]? = some (xgA g (xsS σ a).1, .byte) := by rw [hk]; rfl
  have hn : narrow .byte (.int x) = .int x.toInt8.toInt32 := rfl
  refine W.bast hx hb (hW.2.2.1 a _ he) ((hO.1.2 _ _ ht).1 (xsS σ a).2 (fun j => .int (xsI σ a j))) (fun q => by cases q) (by show ¬ (i < 0 ∨ (arrV _ _ _).slots.size ≤ _); rw [arrV_size]; exact hi) rfl rfl hdg fun H1 e z oq => ?_
  refine kk H1 _ ?_ (hS.put z oq (by rw [hW.ad (a := a) (by omega)]; exact Nat.le_add_right _ _))
  rw [x_putrow]
  refine hW.row (by omega) (by omega) (fun h j => ?_) z (by rw [e, hn, x_seti]) oq
  by_cases q : j = i.toNatClampNeg
  · subst q
    rw [pk_us]
    simp
  · rw [pk_un q]
    exact hW.2.2.2.2.2.1 a j hk
theorem xr_zast (hF : xFix g m p s mid args meth c) {a : Nat} {i x : Int32} (hW : xWd g σ H) (hS : va_S (xA g) s.heap H locs) (hk : (xsS σ a).1 = 22) (hx1 : x = 0 ∨ x = 1) (hi : vp_in i (xsS σ a).2) (hdg : decode (xmC m) pc = .ok (.bastore, 1))
    (kk : ∀ H' locs', xWd g (xPut σ a i.toNatClampNeg x) H' → va_S (xA g) s.heap H' locs' → W p l e R s mid args below meth c H' locs' cells slots Q (F0 mid (pc + 1) ls rest)) : W p l e R s mid args below meth c H locs cells slots Q (F0 mid pc ls (.int x :: .int i :: .ref (xAd g a) :: rest)) := by
  obtain ⟨hx, hb, hml, hown, hts, hO, hsz, hin⟩ := hF
  have he := hW.pl (a := a) (by omega)
  rw [xEnt_i (by omega) (by omega)] at he
  have ht : (xTys g)[2]? = some (xgA g (xsS σ a).1, .boolean) := by rw [hk]; rfl
  have hn : narrow .boolean (.int x) = .int x := by rcases hx1 with q | q <;> (subst q; decide +kernel)
  refine W.zast hx hb (hW.2.2.1 a _ he) ((hO.1.2 _ _ ht).1 (xsS σ a).2 (fun j => .int (xsI σ a j))) (fun q => by cases q) (by show ¬ (i < 0 ∨ (arrV _ _ _).slots.size ≤ _); rw [arrV_size]; exact hi) rfl rfl hdg fun H1 e z oq => ?_
  refine kk H1 _ ?_ (hS.put z oq (by rw [hW.ad (a := a) (by omega)]; exact Nat.le_add_right _ _))
  rw [x_putrow]
  exact hW.row (by omega) (by omega) (fun h => by omega) z (by rw [e, hn, x_seti]) oq
end XROWS
