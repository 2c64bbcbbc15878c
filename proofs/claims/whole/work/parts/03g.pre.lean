def xw : List Cond := lw_tbl.filter goodWord
theorem xw_of {i : Nat} {w : Cond} (h : lw_tbl[i]? = some w) (hg : goodWord w = true) : w ∈ xw := List.mem_filter.mpr ⟨List.mem_of_getElem? h, hg⟩
theorem xw_good : GoodIn lw_tbl xw := fun w h => ⟨(List.mem_filter.mp h).1, good_of_word (List.mem_filter.mp h).2⟩
theorem xw_self {y : Cond} : GoodIn (y :: xw) xw := fun w h => ⟨List.mem_cons_of_mem _ h, good_of_word (List.mem_filter.mp h).2⟩
theorem x_lookup {α : Type} {k : Nat} {v : α} : ∀ {l : List (Nat × α)}, l.lookup k = some v → (k, v) ∈ l
  | [], h => by simp at h
  | (a, b) :: l, h => by
    rw [List.lookup_cons] at h
    by_cases e : k = a
    · subst e
      rw [show (k == k) = true by simp] at h
      cases h
      exact List.mem_cons_self
    · rw [show (k == a) = false by simpa using e] at h
      exact List.mem_cons_of_mem _ (x_lookup h)
/-- the reader's tables -/
def xTab : List (List Int32) := [[], [0, 7, 16, 17], [1, 1, 1, 1, 2, 2, 3, 3, 3, 3, 1, 2, 2, 1, 1, 1, 3], [0, 0, 0, 1, 0, 0, 1, 0, 0, 0, 0, 0, 0, 0, 0, 0, 0, 0, 0, 0, 1, 0, 1, 0, 0, 0, 1, 0, 0, 1, 0, 0, 0, 0, 0, 0, 0, 0, 0, 0, 0, 0, 0, 0, 0, 0, 0, 0, 0, 0, 0], [2, 0, 0, 9, 0, 0, 4, 0, 0, 6, 0, 0, 7, 99, 0, 7, 99, 0, 6, 6, 9, 6, 12, 9, 6, 6, 12, 6, 6, 12, 6, 0, 0, 6, 6, 0, 6, 6, 0, 6, 0, 0, 6, 0, 0, 6, 0, 0, 6, 9, 99]]
def xTabN : List String := ["", "FIRST_LINES", "NUMBERS", "LEAST", "MOST"]
def xTl : List Nat := [6, 6, 4, 4, 7, 5, 5, 7, 7, 6, 3, 4, 5, 5, 4, 5, 5]
/-- the nest mates' words -/
def xNest : List (Nat × Nat × MethodName) := [(0, 174, ⟨"ThreePhases", "hasBit", "(II)Z"⟩), (0, 218, ⟨"ThreePhases", "copyAccounts", "([I[I)V"⟩), (1, 48, ⟨"ThreePhases", "copyAccounts", "([I[I)V"⟩), (1, 66, ⟨"ThreePhases", "hasBit", "(II)Z"⟩), (2, 75, ⟨"ThreePhases", "copyAccounts", "([I[I)V"⟩), (2, 89, ⟨"ThreePhases", "isPlace", "(I)Z"⟩), (3, 50, ⟨"ThreePhases", "isPlace", "(I)Z"⟩), (7, 29, ⟨"ThreePhases", "hasBit", "(II)Z"⟩), (8, 80, ⟨"ThreePhases", "hasBit", "(II)Z"⟩)]
def xAos : List String := ["ThreePhases$Merged", "ThreePhases$Member", "ThreePhases$Told", "ThreePhases$Council", "ThreePhases$Run", "ThreePhases$Replies"]
