/-! WHAT HANGS ON WHAT (printed by wip/whole/gen6.py): a cell's kind says where its rows are -/
def kG (L a n : Nat) : Prop := xS0 L a = (29, 7) ∧ ∀ i, i < 7 → xR0 a i = some (a + 1 + i) ∧ xS0 L (a + 1 + i) = (20, n)
theorem xS0_in {L a : Nat} (h : a < 435) : xS0 L a = xLS.getD a (99, 0) := if_pos h
theorem xS0_k {L a kd n : Nat} (h : xS0 L a = (kd, n)) (hk : (kd ≤ 29 : Bool) = true) : a < 435 ∧ xLS.getD a (99, 0) = (kd, n) := by
  have h1 := xS0_lt (L := L) (a := a) (by rw [h]; exact of_decide_eq_true hk)
  rw [xS0_in h1] at h
  exact ⟨h1, h⟩
set_option maxRecDepth 100000 in
theorem k_len_d : ∀ a, a < 435 → (xLS.getD a (99, 0)).2 < 5000 := by decide +kernel
theorem k_len {L a kd n : Nat} (h : xS0 L a = (kd, n)) (hk : (kd ≤ 29 : Bool) = true) : n < 2147483648 := by
  obtain ⟨h1, h2⟩ := xS0_k h hk
  have := k_len_d a h1
  rw [h2] at this
  show n < 2147483648
  have h3 : n < 5000 := this
  omega
set_option maxRecDepth 100000 in
theorem kd_0_0 : ∀ a, a < 435 → xLS.getD a (99, 0) = (0, 0) → xR0 a 0 = some (a + 1) ∧ a + 1 < 435 ∧ xLS.getD (a + 1) (99, 0) = (23, 10) := by decide +kernel
theorem kf_0_0 {L a : Nat} (h : xS0 L a = (0, 0)) : xR0 a 0 = some (a + 1) ∧ xS0 L (a + 1) = (23, 10) := by
  obtain ⟨h1, h2⟩ := xS0_k h rfl
  obtain ⟨e1, e2, e3⟩ := kd_0_0 a h1 h2
  exact ⟨e1, by rw [xS0_in e2]; exact e3⟩
set_option maxRecDepth 100000 in
theorem kd_0_1 : ∀ a, a < 435 → xLS.getD a (99, 0) = (0, 0) → xR0 a 1 = some (a + 2) ∧ a + 2 < 435 ∧ xLS.getD (a + 2) (99, 0) = (1, 0) := by decide +kernel
theorem kf_0_1 {L a : Nat} (h : xS0 L a = (0, 0)) : xR0 a 1 = some (a + 2) ∧ xS0 L (a + 2) = (1, 0) := by
  obtain ⟨h1, h2⟩ := xS0_k h rfl
  obtain ⟨e1, e2, e3⟩ := kd_0_1 a h1 h2
  exact ⟨e1, by rw [xS0_in e2]; exact e3⟩
set_option maxRecDepth 100000 in
theorem kd_0_2 : ∀ a, a < 435 → xLS.getD a (99, 0) = (0, 0) → xR0 a 2 = some (a + 14) ∧ a + 14 < 435 ∧ xLS.getD (a + 14) (99, 0) = (24, 7) := by decide +kernel
theorem kf_0_2 {L a : Nat} (h : xS0 L a = (0, 0)) : xR0 a 2 = some (a + 14) ∧ xS0 L (a + 14) = (24, 7) := by
  obtain ⟨h1, h2⟩ := xS0_k h rfl
  obtain ⟨e1, e2, e3⟩ := kd_0_2 a h1 h2
  exact ⟨e1, by rw [xS0_in e2]; exact e3⟩
set_option maxRecDepth 100000 in
theorem kd_0_3 : ∀ a, a < 435 → xLS.getD a (99, 0) = (0, 0) → xR0 a 3 = some (a + 15) ∧ a + 15 < 435 ∧ xLS.getD (a + 15) (99, 0) = (7, 0) := by decide +kernel
theorem kf_0_3 {L a : Nat} (h : xS0 L a = (0, 0)) : xR0 a 3 = some (a + 15) ∧ xS0 L (a + 15) = (7, 0) := by
  obtain ⟨h1, h2⟩ := xS0_k h rfl
  obtain ⟨e1, e2, e3⟩ := kd_0_3 a h1 h2
  exact ⟨e1, by rw [xS0_in e2]; exact e3⟩
set_option maxRecDepth 100000 in
theorem kd_1_5 : ∀ a, a < 435 → xLS.getD a (99, 0) = (1, 0) → xR0 a 5 = some (a + 1) ∧ a + 1 < 435 ∧ xLS.getD (a + 1) (99, 0) = (20, 8) := by decide +kernel
theorem kf_1_5 {L a : Nat} (h : xS0 L a = (1, 0)) : xR0 a 5 = some (a + 1) ∧ xS0 L (a + 1) = (20, 8) := by
  obtain ⟨h1, h2⟩ := xS0_k h rfl
  obtain ⟨e1, e2, e3⟩ := kd_1_5 a h1 h2
  exact ⟨e1, by rw [xS0_in e2]; exact e3⟩
set_option maxRecDepth 100000 in
theorem kd_1_6 : ∀ a, a < 435 → xLS.getD a (99, 0) = (1, 0) → xR0 a 6 = some (a + 2) ∧ a + 2 < 435 ∧ xLS.getD (a + 2) (99, 0) = (20, 10) := by decide +kernel
theorem kf_1_6 {L a : Nat} (h : xS0 L a = (1, 0)) : xR0 a 6 = some (a + 2) ∧ xS0 L (a + 2) = (20, 10) := by
  obtain ⟨h1, h2⟩ := xS0_k h rfl
  obtain ⟨e1, e2, e3⟩ := kd_1_6 a h1 h2
  exact ⟨e1, by rw [xS0_in e2]; exact e3⟩
set_option maxRecDepth 100000 in
theorem kd_1_7 : ∀ a, a < 435 → xLS.getD a (99, 0) = (1, 0) → xR0 a 7 = some (a + 3) ∧ a + 3 < 435 ∧ xLS.getD (a + 3) (99, 0) = (20, 10) := by decide +kernel
theorem kf_1_7 {L a : Nat} (h : xS0 L a = (1, 0)) : xR0 a 7 = some (a + 3) ∧ xS0 L (a + 3) = (20, 10) := by
  obtain ⟨h1, h2⟩ := xS0_k h rfl
  obtain ⟨e1, e2, e3⟩ := kd_1_7 a h1 h2
  exact ⟨e1, by rw [xS0_in e2]; exact e3⟩
set_option maxRecDepth 100000 in
theorem kd_1_8 : ∀ a, a < 435 → xLS.getD a (99, 0) = (1, 0) → xR0 a 8 = some (a + 4) ∧ a + 4 + 8 < 435 ∧ xLS.getD (a + 4) (99, 0) = (29, 7) ∧ ∀ i, i < 7 → xR0 (a + 4) i = some (a + 4 + 1 + i) ∧ xLS.getD (a + 4 + 1 + i) (99, 0) = (20, 7) := by decide +kernel
theorem kf_1_8 {L a : Nat} (h : xS0 L a = (1, 0)) : xR0 a 8 = some (a + 4) ∧ kG L (a + 4) 7 := by
  obtain ⟨h1, h2⟩ := xS0_k h rfl
  obtain ⟨e1, e2, e3, e4⟩ := kd_1_8 a h1 h2
  exact ⟨e1, by rw [xS0_in (by omega)]; exact e3, fun i hi => ⟨(e4 i hi).1, by rw [xS0_in (by omega)]; exact (e4 i hi).2⟩⟩
set_option maxRecDepth 100000 in
theorem kd_2_8 : ∀ a, a < 435 → xLS.getD a (99, 0) = (2, 0) → xR0 a 8 = some (a + 1) ∧ a + 1 < 435 ∧ xLS.getD (a + 1) (99, 0) = (20, 8) := by decide +kernel
theorem kf_2_8 {L a : Nat} (h : xS0 L a = (2, 0)) : xR0 a 8 = some (a + 1) ∧ xS0 L (a + 1) = (20, 8) := by
  obtain ⟨h1, h2⟩ := xS0_k h rfl
  obtain ⟨e1, e2, e3⟩ := kd_2_8 a h1 h2
  exact ⟨e1, by rw [xS0_in e2]; exact e3⟩
set_option maxRecDepth 100000 in
theorem kd_2_9 : ∀ a, a < 435 → xLS.getD a (99, 0) = (2, 0) → xR0 a 9 = some (a + 2) ∧ a + 2 < 435 ∧ xLS.getD (a + 2) (99, 0) = (20, 8) := by decide +kernel
theorem kf_2_9 {L a : Nat} (h : xS0 L a = (2, 0)) : xR0 a 9 = some (a + 2) ∧ xS0 L (a + 2) = (20, 8) := by
  obtain ⟨h1, h2⟩ := xS0_k h rfl
  obtain ⟨e1, e2, e3⟩ := kd_2_9 a h1 h2
  exact ⟨e1, by rw [xS0_in e2]; exact e3⟩
set_option maxRecDepth 100000 in
theorem kd_2_10 : ∀ a, a < 435 → xLS.getD a (99, 0) = (2, 0) → xR0 a 10 = some (a + 3) ∧ a + 3 < 435 ∧ xLS.getD (a + 3) (99, 0) = (20, 13) := by decide +kernel
theorem kf_2_10 {L a : Nat} (h : xS0 L a = (2, 0)) : xR0 a 10 = some (a + 3) ∧ xS0 L (a + 3) = (20, 13) := by
  obtain ⟨h1, h2⟩ := xS0_k h rfl
  obtain ⟨e1, e2, e3⟩ := kd_2_10 a h1 h2
  exact ⟨e1, by rw [xS0_in e2]; exact e3⟩
set_option maxRecDepth 100000 in
theorem kd_2_11 : ∀ a, a < 435 → xLS.getD a (99, 0) = (2, 0) → xR0 a 11 = some (a + 4) ∧ a + 4 < 435 ∧ xLS.getD (a + 4) (99, 0) = (20, 13) := by decide +kernel
theorem kf_2_11 {L a : Nat} (h : xS0 L a = (2, 0)) : xR0 a 11 = some (a + 4) ∧ xS0 L (a + 4) = (20, 13) := by
  obtain ⟨h1, h2⟩ := xS0_k h rfl
  obtain ⟨e1, e2, e3⟩ := kd_2_11 a h1 h2
  exact ⟨e1, by rw [xS0_in e2]; exact e3⟩
set_option maxRecDepth 100000 in
theorem kd_2_12 : ∀ a, a < 435 → xLS.getD a (99, 0) = (2, 0) → xR0 a 12 = some (a + 5) ∧ a + 5 < 435 ∧ xLS.getD (a + 5) (99, 0) = (20, 13) := by decide +kernel
theorem kf_2_12 {L a : Nat} (h : xS0 L a = (2, 0)) : xR0 a 12 = some (a + 5) ∧ xS0 L (a + 5) = (20, 13) := by
  obtain ⟨h1, h2⟩ := xS0_k h rfl
  obtain ⟨e1, e2, e3⟩ := kd_2_12 a h1 h2
  exact ⟨e1, by rw [xS0_in e2]; exact e3⟩
set_option maxRecDepth 100000 in
theorem kd_2_13 : ∀ a, a < 435 → xLS.getD a (99, 0) = (2, 0) → xR0 a 13 = some (a + 6) ∧ a + 6 < 435 ∧ xLS.getD (a + 6) (99, 0) = (20, 13) := by decide +kernel
theorem kf_2_13 {L a : Nat} (h : xS0 L a = (2, 0)) : xR0 a 13 = some (a + 6) ∧ xS0 L (a + 6) = (20, 13) := by
  obtain ⟨h1, h2⟩ := xS0_k h rfl
  obtain ⟨e1, e2, e3⟩ := kd_2_13 a h1 h2
  exact ⟨e1, by rw [xS0_in e2]; exact e3⟩
set_option maxRecDepth 100000 in
theorem kd_2_14 : ∀ a, a < 435 → xLS.getD a (99, 0) = (2, 0) → xR0 a 14 = some (a + 7) ∧ a + 7 < 435 ∧ xLS.getD (a + 7) (99, 0) = (20, 13) := by decide +kernel
theorem kf_2_14 {L a : Nat} (h : xS0 L a = (2, 0)) : xR0 a 14 = some (a + 7) ∧ xS0 L (a + 7) = (20, 13) := by
  obtain ⟨h1, h2⟩ := xS0_k h rfl
  obtain ⟨e1, e2, e3⟩ := kd_2_14 a h1 h2
  exact ⟨e1, by rw [xS0_in e2]; exact e3⟩
set_option maxRecDepth 100000 in
theorem kd_2_15 : ∀ a, a < 435 → xLS.getD a (99, 0) = (2, 0) → xR0 a 15 = some (a + 8) ∧ a + 8 < 435 ∧ xLS.getD (a + 8) (99, 0) = (20, 13) := by decide +kernel
theorem kf_2_15 {L a : Nat} (h : xS0 L a = (2, 0)) : xR0 a 15 = some (a + 8) ∧ xS0 L (a + 8) = (20, 13) := by
  obtain ⟨h1, h2⟩ := xS0_k h rfl
  obtain ⟨e1, e2, e3⟩ := kd_2_15 a h1 h2
  exact ⟨e1, by rw [xS0_in e2]; exact e3⟩
set_option maxRecDepth 100000 in
theorem kd_2_16 : ∀ a, a < 435 → xLS.getD a (99, 0) = (2, 0) → xR0 a 16 = some (a + 9) ∧ a + 9 < 435 ∧ xLS.getD (a + 9) (99, 0) = (20, 7) := by decide +kernel
theorem kf_2_16 {L a : Nat} (h : xS0 L a = (2, 0)) : xR0 a 16 = some (a + 9) ∧ xS0 L (a + 9) = (20, 7) := by
  obtain ⟨h1, h2⟩ := xS0_k h rfl
  obtain ⟨e1, e2, e3⟩ := kd_2_16 a h1 h2
  exact ⟨e1, by rw [xS0_in e2]; exact e3⟩
set_option maxRecDepth 100000 in
theorem kd_2_17 : ∀ a, a < 435 → xLS.getD a (99, 0) = (2, 0) → xR0 a 17 = some (a + 10) ∧ a + 10 < 435 ∧ xLS.getD (a + 10) (99, 0) = (20, 7) := by decide +kernel
theorem kf_2_17 {L a : Nat} (h : xS0 L a = (2, 0)) : xR0 a 17 = some (a + 10) ∧ xS0 L (a + 10) = (20, 7) := by
  obtain ⟨h1, h2⟩ := xS0_k h rfl
  obtain ⟨e1, e2, e3⟩ := kd_2_17 a h1 h2
  exact ⟨e1, by rw [xS0_in e2]; exact e3⟩
set_option maxRecDepth 100000 in
theorem kd_3_3 : ∀ a, a < 435 → xLS.getD a (99, 0) = (3, 0) → xR0 a 3 = some (a + 1) ∧ a + 1 < 435 ∧ xLS.getD (a + 1) (99, 0) = (20, 13) := by decide +kernel
theorem kf_3_3 {L a : Nat} (h : xS0 L a = (3, 0)) : xR0 a 3 = some (a + 1) ∧ xS0 L (a + 1) = (20, 13) := by
  obtain ⟨h1, h2⟩ := xS0_k h rfl
  obtain ⟨e1, e2, e3⟩ := kd_3_3 a h1 h2
  exact ⟨e1, by rw [xS0_in e2]; exact e3⟩
set_option maxRecDepth 100000 in
theorem kd_3_4 : ∀ a, a < 435 → xLS.getD a (99, 0) = (3, 0) → xR0 a 4 = some (a + 2) ∧ a + 2 < 435 ∧ xLS.getD (a + 2) (99, 0) = (20, 13) := by decide +kernel
theorem kf_3_4 {L a : Nat} (h : xS0 L a = (3, 0)) : xR0 a 4 = some (a + 2) ∧ xS0 L (a + 2) = (20, 13) := by
  obtain ⟨h1, h2⟩ := xS0_k h rfl
  obtain ⟨e1, e2, e3⟩ := kd_3_4 a h1 h2
  exact ⟨e1, by rw [xS0_in e2]; exact e3⟩
set_option maxRecDepth 100000 in
theorem kd_4_0 : ∀ a, a < 435 → xLS.getD a (99, 0) = (4, 0) → xR0 a 0 = some (a + 1) ∧ a + 1 < 435 ∧ xLS.getD (a + 1) (99, 0) = (1, 0) := by decide +kernel
theorem kf_4_0 {L a : Nat} (h : xS0 L a = (4, 0)) : xR0 a 0 = some (a + 1) ∧ xS0 L (a + 1) = (1, 0) := by
  obtain ⟨h1, h2⟩ := xS0_k h rfl
  obtain ⟨e1, e2, e3⟩ := kd_4_0 a h1 h2
  exact ⟨e1, by rw [xS0_in e2]; exact e3⟩
set_option maxRecDepth 100000 in
theorem kd_4_1 : ∀ a, a < 435 → xLS.getD a (99, 0) = (4, 0) → xR0 a 1 = some (a + 13) ∧ a + 13 < 435 ∧ xLS.getD (a + 13) (99, 0) = (6, 0) := by decide +kernel
theorem kf_4_1 {L a : Nat} (h : xS0 L a = (4, 0)) : xR0 a 1 = some (a + 13) ∧ xS0 L (a + 13) = (6, 0) := by
  obtain ⟨h1, h2⟩ := xS0_k h rfl
  obtain ⟨e1, e2, e3⟩ := kd_4_1 a h1 h2
  exact ⟨e1, by rw [xS0_in e2]; exact e3⟩
set_option maxRecDepth 100000 in
theorem kd_4_2 : ∀ a, a < 435 → xLS.getD a (99, 0) = (4, 0) → xR0 a 2 = some (a + 18) ∧ a + 18 < 435 ∧ xLS.getD (a + 18) (99, 0) = (5, 0) := by decide +kernel
theorem kf_4_2 {L a : Nat} (h : xS0 L a = (4, 0)) : xR0 a 2 = some (a + 18) ∧ xS0 L (a + 18) = (5, 0) := by
  obtain ⟨h1, h2⟩ := xS0_k h rfl
  obtain ⟨e1, e2, e3⟩ := kd_4_2 a h1 h2
  exact ⟨e1, by rw [xS0_in e2]; exact e3⟩
set_option maxRecDepth 100000 in
theorem kd_4_5 : ∀ a, a < 435 → xLS.getD a (99, 0) = (4, 0) → xR0 a 5 = some (a + 22) ∧ a + 22 < 435 ∧ xLS.getD (a + 22) (99, 0) = (21, 600) := by decide +kernel
theorem kf_4_5 {L a : Nat} (h : xS0 L a = (4, 0)) : xR0 a 5 = some (a + 22) ∧ xS0 L (a + 22) = (21, 600) := by
  obtain ⟨h1, h2⟩ := xS0_k h rfl
  obtain ⟨e1, e2, e3⟩ := kd_4_5 a h1 h2
  exact ⟨e1, by rw [xS0_in e2]; exact e3⟩
set_option maxRecDepth 100000 in
theorem kd_4_12 : ∀ a, a < 435 → xLS.getD a (99, 0) = (4, 0) → xR0 a 12 = some (a + 23) ∧ a + 23 < 435 ∧ xLS.getD (a + 23) (99, 0) = (20, 3) := by decide +kernel
theorem kf_4_12 {L a : Nat} (h : xS0 L a = (4, 0)) : xR0 a 12 = some (a + 23) ∧ xS0 L (a + 23) = (20, 3) := by
  obtain ⟨h1, h2⟩ := xS0_k h rfl
  obtain ⟨e1, e2, e3⟩ := kd_4_12 a h1 h2
  exact ⟨e1, by rw [xS0_in e2]; exact e3⟩
set_option maxRecDepth 100000 in
theorem kd_5_1 : ∀ a, a < 435 → xLS.getD a (99, 0) = (5, 0) → xR0 a 1 = some (a + 1) ∧ a + 1 < 435 ∧ xLS.getD (a + 1) (99, 0) = (20, 12) := by decide +kernel
theorem kf_5_1 {L a : Nat} (h : xS0 L a = (5, 0)) : xR0 a 1 = some (a + 1) ∧ xS0 L (a + 1) = (20, 12) := by
  obtain ⟨h1, h2⟩ := xS0_k h rfl
  obtain ⟨e1, e2, e3⟩ := kd_5_1 a h1 h2
  exact ⟨e1, by rw [xS0_in e2]; exact e3⟩
set_option maxRecDepth 100000 in
theorem kd_5_2 : ∀ a, a < 435 → xLS.getD a (99, 0) = (5, 0) → xR0 a 2 = some (a + 2) ∧ a + 2 < 435 ∧ xLS.getD (a + 2) (99, 0) = (20, 12) := by decide +kernel
theorem kf_5_2 {L a : Nat} (h : xS0 L a = (5, 0)) : xR0 a 2 = some (a + 2) ∧ xS0 L (a + 2) = (20, 12) := by
  obtain ⟨h1, h2⟩ := xS0_k h rfl
  obtain ⟨e1, e2, e3⟩ := kd_5_2 a h1 h2
  exact ⟨e1, by rw [xS0_in e2]; exact e3⟩
set_option maxRecDepth 100000 in
theorem kd_5_3 : ∀ a, a < 435 → xLS.getD a (99, 0) = (5, 0) → xR0 a 3 = some (a + 3) ∧ a + 3 < 435 ∧ xLS.getD (a + 3) (99, 0) = (20, 12) := by decide +kernel
theorem kf_5_3 {L a : Nat} (h : xS0 L a = (5, 0)) : xR0 a 3 = some (a + 3) ∧ xS0 L (a + 3) = (20, 12) := by
  obtain ⟨h1, h2⟩ := xS0_k h rfl
  obtain ⟨e1, e2, e3⟩ := kd_5_3 a h1 h2
  exact ⟨e1, by rw [xS0_in e2]; exact e3⟩
set_option maxRecDepth 100000 in
theorem kd_6_1 : ∀ a, a < 435 → xLS.getD a (99, 0) = (6, 0) → xR0 a 1 = some (a + 1) ∧ a + 1 < 435 ∧ xLS.getD (a + 1) (99, 0) = (20, 40) := by decide +kernel
theorem kf_6_1 {L a : Nat} (h : xS0 L a = (6, 0)) : xR0 a 1 = some (a + 1) ∧ xS0 L (a + 1) = (20, 40) := by
  obtain ⟨h1, h2⟩ := xS0_k h rfl
  obtain ⟨e1, e2, e3⟩ := kd_6_1 a h1 h2
  exact ⟨e1, by rw [xS0_in e2]; exact e3⟩
set_option maxRecDepth 100000 in
theorem kd_6_2 : ∀ a, a < 435 → xLS.getD a (99, 0) = (6, 0) → xR0 a 2 = some (a + 2) ∧ a + 2 < 435 ∧ xLS.getD (a + 2) (99, 0) = (20, 40) := by decide +kernel
theorem kf_6_2 {L a : Nat} (h : xS0 L a = (6, 0)) : xR0 a 2 = some (a + 2) ∧ xS0 L (a + 2) = (20, 40) := by
  obtain ⟨h1, h2⟩ := xS0_k h rfl
  obtain ⟨e1, e2, e3⟩ := kd_6_2 a h1 h2
  exact ⟨e1, by rw [xS0_in e2]; exact e3⟩
set_option maxRecDepth 100000 in
theorem kd_6_3 : ∀ a, a < 435 → xLS.getD a (99, 0) = (6, 0) → xR0 a 3 = some (a + 3) ∧ a + 3 < 435 ∧ xLS.getD (a + 3) (99, 0) = (20, 40) := by decide +kernel
theorem kf_6_3 {L a : Nat} (h : xS0 L a = (6, 0)) : xR0 a 3 = some (a + 3) ∧ xS0 L (a + 3) = (20, 40) := by
  obtain ⟨h1, h2⟩ := xS0_k h rfl
  obtain ⟨e1, e2, e3⟩ := kd_6_3 a h1 h2
  exact ⟨e1, by rw [xS0_in e2]; exact e3⟩
set_option maxRecDepth 100000 in
theorem kd_6_4 : ∀ a, a < 435 → xLS.getD a (99, 0) = (6, 0) → xR0 a 4 = some (a + 4) ∧ a + 4 < 435 ∧ xLS.getD (a + 4) (99, 0) = (20, 40) := by decide +kernel
theorem kf_6_4 {L a : Nat} (h : xS0 L a = (6, 0)) : xR0 a 4 = some (a + 4) ∧ xS0 L (a + 4) = (20, 40) := by
  obtain ⟨h1, h2⟩ := xS0_k h rfl
  obtain ⟨e1, e2, e3⟩ := kd_6_4 a h1 h2
  exact ⟨e1, by rw [xS0_in e2]; exact e3⟩
set_option maxRecDepth 100000 in
theorem kd_7_0 : ∀ a, a < 435 → xLS.getD a (99, 0) = (7, 0) → xR0 a 0 = some (a + 1) ∧ a + 1 < 435 ∧ xLS.getD (a + 1) (99, 0) = (20, 16) := by decide +kernel
theorem kf_7_0 {L a : Nat} (h : xS0 L a = (7, 0)) : xR0 a 0 = some (a + 1) ∧ xS0 L (a + 1) = (20, 16) := by
  obtain ⟨h1, h2⟩ := xS0_k h rfl
  obtain ⟨e1, e2, e3⟩ := kd_7_0 a h1 h2
  exact ⟨e1, by rw [xS0_in e2]; exact e3⟩
set_option maxRecDepth 100000 in
theorem kd_7_1 : ∀ a, a < 435 → xLS.getD a (99, 0) = (7, 0) → xR0 a 1 = some (a + 2) ∧ a + 2 < 435 ∧ xLS.getD (a + 2) (99, 0) = (20, 16) := by decide +kernel
theorem kf_7_1 {L a : Nat} (h : xS0 L a = (7, 0)) : xR0 a 1 = some (a + 2) ∧ xS0 L (a + 2) = (20, 16) := by
  obtain ⟨h1, h2⟩ := xS0_k h rfl
  obtain ⟨e1, e2, e3⟩ := kd_7_1 a h1 h2
  exact ⟨e1, by rw [xS0_in e2]; exact e3⟩
set_option maxRecDepth 100000 in
theorem kd_8_6 : ∀ a, a < 435 → xLS.getD a (99, 0) = (8, 0) → xR0 a 6 = some (a + 1) ∧ a + 1 < 435 ∧ xLS.getD (a + 1) (99, 0) = (20, 7) := by decide +kernel
theorem kf_8_6 {L a : Nat} (h : xS0 L a = (8, 0)) : xR0 a 6 = some (a + 1) ∧ xS0 L (a + 1) = (20, 7) := by
  obtain ⟨h1, h2⟩ := xS0_k h rfl
  obtain ⟨e1, e2, e3⟩ := kd_8_6 a h1 h2
  exact ⟨e1, by rw [xS0_in e2]; exact e3⟩
set_option maxRecDepth 100000 in
theorem kd_8_7 : ∀ a, a < 435 → xLS.getD a (99, 0) = (8, 0) → xR0 a 7 = some (a + 2) ∧ a + 2 < 435 ∧ xLS.getD (a + 2) (99, 0) = (20, 7) := by decide +kernel
theorem kf_8_7 {L a : Nat} (h : xS0 L a = (8, 0)) : xR0 a 7 = some (a + 2) ∧ xS0 L (a + 2) = (20, 7) := by
  obtain ⟨h1, h2⟩ := xS0_k h rfl
  obtain ⟨e1, e2, e3⟩ := kd_8_7 a h1 h2
  exact ⟨e1, by rw [xS0_in e2]; exact e3⟩
set_option maxRecDepth 100000 in
theorem kd_9_0 : ∀ a, a < 435 → xLS.getD a (99, 0) = (9, 0) → xR0 a 0 = some (a + 1) ∧ a + 1 + 8 < 435 ∧ xLS.getD (a + 1) (99, 0) = (29, 7) ∧ ∀ i, i < 7 → xR0 (a + 1) i = some (a + 1 + 1 + i) ∧ xLS.getD (a + 1 + 1 + i) (99, 0) = (20, 11) := by decide +kernel
theorem kf_9_0 {L a : Nat} (h : xS0 L a = (9, 0)) : xR0 a 0 = some (a + 1) ∧ kG L (a + 1) 11 := by
  obtain ⟨h1, h2⟩ := xS0_k h rfl
  obtain ⟨e1, e2, e3, e4⟩ := kd_9_0 a h1 h2
  exact ⟨e1, by rw [xS0_in (by omega)]; exact e3, fun i hi => ⟨(e4 i hi).1, by rw [xS0_in (by omega)]; exact (e4 i hi).2⟩⟩
set_option maxRecDepth 100000 in
theorem kd_9_3 : ∀ a, a < 435 → xLS.getD a (99, 0) = (9, 0) → xR0 a 3 = some (a + 9) ∧ a + 9 + 8 < 435 ∧ xLS.getD (a + 9) (99, 0) = (29, 7) ∧ ∀ i, i < 7 → xR0 (a + 9) i = some (a + 9 + 1 + i) ∧ xLS.getD (a + 9 + 1 + i) (99, 0) = (20, 11) := by decide +kernel
theorem kf_9_3 {L a : Nat} (h : xS0 L a = (9, 0)) : xR0 a 3 = some (a + 9) ∧ kG L (a + 9) 11 := by
  obtain ⟨h1, h2⟩ := xS0_k h rfl
  obtain ⟨e1, e2, e3, e4⟩ := kd_9_3 a h1 h2
  exact ⟨e1, by rw [xS0_in (by omega)]; exact e3, fun i hi => ⟨(e4 i hi).1, by rw [xS0_in (by omega)]; exact (e4 i hi).2⟩⟩
set_option maxRecDepth 100000 in
theorem kd_9_4 : ∀ a, a < 435 → xLS.getD a (99, 0) = (9, 0) → xR0 a 4 = some (a + 17) ∧ a + 17 + 8 < 435 ∧ xLS.getD (a + 17) (99, 0) = (29, 7) ∧ ∀ i, i < 7 → xR0 (a + 17) i = some (a + 17 + 1 + i) ∧ xLS.getD (a + 17 + 1 + i) (99, 0) = (20, 11) := by decide +kernel
theorem kf_9_4 {L a : Nat} (h : xS0 L a = (9, 0)) : xR0 a 4 = some (a + 17) ∧ kG L (a + 17) 11 := by
  obtain ⟨h1, h2⟩ := xS0_k h rfl
  obtain ⟨e1, e2, e3, e4⟩ := kd_9_4 a h1 h2
  exact ⟨e1, by rw [xS0_in (by omega)]; exact e3, fun i hi => ⟨(e4 i hi).1, by rw [xS0_in (by omega)]; exact (e4 i hi).2⟩⟩
set_option maxRecDepth 100000 in
theorem kd_9_5 : ∀ a, a < 435 → xLS.getD a (99, 0) = (9, 0) → xR0 a 5 = some (a + 25) ∧ a + 25 + 8 < 435 ∧ xLS.getD (a + 25) (99, 0) = (29, 7) ∧ ∀ i, i < 7 → xR0 (a + 25) i = some (a + 25 + 1 + i) ∧ xLS.getD (a + 25 + 1 + i) (99, 0) = (20, 11) := by decide +kernel
theorem kf_9_5 {L a : Nat} (h : xS0 L a = (9, 0)) : xR0 a 5 = some (a + 25) ∧ kG L (a + 25) 11 := by
  obtain ⟨h1, h2⟩ := xS0_k h rfl
  obtain ⟨e1, e2, e3, e4⟩ := kd_9_5 a h1 h2
  exact ⟨e1, by rw [xS0_in (by omega)]; exact e3, fun i hi => ⟨(e4 i hi).1, by rw [xS0_in (by omega)]; exact (e4 i hi).2⟩⟩
set_option maxRecDepth 100000 in
theorem kd_9_6 : ∀ a, a < 435 → xLS.getD a (99, 0) = (9, 0) → xR0 a 6 = some (a + 33) ∧ a + 33 < 435 ∧ xLS.getD (a + 33) (99, 0) = (20, 7) := by decide +kernel
theorem kf_9_6 {L a : Nat} (h : xS0 L a = (9, 0)) : xR0 a 6 = some (a + 33) ∧ xS0 L (a + 33) = (20, 7) := by
  obtain ⟨h1, h2⟩ := xS0_k h rfl
  obtain ⟨e1, e2, e3⟩ := kd_9_6 a h1 h2
  exact ⟨e1, by rw [xS0_in e2]; exact e3⟩
set_option maxRecDepth 100000 in
theorem kd_9_7 : ∀ a, a < 435 → xLS.getD a (99, 0) = (9, 0) → xR0 a 7 = some (a + 34) ∧ a + 34 < 435 ∧ xLS.getD (a + 34) (99, 0) = (1, 0) := by decide +kernel
theorem kf_9_7 {L a : Nat} (h : xS0 L a = (9, 0)) : xR0 a 7 = some (a + 34) ∧ xS0 L (a + 34) = (1, 0) := by
  obtain ⟨h1, h2⟩ := xS0_k h rfl
  obtain ⟨e1, e2, e3⟩ := kd_9_7 a h1 h2
  exact ⟨e1, by rw [xS0_in e2]; exact e3⟩
set_option maxRecDepth 100000 in
theorem kd_10_0 : ∀ a, a < 435 → xLS.getD a (99, 0) = (10, 0) → xR0 a 0 = some (a + 1) ∧ a + 1 < 435 ∧ xLS.getD (a + 1) (99, 0) = (21, 600) := by decide +kernel
theorem kf_10_0 {L a : Nat} (h : xS0 L a = (10, 0)) : xR0 a 0 = some (a + 1) ∧ xS0 L (a + 1) = (21, 600) := by
  obtain ⟨h1, h2⟩ := xS0_k h rfl
  obtain ⟨e1, e2, e3⟩ := kd_10_0 a h1 h2
  exact ⟨e1, by rw [xS0_in e2]; exact e3⟩
set_option maxRecDepth 100000 in
theorem kd_10_4 : ∀ a, a < 435 → xLS.getD a (99, 0) = (10, 0) → xR0 a 4 = some (a + 2) ∧ a + 2 < 435 ∧ xLS.getD (a + 2) (99, 0) = (20, 3) := by decide +kernel
theorem kf_10_4 {L a : Nat} (h : xS0 L a = (10, 0)) : xR0 a 4 = some (a + 2) ∧ xS0 L (a + 2) = (20, 3) := by
  obtain ⟨h1, h2⟩ := xS0_k h rfl
  obtain ⟨e1, e2, e3⟩ := kd_10_4 a h1 h2
  exact ⟨e1, by rw [xS0_in e2]; exact e3⟩
set_option maxRecDepth 100000 in
theorem kd_10_5 : ∀ a, a < 435 → xLS.getD a (99, 0) = (10, 0) → xR0 a 5 = some (a + 3) ∧ a + 3 < 435 ∧ xLS.getD (a + 3) (99, 0) = (26, 2) := by decide +kernel
theorem kf_10_5 {L a : Nat} (h : xS0 L a = (10, 0)) : xR0 a 5 = some (a + 3) ∧ xS0 L (a + 3) = (26, 2) := by
  obtain ⟨h1, h2⟩ := xS0_k h rfl
  obtain ⟨e1, e2, e3⟩ := kd_10_5 a h1 h2
  exact ⟨e1, by rw [xS0_in e2]; exact e3⟩
set_option maxRecDepth 100000 in
theorem kd_10_6 : ∀ a, a < 435 → xLS.getD a (99, 0) = (10, 0) → xR0 a 6 = some (a + 4) ∧ a + 4 < 435 ∧ xLS.getD (a + 4) (99, 0) = (27, 2) := by decide +kernel
theorem kf_10_6 {L a : Nat} (h : xS0 L a = (10, 0)) : xR0 a 6 = some (a + 4) ∧ xS0 L (a + 4) = (27, 2) := by
  obtain ⟨h1, h2⟩ := xS0_k h rfl
  obtain ⟨e1, e2, e3⟩ := kd_10_6 a h1 h2
  exact ⟨e1, by rw [xS0_in e2]; exact e3⟩
set_option maxRecDepth 100000 in
theorem kd_10_7 : ∀ a, a < 435 → xLS.getD a (99, 0) = (10, 0) → xR0 a 7 = some (a + 5) ∧ a + 5 < 435 ∧ xLS.getD (a + 5) (99, 0) = (28, 2) := by decide +kernel
theorem kf_10_7 {L a : Nat} (h : xS0 L a = (10, 0)) : xR0 a 7 = some (a + 5) ∧ xS0 L (a + 5) = (28, 2) := by
  obtain ⟨h1, h2⟩ := xS0_k h rfl
  obtain ⟨e1, e2, e3⟩ := kd_10_7 a h1 h2
  exact ⟨e1, by rw [xS0_in e2]; exact e3⟩
set_option maxRecDepth 100000 in
theorem kd_11_0 : ∀ a, a < 435 → xLS.getD a (99, 0) = (11, 0) → xR0 a 0 = some (a + 1) ∧ a + 1 < 435 ∧ xLS.getD (a + 1) (99, 0) = (10, 0) := by decide +kernel
theorem kf_11_0 {L a : Nat} (h : xS0 L a = (11, 0)) : xR0 a 0 = some (a + 1) ∧ xS0 L (a + 1) = (10, 0) := by
  obtain ⟨h1, h2⟩ := xS0_k h rfl
  obtain ⟨e1, e2, e3⟩ := kd_11_0 a h1 h2
  exact ⟨e1, by rw [xS0_in e2]; exact e3⟩
set_option maxRecDepth 100000 in
theorem kd_11_1 : ∀ a, a < 435 → xLS.getD a (99, 0) = (11, 0) → xR0 a 1 = some (a + 49) ∧ a + 49 < 435 ∧ xLS.getD (a + 49) (99, 0) = (25, 3) := by decide +kernel
theorem kf_11_1 {L a : Nat} (h : xS0 L a = (11, 0)) : xR0 a 1 = some (a + 49) ∧ xS0 L (a + 49) = (25, 3) := by
  obtain ⟨h1, h2⟩ := xS0_k h rfl
  obtain ⟨e1, e2, e3⟩ := kd_11_1 a h1 h2
  exact ⟨e1, by rw [xS0_in e2]; exact e3⟩
set_option maxRecDepth 100000 in
theorem kd_11_2 : ∀ a, a < 435 → xLS.getD a (99, 0) = (11, 0) → xR0 a 2 = some (a + 50) ∧ a + 50 < 435 ∧ xLS.getD (a + 50) (99, 0) = (20, 3) := by decide +kernel
theorem kf_11_2 {L a : Nat} (h : xS0 L a = (11, 0)) : xR0 a 2 = some (a + 50) ∧ xS0 L (a + 50) = (20, 3) := by
  obtain ⟨h1, h2⟩ := xS0_k h rfl
  obtain ⟨e1, e2, e3⟩ := kd_11_2 a h1 h2
  exact ⟨e1, by rw [xS0_in e2]; exact e3⟩
set_option maxRecDepth 100000 in
theorem kd_11_3 : ∀ a, a < 435 → xLS.getD a (99, 0) = (11, 0) → xR0 a 3 = some (a + 51) ∧ a + 51 < 435 ∧ xLS.getD (a + 51) (99, 0) = (4, 0) := by decide +kernel
theorem kf_11_3 {L a : Nat} (h : xS0 L a = (11, 0)) : xR0 a 3 = some (a + 51) ∧ xS0 L (a + 51) = (4, 0) := by
  obtain ⟨h1, h2⟩ := xS0_k h rfl
  obtain ⟨e1, e2, e3⟩ := kd_11_3 a h1 h2
  exact ⟨e1, by rw [xS0_in e2]; exact e3⟩
set_option maxRecDepth 100000 in
theorem kd_11_4 : ∀ a, a < 435 → xLS.getD a (99, 0) = (11, 0) → xR0 a 4 = some (a + 75) ∧ a + 75 < 435 ∧ xLS.getD (a + 75) (99, 0) = (0, 0) := by decide +kernel
theorem kf_11_4 {L a : Nat} (h : xS0 L a = (11, 0)) : xR0 a 4 = some (a + 75) ∧ xS0 L (a + 75) = (0, 0) := by
  obtain ⟨h1, h2⟩ := xS0_k h rfl
  obtain ⟨e1, e2, e3⟩ := kd_11_4 a h1 h2
  exact ⟨e1, by rw [xS0_in e2]; exact e3⟩
set_option maxRecDepth 100000 in
theorem kd_11_5 : ∀ a, a < 435 → xLS.getD a (99, 0) = (11, 0) → xR0 a 5 = some (a + 200) ∧ a + 200 < 435 ∧ xLS.getD (a + 200) (99, 0) = (9, 0) := by decide +kernel
theorem kf_11_5 {L a : Nat} (h : xS0 L a = (11, 0)) : xR0 a 5 = some (a + 200) ∧ xS0 L (a + 200) = (9, 0) := by
  obtain ⟨h1, h2⟩ := xS0_k h rfl
  obtain ⟨e1, e2, e3⟩ := kd_11_5 a h1 h2
  exact ⟨e1, by rw [xS0_in e2]; exact e3⟩
set_option maxRecDepth 100000 in
theorem kd_11_6 : ∀ a, a < 435 → xLS.getD a (99, 0) = (11, 0) → xR0 a 6 = some (a + 246) ∧ a + 246 < 435 ∧ xLS.getD (a + 246) (99, 0) = (8, 0) := by decide +kernel
theorem kf_11_6 {L a : Nat} (h : xS0 L a = (11, 0)) : xR0 a 6 = some (a + 246) ∧ xS0 L (a + 246) = (8, 0) := by
  obtain ⟨h1, h2⟩ := xS0_k h rfl
  obtain ⟨e1, e2, e3⟩ := kd_11_6 a h1 h2
  exact ⟨e1, by rw [xS0_in e2]; exact e3⟩
set_option maxRecDepth 100000 in
theorem kd_11_7 : ∀ a, a < 435 → xLS.getD a (99, 0) = (11, 0) → xR0 a 7 = some (a + 249) ∧ a + 249 < 435 ∧ xLS.getD (a + 249) (99, 0) = (7, 0) := by decide +kernel
theorem kf_11_7 {L a : Nat} (h : xS0 L a = (11, 0)) : xR0 a 7 = some (a + 249) ∧ xS0 L (a + 249) = (7, 0) := by
  obtain ⟨h1, h2⟩ := xS0_k h rfl
  obtain ⟨e1, e2, e3⟩ := kd_11_7 a h1 h2
  exact ⟨e1, by rw [xS0_in e2]; exact e3⟩
set_option maxRecDepth 100000 in
theorem kd_11_8 : ∀ a, a < 435 → xLS.getD a (99, 0) = (11, 0) → xR0 a 8 = some (a + 252) ∧ a + 252 < 435 ∧ xLS.getD (a + 252) (99, 0) = (3, 0) := by decide +kernel
theorem kf_11_8 {L a : Nat} (h : xS0 L a = (11, 0)) : xR0 a 8 = some (a + 252) ∧ xS0 L (a + 252) = (3, 0) := by
  obtain ⟨h1, h2⟩ := xS0_k h rfl
  obtain ⟨e1, e2, e3⟩ := kd_11_8 a h1 h2
  exact ⟨e1, by rw [xS0_in e2]; exact e3⟩
set_option maxRecDepth 100000 in
theorem kd_11_9 : ∀ a, a < 435 → xLS.getD a (99, 0) = (11, 0) → xR0 a 9 = some (a + 255) ∧ a + 255 < 435 ∧ xLS.getD (a + 255) (99, 0) = (20, 8) := by decide +kernel
theorem kf_11_9 {L a : Nat} (h : xS0 L a = (11, 0)) : xR0 a 9 = some (a + 255) ∧ xS0 L (a + 255) = (20, 8) := by
  obtain ⟨h1, h2⟩ := xS0_k h rfl
  obtain ⟨e1, e2, e3⟩ := kd_11_9 a h1 h2
  exact ⟨e1, by rw [xS0_in e2]; exact e3⟩
set_option maxRecDepth 100000 in
theorem kd_12_0 : ∀ a, a < 435 → xLS.getD a (99, 0) = (12, 0) → xR0 a 0 = some (a + 1) ∧ a + 1 < 435 ∧ xLS.getD (a + 1) (99, 0) = (20, 4680) := by decide +kernel
theorem kf_12_0 {L a : Nat} (h : xS0 L a = (12, 0)) : xR0 a 0 = some (a + 1) ∧ xS0 L (a + 1) = (20, 4680) := by
  obtain ⟨h1, h2⟩ := xS0_k h rfl
  obtain ⟨e1, e2, e3⟩ := kd_12_0 a h1 h2
  exact ⟨e1, by rw [xS0_in e2]; exact e3⟩
set_option maxRecDepth 100000 in
theorem kd_12_1 : ∀ a, a < 435 → xLS.getD a (99, 0) = (12, 0) → xR0 a 1 = some (a + 2) ∧ a + 2 < 435 ∧ xLS.getD (a + 2) (99, 0) = (22, 3) := by decide +kernel
theorem kf_12_1 {L a : Nat} (h : xS0 L a = (12, 0)) : xR0 a 1 = some (a + 2) ∧ xS0 L (a + 2) = (22, 3) := by
  obtain ⟨h1, h2⟩ := xS0_k h rfl
  obtain ⟨e1, e2, e3⟩ := kd_12_1 a h1 h2
  exact ⟨e1, by rw [xS0_in e2]; exact e3⟩
set_option maxRecDepth 100000 in
theorem kd_12_10 : ∀ a, a < 435 → xLS.getD a (99, 0) = (12, 0) → xR0 a 10 = some (a + 3) ∧ a + 3 < 435 ∧ xLS.getD (a + 3) (99, 0) = (20, 161) := by decide +kernel
theorem kf_12_10 {L a : Nat} (h : xS0 L a = (12, 0)) : xR0 a 10 = some (a + 3) ∧ xS0 L (a + 3) = (20, 161) := by
  obtain ⟨h1, h2⟩ := xS0_k h rfl
  obtain ⟨e1, e2, e3⟩ := kd_12_10 a h1 h2
  exact ⟨e1, by rw [xS0_in e2]; exact e3⟩
set_option maxRecDepth 100000 in
theorem kd_12_19 : ∀ a, a < 435 → xLS.getD a (99, 0) = (12, 0) → xR0 a 19 = some (a + 4) ∧ a + 4 < 435 ∧ xLS.getD (a + 4) (99, 0) = (20, 16) := by decide +kernel
theorem kf_12_19 {L a : Nat} (h : xS0 L a = (12, 0)) : xR0 a 19 = some (a + 4) ∧ xS0 L (a + 4) = (20, 16) := by
  obtain ⟨h1, h2⟩ := xS0_k h rfl
  obtain ⟨e1, e2, e3⟩ := kd_12_19 a h1 h2
  exact ⟨e1, by rw [xS0_in e2]; exact e3⟩
set_option maxRecDepth 100000 in
theorem kd_12_20 : ∀ a, a < 435 → xLS.getD a (99, 0) = (12, 0) → xR0 a 20 = some (a + 5) ∧ a + 5 < 435 ∧ xLS.getD (a + 5) (99, 0) = (20, 16) := by decide +kernel
theorem kf_12_20 {L a : Nat} (h : xS0 L a = (12, 0)) : xR0 a 20 = some (a + 5) ∧ xS0 L (a + 5) = (20, 16) := by
  obtain ⟨h1, h2⟩ := xS0_k h rfl
  obtain ⟨e1, e2, e3⟩ := kd_12_20 a h1 h2
  exact ⟨e1, by rw [xS0_in e2]; exact e3⟩
set_option maxRecDepth 100000 in
theorem kd_12_23 : ∀ a, a < 435 → xLS.getD a (99, 0) = (12, 0) → xR0 a 23 = some (a + 6) ∧ a + 6 < 435 ∧ xLS.getD (a + 6) (99, 0) = (20, 7) := by decide +kernel
theorem kf_12_23 {L a : Nat} (h : xS0 L a = (12, 0)) : xR0 a 23 = some (a + 6) ∧ xS0 L (a + 6) = (20, 7) := by
  obtain ⟨h1, h2⟩ := xS0_k h rfl
  obtain ⟨e1, e2, e3⟩ := kd_12_23 a h1 h2
  exact ⟨e1, by rw [xS0_in e2]; exact e3⟩
set_option maxRecDepth 100000 in
theorem kd_12_24 : ∀ a, a < 435 → xLS.getD a (99, 0) = (12, 0) → xR0 a 24 = some (a + 7) ∧ a + 7 < 435 ∧ xLS.getD (a + 7) (99, 0) = (22, 7) := by decide +kernel
theorem kf_12_24 {L a : Nat} (h : xS0 L a = (12, 0)) : xR0 a 24 = some (a + 7) ∧ xS0 L (a + 7) = (22, 7) := by
  obtain ⟨h1, h2⟩ := xS0_k h rfl
  obtain ⟨e1, e2, e3⟩ := kd_12_24 a h1 h2
  exact ⟨e1, by rw [xS0_in e2]; exact e3⟩
set_option maxRecDepth 100000 in
theorem kd_12_25 : ∀ a, a < 435 → xLS.getD a (99, 0) = (12, 0) → xR0 a 25 = some (a + 8) ∧ a + 8 < 435 ∧ xLS.getD (a + 8) (99, 0) = (20, 7) := by decide +kernel
theorem kf_12_25 {L a : Nat} (h : xS0 L a = (12, 0)) : xR0 a 25 = some (a + 8) ∧ xS0 L (a + 8) = (20, 7) := by
  obtain ⟨h1, h2⟩ := xS0_k h rfl
  obtain ⟨e1, e2, e3⟩ := kd_12_25 a h1 h2
  exact ⟨e1, by rw [xS0_in e2]; exact e3⟩
set_option maxRecDepth 100000 in
theorem kd_12_26 : ∀ a, a < 435 → xLS.getD a (99, 0) = (12, 0) → xR0 a 26 = some (a + 9) ∧ a + 9 < 435 ∧ xLS.getD (a + 9) (99, 0) = (20, 7) := by decide +kernel
theorem kf_12_26 {L a : Nat} (h : xS0 L a = (12, 0)) : xR0 a 26 = some (a + 9) ∧ xS0 L (a + 9) = (20, 7) := by
  obtain ⟨h1, h2⟩ := xS0_k h rfl
  obtain ⟨e1, e2, e3⟩ := kd_12_26 a h1 h2
  exact ⟨e1, by rw [xS0_in e2]; exact e3⟩
set_option maxRecDepth 100000 in
theorem kd_12_27 : ∀ a, a < 435 → xLS.getD a (99, 0) = (12, 0) → xR0 a 27 = some (a + 10) ∧ a + 10 < 435 ∧ xLS.getD (a + 10) (99, 0) = (20, 7) := by decide +kernel
theorem kf_12_27 {L a : Nat} (h : xS0 L a = (12, 0)) : xR0 a 27 = some (a + 10) ∧ xS0 L (a + 10) = (20, 7) := by
  obtain ⟨h1, h2⟩ := xS0_k h rfl
  obtain ⟨e1, e2, e3⟩ := kd_12_27 a h1 h2
  exact ⟨e1, by rw [xS0_in e2]; exact e3⟩
set_option maxRecDepth 100000 in
theorem kd_12_28 : ∀ a, a < 435 → xLS.getD a (99, 0) = (12, 0) → xR0 a 28 = some (a + 11) ∧ a + 11 < 435 ∧ xLS.getD (a + 11) (99, 0) = (20, 7) := by decide +kernel
theorem kf_12_28 {L a : Nat} (h : xS0 L a = (12, 0)) : xR0 a 28 = some (a + 11) ∧ xS0 L (a + 11) = (20, 7) := by
  obtain ⟨h1, h2⟩ := xS0_k h rfl
  obtain ⟨e1, e2, e3⟩ := kd_12_28 a h1 h2
  exact ⟨e1, by rw [xS0_in e2]; exact e3⟩
set_option maxRecDepth 100000 in
theorem kd_12_29 : ∀ a, a < 435 → xLS.getD a (99, 0) = (12, 0) → xR0 a 29 = some (a + 12) ∧ a + 12 < 435 ∧ xLS.getD (a + 12) (99, 0) = (20, 56) := by decide +kernel
theorem kf_12_29 {L a : Nat} (h : xS0 L a = (12, 0)) : xR0 a 29 = some (a + 12) ∧ xS0 L (a + 12) = (20, 56) := by
  obtain ⟨h1, h2⟩ := xS0_k h rfl
  obtain ⟨e1, e2, e3⟩ := kd_12_29 a h1 h2
  exact ⟨e1, by rw [xS0_in e2]; exact e3⟩
set_option maxRecDepth 100000 in
theorem kd_12_30 : ∀ a, a < 435 → xLS.getD a (99, 0) = (12, 0) → xR0 a 30 = some (a + 13) ∧ a + 13 < 435 ∧ xLS.getD (a + 13) (99, 0) = (20, 56) := by decide +kernel
theorem kf_12_30 {L a : Nat} (h : xS0 L a = (12, 0)) : xR0 a 30 = some (a + 13) ∧ xS0 L (a + 13) = (20, 56) := by
  obtain ⟨h1, h2⟩ := xS0_k h rfl
  obtain ⟨e1, e2, e3⟩ := kd_12_30 a h1 h2
  exact ⟨e1, by rw [xS0_in e2]; exact e3⟩
set_option maxRecDepth 100000 in
theorem kd_12_31 : ∀ a, a < 435 → xLS.getD a (99, 0) = (12, 0) → xR0 a 31 = some (a + 14) ∧ a + 14 < 435 ∧ xLS.getD (a + 14) (99, 0) = (20, 91) := by decide +kernel
theorem kf_12_31 {L a : Nat} (h : xS0 L a = (12, 0)) : xR0 a 31 = some (a + 14) ∧ xS0 L (a + 14) = (20, 91) := by
  obtain ⟨h1, h2⟩ := xS0_k h rfl
  obtain ⟨e1, e2, e3⟩ := kd_12_31 a h1 h2
  exact ⟨e1, by rw [xS0_in e2]; exact e3⟩
set_option maxRecDepth 100000 in
theorem kd_12_32 : ∀ a, a < 435 → xLS.getD a (99, 0) = (12, 0) → xR0 a 32 = some (a + 15) ∧ a + 15 < 435 ∧ xLS.getD (a + 15) (99, 0) = (20, 91) := by decide +kernel
theorem kf_12_32 {L a : Nat} (h : xS0 L a = (12, 0)) : xR0 a 32 = some (a + 15) ∧ xS0 L (a + 15) = (20, 91) := by
  obtain ⟨h1, h2⟩ := xS0_k h rfl
  obtain ⟨e1, e2, e3⟩ := kd_12_32 a h1 h2
  exact ⟨e1, by rw [xS0_in e2]; exact e3⟩
set_option maxRecDepth 100000 in
theorem kd_12_33 : ∀ a, a < 435 → xLS.getD a (99, 0) = (12, 0) → xR0 a 33 = some (a + 16) ∧ a + 16 < 435 ∧ xLS.getD (a + 16) (99, 0) = (20, 91) := by decide +kernel
theorem kf_12_33 {L a : Nat} (h : xS0 L a = (12, 0)) : xR0 a 33 = some (a + 16) ∧ xS0 L (a + 16) = (20, 91) := by
  obtain ⟨h1, h2⟩ := xS0_k h rfl
  obtain ⟨e1, e2, e3⟩ := kd_12_33 a h1 h2
  exact ⟨e1, by rw [xS0_in e2]; exact e3⟩
set_option maxRecDepth 100000 in
theorem kd_12_34 : ∀ a, a < 435 → xLS.getD a (99, 0) = (12, 0) → xR0 a 34 = some (a + 17) ∧ a + 17 < 435 ∧ xLS.getD (a + 17) (99, 0) = (20, 91) := by decide +kernel
theorem kf_12_34 {L a : Nat} (h : xS0 L a = (12, 0)) : xR0 a 34 = some (a + 17) ∧ xS0 L (a + 17) = (20, 91) := by
  obtain ⟨h1, h2⟩ := xS0_k h rfl
  obtain ⟨e1, e2, e3⟩ := kd_12_34 a h1 h2
  exact ⟨e1, by rw [xS0_in e2]; exact e3⟩
set_option maxRecDepth 100000 in
theorem kd_12_35 : ∀ a, a < 435 → xLS.getD a (99, 0) = (12, 0) → xR0 a 35 = some (a + 18) ∧ a + 18 < 435 ∧ xLS.getD (a + 18) (99, 0) = (20, 91) := by decide +kernel
theorem kf_12_35 {L a : Nat} (h : xS0 L a = (12, 0)) : xR0 a 35 = some (a + 18) ∧ xS0 L (a + 18) = (20, 91) := by
  obtain ⟨h1, h2⟩ := xS0_k h rfl
  obtain ⟨e1, e2, e3⟩ := kd_12_35 a h1 h2
  exact ⟨e1, by rw [xS0_in e2]; exact e3⟩
set_option maxRecDepth 100000 in
theorem kd_12_36 : ∀ a, a < 435 → xLS.getD a (99, 0) = (12, 0) → xR0 a 36 = some (a + 19) ∧ a + 19 < 435 ∧ xLS.getD (a + 19) (99, 0) = (20, 91) := by decide +kernel
theorem kf_12_36 {L a : Nat} (h : xS0 L a = (12, 0)) : xR0 a 36 = some (a + 19) ∧ xS0 L (a + 19) = (20, 91) := by
  obtain ⟨h1, h2⟩ := xS0_k h rfl
  obtain ⟨e1, e2, e3⟩ := kd_12_36 a h1 h2
  exact ⟨e1, by rw [xS0_in e2]; exact e3⟩
set_option maxRecDepth 100000 in
theorem kd_12_37 : ∀ a, a < 435 → xLS.getD a (99, 0) = (12, 0) → xR0 a 37 = some (a + 20) ∧ a + 20 < 435 ∧ xLS.getD (a + 20) (99, 0) = (20, 49) := by decide +kernel
theorem kf_12_37 {L a : Nat} (h : xS0 L a = (12, 0)) : xR0 a 37 = some (a + 20) ∧ xS0 L (a + 20) = (20, 49) := by
  obtain ⟨h1, h2⟩ := xS0_k h rfl
  obtain ⟨e1, e2, e3⟩ := kd_12_37 a h1 h2
  exact ⟨e1, by rw [xS0_in e2]; exact e3⟩
set_option maxRecDepth 100000 in
theorem kd_12_38 : ∀ a, a < 435 → xLS.getD a (99, 0) = (12, 0) → xR0 a 38 = some (a + 21) ∧ a + 21 < 435 ∧ xLS.getD (a + 21) (99, 0) = (20, 49) := by decide +kernel
theorem kf_12_38 {L a : Nat} (h : xS0 L a = (12, 0)) : xR0 a 38 = some (a + 21) ∧ xS0 L (a + 21) = (20, 49) := by
  obtain ⟨h1, h2⟩ := xS0_k h rfl
  obtain ⟨e1, e2, e3⟩ := kd_12_38 a h1 h2
  exact ⟨e1, by rw [xS0_in e2]; exact e3⟩
set_option maxRecDepth 100000 in
theorem kd_12_39 : ∀ a, a < 435 → xLS.getD a (99, 0) = (12, 0) → xR0 a 39 = some (a + 22) ∧ a + 22 < 435 ∧ xLS.getD (a + 22) (99, 0) = (22, 10) := by decide +kernel
theorem kf_12_39 {L a : Nat} (h : xS0 L a = (12, 0)) : xR0 a 39 = some (a + 22) ∧ xS0 L (a + 22) = (22, 10) := by
  obtain ⟨h1, h2⟩ := xS0_k h rfl
  obtain ⟨e1, e2, e3⟩ := kd_12_39 a h1 h2
  exact ⟨e1, by rw [xS0_in e2]; exact e3⟩
set_option maxRecDepth 100000 in
theorem kd_12_40 : ∀ a, a < 435 → xLS.getD a (99, 0) = (12, 0) → xR0 a 40 = some (a + 23) ∧ a + 23 < 435 ∧ xLS.getD (a + 23) (99, 0) = (20, 10) := by decide +kernel
theorem kf_12_40 {L a : Nat} (h : xS0 L a = (12, 0)) : xR0 a 40 = some (a + 23) ∧ xS0 L (a + 23) = (20, 10) := by
  obtain ⟨h1, h2⟩ := xS0_k h rfl
  obtain ⟨e1, e2, e3⟩ := kd_12_40 a h1 h2
  exact ⟨e1, by rw [xS0_in e2]; exact e3⟩
set_option maxRecDepth 100000 in
theorem kd_12_41 : ∀ a, a < 435 → xLS.getD a (99, 0) = (12, 0) → xR0 a 41 = some (a + 24) ∧ a + 24 < 435 ∧ xLS.getD (a + 24) (99, 0) = (20, 10) := by decide +kernel
theorem kf_12_41 {L a : Nat} (h : xS0 L a = (12, 0)) : xR0 a 41 = some (a + 24) ∧ xS0 L (a + 24) = (20, 10) := by
  obtain ⟨h1, h2⟩ := xS0_k h rfl
  obtain ⟨e1, e2, e3⟩ := kd_12_41 a h1 h2
  exact ⟨e1, by rw [xS0_in e2]; exact e3⟩
set_option maxRecDepth 100000 in
theorem kd_12_42 : ∀ a, a < 435 → xLS.getD a (99, 0) = (12, 0) → xR0 a 42 = some (a + 25) ∧ a + 25 < 435 ∧ xLS.getD (a + 25) (99, 0) = (20, 130) := by decide +kernel
theorem kf_12_42 {L a : Nat} (h : xS0 L a = (12, 0)) : xR0 a 42 = some (a + 25) ∧ xS0 L (a + 25) = (20, 130) := by
  obtain ⟨h1, h2⟩ := xS0_k h rfl
  obtain ⟨e1, e2, e3⟩ := kd_12_42 a h1 h2
  exact ⟨e1, by rw [xS0_in e2]; exact e3⟩
set_option maxRecDepth 100000 in
theorem kd_12_46 : ∀ a, a < 435 → xLS.getD a (99, 0) = (12, 0) → xR0 a 46 = some (a + 26) ∧ a + 26 < 435 ∧ xLS.getD (a + 26) (99, 0) = (20, 13) := by decide +kernel
theorem kf_12_46 {L a : Nat} (h : xS0 L a = (12, 0)) : xR0 a 46 = some (a + 26) ∧ xS0 L (a + 26) = (20, 13) := by
  obtain ⟨h1, h2⟩ := xS0_k h rfl
  obtain ⟨e1, e2, e3⟩ := kd_12_46 a h1 h2
  exact ⟨e1, by rw [xS0_in e2]; exact e3⟩
set_option maxRecDepth 100000 in
theorem kd_12_48 : ∀ a, a < 435 → xLS.getD a (99, 0) = (12, 0) → xR0 a 48 = some (a + 27) ∧ a + 27 < 435 ∧ xLS.getD (a + 27) (99, 0) = (20, 91) := by decide +kernel
theorem kf_12_48 {L a : Nat} (h : xS0 L a = (12, 0)) : xR0 a 48 = some (a + 27) ∧ xS0 L (a + 27) = (20, 91) := by
  obtain ⟨h1, h2⟩ := xS0_k h rfl
  obtain ⟨e1, e2, e3⟩ := kd_12_48 a h1 h2
  exact ⟨e1, by rw [xS0_in e2]; exact e3⟩
set_option maxRecDepth 100000 in
theorem kd_12_49 : ∀ a, a < 435 → xLS.getD a (99, 0) = (12, 0) → xR0 a 49 = some (a + 28) ∧ a + 28 < 435 ∧ xLS.getD (a + 28) (99, 0) = (20, 91) := by decide +kernel
theorem kf_12_49 {L a : Nat} (h : xS0 L a = (12, 0)) : xR0 a 49 = some (a + 28) ∧ xS0 L (a + 28) = (20, 91) := by
  obtain ⟨h1, h2⟩ := xS0_k h rfl
  obtain ⟨e1, e2, e3⟩ := kd_12_49 a h1 h2
  exact ⟨e1, by rw [xS0_in e2]; exact e3⟩
set_option maxRecDepth 100000 in
theorem kd_12_50 : ∀ a, a < 435 → xLS.getD a (99, 0) = (12, 0) → xR0 a 50 = some (a + 29) ∧ a + 29 < 435 ∧ xLS.getD (a + 29) (99, 0) = (20, 91) := by decide +kernel
theorem kf_12_50 {L a : Nat} (h : xS0 L a = (12, 0)) : xR0 a 50 = some (a + 29) ∧ xS0 L (a + 29) = (20, 91) := by
  obtain ⟨h1, h2⟩ := xS0_k h rfl
  obtain ⟨e1, e2, e3⟩ := kd_12_50 a h1 h2
  exact ⟨e1, by rw [xS0_in e2]; exact e3⟩
set_option maxRecDepth 100000 in
theorem kd_12_51 : ∀ a, a < 435 → xLS.getD a (99, 0) = (12, 0) → xR0 a 51 = some (a + 30) ∧ a + 30 < 435 ∧ xLS.getD (a + 30) (99, 0) = (20, 91) := by decide +kernel
theorem kf_12_51 {L a : Nat} (h : xS0 L a = (12, 0)) : xR0 a 51 = some (a + 30) ∧ xS0 L (a + 30) = (20, 91) := by
  obtain ⟨h1, h2⟩ := xS0_k h rfl
  obtain ⟨e1, e2, e3⟩ := kd_12_51 a h1 h2
  exact ⟨e1, by rw [xS0_in e2]; exact e3⟩
set_option maxRecDepth 100000 in
theorem kd_12_52 : ∀ a, a < 435 → xLS.getD a (99, 0) = (12, 0) → xR0 a 52 = some (a + 31) ∧ a + 31 < 435 ∧ xLS.getD (a + 31) (99, 0) = (20, 7) := by decide +kernel
theorem kf_12_52 {L a : Nat} (h : xS0 L a = (12, 0)) : xR0 a 52 = some (a + 31) ∧ xS0 L (a + 31) = (20, 7) := by
  obtain ⟨h1, h2⟩ := xS0_k h rfl
  obtain ⟨e1, e2, e3⟩ := kd_12_52 a h1 h2
  exact ⟨e1, by rw [xS0_in e2]; exact e3⟩
set_option maxRecDepth 100000 in
theorem kd_12_55 : ∀ a, a < 435 → xLS.getD a (99, 0) = (12, 0) → xR0 a 55 = some (a + 32) ∧ a + 32 < 435 ∧ xLS.getD (a + 32) (99, 0) = (20, 8) := by decide +kernel
theorem kf_12_55 {L a : Nat} (h : xS0 L a = (12, 0)) : xR0 a 55 = some (a + 32) ∧ xS0 L (a + 32) = (20, 8) := by
  obtain ⟨h1, h2⟩ := xS0_k h rfl
  obtain ⟨e1, e2, e3⟩ := kd_12_55 a h1 h2
  exact ⟨e1, by rw [xS0_in e2]; exact e3⟩
set_option maxRecDepth 100000 in
theorem kd_12_57 : ∀ a, a < 435 → xLS.getD a (99, 0) = (12, 0) → xR0 a 57 = some (a + 33) ∧ a + 33 < 435 ∧ xLS.getD (a + 33) (99, 0) = (20, 7) := by decide +kernel
theorem kf_12_57 {L a : Nat} (h : xS0 L a = (12, 0)) : xR0 a 57 = some (a + 33) ∧ xS0 L (a + 33) = (20, 7) := by
  obtain ⟨h1, h2⟩ := xS0_k h rfl
  obtain ⟨e1, e2, e3⟩ := kd_12_57 a h1 h2
  exact ⟨e1, by rw [xS0_in e2]; exact e3⟩
set_option maxRecDepth 100000 in
theorem kd_12_58 : ∀ a, a < 435 → xLS.getD a (99, 0) = (12, 0) → xR0 a 58 = some (a + 34) ∧ a + 34 < 435 ∧ xLS.getD (a + 34) (99, 0) = (20, 7) := by decide +kernel
theorem kf_12_58 {L a : Nat} (h : xS0 L a = (12, 0)) : xR0 a 58 = some (a + 34) ∧ xS0 L (a + 34) = (20, 7) := by
  obtain ⟨h1, h2⟩ := xS0_k h rfl
  obtain ⟨e1, e2, e3⟩ := kd_12_58 a h1 h2
  exact ⟨e1, by rw [xS0_in e2]; exact e3⟩
set_option maxRecDepth 100000 in
theorem ked_23 : ∀ a, a < 435 → xLS.getD a (99, 0) = (23, 10) → ∀ i, i < 10 → xR0 a i = some (a + 94 + 3 * i) ∧ a + 94 + 3 * i < 435 ∧ xLS.getD (a + 94 + 3 * i) (99, 0) = (3, 0) := by decide +kernel
theorem ke_23 {L a i : Nat} (h : xS0 L a = (23, 10)) (hi : i < 10) : xR0 a i = some (a + 94 + 3 * i) ∧ xS0 L (a + 94 + 3 * i) = (3, 0) := by
  obtain ⟨h1, h2⟩ := xS0_k h rfl
  obtain ⟨e1, e2, e3⟩ := ked_23 a h1 h2 i hi
  exact ⟨e1, by rw [xS0_in e2]; exact e3⟩
set_option maxRecDepth 100000 in
theorem ked_24 : ∀ a, a < 435 → xLS.getD a (99, 0) = (24, 7) → ∀ i, i < 7 → xR0 a i = some (a + 4 + 11 * i) ∧ a + 4 + 11 * i < 435 ∧ xLS.getD (a + 4 + 11 * i) (99, 0) = (2, 0) := by decide +kernel
theorem ke_24 {L a i : Nat} (h : xS0 L a = (24, 7)) (hi : i < 7) : xR0 a i = some (a + 4 + 11 * i) ∧ xS0 L (a + 4 + 11 * i) = (2, 0) := by
  obtain ⟨h1, h2⟩ := xS0_k h rfl
  obtain ⟨e1, e2, e3⟩ := ked_24 a h1 h2 i hi
  exact ⟨e1, by rw [xS0_in e2]; exact e3⟩
set_option maxRecDepth 100000 in
theorem ked_25 : ∀ a, a < 435 → xLS.getD a (99, 0) = (25, 3) → ∀ i, i < 3 → xR0 a i = some (a + 207 + 48 * i) ∧ a + 207 + 48 * i < 435 ∧ xLS.getD (a + 207 + 48 * i) (99, 0) = (10, 0) := by decide +kernel
theorem ke_25 {L a i : Nat} (h : xS0 L a = (25, 3)) (hi : i < 3) : xR0 a i = some (a + 207 + 48 * i) ∧ xS0 L (a + 207 + 48 * i) = (10, 0) := by
  obtain ⟨h1, h2⟩ := xS0_k h rfl
  obtain ⟨e1, e2, e3⟩ := ked_25 a h1 h2 i hi
  exact ⟨e1, by rw [xS0_in e2]; exact e3⟩
set_option maxRecDepth 100000 in
theorem ked_26 : ∀ a, a < 435 → xLS.getD a (99, 0) = (26, 2) → ∀ i, i < 2 → xR0 a i = some (a + 3 + 21 * i) ∧ a + 3 + 21 * i < 435 ∧ xLS.getD (a + 3 + 21 * i) (99, 0) = (1, 0) := by decide +kernel
theorem ke_26 {L a i : Nat} (h : xS0 L a = (26, 2)) (hi : i < 2) : xR0 a i = some (a + 3 + 21 * i) ∧ xS0 L (a + 3 + 21 * i) = (1, 0) := by
  obtain ⟨h1, h2⟩ := xS0_k h rfl
  obtain ⟨e1, e2, e3⟩ := ked_26 a h1 h2 i hi
  exact ⟨e1, by rw [xS0_in e2]; exact e3⟩
set_option maxRecDepth 100000 in
theorem ked_27 : ∀ a, a < 435 → xLS.getD a (99, 0) = (27, 2) → ∀ i, i < 2 → xR0 a i = some (a + 14 + 21 * i) ∧ a + 14 + 21 * i < 435 ∧ xLS.getD (a + 14 + 21 * i) (99, 0) = (6, 0) := by decide +kernel
theorem ke_27 {L a i : Nat} (h : xS0 L a = (27, 2)) (hi : i < 2) : xR0 a i = some (a + 14 + 21 * i) ∧ xS0 L (a + 14 + 21 * i) = (6, 0) := by
  obtain ⟨h1, h2⟩ := xS0_k h rfl
  obtain ⟨e1, e2, e3⟩ := ked_27 a h1 h2 i hi
  exact ⟨e1, by rw [xS0_in e2]; exact e3⟩
set_option maxRecDepth 100000 in
theorem ked_28 : ∀ a, a < 435 → xLS.getD a (99, 0) = (28, 2) → ∀ i, i < 2 → xR0 a i = some (a + 18 + 21 * i) ∧ a + 18 + 21 * i < 435 ∧ xLS.getD (a + 18 + 21 * i) (99, 0) = (5, 0) := by decide +kernel
theorem ke_28 {L a i : Nat} (h : xS0 L a = (28, 2)) (hi : i < 2) : xR0 a i = some (a + 18 + 21 * i) ∧ xS0 L (a + 18 + 21 * i) = (5, 0) := by
  obtain ⟨h1, h2⟩ := xS0_k h rfl
  obtain ⟨e1, e2, e3⟩ := ked_28 a h1 h2 i hi
  exact ⟨e1, by rw [xS0_in e2]; exact e3⟩
/-! the arguments of each method, off the stack -/
theorem xa_TP_feed {x0 : Nat} {x1 : Int32} {x2 : Int32} {x3 : Int32} {x4 : Int32} {x5 : Int32} {r : List Value} (h : xcat r ≤ 8) : xArg 12 (Value.int x5 :: Value.int x4 :: Value.int x3 :: Value.int x2 :: Value.int x1 :: Value.ref x0 :: r) = some (xm_TP_feed, [Value.ref x0, Value.int x1, Value.int x2, Value.int x3, Value.int x4, Value.int x5], r) := by
  unfold xArg
  rw [show xMs[12]? = some xm_TP_feed from rfl]
  show (if (true && decide (xcat r ≤ 8) && true) = true then some (xm_TP_feed, [Value.ref x0, Value.int x1, Value.int x2, Value.int x3, Value.int x4, Value.int x5], r) else none) = some _
  rw [decide_eq_true h]; rfl
theorem xa_To_write {x0 : Nat} {x1 : Int32} {r : List Value} (h : xcat r ≤ 8) : xArg 13 (Value.int x1 :: Value.ref x0 :: r) = some (xm_To_write, [Value.ref x0, Value.int x1], r) := by
  unfold xArg
  rw [show xMs[13]? = some xm_To_write from rfl]
  show (if (true && decide (xcat r ≤ 8) && true) = true then some (xm_To_write, [Value.ref x0, Value.int x1], r) else none) = some _
  rw [decide_eq_true h]; rfl
theorem xa_TP_end {x0 : Nat} {x1 : Int32} {r : List Value} (h : xcat r ≤ 8) : xArg 14 (Value.int x1 :: Value.ref x0 :: r) = some (xm_TP_end, [Value.ref x0, Value.int x1], r) := by
  unfold xArg
  rw [show xMs[14]? = some xm_TP_end from rfl]
  show (if (true && decide (xcat r ≤ 8) && true) = true then some (xm_TP_end, [Value.ref x0, Value.int x1], r) else none) = some _
  rw [decide_eq_true h]; rfl
theorem xa_TP_text {x0 : Nat} {x1 : Int32} {x2 : Int32} {r : List Value} (h : xcat r ≤ 8) : xArg 15 (Value.int x2 :: Value.int x1 :: Value.ref x0 :: r) = some (xm_TP_text, [Value.ref x0, Value.int x1, Value.int x2], r) := by
  unfold xArg
  rw [show xMs[15]? = some xm_TP_text from rfl]
  show (if (true && decide (xcat r ≤ 8) && true) = true then some (xm_TP_text, [Value.ref x0, Value.int x1, Value.int x2], r) else none) = some _
  rw [decide_eq_true h]; rfl
theorem xa_To_has {x0 : Nat} {x1 : Int32} {x2 : Int32} {r : List Value} (h : xcat r ≤ 8) : xArg 16 (Value.int x2 :: Value.int x1 :: Value.ref x0 :: r) = some (xm_To_has, [Value.ref x0, Value.int x1, Value.int x2], r) := by
  unfold xArg
  rw [show xMs[16]? = some xm_To_has from rfl]
  show (if (true && decide (xcat r ≤ 8) && true) = true then some (xm_To_has, [Value.ref x0, Value.int x1, Value.int x2], r) else none) = some _
  rw [decide_eq_true h]; rfl
theorem xa_Re_read {x0 : Nat} {x1 : Nat} {x2 : Int32} {x3 : Int32} {r : List Value} (h : xcat r ≤ 8) : xArg 17 (Value.int x3 :: Value.int x2 :: Value.ref x1 :: Value.ref x0 :: r) = some (xm_Re_read, [Value.ref x0, Value.ref x1, Value.int x2, Value.int x3], r) := by
  unfold xArg
  rw [show xMs[17]? = some xm_Re_read from rfl]
  show (if (true && decide (xcat r ≤ 8) && true) = true then some (xm_Re_read, [Value.ref x0, Value.ref x1, Value.int x2, Value.int x3], r) else none) = some _
  rw [decide_eq_true h]; rfl
theorem xa_Co_clear {x0 : Nat} {r : List Value} (h : xcat r ≤ 8) : xArg 18 (Value.ref x0 :: r) = some (xm_Co_clear, [Value.ref x0], r) := by
  unfold xArg
  rw [show xMs[18]? = some xm_Co_clear from rfl]
  show (if (true && decide (xcat r ≤ 8) && true) = true then some (xm_Co_clear, [Value.ref x0], r) else none) = some _
  rw [decide_eq_true h]; rfl
theorem xa_ja_fill {x0 : Nat} {x1 : Int32} {r : List Value} (h : xcat r ≤ 8) : xArg 19 (Value.int x1 :: Value.ref x0 :: r) = some (xm_ja_fill, [Value.ref x0, Value.int x1], r) := by
  unfold xArg
  rw [show xMs[19]? = some xm_ja_fill from rfl]
  show (if (true && decide (xcat r ≤ 8) && true) = true then some (xm_ja_fill, [Value.ref x0, Value.int x1], r) else none) = some _
  rw [decide_eq_true h]; rfl
theorem xa_Re_next {x0 : Nat} {r : List Value} (h : xcat r ≤ 8) : xArg 20 (Value.ref x0 :: r) = some (xm_Re_next, [Value.ref x0], r) := by
  unfold xArg
  rw [show xMs[20]? = some xm_Re_next from rfl]
  show (if (true && decide (xcat r ≤ 8) && true) = true then some (xm_Re_next, [Value.ref x0], r) else none) = some _
  rw [decide_eq_true h]; rfl
theorem xa_Re_isLetter {x0 : Int32} {r : List Value} (h : xcat r ≤ 8) : xArg 21 (Value.int x0 :: r) = some (xm_Re_isLetter, [Value.int x0], r) := by
  unfold xArg
  rw [show xMs[21]? = some xm_Re_isLetter from rfl]
  show (if (true && decide (xcat r ≤ 8) && true) = true then some (xm_Re_isLetter, [Value.int x0], r) else none) = some _
  rw [decide_eq_true h]; rfl
theorem xa_Re_readWord {x0 : Nat} {r : List Value} (h : xcat r ≤ 8) : xArg 22 (Value.ref x0 :: r) = some (xm_Re_readWord, [Value.ref x0], r) := by
  unfold xArg
  rw [show xMs[22]? = some xm_Re_readWord from rfl]
  show (if (true && decide (xcat r ≤ 8) && true) = true then some (xm_Re_readWord, [Value.ref x0], r) else none) = some _
  rw [decide_eq_true h]; rfl
theorem xa_Re_isDigit {x0 : Int32} {r : List Value} (h : xcat r ≤ 8) : xArg 23 (Value.int x0 :: r) = some (xm_Re_isDigit, [Value.int x0], r) := by
  unfold xArg
  rw [show xMs[23]? = some xm_Re_isDigit from rfl]
  show (if (true && decide (xcat r ≤ 8) && true) = true then some (xm_Re_isDigit, [Value.int x0], r) else none) = some _
  rw [decide_eq_true h]; rfl
theorem xa_Re_readNumber {x0 : Nat} {r : List Value} (h : xcat r ≤ 8) : xArg 24 (Value.ref x0 :: r) = some (xm_Re_readNumber, [Value.ref x0], r) := by
  unfold xArg
  rw [show xMs[24]? = some xm_Re_readNumber from rfl]
  show (if (true && decide (xcat r ≤ 8) && true) = true then some (xm_Re_readNumber, [Value.ref x0], r) else none) = some _
  rw [decide_eq_true h]; rfl
theorem xa_Re_readLine {x0 : Nat} {x1 : Int32} {r : List Value} (h : xcat r ≤ 8) : xArg 25 (Value.int x1 :: Value.ref x0 :: r) = some (xm_Re_readLine, [Value.ref x0, Value.int x1], r) := by
  unfold xArg
  rw [show xMs[25]? = some xm_Re_readLine from rfl]
  show (if (true && decide (xcat r ≤ 8) && true) = true then some (xm_Re_readLine, [Value.ref x0, Value.int x1], r) else none) = some _
  rw [decide_eq_true h]; rfl
theorem xa_Re_lineOf {x0 : Nat} {x1 : Int32} {r : List Value} (h : xcat r ≤ 8) : xArg 26 (Value.int x1 :: Value.ref x0 :: r) = some (xm_Re_lineOf, [Value.ref x0, Value.int x1], r) := by
  unfold xArg
  rw [show xMs[26]? = some xm_Re_lineOf from rfl]
  show (if (true && decide (xcat r ≤ 8) && true) = true then some (xm_Re_lineOf, [Value.ref x0, Value.int x1], r) else none) = some _
  rw [decide_eq_true h]; rfl
theorem xa_Re_wordOf {x0 : Int32} {r : List Value} (h : xcat r ≤ 8) : xArg 27 (Value.int x0 :: r) = some (xm_Re_wordOf, [Value.int x0], r) := by
  unfold xArg
  rw [show xMs[27]? = some xm_Re_wordOf from rfl]
  show (if (true && decide (xcat r ≤ 8) && true) = true then some (xm_Re_wordOf, [Value.int x0], r) else none) = some _
  rw [decide_eq_true h]; rfl
theorem xa_Re_isWord {x0 : Nat} {x1 : Nat} {r : List Value} (h : xcat r ≤ 8) : xArg 28 (Value.ref x1 :: Value.ref x0 :: r) = some (xm_Re_isWord, [Value.ref x0, Value.ref x1], r) := by
  unfold xArg
  rw [show xMs[28]? = some xm_Re_isWord from rfl]
  show (if (true && decide (xcat r ≤ 8) && true) = true then some (xm_Re_isWord, [Value.ref x0, Value.ref x1], r) else none) = some _
  rw [decide_eq_true h]; rfl
theorem xa_js_length {x0 : Nat} {r : List Value} (h : xcat r ≤ 8) : xArg 29 (Value.ref x0 :: r) = some (xm_js_length, [Value.ref x0], r) := by
  unfold xArg
  rw [show xMs[29]? = some xm_js_length from rfl]
  show (if (true && decide (xcat r ≤ 8) && true) = true then some (xm_js_length, [Value.ref x0], r) else none) = some _
  rw [decide_eq_true h]; rfl
theorem xa_js_coder {x0 : Nat} {r : List Value} (h : xcat r ≤ 8) : xArg 30 (Value.ref x0 :: r) = some (xm_js_coder, [Value.ref x0], r) := by
  unfold xArg
  rw [show xMs[30]? = some xm_js_coder from rfl]
  show (if (true && decide (xcat r ≤ 8) && true) = true then some (xm_js_coder, [Value.ref x0], r) else none) = some _
  rw [decide_eq_true h]; rfl
theorem xa_js_charAt {x0 : Nat} {x1 : Int32} {r : List Value} (h : xcat r ≤ 8) : xArg 31 (Value.int x1 :: Value.ref x0 :: r) = some (xm_js_charAt, [Value.ref x0, Value.int x1], r) := by
  unfold xArg
  rw [show xMs[31]? = some xm_js_charAt from rfl]
  show (if (true && decide (xcat r ≤ 8) && true) = true then some (xm_js_charAt, [Value.ref x0, Value.int x1], r) else none) = some _
  rw [decide_eq_true h]; rfl
theorem xa_js_isLatin1 {x0 : Nat} {r : List Value} (h : xcat r ≤ 8) : xArg 32 (Value.ref x0 :: r) = some (xm_js_isLatin1, [Value.ref x0], r) := by
  unfold xArg
  rw [show xMs[32]? = some xm_js_isLatin1 from rfl]
  show (if (true && decide (xcat r ≤ 8) && true) = true then some (xm_js_isLatin1, [Value.ref x0], r) else none) = some _
  rw [decide_eq_true h]; rfl
theorem xa_jl_charAt {x0 : Nat} {x1 : Int32} {r : List Value} (h : xcat r ≤ 8) : xArg 33 (Value.int x1 :: Value.ref x0 :: r) = some (xm_jl_charAt, [Value.ref x0, Value.int x1], r) := by
  unfold xArg
  rw [show xMs[33]? = some xm_jl_charAt from rfl]
  show (if (true && decide (xcat r ≤ 8) && true) = true then some (xm_jl_charAt, [Value.ref x0, Value.int x1], r) else none) = some _
  rw [decide_eq_true h]; rfl
theorem xa_js_checkIndex {x0 : Int32} {x1 : Int32} {r : List Value} (h : xcat r ≤ 8) : xArg 34 (Value.int x1 :: Value.int x0 :: r) = some (xm_js_checkIndex, [Value.int x0, Value.int x1], r) := by
  unfold xArg
  rw [show xMs[34]? = some xm_js_checkIndex from rfl]
  show (if (true && decide (xcat r ≤ 8) && true) = true then some (xm_js_checkIndex, [Value.int x0, Value.int x1], r) else none) = some _
  rw [decide_eq_true h]; rfl
theorem xa_jp_checkIndex {x0 : Int32} {x1 : Int32} {r : List Value} (h : xcat r ≤ 8) : xArg 35 (Value.retAddr 1 :: Value.int x1 :: Value.int x0 :: r) = some (xm_jp_checkIndex, [Value.int x0, Value.int x1, Value.retAddr 1], r) := by
  unfold xArg
  rw [show xMs[35]? = some xm_jp_checkIndex from rfl]
  show (if (true && decide (xcat r ≤ 8) && true) = true then some (xm_jp_checkIndex, [Value.int x0, Value.int x1, Value.retAddr 1], r) else none) = some _
  rw [decide_eq_true h]; rfl
theorem xa_Re_isFull {x0 : Nat} {x1 : Int32} {r : List Value} (h : xcat r ≤ 8) : xArg 36 (Value.int x1 :: Value.ref x0 :: r) = some (xm_Re_isFull, [Value.ref x0, Value.int x1], r) := by
  unfold xArg
  rw [show xMs[36]? = some xm_Re_isFull from rfl]
  show (if (true && decide (xcat r ≤ 8) && true) = true then some (xm_Re_isFull, [Value.ref x0, Value.int x1], r) else none) = some _
  rw [decide_eq_true h]; rfl
theorem xa_Re_note {x0 : Nat} {x1 : Int32} {x2 : Int32} {r : List Value} (h : xcat r ≤ 8) : xArg 37 (Value.int x2 :: Value.int x1 :: Value.ref x0 :: r) = some (xm_Re_note, [Value.ref x0, Value.int x1, Value.int x2], r) := by
  unfold xArg
  rw [show xMs[37]? = some xm_Re_note from rfl]
  show (if (true && decide (xcat r ≤ 8) && true) = true then some (xm_Re_note, [Value.ref x0, Value.int x1, Value.int x2], r) else none) = some _
  rw [decide_eq_true h]; rfl
theorem xa_Re_mayBe {x0 : Nat} {x1 : Int32} {x2 : Int32} {r : List Value} (h : xcat r ≤ 8) : xArg 38 (Value.int x2 :: Value.int x1 :: Value.ref x0 :: r) = some (xm_Re_mayBe, [Value.ref x0, Value.int x1, Value.int x2], r) := by
  unfold xArg
  rw [show xMs[38]? = some xm_Re_mayBe from rfl]
  show (if (true && decide (xcat r ≤ 8) && true) = true then some (xm_Re_mayBe, [Value.ref x0, Value.int x1, Value.int x2], r) else none) = some _
  rw [decide_eq_true h]; rfl
theorem xa_Re_tellsTwoMembers {x0 : Int32} {r : List Value} (h : xcat r ≤ 8) : xArg 39 (Value.int x0 :: r) = some (xm_Re_tellsTwoMembers, [Value.int x0], r) := by
  unfold xArg
  rw [show xMs[39]? = some xm_Re_tellsTwoMembers from rfl]
  show (if (true && decide (xcat r ≤ 8) && true) = true then some (xm_Re_tellsTwoMembers, [Value.int x0], r) else none) = some _
  rw [decide_eq_true h]; rfl
theorem xa_Re_keep {x0 : Nat} {x1 : Int32} {r : List Value} (h : xcat r ≤ 8) : xArg 40 (Value.int x1 :: Value.ref x0 :: r) = some (xm_Re_keep, [Value.ref x0, Value.int x1], r) := by
  unfold xArg
  rw [show xMs[40]? = some xm_Re_keep from rfl]
  show (if (true && decide (xcat r ≤ 8) && true) = true then some (xm_Re_keep, [Value.ref x0, Value.int x1], r) else none) = some _
  rw [decide_eq_true h]; rfl
theorem xa_Rp_add {x0 : Nat} {x1 : Int32} {x2 : Int32} {x3 : Int32} {r : List Value} (h : xcat r ≤ 8) : xArg 41 (Value.int x3 :: Value.int x2 :: Value.int x1 :: Value.ref x0 :: r) = some (xm_Rp_add, [Value.ref x0, Value.int x1, Value.int x2, Value.int x3], r) := by
  unfold xArg
  rw [show xMs[41]? = some xm_Rp_add from rfl]
  show (if (true && decide (xcat r ≤ 8) && true) = true then some (xm_Rp_add, [Value.ref x0, Value.int x1, Value.int x2, Value.int x3], r) else none) = some _
  rw [decide_eq_true h]; rfl
theorem xa_Co_addOrder {x0 : Nat} {x1 : Int32} {x2 : Int32} {r : List Value} (h : xcat r ≤ 8) : xArg 42 (Value.int x2 :: Value.int x1 :: Value.ref x0 :: r) = some (xm_Co_addOrder, [Value.ref x0, Value.int x1, Value.int x2], r) := by
  unfold xArg
  rw [show xMs[42]? = some xm_Co_addOrder from rfl]
  show (if (true && decide (xcat r ≤ 8) && true) = true then some (xm_Co_addOrder, [Value.ref x0, Value.int x1, Value.int x2], r) else none) = some _
  rw [decide_eq_true h]; rfl
theorem xa_Ru_add {x0 : Nat} {x1 : Int32} {x2 : Int32} {x3 : Int32} {x4 : Int32} {r : List Value} (h : xcat r ≤ 8) : xArg 43 (Value.int x4 :: Value.int x3 :: Value.int x2 :: Value.int x1 :: Value.ref x0 :: r) = some (xm_Ru_add, [Value.ref x0, Value.int x1, Value.int x2, Value.int x3, Value.int x4], r) := by
  unfold xArg
  rw [show xMs[43]? = some xm_Ru_add from rfl]
  show (if (true && decide (xcat r ≤ 8) && true) = true then some (xm_Ru_add, [Value.ref x0, Value.int x1, Value.int x2, Value.int x3, Value.int x4], r) else none) = some _
  rw [decide_eq_true h]; rfl
theorem xa_Co_members {x0 : Nat} {r : List Value} (h : xcat r ≤ 8) : xArg 44 (Value.ref x0 :: r) = some (xm_Co_members, [Value.ref x0], r) := by
  unfold xArg
  rw [show xMs[44]? = some xm_Co_members from rfl]
  show (if (true && decide (xcat r ≤ 8) && true) = true then some (xm_Co_members, [Value.ref x0], r) else none) = some _
  rw [decide_eq_true h]; rfl
theorem xa_To_put {x0 : Nat} {x1 : Int32} {x2 : Int32} {x3 : Nat} {r : List Value} (h : xcat r ≤ 8) : xArg 45 (Value.ref x3 :: Value.int x2 :: Value.int x1 :: Value.ref x0 :: r) = some (xm_To_put, [Value.ref x0, Value.int x1, Value.int x2, Value.ref x3], r) := by
  unfold xArg
  rw [show xMs[45]? = some xm_To_put from rfl]
  show (if (true && decide (xcat r ≤ 8) && true) = true then some (xm_To_put, [Value.ref x0, Value.int x1, Value.int x2, Value.ref x3], r) else none) = some _
  rw [decide_eq_true h]; rfl
theorem xa_Co_take {x0 : Nat} {x1 : Nat} {r : List Value} (h : xcat r ≤ 8) : xArg 46 (Value.ref x1 :: Value.ref x0 :: r) = some (xm_Co_take, [Value.ref x0, Value.ref x1], r) := by
  unfold xArg
  rw [show xMs[46]? = some xm_Co_take from rfl]
  show (if (true && decide (xcat r ≤ 8) && true) = true then some (xm_Co_take, [Value.ref x0, Value.ref x1], r) else none) = some _
  rw [decide_eq_true h]; rfl
theorem xa_TP_copyAccounts {x0 : Nat} {x1 : Nat} {r : List Value} (h : xcat r ≤ 8) : xArg 47 (Value.ref x1 :: Value.ref x0 :: r) = some (xm_TP_copyAccounts, [Value.ref x0, Value.ref x1], r) := by
  unfold xArg
  rw [show xMs[47]? = some xm_TP_copyAccounts from rfl]
  show (if (true && decide (xcat r ≤ 8) && true) = true then some (xm_TP_copyAccounts, [Value.ref x0, Value.ref x1], r) else none) = some _
  rw [decide_eq_true h]; rfl
theorem xa_Ru_take {x0 : Nat} {x1 : Nat} {r : List Value} (h : xcat r ≤ 8) : xArg 48 (Value.ref x1 :: Value.ref x0 :: r) = some (xm_Ru_take, [Value.ref x0, Value.ref x1], r) := by
  unfold xArg
  rw [show xMs[48]? = some xm_Ru_take from rfl]
  show (if (true && decide (xcat r ≤ 8) && true) = true then some (xm_Ru_take, [Value.ref x0, Value.ref x1], r) else none) = some _
  rw [decide_eq_true h]; rfl
theorem xa_Rp_take {x0 : Nat} {x1 : Nat} {r : List Value} (h : xcat r ≤ 8) : xArg 49 (Value.ref x1 :: Value.ref x0 :: r) = some (xm_Rp_take, [Value.ref x0, Value.ref x1], r) := by
  unfold xArg
  rw [show xMs[49]? = some xm_Rp_take from rfl]
  show (if (true && decide (xcat r ≤ 8) && true) = true then some (xm_Rp_take, [Value.ref x0, Value.ref x1], r) else none) = some _
  rw [decide_eq_true h]; rfl
theorem xa_TP_fault {x0 : Nat} {x1 : Int32} {r : List Value} (h : xcat r ≤ 8) : xArg 50 (Value.int x1 :: Value.ref x0 :: r) = some (xm_TP_fault, [Value.ref x0, Value.int x1], r) := by
  unfold xArg
  rw [show xMs[50]? = some xm_TP_fault from rfl]
  show (if (true && decide (xcat r ≤ 8) && true) = true then some (xm_TP_fault, [Value.ref x0, Value.int x1], r) else none) = some _
  rw [decide_eq_true h]; rfl
theorem xa_TP_council {x0 : Nat} {x1 : Int32} {x2 : Int32} {r : List Value} (h : xcat r ≤ 8) : xArg 51 (Value.int x2 :: Value.int x1 :: Value.ref x0 :: r) = some (xm_TP_council, [Value.ref x0, Value.int x1, Value.int x2], r) := by
  unfold xArg
  rw [show xMs[51]? = some xm_TP_council from rfl]
  show (if (true && decide (xcat r ≤ 8) && true) = true then some (xm_TP_council, [Value.ref x0, Value.int x1, Value.int x2], r) else none) = some _
  rw [decide_eq_true h]; rfl
theorem xa_Co_detail {x0 : Nat} {x1 : Int32} {r : List Value} (h : xcat r ≤ 8) : xArg 52 (Value.int x1 :: Value.ref x0 :: r) = some (xm_Co_detail, [Value.ref x0, Value.int x1], r) := by
  unfold xArg
  rw [show xMs[52]? = some xm_Co_detail from rfl]
  show (if (true && decide (xcat r ≤ 8) && true) = true then some (xm_Co_detail, [Value.ref x0, Value.int x1], r) else none) = some _
  rw [decide_eq_true h]; rfl
theorem xa_Co_has {x0 : Nat} {x1 : Int32} {r : List Value} (h : xcat r ≤ 8) : xArg 53 (Value.int x1 :: Value.ref x0 :: r) = some (xm_Co_has, [Value.ref x0, Value.int x1], r) := by
  unfold xArg
  rw [show xMs[53]? = some xm_Co_has from rfl]
  show (if (true && decide (xcat r ≤ 8) && true) = true then some (xm_Co_has, [Value.ref x0, Value.int x1], r) else none) = some _
  rw [decide_eq_true h]; rfl
theorem xa_TP_deed {x0 : Nat} {x1 : Int32} {x2 : Int32} {x3 : Int32} {r : List Value} (h : xcat r ≤ 8) : xArg 54 (Value.int x3 :: Value.int x2 :: Value.int x1 :: Value.ref x0 :: r) = some (xm_TP_deed, [Value.ref x0, Value.int x1, Value.int x2, Value.int x3], r) := by
  unfold xArg
  rw [show xMs[54]? = some xm_TP_deed from rfl]
  show (if (true && decide (xcat r ≤ 8) && true) = true then some (xm_TP_deed, [Value.ref x0, Value.int x1, Value.int x2, Value.int x3], r) else none) = some _
  rw [decide_eq_true h]; rfl
theorem xa_Ru_tell {x0 : Nat} {x1 : Int32} {x2 : Int32} {r : List Value} (h : xcat r ≤ 8) : xArg 55 (Value.int x2 :: Value.int x1 :: Value.ref x0 :: r) = some (xm_Ru_tell, [Value.ref x0, Value.int x1, Value.int x2], r) := by
  unfold xArg
  rw [show xMs[55]? = some xm_Ru_tell from rfl]
  show (if (true && decide (xcat r ≤ 8) && true) = true then some (xm_Ru_tell, [Value.ref x0, Value.int x1, Value.int x2], r) else none) = some _
  rw [decide_eq_true h]; rfl
theorem xa_TP_stop {x0 : Nat} {x1 : Int32} {x2 : Int32} {r : List Value} (h : xcat r ≤ 8) : xArg 56 (Value.int x2 :: Value.int x1 :: Value.ref x0 :: r) = some (xm_TP_stop, [Value.ref x0, Value.int x1, Value.int x2], r) := by
  unfold xArg
  rw [show xMs[56]? = some xm_TP_stop from rfl]
  show (if (true && decide (xcat r ≤ 8) && true) = true then some (xm_TP_stop, [Value.ref x0, Value.int x1, Value.int x2], r) else none) = some _
  rw [decide_eq_true h]; rfl
theorem xa_As_follow {x0 : Nat} {x1 : Nat} {x2 : Nat} {x3 : Int32} {r : List Value} (h : xcat r ≤ 8) : xArg 57 (Value.int x3 :: Value.ref x2 :: Value.ref x1 :: Value.ref x0 :: r) = some (xm_As_follow, [Value.ref x0, Value.ref x1, Value.ref x2, Value.int x3], r) := by
  unfold xArg
  rw [show xMs[57]? = some xm_As_follow from rfl]
  show (if (true && decide (xcat r ≤ 8) && true) = true then some (xm_As_follow, [Value.ref x0, Value.ref x1, Value.ref x2, Value.int x3], r) else none) = some _
  rw [decide_eq_true h]; rfl
theorem xa_As_begin {x0 : Nat} {x1 : Nat} {r : List Value} (h : xcat r ≤ 8) : xArg 58 (Value.ref x1 :: Value.ref x0 :: r) = some (xm_As_begin, [Value.ref x0, Value.ref x1], r) := by
  unfold xArg
  rw [show xMs[58]? = some xm_As_begin from rfl]
  show (if (true && decide (xcat r ≤ 8) && true) = true then some (xm_As_begin, [Value.ref x0, Value.ref x1], r) else none) = some _
  rw [decide_eq_true h]; rfl
theorem xa_Co_quorumSize {x0 : Nat} {r : List Value} (h : xcat r ≤ 8) : xArg 59 (Value.ref x0 :: r) = some (xm_Co_quorumSize, [Value.ref x0], r) := by
  unfold xArg
  rw [show xMs[59]? = some xm_Co_quorumSize from rfl]
  show (if (true && decide (xcat r ≤ 8) && true) = true then some (xm_Co_quorumSize, [Value.ref x0], r) else none) = some _
  rw [decide_eq_true h]; rfl
theorem xa_Me_begin {x0 : Nat} {x1 : Nat} {r : List Value} (h : xcat r ≤ 8) : xArg 60 (Value.ref x1 :: Value.ref x0 :: r) = some (xm_Me_begin, [Value.ref x0, Value.ref x1], r) := by
  unfold xArg
  rw [show xMs[60]? = some xm_Me_begin from rfl]
  show (if (true && decide (xcat r ≤ 8) && true) = true then some (xm_Me_begin, [Value.ref x0, Value.ref x1], r) else none) = some _
  rw [decide_eq_true h]; rfl
theorem xa_Me_forgetAccepted {x0 : Nat} {x1 : Int32} {r : List Value} (h : xcat r ≤ 8) : xArg 61 (Value.int x1 :: Value.ref x0 :: r) = some (xm_Me_forgetAccepted, [Value.ref x0, Value.int x1], r) := by
  unfold xArg
  rw [show xMs[61]? = some xm_Me_forgetAccepted from rfl]
  show (if (true && decide (xcat r ≤ 8) && true) = true then some (xm_Me_forgetAccepted, [Value.ref x0, Value.int x1], r) else none) = some _
  rw [decide_eq_true h]; rfl
theorem xa_Mg_clear {x0 : Nat} {r : List Value} (h : xcat r ≤ 8) : xArg 62 (Value.ref x0 :: r) = some (xm_Mg_clear, [Value.ref x0], r) := by
  unfold xArg
  rw [show xMs[62]? = some xm_Mg_clear from rfl]
  show (if (true && decide (xcat r ≤ 8) && true) = true then some (xm_Mg_clear, [Value.ref x0], r) else none) = some _
  rw [decide_eq_true h]; rfl
theorem xa_As_act {x0 : Nat} {x1 : Int32} {x2 : Int32} {x3 : Int32} {x4 : Int32} {r : List Value} (h : xcat r ≤ 8) : xArg 63 (Value.int x4 :: Value.int x3 :: Value.int x2 :: Value.int x1 :: Value.ref x0 :: r) = some (xm_As_act, [Value.ref x0, Value.int x1, Value.int x2, Value.int x3, Value.int x4], r) := by
  unfold xArg
  rw [show xMs[63]? = some xm_As_act from rfl]
  show (if (true && decide (xcat r ≤ 8) && true) = true then some (xm_As_act, [Value.ref x0, Value.int x1, Value.int x2, Value.int x3, Value.int x4], r) else none) = some _
  rw [decide_eq_true h]; rfl
theorem xa_As_isSeat {x0 : Nat} {x1 : Int32} {r : List Value} (h : xcat r ≤ 8) : xArg 64 (Value.int x1 :: Value.ref x0 :: r) = some (xm_As_isSeat, [Value.ref x0, Value.int x1], r) := by
  unfold xArg
  rw [show xMs[64]? = some xm_As_isSeat from rfl]
  show (if (true && decide (xcat r ≤ 8) && true) = true then some (xm_As_isSeat, [Value.ref x0, Value.int x1], r) else none) = some _
  rw [decide_eq_true h]; rfl
theorem xa_As_propose {x0 : Nat} {x1 : Int32} {x2 : Int32} {x3 : Int32} {r : List Value} (h : xcat r ≤ 8) : xArg 65 (Value.int x3 :: Value.int x2 :: Value.int x1 :: Value.ref x0 :: r) = some (xm_As_propose, [Value.ref x0, Value.int x1, Value.int x2, Value.int x3], r) := by
  unfold xArg
  rw [show xMs[65]? = some xm_As_propose from rfl]
  show (if (true && decide (xcat r ≤ 8) && true) = true then some (xm_As_propose, [Value.ref x0, Value.int x1, Value.int x2, Value.int x3], r) else none) = some _
  rw [decide_eq_true h]; rfl
theorem xa_As_isHonest {x0 : Nat} {x1 : Int32} {r : List Value} (h : xcat r ≤ 8) : xArg 66 (Value.int x1 :: Value.ref x0 :: r) = some (xm_As_isHonest, [Value.ref x0, Value.int x1], r) := by
  unfold xArg
  rw [show xMs[66]? = some xm_As_isHonest from rfl]
  show (if (true && decide (xcat r ≤ 8) && true) = true then some (xm_As_isHonest, [Value.ref x0, Value.int x1], r) else none) = some _
  rw [decide_eq_true h]; rfl
theorem xa_Me_isWithin {x0 : Nat} {x1 : Int32} {r : List Value} (h : xcat r ≤ 8) : xArg 67 (Value.int x1 :: Value.ref x0 :: r) = some (xm_Me_isWithin, [Value.ref x0, Value.int x1], r) := by
  unfold xArg
  rw [show xMs[67]? = some xm_Me_isWithin from rfl]
  show (if (true && decide (xcat r ≤ 8) && true) = true then some (xm_Me_isWithin, [Value.ref x0, Value.int x1], r) else none) = some _
  rw [decide_eq_true h]; rfl
theorem xa_TP_isPlace {x0 : Int32} {r : List Value} (h : xcat r ≤ 8) : xArg 68 (Value.int x0 :: r) = some (xm_TP_isPlace, [Value.int x0], r) := by
  unfold xArg
  rw [show xMs[68]? = some xm_TP_isPlace from rfl]
  show (if (true && decide (xcat r ≤ 8) && true) = true then some (xm_TP_isPlace, [Value.int x0], r) else none) = some _
  rw [decide_eq_true h]; rfl
theorem xa_Me_hasAccepted {x0 : Nat} {x1 : Int32} {r : List Value} (h : xcat r ≤ 8) : xArg 69 (Value.int x1 :: Value.ref x0 :: r) = some (xm_Me_hasAccepted, [Value.ref x0, Value.int x1], r) := by
  unfold xArg
  rw [show xMs[69]? = some xm_Me_hasAccepted from rfl]
  show (if (true && decide (xcat r ≤ 8) && true) = true then some (xm_Me_hasAccepted, [Value.ref x0, Value.int x1], r) else none) = some _
  rw [decide_eq_true h]; rfl
theorem xa_As_primaryOf {x0 : Nat} {x1 : Int32} {r : List Value} (h : xcat r ≤ 8) : xArg 70 (Value.int x1 :: Value.ref x0 :: r) = some (xm_As_primaryOf, [Value.ref x0, Value.int x1], r) := by
  unfold xArg
  rw [show xMs[70]? = some xm_As_primaryOf from rfl]
  show (if (true && decide (xcat r ≤ 8) && true) = true then some (xm_As_primaryOf, [Value.ref x0, Value.int x1], r) else none) = some _
  rw [decide_eq_true h]; rfl
theorem xa_Me_accept {x0 : Nat} {x1 : Int32} {x2 : Int32} {r : List Value} (h : xcat r ≤ 8) : xArg 71 (Value.int x2 :: Value.int x1 :: Value.ref x0 :: r) = some (xm_Me_accept, [Value.ref x0, Value.int x1, Value.int x2], r) := by
  unfold xArg
  rw [show xMs[71]? = some xm_Me_accept from rfl]
  show (if (true && decide (xcat r ≤ 8) && true) = true then some (xm_Me_accept, [Value.ref x0, Value.int x1, Value.int x2], r) else none) = some _
  rw [decide_eq_true h]; rfl
theorem xa_Me_addPrepares {x0 : Nat} {x1 : Int32} {x2 : Int32} {x3 : Int32} {r : List Value} (h : xcat r ≤ 8) : xArg 72 (Value.int x3 :: Value.int x2 :: Value.int x1 :: Value.ref x0 :: r) = some (xm_Me_addPrepares, [Value.ref x0, Value.int x1, Value.int x2, Value.int x3], r) := by
  unfold xArg
  rw [show xMs[72]? = some xm_Me_addPrepares from rfl]
  show (if (true && decide (xcat r ≤ 8) && true) = true then some (xm_Me_addPrepares, [Value.ref x0, Value.int x1, Value.int x2, Value.int x3], r) else none) = some _
  rw [decide_eq_true h]; rfl
theorem xa_ji_bitCount {x0 : Int32} {r : List Value} (h : xcat r ≤ 8) : xArg 73 (Value.int x0 :: r) = some (xm_ji_bitCount, [Value.int x0], r) := by
  unfold xArg
  rw [show xMs[73]? = some xm_ji_bitCount from rfl]
  show (if (true && decide (xcat r ≤ 8) && true) = true then some (xm_ji_bitCount, [Value.int x0], r) else none) = some _
  rw [decide_eq_true h]; rfl
theorem xa_As_runOn {x0 : Nat} {x1 : Int32} {r : List Value} (h : xcat r ≤ 8) : xArg 74 (Value.int x1 :: Value.ref x0 :: r) = some (xm_As_runOn, [Value.ref x0, Value.int x1], r) := by
  unfold xArg
  rw [show xMs[74]? = some xm_As_runOn from rfl]
  show (if (true && decide (xcat r ≤ 8) && true) = true then some (xm_As_runOn, [Value.ref x0, Value.int x1], r) else none) = some _
  rw [decide_eq_true h]; rfl
theorem xa_Me_isCommitted {x0 : Nat} {x1 : Int32} {r : List Value} (h : xcat r ≤ 8) : xArg 75 (Value.int x1 :: Value.ref x0 :: r) = some (xm_Me_isCommitted, [Value.ref x0, Value.int x1], r) := by
  unfold xArg
  rw [show xMs[75]? = some xm_Me_isCommitted from rfl]
  show (if (true && decide (xcat r ≤ 8) && true) = true then some (xm_Me_isCommitted, [Value.ref x0, Value.int x1], r) else none) = some _
  rw [decide_eq_true h]; rfl
theorem xa_Me_isPrepared {x0 : Nat} {x1 : Int32} {r : List Value} (h : xcat r ≤ 8) : xArg 76 (Value.int x1 :: Value.ref x0 :: r) = some (xm_Me_isPrepared, [Value.ref x0, Value.int x1], r) := by
  unfold xArg
  rw [show xMs[76]? = some xm_Me_isPrepared from rfl]
  show (if (true && decide (xcat r ≤ 8) && true) = true then some (xm_Me_isPrepared, [Value.ref x0, Value.int x1], r) else none) = some _
  rw [decide_eq_true h]; rfl
theorem xa_Co_runOrder {x0 : Nat} {x1 : Int32} {x2 : Nat} {r : List Value} (h : xcat r ≤ 8) : xArg 77 (Value.ref x2 :: Value.int x1 :: Value.ref x0 :: r) = some (xm_Co_runOrder, [Value.ref x0, Value.int x1, Value.ref x2], r) := by
  unfold xArg
  rw [show xMs[77]? = some xm_Co_runOrder from rfl]
  show (if (true && decide (xcat r ≤ 8) && true) = true then some (xm_Co_runOrder, [Value.ref x0, Value.int x1, Value.ref x2], r) else none) = some _
  rw [decide_eq_true h]; rfl
theorem xa_As_checkpoint {x0 : Nat} {x1 : Int32} {r : List Value} (h : xcat r ≤ 8) : xArg 78 (Value.int x1 :: Value.ref x0 :: r) = some (xm_As_checkpoint, [Value.ref x0, Value.int x1], r) := by
  unfold xArg
  rw [show xMs[78]? = some xm_As_checkpoint from rfl]
  show (if (true && decide (xcat r ≤ 8) && true) = true then some (xm_As_checkpoint, [Value.ref x0, Value.int x1], r) else none) = some _
  rw [decide_eq_true h]; rfl
theorem xa_Su_rootOf {x0 : Nat} {x1 : Nat} {r : List Value} (h : xcat r ≤ 8) : xArg 79 (Value.ref x1 :: Value.ref x0 :: r) = some (xm_Su_rootOf, [Value.ref x0, Value.ref x1], r) := by
  unfold xArg
  rw [show xMs[79]? = some xm_Su_rootOf from rfl]
  show (if (true && decide (xcat r ≤ 8) && true) = true then some (xm_Su_rootOf, [Value.ref x0, Value.ref x1], r) else none) = some _
  rw [decide_eq_true h]; rfl
theorem xa_Su_build {x0 : Nat} {x1 : Nat} {r : List Value} (h : xcat r ≤ 8) : xArg 80 (Value.ref x1 :: Value.ref x0 :: r) = some (xm_Su_build, [Value.ref x0, Value.ref x1], r) := by
  unfold xArg
  rw [show xMs[80]? = some xm_Su_build from rfl]
  show (if (true && decide (xcat r ≤ 8) && true) = true then some (xm_Su_build, [Value.ref x0, Value.ref x1], r) else none) = some _
  rw [decide_eq_true h]; rfl
theorem xa_Me_countVotes {x0 : Nat} {r : List Value} (h : xcat r ≤ 8) : xArg 81 (Value.ref x0 :: r) = some (xm_Me_countVotes, [Value.ref x0], r) := by
  unfold xArg
  rw [show xMs[81]? = some xm_Me_countVotes from rfl]
  show (if (true && decide (xcat r ≤ 8) && true) = true then some (xm_Me_countVotes, [Value.ref x0], r) else none) = some _
  rw [decide_eq_true h]; rfl
theorem xa_Me_forgetProofs {x0 : Nat} {x1 : Int32} {r : List Value} (h : xcat r ≤ 8) : xArg 82 (Value.int x1 :: Value.ref x0 :: r) = some (xm_Me_forgetProofs, [Value.ref x0, Value.int x1], r) := by
  unfold xArg
  rw [show xMs[82]? = some xm_Me_forgetProofs from rfl]
  show (if (true && decide (xcat r ≤ 8) && true) = true then some (xm_Me_forgetProofs, [Value.ref x0, Value.int x1], r) else none) = some _
  rw [decide_eq_true h]; rfl
theorem xa_As_doubt {x0 : Nat} {x1 : Nat} {r : List Value} (h : xcat r ≤ 8) : xArg 83 (Value.ref x1 :: Value.ref x0 :: r) = some (xm_As_doubt, [Value.ref x0, Value.ref x1], r) := by
  unfold xArg
  rw [show xMs[83]? = some xm_As_doubt from rfl]
  show (if (true && decide (xcat r ≤ 8) && true) = true then some (xm_As_doubt, [Value.ref x0, Value.ref x1], r) else none) = some _
  rw [decide_eq_true h]; rfl
theorem xa_As_makeView {x0 : Nat} {x1 : Int32} {r : List Value} (h : xcat r ≤ 8) : xArg 84 (Value.int x1 :: Value.ref x0 :: r) = some (xm_As_makeView, [Value.ref x0, Value.int x1], r) := by
  unfold xArg
  rw [show xMs[84]? = some xm_As_makeView from rfl]
  show (if (true && decide (xcat r ≤ 8) && true) = true then some (xm_As_makeView, [Value.ref x0, Value.int x1], r) else none) = some _
  rw [decide_eq_true h]; rfl
theorem xa_As_merge {x0 : Nat} {x1 : Int32} {x2 : Nat} {r : List Value} (h : xcat r ≤ 8) : xArg 85 (Value.ref x2 :: Value.int x1 :: Value.ref x0 :: r) = some (xm_As_merge, [Value.ref x0, Value.int x1, Value.ref x2], r) := by
  unfold xArg
  rw [show xMs[85]? = some xm_As_merge from rfl]
  show (if (true && decide (xcat r ≤ 8) && true) = true then some (xm_As_merge, [Value.ref x0, Value.int x1, Value.ref x2], r) else none) = some _
  rw [decide_eq_true h]; rfl
theorem xa_TP_hasBit {x0 : Int32} {x1 : Int32} {r : List Value} (h : xcat r ≤ 8) : xArg 86 (Value.int x1 :: Value.int x0 :: r) = some (xm_TP_hasBit, [Value.int x0, Value.int x1], r) := by
  unfold xArg
  rw [show xMs[86]? = some xm_TP_hasBit from rfl]
  show (if (true && decide (xcat r ≤ 8) && true) = true then some (xm_TP_hasBit, [Value.int x0, Value.int x1], r) else none) = some _
  rw [decide_eq_true h]; rfl
theorem xa_Mg_add {x0 : Nat} {x1 : Nat} {r : List Value} (h : xcat r ≤ 8) : xArg 87 (Value.ref x1 :: Value.ref x0 :: r) = some (xm_Mg_add, [Value.ref x0, Value.ref x1], r) := by
  unfold xArg
  rw [show xMs[87]? = some xm_Mg_add from rfl]
  show (if (true && decide (xcat r ≤ 8) && true) = true then some (xm_Mg_add, [Value.ref x0, Value.ref x1], r) else none) = some _
  rw [decide_eq_true h]; rfl
theorem xa_As_enter {x0 : Nat} {x1 : Int32} {r : List Value} (h : xcat r ≤ 8) : xArg 88 (Value.int x1 :: Value.ref x0 :: r) = some (xm_As_enter, [Value.ref x0, Value.int x1], r) := by
  unfold xArg
  rw [show xMs[88]? = some xm_As_enter from rfl]
  show (if (true && decide (xcat r ≤ 8) && true) = true then some (xm_As_enter, [Value.ref x0, Value.int x1], r) else none) = some _
  rw [decide_eq_true h]; rfl
theorem xa_As_enterMade {x0 : Nat} {x1 : Int32} {r : List Value} (h : xcat r ≤ 8) : xArg 89 (Value.int x1 :: Value.ref x0 :: r) = some (xm_As_enterMade, [Value.ref x0, Value.int x1], r) := by
  unfold xArg
  rw [show xMs[89]? = some xm_As_enterMade from rfl]
  show (if (true && decide (xcat r ≤ 8) && true) = true then some (xm_As_enterMade, [Value.ref x0, Value.int x1], r) else none) = some _
  rw [decide_eq_true h]; rfl
theorem xa_As_prepare {x0 : Nat} {x1 : Int32} {x2 : Int32} {x3 : Int32} {r : List Value} (h : xcat r ≤ 8) : xArg 90 (Value.int x3 :: Value.int x2 :: Value.int x1 :: Value.ref x0 :: r) = some (xm_As_prepare, [Value.ref x0, Value.int x1, Value.int x2, Value.int x3], r) := by
  unfold xArg
  rw [show xMs[90]? = some xm_As_prepare from rfl]
  show (if (true && decide (xcat r ≤ 8) && true) = true then some (xm_As_prepare, [Value.ref x0, Value.int x1, Value.int x2, Value.int x3], r) else none) = some _
  rw [decide_eq_true h]; rfl
theorem xa_Me_sharesAt {x0 : Nat} {x1 : Nat} {x2 : Int32} {r : List Value} (h : xcat r ≤ 8) : xArg 91 (Value.int x2 :: Value.ref x1 :: Value.ref x0 :: r) = some (xm_Me_sharesAt, [Value.ref x0, Value.ref x1, Value.int x2], r) := by
  unfold xArg
  rw [show xMs[91]? = some xm_Me_sharesAt from rfl]
  show (if (true && decide (xcat r ≤ 8) && true) = true then some (xm_Me_sharesAt, [Value.ref x0, Value.ref x1, Value.int x2], r) else none) = some _
  rw [decide_eq_true h]; rfl
theorem xa_As_commit {x0 : Nat} {x1 : Int32} {x2 : Int32} {x3 : Int32} {r : List Value} (h : xcat r ≤ 8) : xArg 92 (Value.int x3 :: Value.int x2 :: Value.int x1 :: Value.ref x0 :: r) = some (xm_As_commit, [Value.ref x0, Value.int x1, Value.int x2, Value.int x3], r) := by
  unfold xArg
  rw [show xMs[92]? = some xm_As_commit from rfl]
  show (if (true && decide (xcat r ≤ 8) && true) = true then some (xm_As_commit, [Value.ref x0, Value.int x1, Value.int x2, Value.int x3], r) else none) = some _
  rw [decide_eq_true h]; rfl
theorem xa_As_mark {x0 : Nat} {x1 : Int32} {x2 : Int32} {r : List Value} (h : xcat r ≤ 8) : xArg 93 (Value.int x2 :: Value.int x1 :: Value.ref x0 :: r) = some (xm_As_mark, [Value.ref x0, Value.int x1, Value.int x2], r) := by
  unfold xArg
  rw [show xMs[93]? = some xm_As_mark from rfl]
  show (if (true && decide (xcat r ≤ 8) && true) = true then some (xm_As_mark, [Value.ref x0, Value.int x1, Value.int x2], r) else none) = some _
  rw [decide_eq_true h]; rfl
theorem xa_As_fetch {x0 : Nat} {x1 : Int32} {x2 : Int32} {r : List Value} (h : xcat r ≤ 8) : xArg 94 (Value.int x2 :: Value.int x1 :: Value.ref x0 :: r) = some (xm_As_fetch, [Value.ref x0, Value.int x1, Value.int x2], r) := by
  unfold xArg
  rw [show xMs[94]? = some xm_As_fetch from rfl]
  show (if (true && decide (xcat r ≤ 8) && true) = true then some (xm_As_fetch, [Value.ref x0, Value.int x1, Value.int x2], r) else none) = some _
  rw [decide_eq_true h]; rfl
theorem xa_Su_fetch {x0 : Nat} {x1 : Nat} {x2 : Nat} {r : List Value} (h : xcat r ≤ 8) : xArg 95 (Value.ref x2 :: Value.ref x1 :: Value.ref x0 :: r) = some (xm_Su_fetch, [Value.ref x0, Value.ref x1, Value.ref x2], r) := by
  unfold xArg
  rw [show xMs[95]? = some xm_Su_fetch from rfl]
  show (if (true && decide (xcat r ≤ 8) && true) = true then some (xm_Su_fetch, [Value.ref x0, Value.ref x1, Value.ref x2], r) else none) = some _
  rw [decide_eq_true h]; rfl
theorem xa_TP_state {x0 : Nat} {x1 : Int32} {x2 : Int32} {x3 : Int32} {x4 : Int32} {x5 : Int32} {r : List Value} (h : xcat r ≤ 8) : xArg 96 (Value.int x5 :: Value.int x4 :: Value.int x3 :: Value.int x2 :: Value.int x1 :: Value.ref x0 :: r) = some (xm_TP_state, [Value.ref x0, Value.int x1, Value.int x2, Value.int x3, Value.int x4, Value.int x5], r) := by
  unfold xArg
  rw [show xMs[96]? = some xm_TP_state from rfl]
  show (if (true && decide (xcat r ≤ 8) && true) = true then some (xm_TP_state, [Value.ref x0, Value.int x1, Value.int x2, Value.int x3, Value.int x4, Value.int x5], r) else none) = some _
  rw [decide_eq_true h]; rfl
theorem xa_TP_reaches {x0 : Nat} {x1 : Int32} {x2 : Int32} {x3 : Int32} {r : List Value} (h : xcat r ≤ 8) : xArg 97 (Value.int x3 :: Value.int x2 :: Value.int x1 :: Value.ref x0 :: r) = some (xm_TP_reaches, [Value.ref x0, Value.int x1, Value.int x2, Value.int x3], r) := by
  unfold xArg
  rw [show xMs[97]? = some xm_TP_reaches from rfl]
  show (if (true && decide (xcat r ≤ 8) && true) = true then some (xm_TP_reaches, [Value.ref x0, Value.int x1, Value.int x2, Value.int x3], r) else none) = some _
  rw [decide_eq_true h]; rfl
theorem xa_As_tell {x0 : Nat} {x1 : Int32} {x2 : Int32} {r : List Value} (h : xcat r ≤ 8) : xArg 98 (Value.int x2 :: Value.int x1 :: Value.ref x0 :: r) = some (xm_As_tell, [Value.ref x0, Value.int x1, Value.int x2], r) := by
  unfold xArg
  rw [show xMs[98]? = some xm_As_tell from rfl]
  show (if (true && decide (xcat r ≤ 8) && true) = true then some (xm_As_tell, [Value.ref x0, Value.int x1, Value.int x2], r) else none) = some _
  rw [decide_eq_true h]; rfl
theorem xa_Me_tell {x0 : Nat} {x1 : Int32} {r : List Value} (h : xcat r ≤ 8) : xArg 99 (Value.int x1 :: Value.ref x0 :: r) = some (xm_Me_tell, [Value.ref x0, Value.int x1], r) := by
  unfold xArg
  rw [show xMs[99]? = some xm_Me_tell from rfl]
  show (if (true && decide (xcat r ≤ 8) && true) = true then some (xm_Me_tell, [Value.ref x0, Value.int x1], r) else none) = some _
  rw [decide_eq_true h]; rfl
theorem xa_Me_tellPlace {x0 : Nat} {x1 : Int32} {x2 : Int32} {r : List Value} (h : xcat r ≤ 8) : xArg 100 (Value.int x2 :: Value.int x1 :: Value.ref x0 :: r) = some (xm_Me_tellPlace, [Value.ref x0, Value.int x1, Value.int x2], r) := by
  unfold xArg
  rw [show xMs[100]? = some xm_Me_tellPlace from rfl]
  show (if (true && decide (xcat r ≤ 8) && true) = true then some (xm_Me_tellPlace, [Value.ref x0, Value.int x1, Value.int x2], r) else none) = some _
  rw [decide_eq_true h]; rfl
theorem xa_TP_made {x0 : Nat} {x1 : Int32} {x2 : Int32} {x3 : Int32} {x4 : Int32} {x5 : Int32} {r : List Value} (h : xcat r ≤ 8) : xArg 101 (Value.int x5 :: Value.int x4 :: Value.int x3 :: Value.int x2 :: Value.int x1 :: Value.ref x0 :: r) = some (xm_TP_made, [Value.ref x0, Value.int x1, Value.int x2, Value.int x3, Value.int x4, Value.int x5], r) := by
  unfold xArg
  rw [show xMs[101]? = some xm_TP_made from rfl]
  show (if (true && decide (xcat r ≤ 8) && true) = true then some (xm_TP_made, [Value.ref x0, Value.int x1, Value.int x2, Value.int x3, Value.int x4, Value.int x5], r) else none) = some _
  rw [decide_eq_true h]; rfl
theorem xa_Mg_isPlaceOf {x0 : Int32} {r : List Value} (h : xcat r ≤ 8) : xArg 102 (Value.int x0 :: r) = some (xm_Mg_isPlaceOf, [Value.int x0], r) := by
  unfold xArg
  rw [show xMs[102]? = some xm_Mg_isPlaceOf from rfl]
  show (if (true && decide (xcat r ≤ 8) && true) = true then some (xm_Mg_isPlaceOf, [Value.int x0], r) else none) = some _
  rw [decide_eq_true h]; rfl
theorem xa_Mg_tell {x0 : Nat} {x1 : Int32} {r : List Value} (h : xcat r ≤ 8) : xArg 103 (Value.int x1 :: Value.ref x0 :: r) = some (xm_Mg_tell, [Value.ref x0, Value.int x1], r) := by
  unfold xArg
  rw [show xMs[103]? = some xm_Mg_tell from rfl]
  show (if (true && decide (xcat r ≤ 8) && true) = true then some (xm_Mg_tell, [Value.ref x0, Value.int x1], r) else none) = some _
  rw [decide_eq_true h]; rfl
theorem xa_Mg_orderAt {x0 : Nat} {x1 : Int32} {r : List Value} (h : xcat r ≤ 8) : xArg 104 (Value.int x1 :: Value.ref x0 :: r) = some (xm_Mg_orderAt, [Value.ref x0, Value.int x1], r) := by
  unfold xArg
  rw [show xMs[104]? = some xm_Mg_orderAt from rfl]
  show (if (true && decide (xcat r ≤ 8) && true) = true then some (xm_Mg_orderAt, [Value.ref x0, Value.int x1], r) else none) = some _
  rw [decide_eq_true h]; rfl
theorem xa_TP_unlike {x0 : Nat} {x1 : Int32} {x2 : Int32} {x3 : Int32} {r : List Value} (h : xcat r ≤ 8) : xArg 105 (Value.int x3 :: Value.int x2 :: Value.int x1 :: Value.ref x0 :: r) = some (xm_TP_unlike, [Value.ref x0, Value.int x1, Value.int x2, Value.int x3], r) := by
  unfold xArg
  rw [show xMs[105]? = some xm_TP_unlike from rfl]
  show (if (true && decide (xcat r ≤ 8) && true) = true then some (xm_TP_unlike, [Value.ref x0, Value.int x1, Value.int x2, Value.int x3], r) else none) = some _
  rw [decide_eq_true h]; rfl
theorem xa_As_unlikePlaces {x0 : Nat} {r : List Value} (h : xcat r ≤ 8) : xArg 106 (Value.ref x0 :: r) = some (xm_As_unlikePlaces, [Value.ref x0], r) := by
  unfold xArg
  rw [show xMs[106]? = some xm_As_unlikePlaces from rfl]
  show (if (true && decide (xcat r ≤ 8) && true) = true then some (xm_As_unlikePlaces, [Value.ref x0], r) else none) = some _
  rw [decide_eq_true h]; rfl
theorem xa_As_runners {x0 : Nat} {x1 : Int32} {x2 : Int32} {r : List Value} (h : xcat r ≤ 8) : xArg 107 (Value.int x2 :: Value.int x1 :: Value.ref x0 :: r) = some (xm_As_runners, [Value.ref x0, Value.int x1, Value.int x2], r) := by
  unfold xArg
  rw [show xMs[107]? = some xm_As_runners from rfl]
  show (if (true && decide (xcat r ≤ 8) && true) = true then some (xm_As_runners, [Value.ref x0, Value.int x1, Value.int x2], r) else none) = some _
  rw [decide_eq_true h]; rfl
theorem xa_As_alikePlaces {x0 : Nat} {r : List Value} (h : xcat r ≤ 8) : xArg 108 (Value.ref x0 :: r) = some (xm_As_alikePlaces, [Value.ref x0], r) := by
  unfold xArg
  rw [show xMs[108]? = some xm_As_alikePlaces from rfl]
  show (if (true && decide (xcat r ≤ 8) && true) = true then some (xm_As_alikePlaces, [Value.ref x0], r) else none) = some _
  rw [decide_eq_true h]; rfl
theorem xa_As_greatestRan {x0 : Nat} {r : List Value} (h : xcat r ≤ 8) : xArg 109 (Value.ref x0 :: r) = some (xm_As_greatestRan, [Value.ref x0], r) := by
  unfold xArg
  rw [show xMs[109]? = some xm_As_greatestRan from rfl]
  show (if (true && decide (xcat r ≤ 8) && true) = true then some (xm_As_greatestRan, [Value.ref x0], r) else none) = some _
  rw [decide_eq_true h]; rfl
theorem xa_As_leastRan {x0 : Nat} {r : List Value} (h : xcat r ≤ 8) : xArg 110 (Value.ref x0 :: r) = some (xm_As_leastRan, [Value.ref x0], r) := by
  unfold xArg
  rw [show xMs[110]? = some xm_As_leastRan from rfl]
  show (if (true && decide (xcat r ≤ 8) && true) = true then some (xm_As_leastRan, [Value.ref x0], r) else none) = some _
  rw [decide_eq_true h]; rfl
theorem xa_TP_quorum {x0 : Nat} {x1 : Int32} {x2 : Int32} {r : List Value} (h : xcat r ≤ 8) : xArg 111 (Value.int x2 :: Value.int x1 :: Value.ref x0 :: r) = some (xm_TP_quorum, [Value.ref x0, Value.int x1, Value.int x2], r) := by
  unfold xArg
  rw [show xMs[111]? = some xm_TP_quorum from rfl]
  show (if (true && decide (xcat r ≤ 8) && true) = true then some (xm_TP_quorum, [Value.ref x0, Value.int x1, Value.int x2], r) else none) = some _
  rw [decide_eq_true h]; rfl
theorem xa_Co_quorums {x0 : Nat} {r : List Value} (h : xcat r ≤ 8) : xArg 112 (Value.ref x0 :: r) = some (xm_Co_quorums, [Value.ref x0], r) := by
  unfold xArg
  rw [show xMs[112]? = some xm_Co_quorums from rfl]
  show (if (true && decide (xcat r ≤ 8) && true) = true then some (xm_Co_quorums, [Value.ref x0], r) else none) = some _
  rw [decide_eq_true h]; rfl
theorem xa_Co_isQuorumSet {x0 : Nat} {x1 : Int32} {r : List Value} (h : xcat r ≤ 8) : xArg 113 (Value.int x1 :: Value.ref x0 :: r) = some (xm_Co_isQuorumSet, [Value.ref x0, Value.int x1], r) := by
  unfold xArg
  rw [show xMs[113]? = some xm_Co_isQuorumSet from rfl]
  show (if (true && decide (xcat r ≤ 8) && true) = true then some (xm_Co_isQuorumSet, [Value.ref x0, Value.int x1], r) else none) = some _
  rw [decide_eq_true h]; rfl
theorem xa_Co_clashes {x0 : Nat} {r : List Value} (h : xcat r ≤ 8) : xArg 114 (Value.ref x0 :: r) = some (xm_Co_clashes, [Value.ref x0], r) := by
  unfold xArg
  rw [show xMs[114]? = some xm_Co_clashes from rfl]
  show (if (true && decide (xcat r ≤ 8) && true) = true then some (xm_Co_clashes, [Value.ref x0], r) else none) = some _
  rw [decide_eq_true h]; rfl
theorem xa_TP_tree {x0 : Nat} {x1 : Int32} {x2 : Int32} {r : List Value} (h : xcat r ≤ 8) : xArg 115 (Value.int x2 :: Value.int x1 :: Value.ref x0 :: r) = some (xm_TP_tree, [Value.ref x0, Value.int x1, Value.int x2], r) := by
  unfold xArg
  rw [show xMs[115]? = some xm_TP_tree from rfl]
  show (if (true && decide (xcat r ≤ 8) && true) = true then some (xm_TP_tree, [Value.ref x0, Value.int x1, Value.int x2], r) else none) = some _
  rw [decide_eq_true h]; rfl
theorem xa_TP_differ {x0 : Nat} {x1 : Int32} {x2 : Int32} {x3 : Int32} {r : List Value} (h : xcat r ≤ 8) : xArg 116 (Value.int x3 :: Value.int x2 :: Value.int x1 :: Value.ref x0 :: r) = some (xm_TP_differ, [Value.ref x0, Value.int x1, Value.int x2, Value.int x3], r) := by
  unfold xArg
  rw [show xMs[116]? = some xm_TP_differ from rfl]
  show (if (true && decide (xcat r ≤ 8) && true) = true then some (xm_TP_differ, [Value.ref x0, Value.int x1, Value.int x2, Value.int x3], r) else none) = some _
  rw [decide_eq_true h]; rfl
theorem xa_TP_sameAccounts {x0 : Nat} {x1 : Nat} {r : List Value} (h : xcat r ≤ 8) : xArg 117 (Value.ref x1 :: Value.ref x0 :: r) = some (xm_TP_sameAccounts, [Value.ref x0, Value.ref x1], r) := by
  unfold xArg
  rw [show xMs[117]? = some xm_TP_sameAccounts from rfl]
  show (if (true && decide (xcat r ≤ 8) && true) = true then some (xm_TP_sameAccounts, [Value.ref x0, Value.ref x1], r) else none) = some _
  rw [decide_eq_true h]; rfl
theorem xa_TP_play {x0 : Nat} {x1 : Int32} {x2 : Int32} {x3 : Int32} {x4 : Int32} {r : List Value} (h : xcat r ≤ 8) : xArg 118 (Value.int x4 :: Value.int x3 :: Value.int x2 :: Value.int x1 :: Value.ref x0 :: r) = some (xm_TP_play, [Value.ref x0, Value.int x1, Value.int x2, Value.int x3, Value.int x4], r) := by
  unfold xArg
  rw [show xMs[118]? = some xm_TP_play from rfl]
  show (if (true && decide (xcat r ≤ 8) && true) = true then some (xm_TP_play, [Value.ref x0, Value.int x1, Value.int x2, Value.int x3, Value.int x4], r) else none) = some _
  rw [decide_eq_true h]; rfl
theorem xa_Tt_plan {x0 : Nat} {x1 : Nat} {x2 : Int32} {x3 : Int32} {r : List Value} (h : xcat r ≤ 8) : xArg 119 (Value.int x3 :: Value.int x2 :: Value.ref x1 :: Value.ref x0 :: r) = some (xm_Tt_plan, [Value.ref x0, Value.ref x1, Value.int x2, Value.int x3], r) := by
  unfold xArg
  rw [show xMs[119]? = some xm_Tt_plan from rfl]
  show (if (true && decide (xcat r ≤ 8) && true) = true then some (xm_Tt_plan, [Value.ref x0, Value.ref x1, Value.int x2, Value.int x3], r) else none) = some _
  rw [decide_eq_true h]; rfl
theorem xa_Co_isHonest {x0 : Nat} {x1 : Int32} {r : List Value} (h : xcat r ≤ 8) : xArg 120 (Value.int x1 :: Value.ref x0 :: r) = some (xm_Co_isHonest, [Value.ref x0, Value.int x1], r) := by
  unfold xArg
  rw [show xMs[120]? = some xm_Co_isHonest from rfl]
  show (if (true && decide (xcat r ≤ 8) && true) = true then some (xm_Co_isHonest, [Value.ref x0, Value.int x1], r) else none) = some _
  rw [decide_eq_true h]; rfl
theorem xa_Tt_acceptAll {x0 : Nat} {x1 : Int32} {r : List Value} (h : xcat r ≤ 8) : xArg 121 (Value.int x1 :: Value.ref x0 :: r) = some (xm_Tt_acceptAll, [Value.ref x0, Value.int x1], r) := by
  unfold xArg
  rw [show xMs[121]? = some xm_Tt_acceptAll from rfl]
  show (if (true && decide (xcat r ≤ 8) && true) = true then some (xm_Tt_acceptAll, [Value.ref x0, Value.int x1], r) else none) = some _
  rw [decide_eq_true h]; rfl
theorem xa_Tt_lowAt {x0 : Nat} {x1 : Int32} {x2 : Int32} {r : List Value} (h : xcat r ≤ 8) : xArg 122 (Value.int x2 :: Value.int x1 :: Value.ref x0 :: r) = some (xm_Tt_lowAt, [Value.ref x0, Value.int x1, Value.int x2], r) := by
  unfold xArg
  rw [show xMs[122]? = some xm_Tt_lowAt from rfl]
  show (if (true && decide (xcat r ≤ 8) && true) = true then some (xm_Tt_lowAt, [Value.ref x0, Value.int x1, Value.int x2], r) else none) = some _
  rw [decide_eq_true h]; rfl
theorem xa_Tt_bounded {x0 : Int32} {r : List Value} (h : xcat r ≤ 8) : xArg 123 (Value.int x0 :: r) = some (xm_Tt_bounded, [Value.int x0], r) := by
  unfold xArg
  rw [show xMs[123]? = some xm_Tt_bounded from rfl]
  show (if (true && decide (xcat r ≤ 8) && true) = true then some (xm_Tt_bounded, [Value.int x0], r) else none) = some _
  rw [decide_eq_true h]; rfl
theorem xa_Tt_prepareAll {x0 : Nat} {x1 : Int32} {r : List Value} (h : xcat r ≤ 8) : xArg 124 (Value.int x1 :: Value.ref x0 :: r) = some (xm_Tt_prepareAll, [Value.ref x0, Value.int x1], r) := by
  unfold xArg
  rw [show xMs[124]? = some xm_Tt_prepareAll from rfl]
  show (if (true && decide (xcat r ≤ 8) && true) = true then some (xm_Tt_prepareAll, [Value.ref x0, Value.int x1], r) else none) = some _
  rw [decide_eq_true h]; rfl
theorem xa_Tt_fillRow {x0 : Nat} {x1 : Nat} {x2 : Int32} {x3 : Int32} {r : List Value} (h : xcat r ≤ 8) : xArg 125 (Value.int x3 :: Value.int x2 :: Value.ref x1 :: Value.ref x0 :: r) = some (xm_Tt_fillRow, [Value.ref x0, Value.ref x1, Value.int x2, Value.int x3], r) := by
  unfold xArg
  rw [show xMs[125]? = some xm_Tt_fillRow from rfl]
  show (if (true && decide (xcat r ≤ 8) && true) = true then some (xm_Tt_fillRow, [Value.ref x0, Value.ref x1, Value.int x2, Value.int x3], r) else none) = some _
  rw [decide_eq_true h]; rfl
theorem xa_Tt_quorumth {x0 : Nat} {r : List Value} (h : xcat r ≤ 8) : xArg 126 (Value.ref x0 :: r) = some (xm_Tt_quorumth, [Value.ref x0], r) := by
  unfold xArg
  rw [show xMs[126]? = some xm_Tt_quorumth from rfl]
  show (if (true && decide (xcat r ≤ 8) && true) = true then some (xm_Tt_quorumth, [Value.ref x0], r) else none) = some _
  rw [decide_eq_true h]; rfl
theorem xa_Tt_least {x0 : Nat} {x1 : Int32} {r : List Value} (h : xcat r ≤ 8) : xArg 127 (Value.int x1 :: Value.ref x0 :: r) = some (xm_Tt_least, [Value.ref x0, Value.int x1], r) := by
  unfold xArg
  rw [show xMs[127]? = some xm_Tt_least from rfl]
  show (if (true && decide (xcat r ≤ 8) && true) = true then some (xm_Tt_least, [Value.ref x0, Value.int x1], r) else none) = some _
  rw [decide_eq_true h]; rfl
theorem xa_Tt_runAll {x0 : Nat} {x1 : Int32} {r : List Value} (h : xcat r ≤ 8) : xArg 128 (Value.int x1 :: Value.ref x0 :: r) = some (xm_Tt_runAll, [Value.ref x0, Value.int x1], r) := by
  unfold xArg
  rw [show xMs[128]? = some xm_Tt_runAll from rfl]
  show (if (true && decide (xcat r ≤ 8) && true) = true then some (xm_Tt_runAll, [Value.ref x0, Value.int x1], r) else none) = some _
  rw [decide_eq_true h]; rfl
theorem xa_Tt_cutAll {x0 : Nat} {x1 : Int32} {r : List Value} (h : xcat r ≤ 8) : xArg 129 (Value.int x1 :: Value.ref x0 :: r) = some (xm_Tt_cutAll, [Value.ref x0, Value.int x1], r) := by
  unfold xArg
  rw [show xMs[129]? = some xm_Tt_cutAll from rfl]
  show (if (true && decide (xcat r ≤ 8) && true) = true then some (xm_Tt_cutAll, [Value.ref x0, Value.int x1], r) else none) = some _
  rw [decide_eq_true h]; rfl
theorem xa_Tt_isCheckpoint {x0 : Nat} {x1 : Int32} {r : List Value} (h : xcat r ≤ 8) : xArg 130 (Value.int x1 :: Value.ref x0 :: r) = some (xm_Tt_isCheckpoint, [Value.ref x0, Value.int x1], r) := by
  unfold xArg
  rw [show xMs[130]? = some xm_Tt_isCheckpoint from rfl]
  show (if (true && decide (xcat r ≤ 8) && true) = true then some (xm_Tt_isCheckpoint, [Value.ref x0, Value.int x1], r) else none) = some _
  rw [decide_eq_true h]; rfl
theorem xa_Tt_sendAll {x0 : Nat} {x1 : Int32} {r : List Value} (h : xcat r ≤ 8) : xArg 131 (Value.int x1 :: Value.ref x0 :: r) = some (xm_Tt_sendAll, [Value.ref x0, Value.int x1], r) := by
  unfold xArg
  rw [show xMs[131]? = some xm_Tt_sendAll from rfl]
  show (if (true && decide (xcat r ≤ 8) && true) = true then some (xm_Tt_sendAll, [Value.ref x0, Value.int x1], r) else none) = some _
  rw [decide_eq_true h]; rfl
theorem xa_Tt_send {x0 : Nat} {x1 : Int32} {x2 : Int32} {r : List Value} (h : xcat r ≤ 8) : xArg 132 (Value.int x2 :: Value.int x1 :: Value.ref x0 :: r) = some (xm_Tt_send, [Value.ref x0, Value.int x1, Value.int x2], r) := by
  unfold xArg
  rw [show xMs[132]? = some xm_Tt_send from rfl]
  show (if (true && decide (xcat r ≤ 8) && true) = true then some (xm_Tt_send, [Value.ref x0, Value.int x1, Value.int x2], r) else none) = some _
  rw [decide_eq_true h]; rfl
theorem xa_TP_reply {x0 : Nat} {x1 : Int32} {x2 : Int32} {x3 : Int32} {r : List Value} (h : xcat r ≤ 8) : xArg 133 (Value.int x3 :: Value.int x2 :: Value.int x1 :: Value.ref x0 :: r) = some (xm_TP_reply, [Value.ref x0, Value.int x1, Value.int x2, Value.int x3], r) := by
  unfold xArg
  rw [show xMs[133]? = some xm_TP_reply from rfl]
  show (if (true && decide (xcat r ≤ 8) && true) = true then some (xm_TP_reply, [Value.ref x0, Value.int x1, Value.int x2, Value.int x3], r) else none) = some _
  rw [decide_eq_true h]; rfl
theorem xa_Rp_tell {x0 : Nat} {x1 : Int32} {x2 : Int32} {r : List Value} (h : xcat r ≤ 8) : xArg 134 (Value.int x2 :: Value.int x1 :: Value.ref x0 :: r) = some (xm_Rp_tell, [Value.ref x0, Value.int x1, Value.int x2], r) := by
  unfold xArg
  rw [show xMs[134]? = some xm_Rp_tell from rfl]
  show (if (true && decide (xcat r ≤ 8) && true) = true then some (xm_Rp_tell, [Value.ref x0, Value.int x1, Value.int x2], r) else none) = some _
  rw [decide_eq_true h]; rfl
theorem xa_TP_match {x0 : Nat} {x1 : Int32} {x2 : Int32} {x3 : Int32} {r : List Value} (h : xcat r ≤ 8) : xArg 135 (Value.int x3 :: Value.int x2 :: Value.int x1 :: Value.ref x0 :: r) = some (xm_TP_match, [Value.ref x0, Value.int x1, Value.int x2, Value.int x3], r) := by
  unfold xArg
  rw [show xMs[135]? = some xm_TP_match from rfl]
  show (if (true && decide (xcat r ≤ 8) && true) = true then some (xm_TP_match, [Value.ref x0, Value.int x1, Value.int x2, Value.int x3], r) else none) = some _
  rw [decide_eq_true h]; rfl
theorem xa_TP_tallies {x0 : Nat} {x1 : Int32} {x2 : Int32} {r : List Value} (h : xcat r ≤ 8) : xArg 136 (Value.int x2 :: Value.int x1 :: Value.ref x0 :: r) = some (xm_TP_tallies, [Value.ref x0, Value.int x1, Value.int x2], r) := by
  unfold xArg
  rw [show xMs[136]? = some xm_TP_tallies from rfl]
  show (if (true && decide (xcat r ≤ 8) && true) = true then some (xm_TP_tallies, [Value.ref x0, Value.int x1, Value.int x2], r) else none) = some _
  rw [decide_eq_true h]; rfl
theorem xa_Ta_hear {x0 : Nat} {x1 : Nat} {x2 : Nat} {r : List Value} (h : xcat r ≤ 8) : xArg 137 (Value.ref x2 :: Value.ref x1 :: Value.ref x0 :: r) = some (xm_Ta_hear, [Value.ref x0, Value.ref x1, Value.ref x2], r) := by
  unfold xArg
  rw [show xMs[137]? = some xm_Ta_hear from rfl]
  show (if (true && decide (xcat r ≤ 8) && true) = true then some (xm_Ta_hear, [Value.ref x0, Value.ref x1, Value.ref x2], r) else none) = some _
  rw [decide_eq_true h]; rfl
theorem xa_Ta_hearOne {x0 : Nat} {x1 : Int32} {x2 : Int32} {x3 : Int32} {r : List Value} (h : xcat r ≤ 8) : xArg 138 (Value.int x3 :: Value.int x2 :: Value.int x1 :: Value.ref x0 :: r) = some (xm_Ta_hearOne, [Value.ref x0, Value.int x1, Value.int x2, Value.int x3], r) := by
  unfold xArg
  rw [show xMs[138]? = some xm_Ta_hearOne from rfl]
  show (if (true && decide (xcat r ≤ 8) && true) = true then some (xm_Ta_hearOne, [Value.ref x0, Value.int x1, Value.int x2, Value.int x3], r) else none) = some _
  rw [decide_eq_true h]; rfl
theorem xa_Ta_noteMatch {x0 : Nat} {x1 : Int32} {x2 : Int32} {r : List Value} (h : xcat r ≤ 8) : xArg 139 (Value.int x2 :: Value.int x1 :: Value.ref x0 :: r) = some (xm_Ta_noteMatch, [Value.ref x0, Value.int x1, Value.int x2], r) := by
  unfold xArg
  rw [show xMs[139]? = some xm_Ta_noteMatch from rfl]
  show (if (true && decide (xcat r ≤ 8) && true) = true then some (xm_Ta_noteMatch, [Value.ref x0, Value.int x1, Value.int x2], r) else none) = some _
  rw [decide_eq_true h]; rfl
theorem xa_Ta_voicesOf {x0 : Nat} {x1 : Int32} {r : List Value} (h : xcat r ≤ 8) : xArg 140 (Value.int x1 :: Value.ref x0 :: r) = some (xm_Ta_voicesOf, [Value.ref x0, Value.int x1], r) := by
  unfold xArg
  rw [show xMs[140]? = some xm_Ta_voicesOf from rfl]
  show (if (true && decide (xcat r ≤ 8) && true) = true then some (xm_Ta_voicesOf, [Value.ref x0, Value.int x1], r) else none) = some _
  rw [decide_eq_true h]; rfl
theorem xa_TP_suspects {x0 : Nat} {x1 : Int32} {x2 : Int32} {x3 : Int32} {r : List Value} (h : xcat r ≤ 8) : xArg 141 (Value.int x3 :: Value.int x2 :: Value.int x1 :: Value.ref x0 :: r) = some (xm_TP_suspects, [Value.ref x0, Value.int x1, Value.int x2, Value.int x3], r) := by
  unfold xArg
  rw [show xMs[141]? = some xm_TP_suspects from rfl]
  show (if (true && decide (xcat r ≤ 8) && true) = true then some (xm_TP_suspects, [Value.ref x0, Value.int x1, Value.int x2, Value.int x3], r) else none) = some _
  rw [decide_eq_true h]; rfl
theorem xa_Ta_suspectSets {x0 : Nat} {r : List Value} (h : xcat r ≤ 8) : xArg 142 (Value.ref x0 :: r) = some (xm_Ta_suspectSets, [Value.ref x0], r) := by
  unfold xArg
  rw [show xMs[142]? = some xm_Ta_suspectSets from rfl]
  show (if (true && decide (xcat r ≤ 8) && true) = true then some (xm_Ta_suspectSets, [Value.ref x0], r) else none) = some _
  rw [decide_eq_true h]; rfl
theorem xa_Ta_isSuspect {x0 : Nat} {x1 : Int32} {r : List Value} (h : xcat r ≤ 8) : xArg 143 (Value.int x1 :: Value.ref x0 :: r) = some (xm_Ta_isSuspect, [Value.ref x0, Value.int x1], r) := by
  unfold xArg
  rw [show xMs[143]? = some xm_Ta_isSuspect from rfl]
  show (if (true && decide (xcat r ≤ 8) && true) = true then some (xm_Ta_isSuspect, [Value.ref x0, Value.int x1], r) else none) = some _
  rw [decide_eq_true h]; rfl
theorem xa_Ta_suspectsInAll {x0 : Nat} {r : List Value} (h : xcat r ≤ 8) : xArg 144 (Value.ref x0 :: r) = some (xm_Ta_suspectsInAll, [Value.ref x0], r) := by
  unfold xArg
  rw [show xMs[144]? = some xm_Ta_suspectsInAll from rfl]
  show (if (true && decide (xcat r ≤ 8) && true) = true then some (xm_Ta_suspectsInAll, [Value.ref x0], r) else none) = some _
  rw [decide_eq_true h]; rfl
theorem xa_Ta_suspectSet {x0 : Nat} {x1 : Int32} {r : List Value} (h : xcat r ≤ 8) : xArg 145 (Value.int x1 :: Value.ref x0 :: r) = some (xm_Ta_suspectSet, [Value.ref x0, Value.int x1], r) := by
  unfold xArg
  rw [show xMs[145]? = some xm_Ta_suspectSet from rfl]
  show (if (true && decide (xcat r ≤ 8) && true) = true then some (xm_Ta_suspectSet, [Value.ref x0, Value.int x1], r) else none) = some _
  rw [decide_eq_true h]; rfl
theorem xa_TP_drawn {x0 : Nat} {x1 : Int32} {x2 : Int32} {x3 : Int32} {x4 : Int32} {x5 : Int32} {r : List Value} (h : xcat r ≤ 8) : xArg 146 (Value.int x5 :: Value.int x4 :: Value.int x3 :: Value.int x2 :: Value.int x1 :: Value.ref x0 :: r) = some (xm_TP_drawn, [Value.ref x0, Value.int x1, Value.int x2, Value.int x3, Value.int x4, Value.int x5], r) := by
  unfold xArg
  rw [show xMs[146]? = some xm_TP_drawn from rfl]
  show (if (true && decide (xcat r ≤ 8) && true) = true then some (xm_TP_drawn, [Value.ref x0, Value.int x1, Value.int x2, Value.int x3, Value.int x4, Value.int x5], r) else none) = some _
  rw [decide_eq_true h]; rfl
theorem xa_As_draw {x0 : Nat} {x1 : Nat} {x2 : Int32} {x3 : Int32} {r : List Value} (h : xcat r ≤ 8) : xArg 147 (Value.int x3 :: Value.int x2 :: Value.ref x1 :: Value.ref x0 :: r) = some (xm_As_draw, [Value.ref x0, Value.ref x1, Value.int x2, Value.int x3], r) := by
  unfold xArg
  rw [show xMs[147]? = some xm_As_draw from rfl]
  show (if (true && decide (xcat r ≤ 8) && true) = true then some (xm_As_draw, [Value.ref x0, Value.ref x1, Value.int x2, Value.int x3], r) else none) = some _
  rw [decide_eq_true h]; rfl
theorem xa_As_below {x0 : Nat} {x1 : Int32} {r : List Value} (h : xcat r ≤ 8) : xArg 148 (Value.int x1 :: Value.ref x0 :: r) = some (xm_As_below, [Value.ref x0, Value.int x1], r) := by
  unfold xArg
  rw [show xMs[148]? = some xm_As_below from rfl]
  show (if (true && decide (xcat r ≤ 8) && true) = true then some (xm_As_below, [Value.ref x0, Value.int x1], r) else none) = some _
  rw [decide_eq_true h]; rfl
theorem xa_As_drawnKind {x0 : Int32} {x1 : Int32} {r : List Value} (h : xcat r ≤ 8) : xArg 149 (Value.int x1 :: Value.int x0 :: r) = some (xm_As_drawnKind, [Value.int x0, Value.int x1], r) := by
  unfold xArg
  rw [show xMs[149]? = some xm_As_drawnKind from rfl]
  show (if (true && decide (xcat r ≤ 8) && true) = true then some (xm_As_drawnKind, [Value.int x0, Value.int x1], r) else none) = some _
  rw [decide_eq_true h]; rfl
theorem xa_TP_merged {x0 : Nat} {x1 : Int32} {x2 : Int32} {x3 : Int32} {x4 : Int32} {x5 : Int32} {r : List Value} (h : xcat r ≤ 8) : xArg 150 (Value.int x5 :: Value.int x4 :: Value.int x3 :: Value.int x2 :: Value.int x1 :: Value.ref x0 :: r) = some (xm_TP_merged, [Value.ref x0, Value.int x1, Value.int x2, Value.int x3, Value.int x4, Value.int x5], r) := by
  unfold xArg
  rw [show xMs[150]? = some xm_TP_merged from rfl]
  show (if (true && decide (xcat r ≤ 8) && true) = true then some (xm_TP_merged, [Value.ref x0, Value.int x1, Value.int x2, Value.int x3, Value.int x4, Value.int x5], r) else none) = some _
  rw [decide_eq_true h]; rfl
theorem xa_TP_sure {x0 : Nat} {x1 : Int32} {x2 : Int32} {x3 : Int32} {x4 : Int32} {x5 : Int32} {r : List Value} (h : xcat r ≤ 8) : xArg 151 (Value.int x5 :: Value.int x4 :: Value.int x3 :: Value.int x2 :: Value.int x1 :: Value.ref x0 :: r) = some (xm_TP_sure, [Value.ref x0, Value.int x1, Value.int x2, Value.int x3, Value.int x4, Value.int x5], r) := by
  unfold xArg
  rw [show xMs[151]? = some xm_TP_sure from rfl]
  show (if (true && decide (xcat r ≤ 8) && true) = true then some (xm_TP_sure, [Value.ref x0, Value.int x1, Value.int x2, Value.int x3, Value.int x4, Value.int x5], r) else none) = some _
  rw [decide_eq_true h]; rfl
theorem xa_As_lostAt {x0 : Nat} {x1 : Int32} {x2 : Nat} {r : List Value} (h : xcat r ≤ 8) : xArg 152 (Value.ref x2 :: Value.int x1 :: Value.ref x0 :: r) = some (xm_As_lostAt, [Value.ref x0, Value.int x1, Value.ref x2], r) := by
  unfold xArg
  rw [show xMs[152]? = some xm_As_lostAt from rfl]
  show (if (true && decide (xcat r ≤ 8) && true) = true then some (xm_As_lostAt, [Value.ref x0, Value.int x1, Value.ref x2], r) else none) = some _
  rw [decide_eq_true h]; rfl
theorem xa_As_counts {x0 : Nat} {x1 : Int32} {x2 : Int32} {x3 : Nat} {r : List Value} (h : xcat r ≤ 8) : xArg 153 (Value.ref x3 :: Value.int x2 :: Value.int x1 :: Value.ref x0 :: r) = some (xm_As_counts, [Value.ref x0, Value.int x1, Value.int x2, Value.ref x3], r) := by
  unfold xArg
  rw [show xMs[153]? = some xm_As_counts from rfl]
  show (if (true && decide (xcat r ≤ 8) && true) = true then some (xm_As_counts, [Value.ref x0, Value.int x1, Value.int x2, Value.ref x3], r) else none) = some _
  rw [decide_eq_true h]; rfl
theorem xa_As_sureAt {x0 : Nat} {x1 : Int32} {x2 : Nat} {r : List Value} (h : xcat r ≤ 8) : xArg 154 (Value.ref x2 :: Value.int x1 :: Value.ref x0 :: r) = some (xm_As_sureAt, [Value.ref x0, Value.int x1, Value.ref x2], r) := by
  unfold xArg
  rw [show xMs[154]? = some xm_As_sureAt from rfl]
  show (if (true && decide (xcat r ≤ 8) && true) = true then some (xm_As_sureAt, [Value.ref x0, Value.int x1, Value.ref x2], r) else none) = some _
  rw [decide_eq_true h]; rfl
theorem xa_TP_after {x0 : Nat} {x1 : Int32} {x2 : Int32} {x3 : Int32} {r : List Value} (h : xcat r ≤ 8) : xArg 155 (Value.int x3 :: Value.int x2 :: Value.int x1 :: Value.ref x0 :: r) = some (xm_TP_after, [Value.ref x0, Value.int x1, Value.int x2, Value.int x3], r) := by
  unfold xArg
  rw [show xMs[155]? = some xm_TP_after from rfl]
  show (if (true && decide (xcat r ≤ 8) && true) = true then some (xm_TP_after, [Value.ref x0, Value.int x1, Value.int x2, Value.int x3], r) else none) = some _
  rw [decide_eq_true h]; rfl
theorem xa_As_behindOnes {x0 : Nat} {r : List Value} (h : xcat r ≤ 8) : xArg 156 (Value.ref x0 :: r) = some (xm_As_behindOnes, [Value.ref x0], r) := by
  unfold xArg
  rw [show xMs[156]? = some xm_As_behindOnes from rfl]
  show (if (true && decide (xcat r ≤ 8) && true) = true then some (xm_As_behindOnes, [Value.ref x0], r) else none) = some _
  rw [decide_eq_true h]; rfl
theorem xa_As_stuckOnes {x0 : Nat} {r : List Value} (h : xcat r ≤ 8) : xArg 157 (Value.ref x0 :: r) = some (xm_As_stuckOnes, [Value.ref x0], r) := by
  unfold xArg
  rw [show xMs[157]? = some xm_As_stuckOnes from rfl]
  show (if (true && decide (xcat r ≤ 8) && true) = true then some (xm_As_stuckOnes, [Value.ref x0], r) else none) = some _
  rw [decide_eq_true h]; rfl
theorem xa_As_madeViews {x0 : Nat} {r : List Value} (h : xcat r ≤ 8) : xArg 158 (Value.ref x0 :: r) = some (xm_As_madeViews, [Value.ref x0], r) := by
  unfold xArg
  rw [show xMs[158]? = some xm_As_madeViews from rfl]
  show (if (true && decide (xcat r ≤ 8) && true) = true then some (xm_As_madeViews, [Value.ref x0], r) else none) = some _
  rw [decide_eq_true h]; rfl
theorem xa_As_certainPlaces {x0 : Nat} {r : List Value} (h : xcat r ≤ 8) : xArg 159 (Value.ref x0 :: r) = some (xm_As_certainPlaces, [Value.ref x0], r) := by
  unfold xArg
  rw [show xMs[159]? = some xm_As_certainPlaces from rfl]
  show (if (true && decide (xcat r ≤ 8) && true) = true then some (xm_As_certainPlaces, [Value.ref x0], r) else none) = some _
  rw [decide_eq_true h]; rfl
theorem xa_As_alikeProofs {x0 : Nat} {x1 : Int32} {x2 : Int32} {r : List Value} (h : xcat r ≤ 8) : xArg 160 (Value.int x2 :: Value.int x1 :: Value.ref x0 :: r) = some (xm_As_alikeProofs, [Value.ref x0, Value.int x1, Value.int x2], r) := by
  unfold xArg
  rw [show xMs[160]? = some xm_As_alikeProofs from rfl]
  show (if (true && decide (xcat r ≤ 8) && true) = true then some (xm_As_alikeProofs, [Value.ref x0, Value.int x1, Value.int x2], r) else none) = some _
  rw [decide_eq_true h]; rfl
theorem xa_As_words {x0 : Nat} {r : List Value} (h : xcat r ≤ 8) : xArg 161 (Value.ref x0 :: r) = some (xm_As_words, [Value.ref x0], r) := by
  unfold xArg
  rw [show xMs[161]? = some xm_As_words from rfl]
  show (if (true && decide (xcat r ≤ 8) && true) = true then some (xm_As_words, [Value.ref x0], r) else none) = some _
  rw [decide_eq_true h]; rfl
theorem xa_As_fullOnes {x0 : Nat} {r : List Value} (h : xcat r ≤ 8) : xArg 162 (Value.ref x0 :: r) = some (xm_As_fullOnes, [Value.ref x0], r) := by
  unfold xArg
  rw [show xMs[162]? = some xm_As_fullOnes from rfl]
  show (if (true && decide (xcat r ≤ 8) && true) = true then some (xm_As_fullOnes, [Value.ref x0], r) else none) = some _
  rw [decide_eq_true h]; rfl
theorem xa_As_isFull {x0 : Nat} {r : List Value} (h : xcat r ≤ 8) : xArg 163 (Value.ref x0 :: r) = some (xm_As_isFull, [Value.ref x0], r) := by
  unfold xArg
  rw [show xMs[163]? = some xm_As_isFull from rfl]
  show (if (true && decide (xcat r ≤ 8) && true) = true then some (xm_As_isFull, [Value.ref x0], r) else none) = some _
  rw [decide_eq_true h]; rfl
theorem xa_TP_pace {x0 : Nat} {x1 : Int32} {x2 : Int32} {r : List Value} (h : xcat r ≤ 8) : xArg 164 (Value.int x2 :: Value.int x1 :: Value.ref x0 :: r) = some (xm_TP_pace, [Value.ref x0, Value.int x1, Value.int x2], r) := by
  unfold xArg
  rw [show xMs[164]? = some xm_TP_pace from rfl]
  show (if (true && decide (xcat r ≤ 8) && true) = true then some (xm_TP_pace, [Value.ref x0, Value.int x1, Value.int x2], r) else none) = some _
  rw [decide_eq_true h]; rfl
theorem xa_Tt_tightest {x0 : Nat} {x1 : Nat} {r : List Value} (h : xcat r ≤ 8) : xArg 165 (Value.ref x1 :: Value.ref x0 :: r) = some (xm_Tt_tightest, [Value.ref x0, Value.ref x1], r) := by
  unfold xArg
  rw [show xMs[165]? = some xm_Tt_tightest from rfl]
  show (if (true && decide (xcat r ≤ 8) && true) = true then some (xm_Tt_tightest, [Value.ref x0, Value.ref x1], r) else none) = some _
  rw [decide_eq_true h]; rfl
theorem xa_Tt_doneAt {x0 : Nat} {x1 : Int32} {r : List Value} (h : xcat r ≤ 8) : xArg 166 (Value.int x1 :: Value.ref x0 :: r) = some (xm_Tt_doneAt, [Value.ref x0, Value.int x1], r) := by
  unfold xArg
  rw [show xMs[166]? = some xm_Tt_doneAt from rfl]
  show (if (true && decide (xcat r ≤ 8) && true) = true then some (xm_Tt_doneAt, [Value.ref x0, Value.int x1], r) else none) = some _
  rw [decide_eq_true h]; rfl
theorem xa_Tt_spareOnes {x0 : Nat} {x1 : Nat} {r : List Value} (h : xcat r ≤ 8) : xArg 167 (Value.ref x1 :: Value.ref x0 :: r) = some (xm_Tt_spareOnes, [Value.ref x0, Value.ref x1], r) := by
  unfold xArg
  rw [show xMs[167]? = some xm_Tt_spareOnes from rfl]
  show (if (true && decide (xcat r ≤ 8) && true) = true then some (xm_Tt_spareOnes, [Value.ref x0, Value.ref x1], r) else none) = some _
  rw [decide_eq_true h]; rfl
theorem xa_Tt_slowest {x0 : Nat} {r : List Value} (h : xcat r ≤ 8) : xArg 168 (Value.ref x0 :: r) = some (xm_Tt_slowest, [Value.ref x0], r) := by
  unfold xArg
  rw [show xMs[168]? = some xm_Tt_slowest from rfl]
  show (if (true && decide (xcat r ≤ 8) && true) = true then some (xm_Tt_slowest, [Value.ref x0], r) else none) = some _
  rw [decide_eq_true h]; rfl
theorem xa_TP_behind {x0 : Nat} {x1 : Int32} {x2 : Int32} {x3 : Int32} {r : List Value} (h : xcat r ≤ 8) : xArg 169 (Value.int x3 :: Value.int x2 :: Value.int x1 :: Value.ref x0 :: r) = some (xm_TP_behind, [Value.ref x0, Value.int x1, Value.int x2, Value.int x3], r) := by
  unfold xArg
  rw [show xMs[169]? = some xm_TP_behind from rfl]
  show (if (true && decide (xcat r ≤ 8) && true) = true then some (xm_TP_behind, [Value.ref x0, Value.int x1, Value.int x2, Value.int x3], r) else none) = some _
  rw [decide_eq_true h]; rfl
theorem xa_Co_runFirst {x0 : Nat} {x1 : Int32} {x2 : Nat} {r : List Value} (h : xcat r ≤ 8) : xArg 170 (Value.ref x2 :: Value.int x1 :: Value.ref x0 :: r) = some (xm_Co_runFirst, [Value.ref x0, Value.int x1, Value.ref x2], r) := by
  unfold xArg
  rw [show xMs[170]? = some xm_Co_runFirst from rfl]
  show (if (true && decide (xcat r ≤ 8) && true) = true then some (xm_Co_runFirst, [Value.ref x0, Value.int x1, Value.ref x2], r) else none) = some _
  rw [decide_eq_true h]; rfl
theorem xa_TP_blind {x0 : Nat} {x1 : Int32} {x2 : Int32} {r : List Value} (h : xcat r ≤ 8) : xArg 171 (Value.int x2 :: Value.int x1 :: Value.ref x0 :: r) = some (xm_TP_blind, [Value.ref x0, Value.int x1, Value.int x2], r) := by
  unfold xArg
  rw [show xMs[171]? = some xm_TP_blind from rfl]
  show (if (true && decide (xcat r ≤ 8) && true) = true then some (xm_TP_blind, [Value.ref x0, Value.int x1, Value.int x2], r) else none) = some _
  rw [decide_eq_true h]; rfl
theorem xa_TP_blindOrders {x0 : Nat} {x1 : Nat} {r : List Value} (h : xcat r ≤ 8) : xArg 172 (Value.ref x1 :: Value.ref x0 :: r) = some (xm_TP_blindOrders, [Value.ref x0, Value.ref x1], r) := by
  unfold xArg
  rw [show xMs[172]? = some xm_TP_blindOrders from rfl]
  show (if (true && decide (xcat r ≤ 8) && true) = true then some (xm_TP_blindOrders, [Value.ref x0, Value.ref x1], r) else none) = some _
  rw [decide_eq_true h]; rfl
theorem xa_TP_changedNodes {x0 : Nat} {x1 : Nat} {r : List Value} (h : xcat r ≤ 8) : xArg 173 (Value.ref x1 :: Value.ref x0 :: r) = some (xm_TP_changedNodes, [Value.ref x0, Value.ref x1], r) := by
  unfold xArg
  rw [show xMs[173]? = some xm_TP_changedNodes from rfl]
  show (if (true && decide (xcat r ≤ 8) && true) = true then some (xm_TP_changedNodes, [Value.ref x0, Value.ref x1], r) else none) = some _
  rw [decide_eq_true h]; rfl
theorem xa_Su_unlikeNodes {x0 : Nat} {x1 : Nat} {x2 : Nat} {r : List Value} (h : xcat r ≤ 8) : xArg 174 (Value.ref x2 :: Value.ref x1 :: Value.ref x0 :: r) = some (xm_Su_unlikeNodes, [Value.ref x0, Value.ref x1, Value.ref x2], r) := by
  unfold xArg
  rw [show xMs[174]? = some xm_Su_unlikeNodes from rfl]
  show (if (true && decide (xcat r ≤ 8) && true) = true then some (xm_Su_unlikeNodes, [Value.ref x0, Value.ref x1, Value.ref x2], r) else none) = some _
  rw [decide_eq_true h]; rfl
theorem xa_TP_richest {x0 : Nat} {x1 : Nat} {r : List Value} (h : xcat r ≤ 8) : xArg 175 (Value.ref x1 :: Value.ref x0 :: r) = some (xm_TP_richest, [Value.ref x0, Value.ref x1], r) := by
  unfold xArg
  rw [show xMs[175]? = some xm_TP_richest from rfl]
  show (if (true && decide (xcat r ≤ 8) && true) = true then some (xm_TP_richest, [Value.ref x0, Value.ref x1], r) else none) = some _
  rw [decide_eq_true h]; rfl
theorem xa_TP_voices {x0 : Nat} {x1 : Int32} {x2 : Int32} {x3 : Int32} {r : List Value} (h : xcat r ≤ 8) : xArg 176 (Value.int x3 :: Value.int x2 :: Value.int x1 :: Value.ref x0 :: r) = some (xm_TP_voices, [Value.ref x0, Value.int x1, Value.int x2, Value.int x3], r) := by
  unfold xArg
  rw [show xMs[176]? = some xm_TP_voices from rfl]
  show (if (true && decide (xcat r ≤ 8) && true) = true then some (xm_TP_voices, [Value.ref x0, Value.int x1, Value.int x2, Value.int x3], r) else none) = some _
  rw [decide_eq_true h]; rfl
theorem xa_TP_lack {x0 : Nat} {x1 : Int32} {x2 : Int32} {x3 : Int32} {r : List Value} (h : xcat r ≤ 8) : xArg 177 (Value.int x3 :: Value.int x2 :: Value.int x1 :: Value.ref x0 :: r) = some (xm_TP_lack, [Value.ref x0, Value.int x1, Value.int x2, Value.int x3], r) := by
  unfold xArg
  rw [show xMs[177]? = some xm_TP_lack from rfl]
  show (if (true && decide (xcat r ≤ 8) && true) = true then some (xm_TP_lack, [Value.ref x0, Value.int x1, Value.int x2, Value.int x3], r) else none) = some _
  rw [decide_eq_true h]; rfl
theorem xa_Ta_lacking {x0 : Nat} {r : List Value} (h : xcat r ≤ 8) : xArg 178 (Value.ref x0 :: r) = some (xm_Ta_lacking, [Value.ref x0], r) := by
  unfold xArg
  rw [show xMs[178]? = some xm_Ta_lacking from rfl]
  show (if (true && decide (xcat r ≤ 8) && true) = true then some (xm_Ta_lacking, [Value.ref x0], r) else none) = some _
  rw [decide_eq_true h]; rfl
theorem xa_Ta_unlikeResults {x0 : Nat} {r : List Value} (h : xcat r ≤ 8) : xArg 179 (Value.ref x0 :: r) = some (xm_Ta_unlikeResults, [Value.ref x0], r) := by
  unfold xArg
  rw [show xMs[179]? = some xm_Ta_unlikeResults from rfl]
  show (if (true && decide (xcat r ≤ 8) && true) = true then some (xm_Ta_unlikeResults, [Value.ref x0], r) else none) = some _
  rw [decide_eq_true h]; rfl
theorem xa_TP_count {x0 : Nat} {x1 : Int32} {r : List Value} (h : xcat r ≤ 8) : xArg 180 (Value.int x1 :: Value.ref x0 :: r) = some (xm_TP_count, [Value.ref x0, Value.int x1], r) := by
  unfold xArg
  rw [show xMs[180]? = some xm_TP_count from rfl]
  show (if (true && decide (xcat r ≤ 8) && true) = true then some (xm_TP_count, [Value.ref x0, Value.int x1], r) else none) = some _
  rw [decide_eq_true h]; rfl
theorem xa_TP_image {x0 : Nat} {x1 : Int32} {r : List Value} (h : xcat r ≤ 8) : xArg 181 (Value.int x1 :: Value.ref x0 :: r) = some (xm_TP_image, [Value.ref x0, Value.int x1], r) := by
  unfold xArg
  rw [show xMs[181]? = some xm_TP_image from rfl]
  show (if (true && decide (xcat r ≤ 8) && true) = true then some (xm_TP_image, [Value.ref x0, Value.int x1], r) else none) = some _
  rw [decide_eq_true h]; rfl
theorem xa_To_take {x0 : Nat} {x1 : Nat} {r : List Value} (h : xcat r ≤ 8) : xArg 182 (Value.ref x1 :: Value.ref x0 :: r) = some (xm_To_take, [Value.ref x0, Value.ref x1], r) := by
  unfold xArg
  rw [show xMs[182]? = some xm_To_take from rfl]
  show (if (true && decide (xcat r ≤ 8) && true) = true then some (xm_To_take, [Value.ref x0, Value.ref x1], r) else none) = some _
  rw [decide_eq_true h]; rfl
theorem xa_TP_again {x0 : Nat} {x1 : Int32} {r : List Value} (h : xcat r ≤ 8) : xArg 183 (Value.int x1 :: Value.ref x0 :: r) = some (xm_TP_again, [Value.ref x0, Value.int x1], r) := by
  unfold xArg
  rw [show xMs[183]? = some xm_TP_again from rfl]
  show (if (true && decide (xcat r ≤ 8) && true) = true then some (xm_TP_again, [Value.ref x0, Value.int x1], r) else none) = some _
  rw [decide_eq_true h]; rfl
theorem xa_Mo_feed {x0 : Nat} {x1 : Int32} {x2 : Int32} {x3 : Int32} {x4 : Int32} {x5 : Int32} {r : List Value} (h : xcat r ≤ 8) : xArg 185 (Value.int x5 :: Value.int x4 :: Value.int x3 :: Value.int x2 :: Value.int x1 :: Value.ref x0 :: r) = some (xm_Mo_feed, [Value.ref x0, Value.int x1, Value.int x2, Value.int x3, Value.int x4, Value.int x5], r) := by
  unfold xArg
  rw [show xMs[185]? = some xm_Mo_feed from rfl]
  show (if (true && decide (xcat r ≤ 8) && true) = true then some (xm_Mo_feed, [Value.ref x0, Value.int x1, Value.int x2, Value.int x3, Value.int x4, Value.int x5], r) else none) = some _
  rw [decide_eq_true h]; rfl
theorem xa_Mo_end {x0 : Nat} {x1 : Int32} {r : List Value} (h : xcat r ≤ 8) : xArg 186 (Value.int x1 :: Value.ref x0 :: r) = some (xm_Mo_end, [Value.ref x0, Value.int x1], r) := by
  unfold xArg
  rw [show xMs[186]? = some xm_Mo_end from rfl]
  show (if (true && decide (xcat r ≤ 8) && true) = true then some (xm_Mo_end, [Value.ref x0, Value.int x1], r) else none) = some _
  rw [decide_eq_true h]; rfl
theorem xa_Mo_text {x0 : Nat} {x1 : Int32} {x2 : Int32} {r : List Value} (h : xcat r ≤ 8) : xArg 187 (Value.int x2 :: Value.int x1 :: Value.ref x0 :: r) = some (xm_Mo_text, [Value.ref x0, Value.int x1, Value.int x2], r) := by
  unfold xArg
  rw [show xMs[187]? = some xm_Mo_text from rfl]
  show (if (true && decide (xcat r ≤ 8) && true) = true then some (xm_Mo_text, [Value.ref x0, Value.int x1, Value.int x2], r) else none) = some _
  rw [decide_eq_true h]; rfl
theorem xa_Mo_isIn {x0 : Int32} {x1 : Int32} {x2 : Int32} {r : List Value} (h : xcat r ≤ 8) : xArg 188 (Value.int x2 :: Value.int x1 :: Value.int x0 :: r) = some (xm_Mo_isIn, [Value.int x0, Value.int x1, Value.int x2], r) := by
  unfold xArg
  rw [show xMs[188]? = some xm_Mo_isIn from rfl]
  show (if (true && decide (xcat r ≤ 8) && true) = true then some (xm_Mo_isIn, [Value.int x0, Value.int x1, Value.int x2], r) else none) = some _
  rw [decide_eq_true h]; rfl
theorem xa_Mo_isOf {x0 : Nat} {x1 : Int32} {x2 : Int32} {r : List Value} (h : xcat r ≤ 8) : xArg 189 (Value.int x2 :: Value.int x1 :: Value.ref x0 :: r) = some (xm_Mo_isOf, [Value.ref x0, Value.int x1, Value.int x2], r) := by
  unfold xArg
  rw [show xMs[189]? = some xm_Mo_isOf from rfl]
  show (if (true && decide (xcat r ≤ 8) && true) = true then some (xm_Mo_isOf, [Value.ref x0, Value.int x1, Value.int x2], r) else none) = some _
  rw [decide_eq_true h]; rfl
theorem xa_Mo_advance {x0 : Nat} {r : List Value} (h : xcat r ≤ 8) : xArg 190 (Value.ref x0 :: r) = some (xm_Mo_advance, [Value.ref x0], r) := by
  unfold xArg
  rw [show xMs[190]? = some xm_Mo_advance from rfl]
  show (if (true && decide (xcat r ≤ 8) && true) = true then some (xm_Mo_advance, [Value.ref x0], r) else none) = some _
  rw [decide_eq_true h]; rfl
theorem xa_Mo_byteAt {x0 : Nat} {x1 : Int32} {r : List Value} (h : xcat r ≤ 8) : xArg 191 (Value.int x1 :: Value.ref x0 :: r) = some (xm_Mo_byteAt, [Value.ref x0, Value.int x1], r) := by
  unfold xArg
  rw [show xMs[191]? = some xm_Mo_byteAt from rfl]
  show (if (true && decide (xcat r ≤ 8) && true) = true then some (xm_Mo_byteAt, [Value.ref x0, Value.int x1], r) else none) = some _
  rw [decide_eq_true h]; rfl
theorem xa_Mo_isLetter {x0 : Int32} {r : List Value} (h : xcat r ≤ 8) : xArg 192 (Value.int x0 :: r) = some (xm_Mo_isLetter, [Value.int x0], r) := by
  unfold xArg
  rw [show xMs[192]? = some xm_Mo_isLetter from rfl]
  show (if (true && decide (xcat r ≤ 8) && true) = true then some (xm_Mo_isLetter, [Value.int x0], r) else none) = some _
  rw [decide_eq_true h]; rfl
theorem xa_Mo_wordOf {x0 : Int64} {r : List Value} (h : xcat r ≤ 8) : xArg 193 (Value.long x0 :: r) = some (xm_Mo_wordOf, [Value.long x0], r) := by
  unfold xArg
  rw [show xMs[193]? = some xm_Mo_wordOf from rfl]
  show (if (true && decide (xcat r ≤ 8) && true) = true then some (xm_Mo_wordOf, [Value.long x0], r) else none) = some _
  rw [decide_eq_true h]; rfl
theorem xa_Mo_eight {x0 : Int32} {x1 : Int32} {x2 : Int32} {x3 : Int32} {x4 : Int32} {x5 : Int32} {x6 : Int32} {x7 : Int32} {r : List Value} (h : xcat r ≤ 8) : xArg 194 (Value.int x7 :: Value.int x6 :: Value.int x5 :: Value.int x4 :: Value.int x3 :: Value.int x2 :: Value.int x1 :: Value.int x0 :: r) = some (xm_Mo_eight, [Value.int x0, Value.int x1, Value.int x2, Value.int x3, Value.int x4, Value.int x5, Value.int x6, Value.int x7], r) := by
  unfold xArg
  rw [show xMs[194]? = some xm_Mo_eight from rfl]
  show (if (true && decide (xcat r ≤ 8) && true) = true then some (xm_Mo_eight, [Value.int x0, Value.int x1, Value.int x2, Value.int x3, Value.int x4, Value.int x5, Value.int x6, Value.int x7], r) else none) = some _
  rw [decide_eq_true h]; rfl
theorem xa_Mo_four {x0 : Int32} {x1 : Int32} {x2 : Int32} {x3 : Int32} {r : List Value} (h : xcat r ≤ 8) : xArg 195 (Value.int x3 :: Value.int x2 :: Value.int x1 :: Value.int x0 :: r) = some (xm_Mo_four, [Value.int x0, Value.int x1, Value.int x2, Value.int x3], r) := by
  unfold xArg
  rw [show xMs[195]? = some xm_Mo_four from rfl]
  show (if (true && decide (xcat r ≤ 8) && true) = true then some (xm_Mo_four, [Value.int x0, Value.int x1, Value.int x2, Value.int x3], r) else none) = some _
  rw [decide_eq_true h]; rfl
theorem xa_Mo_isDigit {x0 : Int32} {r : List Value} (h : xcat r ≤ 8) : xArg 196 (Value.int x0 :: r) = some (xm_Mo_isDigit, [Value.int x0], r) := by
  unfold xArg
  rw [show xMs[196]? = some xm_Mo_isDigit from rfl]
  show (if (true && decide (xcat r ≤ 8) && true) = true then some (xm_Mo_isDigit, [Value.int x0], r) else none) = some _
  rw [decide_eq_true h]; rfl
theorem xa_Mo_councilLine {x0 : Nat} {r : List Value} (h : xcat r ≤ 8) : xArg 197 (Value.ref x0 :: r) = some (xm_Mo_councilLine, [Value.ref x0], r) := by
  unfold xArg
  rw [show xMs[197]? = some xm_Mo_councilLine from rfl]
  show (if (true && decide (xcat r ≤ 8) && true) = true then some (xm_Mo_councilLine, [Value.ref x0], r) else none) = some _
  rw [decide_eq_true h]; rfl
theorem xa_Mo_wordIn {x0 : Nat} {x1 : Int32} {x2 : Int32} {r : List Value} (h : xcat r ≤ 8) : xArg 198 (Value.int x2 :: Value.int x1 :: Value.ref x0 :: r) = some (xm_Mo_wordIn, [Value.ref x0, Value.int x1, Value.int x2], r) := by
  unfold xArg
  rw [show xMs[198]? = some xm_Mo_wordIn from rfl]
  show (if (true && decide (xcat r ≤ 8) && true) = true then some (xm_Mo_wordIn, [Value.ref x0, Value.int x1, Value.int x2], r) else none) = some _
  rw [decide_eq_true h]; rfl
theorem xa_Mo_ends {x0 : Nat} {r : List Value} (h : xcat r ≤ 8) : xArg 199 (Value.ref x0 :: r) = some (xm_Mo_ends, [Value.ref x0], r) := by
  unfold xArg
  rw [show xMs[199]? = some xm_Mo_ends from rfl]
  show (if (true && decide (xcat r ≤ 8) && true) = true then some (xm_Mo_ends, [Value.ref x0], r) else none) = some _
  rw [decide_eq_true h]; rfl
theorem xa_Mo_numbered {x0 : Nat} {x1 : Int32} {x2 : Int32} {r : List Value} (h : xcat r ≤ 8) : xArg 200 (Value.int x2 :: Value.int x1 :: Value.ref x0 :: r) = some (xm_Mo_numbered, [Value.ref x0, Value.int x1, Value.int x2], r) := by
  unfold xArg
  rw [show xMs[200]? = some xm_Mo_numbered from rfl]
  show (if (true && decide (xcat r ≤ 8) && true) = true then some (xm_Mo_numbered, [Value.ref x0, Value.int x1, Value.int x2], r) else none) = some _
  rw [decide_eq_true h]; rfl
theorem xa_Mo_also {x0 : Nat} {x1 : Int32} {x2 : Int32} {r : List Value} (h : xcat r ≤ 8) : xArg 201 (Value.int x2 :: Value.int x1 :: Value.ref x0 :: r) = some (xm_Mo_also, [Value.ref x0, Value.int x1, Value.int x2], r) := by
  unfold xArg
  rw [show xMs[201]? = some xm_Mo_also from rfl]
  show (if (true && decide (xcat r ≤ 8) && true) = true then some (xm_Mo_also, [Value.ref x0, Value.int x1, Value.int x2], r) else none) = some _
  rw [decide_eq_true h]; rfl
theorem xa_Mo_memberTold {x0 : Nat} {r : List Value} (h : xcat r ≤ 8) : xArg 202 (Value.ref x0 :: r) = some (xm_Mo_memberTold, [Value.ref x0], r) := by
  unfold xArg
  rw [show xMs[202]? = some xm_Mo_memberTold from rfl]
  show (if (true && decide (xcat r ≤ 8) && true) = true then some (xm_Mo_memberTold, [Value.ref x0], r) else none) = some _
  rw [decide_eq_true h]; rfl
theorem xa_Mo_orderTold {x0 : Nat} {x1 : Int32} {r : List Value} (h : xcat r ≤ 8) : xArg 203 (Value.int x1 :: Value.ref x0 :: r) = some (xm_Mo_orderTold, [Value.ref x0, Value.int x1], r) := by
  unfold xArg
  rw [show xMs[203]? = some xm_Mo_orderTold from rfl]
  show (if (true && decide (xcat r ≤ 8) && true) = true then some (xm_Mo_orderTold, [Value.ref x0, Value.int x1], r) else none) = some _
  rw [decide_eq_true h]; rfl
theorem xa_Mo_delayTold {x0 : Nat} {r : List Value} (h : xcat r ≤ 8) : xArg 204 (Value.ref x0 :: r) = some (xm_Mo_delayTold, [Value.ref x0], r) := by
  unfold xArg
  rw [show xMs[204]? = some xm_Mo_delayTold from rfl]
  show (if (true && decide (xcat r ≤ 8) && true) = true then some (xm_Mo_delayTold, [Value.ref x0], r) else none) = some _
  rw [decide_eq_true h]; rfl
theorem xa_Mo_otherTold {x0 : Nat} {x1 : Int32} {r : List Value} (h : xcat r ≤ 8) : xArg 205 (Value.int x1 :: Value.ref x0 :: r) = some (xm_Mo_otherTold, [Value.ref x0, Value.int x1], r) := by
  unfold xArg
  rw [show xMs[205]? = some xm_Mo_otherTold from rfl]
  show (if (true && decide (xcat r ≤ 8) && true) = true then some (xm_Mo_otherTold, [Value.ref x0, Value.int x1], r) else none) = some _
  rw [decide_eq_true h]; rfl
theorem xa_Mo_endsLine {x0 : Nat} {r : List Value} (h : xcat r ≤ 8) : xArg 206 (Value.ref x0 :: r) = some (xm_Mo_endsLine, [Value.ref x0], r) := by
  unfold xArg
  rw [show xMs[206]? = some xm_Mo_endsLine from rfl]
  show (if (true && decide (xcat r ≤ 8) && true) = true then some (xm_Mo_endsLine, [Value.ref x0], r) else none) = some _
  rw [decide_eq_true h]; rfl
theorem xa_Mo_runLine {x0 : Nat} {r : List Value} (h : xcat r ≤ 8) : xArg 207 (Value.ref x0 :: r) = some (xm_Mo_runLine, [Value.ref x0], r) := by
  unfold xArg
  rw [show xMs[207]? = some xm_Mo_runLine from rfl]
  show (if (true && decide (xcat r ≤ 8) && true) = true then some (xm_Mo_runLine, [Value.ref x0], r) else none) = some _
  rw [decide_eq_true h]; rfl
theorem xa_Mo_repliesLine {x0 : Nat} {r : List Value} (h : xcat r ≤ 8) : xArg 208 (Value.ref x0 :: r) = some (xm_Mo_repliesLine, [Value.ref x0], r) := by
  unfold xArg
  rw [show xMs[208]? = some xm_Mo_repliesLine from rfl]
  show (if (true && decide (xcat r ≤ 8) && true) = true then some (xm_Mo_repliesLine, [Value.ref x0], r) else none) = some _
  rw [decide_eq_true h]; rfl
theorem xa_Mo_sizeOf {x0 : Int32} {r : List Value} (h : xcat r ≤ 8) : xArg 209 (Value.int x0 :: r) = some (xm_Mo_sizeOf, [Value.int x0], r) := by
  unfold xArg
  rw [show xMs[209]? = some xm_Mo_sizeOf from rfl]
  show (if (true && decide (xcat r ≤ 8) && true) = true then some (xm_Mo_sizeOf, [Value.int x0], r) else none) = some _
  rw [decide_eq_true h]; rfl
theorem xa_Mo_placeOf {x0 : Int32} {x1 : Int32} {r : List Value} (h : xcat r ≤ 8) : xArg 210 (Value.int x1 :: Value.int x0 :: r) = some (xm_Mo_placeOf, [Value.int x0, Value.int x1], r) := by
  unfold xArg
  rw [show xMs[210]? = some xm_Mo_placeOf from rfl]
  show (if (true && decide (xcat r ≤ 8) && true) = true then some (xm_Mo_placeOf, [Value.int x0, Value.int x1], r) else none) = some _
  rw [decide_eq_true h]; rfl
theorem xa_Mo_fault {x0 : Nat} {x1 : Int32} {r : List Value} (h : xcat r ≤ 8) : xArg 211 (Value.int x1 :: Value.ref x0 :: r) = some (xm_Mo_fault, [Value.ref x0, Value.int x1], r) := by
  unfold xArg
  rw [show xMs[211]? = some xm_Mo_fault from rfl]
  show (if (true && decide (xcat r ≤ 8) && true) = true then some (xm_Mo_fault, [Value.ref x0, Value.int x1], r) else none) = some _
  rw [decide_eq_true h]; rfl
theorem xa_Mo_council {x0 : Nat} {x1 : Int32} {x2 : Int32} {r : List Value} (h : xcat r ≤ 8) : xArg 212 (Value.int x2 :: Value.int x1 :: Value.ref x0 :: r) = some (xm_Mo_council, [Value.ref x0, Value.int x1, Value.int x2], r) := by
  unfold xArg
  rw [show xMs[212]? = some xm_Mo_council from rfl]
  show (if (true && decide (xcat r ≤ 8) && true) = true then some (xm_Mo_council, [Value.ref x0, Value.int x1, Value.int x2], r) else none) = some _
  rw [decide_eq_true h]; rfl
theorem xa_Mo_isCouncil {x0 : Nat} {x1 : Int32} {r : List Value} (h : xcat r ≤ 8) : xArg 213 (Value.int x1 :: Value.ref x0 :: r) = some (xm_Mo_isCouncil, [Value.ref x0, Value.int x1], r) := by
  unfold xArg
  rw [show xMs[213]? = some xm_Mo_isCouncil from rfl]
  show (if (true && decide (xcat r ≤ 8) && true) = true then some (xm_Mo_isCouncil, [Value.ref x0, Value.int x1], r) else none) = some _
  rw [decide_eq_true h]; rfl
theorem xa_Mo_isMember {x0 : Nat} {x1 : Int32} {r : List Value} (h : xcat r ≤ 8) : xArg 214 (Value.int x1 :: Value.ref x0 :: r) = some (xm_Mo_isMember, [Value.ref x0, Value.int x1], r) := by
  unfold xArg
  rw [show xMs[214]? = some xm_Mo_isMember from rfl]
  show (if (true && decide (xcat r ≤ 8) && true) = true then some (xm_Mo_isMember, [Value.ref x0, Value.int x1], r) else none) = some _
  rw [decide_eq_true h]; rfl
theorem xa_Mo_delayOf {x0 : Nat} {x1 : Int32} {x2 : Int32} {r : List Value} (h : xcat r ≤ 8) : xArg 215 (Value.int x2 :: Value.int x1 :: Value.ref x0 :: r) = some (xm_Mo_delayOf, [Value.ref x0, Value.int x1, Value.int x2], r) := by
  unfold xArg
  rw [show xMs[215]? = some xm_Mo_delayOf from rfl]
  show (if (true && decide (xcat r ≤ 8) && true) = true then some (xm_Mo_delayOf, [Value.ref x0, Value.int x1, Value.int x2], r) else none) = some _
  rw [decide_eq_true h]; rfl
theorem xa_Mo_orderAccount {x0 : Nat} {x1 : Int32} {r : List Value} (h : xcat r ≤ 8) : xArg 216 (Value.int x1 :: Value.ref x0 :: r) = some (xm_Mo_orderAccount, [Value.ref x0, Value.int x1], r) := by
  unfold xArg
  rw [show xMs[216]? = some xm_Mo_orderAccount from rfl]
  show (if (true && decide (xcat r ≤ 8) && true) = true then some (xm_Mo_orderAccount, [Value.ref x0, Value.int x1], r) else none) = some _
  rw [decide_eq_true h]; rfl
theorem xa_Mo_orderPlus {x0 : Nat} {x1 : Int32} {r : List Value} (h : xcat r ≤ 8) : xArg 217 (Value.int x1 :: Value.ref x0 :: r) = some (xm_Mo_orderPlus, [Value.ref x0, Value.int x1], r) := by
  unfold xArg
  rw [show xMs[217]? = some xm_Mo_orderPlus from rfl]
  show (if (true && decide (xcat r ≤ 8) && true) = true then some (xm_Mo_orderPlus, [Value.ref x0, Value.int x1], r) else none) = some _
  rw [decide_eq_true h]; rfl
theorem xa_Mo_tree {x0 : Nat} {x1 : Int32} {x2 : Int32} {r : List Value} (h : xcat r ≤ 8) : xArg 218 (Value.int x2 :: Value.int x1 :: Value.ref x0 :: r) = some (xm_Mo_tree, [Value.ref x0, Value.int x1, Value.int x2], r) := by
  unfold xArg
  rw [show xMs[218]? = some xm_Mo_tree from rfl]
  show (if (true && decide (xcat r ≤ 8) && true) = true then some (xm_Mo_tree, [Value.ref x0, Value.int x1, Value.int x2], r) else none) = some _
  rw [decide_eq_true h]; rfl
theorem xa_Mo_laysSums {x0 : Nat} {x1 : Nat} {x2 : Int32} {r : List Value} (h : xcat r ≤ 8) : xArg 219 (Value.int x2 :: Value.ref x1 :: Value.ref x0 :: r) = some (xm_Mo_laysSums, [Value.ref x0, Value.ref x1, Value.int x2], r) := by
  unfold xArg
  rw [show xMs[219]? = some xm_Mo_laysSums from rfl]
  show (if (true && decide (xcat r ≤ 8) && true) = true then some (xm_Mo_laysSums, [Value.ref x0, Value.ref x1, Value.int x2], r) else none) = some _
  rw [decide_eq_true h]; rfl
theorem xa_Mo_differ {x0 : Nat} {x1 : Int32} {x2 : Int32} {x3 : Int32} {r : List Value} (h : xcat r ≤ 8) : xArg 220 (Value.int x3 :: Value.int x2 :: Value.int x1 :: Value.ref x0 :: r) = some (xm_Mo_differ, [Value.ref x0, Value.int x1, Value.int x2, Value.int x3], r) := by
  unfold xArg
  rw [show xMs[220]? = some xm_Mo_differ from rfl]
  show (if (true && decide (xcat r ≤ 8) && true) = true then some (xm_Mo_differ, [Value.ref x0, Value.int x1, Value.int x2, Value.int x3], r) else none) = some _
  rw [decide_eq_true h]; rfl
theorem xa_Mo_seeks {x0 : Nat} {r : List Value} (h : xcat r ≤ 8) : xArg 221 (Value.ref x0 :: r) = some (xm_Mo_seeks, [Value.ref x0], r) := by
  unfold xArg
  rw [show xMs[221]? = some xm_Mo_seeks from rfl]
  show (if (true && decide (xcat r ≤ 8) && true) = true then some (xm_Mo_seeks, [Value.ref x0], r) else none) = some _
  rw [decide_eq_true h]; rfl
theorem xa_Mo_quorum {x0 : Nat} {x1 : Int32} {x2 : Int32} {r : List Value} (h : xcat r ≤ 8) : xArg 222 (Value.int x2 :: Value.int x1 :: Value.ref x0 :: r) = some (xm_Mo_quorum, [Value.ref x0, Value.int x1, Value.int x2], r) := by
  unfold xArg
  rw [show xMs[222]? = some xm_Mo_quorum from rfl]
  show (if (true && decide (xcat r ≤ 8) && true) = true then some (xm_Mo_quorum, [Value.ref x0, Value.int x1, Value.int x2], r) else none) = some _
  rw [decide_eq_true h]; rfl
theorem xa_Mo_isLiar {x0 : Nat} {x1 : Int32} {r : List Value} (h : xcat r ≤ 8) : xArg 223 (Value.int x1 :: Value.ref x0 :: r) = some (xm_Mo_isLiar, [Value.ref x0, Value.int x1], r) := by
  unfold xArg
  rw [show xMs[223]? = some xm_Mo_isLiar from rfl]
  show (if (true && decide (xcat r ≤ 8) && true) = true then some (xm_Mo_isLiar, [Value.ref x0, Value.int x1], r) else none) = some _
  rw [decide_eq_true h]; rfl
theorem xa_Mo_bitsOf {x0 : Int32} {r : List Value} (h : xcat r ≤ 8) : xArg 224 (Value.int x0 :: r) = some (xm_Mo_bitsOf, [Value.int x0], r) := by
  unfold xArg
  rw [show xMs[224]? = some xm_Mo_bitsOf from rfl]
  show (if (true && decide (xcat r ≤ 8) && true) = true then some (xm_Mo_bitsOf, [Value.int x0], r) else none) = some _
  rw [decide_eq_true h]; rfl
theorem xa_Mo_deed {x0 : Nat} {x1 : Int32} {x2 : Int32} {x3 : Int32} {r : List Value} (h : xcat r ≤ 8) : xArg 225 (Value.int x3 :: Value.int x2 :: Value.int x1 :: Value.ref x0 :: r) = some (xm_Mo_deed, [Value.ref x0, Value.int x1, Value.int x2, Value.int x3], r) := by
  unfold xArg
  rw [show xMs[225]? = some xm_Mo_deed from rfl]
  show (if (true && decide (xcat r ≤ 8) && true) = true then some (xm_Mo_deed, [Value.ref x0, Value.int x1, Value.int x2, Value.int x3], r) else none) = some _
  rw [decide_eq_true h]; rfl
theorem xa_Mo_isRun {x0 : Nat} {x1 : Int32} {r : List Value} (h : xcat r ≤ 8) : xArg 226 (Value.int x1 :: Value.ref x0 :: r) = some (xm_Mo_isRun, [Value.ref x0, Value.int x1], r) := by
  unfold xArg
  rw [show xMs[226]? = some xm_Mo_isRun from rfl]
  show (if (true && decide (xcat r ≤ 8) && true) = true then some (xm_Mo_isRun, [Value.ref x0, Value.int x1], r) else none) = some _
  rw [decide_eq_true h]; rfl
theorem xa_Mo_stop {x0 : Nat} {x1 : Int32} {x2 : Int32} {r : List Value} (h : xcat r ≤ 8) : xArg 227 (Value.int x2 :: Value.int x1 :: Value.ref x0 :: r) = some (xm_Mo_stop, [Value.ref x0, Value.int x1, Value.int x2], r) := by
  unfold xArg
  rw [show xMs[227]? = some xm_Mo_stop from rfl]
  show (if (true && decide (xcat r ≤ 8) && true) = true then some (xm_Mo_stop, [Value.ref x0, Value.int x1, Value.int x2], r) else none) = some _
  rw [decide_eq_true h]; rfl
theorem xa_Mo_goes {x0 : Nat} {x1 : Int32} {r : List Value} (h : xcat r ≤ 8) : xArg 228 (Value.int x1 :: Value.ref x0 :: r) = some (xm_Mo_goes, [Value.ref x0, Value.int x1], r) := by
  unfold xArg
  rw [show xMs[228]? = some xm_Mo_goes from rfl]
  show (if (true && decide (xcat r ≤ 8) && true) = true then some (xm_Mo_goes, [Value.ref x0, Value.int x1], r) else none) = some _
  rw [decide_eq_true h]; rfl
theorem xa_Mo_begins {x0 : Nat} {r : List Value} (h : xcat r ≤ 8) : xArg 229 (Value.ref x0 :: r) = some (xm_Mo_begins, [Value.ref x0], r) := by
  unfold xArg
  rw [show xMs[229]? = some xm_Mo_begins from rfl]
  show (if (true && decide (xcat r ≤ 8) && true) = true then some (xm_Mo_begins, [Value.ref x0], r) else none) = some _
  rw [decide_eq_true h]; rfl
theorem xa_Mo_does {x0 : Nat} {x1 : Int32} {x2 : Int32} {x3 : Int32} {x4 : Int32} {r : List Value} (h : xcat r ≤ 8) : xArg 230 (Value.int x4 :: Value.int x3 :: Value.int x2 :: Value.int x1 :: Value.ref x0 :: r) = some (xm_Mo_does, [Value.ref x0, Value.int x1, Value.int x2, Value.int x3, Value.int x4], r) := by
  unfold xArg
  rw [show xMs[230]? = some xm_Mo_does from rfl]
  show (if (true && decide (xcat r ≤ 8) && true) = true then some (xm_Mo_does, [Value.ref x0, Value.int x1, Value.int x2, Value.int x3, Value.int x4], r) else none) = some _
  rw [decide_eq_true h]; rfl
theorem xa_Mo_proposes {x0 : Nat} {x1 : Int32} {x2 : Int32} {x3 : Int32} {r : List Value} (h : xcat r ≤ 8) : xArg 231 (Value.int x3 :: Value.int x2 :: Value.int x1 :: Value.ref x0 :: r) = some (xm_Mo_proposes, [Value.ref x0, Value.int x1, Value.int x2, Value.int x3], r) := by
  unfold xArg
  rw [show xMs[231]? = some xm_Mo_proposes from rfl]
  show (if (true && decide (xcat r ≤ 8) && true) = true then some (xm_Mo_proposes, [Value.ref x0, Value.int x1, Value.int x2, Value.int x3], r) else none) = some _
  rw [decide_eq_true h]; rfl
theorem xa_Mo_isWithin {x0 : Nat} {x1 : Int32} {x2 : Int32} {r : List Value} (h : xcat r ≤ 8) : xArg 232 (Value.int x2 :: Value.int x1 :: Value.ref x0 :: r) = some (xm_Mo_isWithin, [Value.ref x0, Value.int x1, Value.int x2], r) := by
  unfold xArg
  rw [show xMs[232]? = some xm_Mo_isWithin from rfl]
  show (if (true && decide (xcat r ≤ 8) && true) = true then some (xm_Mo_isWithin, [Value.ref x0, Value.int x1, Value.int x2], r) else none) = some _
  rw [decide_eq_true h]; rfl
theorem xa_Mo_at {x0 : Int32} {x1 : Int32} {r : List Value} (h : xcat r ≤ 8) : xArg 233 (Value.int x1 :: Value.int x0 :: r) = some (xm_Mo_at, [Value.int x0, Value.int x1], r) := by
  unfold xArg
  rw [show xMs[233]? = some xm_Mo_at from rfl]
  show (if (true && decide (xcat r ≤ 8) && true) = true then some (xm_Mo_at, [Value.int x0, Value.int x1], r) else none) = some _
  rw [decide_eq_true h]; rfl
theorem xa_Mo_primaryOf {x0 : Nat} {x1 : Int32} {r : List Value} (h : xcat r ≤ 8) : xArg 234 (Value.int x1 :: Value.ref x0 :: r) = some (xm_Mo_primaryOf, [Value.ref x0, Value.int x1], r) := by
  unfold xArg
  rw [show xMs[234]? = some xm_Mo_primaryOf from rfl]
  show (if (true && decide (xcat r ≤ 8) && true) = true then some (xm_Mo_primaryOf, [Value.ref x0, Value.int x1], r) else none) = some _
  rw [decide_eq_true h]; rfl
theorem xa_Mo_accepts {x0 : Nat} {x1 : Int32} {x2 : Int32} {x3 : Int32} {r : List Value} (h : xcat r ≤ 8) : xArg 235 (Value.int x3 :: Value.int x2 :: Value.int x1 :: Value.ref x0 :: r) = some (xm_Mo_accepts, [Value.ref x0, Value.int x1, Value.int x2, Value.int x3], r) := by
  unfold xArg
  rw [show xMs[235]? = some xm_Mo_accepts from rfl]
  show (if (true && decide (xcat r ≤ 8) && true) = true then some (xm_Mo_accepts, [Value.ref x0, Value.int x1, Value.int x2, Value.int x3], r) else none) = some _
  rw [decide_eq_true h]; rfl
theorem xa_Mo_settles {x0 : Nat} {x1 : Int32} {x2 : Int32} {r : List Value} (h : xcat r ≤ 8) : xArg 236 (Value.int x2 :: Value.int x1 :: Value.ref x0 :: r) = some (xm_Mo_settles, [Value.ref x0, Value.int x1, Value.int x2], r) := by
  unfold xArg
  rw [show xMs[236]? = some xm_Mo_settles from rfl]
  show (if (true && decide (xcat r ≤ 8) && true) = true then some (xm_Mo_settles, [Value.ref x0, Value.int x1, Value.int x2], r) else none) = some _
  rw [decide_eq_true h]; rfl
theorem xa_Mo_isPrepared {x0 : Nat} {x1 : Int32} {x2 : Int32} {r : List Value} (h : xcat r ≤ 8) : xArg 237 (Value.int x2 :: Value.int x1 :: Value.ref x0 :: r) = some (xm_Mo_isPrepared, [Value.ref x0, Value.int x1, Value.int x2], r) := by
  unfold xArg
  rw [show xMs[237]? = some xm_Mo_isPrepared from rfl]
  show (if (true && decide (xcat r ≤ 8) && true) = true then some (xm_Mo_isPrepared, [Value.ref x0, Value.int x1, Value.int x2], r) else none) = some _
  rw [decide_eq_true h]; rfl
theorem xa_Mo_words {x0 : Nat} {x1 : Int32} {x2 : Int32} {x3 : Int32} {x4 : Int32} {r : List Value} (h : xcat r ≤ 8) : xArg 238 (Value.int x4 :: Value.int x3 :: Value.int x2 :: Value.int x1 :: Value.ref x0 :: r) = some (xm_Mo_words, [Value.ref x0, Value.int x1, Value.int x2, Value.int x3, Value.int x4], r) := by
  unfold xArg
  rw [show xMs[238]? = some xm_Mo_words from rfl]
  show (if (true && decide (xcat r ≤ 8) && true) = true then some (xm_Mo_words, [Value.ref x0, Value.int x1, Value.int x2, Value.int x3, Value.int x4], r) else none) = some _
  rw [decide_eq_true h]; rfl
theorem xa_Mo_isWord {x0 : Nat} {x1 : Int32} {x2 : Int32} {x3 : Int32} {x4 : Int32} {r : List Value} (h : xcat r ≤ 8) : xArg 239 (Value.int x4 :: Value.int x3 :: Value.int x2 :: Value.int x1 :: Value.ref x0 :: r) = some (xm_Mo_isWord, [Value.ref x0, Value.int x1, Value.int x2, Value.int x3, Value.int x4], r) := by
  unfold xArg
  rw [show xMs[239]? = some xm_Mo_isWord from rfl]
  show (if (true && decide (xcat r ≤ 8) && true) = true then some (xm_Mo_isWord, [Value.ref x0, Value.int x1, Value.int x2, Value.int x3, Value.int x4], r) else none) = some _
  rw [decide_eq_true h]; rfl
theorem xa_Mo_runsOn {x0 : Nat} {x1 : Int32} {r : List Value} (h : xcat r ≤ 8) : xArg 240 (Value.int x1 :: Value.ref x0 :: r) = some (xm_Mo_runsOn, [Value.ref x0, Value.int x1], r) := by
  unfold xArg
  rw [show xMs[240]? = some xm_Mo_runsOn from rfl]
  show (if (true && decide (xcat r ≤ 8) && true) = true then some (xm_Mo_runsOn, [Value.ref x0, Value.int x1], r) else none) = some _
  rw [decide_eq_true h]; rfl
theorem xa_Mo_canRun {x0 : Nat} {x1 : Int32} {r : List Value} (h : xcat r ≤ 8) : xArg 241 (Value.int x1 :: Value.ref x0 :: r) = some (xm_Mo_canRun, [Value.ref x0, Value.int x1], r) := by
  unfold xArg
  rw [show xMs[241]? = some xm_Mo_canRun from rfl]
  show (if (true && decide (xcat r ≤ 8) && true) = true then some (xm_Mo_canRun, [Value.ref x0, Value.int x1], r) else none) = some _
  rw [decide_eq_true h]; rfl
theorem xa_Mo_isCommitted {x0 : Nat} {x1 : Int32} {x2 : Int32} {r : List Value} (h : xcat r ≤ 8) : xArg 242 (Value.int x2 :: Value.int x1 :: Value.ref x0 :: r) = some (xm_Mo_isCommitted, [Value.ref x0, Value.int x1, Value.int x2], r) := by
  unfold xArg
  rw [show xMs[242]? = some xm_Mo_isCommitted from rfl]
  show (if (true && decide (xcat r ≤ 8) && true) = true then some (xm_Mo_isCommitted, [Value.ref x0, Value.int x1, Value.int x2], r) else none) = some _
  rw [decide_eq_true h]; rfl
theorem xa_Mo_runsOne {x0 : Nat} {x1 : Int32} {r : List Value} (h : xcat r ≤ 8) : xArg 243 (Value.int x1 :: Value.ref x0 :: r) = some (xm_Mo_runsOne, [Value.ref x0, Value.int x1], r) := by
  unfold xArg
  rw [show xMs[243]? = some xm_Mo_runsOne from rfl]
  show (if (true && decide (xcat r ≤ 8) && true) = true then some (xm_Mo_runsOne, [Value.ref x0, Value.int x1], r) else none) = some _
  rw [decide_eq_true h]; rfl
theorem xa_Mo_checks {x0 : Nat} {x1 : Int32} {r : List Value} (h : xcat r ≤ 8) : xArg 244 (Value.int x1 :: Value.ref x0 :: r) = some (xm_Mo_checks, [Value.ref x0, Value.int x1], r) := by
  unfold xArg
  rw [show xMs[244]? = some xm_Mo_checks from rfl]
  show (if (true && decide (xcat r ≤ 8) && true) = true then some (xm_Mo_checks, [Value.ref x0, Value.int x1], r) else none) = some _
  rw [decide_eq_true h]; rfl
theorem xa_Mo_rootOf {x0 : Nat} {x1 : Nat} {x2 : Int32} {r : List Value} (h : xcat r ≤ 8) : xArg 245 (Value.int x2 :: Value.ref x1 :: Value.ref x0 :: r) = some (xm_Mo_rootOf, [Value.ref x0, Value.ref x1, Value.int x2], r) := by
  unfold xArg
  rw [show xMs[245]? = some xm_Mo_rootOf from rfl]
  show (if (true && decide (xcat r ≤ 8) && true) = true then some (xm_Mo_rootOf, [Value.ref x0, Value.ref x1, Value.int x2], r) else none) = some _
  rw [decide_eq_true h]; rfl
theorem xa_Mo_counts {x0 : Nat} {x1 : Int32} {r : List Value} (h : xcat r ≤ 8) : xArg 246 (Value.int x1 :: Value.ref x0 :: r) = some (xm_Mo_counts, [Value.ref x0, Value.int x1], r) := by
  unfold xArg
  rw [show xMs[246]? = some xm_Mo_counts from rfl]
  show (if (true && decide (xcat r ≤ 8) && true) = true then some (xm_Mo_counts, [Value.ref x0, Value.int x1], r) else none) = some _
  rw [decide_eq_true h]; rfl
theorem xa_Mo_cuts {x0 : Nat} {x1 : Int32} {x2 : Int32} {r : List Value} (h : xcat r ≤ 8) : xArg 247 (Value.int x2 :: Value.int x1 :: Value.ref x0 :: r) = some (xm_Mo_cuts, [Value.ref x0, Value.int x1, Value.int x2], r) := by
  unfold xArg
  rw [show xMs[247]? = some xm_Mo_cuts from rfl]
  show (if (true && decide (xcat r ≤ 8) && true) = true then some (xm_Mo_cuts, [Value.ref x0, Value.int x1, Value.int x2], r) else none) = some _
  rw [decide_eq_true h]; rfl
theorem xa_Mo_forgets {x0 : Nat} {x1 : Int32} {x2 : Int32} {r : List Value} (h : xcat r ≤ 8) : xArg 248 (Value.int x2 :: Value.int x1 :: Value.ref x0 :: r) = some (xm_Mo_forgets, [Value.ref x0, Value.int x1, Value.int x2], r) := by
  unfold xArg
  rw [show xMs[248]? = some xm_Mo_forgets from rfl]
  show (if (true && decide (xcat r ≤ 8) && true) = true then some (xm_Mo_forgets, [Value.ref x0, Value.int x1, Value.int x2], r) else none) = some _
  rw [decide_eq_true h]; rfl
theorem xa_Mo_marks {x0 : Nat} {x1 : Int32} {x2 : Int32} {r : List Value} (h : xcat r ≤ 8) : xArg 249 (Value.int x2 :: Value.int x1 :: Value.ref x0 :: r) = some (xm_Mo_marks, [Value.ref x0, Value.int x1, Value.int x2], r) := by
  unfold xArg
  rw [show xMs[249]? = some xm_Mo_marks from rfl]
  show (if (true && decide (xcat r ≤ 8) && true) = true then some (xm_Mo_marks, [Value.ref x0, Value.int x1, Value.int x2], r) else none) = some _
  rw [decide_eq_true h]; rfl
theorem xa_Mo_fetches {x0 : Nat} {x1 : Int32} {x2 : Int32} {r : List Value} (h : xcat r ≤ 8) : xArg 250 (Value.int x2 :: Value.int x1 :: Value.ref x0 :: r) = some (xm_Mo_fetches, [Value.ref x0, Value.int x1, Value.int x2], r) := by
  unfold xArg
  rw [show xMs[250]? = some xm_Mo_fetches from rfl]
  show (if (true && decide (xcat r ≤ 8) && true) = true then some (xm_Mo_fetches, [Value.ref x0, Value.int x1, Value.int x2], r) else none) = some _
  rw [decide_eq_true h]; rfl
theorem xa_Mo_doubts {x0 : Nat} {x1 : Int32} {r : List Value} (h : xcat r ≤ 8) : xArg 251 (Value.int x1 :: Value.ref x0 :: r) = some (xm_Mo_doubts, [Value.ref x0, Value.int x1], r) := by
  unfold xArg
  rw [show xMs[251]? = some xm_Mo_doubts from rfl]
  show (if (true && decide (xcat r ≤ 8) && true) = true then some (xm_Mo_doubts, [Value.ref x0, Value.int x1], r) else none) = some _
  rw [decide_eq_true h]; rfl
theorem xa_Mo_makes {x0 : Nat} {x1 : Int32} {r : List Value} (h : xcat r ≤ 8) : xArg 252 (Value.int x1 :: Value.ref x0 :: r) = some (xm_Mo_makes, [Value.ref x0, Value.int x1], r) := by
  unfold xArg
  rw [show xMs[252]? = some xm_Mo_makes from rfl]
  show (if (true && decide (xcat r ≤ 8) && true) = true then some (xm_Mo_makes, [Value.ref x0, Value.int x1], r) else none) = some _
  rw [decide_eq_true h]; rfl
theorem xa_Mo_merges {x0 : Nat} {x1 : Int32} {r : List Value} (h : xcat r ≤ 8) : xArg 253 (Value.int x1 :: Value.ref x0 :: r) = some (xm_Mo_merges, [Value.ref x0, Value.int x1], r) := by
  unfold xArg
  rw [show xMs[253]? = some xm_Mo_merges from rfl]
  show (if (true && decide (xcat r ≤ 8) && true) = true then some (xm_Mo_merges, [Value.ref x0, Value.int x1], r) else none) = some _
  rw [decide_eq_true h]; rfl
theorem xa_Mo_orderBy {x0 : Nat} {x1 : Int32} {x2 : Int32} {r : List Value} (h : xcat r ≤ 8) : xArg 254 (Value.int x2 :: Value.int x1 :: Value.ref x0 :: r) = some (xm_Mo_orderBy, [Value.ref x0, Value.int x1, Value.int x2], r) := by
  unfold xArg
  rw [show xMs[254]? = some xm_Mo_orderBy from rfl]
  show (if (true && decide (xcat r ≤ 8) && true) = true then some (xm_Mo_orderBy, [Value.ref x0, Value.int x1, Value.int x2], r) else none) = some _
  rw [decide_eq_true h]; rfl
theorem xa_Mo_entersView {x0 : Nat} {x1 : Int32} {r : List Value} (h : xcat r ≤ 8) : xArg 255 (Value.int x1 :: Value.ref x0 :: r) = some (xm_Mo_entersView, [Value.ref x0, Value.int x1], r) := by
  unfold xArg
  rw [show xMs[255]? = some xm_Mo_entersView from rfl]
  show (if (true && decide (xcat r ≤ 8) && true) = true then some (xm_Mo_entersView, [Value.ref x0, Value.int x1], r) else none) = some _
  rw [decide_eq_true h]; rfl
theorem xa_Mo_entersAlone {x0 : Nat} {x1 : Int32} {r : List Value} (h : xcat r ≤ 8) : xArg 256 (Value.int x1 :: Value.ref x0 :: r) = some (xm_Mo_entersAlone, [Value.ref x0, Value.int x1], r) := by
  unfold xArg
  rw [show xMs[256]? = some xm_Mo_entersAlone from rfl]
  show (if (true && decide (xcat r ≤ 8) && true) = true then some (xm_Mo_entersAlone, [Value.ref x0, Value.int x1], r) else none) = some _
  rw [decide_eq_true h]; rfl
theorem xa_Mo_state {x0 : Nat} {x1 : Int32} {x2 : Int32} {x3 : Int32} {x4 : Int32} {x5 : Int32} {r : List Value} (h : xcat r ≤ 8) : xArg 257 (Value.int x5 :: Value.int x4 :: Value.int x3 :: Value.int x2 :: Value.int x1 :: Value.ref x0 :: r) = some (xm_Mo_state, [Value.ref x0, Value.int x1, Value.int x2, Value.int x3, Value.int x4, Value.int x5], r) := by
  unfold xArg
  rw [show xMs[257]? = some xm_Mo_state from rfl]
  show (if (true && decide (xcat r ≤ 8) && true) = true then some (xm_Mo_state, [Value.ref x0, Value.int x1, Value.int x2, Value.int x3, Value.int x4, Value.int x5], r) else none) = some _
  rw [decide_eq_true h]; rfl
theorem xa_Mo_isState {x0 : Nat} {x1 : Int32} {x2 : Int32} {x3 : Int32} {r : List Value} (h : xcat r ≤ 8) : xArg 258 (Value.int x3 :: Value.int x2 :: Value.int x1 :: Value.ref x0 :: r) = some (xm_Mo_isState, [Value.ref x0, Value.int x1, Value.int x2, Value.int x3], r) := by
  unfold xArg
  rw [show xMs[258]? = some xm_Mo_isState from rfl]
  show (if (true && decide (xcat r ≤ 8) && true) = true then some (xm_Mo_isState, [Value.ref x0, Value.int x1, Value.int x2, Value.int x3], r) else none) = some _
  rw [decide_eq_true h]; rfl
theorem xa_Mo_nowOf {x0 : Nat} {x1 : Int32} {x2 : Int32} {r : List Value} (h : xcat r ≤ 8) : xArg 259 (Value.int x2 :: Value.int x1 :: Value.ref x0 :: r) = some (xm_Mo_nowOf, [Value.ref x0, Value.int x1, Value.int x2], r) := by
  unfold xArg
  rw [show xMs[259]? = some xm_Mo_nowOf from rfl]
  show (if (true && decide (xcat r ≤ 8) && true) = true then some (xm_Mo_nowOf, [Value.ref x0, Value.int x1, Value.int x2], r) else none) = some _
  rw [decide_eq_true h]; rfl
theorem xa_Mo_placeNow {x0 : Nat} {x1 : Int32} {x2 : Int32} {x3 : Int32} {r : List Value} (h : xcat r ≤ 8) : xArg 260 (Value.int x3 :: Value.int x2 :: Value.int x1 :: Value.ref x0 :: r) = some (xm_Mo_placeNow, [Value.ref x0, Value.int x1, Value.int x2, Value.int x3], r) := by
  unfold xArg
  rw [show xMs[260]? = some xm_Mo_placeNow from rfl]
  show (if (true && decide (xcat r ≤ 8) && true) = true then some (xm_Mo_placeNow, [Value.ref x0, Value.int x1, Value.int x2, Value.int x3], r) else none) = some _
  rw [decide_eq_true h]; rfl
theorem xa_Mo_made {x0 : Nat} {x1 : Int32} {x2 : Int32} {x3 : Int32} {x4 : Int32} {x5 : Int32} {r : List Value} (h : xcat r ≤ 8) : xArg 261 (Value.int x5 :: Value.int x4 :: Value.int x3 :: Value.int x2 :: Value.int x1 :: Value.ref x0 :: r) = some (xm_Mo_made, [Value.ref x0, Value.int x1, Value.int x2, Value.int x3, Value.int x4, Value.int x5], r) := by
  unfold xArg
  rw [show xMs[261]? = some xm_Mo_made from rfl]
  show (if (true && decide (xcat r ≤ 8) && true) = true then some (xm_Mo_made, [Value.ref x0, Value.int x1, Value.int x2, Value.int x3, Value.int x4, Value.int x5], r) else none) = some _
  rw [decide_eq_true h]; rfl
theorem xa_Mo_unlike {x0 : Nat} {x1 : Int32} {x2 : Int32} {x3 : Int32} {r : List Value} (h : xcat r ≤ 8) : xArg 262 (Value.int x3 :: Value.int x2 :: Value.int x1 :: Value.ref x0 :: r) = some (xm_Mo_unlike, [Value.ref x0, Value.int x1, Value.int x2, Value.int x3], r) := by
  unfold xArg
  rw [show xMs[262]? = some xm_Mo_unlike from rfl]
  show (if (true && decide (xcat r ≤ 8) && true) = true then some (xm_Mo_unlike, [Value.ref x0, Value.int x1, Value.int x2, Value.int x3], r) else none) = some _
  rw [decide_eq_true h]; rfl
theorem xa_Mo_placesBy {x0 : Nat} {x1 : Int32} {r : List Value} (h : xcat r ≤ 8) : xArg 263 (Value.int x1 :: Value.ref x0 :: r) = some (xm_Mo_placesBy, [Value.ref x0, Value.int x1], r) := by
  unfold xArg
  rw [show xMs[263]? = some xm_Mo_placesBy from rfl]
  show (if (true && decide (xcat r ≤ 8) && true) = true then some (xm_Mo_placesBy, [Value.ref x0, Value.int x1], r) else none) = some _
  rw [decide_eq_true h]; rfl
theorem xa_Mo_ranSo {x0 : Nat} {x1 : Int32} {x2 : Int32} {r : List Value} (h : xcat r ≤ 8) : xArg 264 (Value.int x2 :: Value.int x1 :: Value.ref x0 :: r) = some (xm_Mo_ranSo, [Value.ref x0, Value.int x1, Value.int x2], r) := by
  unfold xArg
  rw [show xMs[264]? = some xm_Mo_ranSo from rfl]
  show (if (true && decide (xcat r ≤ 8) && true) = true then some (xm_Mo_ranSo, [Value.ref x0, Value.int x1, Value.int x2], r) else none) = some _
  rw [decide_eq_true h]; rfl
theorem xa_Mo_ranBy {x0 : Nat} {x1 : Int32} {r : List Value} (h : xcat r ≤ 8) : xArg 265 (Value.int x1 :: Value.ref x0 :: r) = some (xm_Mo_ranBy, [Value.ref x0, Value.int x1], r) := by
  unfold xArg
  rw [show xMs[265]? = some xm_Mo_ranBy from rfl]
  show (if (true && decide (xcat r ≤ 8) && true) = true then some (xm_Mo_ranBy, [Value.ref x0, Value.int x1], r) else none) = some _
  rw [decide_eq_true h]; rfl
theorem xa_Mo_merged {x0 : Nat} {x1 : Int32} {x2 : Int32} {x3 : Int32} {x4 : Int32} {x5 : Int32} {r : List Value} (h : xcat r ≤ 8) : xArg 266 (Value.int x5 :: Value.int x4 :: Value.int x3 :: Value.int x2 :: Value.int x1 :: Value.ref x0 :: r) = some (xm_Mo_merged, [Value.ref x0, Value.int x1, Value.int x2, Value.int x3, Value.int x4, Value.int x5], r) := by
  unfold xArg
  rw [show xMs[266]? = some xm_Mo_merged from rfl]
  show (if (true && decide (xcat r ≤ 8) && true) = true then some (xm_Mo_merged, [Value.ref x0, Value.int x1, Value.int x2, Value.int x3, Value.int x4, Value.int x5], r) else none) = some _
  rw [decide_eq_true h]; rfl
theorem xa_Mo_sure {x0 : Nat} {x1 : Int32} {x2 : Int32} {x3 : Int32} {x4 : Int32} {x5 : Int32} {r : List Value} (h : xcat r ≤ 8) : xArg 267 (Value.int x5 :: Value.int x4 :: Value.int x3 :: Value.int x2 :: Value.int x1 :: Value.ref x0 :: r) = some (xm_Mo_sure, [Value.ref x0, Value.int x1, Value.int x2, Value.int x3, Value.int x4, Value.int x5], r) := by
  unfold xArg
  rw [show xMs[267]? = some xm_Mo_sure from rfl]
  show (if (true && decide (xcat r ≤ 8) && true) = true then some (xm_Mo_sure, [Value.ref x0, Value.int x1, Value.int x2, Value.int x3, Value.int x4, Value.int x5], r) else none) = some _
  rw [decide_eq_true h]; rfl
theorem xa_Mo_after {x0 : Nat} {x1 : Int32} {x2 : Int32} {x3 : Int32} {r : List Value} (h : xcat r ≤ 8) : xArg 268 (Value.int x3 :: Value.int x2 :: Value.int x1 :: Value.ref x0 :: r) = some (xm_Mo_after, [Value.ref x0, Value.int x1, Value.int x2, Value.int x3], r) := by
  unfold xArg
  rw [show xMs[268]? = some xm_Mo_after from rfl]
  show (if (true && decide (xcat r ≤ 8) && true) = true then some (xm_Mo_after, [Value.ref x0, Value.int x1, Value.int x2, Value.int x3], r) else none) = some _
  rw [decide_eq_true h]; rfl
theorem xa_Mo_honestBy {x0 : Nat} {x1 : Int32} {r : List Value} (h : xcat r ≤ 8) : xArg 269 (Value.int x1 :: Value.ref x0 :: r) = some (xm_Mo_honestBy, [Value.ref x0, Value.int x1], r) := by
  unfold xArg
  rw [show xMs[269]? = some xm_Mo_honestBy from rfl]
  show (if (true && decide (xcat r ≤ 8) && true) = true then some (xm_Mo_honestBy, [Value.ref x0, Value.int x1], r) else none) = some _
  rw [decide_eq_true h]; rfl
theorem xa_Mo_isFull {x0 : Nat} {x1 : Int32} {r : List Value} (h : xcat r ≤ 8) : xArg 270 (Value.int x1 :: Value.ref x0 :: r) = some (xm_Mo_isFull, [Value.ref x0, Value.int x1], r) := by
  unfold xArg
  rw [show xMs[270]? = some xm_Mo_isFull from rfl]
  show (if (true && decide (xcat r ≤ 8) && true) = true then some (xm_Mo_isFull, [Value.ref x0, Value.int x1], r) else none) = some _
  rw [decide_eq_true h]; rfl
theorem xa_Mo_viewsMade {x0 : Nat} {r : List Value} (h : xcat r ≤ 8) : xArg 271 (Value.ref x0 :: r) = some (xm_Mo_viewsMade, [Value.ref x0], r) := by
  unfold xArg
  rw [show xMs[271]? = some xm_Mo_viewsMade from rfl]
  show (if (true && decide (xcat r ≤ 8) && true) = true then some (xm_Mo_viewsMade, [Value.ref x0], r) else none) = some _
  rw [decide_eq_true h]; rfl
theorem xa_Mo_certainOf {x0 : Nat} {r : List Value} (h : xcat r ≤ 8) : xArg 272 (Value.ref x0 :: r) = some (xm_Mo_certainOf, [Value.ref x0], r) := by
  unfold xArg
  rw [show xMs[272]? = some xm_Mo_certainOf from rfl]
  show (if (true && decide (xcat r ≤ 8) && true) = true then some (xm_Mo_certainOf, [Value.ref x0], r) else none) = some _
  rw [decide_eq_true h]; rfl
theorem xa_Mo_wordsOf {x0 : Nat} {r : List Value} (h : xcat r ≤ 8) : xArg 273 (Value.ref x0 :: r) = some (xm_Mo_wordsOf, [Value.ref x0], r) := by
  unfold xArg
  rw [show xMs[273]? = some xm_Mo_wordsOf from rfl]
  show (if (true && decide (xcat r ≤ 8) && true) = true then some (xm_Mo_wordsOf, [Value.ref x0], r) else none) = some _
  rw [decide_eq_true h]; rfl
theorem xa_Mo_play {x0 : Nat} {x1 : Int32} {x2 : Int32} {x3 : Int32} {x4 : Int32} {r : List Value} (h : xcat r ≤ 8) : xArg 274 (Value.int x4 :: Value.int x3 :: Value.int x2 :: Value.int x1 :: Value.ref x0 :: r) = some (xm_Mo_play, [Value.ref x0, Value.int x1, Value.int x2, Value.int x3, Value.int x4], r) := by
  unfold xArg
  rw [show xMs[274]? = some xm_Mo_play from rfl]
  show (if (true && decide (xcat r ≤ 8) && true) = true then some (xm_Mo_play, [Value.ref x0, Value.int x1, Value.int x2, Value.int x3, Value.int x4], r) else none) = some _
  rw [decide_eq_true h]; rfl
theorem xa_Mo_plays {x0 : Nat} {r : List Value} (h : xcat r ≤ 8) : xArg 275 (Value.ref x0 :: r) = some (xm_Mo_plays, [Value.ref x0], r) := by
  unfold xArg
  rw [show xMs[275]? = some xm_Mo_plays from rfl]
  show (if (true && decide (xcat r ≤ 8) && true) = true then some (xm_Mo_plays, [Value.ref x0], r) else none) = some _
  rw [decide_eq_true h]; rfl
theorem xa_Mo_playsPlace {x0 : Nat} {x1 : Int32} {r : List Value} (h : xcat r ≤ 8) : xArg 276 (Value.int x1 :: Value.ref x0 :: r) = some (xm_Mo_playsPlace, [Value.ref x0, Value.int x1], r) := by
  unfold xArg
  rw [show xMs[276]? = some xm_Mo_playsPlace from rfl]
  show (if (true && decide (xcat r ≤ 8) && true) = true then some (xm_Mo_playsPlace, [Value.ref x0, Value.int x1], r) else none) = some _
  rw [decide_eq_true h]; rfl
theorem xa_Mo_playsAccepts {x0 : Nat} {x1 : Int32} {r : List Value} (h : xcat r ≤ 8) : xArg 277 (Value.int x1 :: Value.ref x0 :: r) = some (xm_Mo_playsAccepts, [Value.ref x0, Value.int x1], r) := by
  unfold xArg
  rw [show xMs[277]? = some xm_Mo_playsAccepts from rfl]
  show (if (true && decide (xcat r ≤ 8) && true) = true then some (xm_Mo_playsAccepts, [Value.ref x0, Value.int x1], r) else none) = some _
  rw [decide_eq_true h]; rfl
theorem xa_Mo_lowFrom {x0 : Nat} {x1 : Int32} {x2 : Int32} {x3 : Int32} {r : List Value} (h : xcat r ≤ 8) : xArg 278 (Value.int x3 :: Value.int x2 :: Value.int x1 :: Value.ref x0 :: r) = some (xm_Mo_lowFrom, [Value.ref x0, Value.int x1, Value.int x2, Value.int x3], r) := by
  unfold xArg
  rw [show xMs[278]? = some xm_Mo_lowFrom from rfl]
  show (if (true && decide (xcat r ≤ 8) && true) = true then some (xm_Mo_lowFrom, [Value.ref x0, Value.int x1, Value.int x2, Value.int x3], r) else none) = some _
  rw [decide_eq_true h]; rfl
theorem xa_Mo_later {x0 : Int32} {x1 : Int32} {r : List Value} (h : xcat r ≤ 8) : xArg 279 (Value.int x1 :: Value.int x0 :: r) = some (xm_Mo_later, [Value.int x0, Value.int x1], r) := by
  unfold xArg
  rw [show xMs[279]? = some xm_Mo_later from rfl]
  show (if (true && decide (xcat r ≤ 8) && true) = true then some (xm_Mo_later, [Value.int x0, Value.int x1], r) else none) = some _
  rw [decide_eq_true h]; rfl
theorem xa_Mo_behindBy {x0 : Int32} {x1 : Int32} {r : List Value} (h : xcat r ≤ 8) : xArg 280 (Value.int x1 :: Value.int x0 :: r) = some (xm_Mo_behindBy, [Value.int x0, Value.int x1], r) := by
  unfold xArg
  rw [show xMs[280]? = some xm_Mo_behindBy from rfl]
  show (if (true && decide (xcat r ≤ 8) && true) = true then some (xm_Mo_behindBy, [Value.int x0, Value.int x1], r) else none) = some _
  rw [decide_eq_true h]; rfl
theorem xa_Mo_laysComes {x0 : Nat} {x1 : Nat} {x2 : Int32} {x3 : Int32} {r : List Value} (h : xcat r ≤ 8) : xArg 281 (Value.int x3 :: Value.int x2 :: Value.ref x1 :: Value.ref x0 :: r) = some (xm_Mo_laysComes, [Value.ref x0, Value.ref x1, Value.int x2, Value.int x3], r) := by
  unfold xArg
  rw [show xMs[281]? = some xm_Mo_laysComes from rfl]
  show (if (true && decide (xcat r ≤ 8) && true) = true then some (xm_Mo_laysComes, [Value.ref x0, Value.ref x1, Value.int x2, Value.int x3], r) else none) = some _
  rw [decide_eq_true h]; rfl
theorem xa_Mo_manyCome {x0 : Nat} {x1 : Int32} {r : List Value} (h : xcat r ≤ 8) : xArg 282 (Value.int x1 :: Value.ref x0 :: r) = some (xm_Mo_manyCome, [Value.ref x0, Value.int x1], r) := by
  unfold xArg
  rw [show xMs[282]? = some xm_Mo_manyCome from rfl]
  show (if (true && decide (xcat r ≤ 8) && true) = true then some (xm_Mo_manyCome, [Value.ref x0, Value.int x1], r) else none) = some _
  rw [decide_eq_true h]; rfl
theorem xa_Mo_minuteOf {x0 : Int32} {r : List Value} (h : xcat r ≤ 8) : xArg 283 (Value.int x0 :: r) = some (xm_Mo_minuteOf, [Value.int x0], r) := by
  unfold xArg
  rw [show xMs[283]? = some xm_Mo_minuteOf from rfl]
  show (if (true && decide (xcat r ≤ 8) && true) = true then some (xm_Mo_minuteOf, [Value.int x0], r) else none) = some _
  rw [decide_eq_true h]; rfl
theorem xa_Mo_pace {x0 : Nat} {x1 : Int32} {x2 : Int32} {r : List Value} (h : xcat r ≤ 8) : xArg 284 (Value.int x2 :: Value.int x1 :: Value.ref x0 :: r) = some (xm_Mo_pace, [Value.ref x0, Value.int x1, Value.int x2], r) := by
  unfold xArg
  rw [show xMs[284]? = some xm_Mo_pace from rfl]
  show (if (true && decide (xcat r ≤ 8) && true) = true then some (xm_Mo_pace, [Value.ref x0, Value.int x1, Value.int x2], r) else none) = some _
  rw [decide_eq_true h]; rfl
theorem xa_Mo_sendsAll {x0 : Nat} {r : List Value} (h : xcat r ≤ 8) : xArg 285 (Value.ref x0 :: r) = some (xm_Mo_sendsAll, [Value.ref x0], r) := by
  unfold xArg
  rw [show xMs[285]? = some xm_Mo_sendsAll from rfl]
  show (if (true && decide (xcat r ≤ 8) && true) = true then some (xm_Mo_sendsAll, [Value.ref x0], r) else none) = some _
  rw [decide_eq_true h]; rfl
theorem xa_Mo_sends {x0 : Nat} {x1 : Int32} {x2 : Int32} {r : List Value} (h : xcat r ≤ 8) : xArg 286 (Value.int x2 :: Value.int x1 :: Value.ref x0 :: r) = some (xm_Mo_sends, [Value.ref x0, Value.int x1, Value.int x2], r) := by
  unfold xArg
  rw [show xMs[286]? = some xm_Mo_sends from rfl]
  show (if (true && decide (xcat r ≤ 8) && true) = true then some (xm_Mo_sends, [Value.ref x0, Value.int x1, Value.int x2], r) else none) = some _
  rw [decide_eq_true h]; rfl
theorem xa_Mo_slowestOf {x0 : Nat} {r : List Value} (h : xcat r ≤ 8) : xArg 287 (Value.ref x0 :: r) = some (xm_Mo_slowestOf, [Value.ref x0], r) := by
  unfold xArg
  rw [show xMs[287]? = some xm_Mo_slowestOf from rfl]
  show (if (true && decide (xcat r ≤ 8) && true) = true then some (xm_Mo_slowestOf, [Value.ref x0], r) else none) = some _
  rw [decide_eq_true h]; rfl
theorem xa_Mo_doneOf {x0 : Nat} {x1 : Int32} {r : List Value} (h : xcat r ≤ 8) : xArg 288 (Value.int x1 :: Value.ref x0 :: r) = some (xm_Mo_doneOf, [Value.ref x0, Value.int x1], r) := by
  unfold xArg
  rw [show xMs[288]? = some xm_Mo_doneOf from rfl]
  show (if (true && decide (xcat r ≤ 8) && true) = true then some (xm_Mo_doneOf, [Value.ref x0, Value.int x1], r) else none) = some _
  rw [decide_eq_true h]; rfl
theorem xa_Mo_tightOf {x0 : Nat} {r : List Value} (h : xcat r ≤ 8) : xArg 289 (Value.ref x0 :: r) = some (xm_Mo_tightOf, [Value.ref x0], r) := by
  unfold xArg
  rw [show xMs[289]? = some xm_Mo_tightOf from rfl]
  show (if (true && decide (xcat r ≤ 8) && true) = true then some (xm_Mo_tightOf, [Value.ref x0], r) else none) = some _
  rw [decide_eq_true h]; rfl
theorem xa_Mo_lastDoneBy {x0 : Nat} {x1 : Int32} {r : List Value} (h : xcat r ≤ 8) : xArg 290 (Value.int x1 :: Value.ref x0 :: r) = some (xm_Mo_lastDoneBy, [Value.ref x0, Value.int x1], r) := by
  unfold xArg
  rw [show xMs[290]? = some xm_Mo_lastDoneBy from rfl]
  show (if (true && decide (xcat r ≤ 8) && true) = true then some (xm_Mo_lastDoneBy, [Value.ref x0, Value.int x1], r) else none) = some _
  rw [decide_eq_true h]; rfl
theorem xa_Mo_spareOf {x0 : Nat} {r : List Value} (h : xcat r ≤ 8) : xArg 291 (Value.ref x0 :: r) = some (xm_Mo_spareOf, [Value.ref x0], r) := by
  unfold xArg
  rw [show xMs[291]? = some xm_Mo_spareOf from rfl]
  show (if (true && decide (xcat r ≤ 8) && true) = true then some (xm_Mo_spareOf, [Value.ref x0], r) else none) = some _
  rw [decide_eq_true h]; rfl
theorem xa_Mo_behind {x0 : Nat} {x1 : Int32} {x2 : Int32} {x3 : Int32} {r : List Value} (h : xcat r ≤ 8) : xArg 292 (Value.int x3 :: Value.int x2 :: Value.int x1 :: Value.ref x0 :: r) = some (xm_Mo_behind, [Value.ref x0, Value.int x1, Value.int x2, Value.int x3], r) := by
  unfold xArg
  rw [show xMs[292]? = some xm_Mo_behind from rfl]
  show (if (true && decide (xcat r ≤ 8) && true) = true then some (xm_Mo_behind, [Value.ref x0, Value.int x1, Value.int x2, Value.int x3], r) else none) = some _
  rw [decide_eq_true h]; rfl
theorem xa_Mo_laysSheet {x0 : Nat} {r : List Value} (h : xcat r ≤ 8) : xArg 293 (Value.ref x0 :: r) = some (xm_Mo_laysSheet, [Value.ref x0], r) := by
  unfold xArg
  rw [show xMs[293]? = some xm_Mo_laysSheet from rfl]
  show (if (true && decide (xcat r ≤ 8) && true) = true then some (xm_Mo_laysSheet, [Value.ref x0], r) else none) = some _
  rw [decide_eq_true h]; rfl
theorem xa_Mo_runsSheet {x0 : Nat} {x1 : Int32} {r : List Value} (h : xcat r ≤ 8) : xArg 294 (Value.int x1 :: Value.ref x0 :: r) = some (xm_Mo_runsSheet, [Value.ref x0, Value.int x1], r) := by
  unfold xArg
  rw [show xMs[294]? = some xm_Mo_runsSheet from rfl]
  show (if (true && decide (xcat r ≤ 8) && true) = true then some (xm_Mo_runsSheet, [Value.ref x0, Value.int x1], r) else none) = some _
  rw [decide_eq_true h]; rfl
theorem xa_Mo_blind {x0 : Nat} {x1 : Int32} {x2 : Int32} {r : List Value} (h : xcat r ≤ 8) : xArg 295 (Value.int x2 :: Value.int x1 :: Value.ref x0 :: r) = some (xm_Mo_blind, [Value.ref x0, Value.int x1, Value.int x2], r) := by
  unfold xArg
  rw [show xMs[295]? = some xm_Mo_blind from rfl]
  show (if (true && decide (xcat r ≤ 8) && true) = true then some (xm_Mo_blind, [Value.ref x0, Value.int x1, Value.int x2], r) else none) = some _
  rw [decide_eq_true h]; rfl
theorem xa_Mo_blindOf {x0 : Nat} {r : List Value} (h : xcat r ≤ 8) : xArg 296 (Value.ref x0 :: r) = some (xm_Mo_blindOf, [Value.ref x0], r) := by
  unfold xArg
  rw [show xMs[296]? = some xm_Mo_blindOf from rfl]
  show (if (true && decide (xcat r ≤ 8) && true) = true then some (xm_Mo_blindOf, [Value.ref x0], r) else none) = some _
  rw [decide_eq_true h]; rfl
theorem xa_Mo_pathsOf {x0 : Nat} {r : List Value} (h : xcat r ≤ 8) : xArg 297 (Value.ref x0 :: r) = some (xm_Mo_pathsOf, [Value.ref x0], r) := by
  unfold xArg
  rw [show xMs[297]? = some xm_Mo_pathsOf from rfl]
  show (if (true && decide (xcat r ≤ 8) && true) = true then some (xm_Mo_pathsOf, [Value.ref x0], r) else none) = some _
  rw [decide_eq_true h]; rfl
theorem xa_Mo_reply {x0 : Nat} {x1 : Int32} {x2 : Int32} {x3 : Int32} {r : List Value} (h : xcat r ≤ 8) : xArg 298 (Value.int x3 :: Value.int x2 :: Value.int x1 :: Value.ref x0 :: r) = some (xm_Mo_reply, [Value.ref x0, Value.int x1, Value.int x2, Value.int x3], r) := by
  unfold xArg
  rw [show xMs[298]? = some xm_Mo_reply from rfl]
  show (if (true && decide (xcat r ≤ 8) && true) = true then some (xm_Mo_reply, [Value.ref x0, Value.int x1, Value.int x2, Value.int x3], r) else none) = some _
  rw [decide_eq_true h]; rfl
theorem xa_Mo_isReplies {x0 : Nat} {x1 : Int32} {r : List Value} (h : xcat r ≤ 8) : xArg 299 (Value.int x1 :: Value.ref x0 :: r) = some (xm_Mo_isReplies, [Value.ref x0, Value.int x1], r) := by
  unfold xArg
  rw [show xMs[299]? = some xm_Mo_isReplies from rfl]
  show (if (true && decide (xcat r ≤ 8) && true) = true then some (xm_Mo_isReplies, [Value.ref x0, Value.int x1], r) else none) = some _
  rw [decide_eq_true h]; rfl
theorem xa_Mo_match {x0 : Nat} {x1 : Int32} {x2 : Int32} {x3 : Int32} {r : List Value} (h : xcat r ≤ 8) : xArg 300 (Value.int x3 :: Value.int x2 :: Value.int x1 :: Value.ref x0 :: r) = some (xm_Mo_match, [Value.ref x0, Value.int x1, Value.int x2, Value.int x3], r) := by
  unfold xArg
  rw [show xMs[300]? = some xm_Mo_match from rfl]
  show (if (true && decide (xcat r ≤ 8) && true) = true then some (xm_Mo_match, [Value.ref x0, Value.int x1, Value.int x2, Value.int x3], r) else none) = some _
  rw [decide_eq_true h]; rfl
theorem xa_Mo_come {x0 : Nat} {x1 : Int32} {r : List Value} (h : xcat r ≤ 8) : xArg 301 (Value.int x1 :: Value.ref x0 :: r) = some (xm_Mo_come, [Value.ref x0, Value.int x1], r) := by
  unfold xArg
  rw [show xMs[301]? = some xm_Mo_come from rfl]
  show (if (true && decide (xcat r ≤ 8) && true) = true then some (xm_Mo_come, [Value.ref x0, Value.int x1], r) else none) = some _
  rw [decide_eq_true h]; rfl
theorem xa_Mo_tell {x0 : Nat} {x1 : Int32} {r : List Value} (h : xcat r ≤ 8) : xArg 302 (Value.int x1 :: Value.ref x0 :: r) = some (xm_Mo_tell, [Value.ref x0, Value.int x1], r) := by
  unfold xArg
  rw [show xMs[302]? = some xm_Mo_tell from rfl]
  show (if (true && decide (xcat r ≤ 8) && true) = true then some (xm_Mo_tell, [Value.ref x0, Value.int x1], r) else none) = some _
  rw [decide_eq_true h]; rfl
theorem xa_Mo_suspects {x0 : Nat} {x1 : Int32} {x2 : Int32} {x3 : Int32} {r : List Value} (h : xcat r ≤ 8) : xArg 303 (Value.int x3 :: Value.int x2 :: Value.int x1 :: Value.ref x0 :: r) = some (xm_Mo_suspects, [Value.ref x0, Value.int x1, Value.int x2, Value.int x3], r) := by
  unfold xArg
  rw [show xMs[303]? = some xm_Mo_suspects from rfl]
  show (if (true && decide (xcat r ≤ 8) && true) = true then some (xm_Mo_suspects, [Value.ref x0, Value.int x1, Value.int x2, Value.int x3], r) else none) = some _
  rw [decide_eq_true h]; rfl
theorem xa_Mo_isOneBut {x0 : Nat} {x1 : Int32} {r : List Value} (h : xcat r ≤ 8) : xArg 304 (Value.int x1 :: Value.ref x0 :: r) = some (xm_Mo_isOneBut, [Value.ref x0, Value.int x1], r) := by
  unfold xArg
  rw [show xMs[304]? = some xm_Mo_isOneBut from rfl]
  show (if (true && decide (xcat r ≤ 8) && true) = true then some (xm_Mo_isOneBut, [Value.ref x0, Value.int x1], r) else none) = some _
  rw [decide_eq_true h]; rfl
theorem xa_Mo_voices {x0 : Nat} {x1 : Int32} {x2 : Int32} {x3 : Int32} {r : List Value} (h : xcat r ≤ 8) : xArg 305 (Value.int x3 :: Value.int x2 :: Value.int x1 :: Value.ref x0 :: r) = some (xm_Mo_voices, [Value.ref x0, Value.int x1, Value.int x2, Value.int x3], r) := by
  unfold xArg
  rw [show xMs[305]? = some xm_Mo_voices from rfl]
  show (if (true && decide (xcat r ≤ 8) && true) = true then some (xm_Mo_voices, [Value.ref x0, Value.int x1, Value.int x2, Value.int x3], r) else none) = some _
  rw [decide_eq_true h]; rfl
theorem xa_Mo_lack {x0 : Nat} {x1 : Int32} {x2 : Int32} {x3 : Int32} {r : List Value} (h : xcat r ≤ 8) : xArg 306 (Value.int x3 :: Value.int x2 :: Value.int x1 :: Value.ref x0 :: r) = some (xm_Mo_lack, [Value.ref x0, Value.int x1, Value.int x2, Value.int x3], r) := by
  unfold xArg
  rw [show xMs[306]? = some xm_Mo_lack from rfl]
  show (if (true && decide (xcat r ≤ 8) && true) = true then some (xm_Mo_lack, [Value.ref x0, Value.int x1, Value.int x2, Value.int x3], r) else none) = some _
  rw [decide_eq_true h]; rfl
theorem xa_Mo_drawn {x0 : Nat} {x1 : Int32} {x2 : Int32} {x3 : Int32} {x4 : Int32} {x5 : Int32} {r : List Value} (h : xcat r ≤ 8) : xArg 307 (Value.int x5 :: Value.int x4 :: Value.int x3 :: Value.int x2 :: Value.int x1 :: Value.ref x0 :: r) = some (xm_Mo_drawn, [Value.ref x0, Value.int x1, Value.int x2, Value.int x3, Value.int x4, Value.int x5], r) := by
  unfold xArg
  rw [show xMs[307]? = some xm_Mo_drawn from rfl]
  show (if (true && decide (xcat r ≤ 8) && true) = true then some (xm_Mo_drawn, [Value.ref x0, Value.int x1, Value.int x2, Value.int x3, Value.int x4, Value.int x5], r) else none) = some _
  rw [decide_eq_true h]; rfl
theorem xa_Mo_draws {x0 : Nat} {r : List Value} (h : xcat r ≤ 8) : xArg 308 (Value.ref x0 :: r) = some (xm_Mo_draws, [Value.ref x0], r) := by
  unfold xArg
  rw [show xMs[308]? = some xm_Mo_draws from rfl]
  show (if (true && decide (xcat r ≤ 8) && true) = true then some (xm_Mo_draws, [Value.ref x0], r) else none) = some _
  rw [decide_eq_true h]; rfl
theorem xa_Mo_below {x0 : Nat} {x1 : Int32} {r : List Value} (h : xcat r ≤ 8) : xArg 309 (Value.int x1 :: Value.ref x0 :: r) = some (xm_Mo_below, [Value.ref x0, Value.int x1], r) := by
  unfold xArg
  rw [show xMs[309]? = some xm_Mo_below from rfl]
  show (if (true && decide (xcat r ≤ 8) && true) = true then some (xm_Mo_below, [Value.ref x0, Value.int x1], r) else none) = some _
  rw [decide_eq_true h]; rfl
theorem xa_Mo_count {x0 : Nat} {x1 : Int32} {r : List Value} (h : xcat r ≤ 8) : xArg 310 (Value.int x1 :: Value.ref x0 :: r) = some (xm_Mo_count, [Value.ref x0, Value.int x1], r) := by
  unfold xArg
  rw [show xMs[310]? = some xm_Mo_count from rfl]
  show (if (true && decide (xcat r ≤ 8) && true) = true then some (xm_Mo_count, [Value.ref x0, Value.int x1], r) else none) = some _
  rw [decide_eq_true h]; rfl
theorem xa_Mo_image {x0 : Nat} {x1 : Int32} {r : List Value} (h : xcat r ≤ 8) : xArg 311 (Value.int x1 :: Value.ref x0 :: r) = some (xm_Mo_image, [Value.ref x0, Value.int x1], r) := by
  unfold xArg
  rw [show xMs[311]? = some xm_Mo_image from rfl]
  show (if (true && decide (xcat r ≤ 8) && true) = true then some (xm_Mo_image, [Value.ref x0, Value.int x1], r) else none) = some _
  rw [decide_eq_true h]; rfl
theorem xa_Mo_again {x0 : Nat} {x1 : Int32} {r : List Value} (h : xcat r ≤ 8) : xArg 312 (Value.int x1 :: Value.ref x0 :: r) = some (xm_Mo_again, [Value.ref x0, Value.int x1], r) := by
  unfold xArg
  rw [show xMs[312]? = some xm_Mo_again from rfl]
  show (if (true && decide (xcat r ≤ 8) && true) = true then some (xm_Mo_again, [Value.ref x0, Value.int x1], r) else none) = some _
  rw [decide_eq_true h]; rfl
