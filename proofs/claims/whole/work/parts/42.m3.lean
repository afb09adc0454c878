/-! ===== laysBack, image, back, now, throwsIf, adds of the reference (wip/whole/gen/p6.py) ===== -/
section P6
variable {h : Hp} {c j y n s d : Nat} {v x : Int32}
theorem M_laysBack_L (t : TSr h) : ∀ (j y : Nat), y + j = 617 → ∀ n, f_Model_laysBack_L2 (n + j + 1) (cpI h 759 756 y) 755 (nI y) = some (cpI h 759 756 617) := by
  intro j
  induction j with
  | zero =>
    intro y hy n
    obtain rfl : y = 617 := by omega
    show f_Model_laysBack_b2 (f_Model_laysBack_L2 n) (cpI h 759 756 617) 755 (nI 617) = _
    unfold f_Model_laysBack_b2
    rw [show (617 : Int32) = nI 617 from rfl, if_pos (Int32.le_refl _)]
  | succ j ih =>
    intro y hy n
    show f_Model_laysBack_b2 (f_Model_laysBack_L2 (n + j + 1)) (cpI h 759 756 y) 755 (nI y) = _
    obtain ⟨q, ⟨r1, r2, -, r4, -⟩, ⟨a1, a2⟩, ⟨b1, b2⟩, -, ⟨k1, k2⟩, -⟩ := t.cp (s := 759) (d := 756) (n := y)
    unfold f_Model_laysBack_b2
    rw [show (617 : Int32) = nI 617 from rfl, if_neg (nI_ge (by omega) (by decide)), if_pos q, r4, if_pos k1, k2, if_pos (ib_n (by omega) (by decide)), r1, if_pos a1, a2, if_pos (ib_n (by omega) (by decide)), ix_n (by omega), wr_s, cp_s (by decide), nI_1]
    exact ih (y + 1) (by omega) n
theorem M_laysBack (t : TSr h) : f_Model_laysBack h 755 = some (cpI h 759 756 617) := by
  have e : FU = 999382 + 617 + 1 := rfl
  unfold f_Model_laysBack f_Model_laysBack_b0
  rw [e]
  have z := M_laysBack_L t 617 0 rfl 999382
  rw [cp_0] at z
  exact z
theorem M_image_L (t : TSr h) : ∀ (j y : Nat), y + j = 1454 → ∀ n, f_Model_image_L7 (n + j + 1) (cpI h 756 757 y) 755 (nI y) = some (sI (cpI h 756 757 1454) 755 6 1) := by
  intro j
  induction j with
  | zero =>
    intro y hy n
    obtain rfl : y = 1454 := by omega
    show f_Model_image_b7 (f_Model_image_L7 n) (cpI h 756 757 1454) 755 (nI 1454) = _
    unfold f_Model_image_b7
    rw [show (1454 : Int32) = nI 1454 from rfl, if_pos (Int32.le_refl _)]
    rw [if_pos t.cp.1]
    rfl
  | succ j ih =>
    intro y hy n
    show f_Model_image_b7 (f_Model_image_L7 (n + j + 1)) (cpI h 756 757 y) 755 (nI y) = _
    obtain ⟨q, ⟨r1, r2, -, r4, -⟩, ⟨a1, a2⟩, ⟨b1, b2⟩, -, ⟨k1, k2⟩, -⟩ := t.cp (s := 756) (d := 757) (n := y)
    unfold f_Model_image_b7
    rw [show (1454 : Int32) = nI 1454 from rfl, if_neg (nI_ge (by omega) (by decide)), if_pos q, r1, if_pos a1, a2, if_pos (ib_n (by omega) (by decide)), r2, if_pos b1, b2, if_pos (ib_n (by omega) (by decide)), ix_n (by omega), wr_s, cp_s (by decide), nI_1]
    exact ih (y + 1) (by omega) n
theorem M_image (t : TSr h) : f_Model_image h 755 = some (sI (cpI (sI h 755 0 0) 756 757 1454) 755 6 1) := by
  have e : FU = 998545 + 1454 + 1 := rfl
  unfold f_Model_image f_Model_image_b0
  rw [if_pos t.1, wr_s, e]
  have z := M_image_L (h := sI h 755 0 0) t 1454 0 rfl 998545
  rw [cp_0] at z
  exact z
theorem M_back_L (t : TSr h) : ∀ (j y : Nat), y + j = 1454 → ∀ n, f_Model_back_L16 (n + j + 1) (cpI h 757 756 y) 755 (nI y) = some ((1 : Int32), sI (cpI h 757 756 1454) 755 7 0) := by
  intro j
  induction j with
  | zero =>
    intro y hy n
    obtain rfl : y = 1454 := by omega
    show f_Model_back_b16 (f_Model_back_L16 n) (cpI h 757 756 1454) 755 (nI 1454) = _
    unfold f_Model_back_b16
    rw [show (1454 : Int32) = nI 1454 from rfl, if_pos (Int32.le_refl _)]
    rw [if_pos t.cp.1]
    rfl
  | succ j ih =>
    intro y hy n
    show f_Model_back_b16 (f_Model_back_L16 (n + j + 1)) (cpI h 757 756 y) 755 (nI y) = _
    obtain ⟨q, ⟨r1, r2, -, r4, -⟩, ⟨a1, a2⟩, ⟨b1, b2⟩, -, ⟨k1, k2⟩, -⟩ := t.cp (s := 757) (d := 756) (n := y)
    unfold f_Model_back_b16
    rw [show (1454 : Int32) = nI 1454 from rfl, if_neg (nI_ge (by omega) (by decide)), if_pos q, r2, if_pos b1, b2, if_pos (ib_n (by omega) (by decide)), r1, if_pos a1, a2, if_pos (ib_n (by omega) (by decide)), ix_n (by omega), wr_s, cp_s (by decide), nI_1]
    exact ih (y + 1) (by omega) n
theorem M_back (t : TSr h) : f_Model_back h 755 = some (if hI h 755 6 = 0 then (0, sI h 755 0 0) else (1, sI (cpI (sI h 755 0 0) 757 756 1454) 755 7 0)) := by
  have e : FU = 998545 + 1454 + 1 := rfl
  unfold f_Model_back f_Model_back_b0
  rw [if_pos t.1, wr_s]
  have e6 : hI (sI h 755 0 0) 755 6 = hI h 755 6 := by
    show (if (755 : Nat) = 755 ∧ (6 : Nat) = 0 then (0 : Int32) else hI h 755 6) = _
    rw [if_neg (by decide)]
  rw [e6]
  by_cases q : hI h 755 6 = 0
  · rw [if_pos q, if_pos q]
  · rw [if_neg q, if_neg q, e]
    have z := M_back_L (h := sI h 755 0 0) t 1454 0 rfl 998545
    rw [cp_0] at z
    exact z
theorem M_now (t : TSr h) : f_Model_now h 755 = some (if hI h 756 4 / 12 < 29 then hI h 756 4 / 12 else 29, h) := by
  obtain ⟨s, ⟨r, -⟩, ⟨a1, a2⟩, -⟩ := t
  unfold f_Model_now f_Model_now_b0
  rw [if_pos s, r, if_pos a1, a2, show (4 : Int32) = nI 4 from rfl, if_pos (ib_n (by decide) (by decide)), ix_n (by decide)]
  unfold f_Math_min f_Math_min_b0
  by_cases q : hI h 756 4 / 12 < 29
  · rw [if_pos q, if_pos q]; rfl
  · rw [if_neg q, if_neg q]; rfl
theorem M_throwsIf (t : TSr h) (hx : x = 0 ∨ x = 1) : f_Model_throwsIf h 755 x v = some (x, if x = 0 then h else sI h 755 0 v) := by
  unfold f_Model_throwsIf f_Model_throwsIf_b0
  rcases hx with rfl | rfl
  · rw [if_pos rfl, if_pos (Or.inl rfl), if_pos rfl]
  · rw [if_neg (by decide), if_pos t.1, if_neg (by decide)]
    show (if (1 : Int32) = 0 ∨ (1 : Int32) = 1 then some ((1 : Int32), sI h 755 0 v) else none) = _
    rw [if_pos (Or.inr rfl)]
end P6
