/-! ===== ofDebt, noDebt, adds, saltIn of the reference (wip/whole/gen/p7.py) ===== -/
section P7
variable {h : Hp} {c j y n s d : Nat} {v x : Int32}
theorem dix (c j : Nat) : ((11 : Int32) + ((3 : Int32) * nI c)) + nI j = nI (11 + 3 * c + j) := by
  show nI 11 + nI 3 * nI c + nI j = _
  rw [nI_mul, nI_add, nI_add]
theorem M_ofDebt (t : TSr h) (hc : c < 8) (hj : j < 3) : f_Model_ofDebt h 755 (nI c) (nI j) = some (hI h 756 (11 + 3 * c + j), h) := by
  obtain ⟨s, ⟨r, -⟩, ⟨a1, a2⟩, -⟩ := t
  unfold f_Model_ofDebt f_Model_ofDebt_b0
  rw [if_pos s, r, if_pos a1, a2, dix, if_pos (ib_n (by omega) (by decide)), ix_n (by omega)]
theorem M_noDebt (t : TSr h) : f_Model_noDebt h 755 x = some (if x < 0 then 1 else if hI h 756 10 - 1 < x then 1 else 0, h) := by
  obtain ⟨s, ⟨r, -⟩, ⟨a1, a2⟩, -⟩ := t
  unfold f_Model_noDebt f_Model_noDebt_b0
  rw [if_pos s, r, if_pos a1, a2, show (10 : Int32) = nI 10 from rfl, if_pos (ib_n (by decide) (by decide)), ix_n (by decide), M_in, bI_s]
  by_cases e : x < 0
  · simp [e]
  · by_cases e2 : hI h 756 10 - 1 < x
    · simp [e, e2]
    · simp [e, e2]
theorem aix (c y : Nat) : (((65 : Int32) + ((35 : Int32) * nI c)) + (5 : Int32)) + nI y = nI (65 + 35 * c + 5 + y) := by
  show nI 65 + nI 35 * nI c + nI 5 + nI y = _
  rw [nI_mul, nI_add, nI_add, nI_add]
theorem M_adds (t : TSr h) (hc : c < 8) (hy : y < 30) : f_Model_adds h 755 (nI c) (nI y) v = some (sI h 756 (65 + 35 * c + 5 + y) (hI h 756 (65 + 35 * c + 5 + y) + v)) := by
  obtain ⟨s, ⟨r, -⟩, ⟨a1, a2⟩, -⟩ := t
  unfold f_Model_adds f_Model_adds_b0
  rw [if_pos s, r, if_pos a1, a2, aix, if_pos (ib_n (by omega) (by decide)), if_pos (ib_n (by omega) (by decide)), ix_n (by omega)]
  rfl
theorem M_saltIn_L (t : TSr h) (hc : c < 8) : ∀ (j y : Nat), y + j = 30 → ∀ n, f_Model_saltIn_L4 (n + j + 1) h 755 (nI c) (sumL (fun y => hI h 756 (65 + 35 * c + (5 + y)) * hI h 756 (35 + y)) y) (nI y) = some (sumL (fun y => hI h 756 (65 + 35 * c + (5 + y)) * hI h 756 (35 + y)) 30, h) := by
  intro j
  induction j with
  | zero =>
    intro y hy n
    obtain rfl : y = 30 := by omega
    show f_Model_saltIn_b4 (f_Model_saltIn_L4 n) h 755 (nI c) _ (nI 30) = _
    unfold f_Model_saltIn_b4
    rw [n30, if_pos (Int32.le_refl _)]
  | succ j ih =>
    intro y hy n
    show f_Model_saltIn_b4 (f_Model_saltIn_L4 (n + j + 1)) h 755 (nI c) _ (nI y) = _
    obtain ⟨s, ⟨r, -⟩, ⟨a1, a2⟩, -⟩ := id t
    unfold f_Model_saltIn_b4
    rw [n30, if_neg (nI_ge (by omega) (by decide)), if_pos t.1, M_layerOf t hc (by omega), bI_s, if_pos s, r, if_pos a1, a2, show (35 : Int32) = nI 35 from rfl, nI_add, if_pos (ib_n (by omega) (by decide)), ix_n (by omega), nI_1]
    exact ih (y + 1) (by omega) n
theorem M_saltIn (t : TSr h) (hc : c < 8) : f_Model_saltIn h 755 (nI c) = some (sumL (fun y => hI h 756 (65 + 35 * c + (5 + y)) * hI h 756 (35 + y)) 30, h) := by
  unfold f_Model_saltIn f_Model_saltIn_b0
  rw [FU_30]
  exact M_saltIn_L t hc 30 0 rfl 999969
end P7
