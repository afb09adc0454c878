/-! ===== the reference's small functions, as equations over its world hI h 756 (wip/whole/gen/p4.py) ===== -/
section P4
variable {h : Hp} {c j y : Nat} {v x : Int32}
theorem bI_s {α β : Type} {v : α} {f : α → Hp → Option β} : bI (some (v, h)) f = f v h := rfl
theorem bV_s {β : Type} {f : Hp → Option β} : bV (some h) f = f h := rfl
theorem wr_s {β : Type} {f : Hp → β} : wr h f = f h := rfl
theorem nI_mul (a b : Nat) : nI a * nI b = nI (a * b) := (Int32.ofNat_mul a b).symm
theorem cix (c j : Nat) : ((65 : Int32) + ((35 : Int32) * nI c)) + nI j = nI (65 + 35 * c + j) := by
  show nI 65 + nI 35 * nI c + nI j = _
  rw [nI_mul, nI_add, nI_add]
theorem hix (c j : Nat) : ((345 : Int32) + ((34 : Int32) * nI c)) + nI j = nI (345 + 34 * c + j) := by
  show nI 345 + nI 34 * nI c + nI j = _
  rw [nI_mul, nI_add, nI_add]
theorem ix_0 : ix (0 : Int32) = 0 := by decide +kernel
theorem ib_z {n : Nat} (h0 : 0 < n) : ib (0 : Int32) n = true := by
  show ib (nI 0) n = true
  unfold ib
  rw [nI_toInt (by decide)]
  simp
  exact h0
theorem M_cisterns (t : TSr h) : f_Model_cisterns h 755 = some (hI h 756 0, h) := by
  obtain ⟨s, ⟨r, -⟩, ⟨a1, a2⟩, -⟩ := t
  unfold f_Model_cisterns f_Model_cisterns_b0
  rw [if_pos s, r, if_pos a1, a2, if_pos (ib_z (by decide)), ix_0]
theorem M_houses (t : TSr h) : f_Model_houses h 755 = some (hI h 756 1, h) := by
  obtain ⟨s, ⟨r, -⟩, ⟨a1, a2⟩, -⟩ := t
  unfold f_Model_houses f_Model_houses_b0
  rw [if_pos s, r, if_pos a1, a2, n1, if_pos (ib_n (by decide) (by decide)), ix_n (by decide)]
theorem M_ofCistern (t : TSr h) (hc : c < 8) (hj : j < 35) : f_Model_ofCistern h 755 (nI c) (nI j) = some (hI h 756 (65 + 35 * c + j), h) := by
  obtain ⟨s, ⟨r, -⟩, ⟨a1, a2⟩, -⟩ := t
  unfold f_Model_ofCistern f_Model_ofCistern_b0
  rw [if_pos s, r, if_pos a1, a2, cix, if_pos (ib_n (by omega) (by decide)), ix_n (by omega)]
theorem M_setsCistern (t : TSr h) (hc : c < 8) (hj : j < 35) : f_Model_setsCistern h 755 (nI c) (nI j) v = some (sI h 756 (65 + 35 * c + j) v) := by
  obtain ⟨s, ⟨r, -⟩, ⟨a1, a2⟩, -⟩ := t
  unfold f_Model_setsCistern f_Model_setsCistern_b0
  rw [if_pos s, r, if_pos a1, a2, cix, if_pos (ib_n (by omega) (by decide)), ix_n (by omega)]
  rfl
theorem M_ofHouse (t : TSr h) (hc : c < 8) (hj : j < 34) : f_Model_ofHouse h 755 (nI c) (nI j) = some (hI h 756 (345 + 34 * c + j), h) := by
  obtain ⟨s, ⟨r, -⟩, ⟨a1, a2⟩, -⟩ := t
  unfold f_Model_ofHouse f_Model_ofHouse_b0
  rw [if_pos s, r, if_pos a1, a2, hix, if_pos (ib_n (by omega) (by decide)), ix_n (by omega)]
theorem M_setsHouse (t : TSr h) (hc : c < 8) (hj : j < 34) : f_Model_setsHouse h 755 (nI c) (nI j) v = some (sI h 756 (345 + 34 * c + j) v) := by
  obtain ⟨s, ⟨r, -⟩, ⟨a1, a2⟩, -⟩ := t
  unfold f_Model_setsHouse f_Model_setsHouse_b0
  rw [if_pos s, r, if_pos a1, a2, hix, if_pos (ib_n (by omega) (by decide)), ix_n (by omega)]
  rfl
theorem c5 : (5 : Int32) = nI 5 := rfl
theorem n30 : (30 : Int32) = nI 30 := rfl
theorem M_layerOf (t : TSr h) (hc : c < 8) (hy : y < 30) : f_Model_layerOf h 755 (nI c) (nI y) = some (hI h 756 (65 + 35 * c + (5 + y)), h) := by
  unfold f_Model_layerOf f_Model_layerOf_b0
  rw [if_pos t.1, c5, nI_add, M_ofCistern t hc (by omega)]
  rfl
/-- a sum of n ints -/
def sumL (g : Nat → Int32) : Nat → Int32 := fun n => Nat.rec 0 (fun i s => s + g i) n
theorem sumL_s (g : Nat → Int32) (n : Nat) : sumL g (n + 1) = sumL g n + g n := rfl
theorem M_measures_L (t : TSr h) (hc : c < 8) : ∀ (j y : Nat), y + j = 30 → ∀ n, f_Model_measures_L4 (n + j + 1) h 755 (nI c) (sumL (fun y => hI h 756 (65 + 35 * c + (5 + y))) y) (nI y) = some (sumL (fun y => hI h 756 (65 + 35 * c + (5 + y))) 30, h) := by
  intro j
  induction j with
  | zero =>
    intro y hy n
    obtain rfl : y = 30 := by omega
    show f_Model_measures_b4 (f_Model_measures_L4 n) h 755 (nI c) _ (nI 30) = _
    unfold f_Model_measures_b4
    rw [n30, if_pos (Int32.le_refl _)]
  | succ j ih =>
    intro y hy n
    show f_Model_measures_b4 (f_Model_measures_L4 (n + j + 1)) h 755 (nI c) _ (nI y) = _
    unfold f_Model_measures_b4
    rw [n30, if_neg (nI_ge (by omega) (by decide)), if_pos t.1, M_layerOf t hc (by omega), nI_1]
    exact ih (y + 1) (by omega) n
theorem FU_30 : FU = 999969 + 30 + 1 := rfl
theorem M_measures (t : TSr h) (hc : c < 8) : f_Model_measures h 755 (nI c) = some (sumL (fun y => hI h 756 (65 + 35 * c + (5 + y))) 30, h) := by
  unfold f_Model_measures f_Model_measures_b0
  rw [FU_30]
  exact M_measures_L t hc 30 0 rfl 999969
theorem M_in {a b : Int32} : f_Model_in h x a b = some (if x < a then 0 else if b < x then 0 else 1, h) := by
  unfold f_Model_in f_Model_in_b0
  by_cases e : x < a
  · rw [if_pos e, if_pos e]
  · rw [if_neg e, if_neg e]
    by_cases e2 : b < x
    · rw [if_pos e2, if_pos e2]
    · rw [if_neg e2, if_neg e2]
theorem M_noCistern (t : TSr h) : f_Model_noCistern h 755 x = some (if x < 0 then 1 else if hI h 756 0 - 1 < x then 1 else 0, h) := by
  unfold f_Model_noCistern f_Model_noCistern_b0
  rw [if_pos t.1, M_cisterns t, bI_s, M_in, bI_s]
  show (if (if x < 0 then (0 : Int32) else if hI h 756 0 - 1 < x then 0 else 1) = 0 then some ((1 : Int32), h) else some ((0 : Int32), h)) = _
  by_cases e : x < 0
  · simp [e]
  · by_cases e2 : hI h 756 0 - 1 < x
    · simp [e, e2]
    · simp [e, e2]
end P4
