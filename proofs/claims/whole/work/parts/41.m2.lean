/-! ===== more of the reference's small functions; copies (wip/whole/gen/p5.py) ===== -/
section P5
variable {h : Hp} {c j y n s d : Nat} {v x : Int32}
theorem M_noHouse (t : TSr h) : f_Model_noHouse h 755 x = some (if x < 0 then 1 else if hI h 756 1 - 1 < x then 1 else 0, h) := by
  unfold f_Model_noHouse f_Model_noHouse_b0
  rw [if_pos t.1, M_houses t, bI_s, M_in, bI_s]
  by_cases e : x < 0
  · simp [e]
  · by_cases e2 : hI h 756 1 - 1 < x
    · simp [e, e2]
    · simp [e, e2]
theorem M_noYear : f_Model_noYear h x = some (if x < 0 then 1 else if 29 < x then 1 else 0, h) := by
  unfold f_Model_noYear f_Model_noYear_b0
  rw [M_in, bI_s]
  by_cases e : x < 0
  · simp [e]
  · by_cases e2 : 29 < x
    · simp [e, e2]
    · simp [e, e2]
theorem M_drunkBy_L (t : TSr h) (hc : c < 8) : ∀ (j y : Nat), y + j = 30 → ∀ n, f_Model_drunkBy_L4 (n + j + 1) h 755 (nI c) (sumL (fun y => hI h 756 (345 + 34 * c + (4 + y))) y) (nI y) = some (sumL (fun y => hI h 756 (345 + 34 * c + (4 + y))) 30, h) := by
  intro j
  induction j with
  | zero =>
    intro y hy n
    obtain rfl : y = 30 := by omega
    show f_Model_drunkBy_b4 (f_Model_drunkBy_L4 n) h 755 (nI c) _ (nI 30) = _
    unfold f_Model_drunkBy_b4
    rw [n30, if_pos (Int32.le_refl _)]
  | succ j ih =>
    intro y hy n
    show f_Model_drunkBy_b4 (f_Model_drunkBy_L4 (n + j + 1)) h 755 (nI c) _ (nI y) = _
    unfold f_Model_drunkBy_b4
    rw [n30, if_neg (nI_ge (by omega) (by decide)), if_pos t.1, show (4 : Int32) = nI 4 from rfl, nI_add, M_ofHouse t hc (by omega), nI_1]
    exact ih (y + 1) (by omega) n
theorem M_drunkBy (t : TSr h) (hc : c < 8) : f_Model_drunkBy h 755 (nI c) = some (sumL (fun y => hI h 756 (345 + 34 * c + (4 + y))) 30, h) := by
  unfold f_Model_drunkBy f_Model_drunkBy_b0
  rw [FU_30]
  exact M_drunkBy_L t hc 30 0 rfl 999969
/-- the first n ints of s copied into d -/
def cpI (h : Hp) (s d n : Nat) : Hp := cI h d (fun k => if k < n then hI h s k else hI h d k)
theorem cp_0 : cpI h s d 0 = h := by
  refine Prod.ext (funext fun b => funext fun k => ?_) rfl
  show (if b = d then (if k < 0 then hI h s k else hI h d k) else hI h b k) = hI h b k
  by_cases e : b = d
  · subst e; simp
  · simp [e]
theorem cp_s (e : s ≠ d) : sI (cpI h s d n) d n (hI (cpI h s d n) s n) = cpI h s d (n + 1) := by
  have e0 : hI (cpI h s d n) s n = hI h s n := if_neg e
  rw [e0]
  refine Prod.ext (funext fun b => funext fun k => ?_) rfl
  show (if b = d ∧ k = n then hI h s n else if b = d then (if k < n then hI h s k else hI h d k) else hI h b k) = (if b = d then (if k < n + 1 then hI h s k else hI h d k) else hI h b k)
  by_cases eb : b = d
  · subst eb
    by_cases ek : k = n
    · subst ek; simp
    · have q : (k < n + 1) = (k < n) := propext ⟨fun _ => by omega, fun _ => by omega⟩
      simp [ek, q]
  · simp [eb]
theorem TSr.cp (t : TSr h) : TSr (cpI h s d n) := t
theorem M_keeps_L (t : TSr h) : ∀ (j y : Nat), y + j = 617 → ∀ n, f_Model_keeps_L2 (n + j + 1) (cpI h 756 759 y) 755 (nI y) = some (cpI h 756 759 617) := by
  intro j
  induction j with
  | zero =>
    intro y hy n
    obtain rfl : y = 617 := by omega
    show f_Model_keeps_b2 (f_Model_keeps_L2 n) (cpI h 756 759 617) 755 (nI 617) = _
    unfold f_Model_keeps_b2
    rw [show (617 : Int32) = nI 617 from rfl, if_pos (Int32.le_refl _)]
  | succ j ih =>
    intro y hy n
    show f_Model_keeps_b2 (f_Model_keeps_L2 (n + j + 1)) (cpI h 756 759 y) 755 (nI y) = _
    obtain ⟨q, ⟨r, -, -, r4, -⟩, ⟨a1, a2⟩, -, -, ⟨k1, k2⟩, -⟩ := t.cp (s := 756) (d := 759) (n := y)
    unfold f_Model_keeps_b2
    rw [show (617 : Int32) = nI 617 from rfl, if_neg (nI_ge (by omega) (by decide)), if_pos q, r, if_pos a1, a2, if_pos (ib_n (by omega) (by decide)), r4, if_pos k1, k2, if_pos (ib_n (by omega) (by decide)), ix_n (by omega), wr_s, cp_s (by decide), nI_1]
    exact ih (y + 1) (by omega) n
theorem M_keeps (t : TSr h) : f_Model_keeps h 755 = some (cpI h 756 759 617) := by
  have e : FU = 999382 + 617 + 1 := rfl
  unfold f_Model_keeps f_Model_keeps_b0
  rw [e]
  have z := M_keeps_L t 617 0 rfl 999382
  rw [cp_0] at z
  exact z
end P5
