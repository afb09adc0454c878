/-! ===== leaks of the reference, as a function of its world ===== -/
section U4
variable {h : Hp} {g g' g1 : Nat → Nat → Int32} {w w' : Nat → Int32} {c d k n l y j m q u s i F : Nat} {v x : Int32} {f p : Nat → Nat}
def up1 (w : Nat → Int32) (k : Nat) (v : Int32) : Nat → Int32 := fun j => if j = k then v else w j
theorem up2_row {a : Nat} : up2 g a k v a = up1 (g a) k v := by
  funext j
  unfold up2 up1
  by_cases e : j = k
  · rw [if_pos ⟨rfl, e⟩, if_pos e]
  · rw [if_neg (fun z => e z.2), if_neg e]
theorem up1_eq : up1 w k v k = v := if_pos rfl
theorem up1_ne (e : j ≠ k) : up1 w k v j = w j := if_neg e
/-- the layers of a cistern in a world -/
def ly (w : Nat → Int32) (c : Nat) : Nat → Nat := fun y => ix (w (70 + 35 * c + y))
def ms (w : Nat → Int32) (c : Nat) : Nat := smN (ly w c) 30
def OKL (w : Nat → Int32) (c : Nat) : Prop := ∀ y, y < 30 → w (70 + 35 * c + y) = nI (ly w c y) ∧ ly w c y ≤ 999
theorem TSr.iu (t : TSr h) : TSr (uI h g) := t
theorem N_of (t : TSr h) (hc : c < 8) (hj : j < 35) : f_Model_ofCistern (uI h g) 755 (nI c) (nI j) = some (g 756 (65 + 35 * c + j), uI h g) := M_ofCistern (t.iu (g := g)) hc hj
theorem N_sets (t : TSr h) (hc : c < 8) (hj : j < 35) : f_Model_setsCistern (uI h g) 755 (nI c) (nI j) v = some (uI h (up2 g 756 (65 + 35 * c + j) v)) := M_setsCistern (t.iu (g := g)) hc hj
theorem N_layer (t : TSr h) (hc : c < 8) (hy : y < 30) : f_Model_layerOf (uI h g) 755 (nI c) (nI y) = some (g 756 (70 + 35 * c + y), uI h g) := by
  have e := M_layerOf (t.iu (g := g)) hc hy
  rw [show 65 + 35 * c + (5 + y) = 70 + 35 * c + y from by omega] at e
  exact e
theorem N_adds (t : TSr h) (hc : c < 8) (hy : y < 30) : f_Model_adds (uI h g) 755 (nI c) (nI y) v = some (uI h (up2 g 756 (70 + 35 * c + y) (g 756 (70 + 35 * c + y) + v))) := by
  have e := M_adds (v := v) (t.iu (g := g)) hc hy
  rw [show 65 + 35 * c + 5 + y = 70 + 35 * c + y from by omega] at e
  exact e
theorem sumL_n {r : Nat → Int32} (e : ∀ y, y < n → r y = nI (f y)) : sumL r n = nI (smN f n) := by
  induction n with
  | zero => rfl
  | succ n ih =>
    show sumL r n + r n = nI (smN f n + f n)
    rw [ih (fun y hy => e y (by omega)), e n (by omega), nI_add]
theorem N_meas (t : TSr h) (hc : c < 8) (hw : ∀ y, y < 30 → g 756 (70 + 35 * c + y) = nI (f y)) : f_Model_measures (uI h g) 755 (nI c) = some (nI (smN f 30), uI h g) := by
  rw [M_measures (t.iu (g := g)) hc]
  have e : sumL (fun y => hI (uI h g) 756 (65 + 35 * c + (5 + y))) 30 = nI (smN f 30) := sumL_n fun y hy => by
    show g 756 (65 + 35 * c + (5 + y)) = _
    rw [show 65 + 35 * c + (5 + y) = 70 + 35 * c + y from by omega]
    exact hw y hy
  rw [e]
theorem N_cis (t : TSr h) : f_Model_cisterns (uI h g) 755 = some (g 756 0, uI h g) := M_cisterns (t.iu (g := g))
theorem N_full_L (t : TSr h) (hc : c < 8) (hw : ∀ y, y < 30 → g 756 (70 + 35 * c + y) = nI (f y)) (hf : ∀ y, y < 30 → f y ≤ 999) : ∀ (j y : Nat), y + j = 29 → ∀ n, f_Model_fullest_L4 (n + j + 1) (uI h g) 755 (nI c) (nI (fulL f y)) (nI (y + 1)) = some (nI (fulL f 29), uI h g) := by
  intro j
  induction j with
  | zero =>
    intro y hy n
    obtain rfl : y = 29 := by omega
    show f_Model_fullest_b4 (f_Model_fullest_L4 n) (uI h g) 755 (nI c) _ (nI 30) = _
    unfold f_Model_fullest_b4
    rw [n30, if_pos (Int32.le_refl _)]
  | succ j ih =>
    intro y hy n
    have E : f_Model_fullest_L4 (n + (j + 1) + 1) (uI h g) 755 (nI c) (nI (fulL f y)) (nI (y + 1)) = f_Model_fullest_b4 (f_Model_fullest_L4 (n + j + 1)) (uI h g) 755 (nI c) (nI (fulL f y)) (nI (y + 1)) := rfl
    have hb : fulL f y ≤ y := fulL_spec.1
    have F1 := hf (y + 1) (by omega)
    have F2 := hf (fulL f y) (by omega)
    have s := (t.iu (g := g)).1
    rw [E]
    unfold f_Model_fullest_b4
    rw [n30, if_neg (nI_ge (by omega) (by decide)), if_pos s, N_layer t hc (by omega), bI_s, if_pos s, N_layer t hc (by omega), bI_s, hw _ (by omega), hw _ (by omega)]
    have := ih (y + 1) (by omega) n
    by_cases e : f (y + 1) < f (fulL f y)
    · have q : fulL f (y + 1) = fulL f y := if_pos e
      rw [if_pos (nI_lt e (by omega))]
      unfold f_Model_fullest_b30
      rw [nI_1, ← q]
      exact this
    · have q : fulL f (y + 1) = y + 1 := if_neg e
      rw [if_neg (nI_nlt (by omega) (by omega))]
      unfold f_Model_fullest_b30
      rw [nI_1]
      rw [q] at this
      exact this
theorem FU_29 : FU = 999970 + 29 + 1 := rfl
theorem N_full (t : TSr h) (hc : c < 8) (hw : ∀ y, y < 30 → g 756 (70 + 35 * c + y) = nI (f y)) (hf : ∀ y, y < 30 → f y ≤ 999) : f_Model_fullest (uI h g) 755 (nI c) = some (nI (fulL f 29), uI h g) := by
  unfold f_Model_fullest f_Model_fullest_b0
  rw [FU_29]
  exact N_full_L t hc hw hf 29 0 rfl 999970
/-- where a leak goes: a cistern, or 8: nowhere -/
def tI (d : Nat) : Int32 := if d < 8 then nI d else -1
theorem N_drop_41 (t : TSr h) : f_Model_drops_b41 (uI h g) 755 = some (uI h (up2 g 756 6 (g 756 6 + 1))) := by
  obtain ⟨s, ⟨r, -⟩, ⟨a1, a2⟩, -⟩ := t.iu (g := g)
  unfold f_Model_drops_b41
  rw [if_pos s, r, if_pos a1, a2, show (6 : Int32) = nI 6 from rfl, if_pos (ib_n (by decide) (by decide)), if_pos (ib_n (by decide) (by decide)), ix_n (by decide)]
  rfl
/-- one measure goes -/
theorem N_drop (t : TSr h) (hc : c < 8) (hw : ∀ y, y < 30 → g 756 (70 + 35 * c + y) = nI (f y)) (hf : ∀ y, y < 30 → f y ≤ 999) (hd : d < 8 → d ≠ c ∧ (∀ y, y < 30 → g 756 (70 + 35 * d + y) = nI (p y)) ∧ g 756 (65 + 35 * d) = nI q ∧ q < 2 ^ 20 ∧ smN p 30 < 2 ^ 20) :
    f_Model_drops (uI h g) 755 (nI c) (tI d) = some (uI h (
      if d < 8 ∧ smN p 30 < q then up2 (up2 g 756 (70 + 35 * c + fulL f 29) (nI (f (fulL f 29)) + -1)) 756 (70 + 35 * d + fulL f 29) (g 756 (70 + 35 * d + fulL f 29) + 1)
      else up2 (up2 g 756 (70 + 35 * c + fulL f 29) (nI (f (fulL f 29)) + -1)) 756 6 (g 756 6 + 1))) := by
  have hb : fulL f 29 ≤ 29 := fulL_spec.1
  have s : ∀ g, hS (uI h g) 755 = 11 := fun g => (t.iu (g := g)).1
  unfold f_Model_drops f_Model_drops_b0
  rw [if_pos (s _), N_full t hc hw hf, bI_s, if_pos (s _), N_adds t hc (by omega), bV_s, hw _ (by omega)]
  by_cases e : d < 8
  · obtain ⟨d1, d2, d3, d4, d5⟩ := hd e
    have T1 : tI d = nI d := if_pos e
    rw [T1, if_neg (nI_pos (by omega)), if_pos (s _), N_meas (f := p) t e (fun y hy => ?_), bI_s, if_pos (s _), nI_z, N_of t e (by decide), bI_s]
    · have r1 : up2 g 756 (70 + 35 * c + fulL f 29) (nI (f (fulL f 29)) + -1) 756 (65 + 35 * d + 0) = nI q := by
        rw [up_k (by omega)]; exact d3
      rw [r1]
      by_cases e2 : smN p 30 < q
      · rw [if_neg (nI_ge e2 (by omega)), if_pos (s _), N_adds t e (by omega), bV_s, if_pos ⟨e, e2⟩, up_k (by omega)]
      · rw [if_pos (nI_le (by omega) (by omega)), N_drop_41 t, if_neg (fun z => e2 z.2), up_k (by omega)]
    · rw [up_k (by omega)]
      exact d2 y hy
  · have T1 : tI d = -1 := if_neg e
    rw [T1, if_pos (by decide), N_drop_41 t, if_neg (fun z => e z.1), up_k (by omega)]
/-- u measures of c are gone, s of them to d, the others lost -/
def mvW (w : Nat → Int32) (c d u s : Nat) : Nat → Int32 := fun k =>
  if 70 + 35 * c ≤ k ∧ k < 100 + 35 * c then nI (drN (ly w c) u (k - (70 + 35 * c)))
  else if d < 8 ∧ 70 + 35 * d ≤ k ∧ k < 100 + 35 * d then w k + nI (shF (ly w c) s (k - (70 + 35 * d)))
  else if k = 6 then w 6 + nI (u - s) else w k
theorem mv_c (hy : y < 30) : mvW w c d u s (70 + 35 * c + y) = nI (drN (ly w c) u y) := by
  unfold mvW
  rw [if_pos (by omega), show 70 + 35 * c + y - (70 + 35 * c) = y from by omega]
theorem mv_d (e : d ≠ c) (hd : d < 8) (hy : y < 30) : mvW w c d u s (70 + 35 * d + y) = w (70 + 35 * d + y) + nI (shF (ly w c) s y) := by
  unfold mvW
  rw [if_neg (by omega), if_pos (by omega), show 70 + 35 * d + y - (70 + 35 * d) = y from by omega]
theorem mv_6 : mvW w c d u s 6 = w 6 + nI (u - s) := by
  unfold mvW
  rw [if_neg (by omega), if_neg (by omega), if_pos rfl]
theorem mv_o (h1 : ¬ (70 + 35 * c ≤ k ∧ k < 100 + 35 * c)) (h2 : ¬ (d < 8 ∧ 70 + 35 * d ≤ k ∧ k < 100 + 35 * d)) (h3 : k ≠ 6) : mvW w c d u s k = w k := by
  unfold mvW
  rw [if_neg h1, if_neg h2, if_neg h3]
theorem mv_h {c' : Nat} (hj : j < 5) : mvW w c d u s (65 + 35 * c' + j) = w (65 + 35 * c' + j) := mv_o (by omega) (by omega) (by omega)
theorem mv_l {c' : Nat} (h1 : c' ≠ c) (h2 : c' ≠ d) (hy : y < 30) : mvW w c d u s (70 + 35 * c' + y) = w (70 + 35 * c' + y) := mv_o (by omega) (by omega) (by omega)
theorem dr_pos (hi : i < smN f 30) : 0 < drN f i (fulL (drN f i) 29) := fulL_pos (by have := drN_sum (f := f) (n := i) (by omega); omega)
theorem dr_s : drN f (i + 1) y = if y = fulL (drN f i) 29 then drN f i y - 1 else drN f i y := rfl
theorem mv_in (hi : i < ms w c) (hd : d < 8) (e : d ≠ c) : up1 (up1 (mvW w c d i i) (70 + 35 * c + fulL (drN (ly w c) i) 29) (nI (drN (ly w c) i (fulL (drN (ly w c) i) 29)) + -1)) (70 + 35 * d + fulL (drN (ly w c) i) 29) (mvW w c d i i (70 + 35 * d + fulL (drN (ly w c) i) 29) + 1) = mvW w c d (i + 1) (i + 1) := by
  have hb : fulL (drN (ly w c) i) 29 ≤ 29 := fulL_spec.1
  have hp := dr_pos hi
  have hle := drN_le (f := ly w c) (n := i) (y := fulL (drN (ly w c) i) 29)
  funext k
  by_cases k1 : 70 + 35 * c ≤ k ∧ k < 100 + 35 * c
  · obtain ⟨y, rfl⟩ : ∃ y, k = 70 + 35 * c + y := ⟨k - (70 + 35 * c), by omega⟩
    have hy : y < 30 := by omega
    rw [up1_ne (by omega), mv_c hy, dr_s]
    by_cases e1 : y = fulL (drN (ly w c) i) 29
    · rw [if_pos e1, e1, up1_eq]
      obtain ⟨z, hz⟩ : ∃ z, drN (ly w c) i (fulL (drN (ly w c) i) 29) = z + 1 := ⟨drN (ly w c) i (fulL (drN (ly w c) i) 29) - 1, by omega⟩
      rw [hz, pk_m1]
      rfl
    · rw [if_neg e1, up1_ne (by omega), mv_c hy]
  · by_cases k2 : 70 + 35 * d ≤ k ∧ k < 100 + 35 * d
    · obtain ⟨y, rfl⟩ : ∃ y, k = 70 + 35 * d + y := ⟨k - (70 + 35 * d), by omega⟩
      have hy : y < 30 := by omega
      rw [mv_d e hd hy]
      by_cases e1 : y = fulL (drN (ly w c) i) 29
      · rw [← e1, up1_eq, mv_d e hd hy, Int32.add_assoc]
        congr 1
        rw [nI_1]
        congr 1
        unfold shF
        rw [dr_s, if_pos e1]
        rw [← e1] at hp hle
        omega
      · rw [up1_ne (by omega), up1_ne (by omega), mv_d e hd hy]
        unfold shF
        rw [dr_s, if_neg e1]
    · rw [up1_ne (by omega), up1_ne (by omega)]
      by_cases k3 : k = 6
      · subst k3
        rw [mv_6, mv_6, Nat.sub_self, Nat.sub_self]
      · rw [mv_o k1 (fun z => k2 z.2) k3, mv_o k1 (fun z => k2 z.2) k3]
theorem mv_out (hi : i < ms w c) (hs : s ≤ i) (hc : c < 8) (e : d < 8 → d ≠ c) : up1 (up1 (mvW w c d i s) (70 + 35 * c + fulL (drN (ly w c) i) 29) (nI (drN (ly w c) i (fulL (drN (ly w c) i) 29)) + -1)) 6 (mvW w c d i s 6 + 1) = mvW w c d (i + 1) s := by
  have hb : fulL (drN (ly w c) i) 29 ≤ 29 := fulL_spec.1
  have hp := dr_pos hi
  funext k
  by_cases k1 : 70 + 35 * c ≤ k ∧ k < 100 + 35 * c
  · obtain ⟨y, rfl⟩ : ∃ y, k = 70 + 35 * c + y := ⟨k - (70 + 35 * c), by omega⟩
    have hy : y < 30 := by omega
    rw [up1_ne (by omega), mv_c hy, dr_s]
    by_cases e1 : y = fulL (drN (ly w c) i) 29
    · rw [if_pos e1, e1, up1_eq]
      obtain ⟨z, hz⟩ : ∃ z, drN (ly w c) i (fulL (drN (ly w c) i) 29) = z + 1 := ⟨drN (ly w c) i (fulL (drN (ly w c) i) 29) - 1, by omega⟩
      rw [hz, pk_m1]
      rfl
    · rw [if_neg e1, up1_ne (by omega), mv_c hy]
  · by_cases k3 : k = 6
    · subst k3
      rw [up1_eq, mv_6, mv_6, Int32.add_assoc, nI_1, show i + 1 - s = i - s + 1 from by omega]
    · rw [up1_ne k3, up1_ne (by omega)]
      by_cases k2 : d < 8 ∧ 70 + 35 * d ≤ k ∧ k < 100 + 35 * d
      · obtain ⟨y, rfl⟩ : ∃ y, k = 70 + 35 * d + y := ⟨k - (70 + 35 * d), by omega⟩
        rw [mv_d (e k2.1) k2.1 (by omega), mv_d (e k2.1) k2.1 (by omega)]
      · rw [mv_o k1 k2 k3, mv_o k1 k2 k3]
end U4
