/-! ===== foul ===== -/
section U39
variable {h h1 h0 : Hp} {g g' g1 g2 g0 : Nat → Nat → Int32} {w w' w0 u : Nat → Int32} {A B L S c d k n l y j m q s i r z E N M M' o T R : Nat} {v x a b p1 p2 p3 p4 p5 : Int32} {Q : Nat → Nat → Int32}
/-- who drank water of y -/
def dksF (w : Nat → Int32) (y : Nat) : Int32 → Nat → Nat → Int32
  | a, _, 0 => a
  | a, i, j + 1 => dksF w y (if w (349 + 34 * i + y) ≤ 0 then a else a ||| jshl (1 : Int32) (nI i)) (i + 1) j
theorem C_drinkers_L (t : LDs h A) (R : RLa g A w) (W : WF M w) (hy : y < 30) : ∀ (j i : Nat) (a : Int32), i + j = nh w → ∀ q, f_Land_drinkersOf_L4 (q + j + 1) (uI h g) A (nI y) a (nI i) = some (dksF w y a i j, uI h g) := by
  have s4 : hS (uI h g) A = 4 := t.1
  have e1 : g A 1 = nI (nh w) := R.1.2.1.trans W.1.2.1
  have h8 := W.2.1.2.1
  intro j
  induction j with
  | zero =>
    intro i a hi q
    have hi' : i = nh w := hi
    subst hi'
    show f_Land_drinkersOf_b4 (f_Land_drinkersOf_L4 q) (uI h g) A (nI y) a (nI (nh w)) = _
    unfold f_Land_drinkersOf_b4
    rw [if_pos s4, hI_u, e1, if_pos (Int32.le_refl _)]
    rfl
  | succ j ih =>
    intro i a hi q
    obtain ⟨a1, a2, a3, a4, a5, b2, b3, b4⟩ := (t.iu (g := g)).hr (k := i) (by omega)
    have r2 := (R.2.2.1 i (by omega)).2 y hy
    have E : f_Land_drinkersOf_L4 (q + (j + 1) + 1) (uI h g) A (nI y) a (nI i) = f_Land_drinkersOf_b4 (f_Land_drinkersOf_L4 (q + j + 1)) (uI h g) A (nI y) a (nI i) := rfl
    rw [E]
    unfold f_Land_drinkersOf_b4 f_Land_drinkersOf_b42
    rw [if_pos s4, hI_u, e1, if_neg (nI_ge (by omega) (by omega)), if_neg (nI_pos (by omega)), if_neg (show ¬ (30 : Int32) ≤ nI y from nI_ge (b := 30) hy (by decide)), a1, if_pos a2, a3, if_pos (ib_n (by omega) (by decide)), ix_n (by omega), a4, if_pos a5, b2, if_pos b3, b4, if_pos (ib_n hy (by decide)), ix_n (by omega), r2, nI_1]
    by_cases e : w (349 + 34 * i + y) ≤ 0
    · rw [if_pos e, ih (i + 1) a (by omega) q]
      show _ = some (dksF w y (if w (349 + 34 * i + y) ≤ 0 then a else a ||| jshl (1 : Int32) (nI i)) (i + 1) j, uI h g)
      rw [if_pos e]
    · rw [if_neg e, ih (i + 1) _ (by omega) q]
      show _ = some (dksF w y (if w (349 + 34 * i + y) ≤ 0 then a else a ||| jshl (1 : Int32) (nI i)) (i + 1) j, uI h g)
      rw [if_neg e]
theorem C_drinkers (t : LDs h A) (R : RLa g A w) (W : WF M w) (hy : y < 30) : f_Land_drinkersOf (uI h g) A (nI y) = some (dksF w y 0 0 (nh w), uI h g) := by
  have h8 := W.2.1.2.1
  unfold f_Land_drinkersOf f_Land_drinkersOf_b0
  rw [FU_mm (k := nh w) (by omega)]
  exact C_drinkers_L t R W hy (nh w) 0 0 (by omega) _
theorem or_z (a : Int32) : a ||| (0 : Int32) = a := by
  apply Int32.toBitVec_inj.mp
  rw [Int32.toBitVec_or]
  exact BitVec.or_zero
theorem N_drinkers_L (t : TSr h) (e6 : g 756 = w) (W : WF M w) (hy : y < 30) : ∀ (j i : Nat) (a : Int32), i + j = nh w → ∀ q, f_Model_drinkers_L4 (q + j + 1) (uI h g) 755 (nI y) a (nI i) = some (dksF w y a i j, uI h g) := by
  have s7 : hS (uI h g) 755 = 11 := t.1
  have h8 := W.2.1.2.1
  have w1 : w 1 = nI (nh w) := W.1.2.1
  intro j
  induction j with
  | zero =>
    intro i a hi q
    have hi' : i = nh w := hi
    subst hi'
    show f_Model_drinkers_b4 (f_Model_drinkers_L4 q) (uI h g) 755 (nI y) a (nI (nh w)) = _
    unfold f_Model_drinkers_b4
    rw [if_pos s7, N_hou t, bI_s, e6, w1, if_pos (Int32.le_refl _)]
    rfl
  | succ j ih =>
    intro i a hi q
    have E : f_Model_drinkers_L4 (q + (j + 1) + 1) (uI h g) 755 (nI y) a (nI i) = f_Model_drinkers_b4 (f_Model_drinkers_L4 (q + j + 1)) (uI h g) 755 (nI y) a (nI i) := rfl
    rw [E]
    unfold f_Model_drinkers_b4 f_Model_drinkers_b31
    rw [if_pos s7, N_hou t, bI_s, e6, w1, if_neg (nI_ge (by omega) (by omega)), if_pos s7, show (4 : Int32) + nI y = nI (4 + y) from nI_add 4 y, N_oh t (by omega) (by omega), bI_s, e6, show 345 + 34 * i + (4 + y) = 349 + 34 * i + y from by omega, nI_1]
    by_cases e : w (349 + 34 * i + y) ≤ 0
    · rw [if_pos e, or_z, ih (i + 1) a (by omega) q]
      show _ = some (dksF w y (if w (349 + 34 * i + y) ≤ 0 then a else a ||| jshl (1 : Int32) (nI i)) (i + 1) j, uI h g)
      rw [if_pos e]
    · rw [if_neg e, ih (i + 1) _ (by omega) q]
      show _ = some (dksF w y (if w (349 + 34 * i + y) ≤ 0 then a else a ||| jshl (1 : Int32) (nI i)) (i + 1) j, uI h g)
      rw [if_neg e]
theorem N_drinkers (t : TSr h) (e6 : g 756 = w) (W : WF M w) (hy : y < 30) : f_Model_drinkers (uI h g) 755 (nI y) = some (dksF w y 0 0 (nh w), uI h g) := by
  have h8 := W.2.1.2.1
  unfold f_Model_drinkers f_Model_drinkers_b0
  rw [FU_mm (k := nh w) (by omega)]
  exact N_drinkers_L t e6 W hy (nh w) 0 0 (by omega) _
/-- the years whose drinkers are just those of m -/
def foS (w : Nat → Int32) (m : Int32) (y : Nat) (a : Int32) : Int32 := if dksF w y 0 0 (nh w) = 0 then a else if dksF w y 0 0 (nh w) = m then a ||| jshl (1 : Int32) (nI y) else a
def foF (w : Nat → Int32) (m : Int32) : Int32 → Nat → Nat → Int32
  | a, _, 0 => a
  | a, y, j + 1 => foF w m (foS w m y a) (y + 1) j
theorem C_foul_L (t : TS h) (R : RLa g 569 w) (W : WF M w) : ∀ (j y : Nat) (a : Int32), y + j = 30 → ∀ q, f_Water_foul_L15 (q + j + 1) (uI h g) 1 b a (nI y) = some (foF w b a y j, uI h g) := by
  obtain ⟨⟨w1, -, -, -, -, w5, -⟩, w6, -⟩ := WTR (g := g) t
  intro j
  induction j with
  | zero =>
    intro y a hi q
    have hi' : y = 30 := hi
    subst hi'
    show f_Water_foul_b15 (f_Water_foul_L15 q) (uI h g) 1 b a (nI 30) = _
    unfold f_Water_foul_b15
    rw [if_pos (show (30 : Int32) ≤ nI 30 by decide)]
    rfl
  | succ j ih =>
    intro y a hi q
    have E : f_Water_foul_L15 (q + (j + 1) + 1) (uI h g) 1 b a (nI y) = f_Water_foul_b15 (f_Water_foul_L15 (q + j + 1)) (uI h g) 1 b a (nI y) := rfl
    have F : foF w b a y (j + 1) = foF w b (foS w b y a) (y + 1) j := rfl
    rw [E, F]
    unfold f_Water_foul_b15 f_Water_foul_b51 foS
    rw [if_neg (show ¬ (30 : Int32) ≤ nI y from nI_ge (b := 30) (by omega) (by decide)), if_pos w1, w5, if_pos w6, C_drinkers t.l9 R W (by omega), bI_s, nI_1]
    by_cases e : dksF w y 0 0 (nh w) = 0
    · rw [if_pos e, if_pos e]; exact ih (y + 1) _ (by omega) q
    · rw [if_neg e, if_neg e]
      by_cases e2 : dksF w y 0 0 (nh w) = b
      · rw [if_pos e2, if_pos e2]; exact ih (y + 1) _ (by omega) q
      · rw [if_neg e2, if_neg e2]; exact ih (y + 1) _ (by omega) q
theorem N_foul_L (t : TSr h) (e6 : g 756 = w) (W : WF M w) : ∀ (j y : Nat) (a : Int32), y + j = 30 → ∀ q, f_Model_foul_L21 (q + j + 1) (uI h g) 755 b a (nI y) = some (foF w b a y j, uI h g) := by
  have s7 : hS (uI h g) 755 = 11 := t.1
  intro j
  induction j with
  | zero =>
    intro y a hi q
    have hi' : y = 30 := hi
    subst hi'
    show f_Model_foul_b21 (f_Model_foul_L21 q) (uI h g) 755 b a (nI 30) = _
    unfold f_Model_foul_b21
    rw [if_pos (show (30 : Int32) ≤ nI 30 by decide)]
    rfl
  | succ j ih =>
    intro y a hi q
    have E : f_Model_foul_L21 (q + (j + 1) + 1) (uI h g) 755 b a (nI y) = f_Model_foul_b21 (f_Model_foul_L21 (q + j + 1)) (uI h g) 755 b a (nI y) := rfl
    have F : foF w b a y (j + 1) = foF w b (foS w b y a) (y + 1) j := rfl
    rw [E, F]
    unfold f_Model_foul_b21 f_Model_foul_b55 f_Model_foul_b56 foS
    rw [if_neg (show ¬ (30 : Int32) ≤ nI y from nI_ge (b := 30) (by omega) (by decide)), if_pos s7, N_drinkers t e6 W (by omega), bI_s, if_pos s7, N_drinkers t e6 W (by omega), bI_s, nI_1, or_z]
    by_cases e : dksF w y 0 0 (nh w) = 0
    · rw [if_pos e, if_pos e]; exact ih (y + 1) _ (by omega) q
    · rw [if_neg e, if_neg e]
      by_cases e2 : dksF w y 0 0 (nh w) = b
      · rw [if_pos e2, if_pos e2]; exact ih (y + 1) _ (by omega) q
      · rw [if_neg e2, if_neg e2]; exact ih (y + 1) _ (by omega) q
theorem sp_foul : VSp M (fun H => f_Water_foul H 1 p1) (fun H => f_Model_foul H 755 p1) := by
  intro H I
  obtain ⟨h, g, rfl⟩ : ∃ h g, H = uI h g := ⟨H, hI H, rfl⟩
  have I : INV M h g := I
  obtain ⟨t, W, R, Lr, -, e1, -⟩ := I.us
  obtain ⟨⟨w1, -, -, -, -, w5, -⟩, w6, -⟩ := WTR (g := g) t
  have s7 : ∀ (g : Nat → Nat → Int32), hS (uI h g) 755 = 11 := fun g => t.td.1.1
  have e6 : up2 g 755 0 0 756 = g 756 := up_row (by decide)
  refine cl_v (h := h) (g := g) (fw := fun H => f_Water_foul H 1 p1) (fm := fun H => f_Model_foul H 755 p1) (h1 := h) (g1 := g) (g2 := up2 g 755 0 0) (v := foF (g 756) (p1 &&& (jshl (1 : Int32) (nI (nh (g 756))) - 1)) 0 0 30) ?_ t ?_ I.th (by omega) (by omega)
  · show f_Water_foul_b0 (uI h g) 1 p1 = _
    unfold f_Water_foul_b0 f_Land_houseBits f_Land_houseBits_b0
    rw [if_pos w1, w5, if_pos w6, if_pos w6, hI_u, e1, bI_s]
    exact C_foul_L t R W 30 0 0 rfl 999969
  · show f_Model_foul_b0 (uI h g) 755 p1 = _
    unfold f_Model_foul_b0
    rw [if_pos (s7 _), wr_s, sI_u, N_hou t.td.1, bI_s, e6, W.1.2.1]
    exact N_foul_L t.td.1 e6 W 30 0 0 rfl 999969
end U39
