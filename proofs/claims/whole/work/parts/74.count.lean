/-! ===== count ===== -/
section U24
variable {h h1 : Hp} {g g' g1 g2 : Nat → Nat → Int32} {w w' : Nat → Int32} {A B L S c d k n l y j m q s i F r z E N M M' : Nat} {v x a b p1 p2 p3 : Int32} {f p : Nat → Nat} {fl fm fw : Hp → Option (Int32 × Hp)} {P Q : Nat → Int32}
theorem C_allM (t : LDs h A) (R : RLa g A w) (n0 : w 0 = nI (nc w)) (h8 : nc w ≤ 8) : f_Land_allMeasures (uI h g) A = some (sumL (fun c => nI (ms w c)) (nc w), uI h g) := by
  have s4 : hS (uI h g) A = 4 := t.1
  have L : ∀ (j i : Nat), i + j = nc w → ∀ q, f_Land_allMeasures_L4 (q + j + 1) (uI h g) A (sumL (fun c => nI (ms w c)) i) (nI i) = some (sumL (fun c => nI (ms w c)) (nc w), uI h g) := by
    intro j
    induction j with
    | zero =>
      intro i hi q
      have hi' : i = nc w := hi
      have E : f_Land_allMeasures_L4 (q + 0 + 1) (uI h g) A (sumL (fun c => nI (ms w c)) i) (nI i) = f_Land_allMeasures_b4 (f_Land_allMeasures_L4 q) (uI h g) A (sumL (fun c => nI (ms w c)) i) (nI i) := rfl
      rw [E]
      unfold f_Land_allMeasures_b4
      rw [if_pos s4, hI_u, R.1.1, n0, hi', if_pos (Int32.le_refl _)]
    | succ j ih =>
      intro i hi q
      have E : f_Land_allMeasures_L4 (q + (j + 1) + 1) (uI h g) A (sumL (fun c => nI (ms w c)) i) (nI i) = f_Land_allMeasures_b4 (f_Land_allMeasures_L4 (q + j + 1)) (uI h g) A (sumL (fun c => nI (ms w c)) i) (nI i) := rfl
      obtain ⟨a1, a2, a3, a4, a5⟩ := (t.iu (g := g)).cr (c := i) (by omega)
      rw [E]
      unfold f_Land_allMeasures_b4
      rw [if_pos s4, hI_u, R.1.1, n0, if_neg (nI_ge (by omega) (by omega)), a3, if_pos a4, a5, if_pos (ib_n (by omega) (by decide)), ix_n (by omega), a1, if_pos a2, (R.2.1 i (by omega)).2.2, nI_1]
      exact ih (i + 1) (by omega) q
  unfold f_Land_allMeasures f_Land_allMeasures_b0
  rw [FU_mm (k := nc w) (by omega)]
  exact L (nc w) 0 (by omega) _
theorem C_allT (t : LDs h A) (R : RLa g A w) (n0 : w 1 = nI (nh w)) (h8 : nh w ≤ 8) : f_Land_allThirst (uI h g) A = some (sumL (fun k => w (345 + 34 * k + 3)) (nh w), uI h g) := by
  have s4 : hS (uI h g) A = 4 := t.1
  have L : ∀ (j i : Nat), i + j = nh w → ∀ q, f_Land_allThirst_L4 (q + j + 1) (uI h g) A (sumL (fun k => w (345 + 34 * k + 3)) i) (nI i) = some (sumL (fun k => w (345 + 34 * k + 3)) (nh w), uI h g) := by
    intro j
    induction j with
    | zero =>
      intro i hi q
      have hi' : i = nh w := hi
      have E : f_Land_allThirst_L4 (q + 0 + 1) (uI h g) A (sumL (fun k => w (345 + 34 * k + 3)) i) (nI i) = f_Land_allThirst_b4 (f_Land_allThirst_L4 q) (uI h g) A (sumL (fun k => w (345 + 34 * k + 3)) i) (nI i) := rfl
      rw [E]
      unfold f_Land_allThirst_b4
      rw [if_pos s4, hI_u, R.1.2.1, n0, hi', if_pos (Int32.le_refl _)]
    | succ j ih =>
      intro i hi q
      have E : f_Land_allThirst_L4 (q + (j + 1) + 1) (uI h g) A (sumL (fun k => w (345 + 34 * k + 3)) i) (nI i) = f_Land_allThirst_b4 (f_Land_allThirst_L4 (q + j + 1)) (uI h g) A (sumL (fun k => w (345 + 34 * k + 3)) i) (nI i) := rfl
      obtain ⟨a1, a2, a3, a4, a5, -⟩ := (t.iu (g := g)).hr (k := i) (by omega)
      rw [E]
      unfold f_Land_allThirst_b4
      rw [if_pos s4, hI_u, R.1.2.1, n0, if_neg (nI_ge (by omega) (by omega)), a1, if_pos a2, a3, if_pos (ib_n (by omega) (by decide)), ix_n (by omega), a4, if_pos a5, (R.2.2.1 i (by omega)).1 3 (by decide), nI_1]
      exact ih (i + 1) (by omega) q
  unfold f_Land_allThirst f_Land_allThirst_b0
  rw [FU_mm (k := nh w) (by omega)]
  exact L (nh w) 0 (by omega) _
theorem C_allD (t : LDs h A) (R : RLa g A w) (n0 : w 1 = nI (nh w)) (h8 : nh w ≤ 8) : f_Land_allDrunk (uI h g) A = some (w 9 + sumL (drbW w) (nh w), uI h g) := by
  have s4 : hS (uI h g) A = 4 := t.1
  have L : ∀ (j i : Nat), i + j = nh w → ∀ q, f_Land_allDrunk_L7 (q + j + 1) (uI h g) A (w 9 + sumL (drbW w) i) (nI i) = some (w 9 + sumL (drbW w) (nh w), uI h g) := by
    intro j
    induction j with
    | zero =>
      intro i hi q
      have hi' : i = nh w := hi
      have E : f_Land_allDrunk_L7 (q + 0 + 1) (uI h g) A (w 9 + sumL (drbW w) i) (nI i) = f_Land_allDrunk_b7 (f_Land_allDrunk_L7 q) (uI h g) A (w 9 + sumL (drbW w) i) (nI i) := rfl
      rw [E]
      unfold f_Land_allDrunk_b7
      rw [if_pos s4, hI_u, R.1.2.1, n0, hi', if_pos (Int32.le_refl _)]
    | succ j ih =>
      intro i hi q
      have E : f_Land_allDrunk_L7 (q + (j + 1) + 1) (uI h g) A (w 9 + sumL (drbW w) i) (nI i) = f_Land_allDrunk_b7 (f_Land_allDrunk_L7 (q + j + 1)) (uI h g) A (w 9 + sumL (drbW w) i) (nI i) := rfl
      obtain ⟨a1, a2, a3, a4, a5, -⟩ := (t.iu (g := g)).hr (k := i) (by omega)
      rw [E]
      unfold f_Land_allDrunk_b7
      rw [if_pos s4, hI_u, R.1.2.1, n0, if_neg (nI_ge (by omega) (by omega)), a1, if_pos a2, a3, if_pos (ib_n (by omega) (by decide)), ix_n (by omega), a4, if_pos a5, C_drb t R (by omega) h8, bI_s, nI_1, Int32.add_assoc]
      exact ih (i + 1) (by omega) q
  unfold f_Land_allDrunk f_Land_allDrunk_b0
  rw [if_pos s4, hI_u, R.1.2.2.2.2.2.2.2.2.2, FU_mm (k := nh w) (by omega)]
  have := L (nh w) 0 (by omega) (999999 - nh w)
  rw [show sumL (drbW w) 0 = 0 from rfl, Int32.add_zero] at this
  exact this
theorem N_allM (t : TSr h) (e : g 756 = w) (n0 : w 0 = nI (nc w)) (h8 : nc w ≤ 8) (O : ∀ c, c < nc w → OKL w c) : ∀ (j i : Nat), i + j = nc w → ∀ q, f_Model_count_L134 (q + j + 1) (uI h g) 755 (sumL (fun c => nI (ms w c)) i) (nI i) = some (sumL (fun c => nI (ms w c)) (nc w), uI h g) := by
  have s : ∀ g, hS (uI h g) 755 = 11 := fun g => (t.iu (g := g)).1
  intro j
  induction j with
  | zero =>
    intro i hi q
    have hi' : i = nc w := hi
    have E : f_Model_count_L134 (q + 0 + 1) (uI h g) 755 (sumL (fun c => nI (ms w c)) i) (nI i) = f_Model_count_b134 (f_Model_count_L134 q) (uI h g) 755 (sumL (fun c => nI (ms w c)) i) (nI i) := rfl
    rw [E]
    unfold f_Model_count_b134
    rw [if_pos (s _), N_cis t, bI_s, e, n0, hi', if_pos (Int32.le_refl _)]
  | succ j ih =>
    intro i hi q
    have E : f_Model_count_L134 (q + (j + 1) + 1) (uI h g) 755 (sumL (fun c => nI (ms w c)) i) (nI i) = f_Model_count_b134 (f_Model_count_L134 (q + j + 1)) (uI h g) 755 (sumL (fun c => nI (ms w c)) i) (nI i) := rfl
    rw [E]
    unfold f_Model_count_b134
    rw [if_pos (s _), N_cis t, bI_s, e, n0, if_neg (nI_ge (by omega) (by omega)), if_pos (s _), N_ms t (by omega) e (O i (by omega)), bI_s, nI_1]
    exact ih (i + 1) (by omega) q
theorem N_allD (t : TSr h) (e : g 756 = w) (n0 : w 1 = nI (nh w)) (h8 : nh w ≤ 8) : ∀ (j i : Nat), i + j = nh w → ∀ q, f_Model_count_L160 (q + j + 1) (uI h g) 755 (sumL (drbW w) i) (nI i) = some (sumL (drbW w) (nh w) + w 9, uI h g) := by
  have s : ∀ g, hS (uI h g) 755 = 11 := fun g => (t.iu (g := g)).1
  obtain ⟨-, ⟨r1, -⟩, ⟨b1, b2⟩, -⟩ := t.iu (g := g)
  intro j
  induction j with
  | zero =>
    intro i hi q
    have hi' : i = nh w := hi
    have E : f_Model_count_L160 (q + 0 + 1) (uI h g) 755 (sumL (drbW w) i) (nI i) = f_Model_count_b160 (f_Model_count_L160 q) (uI h g) 755 (sumL (drbW w) i) (nI i) := rfl
    rw [E]
    unfold f_Model_count_b160
    rw [if_pos (s _), N_hou t, bI_s, e, n0, hi', if_pos (Int32.le_refl _), if_pos (s _), r1, if_pos b1, b2, show (9 : Int32) = nI 9 from rfl, if_pos (ib_n (by decide) (by decide)), ix_n (by decide), hI_u, e]
  | succ j ih =>
    intro i hi q
    have E : f_Model_count_L160 (q + (j + 1) + 1) (uI h g) 755 (sumL (drbW w) i) (nI i) = f_Model_count_b160 (f_Model_count_L160 (q + j + 1)) (uI h g) 755 (sumL (drbW w) i) (nI i) := rfl
    rw [E]
    unfold f_Model_count_b160
    rw [if_pos (s _), N_hou t, bI_s, e, n0, if_neg (nI_ge (by omega) (by omega)), if_pos (s _), N_drb t (by omega) e, bI_s, nI_1]
    exact ih (i + 1) (by omega) q
theorem N_allT (t : TSr h) (e : g 756 = w) (n0 : w 1 = nI (nh w)) (h8 : nh w ≤ 8) : ∀ (j i : Nat), i + j = nh w → ∀ q, f_Model_count_L223 (q + j + 1) (uI h g) 755 (sumL (fun k => w (345 + 34 * k + 3)) i) (nI i) = some (sumL (fun k => w (345 + 34 * k + 3)) (nh w), uI h g) := by
  have s : ∀ g, hS (uI h g) 755 = 11 := fun g => (t.iu (g := g)).1
  intro j
  induction j with
  | zero =>
    intro i hi q
    have hi' : i = nh w := hi
    have E : f_Model_count_L223 (q + 0 + 1) (uI h g) 755 (sumL (fun k => w (345 + 34 * k + 3)) i) (nI i) = f_Model_count_b223 (f_Model_count_L223 q) (uI h g) 755 (sumL (fun k => w (345 + 34 * k + 3)) i) (nI i) := rfl
    rw [E]
    unfold f_Model_count_b223
    rw [if_pos (s _), N_hou t, bI_s, e, n0, hi', if_pos (Int32.le_refl _)]
  | succ j ih =>
    intro i hi q
    have E : f_Model_count_L223 (q + (j + 1) + 1) (uI h g) 755 (sumL (fun k => w (345 + 34 * k + 3)) i) (nI i) = f_Model_count_b223 (f_Model_count_L223 (q + j + 1)) (uI h g) 755 (sumL (fun k => w (345 + 34 * k + 3)) i) (nI i) := rfl
    rw [E]
    unfold f_Model_count_b223
    rw [if_pos (s _), N_hou t, bI_s, e, n0, if_neg (nI_ge (by omega) (by omega)), if_pos (s _), show (3 : Int32) = nI 3 from rfl, N_oh t (by omega) (by decide), bI_s, e, nI_1]
    exact ih (i + 1) (by omega) q
theorem sp_count : VSp M (fun H => f_Water_count H 1 p1) (fun H => f_Model_count H 755 p1) := by
  intro H I
  obtain ⟨h, g, rfl⟩ : ∃ h g, H = uI h g := ⟨H, hI H, rfl⟩
  have I : INV M h g := I
  obtain ⟨t, W, R, Lr, e0, e1, e2, n8, nh8, nd8⟩ := I.us
  obtain ⟨⟨w1, -, -, -, w4, w5, -⟩, w6, w7⟩ := WTR (g := g) t
  obtain ⟨s0, s1, s2, s3, s4, s5, s6, s7, s8, s9⟩ := R.1
  have r1 : hR (uI h (up2 g 755 0 0)) 755 1 = 756 := t.td.1.2.1.1
  have b1 : hS (uI h (up2 g 755 0 0)) 756 = 20 := t.td.1.2.2.1.1
  have b2 : hL (uI h (up2 g 755 0 0)) 756 = 2291 := t.td.1.2.2.1.2
  have g6 : up2 g 755 0 0 756 = g 756 := th_r (by decide)
  have fin : ∀ v, f_Water_count_b0 (uI h g) 1 p1 = some (v, uI h g) → f_Model_count_b0 (uI h g) 755 p1 = some (v, uI h (up2 g 755 0 0)) → ∃ v H1 H2, f_Water_count (uI h g) 1 p1 = some (v, H1) ∧ TS H1 ∧ f_Model_count H1 755 p1 = some (v, H2) ∧ INV (M + 60) H2 (hI H2) ∧ hN H2 ≤ hN (uI h g) + 1170 ∧ hZ H2 ≤ hZ (uI h g) + 14000 :=
    fun v a b => ⟨v, uI h g, uI h (up2 g 755 0 0), a, t, b, I.th, Nat.le_add_right _ _, Nat.le_add_right _ _⟩
  have cell : ∀ (k : Nat), k < 2291 → ∀ (x : Int32), x = nI k → (if ib x (hL (uI h (up2 g 755 0 0)) 756) = true then some (hI (uI h (up2 g 755 0 0)) 756 (ix x), uI h (up2 g 755 0 0)) else none) = some (g 756 k, uI h (up2 g 755 0 0)) := by
    rintro k hk _ rfl
    rw [b2, if_pos (ib_n hk (by decide)), ix_n (by omega), hI_u, g6]
  show ∃ v H1 H2, f_Water_count (uI h g) 1 p1 = some (v, H1) ∧ TS H1 ∧ f_Model_count H1 755 p1 = some (v, H2) ∧ INV (M + 60) H2 (hI H2) ∧ hN H2 ≤ hN (uI h g) + 1170 ∧ hZ H2 ≤ hZ (uI h g) + 14000
  unfold f_Water_count_b0 f_Model_count_b0 at fin
  rw [w4, w5, if_pos w7, wr_s, sI_u, r1] at fin
  simp only [if_pos w1, if_pos w6, if_pos b1] at fin
  by_cases c0 : p1 = 0
  · rw [if_pos c0, if_pos c0, N_cis t.td.1, bI_s, g6, hI_u, s0] at fin
    exact fin _ rfl rfl
  rw [if_neg c0, if_neg c0] at fin
  by_cases c1 : p1 = 1
  · rw [if_pos c1, if_pos c1, N_hou t.td.1, bI_s, g6, hI_u, s1] at fin
    exact fin _ rfl rfl
  rw [if_neg c1, if_neg c1] at fin
  by_cases c2 : p1 = 2
  · rw [if_pos c2, if_pos c2, cell 2 (by decide) 2 rfl, hI_u, s3] at fin
    exact fin _ rfl rfl
  rw [if_neg c2, if_neg c2] at fin
  by_cases c3 : p1 = 3
  · rw [if_pos c3, if_pos c3, cell 617 (by decide) 617 rfl, b2, show (3 : Int32) = nI 3 from rfl, if_pos (ib_n (show 3 < 2291 by decide) (by decide)), ix_n (show 3 < 2 ^ 31 by decide), hI_u, hI_u, g6] at fin
    have e8 : hR (uI h g) 569 8 = hR h 569 8 := rfl
    rcases Lr with ⟨z1, z2⟩ | ⟨z1, z2, z3, S, z4, z5⟩
    · rw [e8, z2, if_pos rfl, z1, if_neg (by decide)] at fin
      exact fin _ rfl rfl
    · have s6 : hS (uI h g) (hR h 569 8) = 6 := z4.1
      rw [e8, if_neg (show ¬ hR h 569 8 = 0 by omega), if_pos s6, z1, if_pos rfl, z5.1] at fin
      exact fin _ rfl rfl
  rw [if_neg c3, if_neg c3] at fin
  by_cases c4 : p1 = 4
  · rw [if_pos c4, if_pos c4, cell 4 (by decide) 4 rfl, hI_u, s4] at fin
    exact fin _ rfl rfl
  rw [if_neg c4, if_neg c4] at fin
  by_cases c5 : p1 = 5
  · rw [if_pos c5, if_pos c5, C_year t.l9 s4, bI_s, N_now t.td.1, bI_s, g6] at fin
    exact fin _ rfl rfl
  rw [if_neg c5, if_neg c5] at fin
  by_cases c6 : p1 = 6
  · rw [if_pos c6, if_pos c6, C_allM t.l9 R W.1.1 n8, bI_s, FU_mm (k := nc (g 756)) (by omega)] at fin
    exact fin _ rfl (N_allM t.td.1 g6 W.1.1 n8 (fun c hc => (W.2.2.2.2.2.1 c hc).1) (nc (g 756)) 0 (by omega) _)
  rw [if_neg c6, if_neg c6] at fin
  by_cases c7 : p1 = 7
  · rw [if_pos c7, if_pos c7, C_allD t.l9 R W.1.2.1 nh8, bI_s, FU_mm (k := nh (g 756)) (by omega), Int32.add_comm] at fin
    exact fin _ rfl (N_allD t.td.1 g6 W.1.2.1 nh8 (nh (g 756)) 0 (by omega) _)
  rw [if_neg c7, if_neg c7] at fin
  by_cases c8 : p1 = 8
  · rw [if_pos c8, if_pos c8, cell 6 (by decide) 6 rfl, hI_u, s6] at fin
    exact fin _ rfl rfl
  rw [if_neg c8, if_neg c8] at fin
  by_cases c9 : p1 = 9
  · rw [if_pos c9, if_pos c9, cell 7 (by decide) 7 rfl, hI_u, s7] at fin
    exact fin _ rfl rfl
  rw [if_neg c9, if_neg c9] at fin
  by_cases c10 : p1 = 10
  · rw [if_pos c10, if_pos c10, cell 8 (by decide) 8 rfl, hI_u, s8] at fin
    exact fin _ rfl rfl
  rw [if_neg c10, if_neg c10] at fin
  by_cases c11 : p1 = 11
  · obtain ⟨N, R', m1, m2, m3, m4, m5⟩ := I.2.2.2.1
    have s15 : hS (uI h g) 15 = 8 := t.2.2.2.2.2.1.1
    rw [if_pos c11, if_pos c11, if_pos s15, hI_u, hI_u, up_k (by decide), m3, m4] at fin
    exact fin _ rfl rfl
  rw [if_neg c11, if_neg c11] at fin
  by_cases c12 : p1 = 12
  · rw [if_pos c12, if_pos c12, C_allT t.l9 R W.1.2.1 nh8, bI_s, FU_mm (k := nh (g 756)) (by omega)] at fin
    exact fin _ rfl (N_allT t.td.1 g6 W.1.2.1 nh8 (nh (g 756)) 0 (by omega) _)
  rw [if_neg c12, if_neg c12] at fin
  by_cases c13 : p1 = 13
  · rw [if_pos c13, if_pos c13, cell 10 (by decide) 10 rfl, hI_u, s2] at fin
    exact fin _ rfl rfl
  rw [if_neg c13, if_neg c13] at fin
  exact fin _ rfl rfl
end U24
