/-! ===== cistern, house, count (wip/whole/gen/g73.py) ===== -/
section U23
variable {h h1 : Hp} {g g' g1 g2 : Nat → Nat → Int32} {w w' : Nat → Int32} {A B L S c d k n l y j m q s i F r z E N M M' : Nat} {v x a b p1 p2 p3 : Int32} {f p : Nat → Nat} {fl fm fw : Hp → Option (Int32 × Hp)} {P Q : Nat → Int32}
theorem bad_ne (bd : BAD x n) (hj : j < n) (hn : n < 2 ^ 31 := by decide) : ¬ x = nI j := by
  rintro rfl
  rcases bd with z | z
  · exact nI_pos (by omega) z
  · exact nI_ge hj hn z
theorem in_bad (bd : BAD x (n + 1)) (hn : n < 2 ^ 30 := by decide) : (if x < nI 0 then (0 : Int32) else if nI n < x then 0 else 1) = 0 := by
  by_cases q : x < nI 0
  · rw [if_pos q]
  · rw [if_neg q, if_pos (Int32.lt_of_lt_of_le (nI_lt (by omega) (by omega)) (bd.resolve_left q))]
theorem in_good (hj : j ≤ n) (hn : n < 2 ^ 30) : (if nI j < nI 0 then (0 : Int32) else if nI n < nI j then 0 else 1) = 1 := by
  rw [if_neg (nI_nlt (by omega) (by omega)), if_neg (nI_nlt hj (by omega))]
theorem sumL_congr (e : ∀ y, y < n → P y = Q y) : sumL P n = sumL Q n := by
  induction n with
  | zero => rfl
  | succ n ih =>
    show sumL P n + P n = sumL Q n + Q n
    rw [ih (fun y hy => e y (by omega)), e n (by omega)]
/-- what a house drank; the salt of a mix -/
def drbW (w : Nat → Int32) (k : Nat) : Int32 := sumL (fun y => w (349 + 34 * k + y)) 30
def saltW (w : Nat → Int32) (c : Nat) : Int32 := sumL (fun y => w (70 + 35 * c + y) * w (35 + y)) 30
def somW (w : Nat → Int32) (c : Nat) : Int32 := if ms w c = 0 then 0 else saltW w c / nI (ms w c)
theorem N_drb (t : TSr h) (hk : k < 8) (e : g 756 = w) : f_Model_drunkBy (uI h g) 755 (nI k) = some (drbW w k, uI h g) := by
  rw [M_drunkBy (t.iu (g := g)) hk]
  have : sumL (fun y => hI (uI h g) 756 (345 + 34 * k + (4 + y))) 30 = drbW w k := sumL_congr fun y hy => by
    show g 756 (345 + 34 * k + (4 + y)) = _
    rw [e, show 345 + 34 * k + (4 + y) = 349 + 34 * k + y from by omega]
  rw [this]
theorem N_salt (t : TSr h) (hc : c < 8) (e : g 756 = w) : f_Model_saltIn (uI h g) 755 (nI c) = some (saltW w c, uI h g) := by
  rw [M_saltIn (t.iu (g := g)) hc]
  have : sumL (fun y => hI (uI h g) 756 (65 + 35 * c + (5 + y)) * hI (uI h g) 756 (35 + y)) 30 = saltW w c := sumL_congr fun y hy => by
    show g 756 (65 + 35 * c + (5 + y)) * g 756 (35 + y) = _
    rw [e, show 65 + 35 * c + (5 + y) = 70 + 35 * c + y from by omega]
  rw [this]
theorem N_ms (t : TSr h) (hc : c < 8) (e : g 756 = w) (O : OKL w c) : f_Model_measures (uI h g) 755 (nI c) = some (nI (ms w c), uI h g) := by
  rw [N_meas t hc (f := ly w c) (fun y hy => by rw [e]; exact (O y hy).1)]
  rfl
theorem N_som (t : TSr h) (hc : c < 8) (e : g 756 = w) (W : WFC w n c) : f_Model_saltOfMix (uI h g) 755 (nI c) = some (somW w c, uI h g) := by
  have s : ∀ g, hS (uI h g) 755 = 11 := fun g => (t.iu (g := g)).1
  have m9 := W.ms_lt
  unfold f_Model_saltOfMix f_Model_saltOfMix_b0 somW
  rw [if_pos (s _), N_ms t hc e W.1, bI_s]
  by_cases q : ms w c = 0
  · rw [q, if_pos (by rfl), if_pos rfl]
  · have q0 : ¬ nI (ms w c) = 0 := nI_ne0 (by omega) (by omega)
    rw [if_neg q0, if_neg q, if_pos (s _), N_salt t hc e, bI_s, if_pos (s _), N_ms t hc e W.1, bI_s, if_pos q0]
theorem C_drb_L (t : LDs h A) (hk : k < 8) (e : ∀ y, y < 30 → g (A + 22 + 2 * k + 1) y = P y) : ∀ (j y : Nat), y + j = 30 → ∀ q, f_House_allDrunk_L4 (q + j + 1) (uI h g) (A + 22 + 2 * k) (sumL P y) (nI y) = some (sumL P 30, uI h g) := by
  obtain ⟨-, -, -, -, s3, r5, b1, b2⟩ := (t.iu (g := g)).hr hk
  intro j
  induction j with
  | zero =>
    intro y hy q
    have hy' : y = 30 := hy
    have E : f_House_allDrunk_L4 (q + 0 + 1) (uI h g) (A + 22 + 2 * k) (sumL P y) (nI y) = f_House_allDrunk_b4 (f_House_allDrunk_L4 q) (uI h g) (A + 22 + 2 * k) (sumL P y) (nI y) := rfl
    rw [E]
    unfold f_House_allDrunk_b4
    rw [n30, hy', if_pos (Int32.le_refl _)]
  | succ j ih =>
    intro y hy q
    have hy' : y < 30 := by omega
    have E : f_House_allDrunk_L4 (q + (j + 1) + 1) (uI h g) (A + 22 + 2 * k) (sumL P y) (nI y) = f_House_allDrunk_b4 (f_House_allDrunk_L4 (q + j + 1)) (uI h g) (A + 22 + 2 * k) (sumL P y) (nI y) := rfl
    rw [E]
    unfold f_House_allDrunk_b4
    rw [n30, if_neg (nI_ge hy' (by decide)), if_pos s3, r5, if_pos b1, b2, if_pos (ib_n hy' (by decide)), ix_n (by omega), hI_u, e y hy', nI_1]
    exact ih (y + 1) (by omega) q
theorem C_drb (t : LDs h A) (R : RLa g A w) (hk : k < nh w) (h8 : nh w ≤ 8) : f_House_allDrunk (uI h g) (A + 22 + 2 * k) = some (drbW w k, uI h g) := by
  unfold f_House_allDrunk f_House_allDrunk_b0
  rw [FU_30]
  exact C_drb_L (P := fun y => w (349 + 34 * k + y)) t (by omega) (fun y hy => (R.2.2.1 k hk).2 y hy) 30 0 rfl 999969
theorem C_salt_L (t : LDs h A) (hc : c < 8) (e : ∀ y, y < 30 → g (A + 6 + 2 * c + 1) y * g (A + 4) y = P y) : ∀ (j y : Nat), y + j = 30 → ∀ q, f_Land_saltSum_L4 (q + j + 1) (uI h g) A (A + 6 + 2 * c) (sumL P y) (nI y) = some (sumL P 30, uI h g) := by
  obtain ⟨s3, r5, b1, b2⟩ := (t.cs hc).un (g := g)
  have s4 : hS (uI h g) A = 4 := t.1
  have r6 : hR (uI h g) A 6 = A + 4 := t.2.1.2.2.2.1
  have aS : hS (uI h g) (A + 4) = 20 := t.2.2.2.2.2.1.1
  have lS : hL (uI h g) (A + 4) = 30 := t.2.2.2.2.2.1.2
  intro j
  induction j with
  | zero =>
    intro y hy q
    have hy' : y = 30 := hy
    have E : f_Land_saltSum_L4 (q + 0 + 1) (uI h g) A (A + 6 + 2 * c) (sumL P y) (nI y) = f_Land_saltSum_b4 (f_Land_saltSum_L4 q) (uI h g) A (A + 6 + 2 * c) (sumL P y) (nI y) := rfl
    rw [E]
    unfold f_Land_saltSum_b4
    rw [n30, hy', if_pos (Int32.le_refl _)]
  | succ j ih =>
    intro y hy q
    have hy' : y < 30 := by omega
    have E : f_Land_saltSum_L4 (q + (j + 1) + 1) (uI h g) A (A + 6 + 2 * c) (sumL P y) (nI y) = f_Land_saltSum_b4 (f_Land_saltSum_L4 (q + j + 1)) (uI h g) A (A + 6 + 2 * c) (sumL P y) (nI y) := rfl
    rw [E]
    unfold f_Land_saltSum_b4
    rw [n30, if_neg (nI_ge hy' (by decide)), if_pos s3, r5, if_pos b1, b2, if_pos (ib_n hy' (by decide)), if_pos s4, r6, if_pos aS, lS, if_pos (ib_n hy' (by decide)), ix_n (by omega), hI_u, e y hy', nI_1]
    exact ih (y + 1) (by omega) q
theorem C_salt (t : LDs h A) (R : RLa g A w) (hc : c < nc w) (h8 : nc w ≤ 8) : f_Land_saltSum (uI h g) A (A + 6 + 2 * c) = some (saltW w c, uI h g) := by
  unfold f_Land_saltSum f_Land_saltSum_b0
  rw [FU_30]
  exact C_salt_L (P := fun y => w (70 + 35 * c + y) * w (35 + y)) t (by omega) (fun y hy => by rw [(R.2.1 c hc).2.1 y hy, R.2.2.2.2 y hy]) 30 0 rfl 999969
theorem C_som (t : LDs h A) (hA2 : A + 45 ≤ 765) (R : RLa g A w) (hc : c < nc w) (h8 : nc w ≤ 8) (W : WFC w n c) : f_Land_saltOfMix (uI h g) A (A + 6 + 2 * c) = some (somW w c, uI h g) := by
  obtain ⟨s3, r5, b1, b2⟩ := (t.cs (c := c) (by omega)).un (g := g)
  have s4 : hS (uI h g) A = 4 := t.1
  have m9 := W.ms_lt
  unfold f_Land_saltOfMix f_Land_saltOfMix_b0 somW
  rw [if_pos s3, hI_u, (R.2.1 c hc).2.2]
  by_cases q : ms w c = 0
  · rw [q, if_neg (by decide), if_pos rfl]
  · have q0 : ¬ nI (ms w c) = 0 := nI_ne0 (by omega) (by omega)
    rw [if_pos (show (0 : Int32) < nI (ms w c) from nI_lt (a := 0) (by omega) (by omega)), if_neg q, if_pos s4, C_salt t R hc h8, bI_s, if_pos s3, hI_u, (R.2.1 c hc).2.2, if_pos q0]
theorem sp_cistern : LSp M (fun H => f_Lw_cistern H 1 p1 p2 765) (fun H => f_Model_cistern H 755 p1 p2) := by
  intro H I
  obtain ⟨h, g, rfl⟩ : ∃ h g, H = uI h g := ⟨H, hI H, rfl⟩
  have I : INV M h g := I
  obtain ⟨t, W, R, Lr, e0, e1, e2, n8, nh8, nd8⟩ := I.us
  obtain ⟨⟨w1, wr0, wr1, wr2, wr3, w5, wr5, wr6, wr7, wr8, wr9⟩, w6, w7⟩ := WTR (g := g) t
  have s7 : ∀ (h : Hp) (g : Nat → Nat → Int32), TS h → hS (uI h g) 755 = 11 := fun h g t => t.td.1.1
  have s56 : ∀ (h : Hp) (g : Nat → Nat → Int32), TS h → hR (uI h g) 755 1 = 756 ∧ hS (uI h g) 756 = 20 ∧ hL (uI h g) 756 = 2291 := fun h g t => ⟨t.td.1.2.1.1, t.td.1.2.2.1.1, t.td.1.2.2.1.2⟩
  have l9 := t.l9
  rcases bad_or p1 (n := nc (g 756)) (by omega) with bd | ⟨c, hc, rfl⟩
  · refine cl_r (h := h) (g := g) (fl := fun H => f_Lw_cistern H 1 p1 p2 765) (fm := fun H => f_Model_cistern H 755 p1 p2) I (lw_cistern_1 (H := uI h g) t ?_) (by decide) (fun h' g' t' x' => ⟨0, thr g' 1, ?_, thr_c, REF.thr⟩)
    · unfold f_Water_cistern f_Water_cistern_b0
      rw [if_pos w1, (C_needC t e0 (by omega)).1 bd, bX_r]
    · show f_Model_cistern_b0 (uI h' g') 755 p1 p2 = _
      unfold f_Model_cistern_b0
      rw [if_pos (s7 _ _ t'), wr_s, sI_u, (N_noC t'.td.1 (g := up2 g' 755 0 0) (n := nc (g 756)) (by rw [th_r (by decide), x' 756 (by decide)]; exact W.1.1) (by omega)).1 bd, bI_s, if_pos (s7 _ _ t'), N_thr1 t'.td.1, bI_s, if_neg (by decide)]
      rfl
  obtain ⟨r1, r2, r3⟩ := R.2.1 c hc
  obtain ⟨a1, a2, a3, a4, a5⟩ := (l9.iu (g := g)).cr (c := c) (by omega)
  obtain ⟨-, b2, b3, b4⟩ := (l9.cs (c := c) (by omega)).un (g := g)
  have Wc := W.2.2.2.2.2.1 c hc
  have m9 := Wc.ms_lt
  rcases bad_or p2 (n := 7) (by decide) with bd | ⟨j, hj, rfl⟩
  · refine cl_r (h := h) (g := g) (fl := fun H => f_Lw_cistern H 1 (nI c) p2 765) (fm := fun H => f_Model_cistern H 755 (nI c) p2) I (lw_cistern_4 (H := uI h g) t ?_) (by decide) (fun h' g' t' x' => ⟨0, thr g' 2, ?_, thr_c, REF.thr⟩)
    · unfold f_Water_cistern f_Water_cistern_b0
      rw [if_pos w1, (C_needC (x := 0) t e0 (by omega)).2 c hc, bX_l, if_pos w1, w5, if_pos w6, a3, if_pos a4, a5, if_pos (ib_n (by omega) (by decide)), ix_n (by omega), a1,  if_neg (show ¬ p2 = 0 from bad_ne bd (show 0 < 7 by decide)), if_neg (show ¬ p2 = 1 from bad_ne bd (show 1 < 7 by decide)), if_neg (show ¬ p2 = 2 from bad_ne bd (show 2 < 7 by decide)), if_neg (show ¬ p2 = 3 from bad_ne bd (show 3 < 7 by decide)), if_neg (show ¬ p2 = 4 from bad_ne bd (show 4 < 7 by decide)), if_neg (show ¬ p2 = 5 from bad_ne bd (show 5 < 7 by decide)), if_neg (show ¬ p2 = 6 from bad_ne bd (show 6 < 7 by decide))]
    · show f_Model_cistern_b0 (uI h' g') 755 (nI c) p2 = _
      unfold f_Model_cistern_b0 f_Model_cistern_b34
      rw [if_pos (s7 _ _ t'), wr_s, sI_u, (N_noC (x := 0) t'.td.1 (g := up2 g' 755 0 0) (n := nc (g 756)) (by rw [th_r (by decide), x' 756 (by decide)]; exact W.1.1) (by omega)).2 c hc, bI_s, if_pos (s7 _ _ t'), N_thr0 t'.td.1, bI_s, if_pos rfl, N_in, bI_s, show (if p2 < 0 then (0 : Int32) else if 6 < p2 then 0 else 1) = 0 from in_bad bd, if_pos rfl, if_pos (s7 _ _ t'), N_thr1 t'.td.1, bI_s, if_neg (by decide)]
      rfl
  have : j = 0 ∨ j = 1 ∨ j = 2 ∨ j = 3 ∨ j = 4 ∨ j = 5 ∨ j = 6 := by omega
  rcases this with rfl | rfl | rfl | rfl | rfl | rfl | rfl
  · refine cl_l (h := h) (g := g) (fl := fun H => f_Lw_cistern H 1 (nI c) (nI 0) 765) (fm := fun H => f_Model_cistern H 755 (nI c) (nI 0)) (h1 := h) (g1 := g) (v := g 756 (65 + 35 * c + 0)) (lw_cistern (H := uI h g) (H1 := uI h (g)) t t ?_) t (fun h' t' => ⟨up2 g 755 0 0, ?_, up_eq, I.th⟩) (by omega) (by omega)
    · unfold f_Water_cistern f_Water_cistern_b0
      rw [if_pos w1, (C_needC (x := 0) t e0 (by omega)).2 c hc, bX_l, if_pos w1, w5, if_pos w6, a3, if_pos a4, a5, if_pos (ib_n (by omega) (by decide)), ix_n (by omega), a1, if_pos (show nI 0 = 0 from rfl), if_pos a2, hI_u, r1 0 (by decide)]
    · show f_Model_cistern_b0 (uI h' (g)) 755 (nI c) (nI 0) = _
      unfold f_Model_cistern_b0 f_Model_cistern_b34
      rw [if_pos (s7 _ _ t'), wr_s, sI_u, (N_noC (x := 0) t'.td.1 (g := up2 g 755 0 0) (n := nc (g 756)) (by rw [th_r (by decide)]; exact W.1.1) (by omega)).2 c hc, bI_s, if_pos (s7 _ _ t'), N_thr0 t'.td.1, bI_s, if_pos rfl, N_in, bI_s, show (if nI 0 < 0 then (0 : Int32) else if 6 < nI 0 then 0 else 1) = 1 by decide, if_neg (by decide), if_pos (s7 _ _ t'), N_thr0 t'.td.1, bI_s, if_pos rfl, if_neg (show ¬ (5 : Int32) ≤ nI 0 by decide), if_pos (s7 _ _ t'), N_of t'.td.1 (by omega) (by decide), bI_s, th_r (by decide)]
  · refine cl_l (h := h) (g := g) (fl := fun H => f_Lw_cistern H 1 (nI c) (nI 1) 765) (fm := fun H => f_Model_cistern H 755 (nI c) (nI 1)) (h1 := h) (g1 := g) (v := g 756 (65 + 35 * c + 1)) (lw_cistern (H := uI h g) (H1 := uI h (g)) t t ?_) t (fun h' t' => ⟨up2 g 755 0 0, ?_, up_eq, I.th⟩) (by omega) (by omega)
    · unfold f_Water_cistern f_Water_cistern_b0
      rw [if_pos w1, (C_needC (x := 0) t e0 (by omega)).2 c hc, bX_l, if_pos w1, w5, if_pos w6, a3, if_pos a4, a5, if_pos (ib_n (by omega) (by decide)), ix_n (by omega), a1, if_neg (show ¬ nI 1 = 0 by decide), if_pos (show nI 1 = 1 from rfl), if_pos a2, hI_u, r1 1 (by decide)]
    · show f_Model_cistern_b0 (uI h' (g)) 755 (nI c) (nI 1) = _
      unfold f_Model_cistern_b0 f_Model_cistern_b34
      rw [if_pos (s7 _ _ t'), wr_s, sI_u, (N_noC (x := 0) t'.td.1 (g := up2 g 755 0 0) (n := nc (g 756)) (by rw [th_r (by decide)]; exact W.1.1) (by omega)).2 c hc, bI_s, if_pos (s7 _ _ t'), N_thr0 t'.td.1, bI_s, if_pos rfl, N_in, bI_s, show (if nI 1 < 0 then (0 : Int32) else if 6 < nI 1 then 0 else 1) = 1 by decide, if_neg (by decide), if_pos (s7 _ _ t'), N_thr0 t'.td.1, bI_s, if_pos rfl, if_neg (show ¬ (5 : Int32) ≤ nI 1 by decide), if_pos (s7 _ _ t'), N_of t'.td.1 (by omega) (by decide), bI_s, th_r (by decide)]
  · refine cl_l (h := h) (g := g) (fl := fun H => f_Lw_cistern H 1 (nI c) (nI 2) 765) (fm := fun H => f_Model_cistern H 755 (nI c) (nI 2)) (h1 := h) (g1 := g) (v := g 756 (65 + 35 * c + 2)) (lw_cistern (H := uI h g) (H1 := uI h (g)) t t ?_) t (fun h' t' => ⟨up2 g 755 0 0, ?_, up_eq, I.th⟩) (by omega) (by omega)
    · unfold f_Water_cistern f_Water_cistern_b0
      rw [if_pos w1, (C_needC (x := 0) t e0 (by omega)).2 c hc, bX_l, if_pos w1, w5, if_pos w6, a3, if_pos a4, a5, if_pos (ib_n (by omega) (by decide)), ix_n (by omega), a1, if_neg (show ¬ nI 2 = 0 by decide), if_neg (show ¬ nI 2 = 1 by decide), if_pos (show nI 2 = 2 from rfl), if_pos a2, hI_u, r1 2 (by decide)]
      have hk : g 756 (65 + 35 * c + 2) = 0 ∨ g 756 (65 + 35 * c + 2) = 1 := by rw [show 65 + 35 * c + 2 = 67 + 35 * c from by omega]; exact Wc.hk
      rcases hk with q | q
      · rw [q, if_pos rfl]
      · rw [q, if_neg (by decide)]
    · show f_Model_cistern_b0 (uI h' (g)) 755 (nI c) (nI 2) = _
      unfold f_Model_cistern_b0 f_Model_cistern_b34
      rw [if_pos (s7 _ _ t'), wr_s, sI_u, (N_noC (x := 0) t'.td.1 (g := up2 g 755 0 0) (n := nc (g 756)) (by rw [th_r (by decide)]; exact W.1.1) (by omega)).2 c hc, bI_s, if_pos (s7 _ _ t'), N_thr0 t'.td.1, bI_s, if_pos rfl, N_in, bI_s, show (if nI 2 < 0 then (0 : Int32) else if 6 < nI 2 then 0 else 1) = 1 by decide, if_neg (by decide), if_pos (s7 _ _ t'), N_thr0 t'.td.1, bI_s, if_pos rfl, if_neg (show ¬ (5 : Int32) ≤ nI 2 by decide), if_pos (s7 _ _ t'), N_of t'.td.1 (by omega) (by decide), bI_s, th_r (by decide)]
  · refine cl_l (h := h) (g := g) (fl := fun H => f_Lw_cistern H 1 (nI c) (nI 3) 765) (fm := fun H => f_Model_cistern H 755 (nI c) (nI 3)) (h1 := h) (g1 := g) (v := g 756 (65 + 35 * c + 3)) (lw_cistern (H := uI h g) (H1 := uI h (g)) t t ?_) t (fun h' t' => ⟨up2 g 755 0 0, ?_, up_eq, I.th⟩) (by omega) (by omega)
    · unfold f_Water_cistern f_Water_cistern_b0
      rw [if_pos w1, (C_needC (x := 0) t e0 (by omega)).2 c hc, bX_l, if_pos w1, w5, if_pos w6, a3, if_pos a4, a5, if_pos (ib_n (by omega) (by decide)), ix_n (by omega), a1, if_neg (show ¬ nI 3 = 0 by decide), if_neg (show ¬ nI 3 = 1 by decide), if_neg (show ¬ nI 3 = 2 by decide), if_pos (show nI 3 = 3 from rfl), if_pos a2, hI_u, r1 3 (by decide)]
    · show f_Model_cistern_b0 (uI h' (g)) 755 (nI c) (nI 3) = _
      unfold f_Model_cistern_b0 f_Model_cistern_b34
      rw [if_pos (s7 _ _ t'), wr_s, sI_u, (N_noC (x := 0) t'.td.1 (g := up2 g 755 0 0) (n := nc (g 756)) (by rw [th_r (by decide)]; exact W.1.1) (by omega)).2 c hc, bI_s, if_pos (s7 _ _ t'), N_thr0 t'.td.1, bI_s, if_pos rfl, N_in, bI_s, show (if nI 3 < 0 then (0 : Int32) else if 6 < nI 3 then 0 else 1) = 1 by decide, if_neg (by decide), if_pos (s7 _ _ t'), N_thr0 t'.td.1, bI_s, if_pos rfl, if_neg (show ¬ (5 : Int32) ≤ nI 3 by decide), if_pos (s7 _ _ t'), N_of t'.td.1 (by omega) (by decide), bI_s, th_r (by decide)]
  · refine cl_l (h := h) (g := g) (fl := fun H => f_Lw_cistern H 1 (nI c) (nI 4) 765) (fm := fun H => f_Model_cistern H 755 (nI c) (nI 4)) (h1 := h) (g1 := g) (v := g 756 (65 + 35 * c + 4)) (lw_cistern (H := uI h g) (H1 := uI h (g)) t t ?_) t (fun h' t' => ⟨up2 g 755 0 0, ?_, up_eq, I.th⟩) (by omega) (by omega)
    · unfold f_Water_cistern f_Water_cistern_b0
      rw [if_pos w1, (C_needC (x := 0) t e0 (by omega)).2 c hc, bX_l, if_pos w1, w5, if_pos w6, a3, if_pos a4, a5, if_pos (ib_n (by omega) (by decide)), ix_n (by omega), a1, if_neg (show ¬ nI 4 = 0 by decide), if_neg (show ¬ nI 4 = 1 by decide), if_neg (show ¬ nI 4 = 2 by decide), if_neg (show ¬ nI 4 = 3 by decide), if_pos (show nI 4 = 4 from rfl), if_pos a2, hI_u, r1 4 (by decide)]
    · show f_Model_cistern_b0 (uI h' (g)) 755 (nI c) (nI 4) = _
      unfold f_Model_cistern_b0 f_Model_cistern_b34
      rw [if_pos (s7 _ _ t'), wr_s, sI_u, (N_noC (x := 0) t'.td.1 (g := up2 g 755 0 0) (n := nc (g 756)) (by rw [th_r (by decide)]; exact W.1.1) (by omega)).2 c hc, bI_s, if_pos (s7 _ _ t'), N_thr0 t'.td.1, bI_s, if_pos rfl, N_in, bI_s, show (if nI 4 < 0 then (0 : Int32) else if 6 < nI 4 then 0 else 1) = 1 by decide, if_neg (by decide), if_pos (s7 _ _ t'), N_thr0 t'.td.1, bI_s, if_pos rfl, if_neg (show ¬ (5 : Int32) ≤ nI 4 by decide), if_pos (s7 _ _ t'), N_of t'.td.1 (by omega) (by decide), bI_s, th_r (by decide)]
  · refine cl_l (h := h) (g := g) (fl := fun H => f_Lw_cistern H 1 (nI c) (nI 5) 765) (fm := fun H => f_Model_cistern H 755 (nI c) (nI 5)) (h1 := h) (g1 := g) (v := nI (ms (g 756) c)) (lw_cistern (H := uI h g) (H1 := uI h (g)) t t ?_) t (fun h' t' => ⟨up2 g 755 0 0, ?_, up_eq, I.th⟩) (by omega) (by omega)
    · unfold f_Water_cistern f_Water_cistern_b0
      rw [if_pos w1, (C_needC (x := 0) t e0 (by omega)).2 c hc, bX_l, if_pos w1, w5, if_pos w6, a3, if_pos a4, a5, if_pos (ib_n (by omega) (by decide)), ix_n (by omega), a1, if_neg (show ¬ nI 5 = 0 by decide), if_neg (show ¬ nI 5 = 1 by decide), if_neg (show ¬ nI 5 = 2 by decide), if_neg (show ¬ nI 5 = 3 by decide), if_neg (show ¬ nI 5 = 4 by decide), if_pos (show nI 5 = 5 from rfl), if_pos a2, hI_u, r3]
    · show f_Model_cistern_b0 (uI h' (g)) 755 (nI c) (nI 5) = _
      unfold f_Model_cistern_b0 f_Model_cistern_b34
      rw [if_pos (s7 _ _ t'), wr_s, sI_u, (N_noC (x := 0) t'.td.1 (g := up2 g 755 0 0) (n := nc (g 756)) (by rw [th_r (by decide)]; exact W.1.1) (by omega)).2 c hc, bI_s, if_pos (s7 _ _ t'), N_thr0 t'.td.1, bI_s, if_pos rfl, N_in, bI_s, show (if nI 5 < 0 then (0 : Int32) else if 6 < nI 5 then 0 else 1) = 1 by decide, if_neg (by decide), if_pos (s7 _ _ t'), N_thr0 t'.td.1, bI_s, if_pos rfl, if_pos (by decide), if_pos (show nI 5 = 5 from rfl), if_pos (s7 _ _ t'), N_meas t'.td.1 (f := ly (g 756) c) (by omega) (fun y hy => by rw [th_r (by decide)]; exact (Wc.1 y hy).1), bI_s]
      rfl
  · refine cl_l (h := h) (g := g) (fl := fun H => f_Lw_cistern H 1 (nI c) (nI 6) 765) (fm := fun H => f_Model_cistern H 755 (nI c) (nI 6)) (h1 := h) (g1 := g) (v := somW (g 756) c) (lw_cistern (H := uI h g) (H1 := uI h (g)) t t ?_) t (fun h' t' => ⟨up2 g 755 0 0, ?_, up_eq, I.th⟩) (by omega) (by omega)
    · unfold f_Water_cistern f_Water_cistern_b0
      rw [if_pos w1, (C_needC (x := 0) t e0 (by omega)).2 c hc, bX_l, if_pos w1, w5, if_pos w6, a3, if_pos a4, a5, if_pos (ib_n (by omega) (by decide)), ix_n (by omega), a1, if_neg (show ¬ nI 6 = 0 by decide), if_neg (show ¬ nI 6 = 1 by decide), if_neg (show ¬ nI 6 = 2 by decide), if_neg (show ¬ nI 6 = 3 by decide), if_neg (show ¬ nI 6 = 4 by decide), if_neg (show ¬ nI 6 = 5 by decide), if_pos (show nI 6 = 6 from rfl), C_som l9 (by decide) R hc n8 Wc, bI_s]
    · show f_Model_cistern_b0 (uI h' (g)) 755 (nI c) (nI 6) = _
      unfold f_Model_cistern_b0 f_Model_cistern_b34
      rw [if_pos (s7 _ _ t'), wr_s, sI_u, (N_noC (x := 0) t'.td.1 (g := up2 g 755 0 0) (n := nc (g 756)) (by rw [th_r (by decide)]; exact W.1.1) (by omega)).2 c hc, bI_s, if_pos (s7 _ _ t'), N_thr0 t'.td.1, bI_s, if_pos rfl, N_in, bI_s, show (if nI 6 < 0 then (0 : Int32) else if 6 < nI 6 then 0 else 1) = 1 by decide, if_neg (by decide), if_pos (s7 _ _ t'), N_thr0 t'.td.1, bI_s, if_pos rfl, if_pos (by decide), if_neg (by decide), if_pos (s7 _ _ t'), N_som t'.td.1 (by omega) (g := up2 g 755 0 0) (w := g 756) (th_r (by decide)) Wc, bI_s]
theorem sp_house : LSp M (fun H => f_Lw_house H 1 p1 p2 765) (fun H => f_Model_house H 755 p1 p2) := by
  intro H I
  obtain ⟨h, g, rfl⟩ : ∃ h g, H = uI h g := ⟨H, hI H, rfl⟩
  have I : INV M h g := I
  obtain ⟨t, W, R, Lr, e0, e1, e2, n8, nh8, nd8⟩ := I.us
  obtain ⟨⟨w1, wr0, wr1, wr2, wr3, w5, wr5, wr6, wr7, wr8, wr9⟩, w6, w7⟩ := WTR (g := g) t
  have s7 : ∀ (h : Hp) (g : Nat → Nat → Int32), TS h → hS (uI h g) 755 = 11 := fun h g t => t.td.1.1
  have s56 : ∀ (h : Hp) (g : Nat → Nat → Int32), TS h → hR (uI h g) 755 1 = 756 ∧ hS (uI h g) 756 = 20 ∧ hL (uI h g) 756 = 2291 := fun h g t => ⟨t.td.1.2.1.1, t.td.1.2.2.1.1, t.td.1.2.2.1.2⟩
  have l9 := t.l9
  rcases bad_or p1 (n := nh (g 756)) (by omega) with bd | ⟨c, hc, rfl⟩
  · refine cl_r (h := h) (g := g) (fl := fun H => f_Lw_house H 1 p1 p2 765) (fm := fun H => f_Model_house H 755 p1 p2) I (lw_house_1 (H := uI h g) t ?_) (by decide) (fun h' g' t' x' => ⟨0, thr g' 1, ?_, thr_c, REF.thr⟩)
    · unfold f_Water_house f_Water_house_b0
      rw [if_pos w1, (C_needH t e1 (by omega)).1 bd, bX_r]
    · show f_Model_house_b0 (uI h' g') 755 p1 p2 = _
      unfold f_Model_house_b0
      rw [if_pos (s7 _ _ t'), wr_s, sI_u, (N_noH t'.td.1 (g := up2 g' 755 0 0) (n := nh (g 756)) (by rw [th_r (by decide), x' 756 (by decide)]; exact W.1.2.1) (by omega)).1 bd, bI_s, if_pos (s7 _ _ t'), N_thr1 t'.td.1, bI_s, if_neg (by decide)]
      rfl
  obtain ⟨r1, r2⟩ := R.2.2.1 c hc
  obtain ⟨a1, a2, a3, a4, a5, b2, b3, b4⟩ := (l9.iu (g := g)).hr (k := c) (by omega)
  rcases bad_or p2 (n := 5) (by decide) with bd | ⟨j, hj, rfl⟩
  · refine cl_r (h := h) (g := g) (fl := fun H => f_Lw_house H 1 (nI c) p2 765) (fm := fun H => f_Model_house H 755 (nI c) p2) I (lw_house_4 (H := uI h g) t ?_) (by decide) (fun h' g' t' x' => ⟨0, thr g' 2, ?_, thr_c, REF.thr⟩)
    · unfold f_Water_house f_Water_house_b0
      rw [if_pos w1, (C_needH (x := 0) t e1 (by omega)).2 c hc, bX_l, if_pos w1, w5, if_pos w6, a1, if_pos a2, a3, if_pos (ib_n (by omega) (by decide)), ix_n (by omega), a4,  if_neg (show ¬ p2 = 0 from bad_ne bd (show 0 < 5 by decide)), if_neg (show ¬ p2 = 1 from bad_ne bd (show 1 < 5 by decide)), if_neg (show ¬ p2 = 2 from bad_ne bd (show 2 < 5 by decide)), if_neg (show ¬ p2 = 3 from bad_ne bd (show 3 < 5 by decide)), if_neg (show ¬ p2 = 4 from bad_ne bd (show 4 < 5 by decide))]
    · show f_Model_house_b0 (uI h' g') 755 (nI c) p2 = _
      unfold f_Model_house_b0 f_Model_house_b33
      rw [if_pos (s7 _ _ t'), wr_s, sI_u, (N_noH (x := 0) t'.td.1 (g := up2 g' 755 0 0) (n := nh (g 756)) (by rw [th_r (by decide), x' 756 (by decide)]; exact W.1.2.1) (by omega)).2 c hc, bI_s, if_pos (s7 _ _ t'), N_thr0 t'.td.1, bI_s, if_pos rfl, N_in, bI_s, show (if p2 < 0 then (0 : Int32) else if 4 < p2 then 0 else 1) = 0 from in_bad bd, if_pos rfl, if_pos (s7 _ _ t'), N_thr1 t'.td.1, bI_s, if_neg (by decide)]
      rfl
  have : j = 0 ∨ j = 1 ∨ j = 2 ∨ j = 3 ∨ j = 4 := by omega
  rcases this with rfl | rfl | rfl | rfl | rfl
  · refine cl_l (h := h) (g := g) (fl := fun H => f_Lw_house H 1 (nI c) (nI 0) 765) (fm := fun H => f_Model_house H 755 (nI c) (nI 0)) (h1 := h) (g1 := g) (v := g 756 (345 + 34 * c + 0)) (lw_house (H := uI h g) (H1 := uI h (g)) t t ?_) t (fun h' t' => ⟨up2 g 755 0 0, ?_, up_eq, I.th⟩) (by omega) (by omega)
    · unfold f_Water_house f_Water_house_b0
      rw [if_pos w1, (C_needH (x := 0) t e1 (by omega)).2 c hc, bX_l, if_pos w1, w5, if_pos w6, a1, if_pos a2, a3, if_pos (ib_n (by omega) (by decide)), ix_n (by omega), a4, if_pos (show nI 0 = 0 from rfl), if_pos a5, hI_u, r1 0 (by decide)]
    · show f_Model_house_b0 (uI h' (g)) 755 (nI c) (nI 0) = _
      unfold f_Model_house_b0 f_Model_house_b33
      rw [if_pos (s7 _ _ t'), wr_s, sI_u, (N_noH (x := 0) t'.td.1 (g := up2 g 755 0 0) (n := nh (g 756)) (by rw [th_r (by decide)]; exact W.1.2.1) (by omega)).2 c hc, bI_s, if_pos (s7 _ _ t'), N_thr0 t'.td.1, bI_s, if_pos rfl, N_in, bI_s, show (if nI 0 < 0 then (0 : Int32) else if 4 < nI 0 then 0 else 1) = 1 by decide, if_neg (by decide), if_pos (s7 _ _ t'), N_thr0 t'.td.1, bI_s, if_pos rfl, if_neg (show ¬ (4 : Int32) ≤ nI 0 by decide), if_pos (s7 _ _ t'), N_oh t'.td.1 (by omega) (by decide), bI_s, th_r (by decide)]
  · refine cl_l (h := h) (g := g) (fl := fun H => f_Lw_house H 1 (nI c) (nI 1) 765) (fm := fun H => f_Model_house H 755 (nI c) (nI 1)) (h1 := h) (g1 := g) (v := g 756 (345 + 34 * c + 1)) (lw_house (H := uI h g) (H1 := uI h (g)) t t ?_) t (fun h' t' => ⟨up2 g 755 0 0, ?_, up_eq, I.th⟩) (by omega) (by omega)
    · unfold f_Water_house f_Water_house_b0
      rw [if_pos w1, (C_needH (x := 0) t e1 (by omega)).2 c hc, bX_l, if_pos w1, w5, if_pos w6, a1, if_pos a2, a3, if_pos (ib_n (by omega) (by decide)), ix_n (by omega), a4, if_neg (show ¬ nI 1 = 0 by decide), if_pos (show nI 1 = 1 from rfl), if_pos a5, hI_u, r1 1 (by decide)]
    · show f_Model_house_b0 (uI h' (g)) 755 (nI c) (nI 1) = _
      unfold f_Model_house_b0 f_Model_house_b33
      rw [if_pos (s7 _ _ t'), wr_s, sI_u, (N_noH (x := 0) t'.td.1 (g := up2 g 755 0 0) (n := nh (g 756)) (by rw [th_r (by decide)]; exact W.1.2.1) (by omega)).2 c hc, bI_s, if_pos (s7 _ _ t'), N_thr0 t'.td.1, bI_s, if_pos rfl, N_in, bI_s, show (if nI 1 < 0 then (0 : Int32) else if 4 < nI 1 then 0 else 1) = 1 by decide, if_neg (by decide), if_pos (s7 _ _ t'), N_thr0 t'.td.1, bI_s, if_pos rfl, if_neg (show ¬ (4 : Int32) ≤ nI 1 by decide), if_pos (s7 _ _ t'), N_oh t'.td.1 (by omega) (by decide), bI_s, th_r (by decide)]
  · refine cl_l (h := h) (g := g) (fl := fun H => f_Lw_house H 1 (nI c) (nI 2) 765) (fm := fun H => f_Model_house H 755 (nI c) (nI 2)) (h1 := h) (g1 := g) (v := g 756 (345 + 34 * c + 2)) (lw_house (H := uI h g) (H1 := uI h (g)) t t ?_) t (fun h' t' => ⟨up2 g 755 0 0, ?_, up_eq, I.th⟩) (by omega) (by omega)
    · unfold f_Water_house f_Water_house_b0
      rw [if_pos w1, (C_needH (x := 0) t e1 (by omega)).2 c hc, bX_l, if_pos w1, w5, if_pos w6, a1, if_pos a2, a3, if_pos (ib_n (by omega) (by decide)), ix_n (by omega), a4, if_neg (show ¬ nI 2 = 0 by decide), if_neg (show ¬ nI 2 = 1 by decide), if_pos (show nI 2 = 2 from rfl), if_pos a5, hI_u, r1 2 (by decide)]
    · show f_Model_house_b0 (uI h' (g)) 755 (nI c) (nI 2) = _
      unfold f_Model_house_b0 f_Model_house_b33
      rw [if_pos (s7 _ _ t'), wr_s, sI_u, (N_noH (x := 0) t'.td.1 (g := up2 g 755 0 0) (n := nh (g 756)) (by rw [th_r (by decide)]; exact W.1.2.1) (by omega)).2 c hc, bI_s, if_pos (s7 _ _ t'), N_thr0 t'.td.1, bI_s, if_pos rfl, N_in, bI_s, show (if nI 2 < 0 then (0 : Int32) else if 4 < nI 2 then 0 else 1) = 1 by decide, if_neg (by decide), if_pos (s7 _ _ t'), N_thr0 t'.td.1, bI_s, if_pos rfl, if_neg (show ¬ (4 : Int32) ≤ nI 2 by decide), if_pos (s7 _ _ t'), N_oh t'.td.1 (by omega) (by decide), bI_s, th_r (by decide)]
  · refine cl_l (h := h) (g := g) (fl := fun H => f_Lw_house H 1 (nI c) (nI 3) 765) (fm := fun H => f_Model_house H 755 (nI c) (nI 3)) (h1 := h) (g1 := g) (v := g 756 (345 + 34 * c + 3)) (lw_house (H := uI h g) (H1 := uI h (g)) t t ?_) t (fun h' t' => ⟨up2 g 755 0 0, ?_, up_eq, I.th⟩) (by omega) (by omega)
    · unfold f_Water_house f_Water_house_b0
      rw [if_pos w1, (C_needH (x := 0) t e1 (by omega)).2 c hc, bX_l, if_pos w1, w5, if_pos w6, a1, if_pos a2, a3, if_pos (ib_n (by omega) (by decide)), ix_n (by omega), a4, if_neg (show ¬ nI 3 = 0 by decide), if_neg (show ¬ nI 3 = 1 by decide), if_neg (show ¬ nI 3 = 2 by decide), if_pos (show nI 3 = 3 from rfl), if_pos a5, hI_u, r1 3 (by decide)]
    · show f_Model_house_b0 (uI h' (g)) 755 (nI c) (nI 3) = _
      unfold f_Model_house_b0 f_Model_house_b33
      rw [if_pos (s7 _ _ t'), wr_s, sI_u, (N_noH (x := 0) t'.td.1 (g := up2 g 755 0 0) (n := nh (g 756)) (by rw [th_r (by decide)]; exact W.1.2.1) (by omega)).2 c hc, bI_s, if_pos (s7 _ _ t'), N_thr0 t'.td.1, bI_s, if_pos rfl, N_in, bI_s, show (if nI 3 < 0 then (0 : Int32) else if 4 < nI 3 then 0 else 1) = 1 by decide, if_neg (by decide), if_pos (s7 _ _ t'), N_thr0 t'.td.1, bI_s, if_pos rfl, if_neg (show ¬ (4 : Int32) ≤ nI 3 by decide), if_pos (s7 _ _ t'), N_oh t'.td.1 (by omega) (by decide), bI_s, th_r (by decide)]
  · refine cl_l (h := h) (g := g) (fl := fun H => f_Lw_house H 1 (nI c) (nI 4) 765) (fm := fun H => f_Model_house H 755 (nI c) (nI 4)) (h1 := h) (g1 := g) (v := drbW (g 756) c) (lw_house (H := uI h g) (H1 := uI h (g)) t t ?_) t (fun h' t' => ⟨up2 g 755 0 0, ?_, up_eq, I.th⟩) (by omega) (by omega)
    · unfold f_Water_house f_Water_house_b0
      rw [if_pos w1, (C_needH (x := 0) t e1 (by omega)).2 c hc, bX_l, if_pos w1, w5, if_pos w6, a1, if_pos a2, a3, if_pos (ib_n (by omega) (by decide)), ix_n (by omega), a4, if_neg (show ¬ nI 4 = 0 by decide), if_neg (show ¬ nI 4 = 1 by decide), if_neg (show ¬ nI 4 = 2 by decide), if_neg (show ¬ nI 4 = 3 by decide), if_pos (show nI 4 = 4 from rfl), if_pos a5, C_drb l9 R hc nh8, bI_s]
    · show f_Model_house_b0 (uI h' (g)) 755 (nI c) (nI 4) = _
      unfold f_Model_house_b0 f_Model_house_b33
      rw [if_pos (s7 _ _ t'), wr_s, sI_u, (N_noH (x := 0) t'.td.1 (g := up2 g 755 0 0) (n := nh (g 756)) (by rw [th_r (by decide)]; exact W.1.2.1) (by omega)).2 c hc, bI_s, if_pos (s7 _ _ t'), N_thr0 t'.td.1, bI_s, if_pos rfl, N_in, bI_s, show (if nI 4 < 0 then (0 : Int32) else if 4 < nI 4 then 0 else 1) = 1 by decide, if_neg (by decide), if_pos (s7 _ _ t'), N_thr0 t'.td.1, bI_s, if_pos rfl, if_pos (by decide), if_pos (s7 _ _ t'), N_drb t'.td.1 (by omega) (g := up2 g 755 0 0) (w := g 756) (th_r (by decide)), bI_s]
end U23
