/-! ===== latest (wip/whole/gen/g84.py) ===== -/
section U34
variable {h h1 : Hp} {g g' g1 g2 : Nat → Nat → Int32} {w w' : Nat → Int32} {A B L S c d k n l y j m q s i F r z E N M M' : Nat} {v x a b p1 p2 p3 p4 p5 : Int32} {f p : Nat → Nat} {fl fm fw : Hp → Option (Int32 × Hp)} {P Q : Nat → Int32}
theorem sp_latest : LSp M (fun H => f_Lw_latest H 1 p1 p2 765) (fun H => f_Model_latest H 755 p1 p2) := by
  intro H I
  obtain ⟨h, g, rfl⟩ : ∃ h g, H = uI h g := ⟨H, hI H, rfl⟩
  have I : INV M h g := I
  obtain ⟨t, W, R, Lr, e0, e1, e2, n8, nh8, nd8⟩ := I.us
  obtain ⟨⟨w1, wr0, wr1, wr2, wr3, w5, wr5, wr6, wr7, wr8, wr9⟩, w6, w7⟩ := WTR (g := g) t
  have s7 : ∀ (h : Hp) (g : Nat → Nat → Int32), TS h → hS (uI h g) 755 = 11 := fun h g t => t.td.1.1
  have s56 : ∀ (h : Hp) (g : Nat → Nat → Int32), TS h → hR (uI h g) 755 1 = 756 ∧ hS (uI h g) 756 = 20 ∧ hL (uI h g) 756 = 2291 := fun h g t => ⟨t.td.1.2.1.1, t.td.1.2.2.1.1, t.td.1.2.2.1.2⟩
  have l9 := t.l9
  rcases bad_or p1 (n := nh (g 756)) (by omega) with bd | ⟨c, hc, rfl⟩
  · refine cl_r (h := h) (g := g) (fl := fun H => f_Lw_latest H 1 p1 p2 765) (fm := fun H => f_Model_latest H 755 p1 p2) I (lw_latest_1 (H := uI h g) t ?_) (by decide) (fun h' g' t' x' => ⟨0, thr g' 1, ?_, thr_c, REF.thr⟩)
    · unfold f_Water_latest f_Water_latest_b0
      rw [if_pos w1, (C_needH t e1 (by omega)).1 bd, bX_r]
    · show f_Model_latest_b0 (uI h' g') 755 p1 p2 = _
      unfold f_Model_latest_b0 f_Model_latest_b21 f_Model_latest_b26
      rw [if_pos (s7 _ _ t'), wr_s, sI_u, (N_noH t'.td.1 (g := up2 g' 755 0 0) (n := nh (g 756)) (by rw [th_r (by decide), x' 756 (by decide)]; exact W.1.2.1) (by omega)).1 bd, bI_s, if_neg (by decide), if_pos (s7 _ _ t'), N_thr1 t'.td.1, bI_s, if_neg (by decide)]
      rfl
  rcases bad_or p2 (n := 30) (by decide) with bd | ⟨y, hy, rfl⟩
  · refine cl_r (h := h) (g := g) (fl := fun H => f_Lw_latest H 1 (nI c) p2 765) (fm := fun H => f_Model_latest H 755 (nI c) p2) I (lw_latest_1 (H := uI h g) t ?_) (by decide) (fun h' g' t' x' => ⟨0, thr g' 1, ?_, thr_c, REF.thr⟩)
    · unfold f_Water_latest f_Water_latest_b0
      rw [if_pos w1, (C_needH (x := 0) t e1 (by omega)).2 c hc, bX_l, if_pos w1, C_needY.1 bd, bX_r]
    · show f_Model_latest_b0 (uI h' g') 755 (nI c) p2 = _
      unfold f_Model_latest_b0 f_Model_latest_b21 f_Model_latest_b26
      rw [if_pos (s7 _ _ t'), wr_s, sI_u, (N_noH (x := 0) t'.td.1 (g := up2 g' 755 0 0) (n := nh (g 756)) (by rw [th_r (by decide), x' 756 (by decide)]; exact W.1.2.1) (by omega)).2 c hc, bI_s, if_pos rfl, N_noY.1 bd, bI_s, if_neg (by decide), if_pos (s7 _ _ t'), N_thr1 t'.td.1, bI_s, if_neg (by decide)]
      rfl
  obtain ⟨r1, r2⟩ := R.2.2.1 c hc
  obtain ⟨a1, a2, a3, a4, a5, b2, b3, b4⟩ := (l9.iu (g := g)).hr (k := c) (by omega)
  obtain ⟨N, Rm, m1, m2, m3, m4, m5, m6⟩ := I.2.2.2.1
  have s15 : hS (uI h g) 15 = 8 := t.2.2.2.2.2.1.1
  by_cases e : Rm = 0
  · subst e
    refine cl_l (h := h) (g := g) (fl := fun H => f_Lw_latest H 1 (nI c) (nI y) 765) (fm := fun H => f_Model_latest H 755 (nI c) (nI y)) (h1 := h) (g1 := g) (v := (-1)) (lw_latest (H := uI h g) (H1 := uI h (g)) t t ?_) t (fun h' t' => ⟨up2 g 755 0 0, ?_, up_eq, I.th⟩) (by omega) (by omega)
    · unfold f_Water_latest f_Water_latest_b0
      rw [if_pos w1, (C_needH (x := 0) t e1 (by omega)).2 c hc, bX_l, if_pos w1, (C_needY (x := 0)).2 y hy, bX_l, if_pos w1, wr3, if_pos s15, hI_u, m3, if_pos (show nI 0 = 0 from rfl)]
    · show f_Model_latest_b0 (uI h' (g)) 755 (nI c) (nI y) = _
      unfold f_Model_latest_b0 f_Model_latest_b26
      rw [if_pos (s7 _ _ t'), wr_s, sI_u, (N_noH (x := 0) t'.td.1 (g := up2 g 755 0 0) (n := nh (g 756)) (by rw [th_r (by decide)]; exact W.1.2.1) (by omega)).2 c hc, bI_s, if_pos rfl, (N_noY (x := 0)).2 y hy, bI_s, if_pos rfl, if_pos (s7 _ _ t'), N_thr0 t'.td.1, bI_s, if_pos rfl, if_pos (s7 _ _ t'), hI_u, up_k (by decide), m4, if_pos (show nI 0 = 0 from rfl)]
  · have ne : ¬ nI Rm = 0 := nI_ne0 (by omega) (by omega)
    have H0 := m6 0 (by omega)
    rw [show (N + 12 - 0) % 12 = N from by omega] at H0
    obtain ⟨W0, R0, L0⟩ := H0
    have ld0 := t.ld (c := N) (by omega)
    have c1 : g (la N) 1 = nI (nh (wmo g (Rm - 1 - 0))) := R0.1.2.1.trans W0.1.2.1
    have h80 := W0.2.1.2.1
    have j2 : nI Rm - (1 : Int32) = nI (Rm - 1) := pk_sub (b := 1) (by omega)
    have j3 : (1454 : Int32) * nI (Rm - 1) + 345 + 34 * nI c + 4 + nI y = nI (1454 * (Rm - 1) + 345 + 34 * c + 4 + y) := by
      rw [show (1454 : Int32) = nI 1454 from rfl, nI_mul, show (345 : Int32) = nI 345 from rfl, nI_add, show (34 : Int32) = nI 34 from rfl, nI_mul, nI_add, show (4 : Int32) = nI 4 from rfl, nI_add, nI_add]
    have j4 : g 760 (1454 * (Rm - 1) + 345 + 34 * c + 4 + y) = wmo g (Rm - 1 - 0) (349 + 34 * c + y) := by unfold wmo; exact congrArg (g 760) (by omega)
    obtain ⟨-, -, -, -, -, -, ⟨d1, d2⟩, -⟩ := t.td.1
    have s0 : ∀ h' g, TS h' → hR (uI h' g) 755 5 = 760 ∧ hS (uI h' g) 760 = 20 ∧ hL (uI h' g) 760 = 17448 := fun h' g t' => ⟨t'.td.1.2.1.2.2.2.2.1, t'.td.1.2.2.2.2.2.2.1.1, t'.td.1.2.2.2.2.2.2.1.2⟩
    by_cases lo : nh (wmo g (Rm - 1 - 0)) ≤ c
    · have z0 := W0.2.2.2.2.2.2.2.1 c lo (by omega) (4 + y) (by omega)
      rw [show 345 + 34 * c + (4 + y) = 349 + 34 * c + y from by omega] at z0
      refine cl_l (h := h) (g := g) (fl := fun H => f_Lw_latest H 1 (nI c) (nI y) 765) (fm := fun H => f_Model_latest H 755 (nI c) (nI y)) (h1 := h) (g1 := g) (v := (g 756 (349 + 34 * c + y) - 0)) (lw_latest (H := uI h g) (H1 := uI h (g)) t t ?_) t (fun h' t' => ⟨up2 g 755 0 0, ?_, up_eq, I.th⟩) (by omega) (by omega)
      · unfold f_Water_latest f_Water_latest_b0 f_Water_latest_b53
        rw [if_pos w1, (C_needH (x := 0) t e1 (by omega)).2 c hc, bX_l, if_pos w1, (C_needY (x := 0)).2 y hy, bX_l, if_pos w1, wr3, if_pos s15, hI_u, m3, if_neg ne, C_latestL t m1 m2, bI_s, if_pos (show hS (uI h g) (la N) = 4 from ld0.1), hI_u, c1, if_pos (nI_le lo (by omega)), if_pos w1, w5, if_pos w6, a1, if_pos a2, a3, if_pos (ib_n (by omega) (by decide)), ix_n (by omega), a4, if_pos a5, b2, if_pos b3, b4, if_pos (ib_n hy (by decide)), ix_n (by omega), r2 y hy]
      · show f_Model_latest_b0 (uI h' (g)) 755 (nI c) (nI y) = _
        unfold f_Model_latest_b0 f_Model_latest_b26
        rw [if_pos (s7 _ _ t'), wr_s, sI_u, (N_noH (x := 0) t'.td.1 (g := up2 g 755 0 0) (n := nh (g 756)) (by rw [th_r (by decide)]; exact W.1.2.1) (by omega)).2 c hc, bI_s, if_pos rfl, (N_noY (x := 0)).2 y hy, bI_s, if_pos rfl, if_pos (s7 _ _ t'), N_thr0 t'.td.1, bI_s, if_pos rfl, if_pos (s7 _ _ t'), hI_u, up_k (by decide), m4, if_neg ne, show (4 : Int32) + nI y = nI (4 + y) from nI_add 4 y, N_oh t'.td.1 (by omega) (by omega), bI_s, th_r (by decide), show 345 + 34 * c + (4 + y) = 349 + 34 * c + y from by omega, if_pos (s7 _ _ t'), (s0 _ _ t').1, if_pos (s0 _ _ t').2.1, hI_u, up_k (by decide), m4, j2, j3, (s0 _ _ t').2.2, if_pos (ib_n (by omega) (by decide)), ix_n (by omega), th_r (by decide), j4, z0]
    · obtain ⟨k1, k2, k3, k4, k5, f2, f3, f4⟩ := (ld0.iu (g := g)).hr (k := c) (by omega)
      have x2 := (R0.2.2.1 c (by omega)).2 y hy
      refine cl_l (h := h) (g := g) (fl := fun H => f_Lw_latest H 1 (nI c) (nI y) 765) (fm := fun H => f_Model_latest H 755 (nI c) (nI y)) (h1 := h) (g1 := g) (v := (g 756 (349 + 34 * c + y) - wmo g (Rm - 1 - 0) (349 + 34 * c + y))) (lw_latest (H := uI h g) (H1 := uI h (g)) t t ?_) t (fun h' t' => ⟨up2 g 755 0 0, ?_, up_eq, I.th⟩) (by omega) (by omega)
      · unfold f_Water_latest f_Water_latest_b0 f_Water_latest_b53
        rw [if_pos w1, (C_needH (x := 0) t e1 (by omega)).2 c hc, bX_l, if_pos w1, (C_needY (x := 0)).2 y hy, bX_l, if_pos w1, wr3, if_pos s15, hI_u, m3, if_neg ne, C_latestL t m1 m2, bI_s, if_pos (show hS (uI h g) (la N) = 4 from ld0.1), hI_u, c1, if_neg (nI_ge (by omega) (by omega)), k1, if_pos k2, k3, if_pos (ib_n (by omega) (by decide)), ix_n (by omega), k4, if_pos k5, f2, if_pos f3, f4, if_pos (ib_n hy (by decide)), ix_n (by omega), x2, if_pos w1, w5, if_pos w6, a1, if_pos a2, a3, if_pos (ib_n (by omega) (by decide)), a4, if_pos a5, b2, if_pos b3, b4, if_pos (ib_n hy (by decide)), r2 y hy]
      · show f_Model_latest_b0 (uI h' (g)) 755 (nI c) (nI y) = _
        unfold f_Model_latest_b0 f_Model_latest_b26
        rw [if_pos (s7 _ _ t'), wr_s, sI_u, (N_noH (x := 0) t'.td.1 (g := up2 g 755 0 0) (n := nh (g 756)) (by rw [th_r (by decide)]; exact W.1.2.1) (by omega)).2 c hc, bI_s, if_pos rfl, (N_noY (x := 0)).2 y hy, bI_s, if_pos rfl, if_pos (s7 _ _ t'), N_thr0 t'.td.1, bI_s, if_pos rfl, if_pos (s7 _ _ t'), hI_u, up_k (by decide), m4, if_neg ne, show (4 : Int32) + nI y = nI (4 + y) from nI_add 4 y, N_oh t'.td.1 (by omega) (by omega), bI_s, th_r (by decide), show 345 + 34 * c + (4 + y) = 349 + 34 * c + y from by omega, if_pos (s7 _ _ t'), (s0 _ _ t').1, if_pos (s0 _ _ t').2.1, hI_u, up_k (by decide), m4, j2, j3, (s0 _ _ t').2.2, if_pos (ib_n (by omega) (by decide)), ix_n (by omega), th_r (by decide), j4]
end U34
