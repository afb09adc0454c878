/-! ===== the calls that only look (wip/whole/gen/g72.py) ===== -/
section U22
variable {h h1 : Hp} {g g' g1 g2 : Nat → Nat → Int32} {w w' : Nat → Int32} {A B L S c d k n l y j m q s i F r z E N M M' : Nat} {v x a b p1 p2 p3 : Int32} {f p : Nat → Nat} {fl fm fw : Hp → Option (Int32 × Hp)}
theorem cl_v (ew : fw (uI h g) = some (v, uI h1 g1)) (t1 : TS h1) (em : fm (uI h1 g1) = some (v, uI h1 g2)) (I2 : INV (M + 60) h1 g2) (n : hN h1 ≤ hN h + 1170) (z : hZ h1 ≤ hZ h + 14000) :
    ∃ v H1 H2, fw (uI h g) = some (v, H1) ∧ TS H1 ∧ fm H1 = some (v, H2) ∧ INV (M + 60) H2 (hI H2) ∧ hN H2 ≤ hN (uI h g) + 1170 ∧ hZ H2 ≤ hZ (uI h g) + 14000 := ⟨v, _, _, ew, t1, em, I2, n, z⟩
/-- what is at hand of an invariant -/
theorem INV.us (I : INV M h g) : TS h ∧ WF M (g 756) ∧ RLa g 569 (g 756) ∧ LR h g 569 (g 756) ∧ g 569 0 = nI (nc (g 756)) ∧ g 569 1 = nI (nh (g 756)) ∧ g 569 2 = nI (nd (g 756)) ∧ nc (g 756) ≤ 8 ∧ nh (g 756) ≤ 8 ∧ nd (g 756) ≤ 8 := by
  obtain ⟨t, ⟨W, R, Lr⟩, -⟩ := I
  exact ⟨t, W, R, Lr, R.1.1.trans W.1.1, R.1.2.1.trans W.1.2.1, R.1.2.2.1.trans W.1.2.2, W.2.1.1, W.2.1.2.1, W.2.1.2.2⟩
theorem INV.th (I : INV M h g) : INV (M + 60) h (up2 g 755 0 0) := (I.ref (REF.th (by decide))).mono (by omega)
/-- thrown, as the reference tells it -/
def thr (g : Nat → Nat → Int32) (c : Int32) : Nat → Nat → Int32 := up2 (up2 g 755 0 0) 755 0 c
theorem thr_c : thr g v 755 0 = v := up_eq
theorem REF.thr : REF g (thr g v) := (REF.th (by decide)).tr (REF.th (by decide))
theorem th_r (e : r ≠ 755) : up2 g 755 0 v r = g r := up_row e
theorem sp_fault : VSp M (fun H => f_Water_fault H 1) (fun H => f_Model_fault H 755) := by
  intro H I
  obtain ⟨h, g, rfl⟩ : ∃ h g, H = uI h g := ⟨H, hI H, rfl⟩
  have I : INV M h g := I
  obtain ⟨t, W, R, Lr, -⟩ := I.us
  obtain ⟨⟨w1, -⟩, w6, w7⟩ := WTR (g := g) t
  refine cl_v (h := h) (g := g) (fw := fun H => f_Water_fault H 1) (fm := fun H => f_Model_fault H 755) (h1 := h) (g1 := g) (g2 := up2 g 755 0 0) (v := g 1 11) ?_ t ?_ I.th (by omega) (by omega)
  · show f_Water_fault_b0 (uI h g) 1 = _
    unfold f_Water_fault_b0
    rw [if_pos w1]
    rfl
  · show f_Model_fault_b0 (uI h g) 755 = _
    unfold f_Model_fault_b0
    rw [if_pos w7, wr_s, sI_u, hI_u, up_k (by decide), I.2.2.2.2.2.1]
theorem N_od (t : TSr h) (hd : d < 8) : f_Model_ofDebt (uI h g) 755 (nI d) 2 = some (g 756 (11 + 3 * d + 2), uI h g) := M_ofDebt (t.iu (g := g)) hd (j := 2) (by decide)
theorem sp_layer : LSp M (fun H => f_Lw_layer H 1 p1 p2 765) (fun H => f_Model_layer H 755 p1 p2) := by
  intro H I
  obtain ⟨h, g, rfl⟩ : ∃ h g, H = uI h g := ⟨H, hI H, rfl⟩
  have I : INV M h g := I
  obtain ⟨t, W, R, Lr, e0, e1, e2, n8, nh8, nd8⟩ := I.us
  obtain ⟨⟨w1, wr0, wr1, wr2, wr3, w5, wr5, wr6, wr7, wr8, wr9⟩, w6, w7⟩ := WTR (g := g) t
  have s7 : ∀ (h : Hp) (g : Nat → Nat → Int32), TS h → hS (uI h g) 755 = 11 := fun h g t => t.td.1.1
  have s56 : ∀ (h : Hp) (g : Nat → Nat → Int32), TS h → hR (uI h g) 755 1 = 756 ∧ hS (uI h g) 756 = 20 ∧ hL (uI h g) 756 = 2291 := fun h g t => ⟨t.td.1.2.1.1, t.td.1.2.2.1.1, t.td.1.2.2.1.2⟩
  have l9 := t.l9
  rcases bad_or p1 (n := nc (g 756)) (by omega) with bd | ⟨c, hc, rfl⟩
  · refine cl_r (h := h) (g := g) (fl := fun H => f_Lw_layer H 1 p1 p2 765) (fm := fun H => f_Model_layer H 755 p1 p2) I (lw_layer_1 (H := uI h g) t ?_) (by decide) (fun h' g' t' x' => ⟨0, thr g' 1, ?_, thr_c, REF.thr⟩)
    · unfold f_Water_layer f_Water_layer_b0
      rw [if_pos w1, (C_needC t e0 (by omega)).1 bd, bX_r]
    · show f_Model_layer_b0 (uI h' g') 755 p1 p2 = _
      unfold f_Model_layer_b0 f_Model_layer_b21 f_Model_layer_b26
      rw [if_pos (s7 _ _ t'), wr_s, sI_u, (N_noC t'.td.1 (g := up2 g' 755 0 0) (n := nc (g 756)) (by rw [th_r (by decide), x' 756 (by decide)]; exact W.1.1) (by omega)).1 bd, bI_s, if_neg (by decide), if_pos (s7 _ _ t'), N_thr1 t'.td.1, bI_s, if_neg (by decide)]
      rfl
  rcases bad_or p2 (n := 30) (by decide) with bd | ⟨y, hy, rfl⟩
  · refine cl_r (h := h) (g := g) (fl := fun H => f_Lw_layer H 1 (nI c) p2 765) (fm := fun H => f_Model_layer H 755 (nI c) p2) I (lw_layer_1 (H := uI h g) t ?_) (by decide) (fun h' g' t' x' => ⟨0, thr g' 1, ?_, thr_c, REF.thr⟩)
    · unfold f_Water_layer f_Water_layer_b0
      rw [if_pos w1, (C_needC (x := 0) t e0 (by omega)).2 c hc, bX_l, if_pos w1, C_needY.1 bd, bX_r]
    · show f_Model_layer_b0 (uI h' g') 755 (nI c) p2 = _
      unfold f_Model_layer_b0 f_Model_layer_b21 f_Model_layer_b26
      rw [if_pos (s7 _ _ t'), wr_s, sI_u, (N_noC (x := 0) t'.td.1 (g := up2 g' 755 0 0) (n := nc (g 756)) (by rw [th_r (by decide), x' 756 (by decide)]; exact W.1.1) (by omega)).2 c hc, bI_s, if_pos rfl, N_noY.1 bd, bI_s, if_neg (by decide), if_pos (s7 _ _ t'), N_thr1 t'.td.1, bI_s, if_neg (by decide)]
      rfl
  obtain ⟨r1, r2, r3⟩ := R.2.1 c hc
  obtain ⟨a1, a2, a3, a4, a5⟩ := (l9.iu (g := g)).cr (c := c) (by omega)
  obtain ⟨-, b2, b3, b4⟩ := (l9.cs (c := c) (by omega)).un (g := g)
  refine cl_l (h := h) (g := g) (fl := fun H => f_Lw_layer H 1 (nI c) (nI y) 765) (fm := fun H => f_Model_layer H 755 (nI c) (nI y)) (h1 := h) (g1 := g) (v := g 756 (70 + 35 * c + y)) (lw_layer (H := uI h g) (H1 := uI h (g)) t t ?_) t (fun h' t' => ⟨up2 g 755 0 0, ?_, up_eq, I.th⟩) (by omega) (by omega)
  · unfold f_Water_layer f_Water_layer_b0
    rw [if_pos w1, (C_needC (x := 0) t e0 (by omega)).2 c hc, bX_l, if_pos w1, (C_needY (x := 0)).2 y hy, bX_l, if_pos w1, w5, if_pos w6, a3, if_pos a4, a5, if_pos (ib_n (by omega) (by decide)), ix_n (by omega), a1, if_pos a2, b2, if_pos b3, b4, if_pos (ib_n hy (by decide)), ix_n (by omega), hI_u, r2 y hy]
  · show f_Model_layer_b0 (uI h' (g)) 755 (nI c) (nI y) = _
    unfold f_Model_layer_b0 f_Model_layer_b26
    rw [if_pos (s7 _ _ t'), wr_s, sI_u, (N_noC (x := 0) t'.td.1 (g := up2 g 755 0 0) (n := nc (g 756)) (by rw [th_r (by decide)]; exact W.1.1) (by omega)).2 c hc, bI_s, if_pos rfl, (N_noY (x := 0)).2 y hy, bI_s, if_pos rfl, if_pos (s7 _ _ t'), N_thr0 t'.td.1, bI_s, if_pos rfl, if_pos (s7 _ _ t'), N_layer t'.td.1 (by omega) hy, bI_s, th_r (by decide)]
theorem sp_drank : LSp M (fun H => f_Lw_drank H 1 p1 p2 765) (fun H => f_Model_drank H 755 p1 p2) := by
  intro H I
  obtain ⟨h, g, rfl⟩ : ∃ h g, H = uI h g := ⟨H, hI H, rfl⟩
  have I : INV M h g := I
  obtain ⟨t, W, R, Lr, e0, e1, e2, n8, nh8, nd8⟩ := I.us
  obtain ⟨⟨w1, wr0, wr1, wr2, wr3, w5, wr5, wr6, wr7, wr8, wr9⟩, w6, w7⟩ := WTR (g := g) t
  have s7 : ∀ (h : Hp) (g : Nat → Nat → Int32), TS h → hS (uI h g) 755 = 11 := fun h g t => t.td.1.1
  have s56 : ∀ (h : Hp) (g : Nat → Nat → Int32), TS h → hR (uI h g) 755 1 = 756 ∧ hS (uI h g) 756 = 20 ∧ hL (uI h g) 756 = 2291 := fun h g t => ⟨t.td.1.2.1.1, t.td.1.2.2.1.1, t.td.1.2.2.1.2⟩
  have l9 := t.l9
  rcases bad_or p1 (n := nh (g 756)) (by omega) with bd | ⟨c, hc, rfl⟩
  · refine cl_r (h := h) (g := g) (fl := fun H => f_Lw_drank H 1 p1 p2 765) (fm := fun H => f_Model_drank H 755 p1 p2) I (lw_drank_1 (H := uI h g) t ?_) (by decide) (fun h' g' t' x' => ⟨0, thr g' 1, ?_, thr_c, REF.thr⟩)
    · unfold f_Water_drank f_Water_drank_b0
      rw [if_pos w1, (C_needH t e1 (by omega)).1 bd, bX_r]
    · show f_Model_drank_b0 (uI h' g') 755 p1 p2 = _
      unfold f_Model_drank_b0 f_Model_drank_b21 f_Model_drank_b26
      rw [if_pos (s7 _ _ t'), wr_s, sI_u, (N_noH t'.td.1 (g := up2 g' 755 0 0) (n := nh (g 756)) (by rw [th_r (by decide), x' 756 (by decide)]; exact W.1.2.1) (by omega)).1 bd, bI_s, if_neg (by decide), if_pos (s7 _ _ t'), N_thr1 t'.td.1, bI_s, if_neg (by decide)]
      rfl
  rcases bad_or p2 (n := 30) (by decide) with bd | ⟨y, hy, rfl⟩
  · refine cl_r (h := h) (g := g) (fl := fun H => f_Lw_drank H 1 (nI c) p2 765) (fm := fun H => f_Model_drank H 755 (nI c) p2) I (lw_drank_1 (H := uI h g) t ?_) (by decide) (fun h' g' t' x' => ⟨0, thr g' 1, ?_, thr_c, REF.thr⟩)
    · unfold f_Water_drank f_Water_drank_b0
      rw [if_pos w1, (C_needH (x := 0) t e1 (by omega)).2 c hc, bX_l, if_pos w1, C_needY.1 bd, bX_r]
    · show f_Model_drank_b0 (uI h' g') 755 (nI c) p2 = _
      unfold f_Model_drank_b0 f_Model_drank_b21 f_Model_drank_b26
      rw [if_pos (s7 _ _ t'), wr_s, sI_u, (N_noH (x := 0) t'.td.1 (g := up2 g' 755 0 0) (n := nh (g 756)) (by rw [th_r (by decide), x' 756 (by decide)]; exact W.1.2.1) (by omega)).2 c hc, bI_s, if_pos rfl, N_noY.1 bd, bI_s, if_neg (by decide), if_pos (s7 _ _ t'), N_thr1 t'.td.1, bI_s, if_neg (by decide)]
      rfl
  obtain ⟨r1, r2⟩ := R.2.2.1 c hc
  obtain ⟨a1, a2, a3, a4, a5, b2, b3, b4⟩ := (l9.iu (g := g)).hr (k := c) (by omega)
  refine cl_l (h := h) (g := g) (fl := fun H => f_Lw_drank H 1 (nI c) (nI y) 765) (fm := fun H => f_Model_drank H 755 (nI c) (nI y)) (h1 := h) (g1 := g) (v := g 756 (349 + 34 * c + y)) (lw_drank (H := uI h g) (H1 := uI h (g)) t t ?_) t (fun h' t' => ⟨up2 g 755 0 0, ?_, up_eq, I.th⟩) (by omega) (by omega)
  · unfold f_Water_drank f_Water_drank_b0
    rw [if_pos w1, (C_needH (x := 0) t e1 (by omega)).2 c hc, bX_l, if_pos w1, (C_needY (x := 0)).2 y hy, bX_l, if_pos w1, w5, if_pos w6, a1, if_pos a2, a3, if_pos (ib_n (by omega) (by decide)), ix_n (by omega), a4, if_pos a5, b2, if_pos b3, b4, if_pos (ib_n hy (by decide)), ix_n (by omega), hI_u, r2 y hy]
  · show f_Model_drank_b0 (uI h' (g)) 755 (nI c) (nI y) = _
    unfold f_Model_drank_b0 f_Model_drank_b26
    rw [if_pos (s7 _ _ t'), wr_s, sI_u, (N_noH (x := 0) t'.td.1 (g := up2 g 755 0 0) (n := nh (g 756)) (by rw [th_r (by decide)]; exact W.1.2.1) (by omega)).2 c hc, bI_s, if_pos rfl, (N_noY (x := 0)).2 y hy, bI_s, if_pos rfl, if_pos (s7 _ _ t'), N_thr0 t'.td.1, bI_s, if_pos rfl, if_pos (s7 _ _ t'), show (4 : Int32) + nI y = nI (4 + y) from nI_add 4 y, N_oh t'.td.1 (by omega) (by omega), bI_s, th_r (by decide), show 345 + 34 * c + (4 + y) = 349 + 34 * c + y from by omega]
theorem sp_place : LSp M (fun H => f_Lw_place H 1 p1 p2 765) (fun H => f_Model_place H 755 p1 p2) := by
  intro H I
  obtain ⟨h, g, rfl⟩ : ∃ h g, H = uI h g := ⟨H, hI H, rfl⟩
  have I : INV M h g := I
  obtain ⟨t, W, R, Lr, e0, e1, e2, n8, nh8, nd8⟩ := I.us
  obtain ⟨⟨w1, wr0, wr1, wr2, wr3, w5, wr5, wr6, wr7, wr8, wr9⟩, w6, w7⟩ := WTR (g := g) t
  have s7 : ∀ (h : Hp) (g : Nat → Nat → Int32), TS h → hS (uI h g) 755 = 11 := fun h g t => t.td.1.1
  have s56 : ∀ (h : Hp) (g : Nat → Nat → Int32), TS h → hR (uI h g) 755 1 = 756 ∧ hS (uI h g) 756 = 20 ∧ hL (uI h g) 756 = 2291 := fun h g t => ⟨t.td.1.2.1.1, t.td.1.2.2.1.1, t.td.1.2.2.1.2⟩
  have l9 := t.l9
  rcases bad_or p1 (n := nc (g 756)) (by omega) with bd | ⟨c, hc, rfl⟩
  · refine cl_r (h := h) (g := g) (fl := fun H => f_Lw_place H 1 p1 p2 765) (fm := fun H => f_Model_place H 755 p1 p2) I (lw_place_1 (H := uI h g) t ?_) (by decide) (fun h' g' t' x' => ⟨0, thr g' 1, ?_, thr_c, REF.thr⟩)
    · unfold f_Water_place f_Water_place_b0
      rw [if_pos w1, (C_needC t e0 (by omega)).1 bd, bX_r]
    · show f_Model_place_b0 (uI h' g') 755 p1 p2 = _
      unfold f_Model_place_b0 f_Model_place_b21 f_Model_place_b26
      rw [if_pos (s7 _ _ t'), wr_s, sI_u, (N_noC t'.td.1 (g := up2 g' 755 0 0) (n := nc (g 756)) (by rw [th_r (by decide), x' 756 (by decide)]; exact W.1.1) (by omega)).1 bd, bI_s, if_neg (by decide), if_pos (s7 _ _ t'), N_thr1 t'.td.1, bI_s, if_neg (by decide)]
      rfl
  rcases bad_or p2 (n := 30) (by decide) with bd | ⟨y, hy, rfl⟩
  · refine cl_r (h := h) (g := g) (fl := fun H => f_Lw_place H 1 (nI c) p2 765) (fm := fun H => f_Model_place H 755 (nI c) p2) I (lw_place_1 (H := uI h g) t ?_) (by decide) (fun h' g' t' x' => ⟨0, thr g' 1, ?_, thr_c, REF.thr⟩)
    · unfold f_Water_place f_Water_place_b0
      rw [if_pos w1, (C_needC (x := 0) t e0 (by omega)).2 c hc, bX_l, if_pos w1, C_needY.1 bd, bX_r]
    · show f_Model_place_b0 (uI h' g') 755 (nI c) p2 = _
      unfold f_Model_place_b0 f_Model_place_b21 f_Model_place_b26
      rw [if_pos (s7 _ _ t'), wr_s, sI_u, (N_noC (x := 0) t'.td.1 (g := up2 g' 755 0 0) (n := nc (g 756)) (by rw [th_r (by decide), x' 756 (by decide)]; exact W.1.1) (by omega)).2 c hc, bI_s, if_pos rfl, N_noY.1 bd, bI_s, if_neg (by decide), if_pos (s7 _ _ t'), N_thr1 t'.td.1, bI_s, if_neg (by decide)]
      rfl
  obtain ⟨r1, r2, r3⟩ := R.2.1 c hc
  obtain ⟨a1, a2, a3, a4, a5⟩ := (l9.iu (g := g)).cr (c := c) (by omega)
  obtain ⟨-, b2, b3, b4⟩ := (l9.cs (c := c) (by omega)).un (g := g)
  have Wc := W.2.2.2.2.2.1 c hc
  obtain ⟨g1, q1, q2⟩ := C_place l9 (by decide) (by decide) R Lr hc n8 Wc hy
  have q6 : g1 756 = g 756 := q2.lo (by decide)
  have I1 := I.fp (FP.fs q2)
  refine cl_l (h := h) (g := g) (fl := fun H => f_Lw_place H 1 (nI c) (nI y) 765) (fm := fun H => f_Model_place H 755 (nI c) (nI y)) (h1 := h) (g1 := g1) (v := pcW (g 756) c y) (lw_place (H := uI h g) (H1 := uI h (g1)) t t ?_) t (fun h' t' => ?_) (by omega) (by omega)
  · unfold f_Water_place f_Water_place_b0
    rw [if_pos w1, (C_needC (x := 0) t e0 (by omega)).2 c hc, bX_l, if_pos w1, (C_needY (x := 0)).2 y hy, bX_l, if_pos w1, w5, if_pos w6, a3, if_pos a4, a5, if_pos (ib_n (by omega) (by decide)), ix_n (by omega), a1, q1, bI_s]
  · obtain ⟨ga, ga1, ga2⟩ := N_place t'.td.1 (g := up2 g1 755 0 0) (c := c) (y := y) (by omega) hy (by rw [th_r (by decide), q6]; exact Wc.hk) (by rw [th_r (by decide), q6]; exact fun z => W.lw.resolve_left z)
    rw [th_r (by decide), q6] at ga1
    have em : f_Model_place_b0 (uI h' (g1)) 755 (nI c) (nI y) = some (pcW (g 756) c y, uI h' (ga)) := by
      unfold f_Model_place_b0 f_Model_place_b26
      rw [if_pos (s7 _ _ t'), wr_s, sI_u, (N_noC (x := 0) t'.td.1 (g := up2 g1 755 0 0) (n := nc (g 756)) (by rw [th_r (by decide), q6]; exact W.1.1) (by omega)).2 c hc, bI_s, if_pos rfl, (N_noY (x := 0)).2 y hy, bI_s, if_pos rfl, if_pos (s7 _ _ t'), N_thr0 t'.td.1, bI_s, if_pos rfl, if_pos (s7 _ _ t'), ga1, bI_s]
    exact ⟨ga, em, by rw [ga2 755 (by decide)]; exact up_eq, (I1.ref ((REF.th (by decide)).tr (REF.f3 ga2))).mono (by omega)⟩
theorem sp_next : LSp M (fun H => f_Lw_next H 1 p1 765) (fun H => f_Model_next H 755 p1) := by
  intro H I
  obtain ⟨h, g, rfl⟩ : ∃ h g, H = uI h g := ⟨H, hI H, rfl⟩
  have I : INV M h g := I
  obtain ⟨t, W, R, Lr, e0, e1, e2, n8, nh8, nd8⟩ := I.us
  obtain ⟨⟨w1, wr0, wr1, wr2, wr3, w5, wr5, wr6, wr7, wr8, wr9⟩, w6, w7⟩ := WTR (g := g) t
  have s7 : ∀ (h : Hp) (g : Nat → Nat → Int32), TS h → hS (uI h g) 755 = 11 := fun h g t => t.td.1.1
  have s56 : ∀ (h : Hp) (g : Nat → Nat → Int32), TS h → hR (uI h g) 755 1 = 756 ∧ hS (uI h g) 756 = 20 ∧ hL (uI h g) 756 = 2291 := fun h g t => ⟨t.td.1.2.1.1, t.td.1.2.2.1.1, t.td.1.2.2.1.2⟩
  have l9 := t.l9
  rcases bad_or p1 (n := nc (g 756)) (by omega) with bd | ⟨c, hc, rfl⟩
  · refine cl_r (h := h) (g := g) (fl := fun H => f_Lw_next H 1 p1 765) (fm := fun H => f_Model_next H 755 p1) I (lw_next_1 (H := uI h g) t ?_) (by decide) (fun h' g' t' x' => ⟨0, thr g' 1, ?_, thr_c, REF.thr⟩)
    · unfold f_Water_next f_Water_next_b0
      rw [if_pos w1, (C_needC t e0 (by omega)).1 bd, bX_r]
    · show f_Model_next_b0 (uI h' g') 755 p1 = _
      unfold f_Model_next_b0
      rw [if_pos (s7 _ _ t'), wr_s, sI_u, (N_noC t'.td.1 (g := up2 g' 755 0 0) (n := nc (g 756)) (by rw [th_r (by decide), x' 756 (by decide)]; exact W.1.1) (by omega)).1 bd, bI_s, if_pos (s7 _ _ t'), N_thr1 t'.td.1, bI_s, if_neg (by decide)]
      rfl
  obtain ⟨a1, a2, a3, a4, a5⟩ := (l9.iu (g := g)).cr (c := c) (by omega)
  have Wc := W.2.2.2.2.2.1 c hc
  obtain ⟨g1, q1, q2⟩ := C_firstYear l9 (by decide) (by decide) W.2.1 hc Wc R Lr
  have q6 : g1 756 = g 756 := q2 756 (by decide) (fun z => by omega)
  have I1 := I.fp q2
  refine cl_l (h := h) (g := g) (fl := fun H => f_Lw_next H 1 (nI c) 765) (fm := fun H => f_Model_next H 755 (nI c)) (h1 := h) (g1 := g1) (v := nextW (g 756) c) (lw_next (H := uI h g) (H1 := uI h (g1)) t t ?_) t (fun h' t' => ?_) (by omega) (by omega)
  · unfold f_Water_next f_Water_next_b0
    rw [if_pos w1, (C_needC (x := 0) t e0 (by omega)).2 c hc, bX_l, if_pos w1, w5, if_pos w6, a3, if_pos a4, a5, if_pos (ib_n (by omega) (by decide)), ix_n (by omega), a1, q1, bI_s]
  · obtain ⟨ga, ga1, ga2⟩ := N_next t'.td.1 (g := up2 g1 755 0 0) (c := c) (by omega) (by rw [th_r (by decide), q6]; exact Wc.hk) (by rw [th_r (by decide), q6]; exact fun z => W.lw.resolve_left z)
    rw [th_r (by decide), q6] at ga1
    have em : f_Model_next_b0 (uI h' (g1)) 755 (nI c) = some (nextW (g 756) c, uI h' (ga)) := by
      unfold f_Model_next_b0
      rw [if_pos (s7 _ _ t'), wr_s, sI_u, (N_noC (x := 0) t'.td.1 (g := up2 g1 755 0 0) (n := nc (g 756)) (by rw [th_r (by decide), q6]; exact W.1.1) (by omega)).2 c hc, bI_s, if_pos (s7 _ _ t'), N_thr0 t'.td.1, bI_s, if_pos rfl, if_pos (s7 _ _ t'), ga1, bI_s]
    exact ⟨ga, em, by rw [ga2 755 (by decide)]; exact up_eq, (I1.ref ((REF.th (by decide)).tr (REF.f3 ga2))).mono (by omega)⟩
theorem sp_salt : LSp M (fun H => f_Lw_salt H 1 p1 765) (fun H => f_Model_salt H 755 p1) := by
  intro H I
  obtain ⟨h, g, rfl⟩ : ∃ h g, H = uI h g := ⟨H, hI H, rfl⟩
  have I : INV M h g := I
  obtain ⟨t, W, R, Lr, e0, e1, e2, n8, nh8, nd8⟩ := I.us
  obtain ⟨⟨w1, wr0, wr1, wr2, wr3, w5, wr5, wr6, wr7, wr8, wr9⟩, w6, w7⟩ := WTR (g := g) t
  have s7 : ∀ (h : Hp) (g : Nat → Nat → Int32), TS h → hS (uI h g) 755 = 11 := fun h g t => t.td.1.1
  have s56 : ∀ (h : Hp) (g : Nat → Nat → Int32), TS h → hR (uI h g) 755 1 = 756 ∧ hS (uI h g) 756 = 20 ∧ hL (uI h g) 756 = 2291 := fun h g t => ⟨t.td.1.2.1.1, t.td.1.2.2.1.1, t.td.1.2.2.1.2⟩
  have l9 := t.l9
  rcases bad_or p1 (n := 30) (by decide) with bd | ⟨c, hc, rfl⟩
  · refine cl_r (h := h) (g := g) (fl := fun H => f_Lw_salt H 1 p1 765) (fm := fun H => f_Model_salt H 755 p1) I (lw_salt_1 (H := uI h g) t ?_) (by decide) (fun h' g' t' x' => ⟨0, thr g' 1, ?_, thr_c, REF.thr⟩)
    · unfold f_Water_salt f_Water_salt_b0
      rw [if_pos w1, C_needY.1 bd, bX_r]
    · show f_Model_salt_b0 (uI h' g') 755 p1 = _
      unfold f_Model_salt_b0
      rw [if_pos (s7 _ _ t'), wr_s, sI_u, N_noY.1 bd, bI_s, if_pos (s7 _ _ t'), N_thr1 t'.td.1, bI_s, if_neg (by decide)]
      rfl
  have sS : hR (uI h g) 569 6 = 569 + 4 ∧ hS (uI h g) (569 + 4) = 20 ∧ hL (uI h g) (569 + 4) = 30 := ⟨l9.2.1.2.2.2.1, l9.2.2.2.2.2.1.1, l9.2.2.2.2.2.1.2⟩
  refine cl_l (h := h) (g := g) (fl := fun H => f_Lw_salt H 1 (nI c) 765) (fm := fun H => f_Model_salt H 755 (nI c)) (h1 := h) (g1 := g) (v := g 756 (35 + c)) (lw_salt (H := uI h g) (H1 := uI h (g)) t t ?_) t (fun h' t' => ⟨up2 g 755 0 0, ?_, up_eq, I.th⟩) (by omega) (by omega)
  · unfold f_Water_salt f_Water_salt_b0
    rw [if_pos w1, (C_needY (x := 0)).2 c hc, bX_l, if_pos w1, w5, if_pos w6, sS.1, if_pos sS.2.1, sS.2.2, if_pos (ib_n hc (by decide)), ix_n (by omega), hI_u, R.2.2.2.2 c hc]
  · show f_Model_salt_b0 (uI h' (g)) 755 (nI c) = _
    unfold f_Model_salt_b0
    rw [if_pos (s7 _ _ t'), wr_s, sI_u, (N_noY (x := 0)).2 c hc, bI_s, if_pos (s7 _ _ t'), N_thr0 t'.td.1, bI_s, if_pos rfl, if_pos (s7 _ _ t'), (s56 _ _ t').1, if_pos (s56 _ _ t').2.1, (s56 _ _ t').2.2, show (35 : Int32) + nI c = nI (35 + c) from nI_add 35 c, if_pos (ib_n (by omega) (by decide)), ix_n (by omega), hI_u, th_r (by decide)]
theorem sp_debt : LSp M (fun H => f_Lw_debt H 1 p1 765) (fun H => f_Model_debt H 755 p1) := by
  intro H I
  obtain ⟨h, g, rfl⟩ : ∃ h g, H = uI h g := ⟨H, hI H, rfl⟩
  have I : INV M h g := I
  obtain ⟨t, W, R, Lr, e0, e1, e2, n8, nh8, nd8⟩ := I.us
  obtain ⟨⟨w1, wr0, wr1, wr2, wr3, w5, wr5, wr6, wr7, wr8, wr9⟩, w6, w7⟩ := WTR (g := g) t
  have s7 : ∀ (h : Hp) (g : Nat → Nat → Int32), TS h → hS (uI h g) 755 = 11 := fun h g t => t.td.1.1
  have s56 : ∀ (h : Hp) (g : Nat → Nat → Int32), TS h → hR (uI h g) 755 1 = 756 ∧ hS (uI h g) 756 = 20 ∧ hL (uI h g) 756 = 2291 := fun h g t => ⟨t.td.1.2.1.1, t.td.1.2.2.1.1, t.td.1.2.2.1.2⟩
  have l9 := t.l9
  rcases bad_or p1 (n := nd (g 756)) (by omega) with bd | ⟨c, hc, rfl⟩
  · refine cl_r (h := h) (g := g) (fl := fun H => f_Lw_debt H 1 p1 765) (fm := fun H => f_Model_debt H 755 p1) I (lw_debt_1 (H := uI h g) t ?_) (by decide) (fun h' g' t' x' => ⟨0, thr g' 1, ?_, thr_c, REF.thr⟩)
    · unfold f_Water_debt f_Water_debt_b0
      rw [if_pos w1, (C_needD t e2 (by omega)).1 bd, bX_r]
    · show f_Model_debt_b0 (uI h' g') 755 p1 = _
      unfold f_Model_debt_b0
      rw [if_pos (s7 _ _ t'), wr_s, sI_u, (N_noD t'.td.1 (g := up2 g' 755 0 0) (n := nd (g 756)) (by rw [th_r (by decide), x' 756 (by decide)]; exact W.1.2.2) (by omega)).1 bd, bI_s, if_pos (s7 _ _ t'), N_thr1 t'.td.1, bI_s, if_neg (by decide)]
      rfl
  obtain ⟨a1, a2, a3, a4, a5⟩ := (l9.iu (g := g)).dr (d := c) (by omega)
  have rd := R.2.2.2.1 c hc 2 (by decide)
  refine cl_l (h := h) (g := g) (fl := fun H => f_Lw_debt H 1 (nI c) 765) (fm := fun H => f_Model_debt H 755 (nI c)) (h1 := h) (g1 := g) (v := g 756 (11 + 3 * c + 2)) (lw_debt (H := uI h g) (H1 := uI h (g)) t t ?_) t (fun h' t' => ⟨up2 g 755 0 0, ?_, up_eq, I.th⟩) (by omega) (by omega)
  · unfold f_Water_debt f_Water_debt_b0
    rw [if_pos w1, (C_needD (x := 0) t e2 (by omega)).2 c hc, bX_l, if_pos w1, w5, if_pos w6, a1, if_pos a2, a3, if_pos (ib_n (by omega) (by decide)), ix_n (by omega), a4, if_pos a5, hI_u, rd]
  · show f_Model_debt_b0 (uI h' (g)) 755 (nI c) = _
    unfold f_Model_debt_b0
    rw [if_pos (s7 _ _ t'), wr_s, sI_u, (N_noD (x := 0) t'.td.1 (g := up2 g 755 0 0) (n := nd (g 756)) (by rw [th_r (by decide)]; exact W.1.2.2) (by omega)).2 c hc, bI_s, if_pos (s7 _ _ t'), N_thr0 t'.td.1, bI_s, if_pos rfl, if_pos (s7 _ _ t'), N_od t'.td.1 (by omega), bI_s, th_r (by decide)]
end U22
