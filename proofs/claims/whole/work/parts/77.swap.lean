/-! ===== swap (wip/whole/gen/g77.py) ===== -/
section U27
variable {h h1 : Hp} {g g' g1 g2 : Nat → Nat → Int32} {w w' : Nat → Int32} {A B L S c d k n l y j m q s i F r z E N M M' : Nat} {v x a b p1 p2 p3 p4 p5 : Int32} {f p : Nat → Nat} {fl fm fw : Hp → Option (Int32 × Hp)} {P Q : Nat → Int32}
theorem tk_gv (e : c ≠ d) (hy : y < 30) (hz : z < 30) : tkW (gvW w c y s) d z m = gvW (tkW w d z m) c y s := by
  have l1 : ly (gvW w c y s) d z = ly w d z := congrArg ix (up1_ne (by omega))
  have l2 : ly (tkW w d z m) c y = ly w c y := congrArg ix (up1_ne (by omega))
  have a1 : tkW (gvW w c y s) d z m = up1 (up1 w (70 + 35 * c + y) (nI (ly w c y + s))) (70 + 35 * d + z) (nI (ly w d z - m)) := by
    rw [← l1]; rfl
  have a2 : gvW (tkW w d z m) c y s = up1 (up1 w (70 + 35 * d + z) (nI (ly w d z - m))) (70 + 35 * c + y) (nI (ly w c y + s)) := by
    rw [← l2]; rfl
  rw [a1, a2]
  funext k
  by_cases e1 : k = 70 + 35 * c + y
  · rw [e1, up1_ne (by omega), up1_eq, up1_eq]
  · by_cases e2 : k = 70 + 35 * d + z
    · rw [e2, up1_eq, up1_ne (by omega), up1_eq]
    · rw [up1_ne e2, up1_ne e1, up1_ne e1, up1_ne e2]
theorem tk_ms (O : OKL w c) (hy : y < 30) (hs : s ≤ ly w c y) : ms (tkW w c y s) c + s = ms w c := ms_tk O hy hs
theorem tk_ms' (e : d ≠ c) (hy : y < 30) : ms (tkW w c y s) d = ms w d := ms_eq fun z hz => up1_ne (by omega)
theorem gv_ms' (e : d ≠ c) (hy : y < 30) : ms (gvW w c y s) d = ms w d := ms_eq fun z hz => up1_ne (by omega)
theorem tk_rm (hy : y < 30) : rm (tkW w c y s) d = rm w d := congrArg ix (up1_ne (by omega))
theorem gv_rm (hy : y < 30) : rm (gvW w c y s) d = rm w d := congrArg ix (up1_ne (by omega))
theorem tk_nc : nc (tkW w c y s) = nc w := congrArg ix (tk_lo (by decide))
theorem gv_nc : nc (gvW w c y s) = nc w := congrArg ix (gv_lo (by decide))
theorem WF.okl (W : WF M w) (hc : c < nc w) : OKL w c := (W.2.2.2.2.2.1 c hc).1
theorem WF.room (W : WF M w) (hc : c < nc w) : ms w c ≤ rm w c := (W.2.2.2.2.2.1 c hc).2.1.2.2
theorem tk_le (O : OKL w c) (hy : y < 30) (hs : s ≤ ly w c y) : s ≤ ms w c := Nat.le_trans hs (smN_ge (f := ly w c) hy)
theorem CO.tk (hc : c < 8) (hy : y < 30) : CO w (tkW w c y s) := fun k _ h2 _ => up1_ne (by omega)
theorem CO.gv (hc : c < 8) (hy : y < 30) : CO w (gvW w c y s) := fun k _ h2 _ => up1_ne (by omega)
/-- the worlds of a swap, in the class's order -/
def swW (w : Nat → Int32) (c y d z m : Nat) : Nat → Int32 := gvW (gvW (tkW (tkW w c y m) d z m) c z m) d y m
theorem C_swap (t : LDs h A) (R : RLa g A w) (W : WF M w) (hc : c < nc w) (hd : d < nc w) (e : c ≠ d) (hy : y < 30) (hz : z < 30) (m1 : m ≤ ly w c y) (m2 : m ≤ ly w d z) :
    ∃ g', (bV (f_Cistern_take (uI h g) (A + 6 + 2 * c) (nI y) (nI m)) fun h1 => bV (f_Cistern_take h1 (A + 6 + 2 * d) (nI z) (nI m)) fun h2 => bV (f_Cistern_put h2 (A + 6 + 2 * c) (nI z) (nI m)) fun h3 => f_Cistern_put h3 (A + 6 + 2 * d) (nI y) (nI m)) = some (uI h g') ∧ RLa g' A (swW w c y d z m) ∧ WF M (swW w c y d z m) ∧ CO w (swW w c y d z m) ∧ FA A g g' := by
  have h8 := W.2.1.1
  have cs := t.cs (c := c) (by omega)
  have ds := t.cs (c := d) (by omega)
  have O := W.okl hc
  have oc := (O y hy).2
  have lc := tk_le O hy m1
  have R1 := R.take W.2.1 hc O hy m1
  have W1 := W.tk hc hy m1
  have e1 : ly (tkW w c y m) d z = ly w d z := congrArg ix (up1_ne (by omega))
  have R2 := R1.take W1.2.1 (by rw [tk_nc]; exact hd) (W1.okl (by rw [tk_nc]; exact hd)) hz (by rw [e1]; exact m2)
  have W2 := W1.tk (by rw [tk_nc]; exact hd) hz (by rw [e1]; exact m2)
  have c2 : c < nc (tkW (tkW w c y m) d z m) := by rw [tk_nc, tk_nc]; exact hc
  have d2 : d < nc (tkW (tkW w c y m) d z m) := by rw [tk_nc, tk_nc]; exact hd
  have R3 := R2.give W2.2.1 c2 (W2.okl c2) hz (s := m) (by omega)
  have k1 := ms_tk O hy m1
  have rmc := W.room hc
  have rmd := W.room hd
  have W3 := W2.gv (s := m) c2 hz (by rw [tk_ms' e hz, tk_rm hz, tk_rm hy]; omega)
  have d3 : d < nc (gvW (tkW (tkW w c y m) d z m) c z m) := by rw [gv_nc]; exact d2
  have R4 := R3.give W3.2.1 d3 (W3.okl d3) hy (s := m) (by omega)
  have k2 := ms_tk (W1.okl (c := d) (by rw [tk_nc]; exact hd)) hz (s := m) (by rw [e1]; exact m2)
  have W4 := W3.gv (s := m) d3 hy (by rw [gv_ms' (by omega) hz, gv_rm hz, tk_rm hz, tk_rm hy]; rw [tk_ms' (by omega) hy] at k2; omega)
  refine ⟨_, ?_, R4, W4, ((CO.tk (by omega) hy).tr (CO.tk (by omega) hz)).tr ((CO.gv (by omega) hz).tr (CO.gv (by omega) hy)), fun r hr => ?_⟩
  · rw [C_take cs hy, bV_s, C_take ds hz, bV_s, C_put cs hz, bV_s, C_put ds hy]
  · rw [pt_row (by omega) (by omega), pt_row (by omega) (by omega), pt_row (by omega) (by omega), pt_row (by omega) (by omega)]
theorem N_swap (t : TSr h) (W : WF M w) (hg : g 756 = w) (hc : c < nc w) (hd : d < nc w) (e : c ≠ d) (hy : y < 30) (hz : z < 30) (m1 : m ≤ ly w c y) (m2 : m ≤ ly w d z) :
    ∃ g1 g2 g3 g4, f_Model_adds (uI h g) 755 (nI c) (nI y) (-nI m) = some (uI h g1) ∧ f_Model_adds (uI h g1) 755 (nI c) (nI z) (nI m) = some (uI h g2) ∧ f_Model_adds (uI h g2) 755 (nI d) (nI z) (-nI m) = some (uI h g3) ∧ f_Model_adds (uI h g3) 755 (nI d) (nI y) (nI m) = some (uI h g4) ∧ g4 756 = swW w c y d z m ∧ ∀ r, r ≠ 756 → g4 r = g r := by
  have h8 := W.2.1.1
  have O := W.okl hc
  have lc := tk_le O hy m1
  have W1 := W.tk hc hy m1
  have k1 := ms_tk O hy m1
  have rmc := W.room hc
  have c1 : c < nc (tkW w c y m) := by rw [tk_nc]; exact hc
  have W2 := W1.gv (s := m) c1 hz (by rw [tk_rm hy]; omega)
  have d2 : d < nc (gvW (tkW w c y m) c z m) := by rw [gv_nc, tk_nc]; exact hd
  have e1 : ly (gvW (tkW w c y m) c z m) d z = ly w d z := congrArg ix ((up1_ne (by omega)).trans (up1_ne (by omega)))
  have W3 := W2.tk (s := m) d2 hz (by rw [e1]; exact m2)
  obtain ⟨g1, p1, p2, p3⟩ := N_take t hg O (by omega) hy m1
  obtain ⟨g2, k1, k2, k3⟩ := N_give (s := m) t p2 (W1.okl c1) (by omega) hz
  obtain ⟨g3, l1, l2, l3⟩ := N_take (s := m) t k2 (W2.okl d2) (by omega) hz (by rw [e1]; exact m2)
  obtain ⟨g4, o1, o2, o3⟩ := N_give (s := m) t l2 (W3.okl (c := d) (by rw [tk_nc]; exact d2)) (by omega) hy
  refine ⟨g1, g2, g3, g4, p1, k1, l1, o1, ?_, fun r hr => by rw [o3 r hr, l3 r hr, k3 r hr, p3 r hr]⟩
  rw [o2, tk_gv e hz hz]
  rfl
theorem sp_swap : LSp M (fun H => f_Lw_swap H 1 p1 p2 p3 p4 p5 765) (fun H => f_Model_swap H 755 p1 p2 p3 p4 p5) := by
  intro H I
  obtain ⟨h, g, rfl⟩ : ∃ h g, H = uI h g := ⟨H, hI H, rfl⟩
  have I : INV M h g := I
  obtain ⟨t, W, R, Lr, e0, e1, e2, n8, nh8, nd8⟩ := I.us
  obtain ⟨⟨w1, wr0, wr1, wr2, wr3, w5, wr5, wr6, wr7, wr8, wr9⟩, w6, w7⟩ := WTR (g := g) t
  have s7 : ∀ (h : Hp) (g : Nat → Nat → Int32), TS h → hS (uI h g) 755 = 11 := fun h g t => t.td.1.1
  have s56 : ∀ (h : Hp) (g : Nat → Nat → Int32), TS h → hR (uI h g) 755 1 = 756 ∧ hS (uI h g) 756 = 20 ∧ hL (uI h g) 756 = 2291 := fun h g t => ⟨t.td.1.2.1.1, t.td.1.2.2.1.1, t.td.1.2.2.1.2⟩
  have l9 := t.l9
  rcases bad_or p1 (n := nc (g 756)) (by omega) with bd | ⟨c, hc, rfl⟩
  · refine cl_r (h := h) (g := g) (fl := fun H => f_Lw_swap H 1 p1 p2 p3 p4 p5 765) (fm := fun H => f_Model_swap H 755 p1 p2 p3 p4 p5) I (lw_swap_1 (H := uI h g) t ?_) (by decide) (fun h' g' t' x' => ⟨0, thr g' 1, ?_, thr_c, REF.thr⟩)
    · unfold f_Water_swap f_Water_swap_b0
      rw [if_pos w1, (C_needC t e0 (by omega)).1 bd, bX_r]
    · show f_Model_swap_b0 (uI h' g') 755 p1 p2 p3 p4 p5 = _
      unfold f_Model_swap_b0 f_Model_swap_b37 f_Model_swap_b42
      rw [if_pos (s7 _ _ t'), wr_s, sI_u, (N_noC t'.td.1 (g := up2 g' 755 0 0) (n := nc (g 756)) (by rw [th_r (by decide), x' 756 (by decide)]; exact W.1.1) (by omega)).1 bd, bI_s, if_neg (by decide), if_pos (s7 _ _ t'), N_thr1 t'.td.1, bI_s, if_neg (by decide)]
      rfl
  rcases bad_or p2 (n := 30) (by decide) with bd | ⟨y, hy, rfl⟩
  · refine cl_r (h := h) (g := g) (fl := fun H => f_Lw_swap H 1 (nI c) p2 p3 p4 p5 765) (fm := fun H => f_Model_swap H 755 (nI c) p2 p3 p4 p5) I (lw_swap_1 (H := uI h g) t ?_) (by decide) (fun h' g' t' x' => ⟨0, thr g' 1, ?_, thr_c, REF.thr⟩)
    · unfold f_Water_swap f_Water_swap_b0
      rw [if_pos w1, (C_needC (x := 0) t e0 (by omega)).2 c hc, bX_l, if_pos w1, C_needY.1 bd, bX_r]
    · show f_Model_swap_b0 (uI h' g') 755 (nI c) p2 p3 p4 p5 = _
      unfold f_Model_swap_b0 f_Model_swap_b37 f_Model_swap_b42
      rw [if_pos (s7 _ _ t'), wr_s, sI_u, (N_noC (x := 0) t'.td.1 (g := up2 g' 755 0 0) (n := nc (g 756)) (by rw [th_r (by decide), x' 756 (by decide)]; exact W.1.1) (by omega)).2 c hc, bI_s, if_pos rfl, N_noY.1 bd, bI_s, if_neg (by decide), if_pos (s7 _ _ t'), N_thr1 t'.td.1, bI_s, if_neg (by decide)]
      rfl
  rcases bad_or p3 (n := nc (g 756)) (by omega) with bd | ⟨d, hd, rfl⟩
  · refine cl_r (h := h) (g := g) (fl := fun H => f_Lw_swap H 1 (nI c) (nI y) p3 p4 p5 765) (fm := fun H => f_Model_swap H 755 (nI c) (nI y) p3 p4 p5) I (lw_swap_1 (H := uI h g) t ?_) (by decide) (fun h' g' t' x' => ⟨0, thr g' 1, ?_, thr_c, REF.thr⟩)
    · unfold f_Water_swap f_Water_swap_b0
      rw [if_pos w1, (C_needC (x := 0) t e0 (by omega)).2 c hc, bX_l, if_pos w1, (C_needY (x := 0)).2 y hy, bX_l, if_pos w1, (C_needC t e0 (by omega)).1 bd, bX_r]
    · show f_Model_swap_b0 (uI h' g') 755 (nI c) (nI y) p3 p4 p5 = _
      unfold f_Model_swap_b0 f_Model_swap_b37 f_Model_swap_b42
      rw [if_pos (s7 _ _ t'), wr_s, sI_u, (N_noC (x := 0) t'.td.1 (g := up2 g' 755 0 0) (n := nc (g 756)) (by rw [th_r (by decide), x' 756 (by decide)]; exact W.1.1) (by omega)).2 c hc, bI_s, if_pos rfl, (N_noY (x := 0)).2 y hy, bI_s, if_pos rfl, if_pos (s7 _ _ t'), (N_noC t'.td.1 (g := up2 g' 755 0 0) (n := nc (g 756)) (by rw [th_r (by decide), x' 756 (by decide)]; exact W.1.1) (by omega)).1 bd, bI_s, if_neg (by decide), if_pos (s7 _ _ t'), N_thr1 t'.td.1, bI_s, if_neg (by decide)]
      rfl
  rcases bad_or p4 (n := 30) (by decide) with bd | ⟨z, hz, rfl⟩
  · refine cl_r (h := h) (g := g) (fl := fun H => f_Lw_swap H 1 (nI c) (nI y) (nI d) p4 p5 765) (fm := fun H => f_Model_swap H 755 (nI c) (nI y) (nI d) p4 p5) I (lw_swap_1 (H := uI h g) t ?_) (by decide) (fun h' g' t' x' => ⟨0, thr g' 1, ?_, thr_c, REF.thr⟩)
    · unfold f_Water_swap f_Water_swap_b0
      rw [if_pos w1, (C_needC (x := 0) t e0 (by omega)).2 c hc, bX_l, if_pos w1, (C_needY (x := 0)).2 y hy, bX_l, if_pos w1, (C_needC (x := 0) t e0 (by omega)).2 d hd, bX_l, if_pos w1, C_needY.1 bd, bX_r]
    · show f_Model_swap_b0 (uI h' g') 755 (nI c) (nI y) (nI d) p4 p5 = _
      unfold f_Model_swap_b0 f_Model_swap_b37 f_Model_swap_b42
      rw [if_pos (s7 _ _ t'), wr_s, sI_u, (N_noC (x := 0) t'.td.1 (g := up2 g' 755 0 0) (n := nc (g 756)) (by rw [th_r (by decide), x' 756 (by decide)]; exact W.1.1) (by omega)).2 c hc, bI_s, if_pos rfl, (N_noY (x := 0)).2 y hy, bI_s, if_pos rfl, if_pos (s7 _ _ t'), (N_noC (x := 0) t'.td.1 (g := up2 g' 755 0 0) (n := nc (g 756)) (by rw [th_r (by decide), x' 756 (by decide)]; exact W.1.1) (by omega)).2 d hd, bI_s, if_pos rfl, N_noY.1 bd, bI_s, if_neg (by decide), if_pos (s7 _ _ t'), N_thr1 t'.td.1, bI_s, if_neg (by decide)]
      rfl
  by_cases ecd : c = d
  · refine cl_r (h := h) (g := g) (fl := fun H => f_Lw_swap H 1 (nI c) (nI y) (nI d) (nI z) p5 765) (fm := fun H => f_Model_swap H 755 (nI c) (nI y) (nI d) (nI z) p5) I (lw_swap_2 (H := uI h g) t ?_) (by decide) (fun h' g' t' x' => ⟨0, thr g' 2, ?_, thr_c, REF.thr⟩)
    · unfold f_Water_swap f_Water_swap_b0 f_Water_swap_b37
      rw [if_pos w1, (C_needC (x := 0) t e0 (by omega)).2 c hc, bX_l, if_pos w1, (C_needY (x := 0)).2 y hy, bX_l, if_pos w1, (C_needC (x := 0) t e0 (by omega)).2 d hd, bX_l, if_pos w1, (C_needY (x := 0)).2 z hz, bX_l, if_pos (congrArg nI ecd)]
    · show f_Model_swap_b0 (uI h' g') 755 (nI c) (nI y) (nI d) (nI z) p5 = _
      unfold f_Model_swap_b0 f_Model_swap_b42 f_Model_swap_b66 f_Model_swap_b71
      rw [if_pos (s7 _ _ t'), wr_s, sI_u, (N_noC (x := 0) t'.td.1 (g := up2 g' 755 0 0) (n := nc (g 756)) (by rw [th_r (by decide), x' 756 (by decide)]; exact W.1.1) (by omega)).2 c hc, bI_s, if_pos rfl, (N_noY (x := 0)).2 y hy, bI_s, if_pos rfl, if_pos (s7 _ _ t'), (N_noC (x := 0) t'.td.1 (g := up2 g' 755 0 0) (n := nc (g 756)) (by rw [th_r (by decide), x' 756 (by decide)]; exact W.1.1) (by omega)).2 d hd, bI_s, if_pos rfl, (N_noY (x := 0)).2 z hz, bI_s, if_pos rfl, if_pos (s7 _ _ t'), N_thr0 t'.td.1, bI_s, if_pos rfl, if_pos (congrArg nI ecd), if_pos (s7 _ _ t'), N_thr1 t'.td.1, bI_s, if_neg (by decide)]
      rfl
  have ncd : ¬ nI c = nI d := fun z => ecd ((nI_eq (by omega) (by omega)).mp z)
  by_cases eyz : y = z
  · refine cl_r (h := h) (g := g) (fl := fun H => f_Lw_swap H 1 (nI c) (nI y) (nI d) (nI z) p5 765) (fm := fun H => f_Model_swap H 755 (nI c) (nI y) (nI d) (nI z) p5) I (lw_swap_2 (H := uI h g) t ?_) (by decide) (fun h' g' t' x' => ⟨0, thr g' 2, ?_, thr_c, REF.thr⟩)
    · unfold f_Water_swap f_Water_swap_b0 f_Water_swap_b37
      rw [if_pos w1, (C_needC (x := 0) t e0 (by omega)).2 c hc, bX_l, if_pos w1, (C_needY (x := 0)).2 y hy, bX_l, if_pos w1, (C_needC (x := 0) t e0 (by omega)).2 d hd, bX_l, if_pos w1, (C_needY (x := 0)).2 z hz, bX_l, if_neg ncd, if_pos (congrArg nI eyz)]
    · show f_Model_swap_b0 (uI h' g') 755 (nI c) (nI y) (nI d) (nI z) p5 = _
      unfold f_Model_swap_b0 f_Model_swap_b42 f_Model_swap_b66 f_Model_swap_b71
      rw [if_pos (s7 _ _ t'), wr_s, sI_u, (N_noC (x := 0) t'.td.1 (g := up2 g' 755 0 0) (n := nc (g 756)) (by rw [th_r (by decide), x' 756 (by decide)]; exact W.1.1) (by omega)).2 c hc, bI_s, if_pos rfl, (N_noY (x := 0)).2 y hy, bI_s, if_pos rfl, if_pos (s7 _ _ t'), (N_noC (x := 0) t'.td.1 (g := up2 g' 755 0 0) (n := nc (g 756)) (by rw [th_r (by decide), x' 756 (by decide)]; exact W.1.1) (by omega)).2 d hd, bI_s, if_pos rfl, (N_noY (x := 0)).2 z hz, bI_s, if_pos rfl, if_pos (s7 _ _ t'), N_thr0 t'.td.1, bI_s, if_pos rfl, if_neg ncd, if_pos (congrArg nI eyz), if_pos (s7 _ _ t'), N_thr1 t'.td.1, bI_s, if_neg (by decide)]
      rfl
  have nyz : ¬ nI y = nI z := fun q => eyz ((nI_eq (by omega) (by omega)).mp q)
  by_cases neg : p5 < 0
  · have neg' : ¬ (0 : Int32) ≤ p5 := fun q => Int32.lt_irrefl (Int32.lt_of_lt_of_le neg q)
    refine cl_r (h := h) (g := g) (fl := fun H => f_Lw_swap H 1 (nI c) (nI y) (nI d) (nI z) p5 765) (fm := fun H => f_Model_swap H 755 (nI c) (nI y) (nI d) (nI z) p5) I (lw_swap_2 (H := uI h g) t ?_) (by decide) (fun h' g' t' x' => ⟨0, thr g' 2, ?_, thr_c, REF.thr⟩)
    · unfold f_Water_swap f_Water_swap_b0 f_Water_swap_b37
      rw [if_pos w1, (C_needC (x := 0) t e0 (by omega)).2 c hc, bX_l, if_pos w1, (C_needY (x := 0)).2 y hy, bX_l, if_pos w1, (C_needC (x := 0) t e0 (by omega)).2 d hd, bX_l, if_pos w1, (C_needY (x := 0)).2 z hz, bX_l, if_neg ncd, if_neg nyz, if_neg neg']
    · show f_Model_swap_b0 (uI h' g') 755 (nI c) (nI y) (nI d) (nI z) p5 = _
      unfold f_Model_swap_b0 f_Model_swap_b42 f_Model_swap_b66 f_Model_swap_b71
      rw [if_pos (s7 _ _ t'), wr_s, sI_u, (N_noC (x := 0) t'.td.1 (g := up2 g' 755 0 0) (n := nc (g 756)) (by rw [th_r (by decide), x' 756 (by decide)]; exact W.1.1) (by omega)).2 c hc, bI_s, if_pos rfl, (N_noY (x := 0)).2 y hy, bI_s, if_pos rfl, if_pos (s7 _ _ t'), (N_noC (x := 0) t'.td.1 (g := up2 g' 755 0 0) (n := nc (g 756)) (by rw [th_r (by decide), x' 756 (by decide)]; exact W.1.1) (by omega)).2 d hd, bI_s, if_pos rfl, (N_noY (x := 0)).2 z hz, bI_s, if_pos rfl, if_pos (s7 _ _ t'), N_thr0 t'.td.1, bI_s, if_pos rfl, if_neg ncd, if_neg nyz, if_neg neg', if_pos (s7 _ _ t'), N_thr1 t'.td.1, bI_s, if_neg (by decide)]
      rfl
  obtain ⟨n, hn, rfl⟩ := nI_of neg
  have Oc := W.okl hc
  have Od := W.okl hd
  have oc := Oc y hy
  have od := Od z hz
  obtain ⟨r1, r2, r3⟩ := R.2.1 c hc
  obtain ⟨s1, s2, s3⟩ := R.2.1 d hd
  obtain ⟨a1, a2, a3, a4, a5⟩ := (l9.iu (g := g)).cr (c := c) (by omega)
  obtain ⟨d1, d2, -, -, -⟩ := (l9.iu (g := g)).cr (c := d) (by omega)
  obtain ⟨-, b2, b3, b4⟩ := (l9.cs (c := c) (by omega)).un (g := g)
  obtain ⟨-, f2, f3, f4⟩ := (l9.cs (c := d) (by omega)).un (g := g)
  have sc : ∀ G, hS (uI h G) (569 + 6 + 2 * c) = 1 := fun G => a2
  have sd : ∀ G, hS (uI h G) (569 + 6 + 2 * d) = 1 := fun G => d2
  obtain ⟨g1, q1, q2, q3, q4, q5⟩ := C_swap (h := h) (g := g) (m := min n (min (ly (g 756) c y) (ly (g 756) d z))) l9 R W hc hd ecd hy hz (by omega) (by omega)
  have g6 : g1 756 = g 756 := q5 756 (by omega)
  rw [C_take (l9.cs (by omega)) hy, bV_s, C_take (l9.cs (by omega)) hz, bV_s, C_put (l9.cs (by omega)) hz, bV_s] at q1
  refine cl_l (h := h) (g := g) (fl := fun H => f_Lw_swap H 1 (nI c) (nI y) (nI d) (nI z) (nI n) 765) (fm := fun H => f_Model_swap H 755 (nI c) (nI y) (nI d) (nI z) (nI n)) (h1 := h) (g1 := g1) (v := nI (min n (min (ly (g 756) c y) (ly (g 756) d z)))) (lw_swap (H := uI h g) (H1 := uI h (g1)) t t ?_) t (fun h' t' => ?_) (by omega) (by omega)
  · unfold f_Water_swap f_Water_swap_b0
    rw [if_pos w1, (C_needC (x := 0) t e0 (by omega)).2 c hc, bX_l, if_pos w1, (C_needY (x := 0)).2 y hy, bX_l, if_pos w1, (C_needC (x := 0) t e0 (by omega)).2 d hd, bX_l, if_pos w1, (C_needY (x := 0)).2 z hz, bX_l, if_neg ncd, if_neg nyz, if_pos (nI_pos' hn), if_pos w1, w5, if_pos w6, a3, if_pos a4, a5, if_pos (ib_n (by omega) (by decide)), if_pos (ib_n (by omega) (by decide)), ix_n (by omega), ix_n (by omega), a1, if_pos a2, b2, if_pos b3, b4, if_pos (ib_n hy (by decide)), d1, if_pos d2, f2, if_pos f3, f4, if_pos (ib_n hz (by decide)), ix_n (by omega), ix_n (by omega), hI_u, r2 y hy, s2 z hz, oc.1, od.1, mn_n (by omega) (by omega), bI_s, mn_n (by omega) (by omega), bI_s, if_pos (sc _), C_take (l9.cs (by omega)) hy, bV_s, if_pos (sd _), C_take (l9.cs (by omega)) hz, bV_s, if_pos (sc _), C_put (l9.cs (by omega)) hz, bV_s, if_pos (sd _), q1, bV_s]
  · have gg : up2 g1 755 0 0 756 = g 756 := by rw [th_r (by decide)]; exact g6
    obtain ⟨u1, u2, u3, u4, v1, v2, v3, v4, v5, v6⟩ := N_swap (h := h') (m := min n (min (ly (g 756) c y) (ly (g 756) d z))) t'.td.1 W gg hc hd ecd hy hz (by omega) (by omega)
    have em : f_Model_swap_b0 (uI h' (g1)) 755 (nI c) (nI y) (nI d) (nI z) (nI n) = some (nI (min n (min (ly (g 756) c y) (ly (g 756) d z))), uI h' (u4)) := by
      unfold f_Model_swap_b0 f_Model_swap_b42 f_Model_swap_b71
      rw [if_pos (s7 _ _ t'), wr_s, sI_u, (N_noC (x := 0) t'.td.1 (g := up2 g1 755 0 0) (n := nc (g 756)) (by rw [th_r (by decide), g6]; exact W.1.1) (by omega)).2 c hc, bI_s, if_pos rfl, (N_noY (x := 0)).2 y hy, bI_s, if_pos rfl, if_pos (s7 _ _ t'), (N_noC (x := 0) t'.td.1 (g := up2 g1 755 0 0) (n := nc (g 756)) (by rw [th_r (by decide), g6]; exact W.1.1) (by omega)).2 d hd, bI_s, if_pos rfl, (N_noY (x := 0)).2 z hz, bI_s, if_pos rfl, if_pos (s7 _ _ t'), N_thr0 t'.td.1, bI_s, if_pos rfl, if_neg ncd, if_neg nyz, if_pos (nI_pos' hn), if_pos (s7 _ _ t'), N_thr0 t'.td.1, bI_s, if_pos rfl, if_pos (s7 _ _ t'), N_layer t'.td.1 (by omega) hy, bI_s, if_pos (s7 _ _ t'), N_layer t'.td.1 (by omega) hz, bI_s, gg, oc.1, od.1, mn_n (by omega) (by omega), bI_s, mn_n (by omega) (by omega), bI_s, if_pos (s7 _ _ t'), v1, bV_s, if_pos (s7 _ _ t'), v2, bV_s, if_pos (s7 _ _ t'), v3, bV_s, if_pos (s7 _ _ t'), v4, bV_s]
    refine ⟨u4, em, by rw [v6 755 (by decide)]; exact up_eq, I.go (g1 := g1) (by omega) (q3.mono (by omega)) q2 ?_ (FH.fa q5) v5 (fun r h1 h2 _ _ _ _ _ => by rw [v6 r h2, up_row h1]) (fun j hj => by rw [v6 755 (by decide), up_k (by omega)])⟩
    exact LR.congr (Lr.hi fun r hr => q5 r (by omega)) (q4 3 (by decide) (by decide) (by omega)) q4.hi
end U27
