/-! ===== winter, mix: the calls (wip/whole/gen/g81.py) ===== -/
section U31
variable {h h1 : Hp} {g g' g1 g2 : Nat → Nat → Int32} {w w' : Nat → Int32} {A B L S c d k n l y j m q s i F r z E N M M' o T : Nat} {v x a b p1 p2 p3 p4 p5 : Int32} {f p : Nat → Nat} {fl fm fw : Hp → Option (Int32 × Hp)} {P Q : Nat → Int32}
theorem jrem_n {a d : Nat} (ha : a < 2 ^ 31) (h0 : 0 < d) (hd : d < 2 ^ 31) : jrem (nI a) (nI d) = nI (a % d) := by
  unfold jrem
  exact pk_rem ha h0 hd
/-- what is drawn -/
theorem draw_n (hn : 0 < n) (hn2 : n < 2 ^ 20) : ∃ u, u < n ∧ jrem (drawV w) (nI n) = nI u := by
  obtain ⟨q, hq, e⟩ := pk_andE (jshr (drawW w 5) 16) (m := (32767 : Int32)) 15 (by decide)
  have e' : drawV w = nI q := e
  refine ⟨q % n, Nat.mod_lt _ hn, ?_⟩
  rw [e', jrem_n (by omega) hn (by omega)]
theorem drW_o (hk : k ≠ 5) : drawW w k = w k := up1_ne hk
theorem WF.dw (W : WF M w) : WF M (drawW w) ∧ CO w (drawW w) := ⟨W.s9 (by omega), fun k h1 _ _ => up1_ne (by omega)⟩
theorem C_draw (t : LDs h A) (R : RLa g A w) (B : WFb w) : f_Land_draw (uI h g) A = some (drawV w, uI h (up2 g A 11 (drawW w 5))) ∧ RLa (up2 g A 11 (drawW w 5)) A (drawW w) := by
  have s4 : ∀ g, hS (uI h g) A = 4 := fun g => t.1
  have e11 : g A 11 = w 5 := R.1.2.2.2.2.2.1
  have v5 : drawW w 5 = (1103515245 : Int32) * w 5 + 12345 := up1_eq
  refine ⟨?_, ?_⟩
  · unfold f_Land_draw f_Land_draw_b0
    rw [if_pos (s4 _), hI_u, e11, ← v5, wr_s, sI_u, hI_u, up_eq]
    rfl
  · rw [v5]
    exact R.s1 (k := 5) B (by omega)
theorem N_mix_L (t : TSr h) (W : WF M w) (hc : c < nc w) (hd : d < nc w) (e : d ≠ c) {T : Nat} (hT : T = min n (min (ms w c) (rm w d - ms w d))) (hn : n < 2 ^ 31) : ∀ (j i : Nat) (g : Nat → Nat → Int32), i + j = T → g 756 = mvW w c d i i → ∀ q,
    ∃ g', f_Model_mix_L61 (q + j + 1) (uI h g) 755 (nI c) (nI d) (nI n) (nI i) = some (nI T, uI h g') ∧ g' 756 = mvW w c d T T ∧ ∀ r, r ≠ 756 → g' r = g r := by
  have s7 : ∀ g, hS (uI h g) 755 = 11 := fun g => (t.iu (g := g)).1
  have h8 := W.2.1.1
  have Oc := W.okl hc
  have Od := W.okl hd
  have m9 := (W.2.2.2.2.2.1 c hc).ms_lt
  have md9 := (W.2.2.2.2.2.1 d hd).ms_lt
  have rr := (W.2.2.2.2.2.1 d hd).2.1
  have hms : ms w c = smN (ly w c) 30 := rfl
  have hmd : ms w d = smN (ly w d) 30 := rfl
  have MC : ∀ (i : Nat) (g : Nat → Nat → Int32), g 756 = mvW w c d i i → ∀ y, y < 30 → g 756 (70 + 35 * c + y) = nI (drN (ly w c) i y) := fun i g hg y hy => by rw [hg, mv_c hy]
  have MD : ∀ (i : Nat) (g : Nat → Nat → Int32), g 756 = mvW w c d i i → ∀ y, y < 30 → g 756 (70 + 35 * d + y) = nI (ly w d y + shF (ly w c) i y) := fun i g hg y hy => by rw [hg, mv_d e (by omega) hy, (Od y hy).1, nI_add]
  intro j
  induction j with
  | zero =>
    intro i g hi hg q
    have hi' : i = T := hi
    have E : f_Model_mix_L61 (q + 0 + 1) (uI h g) 755 (nI c) (nI d) (nI n) (nI i) = f_Model_mix_b61 (f_Model_mix_L61 q) (uI h g) 755 (nI c) (nI d) (nI n) (nI i) := rfl
    have fin : ∃ g', some (nI i, uI h g) = some (nI T, uI h g') ∧ g' 756 = mvW w c d T T ∧ ∀ r, r ≠ 756 → g' r = g r := ⟨g, by rw [hi'], by rw [← hi']; exact hg, fun _ _ => rfl⟩
    rw [E]
    unfold f_Model_mix_b61
    by_cases e1 : n ≤ i
    · rw [if_pos (nI_le e1 (by omega))]; exact fin
    rw [if_neg (nI_ge (by omega) hn), if_pos (s7 _), N_meas t (by omega) (MC i g hg), bI_s]
    have sm := drN_sum (f := ly w c) (n := i) (by omega)
    by_cases e2 : ms w c ≤ i
    · rw [if_pos (by rw [show smN (drN (ly w c) i) 30 = 0 from by omega]; decide)]; exact fin
    rw [if_neg (nI_nle (by omega) (by omega)), if_pos (s7 _), N_meas t (by omega) (MD i g hg), bI_s, if_pos (s7 _), show (0 : Int32) = nI 0 from rfl, N_of t (by omega) (by decide), bI_s, hg, mv_h (by decide), show 65 + 35 * d + 0 = 65 + 35 * d from rfl, rr.1, smN_add, shF_sum (by omega), if_pos (nI_le (by omega) (by omega))]
    exact fin
  | succ j ih =>
    intro i g hi hg q
    have E : f_Model_mix_L61 (q + (j + 1) + 1) (uI h g) 755 (nI c) (nI d) (nI n) (nI i) = f_Model_mix_b61 (f_Model_mix_L61 (q + j + 1)) (uI h g) 755 (nI c) (nI d) (nI n) (nI i) := rfl
    have sm := drN_sum (f := ly w c) (n := i) (by omega)
    have sd : smN (fun y => ly w d y + shF (ly w c) i y) 30 = ms w d + i := by rw [smN_add, shF_sum (by omega)]; rfl
    have T8 : tI d = nI d := if_pos (by omega)
    have dr := N_drop t (g := g) (c := c) (d := d) (f := drN (ly w c) i) (p := fun y => ly w d y + shF (ly w c) i y) (q := rm w d) (by omega) (MC i g hg) (fun y hy => Nat.le_trans drN_le (Oc y hy).2) (fun _ => ⟨e, fun y hy => MD i g hg y hy, by rw [hg, mv_h1]; exact rr.1, by omega, by omega⟩)
    rw [T8, if_pos ⟨by omega, by omega⟩] at dr
    rw [E]
    unfold f_Model_mix_b61
    rw [if_neg (nI_ge (by omega) (by omega)), if_pos (s7 _), N_meas t (by omega) (MC i g hg), bI_s, if_neg (nI_nle (by omega) (by omega)), if_pos (s7 _), N_meas t (by omega) (MD i g hg), bI_s, if_pos (s7 _), show (0 : Int32) = nI 0 from rfl, N_of t (by omega) (by decide), bI_s, sd]
    have g65 : g 756 (65 + 35 * d + 0) = nI (rm w d) := by rw [hg, mv_h (by decide)]; exact rr.1
    rw [g65, if_neg (nI_ge (by omega) (by omega)), if_pos (s7 _), dr, bV_s, nI_1]
    have fin : ∀ G, G 756 = mvW w c d (i + 1) (i + 1) → (∀ r, r ≠ 756 → G r = g r) → ∃ g', f_Model_mix_L61 (q + j + 1) (uI h G) 755 (nI c) (nI d) (nI n) (nI (i + 1)) = some (nI T, uI h g') ∧ g' 756 = mvW w c d T T ∧ ∀ r, r ≠ 756 → g' r = g r := by
      intro G x1 x2
      obtain ⟨g', z1, z2, z3⟩ := ih (i + 1) G (by omega) x1 q
      exact ⟨g', z1, z2, fun r hr => (z3 r hr).trans (x2 r hr)⟩
    refine fin _ ?_ (fun r hr => by rw [up_row hr, up_row hr])
    rw [up2_row, up2_row, hg]
    exact mv_in (by omega) (by omega) e
theorem mv_co (hc : c < 8) (hd : d < 8) : CO w (mvW w c d m m) := fun k h1 h2 _ => mv_o (by omega) (by omega) (by omega)
theorem WF.mx (W : WF M w) (hc : c < nc w) (hd : d < nc w) (e : d ≠ c) (h1 : m ≤ ms w c) (h2 : m ≤ rm w d - ms w d) : WF M (mvW w c d m m) := by
  have h8 := W.2.1.1
  exact W.co (mv_co (by omega) (by omega)) fun c' hc' => (W.2.2.2.2.2.1 c hc).mv (fun _ => ⟨e, W.2.2.2.2.2.1 d hd⟩) (by omega) h1 (Nat.le_refl _) (fun _ => h2) (W.2.2.2.2.2.1 c' hc')
theorem sp_winter (hM : M < 2 ^ 30) : LSp M (fun H => f_Lw_winter H 1 p1 765) (fun H => f_Model_winter H 755 p1) := by
  intro H I
  obtain ⟨h, g, rfl⟩ : ∃ h g, H = uI h g := ⟨H, hI H, rfl⟩
  have I : INV M h g := I
  obtain ⟨t, W, R, Lr, e0, e1, e2, n8, nh8, nd8⟩ := I.us
  obtain ⟨⟨w1, wr0, wr1, wr2, wr3, w5, wr5, wr6, wr7, wr8, wr9⟩, w6, w7⟩ := WTR (g := g) t
  have s7 : ∀ (h : Hp) (g : Nat → Nat → Int32), TS h → hS (uI h g) 755 = 11 := fun h g t => t.td.1.1
  have s56 : ∀ (h : Hp) (g : Nat → Nat → Int32), TS h → hR (uI h g) 755 1 = 756 ∧ hS (uI h g) 756 = 20 ∧ hL (uI h g) 756 = 2291 := fun h g t => ⟨t.td.1.2.1.1, t.td.1.2.2.1.1, t.td.1.2.2.1.2⟩
  have l9 := t.l9
  by_cases lo : p1 < 1
  · refine cl_r (h := h) (g := g) (fl := fun H => f_Lw_winter H 1 p1 765) (fm := fun H => f_Model_winter H 755 p1) I (lw_winter_2 (H := uI h g) t ?_) (by decide) (fun h' g' t' x' => ⟨0, thr g' 1, ?_, thr_c, REF.thr⟩)
    · unfold f_Water_winter f_Water_winter_b0 f_Water_winter_b12
      rw [if_pos lo]
    · show f_Model_winter_b0 (uI h' g') 755 p1 = _
      unfold f_Model_winter_b0 f_Model_winter_b22
      rw [if_pos (s7 _ _ t'), wr_s, sI_u, N_in, bI_s, if_pos lo, if_pos rfl, if_pos (s7 _ _ t'), N_thr1 t'.td.1, bI_s, if_neg (by decide)]
      rfl
  by_cases hi : p1 ≤ 999
  · obtain ⟨n, hn, rfl⟩ := nI_of2 (x := p1) (M := 999) (n := 999) rfl (fun z => lo (Int32.lt_trans z (by decide))) hi
    have hi' : ¬ (999 : Int32) < nI n := fun q => Int32.lt_irrefl (Int32.lt_of_lt_of_le q hi)
    have n0 : 0 < n := Nat.pos_of_ne_zero fun z => lo (by rw [z]; decide)
    have ne0 : ¬ nI n = 0 := nI_ne0 n0 (by omega)
    obtain ⟨u, hu, eu⟩ := draw_n (w := g 756) n0 (by omega)
    obtain ⟨c1, c2⟩ := C_draw l9 R W.2.1
    obtain ⟨Wd, Cd⟩ := W.dw
    obtain ⟨g1, q1, q2, q3⟩ := C_fill (n := u + 1) l9 (by decide) Wd hM c2 (by omega)
    have g6 : g1 756 = g 756 := by rw [q3 756 (by omega), up_row (by omega)]
    have fk := fn_ok (w := drawW (g 756)) (c := 0) (j := nc (drawW (g 756))) (by omega)
    obtain ⟨Wn, Cn⟩ := Wd.wi (n := u + 1) hM fk
    have s4 : ∀ G, hS (uI h G) 569 = 4 := fun G => w6
    refine cl_l (h := h) (g := g) (fl := fun H => f_Lw_winter H 1 (nI n) 765) (fm := fun H => f_Model_winter H 755 (nI n)) (h1 := h) (g1 := g1) (v := tI (fnW (drawW (g 756)) (nc (drawW (g 756))) 0)) (lw_winter (H := uI h g) (H1 := uI h (g1)) t t ?_) t (fun h' t' => ?_) (by omega) (by omega)
    · unfold f_Water_winter f_Water_winter_b0
      rw [if_neg lo, if_pos hi, if_pos w1, w5, if_pos w6, c1, bI_s, if_pos ne0, if_pos (s4 _), eu, nI_1, q1, bI_s]
    · have gg : up2 g1 755 0 0 756 = g 756 := by rw [th_r (by decide)]; exact g6
      have gd : up2 (up2 g1 755 0 0) 756 5 (drawW (g 756) 5) 756 = drawW (g 756) := by
        rw [up2_row, gg]
        have v5 : drawW (g 756) 5 = (1103515245 : Int32) * g 756 5 + 12345 := up1_eq
        rw [v5]
        rfl
      have nd := N_draw (g := up2 g1 755 0 0) (v := nI n) t'.td.1 ne0
      rw [gg, eu] at nd
      obtain ⟨g2, z1, z2, z3⟩ := N_win (h := h') (n := u + 1) t'.td.1 Wd hM gd (by omega)
      have em : f_Model_winter_b0 (uI h' (g1)) 755 (nI n) = some (tI (fnW (drawW (g 756)) (nc (drawW (g 756))) 0), uI h' (g2)) := by
        unfold f_Model_winter_b0 f_Model_winter_b22
        rw [if_pos (s7 _ _ t'), wr_s, sI_u, N_in, bI_s, if_neg lo, if_neg hi', if_neg (by decide), if_pos (s7 _ _ t'), N_thr0 t'.td.1, bI_s, if_pos rfl, if_pos (s7 _ _ t'), nd, bI_s, if_pos (s7 _ _ t'), nI_1, z1, bI_s]
      refine ⟨g2, em, by rw [z3 755 (by decide), up_row (by decide)]; exact up_eq, I.go (g1 := g1) (by omega) (Wn.mono (by omega)) q2 ?_ (FH.fa (FA.tr (fun r hr => up_row (by omega)) q3)) z2 (fun r h1 h2 _ _ _ _ _ => by rw [z3 r h2, up_row h2, up_row h1]) (fun j hj => by rw [z3 755 (by decide), up_row (by decide), up_k (by omega)])⟩
      have CC := Cd.tr Cn
      exact LR.congr (Lr.hi fun r hr => by rw [q3 r (by omega), up_row (by omega)]) (CC 3 (by decide) (by decide) (by omega)) CC.hi
  · have hi' : (999 : Int32) < p1 := Int32.not_le.mp hi
    refine cl_r (h := h) (g := g) (fl := fun H => f_Lw_winter H 1 p1 765) (fm := fun H => f_Model_winter H 755 p1) I (lw_winter_2 (H := uI h g) t ?_) (by decide) (fun h' g' t' x' => ⟨0, thr g' 1, ?_, thr_c, REF.thr⟩)
    · unfold f_Water_winter f_Water_winter_b0 f_Water_winter_b12
      rw [if_neg lo, if_neg hi]
    · show f_Model_winter_b0 (uI h' g') 755 p1 = _
      unfold f_Model_winter_b0 f_Model_winter_b22
      rw [if_pos (s7 _ _ t'), wr_s, sI_u, N_in, bI_s, if_neg lo, if_pos hi', if_pos rfl, if_pos (s7 _ _ t'), N_thr1 t'.td.1, bI_s, if_neg (by decide)]
      rfl
theorem sp_mix : LSp M (fun H => f_Lw_mix H 1 p1 p2 p3 765) (fun H => f_Model_mix H 755 p1 p2 p3) := by
  intro H I
  obtain ⟨h, g, rfl⟩ : ∃ h g, H = uI h g := ⟨H, hI H, rfl⟩
  have I : INV M h g := I
  obtain ⟨t, W, R, Lr, e0, e1, e2, n8, nh8, nd8⟩ := I.us
  obtain ⟨⟨w1, wr0, wr1, wr2, wr3, w5, wr5, wr6, wr7, wr8, wr9⟩, w6, w7⟩ := WTR (g := g) t
  have s7 : ∀ (h : Hp) (g : Nat → Nat → Int32), TS h → hS (uI h g) 755 = 11 := fun h g t => t.td.1.1
  have s56 : ∀ (h : Hp) (g : Nat → Nat → Int32), TS h → hR (uI h g) 755 1 = 756 ∧ hS (uI h g) 756 = 20 ∧ hL (uI h g) 756 = 2291 := fun h g t => ⟨t.td.1.2.1.1, t.td.1.2.2.1.1, t.td.1.2.2.1.2⟩
  have l9 := t.l9
  rcases bad_or p1 (n := nc (g 756)) (by omega) with bd | ⟨c, hc, rfl⟩
  · refine cl_r (h := h) (g := g) (fl := fun H => f_Lw_mix H 1 p1 p2 p3 765) (fm := fun H => f_Model_mix H 755 p1 p2 p3) I (lw_mix_1 (H := uI h g) t ?_) (by decide) (fun h' g' t' x' => ⟨0, thr g' 1, ?_, thr_c, REF.thr⟩)
    · unfold f_Water_mix f_Water_mix_b0
      rw [if_pos w1, (C_needC t e0 (by omega)).1 bd, bX_r]
    · show f_Model_mix_b0 (uI h' g') 755 p1 p2 p3 = _
      unfold f_Model_mix_b0 f_Model_mix_b22 f_Model_mix_b27
      rw [if_pos (s7 _ _ t'), wr_s, sI_u, (N_noC t'.td.1 (g := up2 g' 755 0 0) (n := nc (g 756)) (by rw [th_r (by decide), x' 756 (by decide)]; exact W.1.1) (by omega)).1 bd, bI_s, if_neg (by decide), if_pos (s7 _ _ t'), N_thr1 t'.td.1, bI_s, if_neg (by decide)]
      rfl
  rcases bad_or p2 (n := nc (g 756)) (by omega) with bd | ⟨d, hd, rfl⟩
  · refine cl_r (h := h) (g := g) (fl := fun H => f_Lw_mix H 1 (nI c) p2 p3 765) (fm := fun H => f_Model_mix H 755 (nI c) p2 p3) I (lw_mix_1 (H := uI h g) t ?_) (by decide) (fun h' g' t' x' => ⟨0, thr g' 1, ?_, thr_c, REF.thr⟩)
    · unfold f_Water_mix f_Water_mix_b0
      rw [if_pos w1, (C_needC (x := 0) t e0 (by omega)).2 c hc, bX_l, if_pos w1, (C_needC t e0 (by omega)).1 bd, bX_r]
    · show f_Model_mix_b0 (uI h' g') 755 (nI c) p2 p3 = _
      unfold f_Model_mix_b0 f_Model_mix_b22 f_Model_mix_b27
      rw [if_pos (s7 _ _ t'), wr_s, sI_u, (N_noC (x := 0) t'.td.1 (g := up2 g' 755 0 0) (n := nc (g 756)) (by rw [th_r (by decide), x' 756 (by decide)]; exact W.1.1) (by omega)).2 c hc, bI_s, if_pos rfl, if_pos (s7 _ _ t'), (N_noC t'.td.1 (g := up2 g' 755 0 0) (n := nc (g 756)) (by rw [th_r (by decide), x' 756 (by decide)]; exact W.1.1) (by omega)).1 bd, bI_s, if_neg (by decide), if_pos (s7 _ _ t'), N_thr1 t'.td.1, bI_s, if_neg (by decide)]
      rfl
  by_cases ecd : c = d
  · refine cl_r (h := h) (g := g) (fl := fun H => f_Lw_mix H 1 (nI c) (nI d) p3 765) (fm := fun H => f_Model_mix H 755 (nI c) (nI d) p3) I (lw_mix_2 (H := uI h g) t ?_) (by decide) (fun h' g' t' x' => ⟨0, thr g' 2, ?_, thr_c, REF.thr⟩)
    · unfold f_Water_mix f_Water_mix_b0 f_Water_mix_b19
      rw [if_pos w1, (C_needC (x := 0) t e0 (by omega)).2 c hc, bX_l, if_pos w1, (C_needC (x := 0) t e0 (by omega)).2 d hd, bX_l, if_pos (congrArg nI ecd)]
    · show f_Model_mix_b0 (uI h' g') 755 (nI c) (nI d) p3 = _
      unfold f_Model_mix_b0 f_Model_mix_b27 f_Model_mix_b44 f_Model_mix_b49
      rw [if_pos (s7 _ _ t'), wr_s, sI_u, (N_noC (x := 0) t'.td.1 (g := up2 g' 755 0 0) (n := nc (g 756)) (by rw [th_r (by decide), x' 756 (by decide)]; exact W.1.1) (by omega)).2 c hc, bI_s, if_pos rfl, if_pos (s7 _ _ t'), (N_noC (x := 0) t'.td.1 (g := up2 g' 755 0 0) (n := nc (g 756)) (by rw [th_r (by decide), x' 756 (by decide)]; exact W.1.1) (by omega)).2 d hd, bI_s, if_pos rfl, if_pos (s7 _ _ t'), N_thr0 t'.td.1, bI_s, if_pos rfl, if_pos (congrArg nI ecd), if_pos (s7 _ _ t'), N_thr1 t'.td.1, bI_s, if_neg (by decide)]
      rfl
  have ncd : ¬ nI c = nI d := fun z => ecd ((nI_eq (by omega) (by omega)).mp z)
  by_cases neg : p3 < 0
  · have neg' : ¬ (0 : Int32) ≤ p3 := fun q => Int32.lt_irrefl (Int32.lt_of_lt_of_le neg q)
    refine cl_r (h := h) (g := g) (fl := fun H => f_Lw_mix H 1 (nI c) (nI d) p3 765) (fm := fun H => f_Model_mix H 755 (nI c) (nI d) p3) I (lw_mix_2 (H := uI h g) t ?_) (by decide) (fun h' g' t' x' => ⟨0, thr g' 2, ?_, thr_c, REF.thr⟩)
    · unfold f_Water_mix f_Water_mix_b0 f_Water_mix_b19
      rw [if_pos w1, (C_needC (x := 0) t e0 (by omega)).2 c hc, bX_l, if_pos w1, (C_needC (x := 0) t e0 (by omega)).2 d hd, bX_l, if_neg ncd, if_neg neg']
    · show f_Model_mix_b0 (uI h' g') 755 (nI c) (nI d) p3 = _
      unfold f_Model_mix_b0 f_Model_mix_b27 f_Model_mix_b44 f_Model_mix_b49
      rw [if_pos (s7 _ _ t'), wr_s, sI_u, (N_noC (x := 0) t'.td.1 (g := up2 g' 755 0 0) (n := nc (g 756)) (by rw [th_r (by decide), x' 756 (by decide)]; exact W.1.1) (by omega)).2 c hc, bI_s, if_pos rfl, if_pos (s7 _ _ t'), (N_noC (x := 0) t'.td.1 (g := up2 g' 755 0 0) (n := nc (g 756)) (by rw [th_r (by decide), x' 756 (by decide)]; exact W.1.1) (by omega)).2 d hd, bI_s, if_pos rfl, if_pos (s7 _ _ t'), N_thr0 t'.td.1, bI_s, if_pos rfl, if_neg ncd, if_neg neg', if_pos (s7 _ _ t'), N_thr1 t'.td.1, bI_s, if_neg (by decide)]
      rfl
  obtain ⟨n, hn, rfl⟩ := nI_of neg
  have edc : d ≠ c := fun z => ecd z.symm
  obtain ⟨r1, r2, r3⟩ := R.2.1 c hc
  obtain ⟨s1, s2, s3⟩ := R.2.1 d hd
  have rr := (W.2.2.2.2.2.1 d hd).2.1
  have m9 := (W.2.2.2.2.2.1 c hc).ms_lt
  have md9 := (W.2.2.2.2.2.1 d hd).ms_lt
  have s0 : g (569 + 6 + 2 * d) 0 = nI (rm (g 756) d) := by have : g (569 + 6 + 2 * d) 0 = g 756 (65 + 35 * d) := s1 0 (by decide); exact this.trans rr.1
  obtain ⟨a1, a2, a3, a4, a5⟩ := (l9.iu (g := g)).cr (c := c) (by omega)
  obtain ⟨d1, d2, -, -, -⟩ := (l9.iu (g := g)).cr (c := d) (by omega)
  have ca8 : ca 569 d = 569 + 6 + 2 * d := if_pos (by omega)
  obtain ⟨g1, q1, q2, q3⟩ := C_drip (n := min n (min (ms (g 756) c) (rm (g 756) d - ms (g 756) d))) l9 (by decide) R W.wn hc d (fun _ => ⟨hd, edc⟩) (by omega)
  rw [ca8] at q1
  rw [if_pos (show d < 8 by omega), show min (min n (min (ms (g 756) c) (rm (g 756) d - ms (g 756) d))) (ms (g 756) c) = min n (min (ms (g 756) c) (rm (g 756) d - ms (g 756) d)) from by omega, show min (min n (min (ms (g 756) c) (rm (g 756) d - ms (g 756) d))) (rm (g 756) d - ms (g 756) d) = min n (min (ms (g 756) c) (rm (g 756) d - ms (g 756) d)) from by omega] at q2
  have g6 : g1 756 = g 756 := q3 756 (by omega)
  have W' := W.mx (m := min n (min (ms (g 756) c) (rm (g 756) d - ms (g 756) d))) hc hd edc (by omega) (by omega)
  have CC := mv_co (w := g 756) (c := c) (d := d) (m := min n (min (ms (g 756) c) (rm (g 756) d - ms (g 756) d))) (by omega) (by omega)
  have rm8 : min n (min (ms (g 756) c) (rm (g 756) d - ms (g 756) d)) < 1000000 := by omega
  refine cl_l (h := h) (g := g) (fl := fun H => f_Lw_mix H 1 (nI c) (nI d) (nI n) 765) (fm := fun H => f_Model_mix H 755 (nI c) (nI d) (nI n)) (h1 := h) (g1 := g1) (v := nI (min n (min (ms (g 756) c) (rm (g 756) d - ms (g 756) d)))) (lw_mix (H := uI h g) (H1 := uI h (g1)) t t ?_) t (fun h' t' => ?_) (by omega) (by omega)
  · unfold f_Water_mix f_Water_mix_b0
    rw [if_pos w1, (C_needC (x := 0) t e0 (by omega)).2 c hc, bX_l, if_pos w1, (C_needC (x := 0) t e0 (by omega)).2 d hd, bX_l, if_neg ncd, if_pos (nI_pos' hn), if_pos w1, w5, if_pos w6, a3, if_pos a4, a5, if_pos (ib_n (by omega) (by decide)), if_pos (ib_n (by omega) (by decide)), ix_n (show c < 2 ^ 31 by omega), ix_n (show d < 2 ^ 31 by omega), a1, if_pos a2, d1, if_pos d2, C_free (l9.cs (by omega)) s0 s3 (by omega) (by omega), bI_s, hI_u, r3, mn_n (by omega) (by omega), bI_s, mn_n (by omega) (by omega), bI_s, if_pos w1, w5, if_pos w6, q1, bV_s]
  · have gg : up2 g1 755 0 0 756 = g 756 := by rw [th_r (by decide)]; exact g6
    obtain ⟨g2, z1, z2, z3⟩ := N_mix_L (h := h') (n := n) t'.td.1 W hc hd edc rfl hn (min n (min (ms (g 756) c) (rm (g 756) d - ms (g 756) d))) 0 (up2 g1 755 0 0) (by omega) (by rw [gg, mv_00 (W.okl hc) (fun _ => edc)]) (999999 - min n (min (ms (g 756) c) (rm (g 756) d - ms (g 756) d)))
    have em : f_Model_mix_b0 (uI h' (g1)) 755 (nI c) (nI d) (nI n) = some (nI (min n (min (ms (g 756) c) (rm (g 756) d - ms (g 756) d))), uI h' (g2)) := by
      unfold f_Model_mix_b0 f_Model_mix_b27 f_Model_mix_b49
      rw [if_pos (s7 _ _ t'), wr_s, sI_u, (N_noC (x := 0) t'.td.1 (g := up2 g1 755 0 0) (n := nc (g 756)) (by rw [th_r (by decide), g6]; exact W.1.1) (by omega)).2 c hc, bI_s, if_pos rfl, if_pos (s7 _ _ t'), (N_noC (x := 0) t'.td.1 (g := up2 g1 755 0 0) (n := nc (g 756)) (by rw [th_r (by decide), g6]; exact W.1.1) (by omega)).2 d hd, bI_s, if_pos rfl, if_pos (s7 _ _ t'), N_thr0 t'.td.1, bI_s, if_pos rfl, if_neg ncd, if_pos (nI_pos' hn), if_pos (s7 _ _ t'), N_thr0 t'.td.1, bI_s, if_pos rfl, FU_mm rm8, show (0 : Int32) = nI 0 from rfl]
      exact z1
    refine ⟨g2, em, by rw [z3 755 (by decide)]; exact up_eq, I.go (g1 := g1) (by omega) (W'.mono (by omega)) q2 ?_ (FH.fa q3) z2 (fun r h1 h2 _ _ _ _ _ => by rw [z3 r h2, up_row h1]) (fun j hj => by rw [z3 755 (by decide), up_k (by omega)])⟩
    exact LR.congr (Lr.hi fun r hr => q3 r (by omega)) (CC 3 (by decide) (by decide) (by omega)) CC.hi
end U31
