/-! ===== winters ===== -/
section U30
variable {h h1 : Hp} {g g' g1 g2 : Nat → Nat → Int32} {w w' : Nat → Int32} {A B L S c d k n l y j m q s i F r z E N M M' o T : Nat} {v x a b p1 p2 p3 p4 p5 : Int32} {f p : Nat → Nat} {fl fm fw : Hp → Option (Int32 × Hp)} {P Q : Nat → Int32}
theorem RLa.s1 (R : RLa g A w) (B : WFb w) (hk : 5 ≤ k ∧ k ≤ 9) : RLa (up2 g A (k + 6) v) A (up1 w k v) := by
  refine R.sca B (fun r _ _ h1 _ => up_row h1) (fun j hj => up1_ne (by omega)) ?_
  obtain ⟨s0, s1, s2, s3, s4, s5, s6, s7, s8, s9⟩ := R.1
  have e : ∀ j, j ≠ k → up1 w k v j = w j := fun j hj => up1_ne hj
  have f : ∀ j, j ≠ k + 6 → up2 g A (k + 6) v A j = g A j := fun j hj => up_k hj
  have G : ∀ j, 5 ≤ j → j ≤ 9 → g A (j + 6) = w j → up2 g A (k + 6) v A (j + 6) = up1 w k v j := fun j h1 h2 h3 => by
    by_cases q : j = k
    · rw [q, up_eq, up1_eq]
    · rw [f _ (by omega), e _ q]; exact h3
  refine ⟨?_, ?_, ?_, ?_, ?_, G 5 (by decide) (by decide) s5, G 6 (by decide) (by decide) s6, G 7 (by decide) (by decide) s7, G 8 (by decide) (by decide) s8, G 9 (by decide) (by decide) s9⟩
  · rw [f 0 (by omega), e 0 (by omega)]; exact s0
  · rw [f 1 (by omega), e 1 (by omega)]; exact s1
  · rw [f 2 (by omega), e 10 (by omega)]; exact s2
  · rw [f 9 (by omega), e 2 (by omega)]; exact s3
  · rw [f 10 (by omega), e 4 (by omega)]; exact s4
theorem up_comm {u : Int32} (e : j ≠ k) : up1 (up1 w j u) k v = up1 (up1 w k v) j u := by
  funext i
  by_cases e1 : i = k
  · rw [e1, up1_eq, up1_ne (by omega), up1_eq]
  · rw [up1_ne e1]
    by_cases e2 : i = j
    · rw [e2, up1_eq, up1_eq]
    · rw [up1_ne e2, up1_ne e2, up1_ne e1]
/-- the year now, as a number -/
def nowN (w : Nat → Int32) : Nat := min 29 (ix (w 4) / 12)
theorem now_n (W : WF M w) (hM : M < 2 ^ 30) : nowW w = nI (nowN w) ∧ nowN w < 30 := by
  obtain ⟨u, U1, U2⟩ := W.2.2.2.1
  have e : ix (w 4) = u := ix_b U1 (by omega)
  have d : w 4 / 12 = nI (u / 12) := by rw [U1, show (12 : Int32) = nI 12 from rfl, pk_div (by omega) (by decide) (by decide)]
  unfold nowW nowN
  rw [d, e]
  refine ⟨?_, by omega⟩
  rw [show (29 : Int32) = nI 29 from rfl]
  by_cases q : u / 12 < 29
  · rw [if_pos (nI_lt (b := 29) q (by decide)), Nat.min_eq_right (by omega)]
  · rw [if_neg (nI_nlt (b := 29) (by omega) (by omega)), Nat.min_eq_left (by omega)]
def ftW (w : Nat → Int32) (c n : Nat) : Nat := if c < 8 then min n (rm w c - ms w c) else 0
/-- n measures of y are poured into c (8: nowhere) -/
def poW (w : Nat → Int32) (c y n : Nat) : Nat → Int32 := up1 (up1 (if c < 8 then gvW w c y (ftW w c n) else w) 7 (w 7 + nI (n - ftW w c n))) 8 (w 8 + nI n)
theorem N_po38 (t : TSr h) (hs : s ≤ n) : ∃ g', f_Model_pours_b38 (uI h g) 755 (nI n) (nI s) = some (uI h g') ∧ g' 756 = up1 (up1 (g 756) 7 (g 756 7 + nI (n - s))) 8 (g 756 8 + nI n) ∧ ∀ r, r ≠ 756 → g' r = g r := by
  have s7 : ∀ g, hS (uI h g) 755 = 11 := fun g => (t.iu (g := g)).1
  have c1 : ∀ g, hR (uI h g) 755 1 = 756 := fun g => t.2.1.1
  have c2 : ∀ g, hS (uI h g) 756 = 20 := fun g => t.2.2.1.1
  have c3 : ∀ g, hL (uI h g) 756 = 2291 := fun g => t.2.2.1.2
  unfold f_Model_pours_b38
  rw [if_pos (s7 _), c1, if_pos (c2 _), c3, show (7 : Int32) = nI 7 from rfl, if_pos (ib_n (by decide) (by decide)), if_pos (ib_n (by decide) (by decide)), ix_n (show 7 < 2 ^ 31 by decide), hI_u, pk_sub hs, wr_s, sI_u, c1, if_pos (c2 _), c3, show (8 : Int32) = nI 8 from rfl, if_pos (ib_n (by decide) (by decide)), if_pos (ib_n (by decide) (by decide)), ix_n (show 8 < 2 ^ 31 by decide), hI_u, up_k (by decide), wr_s, sI_u]
  exact ⟨_, rfl, by rw [up2_row, up2_row], fun r hr => by rw [up_row hr, up_row hr]⟩
theorem N_pours (t : TSr h) (hg : g 756 = w) (W : WF M w) (hc : c = 8 ∨ c < nc w) (hy : y < 30) (hn : n < 2 ^ 20) : ∃ g', f_Model_pours (uI h g) 755 (tI c) (nI y) (nI n) = some (uI h g') ∧ g' 756 = poW w c y n ∧ ∀ r, r ≠ 756 → g' r = g r := by
  have s7 : ∀ g, hS (uI h g) 755 = 11 := fun g => (t.iu (g := g)).1
  have h8 := W.2.1.1
  unfold f_Model_pours f_Model_pours_b0 f_Model_pours_b24
  by_cases e : c < 8
  · have hc' : c < nc w := by omega
    have T : tI c = nI c := if_pos e
    have F : ftW w c n = min n (rm w c - ms w c) := if_pos e
    have rr := W.room hc'
    have r9 := (W.2.2.2.2.2.1 c hc').2.1
    obtain ⟨g1, p1, p2, p3⟩ := N_give (s := ftW w c n) t hg (W.okl hc') (by omega) hy
    obtain ⟨g2, k1, k2, k3⟩ := N_po38 (g := g1) (n := n) (s := ftW w c n) t (by rw [F]; omega)
    rw [T, if_pos (nI_pos' (by omega)), if_pos (s7 _), show (0 : Int32) = nI 0 from rfl, N_of t (by omega) (by decide), bI_s, if_pos (s7 _), N_ms t (by omega) hg (W.okl hc'), bI_s, hg, show 65 + 35 * c + 0 = 65 + 35 * c from rfl, r9.1, pk_sub rr, mn_n (by omega) (by omega), bI_s, if_neg (show ¬ nI c < nI 0 from nI_pos (by omega)), if_pos (s7 _), ← F, p1, bV_s, k1]
    refine ⟨g2, rfl, ?_, fun r hr => by rw [k3 r hr, p3 r hr]⟩
    rw [k2, p2, gv_lo (by decide), gv_lo (by decide)]
    unfold poW
    rw [if_pos e]
  · have T : tI c = -1 := if_neg e
    have F : ftW w c n = 0 := if_neg e
    obtain ⟨g2, k1, k2, k3⟩ := N_po38 (g := g) (n := n) (s := 0) t (Nat.zero_le _)
    rw [T, if_neg (by decide), if_pos (by decide), show (0 : Int32) = nI 0 from rfl, k1]
    refine ⟨g2, rfl, ?_, k3⟩
    rw [k2, hg]
    unfold poW
    rw [if_neg e, F]
theorem po_co (hc : c = 8 ∨ c < nc w) (h8 : nc w ≤ 8) (hy : y < 30) : CO w (poW w c y n) := fun k h1 h2 _ => by
  unfold poW
  rw [up1_ne (by omega), up1_ne (by omega)]
  split
  · exact up1_ne (by omega)
  · rfl
theorem WF.po (W : WF M w) (hc : c = 8 ∨ c < nc w) (hy : y < 30) : WF M (poW w c y n) := by
  have h8 := W.2.1.1
  unfold poW
  refine WF.s9 (WF.s9 ?_ (by omega)) (by omega)
  by_cases e : c < 8
  · rw [if_pos e]
    have rr := W.room (c := c) (by omega)
    refine W.gv (by omega) hy ?_
    unfold ftW
    rw [if_pos e]
    omega
  · rw [if_neg e]; exact W
/-- the first cistern that is empty and not sealed; 8: none -/
def fnW (w : Nat → Int32) : Nat → Nat → Nat
  | 0, _ => 8
  | j + 1, c => if ms w c = 0 ∧ w (67 + 35 * c) = 0 then c else fnW w j (c + 1)
theorem fn_ok (hc : c + j = nc w) : fnW w j c = 8 ∨ fnW w j c < nc w := by
  induction j generalizing c with
  | zero => exact Or.inl rfl
  | succ j ih =>
    unfold fnW
    split
    · right; omega
    · exact ih (by omega)
def wiW (w : Nat → Int32) (c n : Nat) : Nat → Int32 := if c < 8 then up1 (poW w c (nowN w) n) (67 + 35 * c) 1 else poW w c (nowN w) n
theorem WF.wi (W : WF M w) (hM : M < 2 ^ 30) (hc : c = 8 ∨ c < nc w) : WF M (wiW w c n) ∧ CO w (wiW w c n) := by
  have h8 := W.2.1.1
  have ny := (now_n W hM).2
  have x := po_co (n := n) hc h8 ny
  have W1 := W.po (n := n) hc ny
  unfold wiW
  by_cases e : c < 8
  · rw [if_pos e]
    exact ⟨W1.sl (by rw [x.nc]; omega) (Or.inr rfl), x.tr fun k _ h2 _ => up1_ne (by omega)⟩
  · rw [if_neg e]; exact ⟨W1, x⟩
theorem N_win45 (t : TSr h) (hg : g 756 = w) (W : WF M w) (hM : M < 2 ^ 30) (hc : c = 8 ∨ c < nc w) (hn : n < 2 ^ 20) : ∃ g', f_Model_winters_b45 (uI h g) 755 (nI n) (tI c) = some (tI c, uI h g') ∧ g' 756 = wiW w c n ∧ ∀ r, r ≠ 756 → g' r = g r := by
  have s7 : ∀ g, hS (uI h g) 755 = 11 := fun g => (t.iu (g := g)).1
  have h8 := W.2.1.1
  obtain ⟨n1, n2⟩ := now_n W hM
  obtain ⟨g1, p1, p2, p3⟩ := N_pours (n := n) t hg W hc n2 hn
  unfold f_Model_winters_b45 wiW
  rw [if_pos (s7 _), N_now t, bI_s, hg, n1, if_pos (s7 _), p1, bV_s]
  by_cases e : c < 8
  · have T : tI c = nI c := if_pos e
    rw [T, if_neg (nI_pos (by omega)), if_pos (s7 _), show (2 : Int32) = nI 2 from rfl, N_sets t (by omega) (by decide), bV_s, if_pos e, show 65 + 35 * c + 2 = 67 + 35 * c from by omega]
    exact ⟨_, rfl, by rw [up2_row, p2], fun r hr => by rw [up_row hr, p3 r hr]⟩
  · have T : tI c = -1 := if_neg e
    rw [T, if_pos (by decide), if_neg e]
    exact ⟨g1, rfl, p2, p3⟩
theorem N_win_L (t : TSr h) (W : WF M w) (hM : M < 2 ^ 30) (hg : g 756 = w) (hn : n < 2 ^ 20) : ∀ (j c : Nat), c + j = nc w → ∀ q, ∃ g', f_Model_winters_L4 (q + j + 2) (uI h g) 755 (nI n) (-1) (nI c) = some (tI (fnW w j c), uI h g') ∧ g' 756 = wiW w (fnW w j c) n ∧ ∀ r, r ≠ 756 → g' r = g r := by
  have s7 : ∀ g, hS (uI h g) 755 = 11 := fun g => (t.iu (g := g)).1
  have h8 := W.2.1.1
  intro j
  induction j with
  | zero =>
    intro c hc q
    have hc' : c = nc w := hc
    have E : f_Model_winters_L4 (q + 0 + 2) (uI h g) 755 (nI n) (-1) (nI c) = f_Model_winters_b4 (f_Model_winters_L4 (q + 1)) (uI h g) 755 (nI n) (-1) (nI c) := rfl
    rw [E]
    unfold f_Model_winters_b4
    rw [if_pos (s7 _), N_cis t, bI_s, hg, W.1.1, ← hc', if_pos (Int32.le_refl _)]
    exact N_win45 (c := 8) t hg W hM (Or.inl rfl) hn
  | succ j ih =>
    intro c hc q
    have E : f_Model_winters_L4 (q + (j + 1) + 2) (uI h g) 755 (nI n) (-1) (nI c) = f_Model_winters_b4 (f_Model_winters_L4 (q + j + 2)) (uI h g) 755 (nI n) (-1) (nI c) := rfl
    have hc0 : c < nc w := by omega
    have Wc := W.2.2.2.2.2.1 c hc0
    have m9 := Wc.ms_lt
    have O2 : f_Model_ofCistern (uI h g) 755 (nI c) (2 : Int32) = some (g 756 (67 + 35 * c), uI h g) := by
      rw [show (2 : Int32) = nI 2 from rfl, N_of t (by omega) (by decide), show 65 + 35 * c + 2 = 67 + 35 * c from by omega]
    rw [E]
    unfold f_Model_winters_b4
    rw [if_pos (s7 _), N_cis t, bI_s, hg, W.1.1, if_neg (nI_ge (by omega) (by omega)), if_neg (by decide), if_pos (s7 _), N_ms t (by omega) hg Wc.1, bI_s]
    unfold f_Model_winters_b37 f_Model_winters_b38
    rw [nI_1]
    by_cases e : ms w c = 0
    · rw [e, if_pos (by rfl), if_pos (s7 _), O2, bI_s, hg]
      by_cases e2 : w (67 + 35 * c) = 0
      · have z : fnW w (j + 1) c = c := if_pos ⟨e, e2⟩
        have T : tI c = nI c := if_pos (by omega)
        have E2 : f_Model_winters_L4 (q + j + 2) (uI h g) 755 (nI n) (nI c) (nI (c + 1)) = f_Model_winters_b4 (f_Model_winters_L4 (q + j + 1)) (uI h g) 755 (nI n) (nI c) (nI (c + 1)) := rfl
        rw [if_pos e2, z, E2]
        unfold f_Model_winters_b4
        rw [if_pos (s7 _), N_cis t, bI_s, hg, W.1.1]
        have fin := N_win45 (c := c) t hg W hM (Or.inr hc0) hn
        rw [T] at fin
        rw [T]
        by_cases e3 : nc w ≤ c + 1
        · rw [if_pos (nI_le e3 (by omega))]
          exact fin
        · rw [if_neg (nI_ge (by omega) (by omega)), if_pos (nI_pos' (by omega))]
          exact fin
      · have z : fnW w (j + 1) c = fnW w j (c + 1) := if_neg fun z => e2 z.2
        rw [if_neg e2, z]
        exact ih (c + 1) (by omega) q
    · have z : fnW w (j + 1) c = fnW w j (c + 1) := if_neg fun z => e z.1
      rw [if_neg (nI_ne0 (by omega) (by omega)), z]
      exact ih (c + 1) (by omega) q
theorem N_win (t : TSr h) (W : WF M w) (hM : M < 2 ^ 30) (hg : g 756 = w) (hn : n < 2 ^ 20) : ∃ g', f_Model_winters (uI h g) 755 (nI n) = some (tI (fnW w (nc w) 0), uI h g') ∧ g' 756 = wiW w (fnW w (nc w) 0) n ∧ ∀ r, r ≠ 756 → g' r = g r := by
  have h8 := W.2.1.1
  have e : FU = (999998 - nc w) + nc w + 2 := by unfold FU; omega
  unfold f_Model_winters f_Model_winters_b0
  rw [e]
  exact N_win_L t W hM hg hn (nc w) 0 (by omega) _
theorem C_fill_L (t : LDs h A) (hA : 6 ≤ A) (W : WF M w) (hM : M < 2 ^ 30) (R : RLa g A (up1 w 8 (w 8 + nI n))) (hn : n < 2 ^ 20) : ∀ (j c : Nat), c + j = nc w → ∀ q, ∃ g', f_Land_fillFirstEmpty_L12 (q + j + 1) (uI h g) A (nI n) (nI c) = some (tI (fnW w j c), uI h g') ∧ RLa g' A (wiW w (fnW w j c) n) ∧ FA A g g' := by
  have s4 : ∀ g, hS (uI h g) A = 4 := fun g => t.1
  have h8 := W.2.1.1
  have u : ∀ k, k ≠ 8 → up1 w 8 (w 8 + nI n) k = w k := fun k hk => up1_ne hk
  have W8 : WF M (up1 w 8 (w 8 + nI n)) := W.s9 (by omega)
  have ncu : nc (up1 w 8 (w 8 + nI n)) = nc w := congrArg ix (u 0 (by decide))
  have a0 : g A 0 = nI (nc w) := by rw [R.1.1, u 0 (by decide)]; exact W.1.1
  have a13 : g A 13 = w 7 := by rw [R.1.2.2.2.2.2.2.2.1, u 7 (by decide)]
  obtain ⟨n1, n2⟩ := now_n W hM
  have a10 : g A 10 = w 4 := by rw [R.1.2.2.2.2.1, u 4 (by decide)]
  intro j
  induction j with
  | zero =>
    intro c hc q
    have hc' : c = nc w := hc
    have E : f_Land_fillFirstEmpty_L12 (q + 0 + 1) (uI h g) A (nI n) (nI c) = f_Land_fillFirstEmpty_b12 (f_Land_fillFirstEmpty_L12 q) (uI h g) A (nI n) (nI c) := rfl
    rw [E]
    unfold f_Land_fillFirstEmpty_b12
    rw [if_pos (s4 _), hI_u, a0, ← hc', if_pos (Int32.le_refl _), wr_s, a13]
    refine ⟨_, rfl, ?_, fun r hr => up_row (by omega)⟩
    have := R.s1 (k := 7) (v := w 7 + nI n) W8.2.1 (by omega)
    rw [up_comm (by decide)] at this
    exact this
  | succ j ih =>
    intro c hc q
    have E : f_Land_fillFirstEmpty_L12 (q + (j + 1) + 1) (uI h g) A (nI n) (nI c) = f_Land_fillFirstEmpty_b12 (f_Land_fillFirstEmpty_L12 (q + j + 1)) (uI h g) A (nI n) (nI c) := rfl
    have hc0 : c < nc w := by omega
    obtain ⟨x1, x2, x3, x4, x5⟩ := (t.iu (g := g)).cr (c := c) (by omega)
    have sC : ∀ g, hS (uI h g) (A + 6 + 2 * c) = 1 := fun g => x2
    have Wc := W.2.2.2.2.2.1 c hc0
    have m9 := Wc.ms_lt
    have rr := Wc.2.1
    obtain ⟨r1, r2, r3⟩ := R.2.1 c (by rw [ncu]; exact hc0)
    have msu : ms (up1 w 8 (w 8 + nI n)) c = ms w c := ms_eq fun y hy => u _ (by omega)
    rw [msu] at r3
    have k2 : g (A + 6 + 2 * c) 2 = w (67 + 35 * c) := by
      have := r1 2 (by decide)
      rw [u _ (by omega), show 65 + 35 * c + 2 = 67 + 35 * c from by omega] at this
      exact this
    have k0 : g (A + 6 + 2 * c) 0 = nI (rm w c) := by
      have : g (A + 6 + 2 * c) 0 = up1 w 8 (w 8 + nI n) (65 + 35 * c) := r1 0 (by decide)
      rw [this, u _ (by omega)]; exact rr.1
    rw [E]
    unfold f_Land_fillFirstEmpty_b12
    rw [if_pos (s4 _), hI_u, a0, if_neg (nI_ge (by omega) (by omega)), x3, if_pos x4, x5, if_pos (ib_n (by omega) (by decide)), ix_n (by omega), x1, if_pos x2, r3, k2]
    unfold f_Land_fillFirstEmpty_b81
    rw [nI_1]
    by_cases e : ms w c = 0
    · rw [e, if_pos (by rfl)]
      by_cases e2 : w (67 + 35 * c) = 0
      · have z : fnW w (j + 1) c = c := if_pos ⟨e, e2⟩
        have T : tI c = nI c := if_pos (by omega)
        have F : ftW w c n = min n (rm w c - ms w c) := if_pos (by omega)
        have yw : f_Land_yearNow (uI h g) A = some (nI (nowN w), uI h g) := by rw [C_year t a10, n1]
        have O8 : OKL (up1 w 8 (w 8 + nI n)) c := W8.okl (by rw [ncu]; exact hc0)
        have Rg := R.give (c := c) (y := nowN w) (s := ftW w c n) W8.2.1 (by rw [ncu]; exact hc0) O8 n2 (by rw [F]; omega)
        rw [up_gv (by decide)] at Rg
        have Wg : WF M (gvW w c (nowN w) (ftW w c n)) := W.gv hc0 n2 (by rw [F]; omega)
        have Wg8 := Wg.s9 (k := 8) (v := w 8 + nI n) (by omega)
        have Rh := Rg.s1 (k := 7) (v := w 7 + nI (n - ftW w c n)) Wg8.2.1 (by omega)
        have Wh := Wg8.s9 (k := 7) (v := w 7 + nI (n - ftW w c n)) (by omega)
        have nch : nc (up1 (up1 (gvW w c (nowN w) (ftW w c n)) 8 (w 8 + nI n)) 7 (w 7 + nI (n - ftW w c n))) = nc w := (congrArg ix ((up1_ne (by decide)).trans (up1_ne (by decide)))).trans gv_nc
        have Ri := Rh.sl (c := c) (v := 1) Wh.2.1 (by rw [nch]; exact hc0)
        rw [up_comm (j := 8) (k := 7) (by decide)] at Ri
        have pz : pt g (A + 6 + 2 * c) (nowN w) (nI (ftW w c n)) A 13 = w 7 := by rw [pt_o (by omega) (by omega)]; exact a13
        have free0 : rm w c - ms w c = rm w c - 0 := by rw [e]
        have wz : wiW w c n = up1 (up1 (up1 (gvW w c (nowN w) (ftW w c n)) 7 (w 7 + nI (n - ftW w c n))) 8 (w 8 + nI n)) (67 + 35 * c) 1 := by
          unfold wiW poW
          rw [if_pos (by omega), if_pos (by omega)]
        rw [e2, if_pos rfl, C_free (t.cs (by omega)) k0 r3 (by omega) (by omega), bI_s, mn_n (by omega) (by omega), bI_s, if_pos (s4 _), yw, bI_s, if_pos (sC _), ← F, C_put (t.cs (by omega)) n2, bV_s, if_pos (s4 _), wr_s, hI_u, pz, pk_sub (by rw [F]; omega), sI_u, if_pos (sC _), wr_s, sI_u, z, T, wz]
        refine ⟨_, rfl, Ri, fun r hr => ?_⟩
        rw [up_row (by omega), up_row (by omega), pt_row (by omega) (by omega)]
      · have z : fnW w (j + 1) c = fnW w j (c + 1) := if_neg fun z => e2 z.2
        rw [if_neg e2, z]
        exact ih (c + 1) (by omega) q
    · have z : fnW w (j + 1) c = fnW w j (c + 1) := if_neg fun z => e z.1
      rw [if_neg (nI_ne0 (by omega) (by omega)), z]
      exact ih (c + 1) (by omega) q
theorem C_fill (t : LDs h A) (hA : 6 ≤ A) (W : WF M w) (hM : M < 2 ^ 30) (R : RLa g A w) (hn : n < 2 ^ 20) : ∃ g', f_Land_fillFirstEmpty (uI h g) A (nI n) = some (tI (fnW w (nc w) 0), uI h g') ∧ RLa g' A (wiW w (fnW w (nc w) 0) n) ∧ FA A g g' := by
  have s4 : ∀ g, hS (uI h g) A = 4 := fun g => t.1
  have h8 := W.2.1.1
  have e14 : g A 14 = w 8 := R.1.2.2.2.2.2.2.2.2.1
  have R8 := R.s1 (k := 8) (v := w 8 + nI n) W.2.1 (by omega)
  unfold f_Land_fillFirstEmpty f_Land_fillFirstEmpty_b0
  rw [if_pos (s4 _), hI_u, e14, wr_s, sI_u, FU_mm (k := nc w) (by omega)]
  obtain ⟨g', q1, q2, q3⟩ := C_fill_L t hA W hM R8 hn (nc w) 0 (by omega) (999999 - nc w)
  exact ⟨g', q1, q2, FA.tr (fun r hr => up_row (by omega)) q3⟩
end U30
