/-! ===== enough (wip/whole/gen/g88.py) ===== -/
section U38
variable {h h1 h0 : Hp} {g g' g1 g2 g0 : Nat → Nat → Int32} {w w' w0 u : Nat → Int32} {A B L S c d k n l y j m q s i r z E N M M' o T R : Nat} {v x a b p1 p2 p3 p4 p5 : Int32} {Q : Nat → Nat → Int32}
/-- the world after a winter of i -/
def wiE (w : Nat → Int32) (i : Nat) : Nat → Int32 := wiW w (fnW w (nc w) 0) i
def enC (w : Nat → Int32) (m : Nat) : Nat → Nat → Nat
  | _, 0 => 0
  | i, j + 1 => (if qk (wiE w i) m = m then 1 else 0) + enC w m (i + 1) j
theorem wiE_wf (W : WF M w) (hM : M < 2 ^ 30) : WF M (wiE w i) ∧ CO w (wiE w i) := W.wi hM (fn_ok (by omega))
theorem N_enq_L {f : Hp → Nat → Int32 → Int32 → Int32 → Int32 → Option (Int32 × Hp)} (t : TSr h) (hn : n < 2 ^ 31) : ∀ (j i : Nat) (g : Nat → Nat → Int32) (M : Nat), i + j = n → WF M (g 756) → M + j < 2 ^ 30 → ∀ q, ∃ g', f_Model_enough_L65 f (q + j + 1) (uI h g) 755 p1 (nI n) p3 p4 (nI i) = f_Model_enough_b84 f (uI h g') 755 p1 (nI n) p3 p4 (nI (i + qk (g 756) j)) ∧ g' 756 = qe (g 756) j ∧ FM g g' := by
  have s7 : ∀ g, hS (uI h g) 755 = 11 := fun g => (t.iu (g := g)).1
  intro j
  induction j with
  | zero =>
    intro i g M hi W hM q
    have hi' : i = n := hi
    subst hi'
    refine ⟨g, ?_, rfl, ⟨fun _ _ _ _ => rfl, fun _ _ => rfl⟩⟩
    show f_Model_enough_b65 f (f_Model_enough_L65 f q) (uI h g) 755 p1 (nI i) p3 p4 (nI i) = _
    unfold f_Model_enough_b65
    rw [if_pos (Int32.le_refl _)]
    rfl
  | succ j ih =>
    intro i g M hi W hM q
    obtain ⟨g1, q1, q2, -, q4⟩ := N_month t W (by omega)
    have E : f_Model_enough_L65 f (q + (j + 1) + 1) (uI h g) 755 p1 (nI n) p3 p4 (nI i) = f_Model_enough_b65 f (f_Model_enough_L65 f (q + j + 1)) (uI h g) 755 p1 (nI n) p3 p4 (nI i) := rfl
    rw [E]
    unfold f_Model_enough_b65
    rw [if_neg (nI_ge (by omega) hn), if_pos (s7 _), q1, bI_s]
    by_cases e : thirstW (g 756) = 0
    · have k1 : qk (g 756) (j + 1) = qk (monthW (g 756)) j + 1 := if_pos e
      have k3 : qe (g 756) (j + 1) = qe (monthW (g 756)) j := if_pos e
      rw [if_pos (show nI (thirstW (g 756)) = 0 by rw [e]; rfl), nI_1]
      obtain ⟨g', z1, z2, z4⟩ := ih (i + 1) g1 (M + 1) (by omega) (by rw [q2]; exact W.month (by omega)) (by omega) q
      rw [q2] at z1 z2
      refine ⟨g', ?_, z2.trans k3.symm, ⟨fun r h1 h2 h3 => (z4.1 r h1 h2 h3).trans (q4.1 r h1 h2 h3), fun j hj => (z4.2 j hj).trans (q4.2 j hj)⟩⟩
      rw [z1, k1]
      exact congrArg (fun u => f_Model_enough_b84 f (uI h g') 755 p1 (nI n) p3 p4 (nI u)) (by omega)
    · have k1 : qk (g 756) (j + 1) = 0 := if_neg e
      have k3 : qe (g 756) (j + 1) = monthW (g 756) := if_neg e
      rw [if_neg (nI_ne0 (by omega) (th_le W))]
      exact ⟨g1, by rw [k1]; rfl, q2.trans k3.symm, q4⟩
theorem N_enough_L (t : TSr h) (W : WF M w) (hM : M + 60 < 2 ^ 30) (hp : n ≤ 60) (hm : m ≤ 24) : ∀ (j i c : Nat) (g : Nat → Nat → Int32), i + j = n + 1 → g 756 = w → (∀ k, k < 617 → g 759 k = w k) → ∀ q, ∃ g', f_Model_enough_L49 (q + j + 1) (uI h g) 755 (nI n) (nI m) (nI c) (nI i) = some (nI (c + enC w m i j), uI h g') ∧ g' 756 = w ∧ (∀ r, r ≠ 755 → r ≠ 756 → r ≠ 763 → g' r = g r) ∧ ∀ j, j ≠ 18 → g' 755 j = g 755 j := by
  have s7 : ∀ g, hS (uI h g) 755 = 11 := fun g => t.1
  intro j
  induction j with
  | zero =>
    intro i c g hi e6 e9 q
    have hi' : i = n + 1 := hi
    subst hi'
    refine ⟨g, ?_, e6, fun _ _ _ _ => rfl, fun _ _ => rfl⟩
    show f_Model_enough_b49 (f_Model_enough_L49 q) (uI h g) 755 (nI n) (nI m) (nI c) (nI (n + 1)) = _
    unfold f_Model_enough_b49
    rw [if_pos (nI_lt (Nat.lt_succ_self n) (by omega))]
    rfl
  | succ j ih =>
    intro i c g hi e6 e9 q
    have E : f_Model_enough_L49 (q + (j + 1) + 1) (uI h g) 755 (nI n) (nI m) (nI c) (nI i) = f_Model_enough_b49 (f_Model_enough_L49 (q + j + 1)) (uI h g) 755 (nI n) (nI m) (nI c) (nI i) := rfl
    obtain ⟨g1, a1, a2, a3⟩ := N_win (h := h) (g := g) (n := i) t W (by omega) e6 (by omega)
    have a2 : g1 756 = wiE w i := a2
    obtain ⟨Wi, Ci⟩ := wiE_wf (i := i) W (show M < 2 ^ 30 by omega)
    obtain ⟨g2, b1, b2, b3⟩ := N_enq_L (f := f_Model_enough_L49 (q + j + 1)) (p1 := nI n) (p3 := nI c) (p4 := nI i) (n := m) t (by omega) m 0 g1 M (by omega) (by rw [a2]; exact Wi) (by omega) (999999 - m)
    rw [a2] at b1 b2
    rw [Nat.zero_add] at b1
    have FUe : FU = 999999 - m + m + 1 := by unfold FU; omega
    have f9 : ∀ r, r ≠ 755 → r ≠ 756 → r ≠ 763 → g2 r = g r := fun r x y z => (b3.1 r x y z).trans (a3 r y)
    have lw : cpg g2 759 756 617 756 = w := lay_eq (fun k hk => by rw [f9 759 (by decide) (by decide) (by decide)]; exact e9 k hk) (fun k hk => by rw [b2, qe_hi m Wi (by omega) k hk]; exact Ci.hi k hk)
    have cnt : ∀ o : Nat, (if qk (wiE w i) m = m then 1 else 0) = o → ∃ g', f_Model_enough_b96 (f_Model_enough_L49 (q + j + 1)) (uI h g2) 755 (nI n) (nI m) (nI i) (nI c) (nI o) = some (nI (c + enC w m i (j + 1)), uI h g') ∧ g' 756 = w ∧ (∀ r, r ≠ 755 → r ≠ 756 → r ≠ 763 → g' r = g r) ∧ ∀ j, j ≠ 18 → g' 755 j = g 755 j := by
      intro o ho
      obtain ⟨g', z1, z2, z3, z4⟩ := ih (i + 1) (c + o) (cpg g2 759 756 617) (by omega) lw (fun k hk => by rw [cpg_r (by decide), f9 759 (by decide) (by decide) (by decide)]; exact e9 k hk) q
      refine ⟨g', ?_, z2, fun r x y z => (z3 r x y z).trans ((cpg_r y).trans (f9 r x y z)), fun j hj => (z4 j hj).trans (by rw [cpg_r (by decide), b3.2 j hj, a3 755 (by decide)])⟩
      unfold f_Model_enough_b96
      rw [if_pos (s7 _), M_laysBack (h := uI h g2) t, bV_s, cp_g, nI_add, nI_1, z1]
      have : enC w m i (j + 1) = o + enC w m (i + 1) j := by rw [← ho]; rfl
      rw [this, Nat.add_assoc]
    rw [E]
    unfold f_Model_enough_b49
    rw [if_neg (show ¬ nI n < nI i from Int32.not_lt.mpr (nI_le (by omega) (by omega))), if_pos (s7 _), a1, bI_s, FUe, show (0 : Int32) = nI 0 from rfl, b1]
    unfold f_Model_enough_b84
    have le := qk_le (j := m) (w := wiE w i)
    by_cases e : qk (wiE w i) m = m
    · rw [if_pos (congrArg nI e)]
      exact cnt 1 (if_pos e)
    · rw [if_neg (show ¬ nI (qk (wiE w i) m) = nI m from fun z => e ((nI_eq (by omega) (by omega)).mp z))]
      exact cnt 0 (if_neg e)
theorem C_enough_L (hM : M + 60 < 2 ^ 30) (hp : n ≤ 60) (hm : m ≤ 24) : ∀ (j i c : Nat) (h : Hp) (g : Nat → Nat → Int32), i + j = n + 1 → INV M h g → g 756 = w → (∀ r, r ≤ 765 → (r < 615 ∨ 660 < r) → g r = g0 r) → hN h = hN h0 → hZ h = hZ h0 → ∀ q, ∃ h' g', f_Water_enough_L38 (q + j + 1) (uI h g) 1 (nI n) (nI m) (nI c) (nI i) = some (.inl (nI (c + enC w m i j)), uI h' g') ∧ INV M h' g' ∧ g' 756 = w ∧ (∀ r, r ≤ 765 → (r < 615 ∨ 660 < r) → g' r = g0 r) ∧ hN h' = hN h0 ∧ hZ h' = hZ h0 := by
  intro j
  induction j with
  | zero =>
    intro i c h g hi I e6 fr n1 z1 q
    have hi' : i = n + 1 := hi
    subst hi'
    refine ⟨h, g, ?_, I, e6, fr, n1, z1⟩
    show f_Water_enough_b38 (f_Water_enough_L38 q) (uI h g) 1 (nI n) (nI m) (nI c) (nI (n + 1)) = _
    unfold f_Water_enough_b38
    rw [if_pos (nI_lt (Nat.lt_succ_self n) (by omega))]
    rfl
  | succ j ih =>
    intro i c h g hi I e6 fr n1 y1 q
    have E : f_Water_enough_L38 (q + (j + 1) + 1) (uI h g) 1 (nI n) (nI m) (nI c) (nI i) = f_Water_enough_b38 (f_Water_enough_L38 (q + j + 1)) (uI h g) 1 (nI n) (nI m) (nI c) (nI i) := rfl
    obtain ⟨t, W, -⟩ := I.us
    rw [e6] at W
    obtain ⟨⟨w1, -, -, -, -, w5, w6, -⟩, -, -⟩ := WTR (g := g) t
    obtain ⟨g1, q1, t1, H1, q4, I1⟩ := C_trial I
    rw [e6] at H1
    have d13 := t1.ld (c := 13) (by decide)
    rw [la13] at d13
    obtain ⟨g2, b1, b2, b3⟩ := C_fill (A := 615) (n := i) d13 (by decide) W (by omega) H1.2.1 (by omega)
    have b2 : RLa g2 615 (wiE w i) := b2
    obtain ⟨Wi, Ci⟩ := wiE_wf (i := i) W (show M < 2 ^ 30 by omega)
    have H2 : HELD M (sR h 615 8 (hR h 569 8)) g2 615 (wiE w i) := ⟨Wi, b2, LR.congr (H1.2.2.hi fun r hr => b3 r (by omega)) (Ci 3 (by decide) (by decide) (by omega)) Ci.hi⟩
    obtain ⟨g3, z1, z2, -⟩ := C_quiet (A := 615) (n := m) d13 (by decide) (by decide) (by omega) (by omega) H2
    have I2 := I1.ft H1.2.2 ((FH.fa b3).tr z2)
    have X : ∀ r, r ≤ 765 → (r < 615 ∨ 660 < r) → g3 r = g r := fun r a b => (z2 r (by omega) fun q => by omega).trans ((b3 r (by omega)).trans (q4 r (by omega)))
    have st : ∀ G, hS (uI (sR h 615 8 (hR h 569 8)) G) 1 = 10 ∧ hR (uI (sR h 615 8 (hR h 569 8)) G) 1 5 = 615 ∧ hS (uI (sR h 615 8 (hR h 569 8)) G) 615 = 4 := fun G => ⟨t1.td.2.1.1, w6, d13.1⟩
    have le := qk_le (j := m) (w := wiE w i)
    have cnt : ∀ o : Nat, (if qk (wiE w i) m = m then 1 else 0) = o → ∃ h' g', f_Water_enough_b80 (f_Water_enough_L38 (q + j + 1)) (uI (sR h 615 8 (hR h 569 8)) g3) 1 (nI n) (nI m) (nI (c + o)) (nI i) = some (.inl (nI (c + enC w m i (j + 1))), uI h' g') ∧ INV M h' g' ∧ g' 756 = w ∧ (∀ r, r ≤ 765 → (r < 615 ∨ 660 < r) → g' r = g0 r) ∧ hN h' = hN h0 ∧ hZ h' = hZ h0 := by
      intro o ho
      obtain ⟨h', g', a1, a2⟩ := ih (i + 1) (c + o) (sR h 615 8 (hR h 569 8)) g3 (by omega) I2 ((X 756 (by decide) (by omega)).trans e6) (fun r a b => (X r a b).trans (fr r a b)) n1 y1 q
      refine ⟨h', g', ?_, a2⟩
      unfold f_Water_enough_b80
      rw [nI_1, a1]
      have : enC w m i (j + 1) = o + enC w m (i + 1) j := by rw [← ho]; rfl
      rw [this, Nat.add_assoc]
    rw [E]
    unfold f_Water_enough_b38
    rw [if_neg (show ¬ nI n < nI i from Int32.not_lt.mpr (nI_le (by omega) (by omega))), if_pos w1, w6, if_pos (show hS (uI h g) 615 = 4 from (t.ld (c := 13) (by decide)).1), w5, q1, bV_s, if_pos (st _).1, (st _).2.1, if_pos (st _).2.2, b1, bI_s, if_pos (st _).1, (st _).2.1, if_pos (st _).2.2, z1, bI_s]
    by_cases e : qk (wiE w i) m = m
    · rw [if_pos (congrArg nI e), nI_1]
      exact cnt 1 (if_pos e)
    · rw [if_neg (show ¬ nI (qk (wiE w i) m) = nI m from fun z => e ((nI_eq (by omega) (by omega)).mp z))]
      exact cnt 0 (if_neg e)
theorem sp_enough (hM : M + 60 < 2 ^ 30) : LSp M (fun H => f_Lw_enough H 1 p1 p2 765) (fun H => f_Model_enough H 755 p1 p2) := by
  intro H I
  obtain ⟨h, g, rfl⟩ : ∃ h g, H = uI h g := ⟨H, hI H, rfl⟩
  have I : INV M h g := I
  obtain ⟨t, W, R, Lr, e0, e1, e2, n8, nh8, nd8⟩ := I.us
  obtain ⟨⟨w1, wr0, wr1, wr2, wr3, w5, wr5, wr6, wr7, wr8, wr9⟩, w6, w7⟩ := WTR (g := g) t
  have s7 : ∀ (h : Hp) (g : Nat → Nat → Int32), TS h → hS (uI h g) 755 = 11 := fun h g t => t.td.1.1
  have s56 : ∀ (h : Hp) (g : Nat → Nat → Int32), TS h → hR (uI h g) 755 1 = 756 ∧ hS (uI h g) 756 = 20 ∧ hL (uI h g) 756 = 2291 := fun h g t => ⟨t.td.1.2.1.1, t.td.1.2.2.1.1, t.td.1.2.2.1.2⟩
  have l9 := t.l9
  by_cases lo : p1 < 1
  · refine cl_r (h := h) (g := g) (fl := fun H => f_Lw_enough H 1 p1 p2 765) (fm := fun H => f_Model_enough H 755 p1 p2) I (lw_enough_2 (H := uI h g) t ?_) (by decide) (fun h' g' t' x' => ⟨0, thr g' 1, ?_, thr_c, REF.thr⟩)
    · unfold f_Water_enough f_Water_enough_b0 f_Water_enough_b22
      rw [if_pos lo]
    · show f_Model_enough_b0 (uI h' g') 755 p1 p2 = _
      unfold f_Model_enough_b0 f_Model_enough_b26 f_Model_enough_b31
      rw [if_pos (s7 _ _ t'), wr_s, sI_u, N_in, bI_s, if_pos lo, if_pos rfl, if_pos (s7 _ _ t'), N_thr1 t'.td.1, bI_s, if_neg (by decide)]
      rfl
  by_cases hi : (60 : Int32) < p1
  · refine cl_r (h := h) (g := g) (fl := fun H => f_Lw_enough H 1 p1 p2 765) (fm := fun H => f_Model_enough H 755 p1 p2) I (lw_enough_2 (H := uI h g) t ?_) (by decide) (fun h' g' t' x' => ⟨0, thr g' 1, ?_, thr_c, REF.thr⟩)
    · unfold f_Water_enough f_Water_enough_b0 f_Water_enough_b22
      rw [if_neg lo, if_pos hi]
    · show f_Model_enough_b0 (uI h' g') 755 p1 p2 = _
      unfold f_Model_enough_b0 f_Model_enough_b26 f_Model_enough_b31
      rw [if_pos (s7 _ _ t'), wr_s, sI_u, N_in, bI_s, if_neg lo, if_pos hi, if_pos rfl, if_pos (s7 _ _ t'), N_thr1 t'.td.1, bI_s, if_neg (by decide)]
      rfl
  by_cases lo2 : p2 < 1
  · refine cl_r (h := h) (g := g) (fl := fun H => f_Lw_enough H 1 p1 p2 765) (fm := fun H => f_Model_enough H 755 p1 p2) I (lw_enough_2 (H := uI h g) t ?_) (by decide) (fun h' g' t' x' => ⟨0, thr g' 1, ?_, thr_c, REF.thr⟩)
    · unfold f_Water_enough f_Water_enough_b0 f_Water_enough_b22
      rw [if_neg lo, if_neg hi, if_pos lo2]
    · show f_Model_enough_b0 (uI h' g') 755 p1 p2 = _
      unfold f_Model_enough_b0 f_Model_enough_b26 f_Model_enough_b31
      rw [if_pos (s7 _ _ t'), wr_s, sI_u, N_in, bI_s, if_neg lo, if_neg hi, if_neg (by decide), N_in, bI_s, if_pos lo2, if_pos rfl, if_pos (s7 _ _ t'), N_thr1 t'.td.1, bI_s, if_neg (by decide)]
      rfl
  by_cases hi2 : p2 ≤ 24
  · obtain ⟨n, hn, rfl⟩ := nI_of2 (x := p1) (M := 60) (n := 60) rfl (fun z => lo (Int32.lt_trans z (by decide))) (Int32.not_lt.mp hi)
    obtain ⟨m, hm, rfl⟩ := nI_of2 (x := p2) (M := 24) (n := 24) rfl (fun z => lo2 (Int32.lt_trans z (by decide))) hi2
    have hi2' : ¬ (24 : Int32) < nI m := Int32.not_lt.mpr hi2
    have n0 : 1 ≤ n := Nat.pos_of_ne_zero fun z => lo (by rw [z]; decide)
    obtain ⟨h1, g1, q1, I1, e6, fr, nx, zx⟩ := C_enough_L (w := g 756) (g0 := g) (h0 := h) hM hn hm n 1 0 h g (by omega) I rfl (fun _ _ _ => rfl) rfl rfl (999999 - n)
    have t1 := I1.1
    have FUe : FU = 999999 - n + n + 1 := by unfold FU; omega
    refine cl_l (h := h) (g := g) (fl := fun H => f_Lw_enough H 1 (nI n) (nI m) 765) (fm := fun H => f_Model_enough H 755 (nI n) (nI m)) (h1 := h1) (g1 := g1) (v := (nI (0 + enC (g 756) m 1 n))) (lw_enough (H := uI h g) (H1 := uI h1 (g1)) t t1 ?_) t1 (fun h' t' => ?_) (by omega) (by omega)
    · unfold f_Water_enough f_Water_enough_b0
      rw [if_neg lo, if_neg hi, if_neg lo2, if_pos hi2, FUe]
      exact q1
    · have k6 : cpg (up2 g1 755 0 0) 756 759 617 756 = g 756 := by rw [cpg_r (by decide), up_row (by decide)]; exact e6
      obtain ⟨G, z1, z2, z3, z4⟩ := N_enough_L (h := h') (w := g 756) t'.td.1 W hM hn hm n 1 0 (cpg (up2 g1 755 0 0) 756 759 617) (by omega) k6 (fun k hk => by rw [cpg_k hk, up_row (by decide), e6]) (999999 - n)
      have em : f_Model_enough_b0 (uI h' (g1)) 755 (nI n) (nI m) = some ((nI (0 + enC (g 756) m 1 n)), uI h' (G)) := by
        unfold f_Model_enough_b0 f_Model_enough_b31
        rw [if_pos (s7 _ _ t'), wr_s, sI_u, N_in, bI_s, if_neg lo, if_neg hi, if_neg (by decide), N_in, bI_s, if_neg lo2, if_neg hi2', if_neg (by decide), if_pos (s7 _ _ t'), N_thr0 t'.td.1, bI_s, if_pos rfl, if_pos (s7 _ _ t'), M_keeps (h := uI h' (up2 g1 755 0 0)) t'.td.1, bV_s, cp_g, FUe]
        exact z1
      have em0 : G 755 0 = 0 := by rw [z4 0 (by decide), cpg_r (by decide)]; exact up_eq
      refine ⟨G, em, em0, (I1.nw (g' := G) (z2.trans e6.symm) (fun r a1 a2 a3 a4 a5 a6 a7 => by rw [z3 r a1 a2 a6, cpg_r a4, up_row a1]) (fun j hj => by rw [z4 j (by omega), cpg_r (by decide), up_k (by omega)])).mono (by omega)⟩
  · have hi2' : (24 : Int32) < p2 := Int32.not_le.mp hi2
    refine cl_r (h := h) (g := g) (fl := fun H => f_Lw_enough H 1 p1 p2 765) (fm := fun H => f_Model_enough H 755 p1 p2) I (lw_enough_2 (H := uI h g) t ?_) (by decide) (fun h' g' t' x' => ⟨0, thr g' 1, ?_, thr_c, REF.thr⟩)
    · unfold f_Water_enough f_Water_enough_b0 f_Water_enough_b22
      rw [if_neg lo, if_neg hi, if_neg lo2, if_neg hi2]
    · show f_Model_enough_b0 (uI h' g') 755 p1 p2 = _
      unfold f_Model_enough_b0 f_Model_enough_b26 f_Model_enough_b31
      rw [if_pos (s7 _ _ t'), wr_s, sI_u, N_in, bI_s, if_neg lo, if_neg hi, if_neg (by decide), N_in, bI_s, if_neg lo2, if_pos hi2', if_pos rfl, if_pos (s7 _ _ t'), N_thr1 t'.td.1, bI_s, if_neg (by decide)]
      rfl
end U38
