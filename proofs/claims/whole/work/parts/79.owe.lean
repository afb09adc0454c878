/-! ===== settle, owe: the calls (wip/whole/gen/g79.py) ===== -/
section U29
variable {h h1 : Hp} {g g' g1 g2 : Nat → Nat → Int32} {w w' : Nat → Int32} {A B L S c d k n l y j m q s i F r z E N M M' o : Nat} {v x a b p1 p2 p3 p4 p5 : Int32} {f p : Nat → Nat} {fl fm fw : Hp → Option (Int32 × Hp)} {P Q : Nat → Int32}
theorem C_hasH (t : LDs h A) (e1 : g A 1 = nI n) (hn : n ≤ 8) (hk : k < n) : f_Land_hasHouse (uI h g) A (nI k) = some (1, uI h g) := by
  have s : hS (uI h g) A = 4 := t.1
  unfold f_Land_hasHouse f_Land_hasHouse_b0
  rw [if_neg (nI_pos (by omega)), if_pos s, hI_u, e1, if_neg (nI_ge hk (by omega)), show (8 : Int32) = nI 8 from rfl, if_neg (nI_nlt hn (by omega))]
/-- a debt more -/
def owW (w : Nat → Int32) (k y n : Nat) : Nat → Int32 := up1 (up1 (up1 (up1 w (11 + 3 * nd w) (nI k)) (12 + 3 * nd w) (nI y)) (13 + 3 * nd w) (nI n)) 10 (nI (nd w + 1))
theorem owe_o (h1 : j ≠ 10) (h2 : ¬ (11 + 3 * nd w ≤ j ∧ j < 14 + 3 * nd w)) : owW w k y n j = w j := by
  unfold owW
  rw [up1_ne h1, up1_ne (by omega), up1_ne (by omega), up1_ne (by omega)]
theorem owe_nd (h8 : nd w ≤ 8) : nd (owW w k y n) = nd w + 1 := ix_b (show owW w k y n 10 = nI (nd w + 1) from up1_eq) (by omega)
theorem WF.owe (W : WF M w) (h8 : nd w < 8) (hk : k < nh w) (hy : y < 30) (hn : n ≤ 999) : WF M (owW w k y n) := by
  obtain ⟨⟨W1, W2, W3⟩, ⟨B1, B2, B3⟩, T, Mo, La, Ci, Ho, Ze, De, Sa⟩ := W
  have e : ∀ j, j ≠ 10 → ¬ (11 + 3 * nd w ≤ j ∧ j < 14 + 3 * nd w) → owW w k y n j = w j := fun j h1 h2 => owe_o h1 h2
  have n0 : nc (owW w k y n) = nc w := congrArg ix (e 0 (by omega) (by omega))
  have n1 : nh (owW w k y n) = nh w := congrArg ix (e 1 (by omega) (by omega))
  have n2 := owe_nd (w := w) (k := k) (y := y) (n := n) B3
  refine ⟨⟨?_, ?_, ?_⟩, ⟨?_, ?_, ?_⟩, ?_, ?_, ?_, ?_, ?_, ?_, ?_, ?_⟩
  · rw [n0, e 0 (by omega) (by omega)]; exact W1
  · rw [n1, e 1 (by omega) (by omega)]; exact W2
  · rw [n2]; exact up1_eq
  · rw [n0]; exact B1
  · rw [n1]; exact B2
  · rw [n2]; omega
  · rw [e 2 (by omega) (by omega)]; exact T
  · rw [e 4 (by omega) (by omega)]; exact Mo
  · rw [e 3 (by omega) (by omega)]; exact La.imp id (fun z => ⟨z.1, z.2.congr (fun k hk => e k (by omega) (by omega))⟩)
  · rw [n0]
    intro c hc
    exact (Ci c hc).of (b := ly w c) (fun y hy => by rw [e _ (by omega) (by omega)]; exact ((Ci c hc).1 y hy).1) (Ci c hc).2.1.2.2 (fun i hi => e _ (by omega) (by omega))
  · rw [n1]
    intro k' hk'
    obtain ⟨⟨H1, H2⟩, ⟨H3, H4⟩, H5⟩ := Ho k' hk'
    have m0 : neH (owW w k y n) k' = neH w k' := congrArg ix (e _ (by omega) (by omega))
    have m1 : atH (owW w k y n) k' = atH w k' := congrArg ix (e _ (by omega) (by omega))
    exact ⟨⟨by rw [m0, e _ (by omega) (by omega)]; exact H1, by rw [m0]; exact H2⟩, ⟨by rw [m1, e _ (by omega) (by omega)]; exact H3, by rw [m1, n0]; exact H4⟩, by rw [e _ (by omega) (by omega)]; exact H5⟩
  · rw [n1]; exact fun k hk h8 j hj => by rw [e _ (by omega) (by omega)]; exact Ze k hk h8 j hj
  · rw [n2]
    intro d' hd'
    by_cases q : d' = nd w
    · subst q
      refine ⟨⟨k, ?_, by rw [n1]; exact hk⟩, ⟨y, ?_, hy⟩, ⟨n, ?_, hn⟩⟩
      · unfold owW; rw [up1_ne (by omega), up1_ne (by omega), up1_ne (by omega), up1_eq]
      · unfold owW; rw [up1_ne (by omega), up1_ne (by omega), up1_eq]
      · unfold owW; rw [up1_ne (by omega), up1_eq]
    · obtain ⟨d1, d2, d3⟩ := De d' (by omega)
      refine ⟨?_, ?_, ?_⟩
      · rw [n1, e _ (by omega) (by omega)]; exact d1
      · rw [e _ (by omega) (by omega)]; exact d2
      · rw [e _ (by omega) (by omega)]; exact d3
  · intro y hy
    rw [e _ (by omega) (by omega)]; exact Sa y hy
theorem C_addDebt (t : LDs h A) (R : RLa g A w) (W : WF M w) (h8 : nd w < 8) : ∃ g', f_Land_addDebt (uI h g) A (nI k) (nI y) (nI n) = some (nI (nd w), uI h g') ∧ RLa g' A (owW w k y n) ∧ True ∧ FA A g g' := by
  have s4 : ∀ g, hS (uI h g) A = 4 := fun g => t.1
  obtain ⟨a1, a2, a3, a4, a5⟩ := (t.iu (g := g)).dr (d := nd w) h8
  have e2 : g A 2 = nI (nd w) := R.1.2.2.1.trans W.1.2.2
  have e : ∀ j, j ≠ 10 → ¬ (11 + 3 * nd w ≤ j ∧ j < 14 + 3 * nd w) → owW w k y n j = w j := fun j h1 h2 => owe_o h1 h2
  have n0 : nc (owW w k y n) = nc w := congrArg ix (e 0 (by omega) (by omega))
  have n1 : nh (owW w k y n) = nh w := congrArg ix (e 1 (by omega) (by omega))
  have n2 := owe_nd (w := w) (k := k) (y := y) (n := n) W.2.1.2.2
  obtain ⟨B1, B2, B3⟩ := W.2.1
  unfold f_Land_addDebt f_Land_addDebt_b0
  rw [if_pos (s4 _), hI_u, e2, show (8 : Int32) = nI 8 from rfl, if_pos (nI_lt h8 (by decide)), a1, if_pos a2, a3, if_pos (ib_n h8 (by decide)), ix_n (by omega), a4, if_pos a5, wr_s, wr_s, wr_s, wr_s, sI_u, sI_u, sI_u, hI_u, up_r (by omega), up_r (by omega), up_r (by omega), e2, nI_1, sI_u, hI_u, up_eq, nI_pred]
  refine ⟨_, rfl, ?_, trivial, fun r hr => by rw [up_row (by omega), up_row (by omega), up_row (by omega), up_row (by omega)]⟩
  obtain ⟨⟨s0, s1, s2, s3, s4, s5, s6, s7, s8, s9⟩, R2, R3, R4, R5⟩ := R
  have sc : ∀ j, j ≠ 2 → up2 (up2 (up2 (up2 g (A + 38 + nd w) 0 (nI k)) (A + 38 + nd w) 1 (nI y)) (A + 38 + nd w) 2 (nI n)) A 2 (nI (nd w + 1)) A j = g A j := fun j hj => by rw [up_k hj, up_r (by omega), up_r (by omega), up_r (by omega)]
  have ro : ∀ r, r ≠ A → r ≠ A + 38 + nd w → up2 (up2 (up2 (up2 g (A + 38 + nd w) 0 (nI k)) (A + 38 + nd w) 1 (nI y)) (A + 38 + nd w) 2 (nI n)) A 2 (nI (nd w + 1)) r = g r := fun r h1 h2 => by rw [up_row h1, up_row h2, up_row h2, up_row h2]
  refine ⟨⟨?_, ?_, ?_, ?_, ?_, ?_, ?_, ?_, ?_, ?_⟩, fun c' hc' => ?_, fun k' hk' => ?_, fun d' hd' => ?_, ?_⟩
  · rw [sc 0 (by decide), e 0 (by omega) (by omega)]; exact s0
  · rw [sc 1 (by decide), e 1 (by omega) (by omega)]; exact s1
  · have z : owW w k y n 10 = nI (nd w + 1) := up1_eq
    rw [up_eq, z]
  · rw [sc 9 (by decide), e 2 (by omega) (by omega)]; exact s3
  · rw [sc 10 (by decide), e 4 (by omega) (by omega)]; exact s4
  · rw [sc 11 (by decide), e 5 (by omega) (by omega)]; exact s5
  · rw [sc 12 (by decide), e 6 (by omega) (by omega)]; exact s6
  · rw [sc 13 (by decide), e 7 (by omega) (by omega)]; exact s7
  · rw [sc 14 (by decide), e 8 (by omega) (by omega)]; exact s8
  · rw [sc 15 (by decide), e 9 (by omega) (by omega)]; exact s9
  · rw [n0] at hc'
    obtain ⟨r1, r2, r3⟩ := R2 c' hc'
    unfold RLc
    rw [ro _ (by omega) (by omega), ro _ (by omega) (by omega), ms_eq (w' := owW w k y n) (w := w) (fun y hy => e _ (by omega) (by omega))]
    exact ⟨fun j hj => by rw [e _ (by omega) (by omega)]; exact r1 j hj, fun y hy => by rw [e _ (by omega) (by omega)]; exact r2 y hy, r3⟩
  · rw [n1] at hk'
    obtain ⟨r1, r2⟩ := R3 k' hk'
    unfold RLh
    rw [ro _ (by omega) (by omega), ro _ (by omega) (by omega)]
    exact ⟨fun j hj => by rw [e _ (by omega) (by omega)]; exact r1 j hj, fun y hy => by rw [e _ (by omega) (by omega)]; exact r2 y hy⟩
  · rw [n2] at hd'
    intro j hj
    by_cases q : d' = nd w
    · subst q
      have : j = 0 ∨ j = 1 ∨ j = 2 := by omega
      rcases this with rfl | rfl | rfl
      · rw [up_r (by omega), up_k (by decide), up_k (by decide), up_eq]
        unfold owW; rw [up1_ne (by omega), up1_ne (by omega), up1_ne (by omega), Nat.add_zero, up1_eq]
      · rw [up_r (by omega), up_k (by decide), up_eq, show 11 + 3 * nd w + 1 = 12 + 3 * nd w from by omega]
        unfold owW; rw [up1_ne (by omega), up1_ne (by omega), up1_eq]
      · rw [up_r (by omega), up_eq, show 11 + 3 * nd w + 2 = 13 + 3 * nd w from by omega]
        unfold owW; rw [up1_ne (by omega), up1_eq]
    · rw [ro _ (by omega) (by omega), e _ (by omega) (by omega)]
      exact R4 d' (by omega) j hj
  · unfold RLy
    rw [ro _ (by omega) (by omega)]
    exact fun y hy => by rw [e _ (by omega) (by omega)]; exact R5 y hy
theorem N_owe (t : TSr h) (hg : g 756 = w) (W : WF M w) (h8 : nd w < 8) : ∃ g', f_Model_owe_b75 (uI h g) 755 (nI k) (nI y) (nI n) 755 0 = some (nI (nd w), uI h g') ∧ g' 756 = owW w k y n ∧ ∀ r, r ≠ 756 → g' r = g r := by
  have s7 : ∀ g, hS (uI h g) 755 = 11 := fun g => (t.iu (g := g)).1
  have c1 : ∀ g, hR (uI h g) 755 1 = 756 := fun g => t.2.1.1
  have c2 : ∀ g, hS (uI h g) 756 = 20 := fun g => t.2.2.1.1
  have c3 : ∀ g, hL (uI h g) 756 = 2291 := fun g => t.2.2.1.2
  have ix10 : (11 : Int32) + 3 * nI (nd w) = nI (11 + 3 * nd w) := by
    show nI 11 + nI 3 * nI (nd w) = _
    rw [nI_mul, nI_add]
  have g10 : g 756 10 = nI (nd w) := by rw [hg]; exact W.1.2.2
  unfold f_Model_owe_b75
  rw [if_pos (s7 _), N_thr0 t, bI_s, if_pos rfl, if_pos (s7 _), c1, if_pos (c2 _), c3, show (10 : Int32) = nI 10 from rfl, if_pos (ib_n (by decide) (by decide)), ix_n (show 10 < 2 ^ 31 by decide), hI_u, g10, ix10, if_pos (ib_n (by omega) (by decide)), ix_n (show 11 + 3 * nd w < 2 ^ 31 by omega), wr_s, sI_u,
    c1, if_pos (c2 _), c3, nI_1, if_pos (ib_n (by omega) (by decide)), ix_n (show 11 + 3 * nd w + 1 < 2 ^ 31 by omega), wr_s, sI_u, c1, if_pos (c2 _), c3, show nI (11 + 3 * nd w) + (2 : Int32) = nI (11 + 3 * nd w + 2) from nI_add _ 2, if_pos (ib_n (by omega) (by decide)), ix_n (show 11 + 3 * nd w + 2 < 2 ^ 31 by omega), wr_s, sI_u, c1, if_pos (c2 _), c3, if_pos (ib_n (by decide) (by decide)), if_pos (ib_n (by decide) (by decide)), hI_u, up_k (by omega), up_k (by omega), up_k (by omega), g10, nI_1, wr_s, sI_u, c1, if_pos (c2 _), c3, if_pos (ib_n (by decide) (by decide)), hI_u, up_eq, nI_pred]
  refine ⟨_, rfl, ?_, fun r hr => by rw [up_row hr, up_row hr, up_row hr, up_row hr]⟩
  rw [up2_row, up2_row, up2_row, up2_row, hg, show 11 + 3 * nd w + 1 = 12 + 3 * nd w from by omega, show 11 + 3 * nd w + 2 = 13 + 3 * nd w from by omega]
  rfl
theorem sp_settle : LSp M (fun H => f_Lw_settle H 1 p1 765) (fun H => f_Model_settle H 755 p1) := by
  intro H I
  obtain ⟨h, g, rfl⟩ : ∃ h g, H = uI h g := ⟨H, hI H, rfl⟩
  have I : INV M h g := I
  obtain ⟨t, W, R, Lr, e0, e1, e2, n8, nh8, nd8⟩ := I.us
  obtain ⟨⟨w1, wr0, wr1, wr2, wr3, w5, wr5, wr6, wr7, wr8, wr9⟩, w6, w7⟩ := WTR (g := g) t
  have s7 : ∀ (h : Hp) (g : Nat → Nat → Int32), TS h → hS (uI h g) 755 = 11 := fun h g t => t.td.1.1
  have s56 : ∀ (h : Hp) (g : Nat → Nat → Int32), TS h → hR (uI h g) 755 1 = 756 ∧ hS (uI h g) 756 = 20 ∧ hL (uI h g) 756 = 2291 := fun h g t => ⟨t.td.1.2.1.1, t.td.1.2.2.1.1, t.td.1.2.2.1.2⟩
  have l9 := t.l9
  rcases bad_or p1 (n := nd (g 756)) (by omega) with bd | ⟨d, hd, rfl⟩
  · refine cl_r (h := h) (g := g) (fl := fun H => f_Lw_settle H 1 p1 765) (fm := fun H => f_Model_settle H 755 p1) I (lw_settle_1 (H := uI h g) t ?_) (by decide) (fun h' g' t' x' => ⟨0, thr g' 1, ?_, thr_c, REF.thr⟩)
    · unfold f_Water_settle f_Water_settle_b0
      rw [if_pos w1, (C_needD t e2 (by omega)).1 bd, bX_r]
    · show f_Model_settle_b0 (uI h' g') 755 p1 = _
      unfold f_Model_settle_b0
      rw [if_pos (s7 _ _ t'), wr_s, sI_u, (N_noD t'.td.1 (g := up2 g' 755 0 0) (n := nd (g 756)) (by rw [th_r (by decide), x' 756 (by decide)]; exact W.1.2.2) (by omega)).1 bd, bI_s, if_pos (s7 _ _ t'), N_thr1 t'.td.1, bI_s, if_neg (by decide)]
      rfl
  obtain ⟨⟨k, dk, hk⟩, ⟨y, dy, hy⟩, ⟨l, dl, hl⟩⟩ := W.2.2.2.2.2.2.2.2.1 d hd
  obtain ⟨⟨H1, H2⟩, ⟨H3, H4⟩, H5⟩ := W.2.2.2.2.2.2.1 k hk
  obtain ⟨a1, a2, a3, a4, a5⟩ := (l9.iu (g := g)).dr (d := d) (by omega)
  obtain ⟨x1, x2, x3, x4, x5, -⟩ := (l9.iu (g := g)).hr (k := k) (by omega)
  have rd := R.2.2.2.1 d hd
  have d0 : g (569 + 38 + d) 0 = nI k := by have := rd 0 (by decide); rw [Nat.add_zero] at this; exact this.trans dk
  have d1 : g (569 + 38 + d) 1 = nI y := by have := rd 1 (by decide); rw [show 11 + 3 * d + 1 = 12 + 3 * d from by omega] at this; exact this.trans dy
  have d2 : g (569 + 38 + d) 2 = nI l := by have := rd 2 (by decide); rw [show 11 + 3 * d + 2 = 13 + 3 * d from by omega] at this; exact this.trans dl
  have h1 : g (569 + 22 + 2 * k) 1 = nI (atH (g 756) k) := by have := (R.2.2.1 k hk).1 1 (by decide); rw [show 345 + 34 * k + 1 = 346 + 34 * k from by omega] at this; exact this.trans H3
  have s2 : hS (uI h g) (569 + 38 + d) = 2 := a5
  have Rs : RLa g 569 (up1 (g 756) (13 + 3 * d) (nI (l - 0))) := by rw [Nat.sub_zero, up_id dl]; exact R
  obtain ⟨g1, q1, q2, q3, q4⟩ := C_settle_L (h := h) (A := 569) (d := d) (y := y) (l := l) (o := atH (g 756) k) l9 (by decide) (by omega) hy hl (nc (g 756)) 0 0 g (g 756) (by omega) (Nat.zero_le _) Rs W H4 hd dy (999999 - nc (g 756))
  have g6 : g1 756 = g 756 := q4 756 (by omega)
  have es : f_Land_settled (uI h g) 569 (569 + 38 + d) = some (nI (stW (atH (g 756) k) y l (nc (g 756)) 0 0 (g 756)).2, uI h g1) := by
    unfold f_Land_settled f_Land_settled_b0
    rw [if_pos s2, if_pos w6, hI_u, d0, C_hasH l9 e1 nh8 hk, bI_s, if_neg (by decide), if_pos w6, if_pos s2, x1, if_pos x2, x3, hI_u, d0, if_pos (ib_n (by omega) (by decide)), ix_n (by omega), x4, if_pos x5, h1, show nI (atH (g 756) k) = tI (atH (g 756) k) from (if_pos (by omega)).symm, C_has l9 e0 n8 (Or.inr H4), bI_s, if_pos (show atH (g 756) k < 8 by omega), if_neg (by decide), if_pos s2, hI_u, d1, if_neg (nI_pos (by omega)), n30, if_pos (nI_lt hy (by decide)), if_pos w6, x1, if_pos x2, x3, d0, if_pos (ib_n (by omega) (by decide)), ix_n (by omega), x4, if_pos x5, h1, d2, FU_mm (k := nc (g 756)) (by omega), show (0 : Int32) = nI 0 from rfl]
    exact q1
  refine cl_l (h := h) (g := g) (fl := fun H => f_Lw_settle H 1 (nI d) 765) (fm := fun H => f_Model_settle H 755 (nI d)) (h1 := h) (g1 := g1) (v := nI (stW (atH (g 756) k) y l (nc (g 756)) 0 0 (g 756)).2) (lw_settle (H := uI h g) (H1 := uI h (g1)) t t ?_) t (fun h' t' => ?_) (by omega) (by omega)
  · unfold f_Water_settle f_Water_settle_b0
    rw [if_pos w1, (C_needD (x := 0) t e2 (by omega)).2 d hd, bX_l, if_pos w1, w5, if_pos w6, a1, if_pos a2, a3, if_pos (ib_n (by omega) (by decide)), ix_n (by omega), a4, es, bI_s]
  · have gg : up2 g1 755 0 0 756 = g 756 := by rw [th_r (by decide)]; exact g6
    obtain ⟨g2, z1, z2, z3, z4, z5, z6, z7⟩ := N_settle_L (h := h') (M := M) (d := d) (y := y) (l := l) (o := atH (g 756) k) t'.td.1 (by omega) hy hl (nc (g 756)) 0 0 (up2 g1 755 0 0) (g 756) (by omega) (Nat.zero_le _) gg W H4 hd dl (999999 - nc (g 756))
    have em : f_Model_settle_b0 (uI h' (g1)) 755 (nI d) = some (nI (stW (atH (g 756) k) y l (nc (g 756)) 0 0 (g 756)).2, uI h' (g2)) := by
      unfold f_Model_settle_b0
      rw [if_pos (s7 _ _ t'), wr_s, sI_u, (N_noD (x := 0) t'.td.1 (g := up2 g1 755 0 0) (n := nd (g 756)) (by rw [th_r (by decide), g6]; exact W.1.2.2) (by omega)).2 d hd, bI_s, if_pos (s7 _ _ t'), N_thr0 t'.td.1, bI_s, if_pos rfl, if_pos (s7 _ _ t'), od_0 t'.td.1 (by omega), bI_s, gg, dk, if_pos (s7 _ _ t'), show (1 : Int32) = nI 1 from rfl, N_oh t'.td.1 (by omega) (by decide), bI_s, gg, show 345 + 34 * k + 1 = 346 + 34 * k from by omega, H3, if_pos (s7 _ _ t'), show nI 1 = (1 : Int32) from rfl, od_1 t'.td.1 (by omega), bI_s, gg, dy, FU_mm (k := nc (g 756)) (by omega), show (0 : Int32) = nI 0 from rfl]
      exact z1
    have z8 : (stW (atH (g 756) k) y l (nc (g 756)) 0 0 (g 756)).1 3 = g 756 3 := z4 3 (by decide) (by decide) (by omega)
    refine ⟨g2, em, by rw [z7 755 (by decide)]; exact up_eq, I.go (g1 := g1) (by omega) ((z3.deb (d := d) (by rw [z4.nd]; exact hd) (by omega)).mono (by omega)) q2 ?_ (FH.fa q4) z2 (fun r h1 h2 _ _ _ _ _ => by rw [z7 r h2, up_row h1]) (fun j hj => by rw [z7 755 (by decide), up_k (by omega)])⟩
    exact LR.congr (Lr.hi fun r hr => q4 r (by omega)) ((up1_ne (by omega)).trans z8) (fun k hk => (up1_ne (by omega)).trans (z4.hi k hk))
theorem sp_owe : LSp M (fun H => f_Lw_owe H 1 p1 p2 p3 765) (fun H => f_Model_owe H 755 p1 p2 p3) := by
  intro H I
  obtain ⟨h, g, rfl⟩ : ∃ h g, H = uI h g := ⟨H, hI H, rfl⟩
  have I : INV M h g := I
  obtain ⟨t, W, R, Lr, e0, e1, e2, n8, nh8, nd8⟩ := I.us
  obtain ⟨⟨w1, wr0, wr1, wr2, wr3, w5, wr5, wr6, wr7, wr8, wr9⟩, w6, w7⟩ := WTR (g := g) t
  have s7 : ∀ (h : Hp) (g : Nat → Nat → Int32), TS h → hS (uI h g) 755 = 11 := fun h g t => t.td.1.1
  have s56 : ∀ (h : Hp) (g : Nat → Nat → Int32), TS h → hR (uI h g) 755 1 = 756 ∧ hS (uI h g) 756 = 20 ∧ hL (uI h g) 756 = 2291 := fun h g t => ⟨t.td.1.2.1.1, t.td.1.2.2.1.1, t.td.1.2.2.1.2⟩
  have l9 := t.l9
  rcases bad_or p1 (n := nh (g 756)) (by omega) with bd | ⟨k, hk, rfl⟩
  · refine cl_r (h := h) (g := g) (fl := fun H => f_Lw_owe H 1 p1 p2 p3 765) (fm := fun H => f_Model_owe H 755 p1 p2 p3) I (lw_owe_1 (H := uI h g) t ?_) (by decide) (fun h' g' t' x' => ⟨0, thr g' 1, ?_, thr_c, REF.thr⟩)
    · unfold f_Water_owe f_Water_owe_b0
      rw [if_pos w1, (C_needH t e1 (by omega)).1 bd, bX_r]
    · show f_Model_owe_b0 (uI h' g') 755 p1 p2 p3 = _
      unfold f_Model_owe_b0 f_Model_owe_b21 f_Model_owe_b26
      rw [if_pos (s7 _ _ t'), wr_s, sI_u, (N_noH t'.td.1 (g := up2 g' 755 0 0) (n := nh (g 756)) (by rw [th_r (by decide), x' 756 (by decide)]; exact W.1.2.1) (by omega)).1 bd, bI_s, if_neg (by decide), if_pos (s7 _ _ t'), N_thr1 t'.td.1, bI_s, if_neg (by decide)]
      rfl
  rcases bad_or p2 (n := 30) (by decide) with bd | ⟨y, hy, rfl⟩
  · refine cl_r (h := h) (g := g) (fl := fun H => f_Lw_owe H 1 (nI k) p2 p3 765) (fm := fun H => f_Model_owe H 755 (nI k) p2 p3) I (lw_owe_1 (H := uI h g) t ?_) (by decide) (fun h' g' t' x' => ⟨0, thr g' 1, ?_, thr_c, REF.thr⟩)
    · unfold f_Water_owe f_Water_owe_b0
      rw [if_pos w1, (C_needH (x := 0) t e1 (by omega)).2 k hk, bX_l, if_pos w1, C_needY.1 bd, bX_r]
    · show f_Model_owe_b0 (uI h' g') 755 (nI k) p2 p3 = _
      unfold f_Model_owe_b0 f_Model_owe_b21 f_Model_owe_b26
      rw [if_pos (s7 _ _ t'), wr_s, sI_u, (N_noH (x := 0) t'.td.1 (g := up2 g' 755 0 0) (n := nh (g 756)) (by rw [th_r (by decide), x' 756 (by decide)]; exact W.1.2.1) (by omega)).2 k hk, bI_s, if_pos rfl, N_noY.1 bd, bI_s, if_neg (by decide), if_pos (s7 _ _ t'), N_thr1 t'.td.1, bI_s, if_neg (by decide)]
      rfl
  by_cases lo : p3 < 1
  · refine cl_r (h := h) (g := g) (fl := fun H => f_Lw_owe H 1 (nI k) (nI y) p3 765) (fm := fun H => f_Model_owe H 755 (nI k) (nI y) p3) I (lw_owe_2 (H := uI h g) t ?_) (by decide) (fun h' g' t' x' => ⟨0, thr g' 2, ?_, thr_c, REF.thr⟩)
    · unfold f_Water_owe f_Water_owe_b0 f_Water_owe_b22
      rw [if_pos w1, (C_needH (x := 0) t e1 (by omega)).2 k hk, bX_l, if_pos w1, (C_needY (x := 0)).2 y hy, bX_l, if_pos lo]
    · show f_Model_owe_b0 (uI h' g') 755 (nI k) (nI y) p3 = _
      unfold f_Model_owe_b0 f_Model_owe_b26 f_Model_owe_b50
      rw [if_pos (s7 _ _ t'), wr_s, sI_u, (N_noH (x := 0) t'.td.1 (g := up2 g' 755 0 0) (n := nh (g 756)) (by rw [th_r (by decide), x' 756 (by decide)]; exact W.1.2.1) (by omega)).2 k hk, bI_s, if_pos rfl, (N_noY (x := 0)).2 y hy, bI_s, if_pos rfl, if_pos (s7 _ _ t'), N_thr0 t'.td.1, bI_s, if_pos rfl, N_in, bI_s, if_pos lo, if_pos rfl, if_pos (s7 _ _ t'), N_thr1 t'.td.1, bI_s, if_neg (by decide)]
      rfl
  by_cases hi : p3 ≤ 999
  · obtain ⟨n, hn, rfl⟩ := nI_of2 (x := p3) (M := 999) (n := 999) rfl (fun z => lo (Int32.lt_trans z (by decide))) hi
    have hi' : ¬ (999 : Int32) < nI n := nI_nlt (a := 999) hn (by decide) |> fun z => fun q => Int32.lt_irrefl (Int32.lt_of_lt_of_le q hi)
    have ix10 : (11 : Int32) + 3 * nI (nd (g 756)) = nI (11 + 3 * nd (g 756)) := by
      show nI 11 + nI 3 * nI (nd (g 756)) = _
      rw [nI_mul, nI_add]
    by_cases full : nd (g 756) = 8
    · have e28 : ¬ g 569 2 < 8 := by rw [e2, full]; decide
      refine cl_r (h := h) (g := g) (fl := fun H => f_Lw_owe H 1 (nI k) (nI y) (nI n) 765) (fm := fun H => f_Model_owe H 755 (nI k) (nI y) (nI n)) I (lw_owe_3 (H := uI h g) t ?_) (by decide) (fun h' g' t' x' => ⟨0, thr g' 3, ?_, thr_c, REF.thr⟩)
      · unfold f_Water_owe f_Water_owe_b0
        rw [if_pos w1, (C_needH (x := 0) t e1 (by omega)).2 k hk, bX_l, if_pos w1, (C_needY (x := 0)).2 y hy, bX_l, if_neg lo, if_pos hi, if_pos w1, w5, if_pos w6, hI_u, if_neg e28]
      · show f_Model_owe_b0 (uI h' g') 755 (nI k) (nI y) (nI n) = _
        unfold f_Model_owe_b0 f_Model_owe_b26 f_Model_owe_b50 f_Model_owe_b75
        rw [if_pos (s7 _ _ t'), wr_s, sI_u, (N_noH (x := 0) t'.td.1 (g := up2 g' 755 0 0) (n := nh (g 756)) (by rw [th_r (by decide), x' 756 (by decide)]; exact W.1.2.1) (by omega)).2 k hk, bI_s, if_pos rfl, (N_noY (x := 0)).2 y hy, bI_s, if_pos rfl, if_pos (s7 _ _ t'), N_thr0 t'.td.1, bI_s, if_pos rfl, N_in, bI_s, if_neg lo, if_neg hi', if_neg (by decide), if_pos (s7 _ _ t'), N_thr0 t'.td.1, bI_s, if_pos rfl, if_pos (s7 _ _ t'), (s56 _ _ t').1, if_pos (s56 _ _ t').2.1, (s56 _ _ t').2.2, show (10 : Int32) = nI 10 from rfl, if_pos (ib_n (by decide) (by decide)), ix_n (by decide), hI_u, th_r (by decide), x' 756 (by decide), W.1.2.2, full, if_pos (by decide), if_pos (s7 _ _ t'), N_thr1 t'.td.1, bI_s, if_neg (by decide)]
        rfl
    · have e28 : g 569 2 < 8 := by rw [e2]; exact nI_lt (b := 8) (by omega) (by decide)
      have ndn : ¬ nI (nd (g 756)) = 8 := fun z => full ((nI_eq (b := 8) (by omega) (by decide)).mp z)
      obtain ⟨a1, a2, a3, a4, a5⟩ := (l9.iu (g := g)).dr (d := nd (g 756)) (by omega)
      obtain ⟨g1, q1, q2, q3, q4⟩ := C_addDebt (h := h) (g := g) (A := 569) (k := k) (y := y) (n := n) l9 R W (by omega)
      have g6 : g1 756 = g 756 := q4 756 (by omega)
      have W' := W.owe (k := k) (y := y) (n := n) (by omega) hk hy hn
      refine cl_l (h := h) (g := g) (fl := fun H => f_Lw_owe H 1 (nI k) (nI y) (nI n) 765) (fm := fun H => f_Model_owe H 755 (nI k) (nI y) (nI n)) (h1 := h) (g1 := g1) (v := nI (nd (g 756))) (lw_owe (H := uI h g) (H1 := uI h (g1)) t t ?_) t (fun h' t' => ?_) (by omega) (by omega)
      · unfold f_Water_owe f_Water_owe_b0
        rw [if_pos w1, (C_needH (x := 0) t e1 (by omega)).2 k hk, bX_l, if_pos w1, (C_needY (x := 0)).2 y hy, bX_l, if_neg lo, if_pos hi, if_pos w1, w5, if_pos w6, hI_u, if_pos e28, q1, bI_s]
      · have gg : up2 g1 755 0 0 756 = g 756 := by rw [th_r (by decide)]; exact g6
        obtain ⟨g2, z1, z2, z3⟩ := N_owe (h := h') (g := up2 g1 755 0 0) (k := k) (y := y) (n := n) t'.td.1 gg W (by omega)
        have em : f_Model_owe_b0 (uI h' (g1)) 755 (nI k) (nI y) (nI n) = some (nI (nd (g 756)), uI h' (g2)) := by
          unfold f_Model_owe_b0 f_Model_owe_b26 f_Model_owe_b50
          rw [if_pos (s7 _ _ t'), wr_s, sI_u, (N_noH (x := 0) t'.td.1 (g := up2 g1 755 0 0) (n := nh (g 756)) (by rw [th_r (by decide), g6]; exact W.1.2.1) (by omega)).2 k hk, bI_s, if_pos rfl, (N_noY (x := 0)).2 y hy, bI_s, if_pos rfl, if_pos (s7 _ _ t'), N_thr0 t'.td.1, bI_s, if_pos rfl, N_in, bI_s, if_neg lo, if_neg hi', if_neg (by decide), if_pos (s7 _ _ t'), N_thr0 t'.td.1, bI_s, if_pos rfl, if_pos (s7 _ _ t'), (s56 _ _ t').1, if_pos (s56 _ _ t').2.1, (s56 _ _ t').2.2, show (10 : Int32) = nI 10 from rfl, if_pos (ib_n (by decide) (by decide)), ix_n (by decide), hI_u, gg, W.1.2.2, if_neg ndn, z1]
        refine ⟨g2, em, by rw [z3 755 (by decide)]; exact up_eq, I.go (g1 := g1) (by omega) (W'.mono (by omega)) q2 ?_ (FH.fa q4) z2 (fun r h1 h2 _ _ _ _ _ => by rw [z3 r h2, up_row h1]) (fun j hj => by rw [z3 755 (by decide), up_k (by omega)])⟩
        exact LR.congr (Lr.hi fun r hr => q4 r (by omega)) (owe_o (by decide) (by omega)) (fun k hk => owe_o (by omega) (by omega))
  · have hi' : (999 : Int32) < p3 := Int32.not_le.mp hi
    refine cl_r (h := h) (g := g) (fl := fun H => f_Lw_owe H 1 (nI k) (nI y) p3 765) (fm := fun H => f_Model_owe H 755 (nI k) (nI y) p3) I (lw_owe_2 (H := uI h g) t ?_) (by decide) (fun h' g' t' x' => ⟨0, thr g' 2, ?_, thr_c, REF.thr⟩)
    · unfold f_Water_owe f_Water_owe_b0 f_Water_owe_b22
      rw [if_pos w1, (C_needH (x := 0) t e1 (by omega)).2 k hk, bX_l, if_pos w1, (C_needY (x := 0)).2 y hy, bX_l, if_neg lo, if_neg hi]
    · show f_Model_owe_b0 (uI h' g') 755 (nI k) (nI y) p3 = _
      unfold f_Model_owe_b0 f_Model_owe_b26 f_Model_owe_b50
      rw [if_pos (s7 _ _ t'), wr_s, sI_u, (N_noH (x := 0) t'.td.1 (g := up2 g' 755 0 0) (n := nh (g 756)) (by rw [th_r (by decide), x' 756 (by decide)]; exact W.1.2.1) (by omega)).2 k hk, bI_s, if_pos rfl, (N_noY (x := 0)).2 y hy, bI_s, if_pos rfl, if_pos (s7 _ _ t'), N_thr0 t'.td.1, bI_s, if_pos rfl, N_in, bI_s, if_neg lo, if_pos hi', if_pos rfl, if_pos (s7 _ _ t'), N_thr1 t'.td.1, bI_s, if_neg (by decide)]
      rfl
end U29
