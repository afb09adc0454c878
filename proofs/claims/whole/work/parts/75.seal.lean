/-! ===== seal, seed ===== -/
section U25
variable {h h1 : Hp} {g g' g1 g2 : Nat → Nat → Int32} {w w' : Nat → Int32} {A B L S c d k n l y j m q s i F r z E N M M' : Nat} {v x a b p1 p2 p3 p4 p5 : Int32} {f p : Nat → Nat} {fl fm fw : Hp → Option (Int32 × Hp)} {P Q : Nat → Int32}
/-- where cells of the reference are -/
theorem s56r (t : TSr h) : hR (uI h g) 755 1 = 756 ∧ hS (uI h g) 756 = 20 ∧ hL (uI h g) 756 = 2291 ∧ hS (uI h g) 755 = 11 := ⟨t.2.1.1, t.2.2.1.1, t.2.2.1.2, t.1⟩
theorem WF.tk (W : WF M w) (hc : c < nc w) (hy : y < 30) (hs : s ≤ ly w c y) : WF M (tkW w c y s) := by
  have h8 := W.2.1.1
  have Wc := W.2.2.2.2.2.1 c hc
  refine W.co (fun k _ h2 _ => up1_ne (by omega)) fun c' hc' => ?_
  have W' := W.2.2.2.2.2.1 c' hc'
  by_cases e : c' = c
  · subst e
    refine W'.of (b := fun z => if z = y then ly w c' z - s else ly w c' z) (fun z hz => ?_) ?_ (fun j hj => up1_ne (by omega))
    · by_cases q : z = y
      · subst q; rw [if_pos rfl]; exact up1_eq
      · rw [if_neg q]; exact (up1_ne (by omega)).trans (W'.1 z hz).1
    · have := smN_tk (f := ly w c') (n := 30) hy hs
      have h2 : smN (ly w c') 30 = ms w c' := rfl
      have := W'.2.1.2.2
      omega
  · exact W'.of (b := ly w c') (fun z hz => (up1_ne (by omega)).trans (W'.1 z hz).1) W'.2.1.2.2 (fun j hj => up1_ne (by omega))
theorem WF.gv (W : WF M w) (hc : c < nc w) (hy : y < 30) (hs : ms w c + s ≤ rm w c) : WF M (gvW w c y s) := by
  have h8 := W.2.1.1
  have Wc := W.2.2.2.2.2.1 c hc
  refine W.co (fun k _ h2 _ => up1_ne (by omega)) fun c' hc' => ?_
  have W' := W.2.2.2.2.2.1 c' hc'
  by_cases e : c' = c
  · subst e
    refine W'.of (b := fun z => if z = y then ly w c' z + s else ly w c' z) (fun z hz => ?_) ?_ (fun j hj => up1_ne (by omega))
    · by_cases q : z = y
      · subst q; rw [if_pos rfl]; exact up1_eq
      · rw [if_neg q]; exact (up1_ne (by omega)).trans (W'.1 z hz).1
    · have := smN_gv (f := ly w c') (n := 30) (s := s) hy
      have h2 : smN (ly w c') 30 = ms w c' := rfl
      omega
  · exact W'.of (b := ly w c') (fun z hz => (up1_ne (by omega)).trans (W'.1 z hz).1) W'.2.1.2.2 (fun j hj => up1_ne (by omega))
theorem tk_co : CO w (tkW w c y s) ∨ True := Or.inr trivial
theorem tk_lo (hk : k < 65) : tkW w c y s k = w k := up1_ne (by omega)
theorem gv_lo (hk : k < 65) : gvW w c y s k = w k := up1_ne (by omega)
theorem tk_hi (hc : c < 8) (hy : y < 30) (hk : 345 ≤ k) : tkW w c y s k = w k := up1_ne (by omega)
theorem gv_hi (hc : c < 8) (hy : y < 30) (hk : 345 ≤ k) : gvW w c y s k = w k := up1_ne (by omega)
/-- the reference takes and gives -/
theorem N_take (t : TSr h) (e : g 756 = w) (O : OKL w c) (hc : c < 8) (hy : y < 30) (hs : s ≤ ly w c y) : ∃ g', f_Model_adds (uI h g) 755 (nI c) (nI y) (-nI s) = some (uI h g') ∧ g' 756 = tkW w c y s ∧ ∀ r, r ≠ 756 → g' r = g r := by
  refine ⟨_, N_adds t hc hy, ?_, fun r hr => up_row hr⟩
  rw [up2_row, e, (O y hy).1, nI_sub' hs]
  rfl
theorem N_give (t : TSr h) (e : g 756 = w) (O : OKL w c) (hc : c < 8) (hy : y < 30) : ∃ g', f_Model_adds (uI h g) 755 (nI c) (nI y) (nI s) = some (uI h g') ∧ g' 756 = gvW w c y s ∧ ∀ r, r ≠ 756 → g' r = g r := by
  refine ⟨_, N_adds t hc hy, ?_, fun r hr => up_row hr⟩
  rw [up2_row, e, (O y hy).1, nI_add]
  rfl
/-- a world with another seal of c -/
theorem WF.sl (W : WF M w) (hc : c < nc w) (hv : v = 0 ∨ v = 1) : WF M (up1 w (67 + 35 * c) v) := by
  have h8 := W.2.1.1
  refine W.co (fun k _ h2 _ => up1_ne (by omega)) fun c' hc' => ?_
  have W' := W.2.2.2.2.2.1 c' hc'
  by_cases e : c' = c
  · subst e
    rcases hv with rfl | rfl
    · exact W'.seal (by omega) (fun k _ _ hk => up1_ne (hk c')) (Or.inl up1_eq)
    · -- sealed
      obtain ⟨O, ⟨R1, R2, R3⟩, K, -, ⟨L1, L2⟩, T1, T2, T3⟩ := W'
      have e : ∀ k, k ≠ 67 + 35 * c' → up1 w (67 + 35 * c') 1 k = w k := fun k hk => up1_ne hk
      have r1 : rm (up1 w (67 + 35 * c') 1) c' = rm w c' := congrArg ix (e _ (by omega))
      have k1 : lk (up1 w (67 + 35 * c') 1) c' = lk w c' := congrArg ix (e _ (by omega))
      have t1 : tw (up1 w (67 + 35 * c') 1) c' = tw w c' := by unfold tw; rw [e _ (by omega)]
      have m1 : ms (up1 w (67 + 35 * c') 1) c' = ms w c' := ms_eq fun y hy => e _ (by omega)
      refine ⟨fun y hy => ?_, ⟨by rw [r1, e _ (by omega)]; exact R1, by rw [r1]; exact R2, by rw [r1, m1]; exact R3⟩, by rw [e _ (by omega)]; exact K, ⟨1, up1_eq, by decide⟩, ⟨by rw [k1, e _ (by omega)]; exact L1, by rw [k1]; exact L2⟩, by rw [t1, e _ (by omega)]; exact T1, by rw [t1]; exact T2, by rw [t1]; exact T3⟩
      have ll : ly (up1 w (67 + 35 * c') 1) c' y = ly w c' y := congrArg ix (e _ (by omega))
      rw [ll, e _ (by omega)]; exact O y hy
  · exact W'.of (b := ly w c') (fun z hz => (up1_ne (by omega)).trans (W'.1 z hz).1) W'.2.1.2.2 (fun j hj => up1_ne (by omega))
theorem RLa.sl (R : RLa g A w) (B : WFb w) (hc : c < nc w) : RLa (up2 g (A + 6 + 2 * c) 2 v) A (up1 w (67 + 35 * c) v) := by
  obtain ⟨r1, r2, r3⟩ := R.2.1 c hc
  refine R.cis B hc (fun r _ _ h1 _ _ => up_row h1) (fun k hk => up1_ne (by omega)) ⟨fun j hj => ?_, fun y hy => ?_, ?_⟩
  · by_cases q : j = 2
    · subst q
      rw [up_eq, show 65 + 35 * c + 2 = 67 + 35 * c from by omega, up1_eq]
    · rw [up_k q, up1_ne (by omega)]
      exact r1 j hj
  · rw [up_r (by omega), up1_ne (by omega)]
    exact r2 y hy
  · rw [up_k (by decide), r3, ms_eq (w' := up1 w (67 + 35 * c) v) (w := w) (fun y hy => up1_ne (by omega))]
theorem lw_seal {H H1 : Hp} {b : Int32} (t : TS H) (t1 : TS H1) (e : f_Water_seal H 1 p1 p2 = some (.inl b, H1)) : f_Lw_seal H 1 p1 p2 765 = some (0, sJ H1 765 0 (if b = 0 then 0 else 1)) := by
  have w1 := t.td.2.1.1
  obtain ⟨j1, j2⟩ := t1.j22
  unfold f_Lw_seal f_Lw_seal_b0 f_Lw_seal_b16
  rw [if_pos w1, e]
  show (if b = 0 then _ else _) = _
  by_cases q : b = 0
  · rw [if_pos q, if_pos q]
    show (if hS H1 765 = 22 then (if ib (0 : Int32) (hL H1 765) = true then wr (sJ H1 765 (ix (0 : Int32)) (0 : Int64)) fun h3 => some ((0 : Int32), h3) else none) else none) = _
    rw [if_pos j1, j2, if_pos (ib_z (by decide)), ix_0]
    rfl
  · rw [if_neg q, if_neg q]
    show (if hS H1 765 = 22 then (if ib (0 : Int32) (hL H1 765) = true then wr (sJ H1 765 (ix (0 : Int32)) (1 : Int64)) fun h3 => some ((0 : Int32), h3) else none) else none) = _
    rw [if_pos j1, j2, if_pos (ib_z (by decide)), ix_0]
    rfl
theorem lw_seal_1 {H H1 : Hp} (t : TS H) (e : f_Water_seal H 1 p1 p2 = some (.inr 1, H1)) : f_Lw_seal H 1 p1 p2 765 = some (1, H1) := by
  have w1 := t.td.2.1.1
  unfold f_Lw_seal f_Lw_seal_b0
  rw [if_pos w1, e]
  rfl
theorem sp_seal (hp : p2 = 0 ∨ p2 = 1) : SSp M (fun H => f_Lw_seal H 1 p1 p2 765) (fun H => f_Model_seal H 755 p1 p2) := by
  intro H I
  obtain ⟨h, g, rfl⟩ : ∃ h g, H = uI h g := ⟨H, hI H, rfl⟩
  have I : INV M h g := I
  obtain ⟨t, W, R, Lr, e0, -, -, n8, -⟩ := I.us
  obtain ⟨⟨w1, -, -, -, -, w5, -⟩, w6, w7⟩ := WTR (g := g) t
  have s7 : ∀ (h : Hp) (g : Nat → Nat → Int32), TS h → hS (uI h g) 755 = 11 := fun h g t => t.td.1.1
  rcases bad_or p1 (n := nc (g 756)) (by omega) with bd | ⟨c, hc, rfl⟩
  · obtain ⟨k, H1, b, H2, q1, q2, q3, q4, q5, q6, q7, q8⟩ := cl_r (h := h) (g := g) (fl := fun H => f_Lw_seal H 1 p1 p2 765) (fm := fun H => f_Model_seal H 755 p1 p2) (c := 1) I (lw_seal_1 (H := uI h g) t (by
        unfold f_Water_seal f_Water_seal_b0
        rw [if_pos w1, (C_needC t e0 (by omega)).1 bd, bX_r])) (by decide) (fun h' g' t' x' => ⟨0, thr g' 1, by
        show f_Model_seal_b0 (uI h' g') 755 p1 p2 = _
        unfold f_Model_seal_b0
        rw [if_pos (s7 _ _ t'), wr_s, sI_u, (N_noC t'.td.1 (g := up2 g' 755 0 0) (n := nc (g 756)) (by rw [th_r (by decide), x' 756 (by decide)]; exact W.1.1) (by omega)).1 bd, bI_s, if_pos (s7 _ _ t'), N_thr1 t'.td.1, bI_s, if_neg (by decide)]
        rfl, thr_c, REF.thr⟩)
    have q1' : f_Lw_seal (uI h g) 1 p1 p2 765 = some (1, hA (uI h g) 0 0 6) := lw_seal_1 (H := uI h g) t (by
        unfold f_Water_seal f_Water_seal_b0
        rw [if_pos w1, (C_needC t e0 (by omega)).1 bd, bX_r])
    have k1 : k = 1 := by
      have := q1.symm.trans q1'
      simp only [Option.some.injEq, Prod.mk.injEq] at this
      exact this.1
    exact ⟨k, H1, b, H2, q1, q2, q3, q4, fun z => by rw [k1] at z; exact absurd z (by decide), q6, q7, q8⟩
  · obtain ⟨r1, r2, r3⟩ := R.2.1 c hc
    have l9 := t.l9
    obtain ⟨a1, a2, a3, a4, a5⟩ := (l9.iu (g := g)).cr (c := c) (by omega)
    have hk := (W.2.2.2.2.2.1 c hc).hk
    have k2 : g (569 + 6 + 2 * c) 2 = g 756 (67 + 35 * c) := by
      have := r1 2 (by decide)
      rw [show 65 + 35 * c + 2 = 67 + 35 * c from by omega] at this
      exact this
    have bb : (if g 756 (67 + 35 * c) = p2 then (0 : Int32) else 1) = 0 ∨ (if g 756 (67 + 35 * c) = p2 then (0 : Int32) else 1) = 1 := by
      split
      · exact Or.inl rfl
      · exact Or.inr rfl
    have ew : f_Water_seal (uI h g) 1 (nI c) p2 = some (.inl (if g 756 (67 + 35 * c) = p2 then 0 else 1), uI h (up2 g (569 + 6 + 2 * c) 2 p2)) := by
      unfold f_Water_seal f_Water_seal_b0 f_Water_seal_b28
      rw [if_pos w1, (C_needC (x := 0) t e0 (by omega)).2 c hc, bX_l, if_pos w1, w5, if_pos w6, a3, if_pos a4, a5, if_pos (ib_n (by omega) (by decide)), ix_n (by omega), a1, if_pos a2, hI_u, k2, if_pos a2, if_pos hp, wr_s, wr_s, if_pos (Or.inl rfl), if_pos (Or.inr rfl)]
      by_cases q : g 756 (67 + 35 * c) = p2
      · rw [if_pos q, if_pos q]; rfl
      · rw [if_neg q, if_neg q, if_pos a2, if_pos hp]; rfl
    have F : FA 569 g (up2 g (569 + 6 + 2 * c) 2 p2) := fun r hr => up_row (by omega)
    have g6 : up2 g (569 + 6 + 2 * c) 2 p2 756 = g 756 := up_row (by omega)
    have W' := W.sl hc hp
    have em : ∀ h', TS h' → f_Model_seal (uI h' (up2 g (569 + 6 + 2 * c) 2 p2)) 755 (nI c) p2 = some (if g 756 (67 + 35 * c) = p2 then 0 else 1, uI h' (up2 (up2 (up2 g (569 + 6 + 2 * c) 2 p2) 755 0 0) 756 (67 + 35 * c) p2)) := by
      intro h' t'
      have O2 : ∀ g : Nat → Nat → Int32, f_Model_ofCistern (uI h' g) 755 (nI c) (2 : Int32) = some (g 756 (67 + 35 * c), uI h' g) := fun g => by
        rw [show (2 : Int32) = nI 2 from rfl, N_of t'.td.1 (by omega) (by decide), show 65 + 35 * c + 2 = 67 + 35 * c from by omega]
      have S2 : ∀ (g : Nat → Nat → Int32) v, f_Model_setsCistern (uI h' g) 755 (nI c) (2 : Int32) v = some (uI h' (up2 g 756 (67 + 35 * c) v)) := fun g v => by
        rw [show (2 : Int32) = nI 2 from rfl, N_sets t'.td.1 (by omega) (by decide), show 65 + 35 * c + 2 = 67 + 35 * c from by omega]
      unfold f_Model_seal f_Model_seal_b0 f_Model_seal_b35 f_Model_seal_b48
      rw [if_pos (s7 _ _ t'), wr_s, sI_u, (N_noC (x := 0) t'.td.1 (g := up2 (up2 g (569 + 6 + 2 * c) 2 p2) 755 0 0) (n := nc (g 756)) (by rw [th_r (by decide), g6]; exact W.1.1) (by omega)).2 c hc, bI_s, if_pos (s7 _ _ t'), N_thr0 t'.td.1, bI_s, if_pos rfl, if_pos (s7 _ _ t'), O2, bI_s, th_r (by decide), g6]
      rcases hk with q | q
      · rw [q, if_neg (by decide)]
        rcases hp with rfl | rfl
        · rw [if_pos rfl, if_pos (s7 _ _ t'), S2, bV_s, if_pos rfl, if_pos rfl]
        · rw [if_neg (by decide), if_pos (s7 _ _ t'), S2, bV_s, if_neg (by decide), if_neg (by decide)]
      · rw [q, if_pos rfl]
        rcases hp with rfl | rfl
        · rw [if_pos rfl, if_pos (s7 _ _ t'), S2, bV_s, if_neg (by decide), if_neg (by decide)]
        · rw [if_neg (by decide), if_pos (s7 _ _ t'), S2, bV_s, if_pos rfl, if_pos rfl]
    have I2 : INV (M + 60) h (up2 (up2 (up2 g (569 + 6 + 2 * c) 2 p2) 755 0 0) 756 (67 + 35 * c) p2) := by
      refine I.go (by omega) (W'.mono (by omega)) (R.sl W.2.1 hc) ?_ (FH.fa F) ?_ (fun r h1 h2 _ _ _ _ _ => by rw [up_row h2, up_row h1]) (fun j hj => by rw [up_row (by decide), up_k (by omega)])
      · exact LR.congr (Lr.hi fun r hr => up_row (by omega)) (up1_ne (by omega)) (fun k hk => up1_ne (by omega))
      · rw [up2_row, up_row (by decide), g6]
    refine ⟨0, _, _, _, lw_seal (H := uI h g) (H1 := uI h (up2 g (569 + 6 + 2 * c) 2 p2)) t t ew, t, em (sJ h 765 0 (if (if g 756 (67 + 35 * c) = p2 then (0 : Int32) else 1) = 0 then 0 else 1)) t, ?_, fun _ => ?_, I2, by show hN h ≤ hN h + 1170; omega, by show hZ h ≤ hZ h + 14000; omega⟩
    · show up2 (up2 (up2 g (569 + 6 + 2 * c) 2 p2) 755 0 0) 756 (67 + 35 * c) p2 755 0 = 0
      rw [up_row (by decide), up_eq]
    · exact (show ∀ u : Int64, up2 (hJ h) 765 0 u 765 0 = u from fun u => if_pos ⟨rfl, rfl⟩) _
theorem sp_seed : VSp M (fun H => f_Water_seed H 1 p1) (fun H => f_Model_seed H 755 p1) := by
  intro H I
  obtain ⟨h, g, rfl⟩ : ∃ h g, H = uI h g := ⟨H, hI H, rfl⟩
  have I : INV M h g := I
  obtain ⟨t, W, R, Lr, -⟩ := I.us
  obtain ⟨⟨w1, -, -, -, -, w5, -⟩, w6, w7⟩ := WTR (g := g) t
  have e5 : g 569 11 = g 756 5 := R.1.2.2.2.2.2.1
  have F : FA 569 g (up2 g 569 11 p1) := fun r hr => up_row (by omega)
  have g6 : up2 g 569 11 p1 756 = g 756 := up_row (by omega)
  obtain ⟨q1, q2, q3, q4⟩ := s56r (g := up2 g 569 11 p1) t.td.1
  obtain ⟨k1, k2, k3, k4⟩ := s56r (g := up2 (up2 g 569 11 p1) 755 0 0) t.td.1
  refine cl_v (h := h) (g := g) (fw := fun H => f_Water_seed H 1 p1) (fm := fun H => f_Model_seed H 755 p1) (h1 := h) (g1 := up2 g 569 11 p1) (g2 := up2 (up2 (up2 g 569 11 p1) 755 0 0) 756 5 p1) (v := g 756 5) ?_ t ?_ ?_ (by omega) (by omega)
  · show f_Water_seed_b0 (uI h g) 1 p1 = _
    unfold f_Water_seed_b0
    rw [if_pos w1, w5, if_pos w6, wr_s, hI_u, e5]
    rfl
  · show f_Model_seed_b0 (uI h (up2 g 569 11 p1)) 755 p1 = _
    unfold f_Model_seed_b0
    rw [if_pos q4, wr_s, sI_u, k1, if_pos k2, k3, show (5 : Int32) = nI 5 from rfl, if_pos (ib_n (by decide) (by decide)), if_pos (ib_n (by decide) (by decide)), ix_n (by decide), wr_s, hI_u, th_r (by decide), g6]
    rfl
  · refine I.go (by omega) (w := up1 (g 756) 5 p1) ((W.co (fun k h1 _ _ => up1_ne (by omega)) fun c hc => ?_).mono (by omega)) ?_ ?_ (FH.fa F) (by rw [up2_row, th_r (by decide), g6]) (fun r h1 h2 _ _ _ _ _ => by rw [up_row h2, up_row h1]) (fun j hj => by rw [up_row (by decide), up_k (by omega)])
    · have h8 := W.2.1.1
      have Wc := W.2.2.2.2.2.1 c hc
      exact Wc.of (b := ly (g 756) c) (fun z hz => (up1_ne (by omega)).trans (Wc.1 z hz).1) Wc.2.1.2.2 (fun j hj => up1_ne (by omega))
    · refine R.sca W.2.1 (fun r _ _ h1 _ => up_row h1) (fun k hk => up1_ne (by omega)) ?_
      obtain ⟨s0, s1, s2, s3, s4, s5, s6, s7, s8, s9⟩ := R.1
      refine ⟨?_, ?_, ?_, ?_, ?_, up_eq, ?_, ?_, ?_, ?_⟩
      all_goals rw [up_k (by decide), up1_ne (by decide)]; assumption
    · exact LR.congr (Lr.hi fun r hr => up_row (by omega)) (up1_ne (by omega)) (fun k hk => up1_ne (by omega))
end U25
