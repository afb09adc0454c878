/-! ===== a land's text: cisterns, houses, all lines of the reference ===== -/
section U74
variable {h h' : Hp} {g g' g1 g2 G : Nat → Nat → Int32} {w w' : Nat → Int32} {b : Nat → Nat} {T p q n i j k m c s r d S M A a B N K y lo hi e nn hh : Nat} {v u x : Int32} {L l : List (Nat × Nat × Nat × Nat)} {z : Nat × Nat × Nat × Nat}
theorem N_zeroC (t : TSr h) (hn : n < 8) {f : Hp → Nat → Int32 → Int32 → Option (Int32 × Hp)} : ∀ (j i : Nat) (g : Nat → Nat → Int32), i + j = 35 → ∀ q, ∃ G, f_Model_readCistern_L15 (q + j + 1) (uI h g) 755 (nI n) (nI i) = f_Model_readCistern_b15 f (uI h G) 755 (nI n) (nI 35) ∧ (∀ k, G 756 k = if 65 + 35 * n + i ≤ k ∧ k < 100 + 35 * n then 0 else g 756 k) ∧ ∀ r, r ≠ 756 → G r = g r := by
  have s7 : ∀ g, hS (uI h g) 755 = 11 := fun g => t.1
  intro j
  induction j with
  | zero =>
    intro i g hi q
    have hi : i = 35 := hi
    subst hi
    refine ⟨g, ?_, fun k => (if_neg (by omega)).symm, fun _ _ => rfl⟩
    show f_Model_readCistern_b15 (f_Model_readCistern_L15 q) (uI h g) 755 (nI n) (nI 35) = _
    unfold f_Model_readCistern_b15
    rw [if_pos (show (35 : Int32) ≤ nI 35 from Int32.le_refl _), if_pos (show (35 : Int32) ≤ nI 35 from Int32.le_refl _)]
  | succ j ih =>
    intro i g hi q
    obtain ⟨G, z1, z2, z3⟩ := ih (i + 1) (up2 g 756 (65 + 35 * n + i) 0) (by omega) q
    refine ⟨G, ?_, fun k => ?_, fun r hr => (z3 r hr).trans (up_row hr)⟩
    · show f_Model_readCistern_b15 (f_Model_readCistern_L15 (q + j + 1)) (uI h g) 755 (nI n) (nI i) = _
      rw [← z1]
      unfold f_Model_readCistern_b15
      rw [if_neg (show ¬ (35 : Int32) ≤ nI i from nI_ge (b := 35) (by omega) (by decide)), if_pos (s7 _), N_sets t hn (by omega), bV_s, nI_1]
    · rw [z2]
      by_cases q : k = 65 + 35 * n + i
      · rw [if_neg (by omega), if_pos (by omega), q, up_eq]
      · by_cases q2 : 65 + 35 * n + i ≤ k ∧ k < 100 + 35 * n
        · rw [if_pos q2, if_pos (by omega)]
        · rw [if_neg q2, if_neg (by omega), up_k q]
theorem N_ciR (t : TSr h) (R : RS g b T p) (e6 : g 756 = w) (W : WF M w) (h8 : nc w < 8) : ∃ v g', f_Model_readCistern (uI h g) 755 = some (v, uI h g') ∧ (v = 0 ∨ v = 1) ∧ NLd (ciR b T p) w v g' b T ∧ FL2 g g' := by
  have s7 : ∀ g, hS (uI h g) 755 = 11 := fun g => t.1
  have r1 : ∀ g, hR (uI h g) 755 1 = 756 := fun g => t.2.1.1
  have sa : ∀ g, hS (uI h g) 756 = 20 := fun g => t.2.2.1.1
  have la' : ∀ g, hL (uI h g) 756 = 2291 := fun g => t.2.2.1.2
  have w0 := W.1.1
  obtain ⟨G, z1, z2, z3⟩ := N_zeroC (n := nc w) (f := fun _ _ _ _ => none) t h8 35 0 g rfl (999999 - 35)
  rw [← FU_mm (by decide)] at z1
  have z1 : f_Model_readCistern_L15 FU (uI h g) 755 (nI (nc w)) 0 = _ := z1
  have go : f_Model_readCistern (uI h g) 755 = f_Model_readCistern_b15 (fun _ _ _ _ => none) (uI h G) 755 (nI (nc w)) (nI 35) := by
    unfold f_Model_readCistern f_Model_readCistern_b0
    rw [if_pos (s7 _), N_cis t, bI_s, e6, w0, if_neg (show ¬ nI (nc w) = (8 : Int32) from fun z => by have := (nI_eq (b := 8) (by omega) (by decide)).mp z; omega)]
    exact z1
  have FG : FL2 g (up2 G 756 (69 + 35 * nc w) (-1)) := FL2.ww fun r hr => by rw [up_row hr]; exact z3 r hr
  have RG : RS (up2 G 756 (69 + 35 * nc w) (-1)) b T p := R.fr (fun r hr => by rw [up_row (by omega)]; exact z3 r (by omega)) (fun j hj => by rw [up_r (by decide), z3 755 (by decide)])
  have G1 : ∀ k, (up2 G 756 (69 + 35 * nc w) (-1)) 756 k = if k = 69 + 35 * nc w then -1 else if 65 + 35 * nc w ≤ k ∧ k < 100 + 35 * nc w then 0 else w k := fun k => by
    by_cases q : k = 69 + 35 * nc w
    · rw [if_pos q, q, up_eq]
    · rw [if_neg q, up_k q, z2 k, e6, Nat.add_zero]
  have S4 : f_Model_setsCistern (uI h G) 755 (nI (nc w)) (4 : Int32) (-1) = some (uI h (up2 G 756 (69 + 35 * nc w) (-1))) := by
    rw [show (4 : Int32) = nI 4 from rfl, N_sets t h8 (by decide), show 65 + 35 * nc w + 4 = 69 + 35 * nc w from by omega]
  rw [go]
  unfold f_Model_readCistern_b15 ciR
  rw [if_pos (show (35 : Int32) ≤ nI 35 from Int32.le_refl _), if_pos (s7 _), S4, bV_s, if_pos (s7 _)]
  generalize up2 G 756 (69 + 35 * nc w) (-1) = G2 at FG RG G1 S4
  rcases N_number (x := 1) (y := 999) (lo := 1) (hi := 1000) t RG (by decide) (by decide) rfl (by decide) with ⟨c1, c2, hp, g1, a1, a2, a3⟩ | ⟨c, g1, a1, a2, a3⟩
  · have S0 : f_Model_setsCistern (uI h g1) 755 (nI (nc w)) (0 : Int32) (nI (cdT b T p)) = some (uI h (up2 g1 756 (65 + 35 * nc w) (nI (cdT b T p)))) := by
      rw [show (0 : Int32) = nI 0 from rfl, N_sets t h8 (by decide), Nat.add_zero]
    have O0 : f_Model_ofCistern (uI h (up2 g1 756 (65 + 35 * nc w) (nI (cdT b T p)))) 755 (nI (nc w)) (0 : Int32) = some (nI (cdT b T p), uI h (up2 g1 756 (65 + 35 * nc w) (nI (cdT b T p)))) := by
      rw [show (0 : Int32) = nI 0 from rfl, N_of t h8 (by decide), Nat.add_zero, up_eq]
    have R1 : RS (up2 g1 756 (65 + 35 * nc w) (nI (cdT b T p))) b T (nx b T p) := a2.ww
    have F1 : FL2 g (up2 g1 756 (65 + 35 * nc w) (nI (cdT b T p))) := FG.tr (a3.l2.tr (FL2.ww fun r hr => up_row hr))
    have H1 : ∀ k, (up2 g1 756 (65 + 35 * nc w) (nI (cdT b T p))) 756 k = if k = 65 + 35 * nc w then nI (cdT b T p) else if k = 69 + 35 * nc w then -1 else if 65 + 35 * nc w ≤ k ∧ k < 100 + 35 * nc w then 0 else w k := fun k => by
      by_cases q : k = 65 + 35 * nc w
      · rw [if_pos q, q, up_eq]
      · rw [if_neg q, up_k q, a3.r6]; exact G1 k
    rw [a1, bI_s, if_pos (s7 _), S0, bV_s, if_pos (s7 _), O0, bI_s, if_pos (nI_pos' (by omega)), if_pos (s7 _), nuC_y c1 c2]
    generalize up2 g1 756 (65 + 35 * nc w) (nI (cdT b T p)) = G3 at R1 F1 H1
    -- the end
    have fin : ∀ (k r : Nat) (Q : Nat → Nat → Int32), RS Q b T r → FB G3 Q → ∃ v g', f_Model_readCistern_b109 (uI h Q) 755 755 (nI (nc w)) 1 (nI k) = some (v, uI h g') ∧ (v = 0 ∨ v = 1) ∧ NLd (.inr ((1015, cdT b T p, k, 0), r)) w v g' b T ∧ FL2 g g' := by
      intro k r Q RQ FQ
      have q0 : (up2 Q 756 (65 + 35 * nc w + 1) (nI k)) 756 0 = nI (nc w) := by rw [up_k (by omega), FQ.r6, H1 0, if_neg (by omega), if_neg (by omega), if_neg (by omega)]; exact w0
      refine ⟨1, up2 (up2 Q 756 (65 + 35 * nc w + 1) (nI k)) 756 0 (nI (nc w + 1)), ?_, Or.inr rfl, ⟨rfl, RQ.ww.ww, ?_⟩, F1.tr (FQ.l2.tr (FL2.ww fun r hr => by rw [up_row hr, up_row hr]))⟩
      · unfold f_Model_readCistern_b109
        rw [if_pos (s7 _), show (1 : Int32) = nI 1 from rfl, N_sets t h8 (by decide), bV_s, if_pos (s7 _), r1, if_pos (sa _), la', if_pos (by decide), if_pos (by decide), show ix (0 : Int32) = 0 from rfl, hI_u, q0, nI_add, wr_s, sI_u]
      · have el : lnW w (1015, cdT b T p, k, 0) = newC w (nI (cdT b T p)) (nI k) := if_pos rfl
        rw [el]
        funext j
        by_cases j0 : j = 0
        · subst j0; rw [up_eq, nw_0, w0, nI_1]
        · rw [up_k j0]
          by_cases j1 : j = 66 + 35 * nc w
          · subst j1; rw [show 66 + 35 * nc w = 65 + 35 * nc w + 1 from by omega, up_eq, show 65 + 35 * nc w + 1 = 66 + 35 * nc w from by omega, nw_b]
          · rw [up_k (by omega), FQ.r6, H1 j]
            by_cases j2 : j = 65 + 35 * nc w
            · rw [if_pos j2, j2, nw_r]
            · rw [if_neg j2]
              by_cases j3 : j = 69 + 35 * nc w
              · rw [if_pos j3, j3, nw_t]
              · rw [if_neg j3]
                by_cases j4 : 65 + 35 * nc w ≤ j ∧ j < 100 + 35 * nc w
                · rw [if_pos j4, nw_z (by omega) (by omega) j3]
                · rw [if_neg j4, nw_o j0 j4]
    rcases N_passes (k := 23) (i := 5) t R1 (by decide) with ⟨d, hp2, g4, n1, n2, n3⟩ | ⟨d, g4, n1, n2, n3⟩
    · have d : cdT b T (nx b T p) = 1005 := d
      rw [n1, bI_s, if_neg (by decide), if_pos d]
      exact fin 1 _ g4 n2 n3
    · have d : ¬ cdT b T (nx b T p) = 1005 := d
      rw [n1, bI_s, if_pos rfl, if_pos (s7 _), if_neg d]
      rcases N_passes (k := 24) (i := 6) t n2 (by decide) with ⟨f, hp3, g5, m1, m2, m3⟩ | ⟨f, g5, m1, m2, m3⟩
      · have f : cdT b T (nx b T p) = 1006 := f
        rw [m1, bI_s, if_neg (by decide), if_pos f]
        exact fin 2 _ g5 m2 (n3.tr m3)
      · have f : ¬ cdT b T (nx b T p) = 1006 := f
        rw [m1, bI_s, if_pos rfl, if_pos (s7 _), if_neg f]
        rcases N_passes (k := 25) (i := 7) t m2 (by decide) with ⟨o, hp4, g6, q1, q2, q3⟩ | ⟨o, g6, q1, q2, q3⟩
        · have o : cdT b T (nx b T p) = 1007 := o
          rw [q1, bI_s, if_neg (by decide), if_pos o]
          exact fin 3 _ g6 q2 (n3.tr (m3.tr q3))
        · have o : ¬ cdT b T (nx b T p) = 1007 := o
          rw [q1, bI_s, if_pos rfl, if_neg o]
          exact fin 0 _ g6 q2 (n3.tr (m3.tr q3))
  · have S0 : f_Model_setsCistern (uI h g1) 755 (nI (nc w)) (0 : Int32) (-1) = some (uI h (up2 g1 756 (65 + 35 * nc w) (-1))) := by
      rw [show (0 : Int32) = nI 0 from rfl, N_sets t h8 (by decide), Nat.add_zero]
    have O0 : f_Model_ofCistern (uI h (up2 g1 756 (65 + 35 * nc w) (-1))) 755 (nI (nc w)) (0 : Int32) = some (-1, uI h (up2 g1 756 (65 + 35 * nc w) (-1))) := by
      rw [show (0 : Int32) = nI 0 from rfl, N_of t h8 (by decide), Nat.add_zero, up_eq]
    rw [a1, bI_s, if_pos (s7 _), S0, bV_s, if_pos (s7 _), O0, bI_s, if_neg (by decide), nuC_n c]
    exact ⟨0, _, rfl, Or.inl rfl, ⟨rfl, by rw [up_r (by decide)]; exact a2⟩, FG.tr (a3.l2.tr (FL2.ww fun r hr => up_row hr))⟩
theorem N_zeroH (t : TSr h) (hn : n < 8) {f : Hp → Nat → Int32 → Int32 → Option (Int32 × Hp)} : ∀ (j i : Nat) (g : Nat → Nat → Int32), i + j = 34 → ∀ q, ∃ G, f_Model_readHouse_L15 (q + j + 1) (uI h g) 755 (nI n) (nI i) = f_Model_readHouse_b15 f (uI h G) 755 (nI n) (nI 34) ∧ (∀ k, G 756 k = if 345 + 34 * n + i ≤ k ∧ k < 379 + 34 * n then 0 else g 756 k) ∧ ∀ r, r ≠ 756 → G r = g r := by
  have s7 : ∀ g, hS (uI h g) 755 = 11 := fun g => t.1
  intro j
  induction j with
  | zero =>
    intro i g hi q
    have hi : i = 34 := hi
    subst hi
    refine ⟨g, ?_, fun k => (if_neg (by omega)).symm, fun _ _ => rfl⟩
    show f_Model_readHouse_b15 (f_Model_readHouse_L15 q) (uI h g) 755 (nI n) (nI 34) = _
    unfold f_Model_readHouse_b15
    rw [if_pos (show (34 : Int32) ≤ nI 34 from Int32.le_refl _), if_pos (show (34 : Int32) ≤ nI 34 from Int32.le_refl _)]
  | succ j ih =>
    intro i g hi q
    obtain ⟨G, z1, z2, z3⟩ := ih (i + 1) (up2 g 756 (345 + 34 * n + i) 0) (by omega) q
    refine ⟨G, ?_, fun k => ?_, fun r hr => (z3 r hr).trans (up_row hr)⟩
    · show f_Model_readHouse_b15 (f_Model_readHouse_L15 (q + j + 1)) (uI h g) 755 (nI n) (nI i) = _
      rw [← z1]
      unfold f_Model_readHouse_b15
      rw [if_neg (show ¬ (34 : Int32) ≤ nI i from nI_ge (b := 34) (by omega) (by decide)), if_pos (s7 _), N_sh t hn (by omega), bV_s, nI_1]
    · rw [z2]
      by_cases q : k = 345 + 34 * n + i
      · rw [if_neg (by omega), if_pos (by omega), q, up_eq]
      · by_cases q2 : 345 + 34 * n + i ≤ k ∧ k < 379 + 34 * n
        · rw [if_pos q2, if_pos (by omega)]
        · rw [if_neg q2, if_neg (by omega), up_k q]
theorem N_hoR (t : TSr h) (R : RS g b T p) (e6 : g 756 = w) (W : WF M w) (h8 : nh w < 8) : ∃ v g', f_Model_readHouse (uI h g) 755 = some (v, uI h g') ∧ (v = 0 ∨ v = 1) ∧ NLd (hoR b T (nc w) p) w v g' b T ∧ FL2 g g' := by
  have s7 : ∀ g, hS (uI h g) 755 = 11 := fun g => t.1
  have r1 : ∀ g, hR (uI h g) 755 1 = 756 := fun g => t.2.1.1
  have sa : ∀ g, hS (uI h g) 756 = 20 := fun g => t.2.2.1.1
  have la' : ∀ g, hL (uI h g) 756 = 2291 := fun g => t.2.2.1.2
  have w1 := W.1.2.1
  have n8 := W.2.1.1
  obtain ⟨G, z1, z2, z3⟩ := N_zeroH (n := nh w) (f := fun _ _ _ _ => none) t h8 34 0 g rfl (999999 - 34)
  rw [← FU_mm (by decide)] at z1
  have z1 : f_Model_readHouse_L15 FU (uI h g) 755 (nI (nh w)) 0 = _ := z1
  have go : f_Model_readHouse (uI h g) 755 = f_Model_readHouse_b15 (fun _ _ _ _ => none) (uI h G) 755 (nI (nh w)) (nI 34) := by
    unfold f_Model_readHouse f_Model_readHouse_b0
    rw [if_pos (s7 _), N_hou t, bI_s, e6, w1, if_neg (show ¬ nI (nh w) = (8 : Int32) from fun z => by have := (nI_eq (b := 8) (by omega) (by decide)).mp z; omega)]
    exact z1
  have FG : FL2 g G := FL2.ww z3
  have RG : RS G b T p := R.fr (fun r hr => z3 r (by omega)) (fun j hj => by rw [z3 755 (by decide)])
  have G1 : ∀ k, G 756 k = if 345 + 34 * nh w ≤ k ∧ k < 379 + 34 * nh w then 0 else w k := fun k => by
    rw [z2 k, e6, Nat.add_zero]
  rw [go]
  unfold f_Model_readHouse_b15 hoR
  rw [if_pos (show (34 : Int32) ≤ nI 34 from Int32.le_refl _), if_pos (s7 _)]
  have S : ∀ (Q : Nat → Nat → Int32) (j : Nat) (x : Int32), j < 34 → f_Model_setsHouse (uI h Q) 755 (nI (nh w)) (nI j) x = some (uI h (up2 Q 756 (345 + 34 * nh w + j) x)) := fun Q j x hj => N_sh t h8 hj
  have O : ∀ (Q : Nat → Nat → Int32) (j : Nat), j < 34 → f_Model_ofHouse (uI h Q) 755 (nI (nh w)) (nI j) = some (Q 756 (345 + 34 * nh w + j), uI h Q) := fun Q j hj => N_oh t h8 hj
  have S0 : ∀ (Q : Nat → Nat → Int32) (x : Int32), f_Model_setsHouse (uI h Q) 755 (nI (nh w)) (0 : Int32) x = some (uI h (up2 Q 756 (345 + 34 * nh w + 0) x)) := fun Q x => S Q 0 x (by decide)
  have S1 : ∀ (Q : Nat → Nat → Int32) (x : Int32), f_Model_setsHouse (uI h Q) 755 (nI (nh w)) (1 : Int32) x = some (uI h (up2 Q 756 (345 + 34 * nh w + 1) x)) := fun Q x => S Q 1 x (by decide)
  have S2 : ∀ (Q : Nat → Nat → Int32) (x : Int32), f_Model_setsHouse (uI h Q) 755 (nI (nh w)) (2 : Int32) x = some (uI h (up2 Q 756 (345 + 34 * nh w + 2) x)) := fun Q x => S Q 2 x (by decide)
  have O0 : ∀ (Q : Nat → Nat → Int32), f_Model_ofHouse (uI h Q) 755 (nI (nh w)) (0 : Int32) = some (Q 756 (345 + 34 * nh w + 0), uI h Q) := fun Q => O Q 0 (by decide)
  have O1 : ∀ (Q : Nat → Nat → Int32), f_Model_ofHouse (uI h Q) 755 (nI (nh w)) (1 : Int32) = some (Q 756 (345 + 34 * nh w + 1), uI h Q) := fun Q => O Q 1 (by decide)
  have O2 : ∀ (Q : Nat → Nat → Int32), f_Model_ofHouse (uI h Q) 755 (nI (nh w)) (2 : Int32) = some (Q 756 (345 + 34 * nh w + 2), uI h Q) := fun Q => O Q 2 (by decide)
  rcases N_number (x := 0) (y := 99) (lo := 0) (hi := 100) t RG (by decide) (by decide) rfl (by decide) with ⟨c1, c2, hp, g1, a1, a2, a3⟩ | ⟨c, g1, a1, a2, a3⟩
  · have R1 : RS (up2 g1 756 (345 + 34 * nh w + 0) (nI (cdT b T p))) b T (nx b T p) := a2.ww
    have F1 : FL2 g (up2 g1 756 (345 + 34 * nh w + 0) (nI (cdT b T p))) := FG.tr (a3.l2.tr (FL2.ww fun r hr => up_row hr))
    have H1 : ∀ k, (up2 g1 756 (345 + 34 * nh w + 0) (nI (cdT b T p))) 756 k = if k = 345 + 34 * nh w then nI (cdT b T p) else if 345 + 34 * nh w ≤ k ∧ k < 379 + 34 * nh w then 0 else w k := fun k => by
      by_cases q : k = 345 + 34 * nh w
      · rw [if_pos q, q, show 345 + 34 * nh w = 345 + 34 * nh w + 0 from rfl, up_eq]
      · rw [if_neg q, up_k (by omega), a3.r6]; exact G1 k
    have X1 : (up2 g1 756 (345 + 34 * nh w + 0) (nI (cdT b T p))) 756 (345 + 34 * nh w + 0) = nI (cdT b T p) := up_eq
    rw [a1, bI_s, if_pos (s7 _), S0, bV_s, if_pos (s7 _), O0, bI_s, X1, if_neg (nI_pos (by omega)), if_pos (s7 _), nuC_y c1 c2]
    generalize up2 g1 756 (345 + 34 * nh w + 0) (nI (cdT b T p)) = G2 at R1 F1 H1 X1
    rcases N_needs (k := 31) (i := 20) t R1 (by decide) with ⟨d, hp2, g2, b1, b2, b3⟩ | ⟨d, g2, b1, b2, b3⟩
    · have d : cdT b T (nx b T p) = 1020 := d
      have q0 : g2 756 0 = nI (nc w) := by rw [b3.r6, H1 0, if_neg (by omega), if_neg (by omega)]; exact W.1.1
      rw [b1, bI_s, if_neg (by decide), if_pos (s7 _), tkC_y d]
      rcases N_told t b2 q0 n8 with ⟨o, hp3, g3, m1, m2, -, m3⟩ | ⟨o, g3, m1, m2, m3⟩
      · have R3 : RS (up2 g3 756 (345 + 34 * nh w + 1) (nI (cdT b T (nx b T (nx b T p))))) b T (nx b T (nx b T (nx b T p))) := m2.ww
        have F3 : FL2 g (up2 g3 756 (345 + 34 * nh w + 1) (nI (cdT b T (nx b T (nx b T p))))) := F1.tr (b3.l2.tr (m3.l2.tr (FL2.ww fun r hr => up_row hr)))
        have H3 : ∀ k, (up2 g3 756 (345 + 34 * nh w + 1) (nI (cdT b T (nx b T (nx b T p))))) 756 k = if k = 346 + 34 * nh w then nI (cdT b T (nx b T (nx b T p))) else if k = 345 + 34 * nh w then nI (cdT b T p) else if 345 + 34 * nh w ≤ k ∧ k < 379 + 34 * nh w then 0 else w k := fun k => by
          by_cases q : k = 346 + 34 * nh w
          · rw [if_pos q, q, show 346 + 34 * nh w = 345 + 34 * nh w + 1 from by omega, up_eq]
          · rw [if_neg q, up_k (by omega), m3.r6, b3.r6]; exact H1 k
        have X3 : (up2 g3 756 (345 + 34 * nh w + 1) (nI (cdT b T (nx b T (nx b T p))))) 756 (345 + 34 * nh w + 1) = nI (cdT b T (nx b T (nx b T p))) := up_eq
        rw [m1, bI_s, if_pos (s7 _), S1, bV_s, if_pos (s7 _), O1, bI_s, X3, if_pos (nI_pos' (by omega)), if_pos (s7 _), nuC_y (Nat.zero_le _) o]
        generalize up2 g3 756 (345 + 34 * nh w + 1) (nI (cdT b T (nx b T (nx b T p)))) = G4 at R3 F3 H3 X3
        have fin : ∀ (k r : Nat) (Q : Nat → Nat → Int32), k ≤ 99 → RS Q b T r → FB G4 Q → ∃ v g', f_Model_readHouse_b112 (uI h Q) 755 (nI (nh w)) 755 (nI (nh w)) 2 (nI k) = some (v, uI h g') ∧ (v = 0 ∨ v = 1) ∧ NLd (.inr ((1019, cdT b T p, cdT b T (nx b T (nx b T p)), k), r)) w v g' b T ∧ FL2 g g' := by
          intro k r Q hk RQ FQ
          have q1 : (up2 Q 756 (345 + 34 * nh w + 2) (nI k)) 756 1 = nI (nh w) := by rw [up_k (by omega), FQ.r6, H3 1, if_neg (by omega), if_neg (by omega), if_neg (by omega)]; exact w1
          have q2 : (up2 Q 756 (345 + 34 * nh w + 2) (nI k)) 756 (345 + 34 * nh w + 2) = nI k := up_eq
          refine ⟨1, up2 (up2 Q 756 (345 + 34 * nh w + 2) (nI k)) 756 1 (nI (nh w + 1)), ?_, Or.inr rfl, ⟨rfl, RQ.ww.ww, ?_⟩, F3.tr (FQ.l2.tr (FL2.ww fun r hr => by rw [up_row hr, up_row hr]))⟩
          · unfold f_Model_readHouse_b112
            rw [if_pos (s7 _), S2, bV_s, if_pos (s7 _), O2, bI_s, q2, if_pos (nI_pos' (by omega)), if_pos (s7 _), r1, if_pos (sa _), la', if_pos (by decide), if_pos (by decide), show ix (1 : Int32) = 1 from rfl, hI_u, q1, nI_1, wr_s, sI_u]
          · have el : lnW w (1019, cdT b T p, cdT b T (nx b T (nx b T p)), k) = newH w (cdT b T p) (cdT b T (nx b T (nx b T p))) k := (if_neg (by show ¬ 1019 = 1015; decide)).trans ((if_neg (by show ¬ 1019 = 1016; decide)).trans ((if_neg (by show ¬ 1019 = 1002; decide)).trans (if_pos rfl)))
            rw [el]
            funext j
            by_cases j0 : j = 1
            · subst j0; rw [up_eq, nwh_1, w1, nI_1]
            · rw [up_k j0]
              by_cases j1 : j = 347 + 34 * nh w
              · subst j1; rw [show 347 + 34 * nh w = 345 + 34 * nh w + 2 from by omega, up_eq, show 345 + 34 * nh w + 2 = 347 + 34 * nh w from by omega, nwh_l]
              · rw [up_k (by omega), FQ.r6, H3 j]
                by_cases j2 : j = 346 + 34 * nh w
                · rw [if_pos j2, j2, nwh_c]
                · rw [if_neg j2]
                  by_cases j3 : j = 345 + 34 * nh w
                  · rw [if_pos j3, j3, nwh_n]
                  · rw [if_neg j3]
                    by_cases j4 : 345 + 34 * nh w ≤ j ∧ j < 379 + 34 * nh w
                    · rw [if_pos j4, nwh_z (by omega) (by omega)]
                    · rw [if_neg j4, nwh_o j0 j4]
        rcases N_passes (k := 32) (i := 21) t R3 (by decide) with ⟨f, hp4, g4, n1, n2, n3⟩ | ⟨f, g4, n1, n2, n3⟩
        · have f : cdT b T (nx b T (nx b T (nx b T p))) = 1021 := f
          rw [n1, bI_s, if_neg (by decide), if_pos (s7 _), if_pos f]
          rcases N_number (x := 0) (y := 99) (lo := 0) (hi := 100) t n2 (by decide) (by decide) rfl (by decide) with ⟨k1, k2, hp5, g5, q1, q2, q3⟩ | ⟨k, g5, q1, q2, q3⟩
          · rw [q1, bI_s, nuC_y k1 k2]
            exact fin _ _ g5 (by omega) q2 (n3.tr q3)
          · rw [q1, bI_s, nuC_n k]
            refine ⟨0, up2 g5 756 (345 + 34 * nh w + 2) (-1), ?_, Or.inl rfl, ⟨rfl, by rw [up_r (by decide)]; exact q2⟩, F3.tr (n3.l2.tr (q3.l2.tr (FL2.ww fun r hr => up_row hr)))⟩
            unfold f_Model_readHouse_b112
            rw [if_pos (s7 _), S2, bV_s, if_pos (s7 _), O2, bI_s, up_eq, if_neg (by decide)]
        · have f : ¬ cdT b T (nx b T (nx b T (nx b T p))) = 1021 := f
          rw [n1, bI_s, if_pos rfl, if_neg f]
          exact fin 99 _ g4 (Nat.le_refl _) n2 n3
      · have X3 : (up2 g3 756 (345 + 34 * nh w + 1) (-1)) 756 (345 + 34 * nh w + 1) = -1 := up_eq
        rw [m1, bI_s, if_pos (s7 _), S1, bV_s, if_pos (s7 _), O1, bI_s, X3, if_neg (by decide), nuC_n (fun z => o z.2)]
        exact ⟨0, _, rfl, Or.inl rfl, ⟨rfl, by rw [up_r (by decide)]; exact m2⟩, F1.tr (b3.l2.tr (m3.l2.tr (FL2.ww fun r hr => up_row hr)))⟩
    · have d : cdT b T (nx b T p) ≠ 1020 := d
      rw [b1, bI_s, if_pos rfl, tkC_n d]
      exact ⟨0, g2, rfl, Or.inl rfl, ⟨rfl, b2⟩, F1.tr b3.l2⟩
  · have X1 : (up2 g1 756 (345 + 34 * nh w + 0) (-1)) 756 (345 + 34 * nh w + 0) = -1 := up_eq
    rw [a1, bI_s, if_pos (s7 _), S0, bV_s, if_pos (s7 _), O0, bI_s, X1, if_pos (by decide), nuC_n c]
    exact ⟨0, _, rfl, Or.inl rfl, ⟨rfl, by rw [up_r (by decide)]; exact a2⟩, FG.tr (a3.l2.tr (FL2.ww fun r hr => up_row hr))⟩
end U74
