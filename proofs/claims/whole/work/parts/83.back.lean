/-! ===== the image, back to it, and months undone ===== -/
section U33
variable {h h1 : Hp} {g g' g1 g2 : Nat → Nat → Int32} {w w' : Nat → Int32} {A B L S c d k n l y j m q s i r z E N M M' o T : Nat} {v x a b p1 p2 p3 p4 p5 : Int32} {F : Nat → Int32}
/-- n entries copied -/
def cpg (g : Nat → Nat → Int32) (s d n : Nat) : Nat → Nat → Int32 := fun b k => if b = d then (if k < n then g s k else g d k) else g b k
theorem cp_g : cpI (uI h g) s d n = uI h (cpg g s d n) := rfl
theorem cpg_r (e : r ≠ d) : cpg g s d n r = g r := funext fun _ => if_neg e
theorem cpg_k (hk : k < n) : cpg g s d n d k = g s k := (if_pos rfl).trans (if_pos hk)
theorem hR_s {a : Nat} : hR (sR h a k n) a k = n := if_pos ⟨rfl, rfl⟩
theorem la12 : la 12 = 569 := rfl
theorem la15 : la 15 = 707 := rfl
/-- a Land that has been given what another holds -/
theorem HELD.r8' (H : HELD M h g A w) (e : A ≠ B) (hB : B ≤ 765) (z : FZ h g g') (y : ∀ r, A ≤ r → r ≤ A + 45 → r ≠ A + 5 → g' r = g r) : HELD M (sR h B 8 n) g' A w := (H.fz z y).r8 e hB
theorem sp_image : USp M (fun H => f_Water_image H 1) (fun H => f_Model_image H 755) := by
  intro H I
  obtain ⟨h, g, rfl⟩ : ∃ h g, H = uI h g := ⟨H, hI H, rfl⟩
  have I : INV M h g := I
  obtain ⟨t, W, R, Lr, -⟩ := I.us
  obtain ⟨⟨w1', -, -, -, -, w5', -, -, w7', -, -⟩, -, -⟩ := WTR (g := g) t
  have w5 : ∀ g, hR (uI h g) 1 4 = 569 := fun g => w5'
  have w7 : ∀ g, hR (uI h g) 1 7 = 707 := fun g => w7'
  have t1 : TS (sR h 707 8 (hR h 569 8)) := t.sR8 (c := 15) (by decide)
  have d15 := t.ld (c := 15) (by decide)
  rw [la15] at d15
  obtain ⟨g1, q1, q2, q3, q4⟩ := C_copy (A := 707) (B := 569) (g := g) d15 t.l9 (Or.inr (by decide)) (by decide) (by decide) W R Lr
  have nx : hN (sR h 707 8 (hR h 569 8)) = hN h := rfl
  have zx : hZ (sR h 707 8 (hR h 569 8)) = hZ h := rfl
  have a1 : ∀ r, r ≠ 1 → r ≠ 755 → r ≠ 757 → up2 (cpg (up2 (up2 g1 1 10 1) 755 0 0) 756 757 1454) 755 6 1 r = g1 r := fun r e1 e2 e3 => by rw [up_row e2, cpg_r e3, up_row e2, up_row e1]
  have a2 : ∀ k, k < 1454 → up2 (cpg (up2 (up2 g1 1 10 1) 755 0 0) 756 757 1454) 755 6 1 757 k = g 756 k := fun k hk => by rw [up_r (by decide), cpg_k hk, up_r (by decide), up_r (by decide), q4 756 (by omega)]
  have a3 : ∀ r, r ≠ 1 → r ≠ 755 → r ≠ 757 → (r < 707 ∨ 707 + 45 < r) → up2 (cpg (up2 (up2 g1 1 10 1) 755 0 0) 756 757 1454) 755 6 1 r = g r := fun r e1 e2 e3 e4 => (a1 r e1 e2 e3).trans (q4 r e4)
  have a4 : ∀ j, j ≠ 0 → j ≠ 6 → up2 (cpg (up2 (up2 g1 1 10 1) 755 0 0) 756 757 1454) 755 6 1 755 j = g 755 j := fun j e1 e2 => by rw [up_k e2, cpg_r (by decide), up_k e1, up_r (by decide), q4 755 (by omega)]
  have a5 : up2 (cpg (up2 (up2 g1 1 10 1) 755 0 0) 756 757 1454) 755 6 1 1 11 = g 1 11 := by rw [up_r (by decide), cpg_r (by decide), up_r (by decide), up_k (by decide), q4 1 (by omega)]
  have a6 : up2 (cpg (up2 (up2 g1 1 10 1) 755 0 0) 756 757 1454) 755 6 1 1 10 = 1 := by rw [up_r (by decide), cpg_r (by decide), up_r (by decide), up_eq]
  have a7 : up2 (cpg (up2 (up2 g1 1 10 1) 755 0 0) 756 757 1454) 755 6 1 755 6 = 1 := up_eq
  refine ⟨uI (sR h 707 8 (hR h 569 8)) (up2 g1 1 10 1), uI (sR h 707 8 (hR h 569 8)) (up2 (cpg (up2 (up2 g1 1 10 1) 755 0 0) 756 757 1454) 755 6 1), ?_, t1, ?_, ?_, by show hN h ≤ hN h + 1170; omega, by show hZ h ≤ hZ h + 14000; omega⟩
  · show f_Water_image_b0 (uI h g) 1 = _
    unfold f_Water_image_b0
    rw [if_pos w1', w7, w5, if_pos (show hS (uI h g) 707 = 4 from d15.1), q1, bV_s, if_pos (show hS (uI (sR h 707 8 (hR h 569 8)) g1) 1 = 10 from t1.td.2.1.1), wr_s, sI_u]
  · show f_Model_image (uI (sR h 707 8 (hR h 569 8)) (up2 g1 1 10 1)) 755 = _
    rw [M_image (h := uI (sR h 707 8 (hR h 569 8)) (up2 g1 1 10 1)) t1.td.1, sI_u, cp_g, sI_u]
  · show INV (M + 60) (sR h 707 8 (hR h 569 8)) (up2 (cpg (up2 (up2 g1 1 10 1) 755 0 0) 756 757 1454) 755 6 1)
    generalize up2 (cpg (up2 (up2 g1 1 10 1) 755 0 0) 756 757 1454) 755 6 1 = G at a1 a2 a3 a4 a5 a6 a7
    obtain ⟨-, H0, I1, ⟨N, Rm, m1, m2, m3, m4, m5, m6⟩, ⟨T, e1, e2, e3, e4⟩, W1, lb, mo⟩ := I
    have z : FZ h g G := fun r hr _ => a3 r (by omega) (by omega) (by omega) (by omega)
    have z1 : FZ (sR h 707 8 (hR h 569 8)) g1 G := fun r hr _ => a1 r (by omega) (by omega) (by omega)
    refine INV.mono (M := M) ⟨t1, ?_, ?_, ⟨N, Rm, ?_, m2, ?_, ?_, m5, fun i hi => ?_⟩, ⟨T, ?_, ?_, e3, fun k hk => ?_⟩, ?_, fun c hc => ?_, mo.cg (a3 6 (by decide) (by decide) (by decide) (by omega)) (a3 11 (by decide) (by decide) (by decide) (by omega))⟩ (by omega)
    · rw [a3 756 (by decide) (by decide) (by decide) (by omega)]
      exact H0.r8' (by decide) (by decide) z fun r h1 h2 _ => a3 r (by omega) (by omega) (by omega) (by omega)
    · refine Or.inr ⟨a6, a7, HELD.cg (w := g 756) ?_ a2⟩
      have hh : HELD M (sR h 707 8 (hR h 569 8)) g1 707 (g 756) := ⟨W, q2, q3⟩
      exact hh.fz z1 fun r h1 h2 _ => a1 r (by omega) (by omega) (by omega)
    · rw [a3 15 (by decide) (by decide) (by decide) (by omega)]; exact m1
    · rw [a3 15 (by decide) (by decide) (by decide) (by omega)]; exact m3
    · rw [a4 7 (by decide) (by decide)]; exact m4
    · have e : wmo G (Rm - 1 - i) = wmo g (Rm - 1 - i) := funext fun k => by unfold wmo; rw [a3 760 (by decide) (by decide) (by decide) (by omega)]
      have := Nat.mod_lt (N + 12 - i) (show 0 < 12 by decide)
      rw [e]
      exact (m6 i hi).r8' (by unfold la; omega) (by decide) z fun r h1 h2 _ => a3 r (by unfold la at *; omega) (by unfold la at *; omega) (by unfold la at *; omega) (by unfold la at *; omega)
    · rw [a3 2 (by decide) (by decide) (by decide) (by omega)]; exact e1
    · rw [a4 9 (by decide) (by decide)]; exact e2
    · rw [a3 3 (by decide) (by decide) (by decide) (by omega), a3 761 (by decide) (by decide) (by decide) (by omega)]; exact e4 k hk
    · rw [a5, a4 14 (by decide) (by decide)]; exact W1
    · by_cases e : c = 15
      · subst e
        have : hR (sR h 707 8 (hR h 569 8)) (la 15) 8 = hR h 569 8 := by rw [la15]; exact hR_s
        rw [this]; exact lb 12 (by decide)
      · have : hR (sR h 707 8 (hR h 569 8)) (la c) 8 = hR h (la c) 8 := if_neg fun z => by have := z.1; unfold la at this; omega
        rw [this]; exact lb c hc
/-- the present is given what another Land holds; of the months, R are still remembered, the newest at N -/
theorem INV.ba (I : INV M h g) (hB : hR h B 8 + 5 ≤ hN h) (W : WF M w) (q2 : RLa g1 569 w) (q3 : LR (sR h 569 8 (hR h B 8)) g1 569 w) (q4 : FA 569 g g1) (a1 : ∀ r, r ≠ 15 → r ≠ 755 → r ≠ 756 → g2 r = g1 r) (a2 : ∀ k, k < 1454 → g2 756 k = w k) (a4 : ∀ j, j ≠ 0 → j ≠ 7 → g2 755 j = g 755 j)
    {N R : Nat} (m1 : g2 15 1 = nI N) (m2 : N < 12) (m3 : g2 15 2 = nI R) (m4 : g2 755 7 = nI R) (m5 : R ≤ 12) (m6 : ∀ i, i < R → HELD M h g (la ((N + 12 - i) % 12)) (wmo g (R - 1 - i))) : INV (M + 60) (sR h 569 8 (hR h B 8)) g2 := by
  have t1 : TS (sR h 569 8 (hR h B 8)) := I.1.sR8 (c := 12) (by decide)
  obtain ⟨-, H0, I1, -, ⟨T, e1, e2, e3, e4⟩, W1, lb, mo⟩ := I
  have a3 : ∀ r, r ≠ 15 → r ≠ 755 → r ≠ 756 → (r < 569 ∨ 569 + 45 < r) → g2 r = g r := fun r h1 h2 h3 h4 => (a1 r h1 h2 h3).trans (q4 r h4)
  have z : FZ h g g2 := fun r hr _ => a3 r (by omega) (by omega) (by omega) (by omega)
  have z1 : FZ (sR h 569 8 (hR h B 8)) g1 g2 := fun r hr _ => a1 r (by omega) (by omega) (by omega)
  refine INV.mono (M := M) ⟨t1, ?_, ?_, ⟨N, R, m1, m2, m3, m4, m5, fun i hi => ?_⟩, ⟨T, ?_, ?_, e3, fun k hk => ?_⟩, ?_, fun c hc => ?_, mo.cg (a3 6 (by decide) (by decide) (by decide) (by omega)) (a3 11 (by decide) (by decide) (by decide) (by omega))⟩ (by omega)
  · refine HELD.cg (w := w) ?_ a2
    have hh : HELD M (sR h 569 8 (hR h B 8)) g1 569 w := ⟨W, q2, q3⟩
    exact hh.fz z1 fun r h1 h2 _ => a1 r (by omega) (by omega) (by omega)
  · rcases I1 with ⟨i1, i2⟩ | ⟨i1, i2, i3⟩
    · exact Or.inl ⟨by rw [a3 1 (by decide) (by decide) (by decide) (by omega)]; exact i1, by rw [a4 6 (by decide) (by decide)]; exact i2⟩
    · refine Or.inr ⟨by rw [a3 1 (by decide) (by decide) (by decide) (by omega)]; exact i1, by rw [a4 6 (by decide) (by decide)]; exact i2, ?_⟩
      rw [a3 757 (by decide) (by decide) (by decide) (by omega)]
      exact i3.r8' (by decide) (by decide) z fun r h1 h2 _ => a3 r (by omega) (by omega) (by omega) (by omega)
  · have e : wmo g2 (R - 1 - i) = wmo g (R - 1 - i) := funext fun k => by unfold wmo; rw [a3 760 (by decide) (by decide) (by decide) (by omega)]
    have := Nat.mod_lt (N + 12 - i) (show 0 < 12 by decide)
    rw [e]
    exact (m6 i hi).r8' (by unfold la; omega) (by decide) z fun r h1 h2 _ => a3 r (by unfold la at *; omega) (by unfold la at *; omega) (by unfold la at *; omega) (by unfold la at *; omega)
  · rw [a3 2 (by decide) (by decide) (by decide) (by omega)]; exact e1
  · rw [a4 9 (by decide) (by decide)]; exact e2
  · rw [a3 3 (by decide) (by decide) (by decide) (by omega), a3 761 (by decide) (by decide) (by decide) (by omega)]; exact e4 k hk
  · rw [a3 1 (by decide) (by decide) (by decide) (by omega), a4 14 (by decide) (by decide)]; exact W1
  · by_cases e : c = 12
    · subst e
      have : hR (sR h 569 8 (hR h B 8)) (la 12) 8 = hR h B 8 := by rw [la12]; exact hR_s
      rw [this]; exact hB
    · have : hR (sR h 569 8 (hR h B 8)) (la c) 8 = hR h (la c) 8 := if_neg fun z => by have := z.1; unfold la at this; omega
      rw [this]; exact lb c hc
theorem sp_back : VSp M (fun H => f_Water_back H 1) (fun H => f_Model_back H 755) := by
  intro H I
  obtain ⟨h, g, rfl⟩ : ∃ h g, H = uI h g := ⟨H, hI H, rfl⟩
  have I : INV M h g := I
  obtain ⟨t, -⟩ := I.us
  obtain ⟨⟨w1', -, -, -, w4', w5', -, -, w7', -, -⟩, -, -⟩ := WTR (g := g) t
  have w5 : ∀ g, hR (uI h g) 1 4 = 569 := fun g => w5'
  have w7 : ∀ g, hR (uI h g) 1 7 = 707 := fun g => w7'
  obtain ⟨N, Rm, m1, m2, m3, m4, m5, m6⟩ := I.2.2.2.1
  rcases I.2.2.1 with ⟨i1, i2⟩ | ⟨i1, i2, W, R, Lr⟩
  · refine cl_v (h := h) (g := g) (fw := fun H => f_Water_back H 1) (fm := fun H => f_Model_back H 755) (h1 := h) (g1 := g) (g2 := up2 g 755 0 0) (v := 0) ?_ t ?_ I.th (by omega) (by omega)
    · show f_Water_back_b0 (uI h g) 1 = _
      unfold f_Water_back_b0
      rw [if_pos w1', hI_u, if_pos i1]
    · rw [M_back (h := uI h g) t.td.1, hI_u, if_pos i2]
      rfl
  · have t1 : TS (sR h 569 8 (hR h 707 8)) := t.sR8 (c := 12) (by decide)
    have d15 := t.ld (c := 15) (by decide)
    rw [la15] at d15
    obtain ⟨g1, q1, q2, q3, q4⟩ := C_copy (A := 569) (B := 707) (g := g) t.l9 d15 (Or.inl (by decide)) (by decide) (by decide) W R Lr
    refine cl_v (h := h) (g := g) (fw := fun H => f_Water_back H 1) (fm := fun H => f_Model_back H 755) (h1 := sR h 569 8 (hR h 707 8)) (g1 := up2 g1 15 2 0) (g2 := up2 (cpg (up2 (up2 g1 15 2 0) 755 0 0) 757 756 1454) 755 7 0) (v := 1) ?_ t1 ?_ ?_ (by show hN h ≤ hN h + 1170; omega) (by show hZ h ≤ hZ h + 14000; omega)
    · show f_Water_back_b0 (uI h g) 1 = _
      unfold f_Water_back_b0
      rw [if_pos w1', hI_u, i1, if_neg (by decide), w5, w7, if_pos (show hS (uI h g) 569 = 4 from t.l9.1), q1, bV_s, if_pos (show hS (uI (sR h 569 8 (hR h 707 8)) g1) 1 = 10 from t1.td.2.1.1), show hR (uI (sR h 569 8 (hR h 707 8)) g1) 1 3 = 15 from t1.td.2.1.2.1.2.2.2.1, if_pos (show hS (uI (sR h 569 8 (hR h 707 8)) g1) 15 = 8 from t1.2.2.2.2.2.1.1), wr_s, sI_u]
    · rw [M_back (h := uI (sR h 569 8 (hR h 707 8)) (up2 g1 15 2 0)) t1.td.1, hI_u, up_r (by decide), q4 755 (by omega), i2, if_neg (by decide), sI_u, cp_g, sI_u]
    · refine I.ba (N := N) (R := 0) (w := g 757) (I.2.2.2.2.2.2.1 15 (by decide)) W q2 q3 q4 (fun r e1 e2 e3 => by rw [up_row e2, cpg_r e3, up_row e2, up_row e1]) (fun k hk => by rw [up_r (by decide), cpg_k hk, up_r (by decide), up_r (by decide), q4 757 (by omega)]) (fun j e1 e2 => by rw [up_k e2, cpg_r (by decide), up_k e1, up_r (by decide), q4 755 (by omega)]) ?_ m2 ?_ up_eq (by decide) (fun i hi => absurd hi (Nat.not_lt_zero _))
      · rw [up_r (by decide), cpg_r (by decide), up_r (by decide), up_k (by decide), q4 15 (by omega)]; exact m1
      · rw [up_r (by decide), cpg_r (by decide), up_r (by decide), up_eq]; rfl
theorem C_latestL (t : TS h) (m1 : g 15 1 = nI N) (m2 : N < 12) : f_Memory_latestLand (uI h g) 15 = some (la N, uI h g) := by
  obtain ⟨s1, r1, ⟨s2, l2⟩, m⟩ := t.2.2.2.2.2.1
  have s15 : hS (uI h g) 15 = 8 := s1
  have r15 : hR (uI h g) 15 0 = 16 := r1
  have s16 : hS (uI h g) 16 = 26 := s2
  have l16 : hL (uI h g) 16 = 12 := l2
  have e : jrem (nI N) (12 : Int32) = nI N := by
    have := jrem_n (a := N) (d := 12) (by omega) (by decide) (by decide)
    rw [Nat.mod_eq_of_lt m2] at this
    exact this
  have x : (0 : Int32) ≤ (nI N ^^^ (12 : Int32)) := by
    have : ∀ n, n < 12 → (0 : Int32) ≤ (nI n ^^^ (12 : Int32)) := by decide
    exact this N m2
  unfold f_Memory_latestLand f_Memory_latestLand_b0 f_Math_floorMod f_Math_floorMod_b0
  rw [if_pos s15, hI_u, m1, if_pos (by decide), if_pos x, e, bI_s, r15, if_pos s16, l16, if_pos (ib_n m2 (by decide)), ix_n (by omega)]
  show some (hR h 16 N, uI h g) = _
  rw [(m N m2).1]
  rfl
theorem N_undo_L (t : TSr h) (hn : n < 12) : ∀ (j y : Nat) (g : Nat → Nat → Int32), y + j = 1454 → g 755 7 = nI n → (∀ k, k < y → g 756 k = g 760 (1454 * n + k)) → ∀ q, ∃ g', f_Model_undo_L26 (q + j + 1) (uI h g) 755 (nI y) = some (g' 756 4, uI h g') ∧ (∀ k, k < 1454 → g' 756 k = g 760 (1454 * n + k)) ∧ ∀ r, r ≠ 756 → g' r = g r := by
  have s7 : ∀ g, hS (uI h g) 755 = 11 := fun g => t.1
  have r1 : ∀ g, hR (uI h g) 755 1 = 756 := fun g => t.2.1.1
  have r5 : ∀ g, hR (uI h g) 755 5 = 760 := fun g => t.2.1.2.2.2.2.1
  obtain ⟨-, -, ⟨a1, a2⟩, -, -, -, ⟨b1, b2⟩, -⟩ := t
  have s6 : ∀ g, hS (uI h g) 756 = 20 := fun g => a1
  have l6 : ∀ g, hL (uI h g) 756 = 2291 := fun g => a2
  have s0 : ∀ g, hS (uI h g) 760 = 20 := fun g => b1
  have l0 : ∀ g, hL (uI h g) 760 = 17448 := fun g => b2
  intro j
  induction j with
  | zero =>
    intro y g hy e7 hg q
    have hy' : y = 1454 := hy
    subst hy'
    refine ⟨g, ?_, hg, fun _ _ => rfl⟩
    show f_Model_undo_b26 (f_Model_undo_L26 q) (uI h g) 755 (nI 1454) = _
    unfold f_Model_undo_b26
    rw [if_pos (show (1454 : Int32) ≤ nI 1454 by decide), if_pos (s7 _), r1, if_pos (s6 _), l6, if_pos (by decide)]
    rfl
  | succ j ih =>
    intro y g hy e7 hg q
    have E : f_Model_undo_L26 (q + (j + 1) + 1) (uI h g) 755 (nI y) = f_Model_undo_b26 (f_Model_undo_L26 (q + j + 1)) (uI h g) 755 (nI y) := rfl
    obtain ⟨g', z1, z2, z3⟩ := ih (y + 1) (up2 g 756 y (g 760 (1454 * n + y))) (by omega) (by rw [up_r (by decide)]; exact e7) (fun k hk => by
      by_cases e : k = y
      · subst e; rw [up_eq, up_r (by decide)]
      · rw [up_k e, up_r (by decide)]; exact hg k (by omega)) q
    refine ⟨g', ?_, fun k hk => by rw [z2 k hk, up_r (by decide)], fun r hr => (z3 r hr).trans (up_row hr)⟩
    rw [E]
    unfold f_Model_undo_b26
    rw [if_neg (show ¬ (1454 : Int32) ≤ nI y from nI_ge (b := 1454) (by omega) (by decide)), if_pos (s7 _), r5, if_pos (s0 _), hI_u, e7, show (1454 : Int32) * nI n + nI y = nI (1454 * n + y) from by rw [show (1454 : Int32) = nI 1454 from rfl, nI_mul, nI_add], l0, if_pos (ib_n (by omega) (by decide)), r1, if_pos (s6 _), l6, if_pos (ib_n (by omega) (by decide)), ix_n (by omega), ix_n (by omega), wr_s, sI_u, nI_1]
    exact z1
theorem sp_undo : VSp M (fun H => f_Water_undo H 1) (fun H => f_Model_undo H 755) := by
  intro H I
  obtain ⟨h, g, rfl⟩ : ∃ h g, H = uI h g := ⟨H, hI H, rfl⟩
  have I : INV M h g := I
  obtain ⟨t, -⟩ := I.us
  obtain ⟨⟨w1', -, -, -, w4', w5', -, -, w7', -, -⟩, -, -⟩ := WTR (g := g) t
  have w5 : ∀ g, hR (uI h g) 1 4 = 569 := fun g => w5'
  have w4 : ∀ g, hR (uI h g) 1 3 = 15 := fun g => w4'
  have s7 : hS (uI h g) 755 = 11 := t.td.1.1
  obtain ⟨N, Rm, m1, m2, m3, m4, m5, m6⟩ := I.2.2.2.1
  have s15 : hS (uI h g) 15 = 8 := t.2.2.2.2.2.1.1
  by_cases e : Rm = 0
  · subst e
    refine cl_v (h := h) (g := g) (fw := fun H => f_Water_undo H 1) (fm := fun H => f_Model_undo H 755) (h1 := h) (g1 := g) (g2 := up2 g 755 0 0) (v := -1) ?_ t ?_ I.th (by omega) (by omega)
    · show f_Water_undo_b0 (uI h g) 1 = _
      unfold f_Water_undo_b0
      rw [if_pos w1', w4, if_pos s15, hI_u, m3, if_pos (show nI 0 = 0 from rfl)]
    · show f_Model_undo_b0 (uI h g) 755 = _
      unfold f_Model_undo_b0
      rw [if_pos s7, wr_s, sI_u, hI_u, up_k (by decide), m4, if_pos (show nI 0 = 0 from rfl)]
  · have ne : ¬ nI Rm = 0 := nI_ne0 (by omega) (by omega)
    have lN : la N + 45 ≤ 568 := by unfold la; omega
    have l17 : 17 ≤ la N := by unfold la; omega
    have t1 : TS (sR h 569 8 (hR h (la N) 8)) := t.sR8 (c := 12) (by decide)
    have H0 := m6 0 (by omega)
    rw [show (N + 12 - 0) % 12 = N from by omega] at H0
    obtain ⟨W, R, Lr⟩ := H0
    obtain ⟨g1, q1, q2, q3, q4⟩ := C_copy (A := 569) (B := la N) (g := g) t.l9 (t.ld (by omega)) (Or.inr (by omega)) (by decide) (by omega) W R Lr
    have f15 : g1 15 = g 15 := q4 15 (by omega)
    have jr : jrem (nI (N + 11)) (12 : Int32) = nI ((N + 11) % 12) := jrem_n (d := 12) (by omega) (by decide) (by decide)
    have j1 : nI N + (12 : Int32) - (1 : Int32) = nI (N + 11) := by
      have := pk_sub (a := N + 12) (b := 1) (by omega)
      rw [← nI_add] at this
      exact this
    have j2 : nI Rm - (1 : Int32) = nI (Rm - 1) := pk_sub (b := 1) (by omega)
    have cf : f_Memory_forgetLatest (uI (sR h 569 8 (hR h (la N) 8)) g1) 15 = some (uI (sR h 569 8 (hR h (la N) 8)) (up2 (up2 g1 15 1 (nI ((N + 11) % 12))) 15 2 (nI (Rm - 1)))) := by
      have s : ∀ g, hS (uI (sR h 569 8 (hR h (la N) 8)) g) 15 = 8 := fun g => t1.2.2.2.2.2.1.1
      unfold f_Memory_forgetLatest f_Memory_forgetLatest_b0
      rw [if_pos (s _), hI_u, f15, m1, j1, jr, wr_s, sI_u, hI_u, up_k (by decide), f15, m3, j2, show (0 : Int32) = nI 0 from rfl, mx_n (by decide) (by omega), bI_s, if_pos (s _), wr_s, sI_u, show max 0 (Rm - 1) = Rm - 1 from by omega]
    obtain ⟨G, z1, z2, z3⟩ := N_undo_L (h := sR h 569 8 (hR h (la N) 8)) (n := Rm - 1) t1.td.1 (by omega) 1454 0 (up2 (up2 (up2 (up2 g1 15 1 (nI ((N + 11) % 12))) 15 2 (nI (Rm - 1))) 755 0 0) 755 7 (nI (Rm - 1))) rfl up_eq (fun k hk => absurd hk (Nat.not_lt_zero _)) 998545
    have g760 : (up2 (up2 (up2 (up2 g1 15 1 (nI ((N + 11) % 12))) 15 2 (nI (Rm - 1))) 755 0 0) 755 7 (nI (Rm - 1))) 760 = g 760 := by rw [up_row (by decide), up_row (by decide), up_row (by decide), up_row (by decide), q4 760 (by omega)]
    have z2' : ∀ k, k < 1454 → G 756 k = wmo g (Rm - 1) k := fun k hk => by rw [z2 k hk, g760]; rfl
    have v4 : g1 569 10 = G 756 4 := (q2.1.2.2.2.2.1).trans (z2' 4 (by decide)).symm
    refine cl_v (h := h) (g := g) (fw := fun H => f_Water_undo H 1) (fm := fun H => f_Model_undo H 755) (h1 := sR h 569 8 (hR h (la N) 8)) (g1 := up2 (up2 g1 15 1 (nI ((N + 11) % 12))) 15 2 (nI (Rm - 1))) (g2 := G) (v := G 756 4) ?_ t1 ?_ ?_ (by show hN h ≤ hN h + 1170; omega) (by show hZ h ≤ hZ h + 14000; omega)
    · show f_Water_undo_b0 (uI h g) 1 = _
      unfold f_Water_undo_b0
      rw [if_pos w1', w4, if_pos s15, hI_u, m3, if_neg ne, C_latestL t m1 m2, bI_s, w5, if_pos (show hS (uI h g) 569 = 4 from t.l9.1), q1, bV_s, if_pos (show hS (uI (sR h 569 8 (hR h (la N) 8)) g1) 1 = 10 from t1.td.2.1.1), show hR (uI (sR h 569 8 (hR h (la N) 8)) g1) 1 3 = 15 from t1.td.2.1.2.1.2.2.2.1, if_pos (show hS (uI (sR h 569 8 (hR h (la N) 8)) g1) 15 = 8 from t1.2.2.2.2.2.1.1), cf, bV_s, if_pos (show hS (uI (sR h 569 8 (hR h (la N) 8)) (up2 (up2 g1 15 1 (nI ((N + 11) % 12))) 15 2 (nI (Rm - 1)))) 1 = 10 from t1.td.2.1.1), show hR (uI (sR h 569 8 (hR h (la N) 8)) (up2 (up2 g1 15 1 (nI ((N + 11) % 12))) 15 2 (nI (Rm - 1)))) 1 4 = 569 from t1.td.2.1.2.1.2.2.2.2.1, if_pos (show hS (uI (sR h 569 8 (hR h (la N) 8)) (up2 (up2 g1 15 1 (nI ((N + 11) % 12))) 15 2 (nI (Rm - 1)))) 569 = 4 from t1.l9.1), hI_u, up_r (by decide), up_r (by decide), v4]
    · show f_Model_undo_b0 (uI (sR h 569 8 (hR h (la N) 8)) (up2 (up2 g1 15 1 (nI ((N + 11) % 12))) 15 2 (nI (Rm - 1)))) 755 = _
      have s : ∀ g, hS (uI (sR h 569 8 (hR h (la N) 8)) g) 755 = 11 := fun g => t1.td.1.1
      unfold f_Model_undo_b0
      rw [if_pos (s _), wr_s, sI_u, hI_u, up_k (by decide), up_r (by decide), up_r (by decide), q4 755 (by omega), m4, if_neg ne, j2, wr_s, sI_u]
      exact z1
    · refine I.ba (N := (N + 11) % 12) (R := Rm - 1) (w := wmo g (Rm - 1)) (B := la N) (I.2.2.2.2.2.2.1 N (by omega)) W q2 q3 q4 (fun r e1 e2 e3 => by rw [z3 r e3, up_row e2, up_row e2, up_row e1, up_row e1]) z2' (fun j e1 e2 => by rw [z3 755 (by decide), up_k e2, up_k e1, up_r (by decide), up_r (by decide), q4 755 (by omega)]) ?_ (by omega) ?_ ?_ (by omega) (fun i hi => ?_)
      · rw [z3 15 (by decide), up_r (by decide), up_r (by decide), up_k (by decide), up_eq]
      · rw [z3 15 (by decide), up_r (by decide), up_r (by decide), up_eq]
      · rw [z3 755 (by decide), up_eq]
      · have := m6 (i + 1) (by omega)
        rw [show (N + 12 - (i + 1)) % 12 = ((N + 11) % 12 + 12 - i) % 12 from by omega, show Rm - 1 - (i + 1) = Rm - 1 - 1 - i from by omega] at this
        exact this
end U33
