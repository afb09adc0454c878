/-! ===== land: class and reference ===== -/
section U76
variable {h h' : Hp} {g g' g1 g2 G : Nat → Nat → Int32} {w w' : Nat → Int32} {b : Nat → Nat} {T p q n i j k m c s r d S M A a B N K y lo hi e nn hh : Nat} {v u x : Int32} {L l : List (Nat × Nat × Nat × Nat)} {z : Nat × Nat × Nat × Nat}
/-- a land of the reference -/
theorem N_land (t : TSr h) (e9 : g 755 9 = nI T) (hT : T ≤ 400) (hb : ∀ k, k < T → BY (g 761 k) (b k)) (e6 : g 756 = w) (W : WF M w) : ∃ v g', f_Model_land (uI h g) 755 = some (v, uI h g') ∧ (∀ r, r ≠ 755 → r ≠ 756 → r ≠ 758 → g' r = g r) ∧ g' 755 9 = 0 ∧ g' 755 6 = g 755 6 ∧ g' 755 7 = g 755 7 ∧ ((∃ q, laDT b T (nc w) (nh w) = .inl q ∧ g' 755 0 = 1 ∧ g' 755 14 = nI q ∧ ∀ k, k < 1454 → g' 756 k = w k) ∨ (∃ L, laDT b T (nc w) (nh w) = .inr L ∧ w 2 = 10 ∧ g' 755 0 = 2 ∧ g' 755 14 = -1 ∧ ∀ k, k < 1454 → g' 756 k = w k) ∨ (∃ L, laDT b T (nc w) (nh w) = .inr L ∧ w 2 ≠ 10 ∧ v = w 2 + 1 ∧ g' 755 0 = 0 ∧ g' 755 14 = -1 ∧ g' 756 = up1 (landW w L) 2 (w 2 + 1) ∧ LOs w L ∧ L.length ≤ 14)) := by
  have s7 : ∀ g, hS (uI h g) 755 = 11 := fun g => t.1
  have r1 : ∀ g, hR (uI h g) 755 1 = 756 := fun g => t.2.1.1
  have sa : ∀ g, hS (uI h g) 756 = 20 := fun g => t.2.2.1.1
  have la' : ∀ g, hL (uI h g) 756 = 2291 := fun g => t.2.2.1.2
  obtain ⟨G, x1, x2, -, x4⟩ := N_land_2 (f := fun _ _ _ => none) t 1454 0 g rfl (999999 - 1454)
  rw [← FU_mm (by decide)] at x1
  have x1 : f_Model_land_L2 FU (uI h g) 755 0 = _ := x1
  obtain ⟨v, g1, a1, a2, a3, a4, a5, a6, a7⟩ := N_readLand (g := G) t (by rw [x4 755 (by decide)]; exact e9) hT (fun k hk => by rw [x4 761 (by decide)]; exact hb k hk) (by rw [x4 756 (by decide)]; exact e6) W
  have go : f_Model_land (uI h g) 755 = (if 0 ≤ v then f_Model_land_b46 (uI h g1) 755 v 755 (-1) else f_Model_land_b46 (uI h g1) 755 v 755 (g1 755 12)) := by
    unfold f_Model_land f_Model_land_b0
    rw [x1]
    unfold f_Model_land_b2
    rw [if_pos (show (1454 : Int32) ≤ nI 1454 from Int32.le_refl _), if_pos (s7 _), a1, bI_s]
    by_cases q : 0 ≤ v
    · rw [if_pos q, if_pos q]
    · rw [if_neg q, if_neg q, if_pos (s7 _), hI_u]
  have b8 : ∀ k, k < 1454 → g1 758 k = w k := fun k hk => by rw [a3 758 (by decide) (by decide), x2 k (Nat.zero_le _) hk, e6]
  have out : ∀ r, r ≠ 755 → r ≠ 756 → r ≠ 758 → g1 r = g r := fun r h1 h2 h3 => (a3 r h1 h2).trans (x4 r h3)
  have j6 : g1 755 6 = g 755 6 := a5.trans (by rw [x4 755 (by decide)])
  have j7 : g1 755 7 = g 755 7 := a6.trans (by rw [x4 755 (by decide)])
  -- all is laid back
  have back : ∀ Q : Nat → Nat → Int32, (∀ k, k < 1454 → Q 758 k = w k) → ∃ g', f_Model_land_b90 (uI h Q) 755 = some (0, uI h g') ∧ (∀ k, k < 1454 → g' 756 k = w k) ∧ ∀ r, r ≠ 756 → g' r = Q r := by
    intro Q hQ
    obtain ⟨G', y1, y2, y3, y4⟩ := N_land_92 t 1454 0 Q rfl (999999 - 1454)
    rw [← FU_mm (by decide)] at y1
    exact ⟨G', y1, fun k hk => (y2 k (Nat.zero_le _) hk).trans (hQ k hk), y4⟩
  cases hr : laDT b T (nc w) (nh w) with
  | inl q =>
    rw [hr] at a2
    obtain ⟨rfl, a2⟩ := a2
    obtain ⟨g', y1, y2, y3⟩ := back (up2 (up2 g1 755 14 (nI q)) 755 0 1) (fun k hk => by rw [up_row (by decide), up_row (by decide)]; exact b8 k hk)
    refine ⟨0, g', ?_, fun r h1 h2 h3 => by rw [y3 r h2, up_row h1, up_row h1]; exact out r h1 h2 h3, by rw [y3 755 (by decide), up_k (by decide), up_k (by decide)]; exact a4, by rw [y3 755 (by decide), up_k (by decide), up_k (by decide)]; exact j6, by rw [y3 755 (by decide), up_k (by decide), up_k (by decide)]; exact j7, Or.inl ⟨q, rfl, by rw [y3 755 (by decide), up_eq], by rw [y3 755 (by decide), up_k (by decide), up_eq], y2⟩⟩
    rw [go, if_neg (by decide)]
    unfold f_Model_land_b46 f_Model_land_b59
    rw [if_pos (s7 _), a2, wr_s, sI_u, if_neg (by decide), if_pos (s7 _), N_thr1 t, bI_s, if_neg (by decide)]
    exact y1
  | inr L =>
    rw [hr] at a2
    obtain ⟨rfl, c1, c2, c3⟩ := a2
    have Lw := (LOs.wf W c2).2.2.1
    have p0 : (0 : Int32) ≤ nI (0 + L.length) := nI_pos' (by omega)
    have b59 : f_Model_land (uI h g) 755 = (if w 2 = 10 then f_Model_land_b83 (uI h (up2 g1 755 14 (-1))) 755 755 1 else f_Model_land_b83 (uI h (up2 g1 755 14 (-1))) 755 755 0) := by
      rw [go, if_pos p0]
      unfold f_Model_land_b46 f_Model_land_b59
      rw [if_pos (s7 _), wr_s, sI_u, if_pos p0, if_pos (s7 _), N_thr0 t, bI_s, if_pos rfl, if_pos (s7 _), r1, if_pos (sa _), la', if_pos (by decide), show ix (2 : Int32) = 2 from rfl, hI_u, up_row (by decide), c1, Lw]
    rw [b59]
    by_cases q10 : w 2 = 10
    · obtain ⟨g', y1, y2, y3⟩ := back (up2 (up2 g1 755 14 (-1)) 755 0 2) (fun k hk => by rw [up_row (by decide), up_row (by decide)]; exact b8 k hk)
      refine ⟨0, g', ?_, fun r h1 h2 h3 => by rw [y3 r h2, up_row h1, up_row h1]; exact out r h1 h2 h3, by rw [y3 755 (by decide), up_k (by decide), up_k (by decide)]; exact a4, by rw [y3 755 (by decide), up_k (by decide), up_k (by decide)]; exact j6, by rw [y3 755 (by decide), up_k (by decide), up_k (by decide)]; exact j7, Or.inr (Or.inl ⟨L, rfl, q10, by rw [y3 755 (by decide), up_eq], by rw [y3 755 (by decide), up_k (by decide), up_eq], y2⟩)⟩
      rw [if_pos q10]
      unfold f_Model_land_b83
      rw [if_pos (s7 _), N_thr1 t, bI_s, if_neg (by decide)]
      exact y1
    · refine ⟨w 2 + 1, up2 (up2 g1 755 14 (-1)) 756 2 (w 2 + 1), ?_, fun r h1 h2 h3 => by rw [up_row h2, up_row h1]; exact out r h1 h2 h3, by rw [up_row (by decide), up_k (by decide)]; exact a4, by rw [up_row (by decide), up_k (by decide)]; exact j6, by rw [up_row (by decide), up_k (by decide)]; exact j7, Or.inr (Or.inr ⟨L, rfl, q10, rfl, by rw [up_row (by decide), up_k (by decide)]; exact a7, by rw [up_row (by decide), up_eq], by rw [up2_row, up_row (by decide), c1], c2, by omega⟩)⟩
      rw [if_neg q10]
      unfold f_Model_land_b83
      rw [if_pos (s7 _), N_thr0 t, bI_s, if_pos rfl, if_pos (s7 _), r1, if_pos (sa _), la', if_pos (by decide), if_pos (by decide), show ix (2 : Int32) = 2 from rfl, hI_u, up_row (by decide), c1, Lw, wr_s, sI_u, r1, if_pos (sa _), la', if_pos (by decide), hI_u, up_eq]
/-- a land told in the invariant -/
theorem INV.ld (I : INV M h g) (x : ∀ r, ¬ TXR r → ¬ (569 ≤ r ∧ r ≤ 614) → G r = g r) (x1 : ∀ j, j ≠ 11 → G 1 j = g 1 j) (x5 : G 755 6 = g 755 6 ∧ G 755 7 = g 755 7) (xw : G 1 11 = G 755 14) (xt : TAP G) (xm : MOS G) (W' : WF M w') (R' : RLa G 569 w') (e6 : G 756 = w') (hi : ∀ k, 617 ≤ k → w' k = g 756 k) (e3 : w' 3 = g 756 3) : INV M h G := by
  obtain ⟨t, H, I1, ⟨N, R, m1, m2, m3, m4, m5, m6⟩, -, W, lb, mo⟩ := I
  have X : ∀ r, ¬ (r = 1 ∨ r = 2 ∨ (4 ≤ r ∧ r ≤ 14) ∨ r = 755 ∨ r = 756 ∨ r = 758) → ¬ (569 ≤ r ∧ r ≤ 614) → G r = g r := x
  have z : FZ h g G := fun r hr _ => X r (by omega) (by omega)
  refine ⟨t, ?_, ?_, ⟨N, R, ?_, m2, ?_, ?_, m5, fun i hi => ?_⟩, xt, xw, lb, xm⟩
  · rw [e6]
    exact ⟨W', R', LR.congr (H.2.2.fz z) e3 hi⟩
  · rcases I1 with ⟨i1, i2⟩ | ⟨i1, i2, i3⟩
    · exact Or.inl ⟨by rw [x1 10 (by decide)]; exact i1, by rw [x5.1]; exact i2⟩
    · exact Or.inr ⟨by rw [x1 10 (by decide)]; exact i1, by rw [x5.1]; exact i2, by rw [X 757 (by omega) (by omega)]; exact i3.fz z fun r h1 h2 _ => X r (by omega) (by omega)⟩
  · rw [X 15 (by omega) (by omega)]; exact m1
  · rw [X 15 (by omega) (by omega)]; exact m3
  · rw [x5.2]; exact m4
  · have e : wmo G (R - 1 - i) = wmo g (R - 1 - i) := funext fun k => by unfold wmo; rw [X 760 (by omega) (by omega)]
    have := Nat.mod_lt (N + 12 - i) (show 0 < 12 by decide)
    rw [e]
    exact (m6 i hi).fz z fun r h1 h2 _ => X r (by unfold la at *; omega) (by unfold la at *; omega)
theorem WF.tx2 (W : WF M w) (hu : u = nI n) (hn : n ≤ 10) : WF M (up1 w 2 u) := by
  obtain ⟨W0, W1, -, W3, W4, W5, W6, W7, W8, W9⟩ := W
  have o : ∀ j, j ≠ 2 → up1 w 2 u j = w j := fun j hj => up1_ne hj
  have n0 : nc (up1 w 2 u) = nc w := congrArg ix (o 0 (by decide))
  have n1 : nh (up1 w 2 u) = nh w := congrArg ix (o 1 (by decide))
  have n2 : nd (up1 w 2 u) = nd w := congrArg ix (o 10 (by decide))
  obtain ⟨B1, B2, B3⟩ := W1
  refine ⟨⟨by rw [n0, o 0 (by decide)]; exact W0.1, by rw [n1, o 1 (by decide)]; exact W0.2.1, by rw [n2, o 10 (by decide)]; exact W0.2.2⟩, ⟨by rw [n0]; exact B1, by rw [n1]; exact B2, by rw [n2]; exact B3⟩, ⟨n, up1_eq.trans hu, hn⟩, by rw [o 4 (by decide)]; exact W3, by rw [o 3 (by decide)]; exact W4.imp id (fun z => ⟨z.1, z.2.congr fun k hk => o k (by omega)⟩), fun c hc => ?_, fun k hk => ?_, fun k h1 h2 j hj => ?_, fun d hd => ?_, fun y hy => by rw [o _ (by omega)]; exact W9 y hy⟩
  · rw [n0] at hc ⊢
    exact (W5 c hc).kp fun j hj => o _ (by omega)
  · rw [n1] at hk
    exact (W6 k hk).kp (fun j hj => o _ (by omega)) (by rw [n0]; exact Nat.le_refl _)
  · rw [n1] at h1
    rw [o _ (by omega)]; exact W7 k h1 h2 j hj
  · rw [n2] at hd
    obtain ⟨d1, d2, d3⟩ := W8 d hd
    exact ⟨by rw [n1, o _ (by omega)]; exact d1, by rw [o _ (by omega)]; exact d2, by rw [o _ (by omega)]; exact d3⟩
theorem RLa.tx2 (R : RLa g A w) (B : WFb w) : RLa (up2 g A 9 v) A (up1 w 2 v) := by
  refine R.sca B (fun r _ _ h1 _ => up_row h1) (fun j hj => up1_ne (by omega)) ?_
  obtain ⟨s0, s1, s2, s3, s4, s5, s6, s7, s8, s9⟩ := R.1
  have e : ∀ j, j ≠ 2 → up1 w 2 v j = w j := fun j hj => up1_ne hj
  have f : ∀ j, j ≠ 9 → up2 g A 9 v A j = g A j := fun j hj => up_k hj
  exact ⟨by rw [f 0 (by decide), e 0 (by decide)]; exact s0, by rw [f 1 (by decide), e 1 (by decide)]; exact s1, by rw [f 2 (by decide), e 10 (by decide)]; exact s2, by rw [up_eq, up1_eq], by rw [f 10 (by decide), e 4 (by decide)]; exact s4, by rw [f 11 (by decide), e 5 (by decide)]; exact s5, by rw [f 12 (by decide), e 6 (by decide)]; exact s6, by rw [f 13 (by decide), e 7 (by decide)]; exact s7, by rw [f 14 (by decide), e 8 (by decide)]; exact s8, by rw [f 15 (by decide), e 9 (by decide)]; exact s9⟩
end U76
