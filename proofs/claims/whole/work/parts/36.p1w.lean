section P1W
variable {h h' : Hp} {t f sh z k r : Nat}
theorem stage (hn : hN h + 1 = t) (h1 : 1 ≤ hN h) (q : ∀ r, r < t → SM (hA h sh 0 z) h' r) : (∀ r, r ≤ hN h → r ≠ 1 → SM h (sR h' 1 f t) r) ∧ hS (sR h' 1 f t) 1 = hS h 1 ∧ hI (sR h' 1 f t) 1 = hI h 1 ∧ ∀ k, hR (sR h' 1 f t) 1 k = if k = f then t else hR h 1 k := by
  have S : ∀ r, r ≤ hN h → SM h h' r := fun r hr => (SM.hA (by omega)).tr (q r (by omega))
  have S1 := S 1 h1
  refine ⟨fun r hr e => (S r hr).tr (SM.sR e), S1.1, S1.2.2.1, fun k => ?_⟩
  by_cases e : k = f
  · subst e
    rw [if_pos rfl]
    exact if_pos ⟨rfl, rfl⟩
  · rw [if_neg e]
    exact (if_neg fun z => e z.2).trans (congrFun S1.2.2.2.1 k)
theorem stageA (hn : hN h + 1 = t) (h1 : 1 ≤ hN h) : (∀ r, r ≤ hN h → r ≠ 1 → SM h (sR (hA h sh z z) 1 f t) r) ∧ hS (sR (hA h sh z z) 1 f t) 1 = hS h 1 ∧ hI (sR (hA h sh z z) 1 f t) 1 = hI h 1 ∧ (∀ k, hR (sR (hA h sh z z) 1 f t) 1 k = if k = f then t else hR h 1 k) ∧ BL (sR (hA h sh z z) 1 f t) t sh z := by
  have S : ∀ r, r ≤ hN h → SM h (hA h sh z z) r := fun r hr => SM.hA (by omega)
  have S1 := S 1 h1
  refine ⟨fun r hr e => (S r hr).tr (SM.sR e), S1.1, S1.2.2.1, fun k => ?_, by rw [← hn]; exact BL.new.sm (SM.sR (by omega))⟩
  by_cases e : k = f
  · subst e
    rw [if_pos rfl]
    exact if_pos ⟨rfl, rfl⟩
  · rw [if_neg e]
    exact (if_neg fun z => e z.2).trans (congrFun S1.2.2.2.1 k)
/-- a new VintageWater at 1, all it has behind it -/
def WA (h : Hp) : Prop := hS h 1 = 10 ∧ (∀ k, hI h 1 k = if k = 11 then -1 else 0) ∧ (hR h 1 0 = 2 ∧ hR h 1 1 = 6 ∧ hR h 1 2 = 11 ∧ hR h 1 3 = 15 ∧ hR h 1 4 = 569 ∧ hR h 1 5 = 615 ∧ hR h 1 6 = 661 ∧ hR h 1 7 = 707 ∧ hR h 1 8 = 753 ∧ hR h 1 9 = 754) ∧
  TP h 2 ∧ LT h 6 2 ∧ WT h 11 2 ∧ (hS h 15 = 8 ∧ (∀ k, hI h 15 k = 0) ∧ hR h 15 0 = 16 ∧ hS h 16 = 26 ∧ hL h 16 = 12 ∧ ∀ c, c < 12 → hR h 16 c = 17 + 46 * c ∧ LN h (17 + 46 * c)) ∧ LN h 569 ∧ LN h 615 ∧ LN h 661 ∧ LN h 707 ∧ BL h 753 20 8 ∧ BL h 754 20 30
set_option maxHeartbeats 1000000 in
theorem water_new (g0 : hN h = 1) (B : BL h 1 10 0) : ∃ h', f_Water_init h 1 = some h' ∧ hN h' = 754 ∧ hZ h' ≤ hZ h + 14000 ∧ WA h' := by
  have s0 := B.1
  have w0 : hN h + 1 = 2 := by omega
  obtain ⟨k0, e0, n0, z0, m0, x0⟩ := tp_new (h := hA h 9 0 6) (t := 2) w0 (by have B9 := BL.new (h := h) (s := 9) (l := 0) (z := 6); rw [w0] at B9; exact B9)
  obtain ⟨c0, s1, i0, r0⟩ := stage (f := 0) w0 (by omega) m0
  obtain ⟨p0, hp0⟩ : ∃ p, p = sR k0 1 0 2 := ⟨_, rfl⟩
  rw [← hp0] at c0 s1 i0 r0
  have N0 : hN p0 = 5 := by rw [hp0]; show hN k0 = _; omega
  have Z0 : hZ p0 = hZ k0 := by rw [hp0]; rfl
  have X0 := tp_sm2 (h' := p0) x0 (fun r _ _ => by rw [hp0]; exact SM.sR (by omega))
  have w1 : hN p0 + 1 = 6 := by omega
  obtain ⟨k1, e1, n1, z1, m1, x1⟩ := lt_new (h := hA p0 5 0 12) (t := 6) (x1 := 2) w1 (by have B9 := BL.new (h := p0) (s := 5) (l := 0) (z := 12); rw [w1] at B9; exact B9)
  obtain ⟨c1, s2, i1, r1⟩ := stage (f := 1) w1 (by omega) m1
  obtain ⟨p1, hp1⟩ : ∃ p, p = sR k1 1 1 6 := ⟨_, rfl⟩
  rw [← hp1] at c1 s2 i1 r1
  have N1 : hN p1 = 10 := by rw [hp1]; show hN k1 = _; omega
  have Z1 : hZ p1 = hZ k1 := by rw [hp1]; rfl
  have X1 := lt_sm2 (h' := p1) x1 (fun r _ _ => by rw [hp1]; exact SM.sR (by omega))
  have w2 : hN p1 + 1 = 11 := by omega
  obtain ⟨k2, e2, n2, z2, m2, x2⟩ := wt_new (h := hA p1 7 0 7) (t := 11) (x1 := 2) w2 (by have B9 := BL.new (h := p1) (s := 7) (l := 0) (z := 7); rw [w2] at B9; exact B9)
  obtain ⟨c2, s3, i2, r2⟩ := stage (f := 2) w2 (by omega) m2
  obtain ⟨p2, hp2⟩ : ∃ p, p = sR k2 1 2 11 := ⟨_, rfl⟩
  rw [← hp2] at c2 s3 i2 r2
  have N2 : hN p2 = 14 := by rw [hp2]; show hN k2 = _; omega
  have Z2 : hZ p2 = hZ k2 := by rw [hp2]; rfl
  have X2 := wt_sm2 (h' := p2) x2 (fun r _ _ => by rw [hp2]; exact SM.sR (by omega))
  have w3 : hN p2 + 1 = 15 := by omega
  obtain ⟨k3, e3, n3, z3, m3, x3⟩ := mem_new (h := hA p2 8 0 3) (m := 15) w3 (if_pos w3.symm)
  obtain ⟨c3, s4, i3, r3⟩ := stage (f := 3) w3 (by omega) m3
  obtain ⟨p3, hp3⟩ : ∃ p, p = sR k3 1 3 15 := ⟨_, rfl⟩
  rw [← hp3] at c3 s4 i3 r3
  have N3 : hN p3 = 568 := by rw [hp3]; show hN k3 = _; omega
  have Z3 : hZ p3 = hZ k3 := by rw [hp3]; rfl
  have M0 : hS p3 15 = 8 ∧ (∀ k, hI p3 15 k = 0) ∧ hR p3 15 0 = 16 ∧ hS p3 16 = 26 ∧ hL p3 16 = 12 ∧ ∀ c, c < 12 → hR p3 16 c = 17 + 46 * c ∧ LN p3 (17 + 46 * c) := by
    obtain ⟨⟨y1, y2, y3⟩, y4, y5, y6⟩ := x3
    have t15 : SM k3 p3 15 := by rw [hp3]; exact SM.sR (by omega)
    have t16 : SM k3 p3 16 := by rw [hp3]; exact SM.sR (by omega)
    refine ⟨t15.1.trans y1, fun k => ?_, (congrFun t15.2.2.2.1 0).trans ((y3 0).trans (if_pos rfl)), t16.1.trans y5, t16.2.1.trans y6, fun c hc => ⟨(congrFun t16.2.2.2.1 c).trans (y4 c hc).1, (y4 c hc).2.sm fun r _ _ => by rw [hp3]; exact SM.sR (by omega)⟩⟩
    rw [t15.2.2.1, y2]
    exact if_pos w3.symm
  have w4 : hN p3 + 1 = 569 := by omega
  obtain ⟨k4, e4, n4, z4, m4, x4⟩ := land_new (h := hA p3 4 0 16) (a := 569) w4 (by have B9 := BL.new (h := p3) (s := 4) (l := 0) (z := 16); rw [w4] at B9; exact B9)
  obtain ⟨c4, s5, i4, r4⟩ := stage (f := 4) w4 (by omega) m4
  obtain ⟨p4, hp4⟩ : ∃ p, p = sR k4 1 4 569 := ⟨_, rfl⟩
  rw [← hp4] at c4 s5 i4 r4
  have N4 : hN p4 = 614 := by rw [hp4]; show hN k4 = _; omega
  have Z4 : hZ p4 = hZ k4 := by rw [hp4]; rfl
  have X4 := LN.sm (h' := p4) x4 (fun r _ _ => by rw [hp4]; exact SM.sR (by omega))
  have w5 : hN p4 + 1 = 615 := by omega
  obtain ⟨k5, e5, n5, z5, m5, x5⟩ := land_new (h := hA p4 4 0 16) (a := 615) w5 (by have B9 := BL.new (h := p4) (s := 4) (l := 0) (z := 16); rw [w5] at B9; exact B9)
  obtain ⟨c5, s6, i5, r5⟩ := stage (f := 5) w5 (by omega) m5
  obtain ⟨p5, hp5⟩ : ∃ p, p = sR k5 1 5 615 := ⟨_, rfl⟩
  rw [← hp5] at c5 s6 i5 r5
  have N5 : hN p5 = 660 := by rw [hp5]; show hN k5 = _; omega
  have Z5 : hZ p5 = hZ k5 := by rw [hp5]; rfl
  have X5 := LN.sm (h' := p5) x5 (fun r _ _ => by rw [hp5]; exact SM.sR (by omega))
  have w6 : hN p5 + 1 = 661 := by omega
  obtain ⟨k6, e6, n6, z6, m6, x6⟩ := land_new (h := hA p5 4 0 16) (a := 661) w6 (by have B9 := BL.new (h := p5) (s := 4) (l := 0) (z := 16); rw [w6] at B9; exact B9)
  obtain ⟨c6, s7, i6, r6⟩ := stage (f := 6) w6 (by omega) m6
  obtain ⟨p6, hp6⟩ : ∃ p, p = sR k6 1 6 661 := ⟨_, rfl⟩
  rw [← hp6] at c6 s7 i6 r6
  have N6 : hN p6 = 706 := by rw [hp6]; show hN k6 = _; omega
  have Z6 : hZ p6 = hZ k6 := by rw [hp6]; rfl
  have X6 := LN.sm (h' := p6) x6 (fun r _ _ => by rw [hp6]; exact SM.sR (by omega))
  have w7 : hN p6 + 1 = 707 := by omega
  obtain ⟨k7, e7, n7, z7, m7, x7⟩ := land_new (h := hA p6 4 0 16) (a := 707) w7 (by have B9 := BL.new (h := p6) (s := 4) (l := 0) (z := 16); rw [w7] at B9; exact B9)
  obtain ⟨c7, s8, i7, r7⟩ := stage (f := 7) w7 (by omega) m7
  obtain ⟨p7, hp7⟩ : ∃ p, p = sR k7 1 7 707 := ⟨_, rfl⟩
  rw [← hp7] at c7 s8 i7 r7
  have N7 : hN p7 = 752 := by rw [hp7]; show hN k7 = _; omega
  have Z7 : hZ p7 = hZ k7 := by rw [hp7]; rfl
  have X7 := LN.sm (h' := p7) x7 (fun r _ _ => by rw [hp7]; exact SM.sR (by omega))
  have w8 : hN p7 + 1 = 753 := by omega
  obtain ⟨c8, s9, i8, r8, X8⟩ := stageA (sh := 20) (z := 8) (f := 8) w8 (by omega)
  obtain ⟨p8, hp8⟩ : ∃ p, p = sR (hA p7 20 8 8) 1 8 753 := ⟨_, rfl⟩
  rw [← hp8] at c8 s9 i8 r8 X8
  have N8 : hN p8 = 753 := by rw [hp8]; exact w8
  have Z8 : hZ p8 = hZ p7 + 8 := by rw [hp8]; exact hzA
  have w9 : hN p8 + 1 = 754 := by omega
  obtain ⟨c9, s10, i9, r9, X9⟩ := stageA (sh := 20) (z := 30) (f := 9) w9 (by omega)
  obtain ⟨p9, hp9⟩ : ∃ p, p = sR (hA p8 20 30 30) 1 9 754 := ⟨_, rfl⟩
  rw [← hp9] at c9 s10 i9 r9 X9
  have N9 : hN p9 = 754 := by rw [hp9]; exact w9
  have Z9 : hZ p9 = hZ p8 + 30 := by rw [hp9]; exact hzA
  have cf : ∀ r, r ≠ 1 → SM p9 (sI p9 1 11 (-1)) r := fun r e => SM.sI e
  have f9 : ∀ r, r ≠ 1 → SM p9 (sI p9 1 11 (-1)) r := cf
  have f8 : ∀ r, r ≤ 753 → r ≠ 1 → SM p8 (sI p9 1 11 (-1)) r := fun r h e => (c9 r (by omega) e).tr (f9 r e)
  have f7 : ∀ r, r ≤ 752 → r ≠ 1 → SM p7 (sI p9 1 11 (-1)) r := fun r h e => (c8 r (by omega) e).tr (f8 r (by omega) e)
  have f6 : ∀ r, r ≤ 706 → r ≠ 1 → SM p6 (sI p9 1 11 (-1)) r := fun r h e => (c7 r (by omega) e).tr (f7 r (by omega) e)
  have f5 : ∀ r, r ≤ 660 → r ≠ 1 → SM p5 (sI p9 1 11 (-1)) r := fun r h e => (c6 r (by omega) e).tr (f6 r (by omega) e)
  have f4 : ∀ r, r ≤ 614 → r ≠ 1 → SM p4 (sI p9 1 11 (-1)) r := fun r h e => (c5 r (by omega) e).tr (f5 r (by omega) e)
  have f3 : ∀ r, r ≤ 568 → r ≠ 1 → SM p3 (sI p9 1 11 (-1)) r := fun r h e => (c4 r (by omega) e).tr (f4 r (by omega) e)
  have f2 : ∀ r, r ≤ 14 → r ≠ 1 → SM p2 (sI p9 1 11 (-1)) r := fun r h e => (c3 r (by omega) e).tr (f3 r (by omega) e)
  have f1 : ∀ r, r ≤ 10 → r ≠ 1 → SM p1 (sI p9 1 11 (-1)) r := fun r h e => (c2 r (by omega) e).tr (f2 r (by omega) e)
  have f0 : ∀ r, r ≤ 5 → r ≠ 1 → SM p0 (sI p9 1 11 (-1)) r := fun r h e => (c1 r (by omega) e).tr (f1 r (by omega) e)
  refine ⟨sI p9 1 11 (-1), ?_, N9, ?_, ?_, ?_, ⟨?_, ?_, ?_, ?_, ?_, ?_, ?_, ?_, ?_, ?_⟩, tp_sm2 X0 fun r _ _ => f0 r (by omega) (by omega), lt_sm2 X1 fun r _ _ => f1 r (by omega) (by omega), wt_sm2 X2 fun r _ _ => f2 r (by omega) (by omega), ?_, X4.sm fun r _ _ => f4 r (by omega) (by omega), X5.sm fun r _ _ => f5 r (by omega) (by omega), X6.sm fun r _ _ => f6 r (by omega) (by omega), X7.sm fun r _ _ => f7 r (by omega) (by omega), X8.sm (f8 753 (by omega) (by omega)), X9.sm (f9 754 (by omega))⟩
  rotate_left
  · rw [hzI]
    rw [hzA] at z0 z1 z2 z3 z4 z5 z6 z7
    omega
  · exact s10.trans (s9.trans (s8.trans (s7.trans (s6.trans (s5.trans (s4.trans (s3.trans (s2.trans (s1.trans s0)))))))))
  · intro k
    by_cases e : k = 11
    · subst e; show up2 (hI p9) 1 11 (-1) 1 11 = _; simp [up2]
    · rw [if_neg e]
      refine (if_neg fun z => e z.2).trans ?_
      rw [i9, i8, i7, i6, i5, i4, i3, i2, i1, i0]
      exact B.2.2.1 k
  · show hR p9 1 0 = _
    simp [r9, r8, r7, r6, r5, r4, r3, r2, r1, r0]
  · show hR p9 1 1 = _
    simp [r9, r8, r7, r6, r5, r4, r3, r2, r1, r0]
  · show hR p9 1 2 = _
    simp [r9, r8, r7, r6, r5, r4, r3, r2, r1, r0]
  · show hR p9 1 3 = _
    simp [r9, r8, r7, r6, r5, r4, r3, r2, r1, r0]
  · show hR p9 1 4 = _
    simp [r9, r8, r7, r6, r5, r4, r3, r2, r1, r0]
  · show hR p9 1 5 = _
    simp [r9, r8, r7, r6, r5, r4, r3, r2, r1, r0]
  · show hR p9 1 6 = _
    simp [r9, r8, r7, r6, r5, r4, r3, r2, r1, r0]
  · show hR p9 1 7 = _
    simp [r9, r8, r7, r6, r5, r4, r3, r2, r1, r0]
  · show hR p9 1 8 = _
    simp [r9, r8, r7, r6, r5, r4, r3, r2, r1, r0]
  · show hR p9 1 9 = _
    simp [r9, r8, r7, r6, r5, r4, r3, r2, r1, r0]
  · obtain ⟨y1, y2, y3, y4, y5, y6⟩ := M0
    have t15 := f3 15 (by omega) (by omega)
    have t16 := f3 16 (by omega) (by omega)
    exact ⟨t15.1.trans y1, fun k => (congrFun t15.2.2.1 k).trans (y2 k), (congrFun t15.2.2.2.1 0).trans y3, t16.1.trans y4, t16.2.1.trans y5, fun c hc => ⟨(congrFun t16.2.2.2.1 c).trans (y6 c hc).1, (y6 c hc).2.sm fun r _ _ => f3 r (by omega) (by omega)⟩⟩
  · unfold f_Water_init f_Water_init_b0
    rw [if_pos s0]
    show bV (f_Tape_init (hA h 9 0 6) (hN h + 1)) _ = _
    rw [w0, e0]
    show (if hS k0 1 = 10 then _ else none) = _
    have a1 : hS p0 1 = 10 := s1.trans s0
    rw [if_pos (show hS k0 1 = 10 by rw [hp0] at a1; exact a1), ← hp0]
    show (if hS (hA p0 5 0 12) 1 = 10 then _ else none) = _
    rw [if_pos (show hS (hA p0 5 0 12) 1 = 10 from (SM.hA (h := p0) (by omega)).1.trans a1)]
    show bV (f_LandText_init (hA p0 5 0 12) (hN p0 + 1) (hR (hA p0 5 0 12) 1 0)) _ = _
    rw [w1, show hR (hA p0 5 0 12) 1 0 = 2 from (congrFun (SM.hA (h := p0) (show 1 ≠ hN p0 + 1 by omega)).2.2.2.1 0).trans (by simp [r0])]
    rw [e1]
    show (if hS k1 1 = 10 then _ else none) = _
    have a2 : hS p1 1 = 10 := s2.trans a1
    rw [if_pos (show hS k1 1 = 10 by rw [hp1] at a2; exact a2), ← hp1]
    show (if hS (hA p1 7 0 7) 1 = 10 then _ else none) = _
    rw [if_pos (show hS (hA p1 7 0 7) 1 = 10 from (SM.hA (h := p1) (by omega)).1.trans a2)]
    show bV (f_LawText_init (hA p1 7 0 7) (hN p1 + 1) (hR (hA p1 7 0 7) 1 0)) _ = _
    rw [w2, show hR (hA p1 7 0 7) 1 0 = 2 from (congrFun (SM.hA (h := p1) (show 1 ≠ hN p1 + 1 by omega)).2.2.2.1 0).trans (by simp [r1, r0])]
    rw [e2]
    show (if hS k2 1 = 10 then _ else none) = _
    have a3 : hS p2 1 = 10 := s3.trans a2
    rw [if_pos (show hS k2 1 = 10 by rw [hp2] at a3; exact a3), ← hp2]
    show bV (f_Memory_init (hA p2 8 0 3) (hN p2 + 1)) _ = _
    rw [w3, e3]
    show (if hS k3 1 = 10 then _ else none) = _
    have a4 : hS p3 1 = 10 := s4.trans a3
    rw [if_pos (show hS k3 1 = 10 by rw [hp3] at a4; exact a4), ← hp3]
    show bV (f_Land_init (hA p3 4 0 16) (hN p3 + 1)) _ = _
    rw [w4, e4]
    show (if hS k4 1 = 10 then _ else none) = _
    have a5 : hS p4 1 = 10 := s5.trans a4
    rw [if_pos (show hS k4 1 = 10 by rw [hp4] at a5; exact a5), ← hp4]
    show bV (f_Land_init (hA p4 4 0 16) (hN p4 + 1)) _ = _
    rw [w5, e5]
    show (if hS k5 1 = 10 then _ else none) = _
    have a6 : hS p5 1 = 10 := s6.trans a5
    rw [if_pos (show hS k5 1 = 10 by rw [hp5] at a6; exact a6), ← hp5]
    show bV (f_Land_init (hA p5 4 0 16) (hN p5 + 1)) _ = _
    rw [w6, e6]
    show (if hS k6 1 = 10 then _ else none) = _
    have a7 : hS p6 1 = 10 := s7.trans a6
    rw [if_pos (show hS k6 1 = 10 by rw [hp6] at a7; exact a7), ← hp6]
    show bV (f_Land_init (hA p6 4 0 16) (hN p6 + 1)) _ = _
    rw [w7, e7]
    show (if hS k7 1 = 10 then _ else none) = _
    have a8 : hS p7 1 = 10 := s8.trans a7
    rw [if_pos (show hS k7 1 = 10 by rw [hp7] at a8; exact a8), ← hp7]
    have a9 : hS p8 1 = 10 := s9.trans a8
    show (if hS (hA p7 20 (ix 8) (ix 8)) 1 = 10 then _ else none) = _
    rw [ix_8, if_pos (show hS (hA p7 20 8 8) 1 = 10 by rw [hp8] at a9; exact a9), w8, ← hp8]
    have a10 : hS p9 1 = 10 := s10.trans a9
    show (if hS (hA p8 20 (ix 30) (ix 30)) 1 = 10 then _ else none) = _
    rw [ix_30, if_pos (show hS (hA p8 20 30 30) 1 = 10 by rw [hp9] at a10; exact a10), w9, ← hp9]
    rfl
end P1W
