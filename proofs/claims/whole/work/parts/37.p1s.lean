section P1S
theorem WA.sm {h h' : Hp} (x : WA h) (y : ∀ r, r ≤ 754 → SM h h' r) : WA h' := by
  obtain ⟨x1, x2, ⟨r0, r1, r2, r3, r4, r5, r6, r7, r8, r9⟩, x3, x4, x5, ⟨m1, m2, m3, m4, m5, m6⟩, x6, x7, x8, x9, b1, b2⟩ := x
  have y1 := y 1 (by omega)
  have R := y1.2.2.2.1
  have y15 := y 15 (by omega)
  have y16 := y 16 (by omega)
  exact ⟨y1.1.trans x1, fun k => (congrFun y1.2.2.1 k).trans (x2 k), ⟨(congrFun R 0).trans r0, (congrFun R 1).trans r1, (congrFun R 2).trans r2, (congrFun R 3).trans r3, (congrFun R 4).trans r4, (congrFun R 5).trans r5, (congrFun R 6).trans r6, (congrFun R 7).trans r7, (congrFun R 8).trans r8, (congrFun R 9).trans r9⟩,
    tp_sm2 x3 fun r _ _ => y r (by omega), lt_sm2 x4 fun r _ _ => y r (by omega), wt_sm2 x5 fun r _ _ => y r (by omega),
    ⟨y15.1.trans m1, fun k => (congrFun y15.2.2.1 k).trans (m2 k), (congrFun y15.2.2.2.1 0).trans m3, y16.1.trans m4, y16.2.1.trans m5, fun c hc => ⟨(congrFun y16.2.2.2.1 c).trans (m6 c hc).1, (m6 c hc).2.sm fun r _ _ => y r (by omega)⟩⟩,
    x6.sm fun r _ _ => y r (by omega), x7.sm fun r _ _ => y r (by omega), x8.sm fun r _ _ => y r (by omega), x9.sm fun r _ _ => y r (by omega), b1.sm (y 753 (by omega)), b2.sm (y 754 (by omega))⟩
theorem ix_1 : ix (1 : Int32) = 1 := by decide +kernel
/-- the law's loop begins over fresh objects -/
theorem main_start (X : Nat × (Nat → Int32)) (x0 : Nat) : ∃ H : Hp, f_Lw_main X hp0 x0 = f_Lw_main_L23 X FU H x0 1 755 765 0 ∧ hN H = 765 ∧ hZ H ≤ 40000 ∧ WA H ∧ MD H 755 ∧ BL H 765 22 1 := by
  obtain ⟨h4, e4, n4, z4, w4⟩ := water_new (h := hA hp0 10 0 12) rfl (BL.new (h := hp0))
  have t5 : hN h4 + 1 = 755 := by omega
  obtain ⟨h9, e9, n9, z9, s9, m9⟩ := mo_new (h := hA h4 11 0 20) (t := 755) t5 (by have B9 := BL.new (h := h4) (s := 11) (l := 0) (z := 20); rw [t5] at B9; exact B9)
  have t6 : hN h9 + 1 = 765 := by omega
  refine ⟨hA h9 22 1 1, ?_, t6, ?_, w4.sm fun r hr => ((SM.hA (by omega)).tr (s9 r (by omega))).tr (SM.hA (by omega)), mo_sm2 m9 fun r _ _ => SM.hA (by omega), by have B9 := BL.new (h := h9) (s := 22) (l := 1) (z := 1); rw [t6] at B9; exact B9⟩
  · unfold f_Lw_main f_Lw_main_b0 wr
    rw [show hN hp0 + 1 = 1 from rfl, show nF 9 = 12 from rfl, show nF 10 = 20 from rfl]
    dsimp only
    rw [e4]
    unfold bV
    dsimp only
    rw [t5, e9]
    dsimp only
    rw [ix_1, t6]
  · rw [hzA]
    rw [hzA] at z9
    have q : hZ (hA hp0 10 0 12) = 12 := rfl
    omega
end P1S
