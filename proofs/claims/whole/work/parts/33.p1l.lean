section P1L
variable {h h' h2 : Hp} {a b c k j r s l z : Nat}
/-- a new Land at a: its cells -/
def LN (h : Hp) (a : Nat) : Prop := hS h a = 4 ∧ (∀ k, hI h a k = if k = 11 then 1 else 0) ∧ (hR h a 3 = a + 1 ∧ hR h a 4 = a + 2 ∧ hR h a 5 = a + 3 ∧ hR h a 6 = a + 4 ∧ hR h a 7 = a + 5) ∧ (∀ k, k < 3 ∨ 7 < k → hR h a k = 0) ∧
  (hS h (a + 1) = 23 ∧ hL h (a + 1) = 8) ∧ (hS h (a + 2) = 24 ∧ hL h (a + 2) = 8) ∧ (hS h (a + 3) = 25 ∧ hL h (a + 3) = 8) ∧ BL h (a + 4) 20 30 ∧ BL h (a + 5) 20 30 ∧
  (∀ c, c < 8 → hR h (a + 1) c = a + 6 + 2 * c ∧ CD 1 6 h (a + 6 + 2 * c)) ∧ (∀ c, c < 8 → hR h (a + 2) c = a + 22 + 2 * c ∧ CD 3 5 h (a + 22 + 2 * c)) ∧ ∀ c, c < 8 → hR h (a + 3) c = a + 38 + c ∧ BL h (a + 38 + c) 2 0
theorem LN.sm (x : LN h a) (y : ∀ r, a ≤ r → r ≤ a + 45 → SM h h' r) : LN h' a := by
  obtain ⟨x1, x2, ⟨p3, p4, p5, p6, p7⟩, x4, ⟨u1, v1⟩, ⟨u2, v2⟩, ⟨u3, v3⟩, b4, b5, xc, xh, xd⟩ := x
  have ya := y a (by omega) (by omega)
  have y1 := y (a + 1) (by omega) (by omega)
  have y2 := y (a + 2) (by omega) (by omega)
  have y3 := y (a + 3) (by omega) (by omega)
  have R := ya.2.2.2.1
  exact ⟨ya.1.trans x1, fun k => (congrFun ya.2.2.1 k).trans (x2 k), ⟨(congrFun R 3).trans p3, (congrFun R 4).trans p4, (congrFun R 5).trans p5, (congrFun R 6).trans p6, (congrFun R 7).trans p7⟩, fun k hk => (congrFun R k).trans (x4 k hk),
    ⟨y1.1.trans u1, y1.2.1.trans v1⟩, ⟨y2.1.trans u2, y2.2.1.trans v2⟩, ⟨y3.1.trans u3, y3.2.1.trans v3⟩, b4.sm (y _ (by omega) (by omega)), b5.sm (y _ (by omega) (by omega)),
    fun c hc => ⟨(congrFun y1.2.2.2.1 c).trans (xc c hc).1, (xc c hc).2.sm (y _ (by omega) (by omega)) (y _ (by omega) (by omega))⟩,
    fun c hc => ⟨(congrFun y2.2.2.2.1 c).trans (xh c hc).1, (xh c hc).2.sm (y _ (by omega) (by omega)) (y _ (by omega) (by omega))⟩,
    fun c hc => ⟨(congrFun y3.2.2.2.1 c).trans (xd c hc).1, (xd c hc).2.sm (y _ (by omega) (by omega))⟩⟩
def la0 (h : Hp) (a : Nat) : Hp := sI (sR (hA (sR (hA (sR (hA (sR (hA (sR (hA h 23 8 8) a 3 (a + 1)) 24 8 8) a 4 (a + 2)) 25 8 8) a 5 (a + 3)) 20 30 30) a 6 (a + 4)) 20 30 30) a 7 (a + 5)) a 11 1
theorem ix_8 : ix (8 : Int32) = 8 := by decide +kernel
theorem ix_30 : ix (30 : Int32) = 30 := by decide +kernel
theorem land_b0 (ha : hN h = a) (h1 : hS h a = 4) : f_Land_init h a = f_Land_init_L54 FU (la0 h a) a 0 := by
  unfold f_Land_init f_Land_init_b0
  simp [wr, HPs, rs1, h1, ha, ix_8, ix_30, la0, Nat.add_assoc]
theorem la0_0 (ha : hN h = a) : hN (la0 h a) = a + 5 ∧ hZ (la0 h a) = hZ h + 84 := by
  subst ha
  exact ⟨rfl, by show hZ h + 8 + 8 + 8 + 30 + 30 = _; omega⟩
theorem la0_sm (ha : hN h = a) (hr : r < a) : SM h (la0 h a) r := by
  subst ha
  unfold la0
  have n0 : r ≠ hN h := by omega
  refine (SM.hA (by omega)).tr ((SM.sR n0).tr ((SM.hA ?_).tr ((SM.sR n0).tr ((SM.hA ?_).tr ((SM.sR n0).tr ((SM.hA ?_).tr ((SM.sR n0).tr ((SM.hA ?_).tr ((SM.sR n0).tr (SM.sI n0))))))))))
  · show r ≠ hN h + 1 + 1; omega
  · show r ≠ hN h + 1 + 1 + 1; omega
  · show r ≠ hN h + 1 + 1 + 1 + 1; omega
  · show r ≠ hN h + 1 + 1 + 1 + 1 + 1; omega
theorem la0_x (ha : hN h = a) (B : BL h a 4 0) : hS (la0 h a) a = 4 ∧ (∀ k, hI (la0 h a) a k = if k = 11 then 1 else 0) ∧ (hR (la0 h a) a 3 = a + 1 ∧ hR (la0 h a) a 4 = a + 2 ∧ hR (la0 h a) a 5 = a + 3 ∧ hR (la0 h a) a 6 = a + 4 ∧ hR (la0 h a) a 7 = a + 5) ∧ (∀ k, k < 3 ∨ 7 < k → hR (la0 h a) a k = 0) ∧
    (hS (la0 h a) (a + 1) = 23 ∧ hL (la0 h a) (a + 1) = 8) ∧ (hS (la0 h a) (a + 2) = 24 ∧ hL (la0 h a) (a + 2) = 8) ∧ (hS (la0 h a) (a + 3) = 25 ∧ hL (la0 h a) (a + 3) = 8) ∧ BL (la0 h a) (a + 4) 20 30 ∧ BL (la0 h a) (a + 5) 20 30 := by
  obtain ⟨b1, b2, b3, b4, b5⟩ := B
  refine ⟨?_, ?_, ⟨?_, ?_, ?_, ?_, ?_⟩, ?_, ⟨?_, ?_⟩, ⟨?_, ?_⟩, ⟨?_, ?_⟩, ⟨?_, ?_, ?_, ?_, ?_⟩, ⟨?_, ?_, ?_, ?_, ?_⟩⟩
  · simp [la0, HPs, rs1, ha, b1, Nat.add_assoc]
  · intro k
    by_cases e : k = 11
    · subst e; simp [la0, HPs, up2]
    · simp [la0, HPs, up2, rs2, ha, e, b3, Nat.add_assoc]
  · simp [la0, HPs, up2, rs2, ha, Nat.add_assoc]
  · simp [la0, HPs, up2, rs2, ha, Nat.add_assoc]
  · simp [la0, HPs, up2, rs2, ha, Nat.add_assoc]
  · simp [la0, HPs, up2, rs2, ha, Nat.add_assoc]
  · simp [la0, HPs, up2, rs2, ha, Nat.add_assoc]
  · intro k hk
    have e3 : k ≠ 3 := by omega
    have e4 : k ≠ 4 := by omega
    have e5 : k ≠ 5 := by omega
    have e6 : k ≠ 6 := by omega
    have e7 : k ≠ 7 := by omega
    simp [la0, HPs, up2, rs2, ha, e3, e4, e5, e6, e7, b4, Nat.add_assoc]
  all_goals first | (simp [la0, HPs, up2, rs1, rs2, ha, Nat.add_assoc]; done) | (intro k; simp [la0, HPs, up2, rs1, rs2, ha, Nat.add_assoc])
theorem FU_8 : FU = 999991 + 8 + 1 := rfl
theorem land_new (ha : hN h = a) (B : BL h a 4 0) : ∃ h', f_Land_init h a = some h' ∧ hN h' = a + 45 ∧ hZ h' = hZ h + 692 ∧ (∀ r, r < a → SM h h' r) ∧ LN h' a := by
  rw [land_b0 ha B.1]
  obtain ⟨z1, z2⟩ := la0_0 ha
  obtain ⟨x1, x2, ⟨p3, p4, p5, p6, p7⟩, x4, ⟨u1, v1⟩, ⟨u2, v2⟩, ⟨u3, v3⟩, q4, q5⟩ := la0_x ha B
  obtain ⟨h1, g1, g2, g3, g4, g5, g6, g7⟩ := ci_loop (a := a) 8 (i := 0) (h := la0 h a) rfl x1 p3 u1 v1 (by omega) (fun c hc => absurd hc (Nat.not_lt_zero c)) 999991
  have s1 := fun r h1 h2 => g4 r h1 h2
  have A1 := g4 a (by omega) (by omega)
  obtain ⟨h2, k1, k2, k3, k4, k5, k6, k7⟩ := ho_loop (a := a) 8 (i := 0) (h := h1) rfl (A1.1.trans x1) ((congrFun A1.2.2.2.1 _).trans p4) ((g4 _ (by omega) (by omega)).1.trans u2) ((g4 _ (by omega) (by omega)).2.1.trans v2) (by omega) (fun c hc => absurd hc (Nat.not_lt_zero c)) 999991
  have A2 := A1.tr (k4 a (by omega) (by omega))
  have D3 := (g4 (a + 3) (by omega) (by omega)).tr (k4 (a + 3) (by omega) (by omega))
  obtain ⟨h3, m1, m2, m3, m4, m5, m6, m7⟩ := de_loop (a := a) 8 (i := 0) (h := h2) rfl (A2.1.trans x1) ((congrFun A2.2.2.2.1 _).trans p5) (D3.1.trans u3) (D3.2.1.trans v3) (by omega) (fun c hc => absurd hc (Nat.not_lt_zero c)) 999991
  have A3 := A2.tr (m4 a (by omega) (by omega))
  have E : f_Land_init_L54 FU (la0 h a) a 0 = some h3 := by
    rw [FU_8]
    refine g1.trans ?_
    rw [FU_8]
    refine k1.trans ?_
    rw [FU_8]
    exact m1
  have R := A3.2.2.2.1
  have C1 := (k4 (a + 1) (by omega) (by omega)).tr (m4 (a + 1) (by omega) (by omega))
  have C2 := m4 (a + 2) (by omega) (by omega)
  have F := fun r (h1 : r ≤ a + 5) (e1 : r ≠ a + 1) (e2 : r ≠ a + 2) (e3 : r ≠ a + 3) => ((g4 r h1 e1).tr (k4 r (by omega) e2)).tr (m4 r (by omega) e3)
  refine ⟨h3, E, by omega, by omega, fun r hr => (la0_sm ha hr).tr (F r (by omega) (by omega) (by omega) (by omega)), A3.1.trans x1, fun k => (congrFun A3.2.2.1 k).trans (x2 k), ⟨(congrFun R 3).trans p3, (congrFun R 4).trans p4, (congrFun R 5).trans p5, (congrFun R 6).trans p6, (congrFun R 7).trans p7⟩, fun k hk => (congrFun R k).trans (x4 k hk),
    ⟨C1.1.trans g6, C1.2.1.trans g7⟩, ⟨C2.1.trans k6, C2.2.1.trans k7⟩, ⟨m6, m7⟩, q4.sm (F _ (by omega) (by omega) (by omega) (by omega)), q5.sm (F _ (by omega) (by omega) (by omega) (by omega)), ?_, ?_, m5⟩
  · intro c hc
    exact ⟨(congrFun C1.2.2.2.1 c).trans (g5 c hc).1, (g5 c hc).2.sm ((k4 _ (by omega) (by omega)).tr (m4 _ (by omega) (by omega))) ((k4 _ (by omega) (by omega)).tr (m4 _ (by omega) (by omega)))⟩
  · intro c hc
    exact ⟨(congrFun C2.2.2.2.1 c).trans (k5 c hc).1, (k5 c hc).2.sm (m4 _ (by omega) (by omega)) (m4 _ (by omega) (by omega))⟩
end P1L
