/-! ===== copyFrom of a Land ===== -/
section U17
variable {h : Hp} {g g' g1 : Nat → Nat → Int32} {w w' : Nat → Int32} {A B L S c d k n l y j m q s i F r z E N M : Nat} {v x a b : Int32} {f p : Nat → Nat} {P Q : Nat → Int32}
theorem cg_tyR (e : ∀ k, k < 1454 → w' k = w k) : ∀ (n i : Nat) (ts : List Bool), i + n ≤ 400 → tyR w' n i ts = tyR w n i ts := by
  intro n
  induction n with
  | zero => intro i ts _; rfl
  | succ n ih =>
    intro i ts hi
    unfold tyR
    rw [e (654 + 2 * i) (by omega), e (655 + 2 * i) (by omega)]
    cases tyS (w (654 + 2 * i)) (w (655 + 2 * i)) ts with
    | none => rfl
    | some t => exact ih (i + 1) t (by omega)
theorem WFL.cg (W : WFL w) (e : ∀ k, k < 1454 → w' k = w k) : WFL w' := by
  obtain ⟨W1, W2, W3⟩ := W
  have n0 : lwN w' = lwN w := congrArg ix (e 617 (by omega))
  have E : ∀ n, n < 12 → lwE w' n = lwE w n := fun n hn => congrArg ix (e _ (by omega))
  have S : ∀ n, n < 12 → lwS w' n = lwS w n := fun n hn => by unfold lwS; rw [E _ (by omega)]
  refine ⟨by rw [n0, e 617 (by omega)]; exact W1, by rw [n0]; exact W2, fun n hn => ?_⟩
  rw [n0] at hn
  obtain ⟨w1, w2, w3, w4, w5, w6⟩ := W3 n hn
  rw [E n (by omega), S n (by omega), e _ (by omega), e _ (by omega), e _ (by omega), cg_tyR e _ _ _ (by omega)]
  exact ⟨w1, w2, w3, w4, w5, w6⟩
theorem WF.cg (W : WF M w) (e : ∀ k, k < 1454 → w' k = w k) : WF M w' := by
  obtain ⟨⟨W1, W2, W3⟩, ⟨B1, B2, B3⟩, T, Mo, La, Ci, Ho, Ze, De, Sa⟩ := W
  have n0 : nc w' = nc w := congrArg ix (e 0 (by omega))
  have n1 : nh w' = nh w := congrArg ix (e 1 (by omega))
  have n2 : nd w' = nd w := congrArg ix (e 10 (by omega))
  refine ⟨⟨?_, ?_, ?_⟩, ⟨?_, ?_, ?_⟩, ?_, ?_, ?_, ?_, ?_, ?_, ?_, ?_⟩
  · rw [n0, e 0 (by decide)]; exact W1
  · rw [n1, e 1 (by decide)]; exact W2
  · rw [n2, e 10 (by decide)]; exact W3
  · rw [n0]; exact B1
  · rw [n1]; exact B2
  · rw [n2]; exact B3
  · rw [e 2 (by decide)]; exact T
  · rw [e 4 (by decide)]; exact Mo
  · rw [e 3 (by decide)]; exact La.imp id (fun z => ⟨z.1, z.2.cg e⟩)
  · rw [n0]
    intro c hc
    exact (Ci c hc).of (b := ly w c) (fun y hy => by rw [e _ (by omega)]; exact ((Ci c hc).1 y hy).1) (Ci c hc).2.1.2.2 (fun i hi => e _ (by omega))
  · rw [n1]
    intro k hk
    obtain ⟨⟨H1, H2⟩, ⟨H3, H4⟩, H5⟩ := Ho k hk
    have m0 : neH w' k = neH w k := congrArg ix (e _ (by omega))
    have m1 : atH w' k = atH w k := congrArg ix (e _ (by omega))
    exact ⟨⟨by rw [m0, e _ (by omega)]; exact H1, by rw [m0]; exact H2⟩, ⟨by rw [m1, e _ (by omega)]; exact H3, by rw [m1, n0]; exact H4⟩, by rw [e _ (by omega)]; exact H5⟩
  · rw [n1]; exact fun k hk h8 j hj => by rw [e _ (by omega)]; exact Ze k hk h8 j hj
  · rw [n2]
    intro d hd
    obtain ⟨d1, d2, d3⟩ := De d hd
    refine ⟨?_, ?_, ?_⟩
    · rw [n1, e _ (by omega)]; exact d1
    · rw [e _ (by omega)]; exact d2
    · rw [e _ (by omega)]; exact d3
  · intro y hy
    rw [e _ (by omega)]; exact Sa y hy
theorem RLa.cg (R : RLa g A w) (Bd : WFb w) (e : ∀ k, k < 1454 → w' k = w k) : RLa g A w' := by
  obtain ⟨R1, R2, R3, R4, R5⟩ := R
  obtain ⟨B1, B2, B3⟩ := Bd
  have n0 : nc w' = nc w := congrArg ix (e 0 (by omega))
  have n1 : nh w' = nh w := congrArg ix (e 1 (by omega))
  have n2 : nd w' = nd w := congrArg ix (e 10 (by omega))
  refine ⟨?_, fun c' hc' => ?_, fun k' hk' => ?_, fun d hd => ?_, ?_⟩
  · unfold RLs
    rw [e 0 (by omega), e 1 (by omega), e 10 (by omega), e 2 (by omega), e 4 (by omega), e 5 (by omega), e 6 (by omega), e 7 (by omega), e 8 (by omega), e 9 (by omega)]
    exact R1
  · rw [n0] at hc'
    obtain ⟨r1, r2, r3⟩ := R2 c' hc'
    unfold RLc
    rw [ms_eq (w' := w') (w := w) (fun y hy => e _ (by omega))]
    exact ⟨fun j hj => by rw [e _ (by omega)]; exact r1 j hj, fun y hy => by rw [e _ (by omega)]; exact r2 y hy, r3⟩
  · rw [n1] at hk'
    obtain ⟨r1, r2⟩ := R3 k' hk'
    exact ⟨fun j hj => by rw [e _ (by omega)]; exact r1 j hj, fun y hy => by rw [e _ (by omega)]; exact r2 y hy⟩
  · rw [n2] at hd
    exact fun j hj => by rw [e _ (by omega)]; exact R4 d hd j hj
  · exact fun y hy => by rw [e _ (by omega)]; exact R5 y hy
theorem LR.cg (R : LR h g A w) (e : ∀ k, k < 1454 → w' k = w k) : LR h g A w' := by
  rcases R with ⟨z1, z2⟩ | ⟨z1, z2, z3, S, z4, z5⟩
  · exact Or.inl ⟨(e 3 (by omega)).trans z1, z2⟩
  · refine Or.inr ⟨(e 3 (by omega)).trans z1, z2, z3.cg e, S, z4, ?_⟩
    obtain ⟨G1, G2, G3, G4, G5, G6⟩ := z5
    have n0 : lwN w' = lwN w := congrArg ix (e 617 (by omega))
    have l12 := z3.2.1
    refine ⟨by rw [e _ (by omega)]; exact G1, G2, fun n hn => ?_, fun i hi => ?_, fun q i hi => ?_, G6⟩
    · rw [n0] at hn
      have E : lwE w' n = lwE w n := congrArg ix (e _ (by omega))
      rw [e _ (by omega), e _ (by omega), E]
      exact G3 n hn
    · rw [e _ (by omega), e _ (by omega)]
      exact G4 i hi
    · rw [e _ (by omega)]
      exact G5 q i hi
/-! the copies -/
theorem i30 : ix (30 : Int32) = 30 := by decide +kernel
theorem C_cpC {a b : Nat} (ta : CS h a) (tb : CS h b) (e1 : a ≠ b) (e2 : a + 1 ≠ b) (e3 : b + 1 ≠ a) (hs : g b 2 = 0 ∨ g b 2 = 1) :
    ∃ g', f_Cistern_copyFrom (uI h g) a b = some (uI h g') ∧ (∀ j, j < 6 → g' a j = g b j) ∧ (∀ y, y < 30 → g' (a + 1) y = g (b + 1) y) ∧ ∀ r, r ≠ a → r ≠ a + 1 → g' r = g r := by
  have s1 : ∀ g, hS (uI h g) a = 1 := fun g => ta.1
  have s2 : ∀ g, hS (uI h g) b = 1 := fun g => tb.1
  have r1 : ∀ g, hR (uI h g) a 6 = a + 1 := fun g => ta.2.1
  have r2 : ∀ g, hR (uI h g) b 6 = b + 1 := fun g => tb.2.1
  have a1 : ∀ g, hS (uI h g) (a + 1) = 20 := fun g => ta.2.2.1
  have a2 : ∀ g, hS (uI h g) (b + 1) = 20 := fun g => tb.2.2.1
  have l1 : ∀ g, hL (uI h g) (a + 1) = 30 := fun g => ta.2.2.2
  have l2 : ∀ g, hL (uI h g) (b + 1) = 30 := fun g => tb.2.2.2
  have e1' : b ≠ a := fun z => e1 z.symm
  unfold f_Cistern_copyFrom f_Cistern_copyFrom_b0
  rw [if_pos (s2 _), if_pos (s1 _), wr_s, wr_s, sI_u, sI_u, hI_u, hI_u, hI_u, up_r e1', up_r e1', if_pos hs, wr_s, wr_s, wr_s, wr_s, sI_u, sI_u, sI_u, sI_u, hI_u, hI_u, hI_u, r2, if_pos (a2 _), r1, if_pos (a1 _), if_pos (by decide), if_pos (by decide), if_pos (by decide), ix_0, i30, l2, if_pos (by decide), l1, if_pos (by decide), wr_s, cI_u, hI_u]
  refine ⟨_, rfl, fun j hj => ?_, fun y hy => ?_, fun r h1 h2 => ?_⟩
  · rw [rs_ne (by omega)]
    have : j = 0 ∨ j = 1 ∨ j = 2 ∨ j = 3 ∨ j = 4 ∨ j = 5 := by omega
    rcases this with rfl | rfl | rfl | rfl | rfl | rfl <;> simp [up2, e1']
  · rw [rs_eq, sb_cpy0 hy]
    rw [up_r (by omega), up_r (by omega), up_r (by omega), up_r (by omega), up_r (by omega), up_r (by omega)]
  · rw [rs_ne h2, up_row h1, up_row h1, up_row h1, up_row h1, up_row h1, up_row h1]
theorem C_cpH (ta : LDs h A) (tb : LDs h B) (hk : k < 8) (e : A + 46 ≤ B ∨ B + 46 ≤ A) :
    ∃ g', f_House_copyFrom (uI h g) (A + 22 + 2 * k) (B + 22 + 2 * k) = some (uI h g') ∧ (∀ j, j < 5 → g' (A + 22 + 2 * k) j = g (B + 22 + 2 * k) j) ∧ (∀ y, y < 30 → g' (A + 22 + 2 * k + 1) y = g (B + 22 + 2 * k + 1) y) ∧ ∀ r, r ≠ A + 22 + 2 * k → r ≠ A + 22 + 2 * k + 1 → g' r = g r := by
  obtain ⟨-, -, -, -, u1, u2, u3, u4⟩ := ta.hr hk
  obtain ⟨-, -, -, -, v1, v2, v3, v4⟩ := tb.hr hk
  have s1 : ∀ g, hS (uI h g) (A + 22 + 2 * k) = 3 := fun g => u1
  have s2 : ∀ g, hS (uI h g) (B + 22 + 2 * k) = 3 := fun g => v1
  have r1 : ∀ g, hR (uI h g) (A + 22 + 2 * k) 5 = A + 22 + 2 * k + 1 := fun g => u2
  have r2 : ∀ g, hR (uI h g) (B + 22 + 2 * k) 5 = B + 22 + 2 * k + 1 := fun g => v2
  have a1 : ∀ g, hS (uI h g) (A + 22 + 2 * k + 1) = 20 := fun g => u3
  have a2 : ∀ g, hS (uI h g) (B + 22 + 2 * k + 1) = 20 := fun g => v3
  have l1 : ∀ g, hL (uI h g) (A + 22 + 2 * k + 1) = 30 := fun g => u4
  have l2 : ∀ g, hL (uI h g) (B + 22 + 2 * k + 1) = 30 := fun g => v4
  have e1' : B + 22 + 2 * k ≠ A + 22 + 2 * k := by omega
  unfold f_House_copyFrom f_House_copyFrom_b0
  rw [if_pos (s2 _), if_pos (s1 _), wr_s, wr_s, wr_s, wr_s, wr_s, sI_u, sI_u, sI_u, sI_u, sI_u, hI_u, hI_u, hI_u, hI_u, hI_u, r2, if_pos (a2 _), r1, if_pos (a1 _), if_pos (by decide), if_pos (by decide), if_pos (by decide), ix_0, i30, l2, if_pos (by decide), l1, if_pos (by decide), wr_s, cI_u, hI_u]
  refine ⟨_, rfl, fun j hj => ?_, fun y hy => ?_, fun r h1 h2 => ?_⟩
  · rw [rs_ne (by omega)]
    have : j = 0 ∨ j = 1 ∨ j = 2 ∨ j = 3 ∨ j = 4 := by omega
    rcases this with rfl | rfl | rfl | rfl | rfl <;> simp [up2, e1']
  · rw [rs_eq, sb_cpy0 hy]
    rw [up_r (by omega), up_r (by omega), up_r (by omega), up_r (by omega), up_r (by omega)]
  · rw [rs_ne h2, up_row h1, up_row h1, up_row h1, up_row h1, up_row h1]
theorem C_cpD {a b : Nat} (ta : hS h a = 2) (tb : hS h b = 2) (e1 : a ≠ b) :
    ∃ g', f_Debt_copyFrom (uI h g) a b = some (uI h g') ∧ (∀ j, j < 3 → g' a j = g b j) ∧ ∀ r, r ≠ a → g' r = g r := by
  have s1 : ∀ g, hS (uI h g) a = 2 := fun g => ta
  have s2 : ∀ g, hS (uI h g) b = 2 := fun g => tb
  have e1' : b ≠ a := fun z => e1 z.symm
  unfold f_Debt_copyFrom f_Debt_copyFrom_b0
  rw [if_pos (s2 _), if_pos (s1 _), wr_s, wr_s, wr_s, sI_u, sI_u, sI_u, hI_u, hI_u, hI_u]
  refine ⟨_, rfl, fun j hj => ?_, fun r h1 => ?_⟩
  · have : j = 0 ∨ j = 1 ∨ j = 2 := by omega
    rcases this with rfl | rfl | rfl <;> simp [up2, e1']
  · rw [up_row h1, up_row h1, up_row h1]
/-- what is copied: cisterns -/
def CPc (A B c n : Nat) (g g' : Nat → Nat → Int32) : Prop := (∀ i, c ≤ i → i < n → (∀ j, j < 6 → g' (A + 6 + 2 * i) j = g (B + 6 + 2 * i) j) ∧ ∀ y, y < 30 → g' (A + 6 + 2 * i + 1) y = g (B + 6 + 2 * i + 1) y) ∧ ∀ r, (r < A + 6 + 2 * c ∨ A + 22 ≤ r) → g' r = g r
theorem C_cp_C (ta : LDs h A) (tb : LDs h B) (hn : n ≤ 8) (e : A + 46 ≤ B ∨ B + 46 ≤ A) : ∀ (j c : Nat) (g : Nat → Nat → Int32), c + j = n → g A 0 = nI n → (∀ i, i < n → g (B + 6 + 2 * i) 2 = 0 ∨ g (B + 6 + 2 * i) 2 = 1) → ∀ q,
    ∃ g', f_Land_copyFrom_L26 (q + j + 1) (uI h g) A B (nI c) = f_Land_copyFrom_L57 FU (uI h g') A B 0 ∧ CPc A B c n g g' := by
  have s4 : ∀ g, hS (uI h g) A = 4 := fun g => ta.1
  have s5 : ∀ g, hS (uI h g) B = 4 := fun g => tb.1
  intro j
  induction j with
  | zero =>
    intro c g hc h0 hs q
    have hc' : c = n := hc
    have E : f_Land_copyFrom_L26 (q + 0 + 1) (uI h g) A B (nI c) = f_Land_copyFrom_b26 (f_Land_copyFrom_L26 q) (uI h g) A B (nI c) := rfl
    rw [E]
    unfold f_Land_copyFrom_b26
    rw [if_pos (s4 _), hI_u, h0, hc', if_pos (Int32.le_refl _)]
    exact ⟨g, rfl, fun i h1 h2 => by omega, fun _ _ => rfl⟩
  | succ j ih =>
    intro c g hc h0 hs q
    have E : f_Land_copyFrom_L26 (q + (j + 1) + 1) (uI h g) A B (nI c) = f_Land_copyFrom_b26 (f_Land_copyFrom_L26 (q + j + 1)) (uI h g) A B (nI c) := rfl
    obtain ⟨a1, a2, a3, a4, a5⟩ := (ta.iu (g := g)).cr (c := c) (by omega)
    obtain ⟨b1, b2, b3, b4, b5⟩ := (tb.iu (g := g)).cr (c := c) (by omega)
    obtain ⟨g1, p1, p2, p3, p4⟩ := C_cpC (g := g) (ta.cs (c := c) (by omega)) (tb.cs (c := c) (by omega)) (by omega) (by omega) (by omega) (hs c (by omega))
    obtain ⟨g', z1, z2, z3⟩ := ih (c + 1) g1 (by omega) (by rw [p4 A (by omega) (by omega)]; exact h0) (fun i hi => by rw [p4 _ (by omega) (by omega)]; exact hs i hi) q
    rw [E]
    unfold f_Land_copyFrom_b26
    rw [if_pos (s4 _), hI_u, h0, if_neg (nI_ge (by omega) (by omega)), a3, if_pos a4, a5, if_pos (ib_n (by omega) (by decide)), if_pos (s5 _), b3, if_pos b4, b5, if_pos (ib_n (by omega) (by decide)), ix_n (by omega), a1, if_pos a2, b1, p1, bV_s, nI_1]
    refine ⟨g', z1, fun i h1 h2 => ?_, fun r hr => ?_⟩
    · by_cases q : i = c
      · subst q
        exact ⟨fun j hj => by rw [z3 _ (by omega)]; exact p2 j hj, fun y hy => by rw [z3 _ (by omega)]; exact p3 y hy⟩
      · obtain ⟨y1, y2⟩ := z2 i (by omega) h2
        exact ⟨fun j hj => by rw [y1 j hj, p4 _ (by omega) (by omega)], fun y hy => by rw [y2 y hy, p4 _ (by omega) (by omega)]⟩
    · rw [z3 r (by omega), p4 r (by omega) (by omega)]
def CPh (A B c n : Nat) (g g' : Nat → Nat → Int32) : Prop := (∀ i, c ≤ i → i < n → (∀ j, j < 5 → g' (A + 22 + 2 * i) j = g (B + 22 + 2 * i) j) ∧ ∀ y, y < 30 → g' (A + 22 + 2 * i + 1) y = g (B + 22 + 2 * i + 1) y) ∧ ∀ r, (r < A + 22 + 2 * c ∨ A + 38 ≤ r) → g' r = g r
theorem C_cp_H (ta : LDs h A) (tb : LDs h B) (hn : n ≤ 8) (e : A + 46 ≤ B ∨ B + 46 ≤ A) : ∀ (j c : Nat) (g : Nat → Nat → Int32), c + j = n → g A 1 = nI n → ∀ q,
    ∃ g', f_Land_copyFrom_L57 (q + j + 1) (uI h g) A B (nI c) = f_Land_copyFrom_L88 FU (uI h g') A B 0 ∧ CPh A B c n g g' := by
  have s4 : ∀ g, hS (uI h g) A = 4 := fun g => ta.1
  have s5 : ∀ g, hS (uI h g) B = 4 := fun g => tb.1
  intro j
  induction j with
  | zero =>
    intro c g hc h0 q
    have hc' : c = n := hc
    have E : f_Land_copyFrom_L57 (q + 0 + 1) (uI h g) A B (nI c) = f_Land_copyFrom_b57 (f_Land_copyFrom_L57 q) (uI h g) A B (nI c) := rfl
    rw [E]
    unfold f_Land_copyFrom_b57
    rw [if_pos (s4 _), hI_u, h0, hc', if_pos (Int32.le_refl _)]
    exact ⟨g, rfl, fun i h1 h2 => by omega, fun _ _ => rfl⟩
  | succ j ih =>
    intro c g hc h0 q
    have E : f_Land_copyFrom_L57 (q + (j + 1) + 1) (uI h g) A B (nI c) = f_Land_copyFrom_b57 (f_Land_copyFrom_L57 (q + j + 1)) (uI h g) A B (nI c) := rfl
    obtain ⟨a1, a2, a3, a4, a5, -⟩ := (ta.iu (g := g)).hr (k := c) (by omega)
    obtain ⟨b1, b2, b3, b4, b5, -⟩ := (tb.iu (g := g)).hr (k := c) (by omega)
    obtain ⟨g1, p1, p2, p3, p4⟩ := C_cpH (g := g) ta tb (k := c) (by omega) e
    obtain ⟨g', z1, z2, z3⟩ := ih (c + 1) g1 (by omega) (by rw [p4 A (by omega) (by omega)]; exact h0) q
    rw [E]
    unfold f_Land_copyFrom_b57
    rw [if_pos (s4 _), hI_u, h0, if_neg (nI_ge (by omega) (by omega)), a1, if_pos a2, a3, if_pos (ib_n (by omega) (by decide)), if_pos (s5 _), b1, if_pos b2, b3, if_pos (ib_n (by omega) (by decide)), ix_n (by omega), a4, if_pos a5, b4, p1, bV_s, nI_1]
    refine ⟨g', z1, fun i h1 h2 => ?_, fun r hr => ?_⟩
    · by_cases q : i = c
      · subst q
        exact ⟨fun j hj => by rw [z3 _ (by omega)]; exact p2 j hj, fun y hy => by rw [z3 _ (by omega)]; exact p3 y hy⟩
      · obtain ⟨y1, y2⟩ := z2 i (by omega) h2
        exact ⟨fun j hj => by rw [y1 j hj, p4 _ (by omega) (by omega)], fun y hy => by rw [y2 y hy, p4 _ (by omega) (by omega)]⟩
    · rw [z3 r (by omega), p4 r (by omega) (by omega)]
/-- all is copied but cisterns and houses: the last loop and what follows -/
def CPd (A B c n : Nat) (g g' : Nat → Nat → Int32) : Prop := (∀ i, c ≤ i → i < n → ∀ j, j < 3 → g' (A + 38 + i) j = g (B + 38 + i) j) ∧ (∀ j, 9 ≤ j → j ≤ 15 → g' A j = g B j) ∧ (∀ y, y < 30 → g' (A + 4) y = g (B + 4) y) ∧ (∀ j, j < 3 → g' A j = g A j) ∧ ∀ r, r ≠ A → r ≠ A + 4 → (r < A + 38 + c ∨ A + 46 ≤ r) → g' r = g r
theorem LDs.dr (t : LDs h A) (hd : d < 8) : hR h A 5 = A + 3 ∧ hS h (A + 3) = 25 ∧ hL h (A + 3) = 8 ∧ hR h (A + 3) d = A + 38 + d ∧ hS h (A + 38 + d) = 2 := by
  obtain ⟨-, ⟨-, -, r5, -⟩, -, -, ⟨a1, a2⟩, -, -, -, -, xd⟩ := t
  exact ⟨r5, a1, a2, (xd d hd).1, (xd d hd).2⟩
theorem C_cp_D (ta : LDs h A) (tb : LDs h B) (hn : n ≤ 8) (e : A + 46 ≤ B ∨ B + 46 ≤ A) : ∀ (j c : Nat) (g : Nat → Nat → Int32), c + j = n → g A 2 = nI n → ∀ q,
    ∃ g', f_Land_copyFrom_L88 (q + j + 1) (uI h g) A B (nI c) = some (uI (sR h A 8 (hR h B 8)) g') ∧ CPd A B c n g g' := by
  have s4 : ∀ g, hS (uI h g) A = 4 := fun g => ta.1
  have s5 : ∀ g, hS (uI h g) B = 4 := fun g => tb.1
  have r6 : ∀ g, hR (uI h g) A 6 = A + 4 := fun g => ta.2.1.2.2.2.1
  have aS : ∀ g, hS (uI h g) (A + 4) = 20 := fun g => ta.2.2.2.2.2.1.1
  have lS : ∀ g, hL (uI h g) (A + 4) = 30 := fun g => ta.2.2.2.2.2.1.2
  have r6' : ∀ g, hR (uI h g) B 6 = B + 4 := fun g => tb.2.1.2.2.2.1
  have aS' : ∀ g, hS (uI h g) (B + 4) = 20 := fun g => tb.2.2.2.2.2.1.1
  have lS' : ∀ g, hL (uI h g) (B + 4) = 30 := fun g => tb.2.2.2.2.2.1.2
  intro j
  induction j with
  | zero =>
    intro c g hc h0 q
    have hc' : c = n := hc
    have E : f_Land_copyFrom_L88 (q + 0 + 1) (uI h g) A B (nI c) = f_Land_copyFrom_b88 (f_Land_copyFrom_L88 q) (uI h g) A B (nI c) := rfl
    rw [E]
    unfold f_Land_copyFrom_b88
    rw [if_pos (s4 _), hI_u, h0, hc', if_pos (Int32.le_refl _), if_pos (s5 _), r6', if_pos (aS' _), r6, if_pos (aS _), if_pos (by decide), if_pos (by decide), if_pos (by decide), ix_0, i30, lS', if_pos (by decide), lS, if_pos (by decide), wr_s, wr_s, wr_s, wr_s, wr_s, wr_s, wr_s, wr_s, wr_s, cI_u]
    have st : ∀ (G : Nat → Nat → Int32), sR (uI h G) A 8 (hR (uI h G) B 8) = uI (sR h A 8 (hR h B 8)) G := fun _ => rfl
    have eBA : B ≠ A := by omega
    have eBA4 : B ≠ A + 4 := by omega
    rw [st, sI_u, sI_u, sI_u, sI_u, sI_u, sI_u, sI_u]
    refine ⟨_, rfl, fun i h1 h2 => by omega, fun j h1 h2 => ?_, fun y hy => ?_, fun j hj => ?_, fun r h1 h2 h3 => ?_⟩
    · have : j = 9 ∨ j = 10 ∨ j = 11 ∨ j = 12 ∨ j = 13 ∨ j = 14 ∨ j = 15 := by omega
      rcases this with rfl | rfl | rfl | rfl | rfl | rfl | rfl <;> simp [up2, hI_u, rs2, eBA, eBA4]
    · rw [up_r (by omega), up_r (by omega), up_r (by omega), up_r (by omega), up_r (by omega), up_r (by omega), up_r (by omega), rs_eq, sb_cpy0 hy]
    · rw [up_k (by omega), up_k (by omega), up_k (by omega), up_k (by omega), up_k (by omega), up_k (by omega), up_k (by omega), rs_ne (by omega)]
    · rw [up_row h1, up_row h1, up_row h1, up_row h1, up_row h1, up_row h1, up_row h1, rs_ne h2]
  | succ j ih =>
    intro c g hc h0 q
    have E : f_Land_copyFrom_L88 (q + (j + 1) + 1) (uI h g) A B (nI c) = f_Land_copyFrom_b88 (f_Land_copyFrom_L88 (q + j + 1)) (uI h g) A B (nI c) := rfl
    obtain ⟨a1, a2, a3, a4, a5⟩ := (ta.iu (g := g)).dr (d := c) (by omega)
    obtain ⟨b1, b2, b3, b4, b5⟩ := (tb.iu (g := g)).dr (d := c) (by omega)
    obtain ⟨g1, p1, p2, p3⟩ := C_cpD (h := h) (g := g) (a := A + 38 + c) (b := B + 38 + c) a5 b5 (by omega)
    obtain ⟨g', z1, z2, z3, z4, z5, z6⟩ := ih (c + 1) g1 (by omega) (by rw [p3 A (by omega)]; exact h0) q
    rw [E]
    unfold f_Land_copyFrom_b88
    rw [if_pos (s4 _), hI_u, h0, if_neg (nI_ge (by omega) (by omega)), a1, if_pos a2, a3, if_pos (ib_n (by omega) (by decide)), if_pos (s5 _), b1, if_pos b2, b3, if_pos (ib_n (by omega) (by decide)), ix_n (by omega), a4, if_pos a5, b4, p1, bV_s, nI_1]
    refine ⟨g', z1, fun i h1 h2 j hj => ?_, fun j h1 h2 => ?_, fun y hy => ?_, fun j hj => ?_, fun r h1 h2 h3 => ?_⟩
    · by_cases q : i = c
      · subst q
        rw [z6 _ (by omega) (by omega) (by omega)]; exact p2 j hj
      · rw [z2 i (by omega) h2 j hj, p3 _ (by omega)]
    · rw [z3 j h1 h2, p3 _ (by omega)]
    · rw [z4 y hy, p3 _ (by omega)]
    · rw [z5 j hj, p3 _ (by omega)]
    · rw [z6 r h1 h2 (by omega), p3 _ (by omega)]
/-- a Land copied holds the same world, and has the same law -/
theorem C_copy (ta : LDs h A) (tb : LDs h B) (e : A + 46 ≤ B ∨ B + 46 ≤ A) (hA2 : A + 45 ≤ 765) (hB2 : B + 45 ≤ 765) (W : WF M w) (R : RLa g B w) (Lr : LR h g B w) :
    ∃ g', f_Land_copyFrom (uI h g) A B = some (uI (sR h A 8 (hR h B 8)) g') ∧ RLa g' A w ∧ LR (sR h A 8 (hR h B 8)) g' A w ∧ FA A g g' := by
  have s4 : ∀ g, hS (uI h g) A = 4 := fun g => ta.1
  have s5 : ∀ g, hS (uI h g) B = 4 := fun g => tb.1
  have eBA : B ≠ A := by omega
  obtain ⟨⟨W1, W2, W3⟩, ⟨B1, B2, B3⟩, -, -, -, Ci, -⟩ := id W
  obtain ⟨⟨s0, s1, s2, q3, q4, q5, q6, q7, q8, q9⟩, Rc, Rh, Rd, Ry⟩ := id R
  unfold f_Land_copyFrom f_Land_copyFrom_b0
  rw [if_pos (s5 _), if_pos (s4 _), wr_s, wr_s, wr_s, sI_u, sI_u, sI_u]
  have hG : ∃ G, G = up2 (up2 (up2 g A 0 (hI (uI h g) B 0)) A 1 (hI (uI h (up2 g A 0 (hI (uI h g) B 0))) B 1)) A 2 (hI (uI h (up2 (up2 g A 0 (hI (uI h g) B 0)) A 1 (hI (uI h (up2 g A 0 (hI (uI h g) B 0))) B 1))) B 2) := ⟨_, rfl⟩
  obtain ⟨G, hG⟩ := hG
  rw [← hG]
  have G0 : G A 0 = w 0 := by rw [hG, up_k (by decide), up_k (by decide), up_eq]; exact s0
  have G1 : G A 1 = w 1 := by rw [hG, up_k (by decide), up_eq, hI_u, up_r eBA]; exact s1
  have G2 : G A 2 = w 10 := by rw [hG, up_eq, hI_u, up_r eBA, up_r eBA]; exact s2
  have Go : ∀ r, r ≠ A → G r = g r := fun r hr => by rw [hG, up_row hr, up_row hr, up_row hr]
  rw [FU_mm (k := nc w) (by omega)]
  obtain ⟨g1, p1, p2, p3⟩ := C_cp_C ta tb B1 e (nc w) 0 G (by omega) (by rw [G0, W1]) (fun i hi => by
    have := (Rc i hi).1 2 (by decide)
    rw [show 65 + 35 * i + 2 = 67 + 35 * i from by omega] at this
    rw [Go _ (by omega), this]
    exact (Ci i hi).hk) (999999 - nc w)
  rw [show (0 : Int32) = nI 0 from rfl, p1, FU_mm (k := nh w) (by omega)]
  obtain ⟨g2, k1, k2, k3⟩ := C_cp_H ta tb B2 e (nh w) 0 g1 (by omega) (by rw [p3 A (by omega), G1, W2]) (999999 - nh w)
  rw [show (0 : Int32) = nI 0 from rfl, k1, FU_mm (k := nd w) (by omega)]
  obtain ⟨g3, m1, m2, m3, m4, m5, m6⟩ := C_cp_D ta tb B3 e (nd w) 0 g2 (by omega) (by rw [k3 A (by omega), p3 A (by omega), G2, W3]) (999999 - nd w)
  have oB : ∀ r, B ≤ r → r ≤ B + 45 → g2 r = g r ∧ g1 r = g r ∧ G r = g r := fun r h1 h2 => by
    have a1 : G r = g r := Go r (by omega)
    have a2 : g1 r = g r := by rw [p3 r (by omega), a1]
    exact ⟨by rw [k3 r (by omega), a2], a2, a1⟩
  have F : FA A g g3 := fun r hr => by rw [m6 r (by omega) (by omega) (by omega), k3 r (by omega), p3 r (by omega), Go r (by omega)]
  refine ⟨g3, m1, ⟨⟨?_, ?_, ?_, ?_, ?_, ?_, ?_, ?_, ?_, ?_⟩, fun c hc => ?_, fun k hk => ?_, fun d hd => ?_, fun y hy => ?_⟩, ?_, F⟩
  · rw [m5 0 (by decide), k3 A (by omega), p3 A (by omega), G0]
  · rw [m5 1 (by decide), k3 A (by omega), p3 A (by omega), G1]
  · rw [m5 2 (by decide), k3 A (by omega), p3 A (by omega), G2]
  · rw [m3 9 (by decide) (by decide), (oB B (by omega) (by omega)).1]; exact q3
  · rw [m3 10 (by decide) (by decide), (oB B (by omega) (by omega)).1]; exact q4
  · rw [m3 11 (by decide) (by decide), (oB B (by omega) (by omega)).1]; exact q5
  · rw [m3 12 (by decide) (by decide), (oB B (by omega) (by omega)).1]; exact q6
  · rw [m3 13 (by decide) (by decide), (oB B (by omega) (by omega)).1]; exact q7
  · rw [m3 14 (by decide) (by decide), (oB B (by omega) (by omega)).1]; exact q8
  · rw [m3 15 (by decide) (by decide), (oB B (by omega) (by omega)).1]; exact q9
  · obtain ⟨r1, r2, r3⟩ := Rc c hc
    obtain ⟨y1, y2⟩ := p2 c (by omega) hc
    have o1 : g3 (A + 6 + 2 * c) = g1 (A + 6 + 2 * c) := by rw [m6 _ (by omega) (by omega) (by omega), k3 _ (by omega)]
    have o2 : g3 (A + 6 + 2 * c + 1) = g1 (A + 6 + 2 * c + 1) := by rw [m6 _ (by omega) (by omega) (by omega), k3 _ (by omega)]
    unfold RLc
    rw [o1, o2]
    refine ⟨fun j hj => ?_, fun y hy => ?_, ?_⟩
    · rw [y1 j (by omega), Go _ (by omega)]; exact r1 j hj
    · rw [y2 y hy, Go _ (by omega)]; exact r2 y hy
    · rw [y1 5 (by omega), Go _ (by omega)]; exact r3
  · obtain ⟨r1, r2⟩ := Rh k hk
    obtain ⟨y1, y2⟩ := k2 k (by omega) hk
    unfold RLh
    rw [m6 (A + 22 + 2 * k) (by omega) (by omega) (by omega), m6 (A + 22 + 2 * k + 1) (by omega) (by omega) (by omega)]
    refine ⟨fun j hj => ?_, fun y hy => ?_⟩
    · rw [y1 j (by omega), (oB _ (by omega) (by omega)).2.1]; exact r1 j hj
    · rw [y2 y hy, (oB _ (by omega) (by omega)).2.1]; exact r2 y hy
  · intro j hj
    rw [m2 d (by omega) hd j hj, (oB _ (by omega) (by omega)).1]
    exact Rd d hd j hj
  · rw [m4 y hy, (oB _ (by omega) (by omega)).1]
    exact Ry y hy
  · have r8 : hR (sR h A 8 (hR h B 8)) A 8 = hR h B 8 := if_pos ⟨rfl, rfl⟩
    rcases Lr with ⟨z1, z2⟩ | ⟨z1, z2, z3, S, z4, z5⟩
    · exact Or.inl ⟨z1, by rw [r8]; exact z2⟩
    · refine Or.inr ⟨z1, by rw [r8]; exact z2, z3, S, ?_, ?_⟩
      · rw [r8]
        obtain ⟨x1, ⟨x2, x3, x4, x5, x6⟩, x7⟩ := z4
        have ro : ∀ k, hR (sR h A 8 (hR h B 8)) (hR h B 8) k = hR h (hR h B 8) k := fun k => if_neg fun z => by have := z.1; omega
        exact ⟨x1, ⟨(ro 1).trans x2, (ro 2).trans x3, (ro 3).trans x4, (ro 4).trans x5, (ro 5).trans x6⟩, x7⟩
      · rw [r8]
        obtain ⟨G1, G2, G3, G4, G5, G6⟩ := z5
        have x : ∀ r, 765 < r → g3 r = g r := fun r hr => F r (by omega)
        exact ⟨by rw [x _ z2]; exact G1, by rw [x _ z2]; exact G2, fun n hn => by rw [x _ (by omega), x _ (by omega)]; exact G3 n hn, fun i hi => by rw [x _ (by omega)]; exact G4 i hi, by rw [x _ z2]; exact G5, G6⟩
end U17
