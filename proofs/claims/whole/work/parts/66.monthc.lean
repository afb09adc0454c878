/-! ===== a month of the class ===== -/
section U16
variable {h : Hp} {g g' g1 : Nat → Nat → Int32} {w w' : Nat → Int32} {A L S c d k n l y j m q s i F r z E N M : Nat} {v x a b : Int32} {f p : Nat → Nat} {P Q : Nat → Int32}
/-- but for the Land at A and what its law works on nothing has changed -/
def FH (h : Hp) (A : Nat) (g g' : Nat → Nat → Int32) : Prop := ∀ r, (r < A ∨ A + 45 < r) → (765 < hR h A 8 → r ≠ hR h A 8 + 4 ∧ r ≠ hR h A 8 + 5) → g' r = g r
theorem FH.rf : FH h A g g := fun _ _ _ => rfl
theorem FH.tr (x : FH h A g g1) (y : FH h A g1 g') : FH h A g g' := fun r h1 h2 => (y r h1 h2).trans (x r h1 h2)
theorem FH.fa (x : FA A g g') : FH h A g g' := fun r h1 _ => x r h1
theorem LR.fh (R : LR h g A w) (hA2 : A + 45 ≤ 765) (x : FH h A g g') : LR h g' A w := by
  rcases R with z | ⟨z1, z2, z3, S, z4, z5⟩
  · exact Or.inl z
  · obtain ⟨G1, G2, G3, G4, G5, G6⟩ := z5
    have X : ∀ k, k < 4 → g' (hR h A 8 + k) = g (hR h A 8 + k) := fun k hk => x _ (by omega) fun _ => by omega
    have X0 := X 0 (by decide)
    rw [Nat.add_zero] at X0
    exact Or.inr ⟨z1, z2, z3, S, z4, by rw [X0]; exact G1, by rw [X0]; exact G2, fun n hn => by rw [X 1 (by decide), X 2 (by decide)]; exact G3 n hn, fun i hi => by rw [X 3 (by decide)]; exact G4 i hi, by rw [X0]; exact G5, G6⟩
theorem C_brk_L (t : LDs h A) (B : WFb w) (h0 : w 0 = nI (nc w)) (R : RLa g A w) : ∀ (j c : Nat), c + j = nc w → ∀ q, ∃ g', f_Land_freeze_L15 (q + j + 1) (uI h g) A (nI c) = some (uI h g') ∧ RLa g' A (brkW w j c) ∧ FA A g g' ∧ ∀ i, i < 8 → g' (A + 22 + 2 * i) = g (A + 22 + 2 * i) := by
  have s4 : ∀ g, hS (uI h g) A = 4 := fun g => t.1
  have h8 := B.1
  intro j
  induction j with
  | zero =>
    intro c hc q
    have E : f_Land_freeze_L15 (q + 0 + 1) (uI h g) A (nI c) = f_Land_freeze_b15 (f_Land_freeze_L15 q) (uI h g) A (nI c) := rfl
    have hc' : c = nc w := hc
    rw [E]
    unfold f_Land_freeze_b15
    rw [if_pos (s4 _), hI_u, R.1.1, h0, ← hc', if_pos (Int32.le_refl _)]
    exact ⟨g, rfl, R, FA.rf, fun _ _ => rfl⟩
  | succ j ih =>
    intro c hc q
    have E : f_Land_freeze_L15 (q + (j + 1) + 1) (uI h g) A (nI c) = f_Land_freeze_b15 (f_Land_freeze_L15 (q + j + 1)) (uI h g) A (nI c) := rfl
    obtain ⟨a1, a2, a3, a4, a5⟩ := (t.iu (g := g)).cr (c := c) (by omega)
    obtain ⟨r1, r2, r3⟩ := R.2.1 c (by omega)
    have e2 := r1 2 (by decide)
    rw [show 65 + 35 * c + 2 = 67 + 35 * c from by omega] at e2
    rw [E]
    unfold f_Land_freeze_b15
    rw [if_pos (s4 _), hI_u, R.1.1, h0, if_neg (nI_ge (by omega) (by omega)), a3, if_pos a4, a5, if_pos (ib_n (by omega) (by decide)), ix_n (by omega), a1, if_pos a2, e2]
    by_cases e : w (67 + 35 * c) = 0
    · have z : brkW w (j + 1) c = brkW w j (c + 1) := if_pos e
      rw [if_pos e, nI_1, z]
      exact ih (c + 1) (by omega) q
    · have z : brkW w (j + 1) c = up1 w (67 + 35 * c) 0 := if_neg e
      rw [if_neg e, if_pos (ib_n (by omega) (by decide)), wr_s, sI_u, z]
      refine ⟨_, rfl, ?_, fun r hr => up_row (by omega), fun i hi => up_row (by omega)⟩
      refine R.cis B (c := c) (by omega) (fun r _ _ h1 _ _ => up_row h1) (fun k hk => up1_ne (by omega)) ⟨fun j hj => ?_, fun y hy => ?_, ?_⟩
      · by_cases q : j = 2
        · subst q
          rw [up_eq, show 65 + 35 * c + 2 = 67 + 35 * c from by omega, up1_eq]
        · rw [up_k q, up1_ne (by omega)]
          exact r1 j hj
      · rw [up_r (by omega), up1_ne (by omega)]
        exact r2 y hy
      · rw [up_k (by decide), r3, ms_eq (w' := up1 w (67 + 35 * c) 0) (w := w) (fun y hy => up1_ne (by omega))]
theorem C_freeze (t : LDs h A) (W : WF M w) (R : RLa g A w) : ∃ g', f_Land_freeze (uI h g) A = some (uI h g') ∧ RLa g' A (frostW w) ∧ FA A g g' ∧ ∀ i, i < 8 → g' (A + 22 + 2 * i) = g (A + 22 + 2 * i) := by
  have s4 : ∀ g, hS (uI h g) A = 4 := fun g => t.1
  have B := W.2.1
  have h8 := B.1
  have d5 : ∀ k, k ≠ 5 → drawW w k = w k := fun k hk => up1_ne hk
  have n0 : nc (drawW w) = nc w := congrArg ix (d5 0 (by decide))
  have e11 : g A 11 = w 5 := R.1.2.2.2.2.2.1
  have v5 : drawW w 5 = (1103515245 : Int32) * w 5 + 12345 := up1_eq
  have Rd : RLa (up2 g A 11 (drawW w 5)) A (drawW w) := by
    refine R.sca B (fun r _ _ h1 _ => up_row h1) (fun k hk => d5 k (by omega)) ?_
    obtain ⟨s0, s1, s2, s3, s4, s5, s6, s7, s8, s9⟩ := R.1
    refine ⟨?_, ?_, ?_, ?_, ?_, up_eq, ?_, ?_, ?_, ?_⟩
    all_goals rw [up_k (by decide), d5 _ (by decide)]; assumption
  have dr : f_Land_draw (uI h g) A = some (drawV w, uI h (up2 g A 11 (drawW w 5))) := by
    unfold f_Land_draw f_Land_draw_b0
    rw [if_pos (s4 _), hI_u, e11, ← v5, wr_s, sI_u, hI_u, up_eq]
    rfl
  unfold f_Land_freeze f_Land_freeze_b0 frostW
  rw [if_pos (s4 _), dr, bI_s]
  by_cases e : jrem (drawV w) 100 < 20
  · rw [if_pos e, if_pos e, FU_mm (k := nc w) (by omega)]
    obtain ⟨g', q1, q2, q3, q4⟩ := C_brk_L t (w := drawW w) (g := up2 g A 11 (drawW w 5)) ⟨by rw [n0]; exact h8, by show ix (drawW w 1) ≤ 8; rw [d5 1 (by decide)]; exact B.2.1, by show ix (drawW w 10) ≤ 8; rw [d5 10 (by decide)]; exact B.2.2⟩ (by rw [n0, d5 0 (by decide)]; exact W.1.1) Rd (nc w) 0 (by rw [n0]; omega) (999999 - nc w)
    exact ⟨g', q1, q2, FA.tr (fun r hr => up_row (by omega)) q3, fun i hi => (q4 i hi).trans (up_row (by omega))⟩
  · rw [if_neg e, if_neg e]
    exact ⟨_, rfl, Rd, fun r hr => up_row (by omega), fun i hi => up_row (by omega)⟩
theorem C_month_L (t : LDs h A) (hA : 6 ≤ A) (hA2 : A + 45 ≤ 765) (W : WF M w) (hM : M < 2 ^ 30) : ∀ (j k : Nat) (g : Nat → Nat → Int32), k + j = nh w → RLa g A (dmsW w k) → LR h g A (dmsW w k) → (∀ i, i < k → g (A + 22 + 2 * i) 4 = nI (lcW w i)) → ∀ q,
    ∃ g', f_Land_passMonth_L8 (q + j + 1) (uI h g) A (nI (smN (lcW w) k)) (nI k) = some (nI (smN (lcW w) (nh w)), uI h g') ∧ RLa g' A (endW (dmsW w (nh w))) ∧ LR h g' A (endW (dmsW w (nh w))) ∧ (∀ i, i < nh w → g' (A + 22 + 2 * i) 4 = nI (lcW w i)) ∧ FH h A g g' := by
  have s4 : ∀ g, hS (uI h g) A = 4 := fun g => t.1
  intro j
  induction j with
  | zero =>
    intro k g hk R Lr ll q
    have hk' : k = nh w := hk
    obtain ⟨W1, W2⟩ := dms_wf W k (by omega)
    have T1 := W1.tick hM
    have h8 := W.2.1.2.1
    have E : f_Land_passMonth_L8 (q + 0 + 1) (uI h g) A (nI (smN (lcW w) k)) (nI k) = f_Land_passMonth_b8 (f_Land_passMonth_L8 q) (uI h g) A (nI (smN (lcW w) k)) (nI k) := rfl
    have e10 : g A 10 = dmsW w k 4 := R.1.2.2.2.2.1
    have t4 : tickW (dmsW w k) 4 = dmsW w k 4 + 1 := up1_eq
    have d4 : ∀ j, j ≠ 4 → tickW (dmsW w k) j = dmsW w k j := fun j hj => up1_ne hj
    have Rt : RLa (up2 g A 10 (tickW (dmsW w k) 4)) A (tickW (dmsW w k)) := by
      refine R.sca W1.2.1 (fun r _ _ h1 _ => up_row h1) (fun k hk => d4 k (by omega)) ?_
      obtain ⟨s0, s1, s2, s3, s4, s5, s6, s7, s8, s9⟩ := R.1
      refine ⟨?_, ?_, ?_, ?_, up_eq, ?_, ?_, ?_, ?_, ?_⟩
      all_goals rw [up_k (by decide), d4 _ (by decide)]; assumption
    have Lt : LR h (up2 g A 10 (tickW (dmsW w k) 4)) A (tickW (dmsW w k)) := LR.congr (Lr.hi fun r hr => up_row (by omega)) (d4 3 (by decide)) (fun k hk => d4 k (by omega))
    rw [E]
    unfold f_Land_passMonth_b8
    rw [if_pos (s4 _), hI_u, R.1.2.1, W1.1.2.1, W2.nh, ← hk', if_pos (Int32.le_refl _), e10, ← t4, wr_s, sI_u, hI_u, up_eq]
    unfold endW
    by_cases e : jrem (tickW (dmsW w k) 4) 12 = 0
    · rw [if_pos e, if_pos e]
      obtain ⟨g', q1, q2, q3, q4⟩ := C_freeze t T1 Rt
      obtain ⟨F1, F2⟩ := frost_wf T1
      rw [q1, bV_s]
      exact ⟨g', rfl, q2, LR.congr (Lt.hi fun r hr => q3 r (by omega)) (F2 3 (by decide) (by decide) (by omega)) F2.hi, fun i hi => by rw [q4 i (by omega), up_row (by omega)]; exact ll i hi, FH.fa (FA.tr (fun r hr => up_row (by omega)) q3)⟩
    · rw [if_neg e, if_neg e]
      exact ⟨_, rfl, Rt, Lt, fun i hi => by rw [up_row (by omega)]; exact ll i hi, FH.fa fun r hr => up_row (by omega)⟩
  | succ j ih =>
    intro k g hk R Lr ll q
    obtain ⟨W1, W2⟩ := dms_wf W k (by omega)
    have h8 := W.2.1.2.1
    have hk2 : k < nh (dmsW w k) := by rw [W2.nh]; omega
    have H := W1.2.2.2.2.2.2.1 k hk2
    have C2 := (dm_co W1 hk2).1
    obtain ⟨x1, x2, x3, x4, -⟩ := (t.iu (g := g)).hr (k := k) (by omega)
    have E : f_Land_passMonth_L8 (q + (j + 1) + 1) (uI h g) A (nI (smN (lcW w) k)) (nI k) = f_Land_passMonth_b8 (f_Land_passMonth_L8 (q + j + 1)) (uI h g) A (nI (smN (lcW w) k)) (nI k) := rfl
    obtain ⟨g1, p1, p2, p3, p4⟩ := C_lack t hA hA2 R Lr W1.2.1 hk2 W1.1.1 H (W1.2.2.2.2.2.1 _ H.2.1.2)
    have F1 : FH h A g g1 := p4.1
    obtain ⟨g', z1, z2, z3, z4, z5⟩ := ih (k + 1) g1 (by omega) p2 (LR.congr (Lr.fh hA2 F1) (C2 3 (by decide) (by decide) (by omega)) C2.hi) (fun i hi => by
      by_cases e : i = k
      · subst e; exact p3
      · rw [p4.2 i (by omega) e]; exact ll i (by omega)) q
    rw [E]
    unfold f_Land_passMonth_b8
    rw [if_pos (s4 _), hI_u, R.1.2.1, W1.1.2.1, W2.nh, if_neg (nI_ge (by omega) (by omega)), x1, if_pos x2, x3, if_pos (ib_n (by omega) (by decide)), ix_n (by omega), x4, p1, bI_s, nI_add, nI_1]
    exact ⟨g', z1, z2, z3, z4, F1.tr z5⟩
/-- the class's month is the reference's -/
theorem C_month (t : LDs h A) (hA : 6 ≤ A) (hA2 : A + 45 ≤ 765) (W : WF M w) (hM : M < 2 ^ 30) (R : RLa g A w) (Lr : LR h g A w) :
    ∃ g', f_Land_passMonth (uI h g) A = some (nI (thirstW w), uI h g') ∧ RLa g' A (monthW w) ∧ LR h g' A (monthW w) ∧ (∀ i, i < nh w → g' (A + 22 + 2 * i) 4 = nI (lcW (leaksW w (nc w)) i)) ∧ FH h A g g' := by
  have s4 : ∀ g, hS (uI h g) A = 4 := fun g => t.1
  obtain ⟨g1, p1, p2, p3⟩ := C_leaks t hA R W.wn
  have W1 := W.leaks
  have n1 : nh (leaksW w (nc w)) = nh w := (leaks_co W.2.1.1).nh
  have h8 := W.2.1.2.1
  have Cl := leaks_co (w := w) W.2.1.1
  unfold f_Land_passMonth f_Land_passMonth_b0
  rw [if_pos (s4 _), p1, bV_s, FU_mm (k := nh w) (by omega)]
  obtain ⟨g', q1, q2, q3, q4, q5⟩ := C_month_L t hA hA2 W1 hM (nh w) 0 g1 (by rw [n1]; omega) p2 (LR.congr (Lr.hi fun r hr => p3 r (by omega)) (Cl 3 (by decide) (by decide) (by omega)) Cl.hi) (fun i hi => absurd hi (Nat.not_lt_zero _)) (999999 - nh w)
  rw [n1] at q1 q2 q3 q4
  exact ⟨g', q1, q2, q3, q4, (FH.fa p3).tr q5⟩
theorem thF_0 (h : ∀ i, i < n → f i = 0) : thF f n = -1 := by
  induction n with
  | zero => rfl
  | succ n ih =>
    have e := ih (fun i hi => h i (by omega))
    have z := h n (by omega)
    show (if thF f n < 0 then (if 0 < f n then nI n else -1) else thF f n) = -1
    rw [e, if_pos (by decide), if_neg (by omega)]
theorem thF_k (h : ∀ i, i < k → f i = 0) (hk : 0 < f k) (hn : k < n) (hb : n < 2 ^ 31) : thF f n = nI k := by
  induction n with
  | zero => omega
  | succ n ih =>
    show (if thF f n < 0 then (if 0 < f n then nI n else -1) else thF f n) = nI k
    by_cases e : k = n
    · subst e
      rw [thF_0 h, if_pos (by decide), if_pos hk]
    · rw [ih (by omega) (by omega), if_neg (nI_pos (by omega))]
theorem C_thirsty_L (t : LDs h A) (e1 : g A 1 = nI N) (hN : N ≤ 8) (hf : ∀ i, i < N → g (A + 22 + 2 * i) 4 = nI (f i) ∧ f i ≤ 99) : ∀ (j k : Nat), k + j = N → (∀ i, i < k → f i = 0) → ∀ q, f_Land_firstThirsty_L2 (q + j + 1) (uI h g) A (nI k) = some (thF f N, uI h g) := by
  have s4 : ∀ g, hS (uI h g) A = 4 := fun g => t.1
  intro j
  induction j with
  | zero =>
    intro k hk hz q
    have E : f_Land_firstThirsty_L2 (q + 0 + 1) (uI h g) A (nI k) = f_Land_firstThirsty_b2 (f_Land_firstThirsty_L2 q) (uI h g) A (nI k) := rfl
    have hk' : k = N := hk
    rw [E]
    unfold f_Land_firstThirsty_b2
    rw [if_pos (s4 _), hI_u, e1, hk', if_pos (Int32.le_refl _), thF_0 (by rw [← hk']; exact hz)]
  | succ j ih =>
    intro k hk hz q
    have E : f_Land_firstThirsty_L2 (q + (j + 1) + 1) (uI h g) A (nI k) = f_Land_firstThirsty_b2 (f_Land_firstThirsty_L2 (q + j + 1)) (uI h g) A (nI k) := rfl
    obtain ⟨x1, x2, x3, x4, x5, -⟩ := (t.iu (g := g)).hr (k := k) (by omega)
    obtain ⟨y1, y2⟩ := hf k (by omega)
    rw [E]
    unfold f_Land_firstThirsty_b2
    rw [if_pos (s4 _), hI_u, e1, if_neg (nI_ge (by omega) (by omega)), x1, if_pos x2, x3, if_pos (ib_n (by omega) (by decide)), ix_n (by omega), x4, if_pos x5, y1]
    by_cases e : f k = 0
    · rw [e, if_pos (show nI 0 ≤ 0 from by decide), nI_1]
      exact ih (k + 1) (by omega) (fun i hi => by
        by_cases q : i = k
        · rw [q]; exact e
        · exact hz i (by omega)) q
    · rw [if_neg (nI_nle (by omega) (by omega)), thF_k hz (by omega) (by omega) (by omega)]
theorem C_thirsty (t : LDs h A) (e1 : g A 1 = nI N) (hN : N ≤ 8) (hf : ∀ i, i < N → g (A + 22 + 2 * i) 4 = nI (f i) ∧ f i ≤ 99) : f_Land_firstThirsty (uI h g) A = some (thF f N, uI h g) := by
  unfold f_Land_firstThirsty f_Land_firstThirsty_b0
  rw [FU_mm (k := N) (by omega)]
  exact C_thirsty_L t e1 hN hf N 0 (by omega) (fun i hi => absurd hi (Nat.not_lt_zero _)) _
end U16
