/-! ===== how a Land goes on holding a world; the first year ===== -/
section U12
variable {h : Hp} {g g' g1 : Nat → Nat → Int32} {w w' : Nat → Int32} {A L S c d k n l y j m q s i F r z E : Nat} {v x a b : Int32} {f p : Nat → Nat} {P : Nat → Int32}
/-- its bounds -/
def WFb (w : Nat → Int32) : Prop := nc w ≤ 8 ∧ nh w ≤ 8 ∧ nd w ≤ 8
theorem RLa.ex (R : RLa g A w) (B : WFb w) (x : ∀ r, A ≤ r → r ≤ A + 45 → r ≠ A + 5 → g' r = g r) : RLa g' A w := by
  obtain ⟨R1, R2, R3, R4, R5⟩ := R
  obtain ⟨B1, B2, B3⟩ := B
  refine ⟨?_, fun c hc => ?_, fun k hk => ?_, fun d hd => ?_, ?_⟩
  · unfold RLs; rw [x A (by omega) (by omega) (by omega)]; exact R1
  · unfold RLc; rw [x (A + 6 + 2 * c) (by omega) (by omega) (by omega), x (A + 6 + 2 * c + 1) (by omega) (by omega) (by omega)]; exact R2 c hc
  · unfold RLh; rw [x (A + 22 + 2 * k) (by omega) (by omega) (by omega), x (A + 22 + 2 * k + 1) (by omega) (by omega) (by omega)]; exact R3 k hk
  · unfold RLd; rw [x (A + 38 + d) (by omega) (by omega) (by omega)]; exact R4 d hd
  · unfold RLy; rw [x (A + 4) (by omega) (by omega) (by omega)]; exact R5
/-- only the cistern c has changed -/
theorem RLa.cis (R : RLa g A w) (B : WFb w) (hc : c < nc w) (x : ∀ r, A ≤ r → r ≤ A + 45 → r ≠ A + 6 + 2 * c → r ≠ A + 6 + 2 * c + 1 → r ≠ A + 5 → g' r = g r) (e : ∀ k, ¬ (65 + 35 * c ≤ k ∧ k < 100 + 35 * c) → w' k = w k) (C : RLc g' A w' c) : RLa g' A w' := by
  obtain ⟨R1, R2, R3, R4, R5⟩ := R
  obtain ⟨B1, B2, B3⟩ := B
  have n0 : nc w' = nc w := congrArg ix (e 0 (by omega))
  have n1 : nh w' = nh w := congrArg ix (e 1 (by omega))
  have n2 : nd w' = nd w := congrArg ix (e 10 (by omega))
  refine ⟨?_, fun c' hc' => ?_, fun k hk => ?_, fun d hd => ?_, ?_⟩
  · unfold RLs
    rw [x A (by omega) (by omega) (by omega) (by omega) (by omega), e 0 (by omega), e 1 (by omega), e 10 (by omega), e 2 (by omega), e 4 (by omega), e 5 (by omega), e 6 (by omega), e 7 (by omega), e 8 (by omega), e 9 (by omega)]
    exact R1
  · rw [n0] at hc'
    by_cases q : c' = c
    · rw [q]; exact C
    · obtain ⟨r1, r2, r3⟩ := R2 c' hc'
      unfold RLc
      rw [x (A + 6 + 2 * c') (by omega) (by omega) (by omega) (by omega) (by omega), x (A + 6 + 2 * c' + 1) (by omega) (by omega) (by omega) (by omega) (by omega), ms_eq (w' := w') (w := w) (fun y hy => e _ (by omega))]
      exact ⟨fun j hj => by rw [e _ (by omega)]; exact r1 j hj, fun y hy => by rw [e _ (by omega)]; exact r2 y hy, r3⟩
  · rw [n1] at hk
    obtain ⟨r1, r2⟩ := R3 k hk
    unfold RLh
    rw [x (A + 22 + 2 * k) (by omega) (by omega) (by omega) (by omega) (by omega), x (A + 22 + 2 * k + 1) (by omega) (by omega) (by omega) (by omega) (by omega)]
    exact ⟨fun j hj => by rw [e _ (by omega)]; exact r1 j hj, fun y hy => by rw [e _ (by omega)]; exact r2 y hy⟩
  · rw [n2] at hd
    unfold RLd
    rw [x (A + 38 + d) (by omega) (by omega) (by omega) (by omega) (by omega)]
    exact fun j hj => by rw [e _ (by omega)]; exact R4 d hd j hj
  · unfold RLy
    rw [x (A + 4) (by omega) (by omega) (by omega) (by omega) (by omega)]
    exact fun y hy => by rw [e _ (by omega)]; exact R5 y hy
/-- only the house k has changed -/
theorem RLa.hou (R : RLa g A w) (B : WFb w) (hk : k < nh w) (x : ∀ r, A ≤ r → r ≤ A + 45 → r ≠ A + 22 + 2 * k → r ≠ A + 22 + 2 * k + 1 → r ≠ A + 5 → g' r = g r) (e : ∀ j, ¬ (345 + 34 * k ≤ j ∧ j < 379 + 34 * k) → w' j = w j) (C : RLh g' A w' k) : RLa g' A w' := by
  obtain ⟨R1, R2, R3, R4, R5⟩ := R
  obtain ⟨B1, B2, B3⟩ := B
  have n0 : nc w' = nc w := congrArg ix (e 0 (by omega))
  have n1 : nh w' = nh w := congrArg ix (e 1 (by omega))
  have n2 : nd w' = nd w := congrArg ix (e 10 (by omega))
  refine ⟨?_, fun c' hc' => ?_, fun k' hk' => ?_, fun d hd => ?_, ?_⟩
  · unfold RLs
    rw [x A (by omega) (by omega) (by omega) (by omega) (by omega), e 0 (by omega), e 1 (by omega), e 10 (by omega), e 2 (by omega), e 4 (by omega), e 5 (by omega), e 6 (by omega), e 7 (by omega), e 8 (by omega), e 9 (by omega)]
    exact R1
  · rw [n0] at hc'
    obtain ⟨r1, r2, r3⟩ := R2 c' hc'
    unfold RLc
    rw [x (A + 6 + 2 * c') (by omega) (by omega) (by omega) (by omega) (by omega), x (A + 6 + 2 * c' + 1) (by omega) (by omega) (by omega) (by omega) (by omega), ms_eq (w' := w') (w := w) (fun y hy => e _ (by omega))]
    exact ⟨fun j hj => by rw [e _ (by omega)]; exact r1 j hj, fun y hy => by rw [e _ (by omega)]; exact r2 y hy, r3⟩
  · rw [n1] at hk'
    by_cases q : k' = k
    · rw [q]; exact C
    · obtain ⟨r1, r2⟩ := R3 k' hk'
      unfold RLh
      rw [x (A + 22 + 2 * k') (by omega) (by omega) (by omega) (by omega) (by omega), x (A + 22 + 2 * k' + 1) (by omega) (by omega) (by omega) (by omega) (by omega)]
      exact ⟨fun j hj => by rw [e _ (by omega)]; exact r1 j hj, fun y hy => by rw [e _ (by omega)]; exact r2 y hy⟩
  · rw [n2] at hd
    unfold RLd
    rw [x (A + 38 + d) (by omega) (by omega) (by omega) (by omega) (by omega)]
    exact fun j hj => by rw [e _ (by omega)]; exact R4 d hd j hj
  · unfold RLy
    rw [x (A + 4) (by omega) (by omega) (by omega) (by omega) (by omega)]
    exact fun y hy => by rw [e _ (by omega)]; exact R5 y hy
/-- only its own ints have changed -/
theorem RLa.sca (R : RLa g A w) (B : WFb w) (x : ∀ r, A ≤ r → r ≤ A + 45 → r ≠ A → r ≠ A + 5 → g' r = g r) (e : ∀ j, ¬ (2 ≤ j ∧ j ≤ 9) → w' j = w j) (C : RLs g' A w') : RLa g' A w' := by
  obtain ⟨R1, R2, R3, R4, R5⟩ := R
  obtain ⟨B1, B2, B3⟩ := B
  have n0 : nc w' = nc w := congrArg ix (e 0 (by omega))
  have n1 : nh w' = nh w := congrArg ix (e 1 (by omega))
  have n2 : nd w' = nd w := congrArg ix (e 10 (by omega))
  refine ⟨C, fun c' hc' => ?_, fun k' hk' => ?_, fun d hd => ?_, ?_⟩
  · rw [n0] at hc'
    obtain ⟨r1, r2, r3⟩ := R2 c' hc'
    unfold RLc
    rw [x (A + 6 + 2 * c') (by omega) (by omega) (by omega) (by omega), x (A + 6 + 2 * c' + 1) (by omega) (by omega) (by omega) (by omega), ms_eq (w' := w') (w := w) (fun y hy => e _ (by omega))]
    exact ⟨fun j hj => by rw [e _ (by omega)]; exact r1 j hj, fun y hy => by rw [e _ (by omega)]; exact r2 y hy, r3⟩
  · rw [n1] at hk'
    obtain ⟨r1, r2⟩ := R3 k' hk'
    unfold RLh
    rw [x (A + 22 + 2 * k') (by omega) (by omega) (by omega) (by omega), x (A + 22 + 2 * k' + 1) (by omega) (by omega) (by omega) (by omega)]
    exact ⟨fun j hj => by rw [e _ (by omega)]; exact r1 j hj, fun y hy => by rw [e _ (by omega)]; exact r2 y hy⟩
  · rw [n2] at hd
    unfold RLd
    rw [x (A + 38 + d) (by omega) (by omega) (by omega) (by omega)]
    exact fun j hj => by rw [e _ (by omega)]; exact R4 d hd j hj
  · unfold RLy
    rw [x (A + 4) (by omega) (by omega) (by omega) (by omega)]
    exact fun y hy => by rw [e _ (by omega)]; exact R5 y hy
/-- s measures of a year less, or more -/
def tkW (w : Nat → Int32) (c y s : Nat) : Nat → Int32 := up1 w (70 + 35 * c + y) (nI (ly w c y - s))
def gvW (w : Nat → Int32) (c y s : Nat) : Nat → Int32 := up1 w (70 + 35 * c + y) (nI (ly w c y + s))
theorem smN_tk (hy : y < n) (hs : s ≤ f y) : smN (fun z => if z = y then f z - s else f z) n + s = smN f n := by
  have e : smN f n = smN (fun z => (if z = y then f z - s else f z) + (if z = y then s else 0)) n := smN_congr fun z hz => by
    by_cases q : z = y
    · rw [if_pos q, if_pos q, q]; omega
    · rw [if_neg q, if_neg q]; omega
  rw [e, smN_add, smN_at hy]
theorem smN_gv (hy : y < n) : smN (fun z => if z = y then f z + s else f z) n = smN f n + s := by
  have e : smN (fun z => if z = y then f z + s else f z) n = smN (fun z => f z + (if z = y then s else 0)) n := smN_congr fun z hz => by
    by_cases q : z = y
    · rw [if_pos q, if_pos q]
    · rw [if_neg q, if_neg q]; omega
  rw [e, smN_add, smN_at hy]
theorem ly_up {b : Nat} (hb : b < 2 ^ 31) : ly (up1 w (70 + 35 * c + y) (nI b)) c z = if z = y then b else ly w c z := by
  unfold ly
  by_cases q : z = y
  · rw [if_pos q, q, up1_eq, ix_n hb]
  · rw [if_neg q, up1_ne (by omega)]
theorem ms_tk (O : OKL w c) (hy : y < 30) (hs : s ≤ ly w c y) : ms (tkW w c y s) c + s = ms w c := by
  have := (O y hy).2
  have e : ms (tkW w c y s) c = smN (fun z => if z = y then ly w c z - s else ly w c z) 30 := smN_congr fun z hz => by
    unfold tkW
    rw [ly_up (by omega)]
    by_cases q : z = y
    · rw [if_pos q, if_pos q, q]
    · rw [if_neg q, if_neg q]
  rw [e]
  exact smN_tk hy hs
theorem ms_gv (O : OKL w c) (hy : y < 30) (hs : s < 2 ^ 20) : ms (gvW w c y s) c = ms w c + s := by
  have := (O y hy).2
  have e : ms (gvW w c y s) c = smN (fun z => if z = y then ly w c z + s else ly w c z) 30 := smN_congr fun z hz => by
    unfold gvW
    rw [ly_up (by omega)]
    by_cases q : z = y
    · rw [if_pos q, if_pos q, q]
    · rw [if_neg q, if_neg q]
  rw [e]
  exact smN_gv hy
theorem pt_row (h1 : r ≠ z) (h2 : r ≠ z + 1) : pt g z y v r = g r := funext fun k => pt_o (fun q => h2 q.1) (fun q => h1 q.1)
theorem nI_sub' {a b : Nat} (h : b ≤ a) : nI a + -nI b = nI (a - b) := by rw [← Int32.sub_eq_add_neg, pk_sub h]
theorem RLa.take (R : RLa g A w) (B : WFb w) (hc : c < nc w) (O : OKL w c) (hy : y < 30) (hs : s ≤ ly w c y) : RLa (pt g (A + 6 + 2 * c) y (-nI s)) A (tkW w c y s) := by
  obtain ⟨r1, r2, r3⟩ := R.2.1 c hc
  have m := ms_tk O hy hs
  refine R.cis B hc (fun r _ _ h1 h2 _ => pt_row h1 h2) (fun k hk => up1_ne (by omega)) ⟨fun j hj => ?_, fun z hz => ?_, ?_⟩
  · unfold tkW
    rw [pt_o (by omega) (fun z => by have := z.2; omega), up1_ne (by omega)]
    exact r1 j hj
  · unfold tkW
    by_cases q : z = y
    · rw [q, up1_eq, pt_l, r2 y hy, (O y hy).1, nI_sub' hs]
    · rw [up1_ne (by omega), pt_o (fun w => q w.2) (by omega)]
      exact r2 z hz
  · rw [pt_m, r3, nI_sub' (by omega)]
    congr 1
    omega
theorem RLa.give (R : RLa g A w) (B : WFb w) (hc : c < nc w) (O : OKL w c) (hy : y < 30) (hs : s < 2 ^ 20) : RLa (pt g (A + 6 + 2 * c) y (nI s)) A (gvW w c y s) := by
  obtain ⟨r1, r2, r3⟩ := R.2.1 c hc
  have m := ms_gv O hy hs
  refine R.cis B hc (fun r _ _ h1 h2 _ => pt_row h1 h2) (fun k hk => up1_ne (by omega)) ⟨fun j hj => ?_, fun z hz => ?_, ?_⟩
  · unfold gvW
    rw [pt_o (by omega) (fun z => by have := z.2; omega), up1_ne (by omega)]
    exact r1 j hj
  · unfold gvW
    by_cases q : z = y
    · rw [q, up1_eq, pt_l, r2 y hy, (O y hy).1, nI_add]
    · rw [up1_ne (by omega), pt_o (fun w => q w.2) (by omega)]
      exact r2 z hz
  · rw [pt_m, r3, m, nI_add]
/-! the first year -/
theorem pl_ok (W : WFL w) : ∀ (j n u : Nat), n + j = lwN w → u ≤ 999 * n → plW w c y j n (nI u) = -1 ∨ ∃ v, v < 2 ^ 20 ∧ plW w c y j n (nI u) = nI v := by
  have l12 := W.2.1
  intro j
  induction j with
  | zero => intro n u hn hu; exact Or.inr ⟨u, by omega, rfl⟩
  | succ j ih =>
    intro n u hn hu
    unfold plW
    by_cases e0 : hdW w c y n = 0
    · rw [if_pos e0]
      exact ih (n + 1) u (by omega) (by omega)
    · rw [if_neg e0]
      rcases (W.2.2 n (by omega)).2.2.2.2.1 with e | ⟨v, e, hv⟩
      · rw [e, if_neg (by decide)]
        exact Or.inl rfl
      · rw [e, if_pos (nI_pos' (by omega)), nI_add]
        exact ih (n + 1) (u + v) (by omega) (by omega)
theorem pc_ok (Lw : (w 3 = 0) ∨ WFL w) : pcW w c y = -1 ∨ 0 ≤ pcW w c y := by
  unfold pcW
  by_cases e0 : w (70 + 35 * c + y) = 0
  · rw [if_pos e0]; exact Or.inl rfl
  rw [if_neg e0]
  by_cases e1 : w 3 = 0
  · rw [if_pos e1]
    by_cases e2 : w (66 + 35 * c) = 1
    · rw [if_pos e2]; exact Or.inl rfl
    rw [if_neg e2]
    by_cases e3 : w (67 + 35 * c) = 1
    · rw [if_pos e3]; exact Or.inl rfl
    rw [if_neg e3]
    right
    unfold ageW
    by_cases e4 : 0 < nowW w - nI y
    · rw [if_pos e4]; exact Int32.le_of_lt e4
    · rw [if_neg e4]; exact Int32.le_refl _
  · rw [if_neg e1]
    rcases pl_ok (c := c) (y := y) (Lw.resolve_left e1) (lwN w) 0 0 (by omega) (by omega) with z | ⟨v, hv, z⟩
    · exact Or.inl z
    · right
      have z' : plW w c y (lwN w) 0 0 = nI v := z
      rw [z']
      exact nI_pos' (by omega)
theorem LR.or (R : LR h g A w) : w 3 = 0 ∨ WFL w := R.imp (fun z => z.1) (fun z => z.2.2.1)
/-- but for the places and what the law works on nothing has changed -/
def FP (h : Hp) (A : Nat) (g g' : Nat → Nat → Int32) : Prop := ∀ r, r ≠ A + 5 → (765 < hR h A 8 → r ≠ hR h A 8 + 4 ∧ r ≠ hR h A 8 + 5) → g' r = g r
theorem FP.rf : FP h A g g := fun _ _ _ => rfl
theorem FP.tr (x : FP h A g g1) (y : FP h A g1 g') : FP h A g g' := fun r h1 hr => (y r h1 hr).trans (x r h1 hr)
theorem FP.fs (x : FS h A g g') : FP h A g g' := fun r _ hr => x r hr
theorem RLa.fp (R : RLa g A w) (B : WFb w) (hA : A + 45 ≤ 765) (x : FP h A g g') : RLa g' A w := R.ex B fun r _ h2 h3 => x r h3 fun z => by omega
theorem LR.fp (R : LR h g A w) (hA : A + 45 ≤ 765) (x : FP h A g g') : LR h g' A w := by
  rcases R with z | ⟨z1, z2, z3, S, z4, z5⟩
  · exact Or.inl z
  · refine Or.inr ⟨z1, z2, z3, S, z4, ?_⟩
    obtain ⟨G1, G2, G3, G4, G5, G6⟩ := z5
    have X : ∀ k, k < 4 → g' (hR h A 8 + k) = g (hR h A 8 + k) := fun k hk => x _ (by omega) fun _ => by omega
    have X0 := X 0 (by decide)
    rw [Nat.add_zero] at X0
    refine ⟨by rw [X0]; exact G1, by rw [X0]; exact G2, fun n hn => by rw [X 1 (by decide), X 2 (by decide)]; exact G3 n hn, fun i hi => by rw [X 3 (by decide)]; exact G4 i hi, by rw [X0]; exact G5, G6⟩
theorem pl_r (t : LDs h A) : hR h A 7 = A + 5 ∧ hS h (A + 5) = 20 ∧ hL h (A + 5) = 30 := by
  obtain ⟨-, ⟨-, -, -, -, r7⟩, -, -, -, -, ⟨a1, a2⟩, -⟩ := t
  exact ⟨r7, a1, a2⟩
theorem C_weigh_L (t : LDs h A) (hA : 6 ≤ A) (hA2 : A + 45 ≤ 765) (B : WFb w) (hc : c < nc w) (W : WFC w (nc w) c) : ∀ (j y : Nat) (g : Nat → Nat → Int32), y + j = 30 → RLa g A w → LR h g A w → (∀ k, k < y → g (A + 5) k = pcW w c k) → ∀ q,
    ∃ g', f_Land_weighAll_L2 (q + j + 1) (uI h g) A (A + 6 + 2 * c) (nI y) = some (uI h g') ∧ (∀ k, k < 30 → g' (A + 5) k = pcW w c k) ∧ FP h A g g' := by
  obtain ⟨p7, p1, p2⟩ := pl_r t
  have h8 := B.1
  intro j
  induction j with
  | zero =>
    intro y g hy R Lr hp q
    have hy' : y = 30 := hy
    subst hy'
    have EE : f_Land_weighAll_L2 (q + 0 + 1) (uI h g) A (A + 6 + 2 * c) (nI 30) = f_Land_weighAll_b2 (f_Land_weighAll_L2 q) (uI h g) A (A + 6 + 2 * c) (nI 30) := rfl
    rw [EE]
    unfold f_Land_weighAll_b2
    rw [n30, if_pos (Int32.le_refl _)]
    exact ⟨g, rfl, hp, FP.rf⟩
  | succ j ih =>
    intro y g hy R Lr hp q
    have hy' : y < 30 := by omega
    have EE : f_Land_weighAll_L2 (q + (j + 1) + 1) (uI h g) A (A + 6 + 2 * c) (nI y) = f_Land_weighAll_b2 (f_Land_weighAll_L2 (q + j + 1)) (uI h g) A (A + 6 + 2 * c) (nI y) := rfl
    obtain ⟨r1, r2, r3⟩ := R.2.1 c hc
    obtain ⟨o1, o2⟩ := W.1 y hy'
    have s4 : ∀ g, hS (uI h g) A = 4 := fun g => t.1
    have cs := t.cs (c := c) (by omega)
    have sC : ∀ g, hS (uI h g) (A + 6 + 2 * c) = 1 := fun g => cs.1
    have rC : ∀ g, hR (uI h g) (A + 6 + 2 * c) 6 = A + 6 + 2 * c + 1 := fun g => cs.2.1
    have aC : ∀ g, hS (uI h g) (A + 6 + 2 * c + 1) = 20 := fun g => cs.2.2.1
    have lC : ∀ g, hL (uI h g) (A + 6 + 2 * c + 1) = 30 := fun g => cs.2.2.2
    have q7 : ∀ g, hR (uI h g) A 7 = A + 5 := fun g => p7
    have q1 : ∀ g, hS (uI h g) (A + 5) = 20 := fun g => p1
    have q2 : ∀ g, hL (uI h g) (A + 5) = 30 := fun g => p2
    have st : ∀ g1, FP h A g g1 → g1 (A + 5) = g (A + 5) → ∃ g', f_Land_weighAll_b32 (f_Land_weighAll_L2 (q + j + 1)) (uI h g1) A (A + 6 + 2 * c) (nI y) (A + 5) (nI y) (pcW w c y) = some (uI h g') ∧ (∀ k, k < 30 → g' (A + 5) k = pcW w c k) ∧ FP h A g g' := by
      intro g1 x1 x2
      have x3 : FP h A g (up2 g1 (A + 5) y (pcW w c y)) := fun r h1 hr => by rw [up_row h1]; exact x1 r h1 hr
      obtain ⟨g', z1, z2, z3⟩ := ih (y + 1) (up2 g1 (A + 5) y (pcW w c y)) (by omega) (R.fp B hA2 x3) (Lr.fp hA2 x3) (fun k hk => by
        by_cases e : k = y
        · rw [e, up_eq]
        · rw [up_k e, x2]; exact hp k (by omega)) q
      refine ⟨g', ?_, z2, x3.tr z3⟩
      unfold f_Land_weighAll_b32
      rw [if_pos (q1 _), q2, if_pos (ib_n hy' (by decide)), ix_n (by omega), wr_s, nI_1]
      exact z1
    rw [EE]
    unfold f_Land_weighAll_b2
    rw [n30, if_neg (nI_ge hy' (by decide)), if_pos (s4 _), if_pos (sC _), rC, if_pos (aC _), lC, if_pos (ib_n hy' (by decide)), ix_n (by omega), hI_u, r2 y hy', o1, q7]
    by_cases e : ly w c y = 0
    · have z : pcW w c y = -1 := if_pos (by rw [o1, e]; rfl)
      have := st g FP.rf rfl
      rw [z] at this
      rw [e, if_pos (show nI 0 ≤ 0 from by decide)]
      exact this
    · obtain ⟨g1, x1, x2⟩ := C_place t hA hA2 R Lr hc h8 W hy'
      rw [if_neg (nI_nle (by omega) (by omega)), x1, bI_s]
      exact st g1 (FP.fs x2) (x2.lo (by omega))
theorem C_weigh (t : LDs h A) (hA : 6 ≤ A) (hA2 : A + 45 ≤ 765) (B : WFb w) (hc : c < nc w) (W : WFC w (nc w) c) (R : RLa g A w) (Lr : LR h g A w) :
    ∃ g', f_Land_weighAll (uI h g) A (A + 6 + 2 * c) = some (uI h g') ∧ (∀ k, k < 30 → g' (A + 5) k = pcW w c k) ∧ FP h A g g' := by
  unfold f_Land_weighAll f_Land_weighAll_b0
  rw [FU_30]
  exact C_weigh_L t hA hA2 B hc W 30 0 g rfl R Lr (fun k hk => absurd hk (Nat.not_lt_zero _)) 999969
theorem nx_inv (ok : ∀ y, P y = -1 ∨ 0 ≤ P y) : ((nxF P n).1 = -1 ∧ (nxF P n).2 = -1) ∨ ∃ k, k < n ∧ (nxF P n).1 = nI k ∧ (nxF P n).2 = P k ∧ 0 ≤ P k := by
  induction n with
  | zero => exact Or.inl ⟨rfl, rfl⟩
  | succ n ih =>
    by_cases e : (nxF P n).2 < P n
    · have z : nxF P (n + 1) = (nI n, P n) := if_pos e
      rw [z]
      refine Or.inr ⟨n, by omega, rfl, rfl, ?_⟩
      rcases ok n with q | q
      · exfalso
        rw [q] at e
        rcases ih with ⟨-, i2⟩ | ⟨k, -, -, i3, i4⟩
        · rw [i2] at e; exact Int32.lt_irrefl e
        · rw [i3] at e; exact Int32.lt_irrefl (Int32.lt_of_le_of_lt i4 (Int32.lt_trans e (by decide)))
      · exact q
    · have z : nxF P (n + 1) = nxF P n := if_neg e
      rw [z]
      rcases ih with i | ⟨k, i1, i2⟩
      · exact Or.inl i
      · exact Or.inr ⟨k, by omega, i2⟩
theorem C_first_L (t : LDs h A) (ok : ∀ y, P y = -1 ∨ 0 ≤ P y) (hp : ∀ k, k < 30 → g (A + 5) k = P k) : ∀ (j y : Nat), y + j = 30 → ∀ q, f_Land_firstOfPlaces_L4 (q + j + 1) (uI h g) A (nxF P y).1 (nI y) = some ((nxF P 30).1, uI h g) := by
  obtain ⟨p7, p1, p2⟩ := pl_r t
  have s4 : hS (uI h g) A = 4 := t.1
  have q7 : hR (uI h g) A 7 = A + 5 := p7
  have q1 : hS (uI h g) (A + 5) = 20 := p1
  have q2 : hL (uI h g) (A + 5) = 30 := p2
  intro j
  induction j with
  | zero =>
    intro y hy q
    have hy' : y = 30 := hy
    subst hy'
    have EE : f_Land_firstOfPlaces_L4 (q + 0 + 1) (uI h g) A (nxF P 30).1 (nI 30) = f_Land_firstOfPlaces_b4 (f_Land_firstOfPlaces_L4 q) (uI h g) A (nxF P 30).1 (nI 30) := rfl
    rw [EE]
    unfold f_Land_firstOfPlaces_b4
    rw [n30, if_pos (Int32.le_refl _)]
  | succ j ih =>
    intro y hy q
    have hy' : y < 30 := by omega
    have EE : f_Land_firstOfPlaces_L4 (q + (j + 1) + 1) (uI h g) A (nxF P y).1 (nI y) = f_Land_firstOfPlaces_b4 (f_Land_firstOfPlaces_L4 (q + j + 1)) (uI h g) A (nxF P y).1 (nI y) := rfl
    have i1 := ih (y + 1) (by omega) q
    have iv := nx_inv (P := P) (n := y) ok
    rw [EE]
    unfold f_Land_firstOfPlaces_b4
    rw [n30, if_neg (nI_ge hy' (by decide)), if_pos s4, q7, if_pos q1, q2, if_pos (ib_n hy' (by decide)), ix_n (by omega), hI_u, hp y hy']
    unfold f_Land_firstOfPlaces_b40 f_Land_firstOfPlaces_b42
    rw [nI_1]
    by_cases e : P y = -1
    · have z : nxF P (y + 1) = nxF P y := if_neg (by
        rw [e]
        rcases iv with ⟨-, i2⟩ | ⟨k, -, -, i3, i4⟩
        · rw [i2]; exact Int32.lt_irrefl
        · rw [i3]; exact fun q => Int32.lt_irrefl (Int32.lt_of_le_of_lt i4 (Int32.lt_trans q (by decide))))
      rw [z] at i1
      rw [if_pos e]
      exact i1
    · rw [if_neg e]
      have p0 := (ok y).resolve_left e
      rcases iv with ⟨i2, i3⟩ | ⟨k, k1, k2, k3, k4⟩
      · have z : nxF P (y + 1) = (nI y, P y) := if_pos (by rw [i3]; exact Int32.lt_of_lt_of_le (by decide) p0)
        rw [z] at i1
        rw [i2, if_pos rfl]
        exact i1
      · have ne : ¬ (nI k : Int32) = -1 := fun z => by
          have := nI_pos (n := k) (by omega)
          rw [z] at this
          exact this (by decide)
        rw [k2, if_neg ne, if_pos (ib_n hy' (by decide)), if_pos (ib_n (by omega) (by decide)), ix_n (by omega), hp k (by omega)]
        by_cases e2 : P y ≤ P k
        · have z : nxF P (y + 1) = nxF P y := if_neg (by rw [k3]; exact fun q => Int32.lt_irrefl (Int32.lt_of_le_of_lt e2 q))
          rw [z, k2] at i1
          rw [if_pos e2]
          exact i1
        · have z : nxF P (y + 1) = (nI y, P y) := if_pos (by rw [k3]; exact Int32.not_le.mp e2)
          rw [z] at i1
          rw [if_neg e2]
          exact i1
theorem C_first (t : LDs h A) (Lw : w 3 = 0 ∨ WFL w) (hp : ∀ k, k < 30 → g (A + 5) k = pcW w c k) : f_Land_firstOfPlaces (uI h g) A = some (nextW w c, uI h g) := by
  unfold f_Land_firstOfPlaces f_Land_firstOfPlaces_b0
  rw [FU_30]
  exact C_first_L (P := pcW w c) t (fun y => pc_ok Lw) hp 30 0 rfl 999969
theorem C_firstYear (t : LDs h A) (hA : 6 ≤ A) (hA2 : A + 45 ≤ 765) (B : WFb w) (hc : c < nc w) (W : WFC w (nc w) c) (R : RLa g A w) (Lr : LR h g A w) :
    ∃ g', f_Land_firstYearIn (uI h g) A (A + 6 + 2 * c) = some (nextW w c, uI h g') ∧ FP h A g g' := by
  have s4 : ∀ g, hS (uI h g) A = 4 := fun g => t.1
  obtain ⟨g1, p1, p2, p3⟩ := C_weigh t hA hA2 B hc W R Lr
  unfold f_Land_firstYearIn f_Land_firstYearIn_b0
  rw [if_pos (s4 _), p1, bV_s, if_pos (s4 _), C_first t Lr.or p2, bI_s]
  exact ⟨g1, rfl, p3⟩
end U12
