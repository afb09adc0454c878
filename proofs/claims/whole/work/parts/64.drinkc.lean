/-! ===== a house drinks: batches are single measures ===== -/
section U14
variable {h : Hp} {g g' g1 : Nat → Nat → Int32} {w w' : Nat → Int32} {A L S c d k n l y j m q s i F r z E N : Nat} {v x a b : Int32} {f p : Nat → Nat} {P Q : Nat → Int32} {st : List Int32}
/-- nothing that the law asks has changed for this year, but measures that it may not ask -/
def NM (w : Nat → Int32) : Prop := ∀ n, n < lwN w → ∀ i, i < lwE w n → ¬ w (654 + 2 * i) = 4
theorem fc_congr (h4 : w' 4 = w 4) (hk : w' (66 + 35 * c) = w (66 + 35 * c)) (hs : w' (67 + 35 * c) = w (67 + 35 * c)) (hy : w' (35 + y) = w (35 + y)) (hm : w' (70 + 35 * c + y) = w (70 + 35 * c + y) ∨ ¬ v = 4) : fcW w' c y v x = fcW w c y v x := by
  unfold fcW ageW nowW
  rw [h4, hk, hs, hy]
  rcases hm with z | z
  · rw [z]
  · rw [if_neg z, if_neg z]
theorem evR_congr (h4 : w' 4 = w 4) (hk : w' (66 + 35 * c) = w (66 + 35 * c)) (hs : w' (67 + 35 * c) = w (67 + 35 * c)) (hy : w' (35 + y) = w (35 + y)) (hh : ∀ k, 617 ≤ k → w' k = w k) : ∀ (n i : Nat) (st : List Int32), (∀ i', i' < i + n → w' (70 + 35 * c + y) = w (70 + 35 * c + y) ∨ ¬ w (654 + 2 * i') = 4) → evR w' c y n i st = evR w c y n i st := by
  intro n
  induction n with
  | zero => intro i st _; rfl
  | succ n ih =>
    intro i st hm
    unfold evR
    rw [hh (654 + 2 * i) (by omega), hh (655 + 2 * i) (by omega), fc_congr h4 hk hs hy (hm i (by omega))]
    cases evS (w (654 + 2 * i)) (fcW w c y (w (654 + 2 * i)) (w (655 + 2 * i))) st with
    | none => rfl
    | some t => exact ih (i + 1) t (fun i' hi => hm i' (by omega))
theorem hd_congr (h4 : w' 4 = w 4) (hk : w' (66 + 35 * c) = w (66 + 35 * c)) (hs : w' (67 + 35 * c) = w (67 + 35 * c)) (hy : w' (35 + y) = w (35 + y)) (hh : ∀ k, 617 ≤ k → w' k = w k) (hn : n < lwN w) (le : lwS w n ≤ lwE w n) (hm : w' (70 + 35 * c + y) = w (70 + 35 * c + y) ∨ NM w) : hdW w' c y n = hdW w c y n := by
  unfold hdW
  rw [lwE_c hh, lwS_c hh, evR_congr h4 hk hs hy hh _ _ _ (fun i hi => hm.imp id (fun z => z n hn i (by omega)))]
theorem pl_congr (h4 : w' 4 = w 4) (hk : w' (66 + 35 * c) = w (66 + 35 * c)) (hs : w' (67 + 35 * c) = w (67 + 35 * c)) (hy : w' (35 + y) = w (35 + y)) (hh : ∀ k, 617 ≤ k → w' k = w k) (W : WFL w) (hm : w' (70 + 35 * c + y) = w (70 + 35 * c + y) ∨ NM w) : ∀ (j n : Nat) (s : Int32), n + j = lwN w → plW w' c y j n s = plW w c y j n s := by
  intro j
  induction j with
  | zero => intro n s _; rfl
  | succ j ih =>
    intro n s hn
    unfold plW
    rw [hd_congr h4 hk hs hy hh (by omega) (W.2.2 n (by omega)).2.2.1 hm, hh (618 + 3 * n) (by omega), ih (n + 1) s (by omega), ih (n + 1) _ (by omega)]
theorem pc_congr (h3 : w' 3 = w 3) (h4 : w' 4 = w 4) (hk : w' (66 + 35 * c) = w (66 + 35 * c)) (hs : w' (67 + 35 * c) = w (67 + 35 * c)) (hy : w' (35 + y) = w (35 + y)) (hh : ∀ k, 617 ≤ k → w' k = w k) (Lw : w 3 = 0 ∨ WFL w) (h0 : w' (70 + 35 * c + y) = 0 ↔ w (70 + 35 * c + y) = 0) (hm : w' (70 + 35 * c + y) = w (70 + 35 * c + y) ∨ w 3 = 0 ∨ NM w) : pcW w' c y = pcW w c y := by
  unfold pcW
  by_cases e0 : w (70 + 35 * c + y) = 0
  · rw [if_pos e0, if_pos (h0.mpr e0)]
  rw [if_neg e0, if_neg (fun z => e0 (h0.mp z)), h3]
  by_cases e1 : w 3 = 0
  · rw [if_pos e1, if_pos e1, hk, hs]
    unfold ageW nowW
    rw [h4]
  · rw [if_neg e1, if_neg e1, lwN_c hh]
    exact pl_congr h4 hk hs hy hh (Lw.resolve_left e1) (hm.imp id (fun z => z.resolve_left e1)) _ _ _ (by omega)
theorem nx_congr (h : ∀ y, y < n → P y = Q y) : nxF P n = nxF Q n := by
  induction n with
  | zero => rfl
  | succ n ih =>
    unfold nxF
    rw [ih (fun y hy => h y (by omega)), h n (by omega)]
theorem dn_c (hc : c < 8) (hs : s < ly w c y) (O : OKL w c) (hy : y < 30) : drkN w k c y s (70 + 35 * c + y) = nI (ly w c y - s) ∧ ¬ nI (ly w c y - s) = 0 := by
  have := (O y hy).2
  refine ⟨?_, nI_ne0 (by omega) (by omega)⟩
  unfold drkN tkW
  rw [up1_ne (by omega), up1_eq]
theorem dn_pc (hk8 : k < 8) (hc : c < 8) (Lw : w 3 = 0 ∨ WFL w) (hy : y < 30) {y' : Nat} (hy' : y' < 30) (h : y' ≠ y ∨ (s < ly w c y ∧ OKL w c ∧ (w 3 = 0 ∨ NM w))) : pcW (drkN w k c y s) c y' = pcW w c y' := by
  by_cases e : y' = y
  · obtain ⟨h1, h2, h3⟩ := h.resolve_left (fun z => z e)
    subst e
    obtain ⟨d1, d2⟩ := dn_c (k := k) hc h1 h2 hy
    have o := (h2 y' hy).1
    have := (h2 y' hy).2
    refine pc_congr (dn_o (by omega) (by omega)) (dn_o (by omega) (by omega)) (dn_o (by omega) (by omega)) (dn_o (by omega) (by omega)) (dn_o (by omega) (by omega)) (dn_hi hk8 hc hy) Lw ?_ (Or.inr h3)
    rw [d1, o]
    exact ⟨fun z => absurd z d2, fun z => absurd z (nI_ne0 (by omega) (by omega))⟩
  · have q : drkN w k c y s (70 + 35 * c + y') = w (70 + 35 * c + y') := dn_o (by omega) (by omega)
    exact pc_congr (dn_o (by omega) (by omega)) (dn_o (by omega) (by omega)) (dn_o (by omega) (by omega)) (dn_o (by omega) (by omega)) (dn_o (by omega) (by omega)) (dn_hi hk8 hc hy) Lw (by rw [q]) (Or.inl q)
theorem dn_next (hk8 : k < 8) (hc : c < 8) (Lw : w 3 = 0 ∨ WFL w) (hy : y < 30) (h1 : s < ly w c y) (O : OKL w c) (h3 : w 3 = 0 ∨ NM w) : nextW (drkN w k c y s) c = nextW w c := by
  unfold nextW
  rw [nx_congr (fun y' hy' => dn_pc hk8 hc Lw hy hy' (Or.inr ⟨h1, O, h3⟩))]
theorem dn_0 (O : OKL w c) (hy : y < 30) : drkN w k c y 0 = w := by
  funext j
  unfold drkN tkW
  by_cases e : j = 349 + 34 * k + y
  · rw [e, up1_eq, i_0]
  · rw [up1_ne e]
    by_cases e2 : j = 70 + 35 * c + y
    · rw [e2, up1_eq]; exact (O y hy).1.symm
    · exact up1_ne e2
theorem dn_s (O : OKL w c) (hc : c < 8) (hy : y < 30) : drkN (drkN w k c y s) k c y 1 = drkN w k c y (s + 1) := by
  have o9 := (O y hy).2
  have e1 : ly (drkN w k c y s) c y = ly w c y - s := ix_b (show drkN w k c y s (70 + 35 * c + y) = nI (ly w c y - s) from (up1_ne (by omega)).trans up1_eq) (by omega)
  funext j
  by_cases e : j = 349 + 34 * k + y
  · subst e
    have z : drkN w k c y s (349 + 34 * k + y) = w (349 + 34 * k + y) + nI s := up1_eq
    have z1 : drkN (drkN w k c y s) k c y 1 (349 + 34 * k + y) = drkN w k c y s (349 + 34 * k + y) + nI 1 := up1_eq
    have z2 : drkN w k c y (s + 1) (349 + 34 * k + y) = w (349 + 34 * k + y) + nI (s + 1) := up1_eq
    rw [z1, z, z2, Int32.add_assoc, nI_add]
  · by_cases e2 : j = 70 + 35 * c + y
    · subst e2
      have z1 : drkN (drkN w k c y s) k c y 1 (70 + 35 * c + y) = nI (ly (drkN w k c y s) c y - 1) := (up1_ne e).trans up1_eq
      have z2 : drkN w k c y (s + 1) (70 + 35 * c + y) = nI (ly w c y - (s + 1)) := (up1_ne e).trans up1_eq
      rw [z1, z2, e1, Nat.sub_sub]
    · rw [dn_o e2 e, dn_o e2 e, dn_o e2 e]
/-- a batch is so many single measures -/
theorem dk_batch (hc : c < 8) (O : OKL w c) (hy : y < 30) (hsalt : w (35 + y) ≤ w (347 + 34 * k)) : ∀ s, s ≤ j → (∀ t, t < s → nextW (drkN w k c y t) c = nI y) → dkW k c j w = dkW k c (j - s) (drkN w k c y s) := by
  intro s
  induction s with
  | zero => intro _ _; rw [dn_0 O hy, Nat.sub_zero]
  | succ s ih =>
    intro hs hn
    rw [ih (by omega) (fun t ht => hn t (by omega))]
    have e := hn s (by omega)
    obtain ⟨u, hu⟩ : ∃ u, j - s = u + 1 := ⟨j - s - 1, by omega⟩
    have e2 : dkW k c (u + 1) (drkN w k c y s) = dkW k c u (drkN (drkN w k c y s) k c y 1) := by
      have hix : ix (nextW (drkN w k c y s) c) = y := by rw [e, ix_n (by omega)]
      have a1 : ¬ nextW (drkN w k c y s) c < 0 := by rw [e]; exact nI_pos (by omega)
      have a2 : drkN w k c y s (35 + ix (nextW (drkN w k c y s) c)) ≤ drkN w k c y s (347 + 34 * k) := by
        rw [hix, dn_o (by omega) (by omega), dn_o (by omega) (by omega)]
        exact hsalt
      refine ((if_neg a1).trans (if_pos a2)).trans ?_
      rw [hix]
    rw [hu, e2, dn_s O hc hy, show j - (s + 1) = u from by omega]
/-! the class -/
theorem LR.congr (R : LR h g A w) (h3 : w' 3 = w 3) (hh : ∀ k, 617 ≤ k → w' k = w k) : LR h g A w' := by
  rcases R with ⟨z1, z2⟩ | ⟨z1, z2, z3, S, z4, z5⟩
  · exact Or.inl ⟨h3.trans z1, z2⟩
  · refine Or.inr ⟨h3.trans z1, z2, z3.congr hh, S, z4, ?_⟩
    obtain ⟨G1, G2, G3, G4, G5, G6⟩ := z5
    refine ⟨by rw [hh _ (by omega)]; exact G1, G2, fun n hn => ?_, fun i hi => ?_, fun e i hi => ?_, G6⟩
    · rw [lwN_c hh] at hn
      rw [hh _ (by omega), hh _ (by omega), lwE_c hh]
      exact G3 n hn
    · rw [hh _ (by omega), hh _ (by omega)]
      exact G4 i hi
    · rw [hh _ (by omega)]
      exact G5 e i hi
theorem LR.hi (R : LR h g A w) (x : ∀ r, 765 < r → g' r = g r) : LR h g' A w := by
  rcases R with z | ⟨z1, z2, z3, S, z4, z5⟩
  · exact Or.inl z
  · refine Or.inr ⟨z1, z2, z3, S, z4, ?_⟩
    obtain ⟨G1, G2, G3, G4, G5, G6⟩ := z5
    exact ⟨by rw [x _ z2]; exact G1, by rw [x _ z2]; exact G2, fun n hn => by rw [x _ (by omega), x _ (by omega)]; exact G3 n hn, fun i hi => by rw [x _ (by omega)]; exact G4 i hi, by rw [x _ z2]; exact G5, G6⟩
theorem NM.congr (x : NM w) (hh : ∀ k, 617 ≤ k → w' k = w k) : NM w' := fun n hn i hi => by
  rw [lwN_c hh] at hn
  rw [lwE_c hh] at hi
  rw [hh _ (by omega)]
  exact x n hn i hi
/-- the structure of a house -/
theorem LDs.hr (t : LDs h A) (hk : k < 8) : hR h A 4 = A + 2 ∧ hS h (A + 2) = 24 ∧ hL h (A + 2) = 8 ∧ hR h (A + 2) k = A + 22 + 2 * k ∧ hS h (A + 22 + 2 * k) = 3 ∧ hR h (A + 22 + 2 * k) 5 = A + 22 + 2 * k + 1 ∧ hS h (A + 22 + 2 * k + 1) = 20 ∧ hL h (A + 22 + 2 * k + 1) = 30 := by
  obtain ⟨-, ⟨-, r4, -⟩, -, ⟨a1, a2⟩, -, -, -, -, xh, -⟩ := t
  obtain ⟨x1, x2, x3, x4⟩ := xh k hk
  exact ⟨r4, a1, a2, x1, x2, x3, x4.1, x4.2⟩
theorem C_drk (t : LDs h A) (hk : k < 8) (hy : y < 30) : f_House_drink (uI h g) (A + 22 + 2 * k) (nI y) v = some (uI h (up2 g (A + 22 + 2 * k + 1) y (g (A + 22 + 2 * k + 1) y + v))) := by
  obtain ⟨-, -, -, -, s3, r5, b1, b2⟩ := (t.iu (g := g)).hr hk
  unfold f_House_drink f_House_drink_b0
  rw [if_neg (nI_pos (by omega)), n30, if_neg (nI_ge hy (by decide)), if_pos s3, r5, if_pos b1, b2, if_pos (ib_n hy (by decide)), if_pos (ib_n hy (by decide)), ix_n (by omega), wr_s]
  rfl
theorem RLa.drink (R : RLa g A w) (B : WFb w) (hc : c < nc w) (hk : k < nh w) (O : OKL w c) (hy : y < 30) (hs : s ≤ ly w c y) :
    RLa (up2 (pt g (A + 6 + 2 * c) y (-nI s)) (A + 22 + 2 * k + 1) y (pt g (A + 6 + 2 * c) y (-nI s) (A + 22 + 2 * k + 1) y + nI s)) A (drkN w k c y s) := by
  have R1 := R.take B hc O hy hs
  obtain ⟨B1, B2, B3⟩ := B
  have n1 : nh (tkW w c y s) = nh w := congrArg ix (up1_ne (by omega))
  have n0 : nc (tkW w c y s) = nc w := congrArg ix (up1_ne (by omega))
  have n2 : nd (tkW w c y s) = nd w := congrArg ix (up1_ne (by omega))
  obtain ⟨h1, h2⟩ := R.2.2.1 k hk
  refine R1.hou (k := k) ⟨by omega, by omega, by omega⟩ (by omega) (fun r _ _ _ h2 _ => up_row h2) (fun j hj => up1_ne (by omega)) ⟨fun j hj => ?_, fun z hz => ?_⟩
  · rw [up_row (by omega), pt_row (by omega) (by omega), dn_o (by omega) (by omega)]
    exact h1 j hj
  · have g1 : pt g (A + 6 + 2 * c) y (-nI s) (A + 22 + 2 * k + 1) = g (A + 22 + 2 * k + 1) := pt_row (by omega) (by omega)
    rw [g1]
    by_cases q : z = y
    · subst q
      have z1 : drkN w k c z s (349 + 34 * k + z) = w (349 + 34 * k + z) + nI s := up1_eq
      rw [up_eq, z1, h2 z hz]
    · rw [up_k q, dn_o (by omega) (by omega), g1]
      exact h2 z hz
/-- the thirst of a house told -/
def thW (w : Nat → Int32) (k j : Nat) : Nat → Int32 := up1 w (348 + 34 * k) (w (348 + 34 * k) + nI j)
/-- but for a Land (its other houses' lack, too) and what its law works on nothing has changed -/
def FG (h : Hp) (A k : Nat) (g g' : Nat → Nat → Int32) : Prop := (∀ r, (r < A ∨ A + 45 < r) → (765 < hR h A 8 → r ≠ hR h A 8 + 4 ∧ r ≠ hR h A 8 + 5) → g' r = g r) ∧ ∀ i, i < 8 → i ≠ k → g' (A + 22 + 2 * i) = g (A + 22 + 2 * i)
theorem FG.tr (x : FG h A k g g1) (y : FG h A k g1 g') : FG h A k g g' := ⟨fun r h1 h2 => (y.1 r h1 h2).trans (x.1 r h1 h2), fun i h1 h2 => (y.2 i h1 h2).trans (x.2 i h1 h2)⟩
theorem FG.rf : FG h A k g g := ⟨fun _ _ _ => rfl, fun _ _ _ => rfl⟩
theorem FG.fp (hA2 : A + 45 ≤ 765) (x : FP h A g g') : FG h A k g g' := ⟨fun r h1 h2 => x r (by omega) h2, fun i h1 h2 => x _ (by omega) (fun z => by omega)⟩
theorem C_lack_187 (t : LDs h A) (B : WFb w) (R : RLa g A w) (hk : k < nh w) : ∃ g', f_Land_lackOf_b187 (uI h g) (A + 22 + 2 * k) (nI j) = some (nI j, uI h g') ∧ RLa g' A (thW w k j) ∧ g' (A + 22 + 2 * k) 4 = nI j ∧ FG h A k g g' := by
  have h8 := B.2.1
  obtain ⟨-, -, -, -, s3, -⟩ := (t.iu (g := g)).hr (k := k) (by omega)
  obtain ⟨h1, h2⟩ := R.2.2.1 k hk
  unfold f_Land_lackOf_b187
  rw [if_pos s3, wr_s, wr_s]
  refine ⟨up2 (up2 g (A + 22 + 2 * k) 4 (nI j)) (A + 22 + 2 * k) 3 (up2 g (A + 22 + 2 * k) 4 (nI j) (A + 22 + 2 * k) 3 + nI j), rfl, ?_, ?_, fun r h1 _ => ?_, fun i h1 h2 => ?_⟩
  · refine R.hou B hk (fun r _ _ h2 _ _ => by rw [up_row h2, up_row h2]) (fun j hj => up1_ne (by omega)) ⟨fun i hi => ?_, fun z hz => ?_⟩
    · rw [up_k (show (3 : Nat) ≠ 4 by decide)]
      have e3 := h1 3 (by decide)
      rw [show 345 + 34 * k + 3 = 348 + 34 * k from by omega] at e3
      by_cases e : i = 3
      · subst e
        have z : thW w k j (345 + 34 * k + 3) = w (348 + 34 * k) + nI j := by
          rw [show 345 + 34 * k + 3 = 348 + 34 * k from by omega]
          exact up1_eq
        rw [up_eq, z, e3]
      · have z : thW w k j (345 + 34 * k + i) = w (345 + 34 * k + i) := up1_ne (by omega)
        rw [up_k e, up_k (by omega), z]
        exact h1 i hi
    · have z1 : thW w k j (349 + 34 * k + z) = w (349 + 34 * k + z) := up1_ne (by omega)
      rw [up_r (by omega), up_r (by omega), z1]
      exact h2 z hz
  · rw [up_k (by decide), up_eq]
  · rw [up_row (by omega), up_row (by omega)]
  · rw [up_row (by omega), up_row (by omega)]
theorem C_lack_L (t : LDs h A) (hA : 6 ≤ A) (hA2 : A + 45 ≤ 765) (hN : N ≤ 99) {one : Int32} (h1 : one = 0 ∨ one = 1) : ∀ (m j i : Nat) (g : Nat → Nat → Int32) (w : Nat → Int32), j ≤ m → i + j ≤ N → RLa g A w → LR h g A w → WFb w → c < nc w → k < nh w → WFC w (nc w) c → w (345 + 34 * k) = nI N → (∀ y, y < 30 → g (A + 5) y = pcW w c y) → (one = 0 → w 3 = 0 ∨ NM w) → ∀ q,
    ∃ g', f_Land_lackOf_L58 (q + m + 1) (uI h g) A (A + 22 + 2 * k) (nI j) (A + 6 + 2 * c) one (nI i) = some (nI (dkW k c j w).1, uI h g') ∧ RLa g' A (thW (dkW k c j w).2 k (dkW k c j w).1) ∧ g' (A + 22 + 2 * k) 4 = nI (dkW k c j w).1 ∧ FG h A k g g' := by
  obtain ⟨p7, p1, p2⟩ := pl_r t
  have s4 : ∀ g, hS (uI h g) A = 4 := fun g => t.1
  intro m
  induction m with
  | zero =>
    intro j i g w hj hi R Lr B hc hk W hn hp nm q
    obtain rfl : j = 0 := by omega
    obtain ⟨g', q1, q2⟩ := C_lack_187 (j := 0) t B R hk
    have h8 := B.2.1
    obtain ⟨-, -, -, -, s3, -⟩ := (t.iu (g := g)).hr (k := k) (by omega)
    have e0 : g (A + 22 + 2 * k) 0 = w (345 + 34 * k) := (R.2.2.1 k hk).1 0 (by decide)
    refine ⟨g', ?_, q2⟩
    have E : f_Land_lackOf_L58 (q + 0 + 1) (uI h g) A (A + 22 + 2 * k) (nI 0) (A + 6 + 2 * c) one (nI i) = f_Land_lackOf_b58 (f_Land_lackOf_L58 q) (uI h g) A (A + 22 + 2 * k) (nI 0) (A + 6 + 2 * c) one (nI i) := rfl
    rw [E]
    unfold f_Land_lackOf_b58
    rw [if_pos s3, hI_u, e0, hn]
    by_cases e : N ≤ i
    · rw [if_pos (nI_le e (by omega))]; exact q1
    · rw [if_neg (nI_ge (by omega) (by omega)), if_pos (show nI 0 ≤ 0 from by decide)]; exact q1
  | succ m ih =>
    intro j i g w hj hi R Lr B hc hk W hn hp nm q
    have h8 := B.2.1
    have h8c := B.1
    have s3 : ∀ g, hS (uI h g) (A + 22 + 2 * k) = 3 := fun g => ((t.iu (g := g)).hr (k := k) (by omega)).2.2.2.2.1
    have e0 : g (A + 22 + 2 * k) 0 = w (345 + 34 * k) := (R.2.2.1 k hk).1 0 (by decide)
    have e2 : g (A + 22 + 2 * k) 2 = w (347 + 34 * k) := by
      have := (R.2.2.1 k hk).1 2 (by decide)
      rw [show 345 + 34 * k + 2 = 347 + 34 * k from by omega] at this
      exact this
    have out : ∃ g', f_Land_lackOf_b187 (uI h g) (A + 22 + 2 * k) (nI j) = some (nI j, uI h g') ∧ RLa g' A (thW w k j) ∧ g' (A + 22 + 2 * k) 4 = nI j ∧ FG h A k g g' := C_lack_187 (j := j) t B R hk
    have E : f_Land_lackOf_L58 (q + (m + 1) + 1) (uI h g) A (A + 22 + 2 * k) (nI j) (A + 6 + 2 * c) one (nI i) = f_Land_lackOf_b58 (f_Land_lackOf_L58 (q + m + 1)) (uI h g) A (A + 22 + 2 * k) (nI j) (A + 6 + 2 * c) one (nI i) := rfl
    rw [E]
    unfold f_Land_lackOf_b58
    rw [if_pos (s3 _), hI_u, e0, hn]
    cases j with
    | zero =>
      by_cases e : N ≤ i
      · rw [if_pos (nI_le e (by omega))]; exact out
      · rw [if_neg (nI_ge (by omega) (by omega)), if_pos (show nI 0 ≤ 0 from by decide)]; exact out
    | succ j =>
      rw [if_neg (nI_ge (by omega) (by omega)), if_neg (nI_nle (by omega) (by omega)), if_pos (s4 _), C_first t Lr.or hp, bI_s]
      by_cases e1 : nextW w c < 0
      · have z : dkW k c (j + 1) w = (j + 1, w) := if_pos e1
        rw [if_pos e1, z]
        exact out
      · obtain ⟨y, hy, ey, py⟩ := next_y Lr.or e1
        have ey' : ix (nextW w c) = y := by rw [ey, ix_n (by omega)]
        have ly1 := pc_pos W.1 hy py
        have o9 := (W.1 y hy).2
        have oy := (W.1 y hy).1
        have r6 : ∀ g, hR (uI h g) A 6 = A + 4 := fun g => t.2.1.2.2.2.1
        have aS : ∀ g, hS (uI h g) (A + 4) = 20 := fun g => t.2.2.2.2.2.1.1
        have lS : ∀ g, hL (uI h g) (A + 4) = 30 := fun g => t.2.2.2.2.2.1.2
        have cs := t.cs (c := c) (by omega)
        have sC : ∀ g, hS (uI h g) (A + 6 + 2 * c) = 1 := fun g => cs.1
        have rC : ∀ g, hR (uI h g) (A + 6 + 2 * c) 6 = A + 6 + 2 * c + 1 := fun g => cs.2.1
        have aC : ∀ g, hS (uI h g) (A + 6 + 2 * c + 1) = 20 := fun g => cs.2.2.1
        have lC : ∀ g, hL (uI h g) (A + 6 + 2 * c + 1) = 30 := fun g => cs.2.2.2
        have q7 : ∀ g, hR (uI h g) A 7 = A + 5 := fun g => p7
        have q1 : ∀ g, hS (uI h g) (A + 5) = 20 := fun g => p1
        have q2 : ∀ g, hL (uI h g) (A + 5) = 30 := fun g => p2
        have rc := (R.2.1 c hc).2.1 y hy
        rw [if_neg e1, if_pos (s4 _), r6, if_pos (aS _), lS, ey, if_pos (ib_n hy (by decide)), if_pos (s3 _), ix_n (by omega), hI_u, R.2.2.2.2 y hy, e2]
        by_cases e3 : w (35 + y) ≤ w (347 + 34 * k)
        · rw [if_pos e3]
          -- one batch of s measures
          have bat : ∀ s, 1 ≤ s → s ≤ ly w c y → s ≤ j + 1 → (s = 1 ∨ (one = 0 ∧ s = min (j + 1) (ly w c y))) → (one = 0 → s = min (j + 1) (ly w c y)) →
              ∃ g', f_Land_lackOf_b119 (f_Land_lackOf_L58 (q + m + 1)) (uI h g) A (A + 22 + 2 * k) (nI (j + 1)) (A + 6 + 2 * c) one (nI i) (nI y) (nI s) = some (nI (dkW k c (j + 1) w).1, uI h g') ∧ RLa g' A (thW (dkW k c (j + 1) w).2 k (dkW k c (j + 1) w).1) ∧ g' (A + 22 + 2 * k) 4 = nI (dkW k c (j + 1) w).1 ∧ FG h A k g g' := by
            intro s s1 sl sj hs ho
            have B' : WFb (drkN w k c y s) := by
              obtain ⟨b1, b2, b3⟩ := B
              refine ⟨?_, ?_, ?_⟩
              · show ix (drkN w k c y s 0) ≤ 8; rw [dn_o (by omega) (by omega)]; exact b1
              · show ix (drkN w k c y s 1) ≤ 8; rw [dn_o (by omega) (by omega)]; exact b2
              · show ix (drkN w k c y s 10) ≤ 8; rw [dn_o (by omega) (by omega)]; exact b3
            have n0 : nc (drkN w k c y s) = nc w := congrArg ix (dn_o (by omega) (by omega))
            have n1 : nh (drkN w k c y s) = nh w := congrArg ix (dn_o (by omega) (by omega))
            have dk : dkW k c (j + 1) w = dkW k c (j + 1 - s) (drkN w k c y s) := by
              refine dk_batch (by omega) W.1 hy e3 s sj (fun t ht => ?_)
              rcases hs with rfl | ⟨o0, -⟩
              · obtain rfl : t = 0 := by omega
                rw [dn_0 W.1 hy]; exact ey
              · rw [dn_next (by omega) (by omega) Lr.or hy (by omega) W.1 (nm o0)]; exact ey
            have R' := R.drink B hc hk W.1 hy sl
            generalize hG : up2 (pt g (A + 6 + 2 * c) y (-nI s)) (A + 22 + 2 * k + 1) y (pt g (A + 6 + 2 * c) y (-nI s) (A + 22 + 2 * k + 1) y + nI s) = G at R'
            have FX : ∀ r, r ≠ A + 6 + 2 * c → r ≠ A + 6 + 2 * c + 1 → r ≠ A + 22 + 2 * k + 1 → G r = g r := fun r h1 h2 h3 => by
              rw [← hG, up_row h3, pt_row h1 h2]
            have FGx : FG h A k g G := ⟨fun r h1 h2 => FX r (by omega) (by omega) (by omega), fun i h1 h2 => FX _ (by omega) (by omega) (by omega)⟩
            have Lr' : LR h G A (drkN w k c y s) := LR.congr (Lr.hi (fun r hr => FX r (by omega) (by omega) (by omega))) (dn_o (by omega) (by omega)) (dn_hi (by omega) (by omega) hy)
            have W' : WFC (drkN w k c y s) (nc (drkN w k c y s)) c := by rw [n0]; exact W.dn hy sl (by omega) (by omega) W
            have nm' : one = 0 → drkN w k c y s 3 = 0 ∨ NM (drkN w k c y s) := fun z => (nm z).imp (fun z => by rw [dn_o (by omega) (by omega)]; exact z) (fun z => z.congr (dn_hi (by omega) (by omega) hy))
            have fin : ∀ G1, FP h A G G1 → (∀ y', y' < 30 → y' ≠ y → G1 (A + 5) y' = G (A + 5) y') → ∃ g', f_Land_lackOf_b180 (f_Land_lackOf_L58 (q + m + 1)) (uI h G1) A (A + 22 + 2 * k) (nI (j + 1 - s)) (A + 6 + 2 * c) one (nI i) (A + 5) (nI y) (pcW (drkN w k c y s) c y) = some (nI (dkW k c (j + 1) w).1, uI h g') ∧ RLa g' A (thW (dkW k c (j + 1) w).2 k (dkW k c (j + 1) w).1) ∧ g' (A + 22 + 2 * k) 4 = nI (dkW k c (j + 1) w).1 ∧ FG h A k g g' := by
              intro G1 x1 x2
              have x3 : FP h A G (up2 G1 (A + 5) y (pcW (drkN w k c y s) c y)) := fun r h1 hr => by rw [up_row h1]; exact x1 r h1 hr
              obtain ⟨g', z1, z2, z3, z4⟩ := ih (j + 1 - s) (i + 1) (up2 G1 (A + 5) y (pcW (drkN w k c y s) c y)) (drkN w k c y s) (by omega) (by omega) (R'.fp B' hA2 x3) (Lr'.fp hA2 x3) B' (by rw [n0]; exact hc) (by rw [n1]; exact hk) W' (by rw [dn_o (by omega) (by omega)]; exact hn) (fun y' hy' => by
                by_cases e : y' = y
                · rw [e, up_eq]
                · rw [up_k e, x2 y' hy' e, FX (A + 5) (by omega) (by omega) (by omega), hp y' hy', dn_pc (by omega) (by omega) Lr.or hy hy' (Or.inl e)]) nm' q
              rw [dk]
              refine ⟨g', ?_, z2, z3, FGx.tr ((FG.fp hA2 x3).tr z4)⟩
              unfold f_Land_lackOf_b180
              rw [if_pos (q1 _), q2, if_pos (ib_n hy (by decide)), ix_n (by omega), wr_s, nI_1]
              exact z1
            have re : ∃ g', f_Land_lackOf_b163 (f_Land_lackOf_L58 (q + m + 1)) (uI h G) A (A + 22 + 2 * k) (nI (j + 1 - s)) (A + 6 + 2 * c) one (nI i) (nI y) (A + 5) (nI y) = some (nI (dkW k c (j + 1) w).1, uI h g') ∧ RLa g' A (thW (dkW k c (j + 1) w).2 k (dkW k c (j + 1) w).1) ∧ g' (A + 22 + 2 * k) 4 = nI (dkW k c (j + 1) w).1 ∧ FG h A k g g' := by
              obtain ⟨G1, y1, y2⟩ := C_place t hA hA2 R' Lr' (c := c) (by rw [n0]; exact hc) (by rw [n0]; exact h8c) W' hy
              unfold f_Land_lackOf_b163
              rw [if_pos (s4 _), y1, bI_s]
              exact fin G1 (FP.fs y2) (fun y' _ _ => congrFun (y2.lo (by omega)) y')
            unfold f_Land_lackOf_b119
            rw [if_pos (sC _), C_take cs hy, bV_s, if_pos (s3 _), C_drk t (by omega) hy, bV_s, hG, if_pos (s4 _), pk_sub sj, q7]
            by_cases o0 : one = 0
            · have lay : G (A + 6 + 2 * c + 1) y = nI (ly w c y - s) := by
                have := (R'.2.1 c (by rw [n0]; exact hc)).2.1 y hy
                rw [this]
                unfold drkN tkW
                rw [up1_ne (by omega), up1_eq]
              rw [if_pos o0, if_pos (sC _), rC, if_pos (aC _), lC, if_pos (ib_n hy (by decide)), ix_n (by omega), hI_u, lay]
              by_cases e4 : ly w c y = s
              · rw [show ly w c y - s = 0 from by omega, if_pos (by rfl)]
                exact re
              · rw [if_neg (nI_ne0 (by omega) (by omega)), if_pos (q1 _), q2, if_pos (ib_n hy (by decide)), FX (A + 5) (by omega) (by omega) (by omega), hp y hy, ← dn_pc (k := k) (s := s) (by omega) (by omega) Lr.or hy hy (Or.inr ⟨by omega, W.1, nm o0⟩)]
                exact fin G FP.rf (fun _ _ _ => rfl)
            · rw [if_neg o0]
              exact re
          by_cases o0 : one = 0
          · rw [if_pos o0, if_pos (sC _), rC, if_pos (aC _), lC, if_pos (ib_n hy (by decide)), rc, oy, mn_n (by omega) (by omega), bI_s]
            exact bat _ (by omega) (by omega) (by omega) (Or.inr ⟨o0, rfl⟩) (fun _ => rfl)
          · rw [if_neg o0]
            exact bat 1 (by omega) (by omega) (by omega) (Or.inl rfl) (fun z => absurd z o0)
        · have z : dkW k c (j + 1) w = (j + 1, w) := (if_neg e1).trans (by rw [ey']; exact if_neg e3)
          rw [if_neg e3, z]
          exact out
theorem C_lack (t : LDs h A) (hA : 6 ≤ A) (hA2 : A + 45 ≤ 765) (R : RLa g A w) (Lr : LR h g A w) (B : WFb w) (hk : k < nh w) (W0 : w 0 = nI (nc w)) (H : WFH w k) (W : WFC w (nc w) (atH w k)) :
    ∃ g', f_Land_lackOf (uI h g) A (A + 22 + 2 * k) = some (nI (drW w k).1, uI h g') ∧ RLa g' A (thW (drW w k).2 k (drW w k).1) ∧ g' (A + 22 + 2 * k) 4 = nI (drW w k).1 ∧ FG h A k g g' := by
  obtain ⟨⟨H1, H2⟩, ⟨H3, H4⟩, -⟩ := H
  have h8 := B.2.1
  have h8c := B.1
  have s3 : ∀ g, hS (uI h g) (A + 22 + 2 * k) = 3 := fun g => ((t.iu (g := g)).hr (k := k) (by omega)).2.2.2.2.1
  have s4 : ∀ g, hS (uI h g) A = 4 := fun g => t.1
  have e0 : g (A + 22 + 2 * k) 0 = w (345 + 34 * k) := (R.2.2.1 k hk).1 0 (by decide)
  have e1 : g (A + 22 + 2 * k) 1 = nI (atH w k) := by
    have := (R.2.2.1 k hk).1 1 (by decide)
    rw [show 345 + 34 * k + 1 = 346 + 34 * k from by omega, H3] at this
    exact this
  obtain ⟨a1, a2, a3, a4, a5⟩ := (t.iu (g := g)).cr (c := atH w k) (by omega)
  have fin : ∀ one : Int32, (one = 0 ∨ one = 1) → (one = 0 → w 3 = 0 ∨ NM w) → ∃ g', f_Land_lackOf_b48 (uI h g) A (A + 22 + 2 * k) (nI (neH w k)) (A + 6 + 2 * atH w k) one = some (nI (drW w k).1, uI h g') ∧ RLa g' A (thW (drW w k).2 k (drW w k).1) ∧ g' (A + 22 + 2 * k) 4 = nI (drW w k).1 ∧ FG h A k g g' := by
    intro one o1 o2
    obtain ⟨g1, p1, p2, p3⟩ := C_weigh t hA hA2 B H4 W R Lr
    obtain ⟨g', q1, q2, q3, q4⟩ := C_lack_L t hA hA2 H2 o1 (neH w k) (neH w k) 0 g1 w (Nat.le_refl _) (by omega) (R.fp B hA2 p3) (Lr.fp hA2 p3) B H4 hk W H1 p2 o2 (999999 - neH w k)
    unfold f_Land_lackOf_b48
    rw [if_pos (s4 _), p1, bV_s, FU_mm (k := neH w k) (by omega)]
    exact ⟨g', q1, q2, q3, (FG.fp hA2 p3).tr q4⟩
  unfold f_Land_lackOf f_Land_lackOf_b0
  rw [if_pos (s3 _), if_pos (s4 _), hI_u, e1, show nI (atH w k) = tI (atH w k) from (if_pos (by omega)).symm, C_has t (by rw [R.1.1]; exact W0) h8c (Or.inr H4), bI_s, if_pos (show atH w k < 8 by omega), if_neg (by decide), if_pos (s4 _), if_pos (s3 _), a3, if_pos a4, a5, hI_u, e1, if_pos (ib_n (by omega) (by decide)), ix_n (by omega), a1, e0, H1]
  rcases id Lr with ⟨z1, z2⟩ | ⟨z1, z2, z3, S, z4, z5⟩
  · have e8 : hR (uI h g) A 8 = 0 := z2
    unfold f_Land_lackOf_b47
    rw [e8, if_pos rfl]
    exact fin 0 (Or.inl rfl) (fun _ => Or.inl z1)
  · have e8 : hR (uI h g) A 8 = hR h A 8 := rfl
    have s6 : hS (uI h g) (hR h A 8) = 6 := z4.1
    unfold f_Land_lackOf_b47
    rw [e8, if_neg (by omega), if_pos s6]
    by_cases e : g (hR h A 8) 6 = 0
    · rw [if_pos e]
      refine fin 0 (Or.inl rfl) (fun _ => Or.inr fun n hn i hi => z5.2.2.2.2.1 e i ?_)
      have := (z5.2.2.1 n hn).2.2
      omega
    · rw [if_neg e]
      exact fin 1 (Or.inr rfl) (fun z => absurd z (by decide))
end U14
