/-! ===== a month of the reference ===== -/
section U15
variable {h : Hp} {g g' g1 : Nat → Nat → Int32} {w w' : Nat → Int32} {A L S c d k n l y j m q s i F r z E N M : Nat} {v x a b : Int32} {f p : Nat → Nat} {P Q : Nat → Int32}
/-- a debt as it should be -/
def WFD (w : Nat → Int32) (d : Nat) : Prop := (∃ u, w (11 + 3 * d) = nI u ∧ u < nh w) ∧ (∃ u, w (12 + 3 * d) = nI u ∧ u < 30) ∧ ∃ u, w (13 + 3 * d) = nI u ∧ u ≤ 999
/-- a world as it should be, after at most M months -/
def WF (M : Nat) (w : Nat → Int32) : Prop := (w 0 = nI (nc w) ∧ w 1 = nI (nh w) ∧ w 10 = nI (nd w)) ∧ WFb w ∧ (∃ u, w 2 = nI u ∧ u ≤ 10) ∧ (∃ u, w 4 = nI u ∧ u ≤ M) ∧ (w 3 = 0 ∨ (w 3 = 1 ∧ WFL w)) ∧ (∀ c, c < nc w → WFC w (nc w) c) ∧ (∀ k, k < nh w → WFH w k) ∧
  (∀ k, nh w ≤ k → k < 8 → ∀ j, j < 34 → w (345 + 34 * k + j) = 0) ∧ (∀ d, d < nd w → WFD w d) ∧ ∀ y, y < 30 → ∃ u, w (35 + y) = nI u ∧ u ≤ 99
theorem WF.lw (W : WF M w) : w 3 = 0 ∨ WFL w := W.2.2.2.2.1.imp id (fun z => z.2)
theorem WF.wn (W : WF M w) : WFn w := ⟨W.1.1, W.2.1.1, W.2.1.2.1, W.2.1.2.2, W.2.2.2.2.2.1⟩
/-- what is told has not changed -/
def CO (w w' : Nat → Int32) : Prop := ∀ k, ¬ (5 ≤ k ∧ k ≤ 9) → ¬ (65 ≤ k ∧ k < 345) → ¬ (345 ≤ k ∧ k < 617 ∧ 3 ≤ (k - 345) % 34 ∧ (k - 345) / 34 < nh w) → w' k = w k
theorem CO.nh (x : CO w w') : nh w' = nh w := congrArg ix (x 1 (by omega) (by omega) (by omega))
theorem CO.nc (x : CO w w') : nc w' = nc w := congrArg ix (x 0 (by omega) (by omega) (by omega))
theorem CO.nd (x : CO w w') : nd w' = nd w := congrArg ix (x 10 (by omega) (by omega) (by omega))
theorem CO.hi (x : CO w w') : ∀ k, 617 ≤ k → w' k = w k := fun k hk => x k (by omega) (by omega) (by omega)
theorem CO.rf : CO w w := fun _ _ _ _ => rfl
theorem CO.tr {w2 : Nat → Int32} (x : CO w w') (y : CO w' w2) : CO w w2 := fun k h1 h2 h3 => (y k h1 h2 (by rw [x.nh]; exact h3)).trans (x k h1 h2 h3)
theorem WFH.co (H : WFH w k) (hk : k < nh w) (h8 : nh w ≤ 8) (x : CO w w') : WFH w' k := by
  obtain ⟨⟨H1, H2⟩, ⟨H3, H4⟩, H5⟩ := H
  have e0 : w' (345 + 34 * k) = w (345 + 34 * k) := x _ (by omega) (by omega) (by omega)
  have e1 : w' (346 + 34 * k) = w (346 + 34 * k) := x _ (by omega) (by omega) (by omega)
  have e2 : w' (347 + 34 * k) = w (347 + 34 * k) := x _ (by omega) (by omega) (by omega)
  have n0 : neH w' k = neH w k := congrArg ix e0
  have n1 : atH w' k = atH w k := congrArg ix e1
  refine ⟨⟨by rw [n0, e0]; exact H1, by rw [n0]; exact H2⟩, ⟨by rw [n1, e1]; exact H3, by rw [n1, x.nc]; exact H4⟩, by rw [e2]; exact H5⟩
theorem WF.co (W : WF M w) (x : CO w w') (C : ∀ c, c < nc w → WFC w' (nc w) c) : WF M w' := by
  obtain ⟨⟨W1, W2, W3⟩, ⟨B1, B2, B3⟩, T, Mo, La, Ci, Ho, Ze, De, Sa⟩ := W
  have s : ∀ k, k < 65 → ¬ (5 ≤ k ∧ k ≤ 9) → w' k = w k := fun k h1 h2 => x k h2 (by omega) (by omega)
  refine ⟨⟨?_, ?_, ?_⟩, ⟨?_, ?_, ?_⟩, ?_, ?_, ?_, ?_, ?_, ?_, ?_, ?_⟩
  · rw [x.nc, s 0 (by decide) (by decide)]; exact W1
  · rw [x.nh, s 1 (by decide) (by decide)]; exact W2
  · rw [x.nd, s 10 (by decide) (by decide)]; exact W3
  · rw [x.nc]; exact B1
  · rw [x.nh]; exact B2
  · rw [x.nd]; exact B3
  · rw [s 2 (by decide) (by decide)]; exact T
  · rw [s 4 (by decide) (by decide)]; exact Mo
  · rw [s 3 (by decide) (by decide)]; exact La.imp id (fun z => ⟨z.1, z.2.congr x.hi⟩)
  · rw [x.nc]; exact C
  · rw [x.nh]; exact fun k hk => (Ho k hk).co hk B2 x
  · rw [x.nh]; exact fun k hk h8 j hj => by rw [x _ (by omega) (by omega) (by omega)]; exact Ze k hk h8 j hj
  · rw [x.nd]
    intro d hd
    obtain ⟨d1, d2, d3⟩ := De d hd
    refine ⟨?_, ?_, ?_⟩
    · rw [x.nh, s _ (by omega) (by omega)]; exact d1
    · rw [s _ (by omega) (by omega)]; exact d2
    · rw [s _ (by omega) (by omega)]; exact d3
  · intro y hy
    rw [s _ (by omega) (by omega)]; exact Sa y hy
theorem leaks_co (h8 : n ≤ 8) : CO w (leaksW w n) := fun k h1 h2 h3 => by
  by_cases e : k < 65
  · exact leaks_lo e (by omega) _
  · exact leaks_hi (by omega) _ h8
theorem WF.leaks (W : WF M w) : WF M (leaksW w (nc w)) := W.co (leaks_co W.2.1.1) (WF_leaks W.2.1.1 W.2.2.2.2.2.1 _ (Nat.le_refl _))
theorem dk_wf (hk : k < 8) (hc : c < 8) : ∀ (j : Nat) (w : Nat → Int32), WFC w n c → (w 3 = 0 ∨ WFL w) → (∀ i, ¬ (65 ≤ i ∧ i < 345) → ¬ (349 + 34 * k ≤ i ∧ i < 379 + 34 * k) → (dkW k c j w).2 i = w i) ∧ (∀ c', c' < 8 → WFC w n c' → WFC (dkW k c j w).2 n c') ∧ (dkW k c j w).1 ≤ j := by
  intro j
  induction j with
  | zero => intro w W Lw; exact ⟨fun _ _ _ => rfl, fun _ _ z => z, Nat.le_refl _⟩
  | succ j ih =>
    intro w W Lw
    by_cases e1 : nextW w c < 0
    · have z : dkW k c (j + 1) w = (j + 1, w) := if_pos e1
      rw [z]
      exact ⟨fun _ _ _ => rfl, fun _ _ z => z, Nat.le_refl _⟩
    · obtain ⟨y, hy, ey, py⟩ := next_y Lw e1
      have ey' : ix (nextW w c) = y := by rw [ey, ix_n (by omega)]
      have ly1 := pc_pos W.1 hy py
      by_cases e2 : w (35 + y) ≤ w (347 + 34 * k)
      · have z : dkW k c (j + 1) w = dkW k c j (drkN w k c y 1) := (if_neg e1).trans (by rw [ey']; exact if_pos e2)
        obtain ⟨i1, i2, i3⟩ := ih (drkN w k c y 1) (W.dn hy ly1 hc hc W) (Lw.imp (fun z => by rw [dn_o (by omega) (by omega)]; exact z) (fun z => z.congr (dn_hi hk hc hy)))
        rw [z]
        exact ⟨fun i h1 h2 => (i1 i h1 h2).trans (dn_o (by omega) (by omega)), fun c' hc' W' => i2 c' hc' (W.dn hy ly1 hc hc' W'), by omega⟩
      · have z : dkW k c (j + 1) w = (j + 1, w) := (if_neg e1).trans (by rw [ey']; exact if_neg e2)
        rw [z]
        exact ⟨fun _ _ _ => rfl, fun _ _ z => z, Nat.le_refl _⟩
/-- the world after the house k drank -/
def dmW (w : Nat → Int32) (k : Nat) : Nat → Int32 := thW (drW w k).2 k (drW w k).1
theorem WFC.th {c' : Nat} (W' : WFC w n c') (hc : c' < 8) : WFC (thW w k j) n c' :=
  W'.of (b := ly w c') (fun y hy => by rw [show thW w k j (70 + 35 * c' + y) = w (70 + 35 * c' + y) from up1_ne (by omega)]; exact (W'.1 y hy).1) W'.2.1.2.2 (fun i hi => up1_ne (by omega))
theorem dm_co (W : WF M w) (hk : k < nh w) : CO w (dmW w k) ∧ (∀ c, c < nc w → WFC (dmW w k) (nc w) c) ∧ (drW w k).1 ≤ 99 := by
  have H := W.2.2.2.2.2.2.1 k hk
  have h8 := W.2.1.2.1
  have h8c := W.2.1.1
  obtain ⟨d1, d2, d3⟩ := dk_wf (k := k) (n := nc w) (by omega) (by have := H.2.1.2; omega) (neH w k) w (W.2.2.2.2.2.1 _ H.2.1.2) W.lw
  refine ⟨fun i h1 h2 h3 => ?_, fun c hc => (d2 c (by omega) (W.2.2.2.2.2.1 c hc)).th (by omega), Nat.le_trans d3 H.1.2⟩
  unfold dmW thW
  rw [up1_ne (by omega)]
  exact d1 i h2 (by omega)
theorem WF.dm (W : WF M w) (hk : k < nh w) : WF M (dmW w k) := W.co (dm_co W hk).1 (dm_co W hk).2.1
def dmsW (w : Nat → Int32) : Nat → Nat → Int32
  | 0 => w
  | k + 1 => dmW (dmsW w k) k
/-- what the house k lacks -/
def lcW (w : Nat → Int32) (k : Nat) : Nat := (drW (dmsW w k) k).1
theorem dms_wf (W : WF M w) : ∀ k, k ≤ nh w → WF M (dmsW w k) ∧ CO w (dmsW w k) := by
  intro k
  induction k with
  | zero => intro _; exact ⟨W, CO.rf⟩
  | succ k ih =>
    intro hk
    obtain ⟨i1, i2⟩ := ih (by omega)
    have hk' : k < nh (dmsW w k) := by rw [i2.nh]; omega
    exact ⟨i1.dm hk', i2.tr (dm_co i1 hk').1⟩
theorem lc_le (W : WF M w) (hk : k < nh w) : lcW w k ≤ 99 := by
  obtain ⟨i1, i2⟩ := dms_wf W k (by omega)
  exact (dm_co i1 (by rw [i2.nh]; exact hk)).2.2
theorem lcs_le (W : WF M w) : ∀ k, k ≤ nh w → smN (lcW w) k ≤ 99 * k := by
  intro k
  induction k with
  | zero => intro _; exact Nat.le_refl _
  | succ k ih =>
    intro hk
    have h1 := ih (by omega)
    have h2 := lc_le W (k := k) (by omega)
    show smN (lcW w) k + lcW w k ≤ _
    omega
/-- the first that lacks any -/
def thF (f : Nat → Nat) : Nat → Int32
  | 0 => -1
  | n + 1 => if thF f n < 0 then (if 0 < f n then nI n else -1) else thF f n
theorem thF_v : thF f n = -1 ∨ ∃ k, k < n ∧ thF f n = nI k := by
  induction n with
  | zero => exact Or.inl rfl
  | succ n ih =>
    unfold thF
    by_cases e : thF f n < 0
    · rw [if_pos e]
      by_cases e2 : 0 < f n
      · rw [if_pos e2]; exact Or.inr ⟨n, by omega, rfl⟩
      · rw [if_neg e2]; exact Or.inl rfl
    · rw [if_neg e]
      rcases ih with z | ⟨k, h1, h2⟩
      · exact Or.inl z
      · exact Or.inr ⟨k, by omega, h2⟩
def brkW (w : Nat → Int32) : Nat → Nat → Nat → Int32
  | 0, _ => w
  | j + 1, c => if w (67 + 35 * c) = 0 then brkW w j (c + 1) else up1 w (67 + 35 * c) 0
def drawW (w : Nat → Int32) : Nat → Int32 := up1 w 5 ((1103515245 : Int32) * w 5 + 12345)
def drawV (w : Nat → Int32) : Int32 := (jshr (drawW w 5) 16) &&& 32767
def frostW (w : Nat → Int32) : Nat → Int32 := if jrem (drawV w) 100 < 20 then brkW (drawW w) (nc w) 0 else drawW w
def tickW (w : Nat → Int32) : Nat → Int32 := up1 w 4 (w 4 + 1)
def endW (w : Nat → Int32) : Nat → Int32 := if jrem (tickW w 4) 12 = 0 then frostW (tickW w) else tickW w
/-- the world a month later; the thirst of it -/
def monthW (w : Nat → Int32) : Nat → Int32 := endW (dmsW (leaksW w (nc w)) (nh w))
def thirstW (w : Nat → Int32) : Nat := smN (lcW (leaksW w (nc w))) (nh w)
def thirstyW (w : Nat → Int32) : Int32 := thF (lcW (leaksW w (nc w))) (nh w)
theorem WFC.seal {c' : Nat} (W' : WFC w n c') (hc : c' < 8) (h : ∀ k, 65 ≤ k → k < 345 → (∀ c, k ≠ 67 + 35 * c) → w' k = w k) (hs : w' (67 + 35 * c') = 0 ∨ w' (67 + 35 * c') = w (67 + 35 * c')) : WFC w' n c' := by
  obtain ⟨O, ⟨R1, R2, R3⟩, K, ⟨sl, S1, S2⟩, ⟨L1, L2⟩, T1, T2, T3⟩ := W'
  have l1 : ∀ y, y < 30 → w' (70 + 35 * c' + y) = w (70 + 35 * c' + y) := fun y hy => h _ (by omega) (by omega) (fun c => by omega)
  have e0 : w' (65 + 35 * c') = w (65 + 35 * c') := h _ (by omega) (by omega) (fun c => by omega)
  have e1 : w' (66 + 35 * c') = w (66 + 35 * c') := h _ (by omega) (by omega) (fun c => by omega)
  have e3 : w' (68 + 35 * c') = w (68 + 35 * c') := h _ (by omega) (by omega) (fun c => by omega)
  have e4 : w' (69 + 35 * c') = w (69 + 35 * c') := h _ (by omega) (by omega) (fun c => by omega)
  have r1 : rm w' c' = rm w c' := congrArg ix e0
  have k1 : lk w' c' = lk w c' := congrArg ix e3
  have t1 : tw w' c' = tw w c' := by unfold tw; rw [e4]
  have m1 : ms w' c' = ms w c' := ms_eq l1
  refine ⟨fun y hy => ?_, ⟨by rw [r1, e0]; exact R1, by rw [r1]; exact R2, by rw [r1, m1]; exact R3⟩, by rw [e1]; exact K, ?_, ⟨by rw [k1, e3]; exact L1, by rw [k1]; exact L2⟩, by rw [t1, e4]; exact T1, by rw [t1]; exact T2, by rw [t1]; exact T3⟩
  · have ll : ly w' c' y = ly w c' y := congrArg ix (l1 y hy)
    rw [ll, l1 y hy]; exact O y hy
  · rcases hs with z | z
    · exact ⟨0, z, by decide⟩
    · exact ⟨sl, z.trans S1, S2⟩
theorem brk_i : ∀ (j c : Nat), (∀ k, (∀ c, k ≠ 67 + 35 * c) → brkW w j c k = w k) ∧ (∀ k, 345 ≤ k → c + j ≤ 8 → brkW w j c k = w k) ∧ ∀ c', brkW w j c (67 + 35 * c') = 0 ∨ brkW w j c (67 + 35 * c') = w (67 + 35 * c') := by
  intro j
  induction j with
  | zero => intro c; exact ⟨fun _ _ => rfl, fun _ _ _ => rfl, fun _ => Or.inr rfl⟩
  | succ j ih =>
    intro c
    unfold brkW
    by_cases e : w (67 + 35 * c) = 0
    · rw [if_pos e]
      exact ⟨(ih (c + 1)).1, fun k h1 h2 => (ih (c + 1)).2.1 k h1 (by omega), (ih (c + 1)).2.2⟩
    · rw [if_neg e]
      refine ⟨fun k hk => up1_ne (hk c), fun k h1 h2 => up1_ne (by omega), fun c' => ?_⟩
      by_cases q : c' = c
      · rw [q]; exact Or.inl up1_eq
      · exact Or.inr (up1_ne (by omega))
theorem frost_wf (W : WF M w) : WF M (frostW w) ∧ CO w (frostW w) := by
  have h8 := W.2.1.1
  have d5 : ∀ k, k ≠ 5 → drawW w k = w k := fun k hk => up1_ne hk
  have cd : CO w (drawW w) := fun k h1 _ _ => d5 k (by omega)
  unfold frostW
  by_cases e : jrem (drawV w) 100 < 20
  · rw [if_pos e]
    obtain ⟨b1, b2, b3⟩ := brk_i (w := drawW w) (nc w) 0
    have x : CO w (brkW (drawW w) (nc w) 0) := fun k h1 h2 h3 => by
      by_cases q : 345 ≤ k
      · rw [b2 k q (by omega), d5 k (by omega)]
      · rw [b1 k (fun c => by omega), d5 k (by omega)]
    refine ⟨W.co x fun c hc => (W.2.2.2.2.2.1 c hc).seal (by omega) (fun k _ _ hk => ?_) ?_, x⟩
    · rw [b1 k hk, d5 k (by omega)]
    · rcases b3 c with z | z
      · exact Or.inl z
      · exact Or.inr (z.trans (d5 _ (by omega)))
  · rw [if_neg e]
    exact ⟨W.co cd fun c hc => (W.2.2.2.2.2.1 c hc).seal (by omega) (fun k _ _ _ => d5 k (by omega)) (Or.inr (d5 _ (by omega))), cd⟩
/-- a month more, and nothing else -/
theorem WF.tick (W : WF M w) (hM : M < 2 ^ 30) : WF (M + 1) (tickW w) := by
  obtain ⟨⟨W1, W2, W3⟩, ⟨B1, B2, B3⟩, T, ⟨u, U1, U2⟩, La, Ci, Ho, Ze, De, Sa⟩ := W
  have s : ∀ k, k ≠ 4 → tickW w k = w k := fun k h => up1_ne h
  have n0 : nc (tickW w) = nc w := congrArg ix (s 0 (by decide))
  have n1 : nh (tickW w) = nh w := congrArg ix (s 1 (by decide))
  have n2 : nd (tickW w) = nd w := congrArg ix (s 10 (by decide))
  have e4 : tickW w 4 = nI (u + 1) := by
    have : tickW w 4 = w 4 + 1 := up1_eq
    rw [this, U1, nI_1]
  refine ⟨⟨?_, ?_, ?_⟩, ⟨?_, ?_, ?_⟩, ?_, ⟨u + 1, e4, by omega⟩, ?_, ?_, ?_, ?_, ?_, ?_⟩
  · rw [n0, s 0 (by decide)]; exact W1
  · rw [n1, s 1 (by decide)]; exact W2
  · rw [n2, s 10 (by decide)]; exact W3
  · rw [n0]; exact B1
  · rw [n1]; exact B2
  · rw [n2]; exact B3
  · rw [s 2 (by decide)]; exact T
  · rw [s 3 (by decide)]; exact La.imp id (fun z => ⟨z.1, z.2.congr (fun k hk => s k (by omega))⟩)
  · rw [n0]
    intro c hc
    exact (Ci c hc).of (b := ly w c) (fun y hy => by rw [s _ (by omega)]; exact ((Ci c hc).1 y hy).1) (Ci c hc).2.1.2.2 (fun i hi => s _ (by omega))
  · rw [n1]
    intro k hk
    obtain ⟨⟨H1, H2⟩, ⟨H3, H4⟩, H5⟩ := Ho k hk
    have m0 : neH (tickW w) k = neH w k := congrArg ix (s _ (by omega))
    have m1 : atH (tickW w) k = atH w k := congrArg ix (s _ (by omega))
    exact ⟨⟨by rw [m0, s _ (by omega)]; exact H1, by rw [m0]; exact H2⟩, ⟨by rw [m1, s _ (by omega)]; exact H3, by rw [m1, n0]; exact H4⟩, by rw [s _ (by omega)]; exact H5⟩
  · rw [n1]; exact fun k hk h8 j hj => by rw [s _ (by omega)]; exact Ze k hk h8 j hj
  · rw [n2]
    intro d hd
    obtain ⟨d1, d2, d3⟩ := De d hd
    refine ⟨?_, ?_, ?_⟩
    · rw [n1, s _ (by omega)]; exact d1
    · rw [s _ (by omega)]; exact d2
    · rw [s _ (by omega)]; exact d3
  · intro y hy
    rw [s _ (by omega)]; exact Sa y hy
theorem WF.month (W : WF M w) (hM : M < 2 ^ 30) : WF (M + 1) (monthW w) := by
  have W1 := W.leaks
  have n1 : nh (leaksW w (nc w)) = nh w := (leaks_co W.2.1.1).nh
  have W2 := (dms_wf W1 (nh w) (by rw [n1]; exact Nat.le_refl _)).1.tick hM
  unfold monthW endW
  split
  · exact (frost_wf W2).1
  · exact W2
theorem WF.mono {M' : Nat} (W : WF M w) (h : M ≤ M') : WF M' w := by
  obtain ⟨W1, W2, W3, ⟨u, U1, U2⟩, W5⟩ := W
  exact ⟨W1, W2, W3, ⟨u, U1, by omega⟩, W5⟩
/-! the functions -/
theorem N_hou (t : TSr h) : f_Model_houses (uI h g) 755 = some (g 756 1, uI h g) := M_houses (t.iu (g := g))
/-- of the reference only its world, what waits, and who is thirsty have changed -/
def FM (g g' : Nat → Nat → Int32) : Prop := (∀ r, r ≠ 755 → r ≠ 756 → r ≠ 763 → g' r = g r) ∧ ∀ j, j ≠ 18 → g' 755 j = g 755 j
theorem FM.rf : FM g g := ⟨fun _ _ _ _ => rfl, fun _ _ => rfl⟩
theorem FM.tr (x : FM g g1) (y : FM g1 g') : FM g g' := ⟨fun r h1 h2 h3 => (y.1 r h1 h2 h3).trans (x.1 r h1 h2 h3), fun j hj => (y.2 j hj).trans (x.2 j hj)⟩
theorem FM.fn (x : FN g g') : FM g g' := ⟨fun r _ h2 h3 => x r h2 h3, fun j _ => by rw [x 755 (by decide) (by decide)]⟩
theorem FM.wo (x : ∀ r, r ≠ 756 → g' r = g r) : FM g g' := FM.fn fun r h1 _ => x r h1
theorem N_brk_L (t : TSr h) (h8 : nc w ≤ 8) (h0 : w 0 = nI (nc w)) (hg : g 756 = w) : ∀ (j c : Nat), c + j = nc w → ∀ q, ∃ g', f_Model_frosts_L14 (q + j + 1) (uI h g) 755 (nI c) = some (uI h g') ∧ g' 756 = brkW w j c ∧ ∀ r, r ≠ 756 → g' r = g r := by
  have s : ∀ g, hS (uI h g) 755 = 11 := fun g => (t.iu (g := g)).1
  intro j
  induction j with
  | zero =>
    intro c hc q
    have E : f_Model_frosts_L14 (q + 0 + 1) (uI h g) 755 (nI c) = f_Model_frosts_b14 (f_Model_frosts_L14 q) (uI h g) 755 (nI c) := rfl
    have hc' : c = nc w := hc
    rw [E]
    unfold f_Model_frosts_b14
    rw [if_pos (s _), N_cis t, bI_s, hg, h0, ← hc', if_pos (Int32.le_refl _)]
    exact ⟨g, rfl, hg, fun _ _ => rfl⟩
  | succ j ih =>
    intro c hc q
    have E : f_Model_frosts_L14 (q + (j + 1) + 1) (uI h g) 755 (nI c) = f_Model_frosts_b14 (f_Model_frosts_L14 (q + j + 1)) (uI h g) 755 (nI c) := rfl
    have O2 : f_Model_ofCistern (uI h g) 755 (nI c) (2 : Int32) = some (g 756 (67 + 35 * c), uI h g) := by
      rw [show (2 : Int32) = nI 2 from rfl, N_of t (by omega) (by decide), show 65 + 35 * c + 2 = 67 + 35 * c from by omega]
    rw [E]
    unfold f_Model_frosts_b14
    rw [if_pos (s _), N_cis t, bI_s, hg, h0, if_neg (nI_ge (by omega) (by omega)), if_pos (s _), O2, bI_s, hg]
    by_cases e : w (67 + 35 * c) = 0
    · have z : brkW w (j + 1) c = brkW w j (c + 1) := if_pos e
      rw [if_pos e, nI_1, z]
      exact ih (c + 1) (by omega) q
    · have z : brkW w (j + 1) c = up1 w (67 + 35 * c) 0 := if_neg e
      have S2 : f_Model_setsCistern (uI h g) 755 (nI c) (2 : Int32) 0 = some (uI h (up2 g 756 (67 + 35 * c) 0)) := by
        rw [show (2 : Int32) = nI 2 from rfl, N_sets t (by omega) (by decide), show 65 + 35 * c + 2 = 67 + 35 * c from by omega]
      rw [if_neg e, if_pos (s _), S2, bV_s, z]
      exact ⟨_, rfl, by rw [up2_row, hg], fun r hr => up_row hr⟩
theorem N_draw (t : TSr h) (hv : ¬ v = 0) : f_Model_draw (uI h g) 755 v = some (jrem (drawV (g 756)) v, uI h (up2 g 756 5 (drawW (g 756) 5))) := by
  obtain ⟨s, ⟨r1, -⟩, ⟨a1, a2⟩, -⟩ := t.iu (g := g)
  obtain ⟨s', ⟨r1', -⟩, ⟨a1', a2'⟩, -⟩ := t.iu (g := up2 g 756 5 (drawW (g 756) 5))
  have e5 : drawW (g 756) 5 = (1103515245 : Int32) * g 756 5 + 12345 := up1_eq
  unfold f_Model_draw f_Model_draw_b0
  rw [if_pos s, r1, if_pos a1, a2, show (5 : Int32) = nI 5 from rfl, if_pos (ib_n (by decide) (by decide)), if_pos (ib_n (by decide) (by decide)), ix_n (by decide), hI_u, ← e5, wr_s, sI_u, r1', if_pos a1', a2', if_pos (ib_n (by decide) (by decide)), if_pos hv, hI_u, up_eq]
  rfl
theorem N_frost (t : TSr h) (h8 : nc (g 756) ≤ 8) (h0 : g 756 0 = nI (nc (g 756))) : ∃ g', f_Model_frosts (uI h g) 755 = some (uI h g') ∧ g' 756 = frostW (g 756) ∧ ∀ r, r ≠ 756 → g' r = g r := by
  have s : ∀ g, hS (uI h g) 755 = 11 := fun g => (t.iu (g := g)).1
  have gd : up2 g 756 5 (drawW (g 756) 5) 756 = drawW (g 756) := by
    rw [up2_row]
    have e5 : drawW (g 756) 5 = (1103515245 : Int32) * g 756 5 + 12345 := up1_eq
    rw [e5]
    rfl
  have n0 : nc (drawW (g 756)) = nc (g 756) := congrArg ix (up1_ne (by decide))
  unfold f_Model_frosts f_Model_frosts_b0
  rw [if_pos (s _), N_draw t (by decide), bI_s]
  unfold frostW
  by_cases e : jrem (drawV (g 756)) 100 < 20
  · rw [if_pos e, if_pos e, FU_mm (k := nc (g 756)) (by omega)]
    obtain ⟨g', q1, q2, q3⟩ := N_brk_L t (w := drawW (g 756)) (by rw [n0]; exact h8) (by rw [n0, show drawW (g 756) 0 = g 756 0 from up1_ne (by decide)]; exact h0) gd (nc (g 756)) 0 (by rw [n0]; omega) (999999 - nc (g 756))
    exact ⟨g', q1, q2, fun r hr => (q3 r hr).trans (up_row hr)⟩
  · rw [if_neg e, if_neg e]
    exact ⟨_, rfl, gd, fun r hr => up_row hr⟩
theorem N_month_L (t : TSr h) (W : WF M w) (hM : M < 2 ^ 30) : ∀ (j k : Nat) (g : Nat → Nat → Int32), k + j = nh w → g 756 = dmsW w k → g 755 18 = thF (lcW w) k → ∀ q,
    ∃ g', f_Model_month_L13 (q + j + 1) (uI h g) 755 (nI (smN (lcW w) k)) (nI k) = some (nI (smN (lcW w) (nh w)), uI h g') ∧ g' 756 = endW (dmsW w (nh w)) ∧ g' 755 18 = thF (lcW w) (nh w) ∧ FM g g' := by
  have s : ∀ g, hS (uI h g) 755 = 11 := fun g => (t.iu (g := g)).1
  have r1 : ∀ g, hR (uI h g) 755 1 = 756 := fun g => (t.iu (g := g)).2.1.1
  have b1 : ∀ g, hS (uI h g) 756 = 20 := fun g => (t.iu (g := g)).2.2.1.1
  have b2 : ∀ g, hL (uI h g) 756 = 2291 := fun g => (t.iu (g := g)).2.2.1.2
  intro j
  induction j with
  | zero =>
    intro k g hk hg h18 q
    have hk' : k = nh w := hk
    obtain ⟨W1, W2⟩ := dms_wf W k (by omega)
    have T1 := W1.tick hM
    have E : f_Model_month_L13 (q + 0 + 1) (uI h g) 755 (nI (smN (lcW w) k)) (nI k) = f_Model_month_b13 (f_Model_month_L13 q) (uI h g) 755 (nI (smN (lcW w) k)) (nI k) := rfl
    have gt : up2 g 756 4 (g 756 4 + 1) 756 = tickW (dmsW w k) := by rw [up2_row, hg]; rfl
    have g4 : up2 g 756 4 (g 756 4 + 1) 756 4 = tickW (dmsW w k) 4 := congrFun gt 4
    rw [E]
    unfold f_Model_month_b13
    rw [if_pos (s _), N_hou t, bI_s, hg, W1.1.2.1, W2.nh, ← hk', if_pos (Int32.le_refl _), if_pos (s _), r1, if_pos (b1 _), b2, show (4 : Int32) = nI 4 from rfl, if_pos (ib_n (by decide) (by decide)), if_pos (ib_n (by decide) (by decide)), ix_n (by decide), hI_u, wr_s, sI_u, r1, if_pos (b1 _), b2, if_pos (ib_n (by decide) (by decide)), hI_u, g4]
    unfold endW
    by_cases e : jrem (tickW (dmsW w k) 4) 12 = 0
    · rw [if_pos e, if_pos e]
      obtain ⟨g', q1, q2, q3⟩ := N_frost t (g := up2 g 756 4 (g 756 4 + 1)) (by rw [gt]; exact T1.2.1.1) (by rw [gt]; exact T1.1.1)
      rw [q1, bV_s]
      exact ⟨g', rfl, q2.trans (by rw [gt]), by rw [q3 755 (by decide), up_row (by decide)]; exact h18, (FM.wo fun r hr => up_row hr).tr (FM.wo q3)⟩
    · rw [if_neg e, if_neg e]
      exact ⟨_, rfl, gt, by rw [up_row (by decide)]; exact h18, FM.wo fun r hr => up_row hr⟩
  | succ j ih =>
    intro k g hk hg h18 q
    obtain ⟨W1, W2⟩ := dms_wf W k (by omega)
    have h8 := W.2.1.2.1
    have hk2 : k < nh (dmsW w k) := by rw [W2.nh]; omega
    have H := W1.2.2.2.2.2.2.1 k hk2
    have l9 := lc_le W (k := k) (by omega)
    have E : f_Model_month_L13 (q + (j + 1) + 1) (uI h g) 755 (nI (smN (lcW w) k)) (nI k) = f_Model_month_b13 (f_Model_month_L13 (q + j + 1)) (uI h g) 755 (nI (smN (lcW w) k)) (nI k) := rfl
    obtain ⟨g1, p1, p2, p3⟩ := N_drinks t (g := g) (k := k) (n := nc (dmsW w k)) (by omega) (by rw [hg]; exact H) (by rw [hg]; exact W1.2.1.1) (by rw [hg]; exact W1.2.2.2.2.2.1 _ H.2.1.2) (by rw [hg]; exact W1.lw)
    rw [hg] at p1 p2
    have lc : (drW (dmsW w k) k).1 = lcW w k := rfl
    have g2 : ∀ G, G = up2 g1 756 (348 + 34 * k) (g1 756 (348 + 34 * k) + nI (lcW w k)) → G 756 = dmsW w (k + 1) := by
      rintro _ rfl
      rw [up2_row, p2]
      rfl
    rw [E]
    unfold f_Model_month_b13
    rw [if_pos (s _), N_hou t, bI_s, hg, W1.1.2.1, W2.nh, if_neg (nI_ge (by omega) (by omega)), if_pos (s _), p1, bI_s, if_pos (s _), show (3 : Int32) = nI 3 from rfl, N_oh t (by omega) (by decide), bI_s, if_pos (s _), N_sh t (by omega) (by decide), bV_s, show 345 + 34 * k + 3 = 348 + 34 * k from by omega, lc, nI_add]
    unfold f_Model_month_b61
    rw [nI_1]
    have F1 : FM g (up2 g1 756 (348 + 34 * k) (g1 756 (348 + 34 * k) + nI (lcW w k))) := (FM.fn p3).tr (FM.wo fun r hr => up_row hr)
    have a18 : up2 g1 756 (348 + 34 * k) (g1 756 (348 + 34 * k) + nI (lcW w k)) 755 18 = thF (lcW w) k := by rw [up_row (by decide), p3 755 (by decide) (by decide)]; exact h18
    have go : ∀ G, G 756 = dmsW w (k + 1) → G 755 18 = thF (lcW w) (k + 1) → FM g G → ∃ g', f_Model_month_L13 (q + j + 1) (uI h G) 755 (nI (smN (lcW w) k + lcW w k)) (nI (k + 1)) = some (nI (smN (lcW w) (nh w)), uI h g') ∧ g' 756 = endW (dmsW w (nh w)) ∧ g' 755 18 = thF (lcW w) (nh w) ∧ FM g g' := by
      intro G x1 x2 x3
      obtain ⟨g', z1, z2, z3, z4⟩ := ih (k + 1) G (by omega) x1 x2 q
      exact ⟨g', z1, z2, z3, x3.tr z4⟩
    by_cases e0 : lcW w k = 0
    · have z : thF (lcW w) (k + 1) = thF (lcW w) k := by
        show (if thF (lcW w) k < 0 then (if 0 < lcW w k then nI k else -1) else thF (lcW w) k) = _
        by_cases e : thF (lcW w) k < 0
        · rw [if_pos e, if_neg (by omega)]
          rcases thF_v (f := lcW w) (n := k) with y | ⟨u, u1, u2⟩
          · exact y.symm
          · rw [u2] at e; exact absurd e (nI_pos (by omega))
        · rw [if_neg e]
      rw [if_pos (by rw [e0]; decide)]
      exact go _ (g2 _ rfl) (a18.trans z.symm) F1
    · rw [if_neg (nI_nle (by omega) (by omega)), if_pos (s _), hI_u, a18]
      by_cases e : thF (lcW w) k < 0
      · have z : thF (lcW w) (k + 1) = nI k := (if_pos e).trans (if_pos (by omega))
        have ne : ¬ (0 : Int32) ≤ thF (lcW w) k := fun y => Int32.lt_irrefl (Int32.lt_of_le_of_lt y e)
        rw [if_neg ne, wr_s, sI_u]
        refine go _ (by rw [up_row (by decide)]; exact g2 _ rfl) (by rw [up_eq, z]) (F1.tr ⟨fun r h1 _ _ => up_row h1, fun j hj => up_k hj⟩)
      · have z : thF (lcW w) (k + 1) = thF (lcW w) k := if_neg e
        have le : (0 : Int32) ≤ thF (lcW w) k := Int32.not_lt.mp e
        rw [if_pos le]
        exact go _ (g2 _ rfl) (a18.trans z.symm) F1
theorem N_month (t : TSr h) (W : WF M (g 756)) (hM : M < 2 ^ 30) : ∃ g', f_Model_month (uI h g) 755 = some (nI (thirstW (g 756)), uI h g') ∧ g' 756 = monthW (g 756) ∧ g' 755 18 = thirstyW (g 756) ∧ FM g g' := by
  have s : ∀ g, hS (uI h g) 755 = 11 := fun g => (t.iu (g := g)).1
  obtain ⟨g1, p1, p2, p3⟩ := N_leaks t W.2.1.1 W.1.1 W.2.2.2.2.2.1
  have W1 := W.leaks
  have n1 : nh (leaksW (g 756) (nc (g 756))) = nh (g 756) := (leaks_co W.2.1.1).nh
  have h8 := W.2.1.2.1
  unfold f_Model_month f_Model_month_b0
  rw [if_pos (s _), p1, bV_s, if_pos (s _), wr_s, sI_u, FU_mm (k := nh (g 756)) (by omega)]
  obtain ⟨g', q1, q2, q3, q4⟩ := N_month_L t W1 hM (nh (g 756)) 0 (up2 g1 755 18 (-1)) (by rw [n1]; omega) (by rw [up_row (by decide)]; exact p2) up_eq (999999 - nh (g 756))
  rw [n1] at q1 q2 q3
  exact ⟨g', q1, q2, q3, (FM.wo p3).tr (FM.tr ⟨fun r h1 _ _ => up_row h1, fun j hj => up_k hj⟩ q4)⟩
end U15
