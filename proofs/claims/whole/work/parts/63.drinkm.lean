/-! ===== a house drinks: the reference ===== -/
section U13
variable {h : Hp} {g g' g1 : Nat → Nat → Int32} {w w' : Nat → Int32} {A L S c d k n l y j m q s i F r z E : Nat} {v x a b : Int32} {f p : Nat → Nat} {P : Nat → Int32}
theorem N_oh (t : TSr h) (hk : k < 8) (hj : j < 34) : f_Model_ofHouse (uI h g) 755 (nI k) (nI j) = some (g 756 (345 + 34 * k + j), uI h g) := M_ofHouse (t.iu (g := g)) hk hj
theorem N_sh (t : TSr h) (hk : k < 8) (hj : j < 34) : f_Model_setsHouse (uI h g) 755 (nI k) (nI j) v = some (uI h (up2 g 756 (345 + 34 * k + j) v)) := M_setsHouse (t.iu (g := g)) hk hj
/-- s measures of y go from c to the house k -/
def drkN (w : Nat → Int32) (k c y s : Nat) : Nat → Int32 := up1 (tkW w c y s) (349 + 34 * k + y) (w (349 + 34 * k + y) + nI s)
/-- so many are still wanted: what lacks in the end, and the world then -/
def dkW (k c : Nat) : Nat → (Nat → Int32) → Nat × (Nat → Int32)
  | 0, w => (0, w)
  | j + 1, w => if nextW w c < 0 then (j + 1, w) else if w (35 + ix (nextW w c)) ≤ w (347 + 34 * k) then dkW k c j (drkN w k c (ix (nextW w c)) 1) else (j + 1, w)
theorem next_y (Lw : w 3 = 0 ∨ WFL w) (h : ¬ nextW w c < 0) : ∃ y, y < 30 ∧ nextW w c = nI y ∧ 0 ≤ pcW w c y := by
  rcases nx_inv (P := pcW w c) (n := 30) (fun y => pc_ok Lw) with ⟨i1, -⟩ | ⟨k, i1, i2, -, i4⟩
  · exact absurd (by show (nxF (pcW w c) 30).1 < 0; rw [i1]; decide) h
  · exact ⟨k, i1, i2, i4⟩
theorem pc_pos (O : OKL w c) (hy : y < 30) (h : 0 ≤ pcW w c y) : 1 ≤ ly w c y := by
  have o := (O y hy).1
  by_cases e : ly w c y = 0
  · exfalso
    have z : pcW w c y = -1 := if_pos (by rw [o, e]; rfl)
    rw [z] at h
    exact absurd h (by decide)
  · omega
theorem dn_o (h1 : j ≠ 70 + 35 * c + y) (h2 : j ≠ 349 + 34 * k + y) : drkN w k c y s j = w j := (up1_ne h2).trans (up1_ne h1)
theorem WFC.dn (W : WFC w n c) (hy : y < 30) (hs : s ≤ ly w c y) {c' : Nat} (hc : c < 8) (hc' : c' < 8) (W' : WFC w n c') : WFC (drkN w k c y s) n c' := by
  by_cases e : c' = c
  · subst e
    refine W'.of (b := fun z => if z = y then ly w c' z - s else ly w c' z) (fun z hz => ?_) ?_ (fun j hj => dn_o (by omega) (by omega))
    · by_cases q : z = y
      · subst q
        rw [if_pos rfl]
        exact (up1_ne (by omega)).trans up1_eq
      · rw [if_neg q, dn_o (by omega) (by omega)]
        exact (W'.1 z hz).1
    · have := smN_tk (f := ly w c') (n := 30) hy hs
      have h2 : smN (ly w c') 30 = ms w c' := rfl
      have := W'.2.1.2.2
      omega
  · exact W'.of (b := ly w c') (fun z hz => by rw [dn_o (by omega) (by omega)]; exact (W'.1 z hz).1) W'.2.1.2.2 (fun j hj => dn_o (by omega) (by omega))
theorem tyR_congr (h : ∀ k, 617 ≤ k → w' k = w k) : ∀ (n i : Nat) (ts : List Bool), tyR w' n i ts = tyR w n i ts := by
  intro n
  induction n with
  | zero => intro i ts; rfl
  | succ n ih =>
    intro i ts
    unfold tyR
    rw [h (654 + 2 * i) (by omega), h (655 + 2 * i) (by omega)]
    cases tyS (w (654 + 2 * i)) (w (655 + 2 * i)) ts with
    | none => rfl
    | some t => exact ih (i + 1) t
theorem lwN_c (h : ∀ k, 617 ≤ k → w' k = w k) : lwN w' = lwN w := congrArg ix (h 617 (by omega))
theorem lwE_c (h : ∀ k, 617 ≤ k → w' k = w k) (n : Nat) : lwE w' n = lwE w n := congrArg ix (h _ (by omega))
theorem lwS_c (h : ∀ k, 617 ≤ k → w' k = w k) (n : Nat) : lwS w' n = lwS w n := by unfold lwS; rw [lwE_c h]
theorem WFL.congr (W : WFL w) (h : ∀ k, 617 ≤ k → w' k = w k) : WFL w' := by
  obtain ⟨W1, W2, W3⟩ := W
  refine ⟨by rw [lwN_c h, h 617 (by omega)]; exact W1, by rw [lwN_c h]; exact W2, fun n hn => ?_⟩
  rw [lwN_c h] at hn
  rw [lwE_c h, lwS_c h, h _ (by omega), h _ (by omega), h _ (by omega), tyR_congr h]
  exact W3 n hn
theorem dn_hi (hk : k < 8) (hc : c < 8) (hy : y < 30) : ∀ j, 617 ≤ j → drkN w k c y s j = w j := fun j hj => dn_o (by omega) (by omega)
theorem WFC.hk (W : WFC w n c) : w (67 + 35 * c) = 0 ∨ w (67 + 35 * c) = 1 := by
  obtain ⟨-, -, -, ⟨sl, s1, s2⟩, -⟩ := W
  rw [s1]
  have : sl = 0 ∨ sl = 1 := by omega
  rcases this with rfl | rfl
  · exact Or.inl rfl
  · exact Or.inr rfl
/-- but for its world and what waits nothing has changed -/
def FN (g g' : Nat → Nat → Int32) : Prop := ∀ r, r ≠ 756 → r ≠ 763 → g' r = g r
theorem FN.rf : FN g g := fun _ _ _ => rfl
theorem FN.tr (x : FN g g1) (y : FN g1 g') : FN g g' := fun r h1 h2 => (y r h1 h2).trans (x r h1 h2)
theorem F3.fn (x : F3 g g') : FN g g' := fun r _ h2 => x r h2
theorem N_drink_L (t : TSr h) (hk : k < 8) (hc : c < 8) {N : Nat} (hN : N ≤ 99) : ∀ (j i : Nat) (g : Nat → Nat → Int32) (w : Nat → Int32), g 756 = w → i + j = N → w (345 + 34 * k) = nI N → WFC w n c → (w 3 = 0 ∨ WFL w) → ∀ q,
    ∃ g', f_Model_drinks_L9 (q + j + 1) (uI h g) 755 (nI k) (nI c) (nI i) = some (nI (dkW k c j w).1, uI h g') ∧ g' 756 = (dkW k c j w).2 ∧ FN g g' := by
  have s : ∀ g, hS (uI h g) 755 = 11 := fun g => (t.iu (g := g)).1
  have r1 : ∀ g, hR (uI h g) 755 1 = 756 := fun g => (t.iu (g := g)).2.1.1
  have b1 : ∀ g, hS (uI h g) 756 = 20 := fun g => (t.iu (g := g)).2.2.1.1
  have b2 : ∀ g, hL (uI h g) 756 = 2291 := fun g => (t.iu (g := g)).2.2.1.2
  have O0 : ∀ g : Nat → Nat → Int32, f_Model_ofHouse (uI h g) 755 (nI k) (0 : Int32) = some (g 756 (345 + 34 * k), uI h g) := fun g => N_oh t hk (j := 0) (by decide)
  have O2 : ∀ g : Nat → Nat → Int32, f_Model_ofHouse (uI h g) 755 (nI k) (2 : Int32) = some (g 756 (347 + 34 * k), uI h g) := fun g => by
    rw [show (2 : Int32) = nI 2 from rfl, N_oh t hk (by decide), show 345 + 34 * k + 2 = 347 + 34 * k from by omega]
  intro j
  induction j with
  | zero =>
    intro i g w hg hi hn W Lw q
    have hi' : i = N := hi
    have E : f_Model_drinks_L9 (q + 0 + 1) (uI h g) 755 (nI k) (nI c) (nI i) = f_Model_drinks_b9 (f_Model_drinks_L9 q) (uI h g) 755 (nI k) (nI c) (nI i) := rfl
    rw [E]
    unfold f_Model_drinks_b9
    rw [if_pos (s _), O0, bI_s, hg, hn, hi', if_pos (Int32.le_refl _)]
    exact ⟨g, rfl, hg, FN.rf⟩
  | succ j ih =>
    intro i g w hg hi hn W Lw q
    have E : f_Model_drinks_L9 (q + (j + 1) + 1) (uI h g) 755 (nI k) (nI c) (nI i) = f_Model_drinks_b9 (f_Model_drinks_L9 (q + j + 1)) (uI h g) 755 (nI k) (nI c) (nI i) := rfl
    obtain ⟨g1, p1, p2⟩ := N_next t hc (g := g) (by rw [hg]; exact W.hk) (by rw [hg]; exact fun z => Lw.resolve_left z)
    rw [hg] at p1
    have hg1 : g1 756 = w := (p2 756 (by decide)).trans hg
    have out : ∃ g', f_Model_drinks_b50 (uI h g1) 755 (nI k) (nI i) = some (nI (j + 1), uI h g') ∧ g' 756 = w ∧ FN g g' := by
      unfold f_Model_drinks_b50
      rw [if_pos (s _), O0, bI_s, hg1, hn, pk_sub (by omega), show N - i = j + 1 from by omega]
      exact ⟨g1, rfl, hg1, p2.fn⟩
    rw [E]
    unfold f_Model_drinks_b9
    rw [if_pos (s _), O0, bI_s, hg, hn, if_neg (nI_ge (by omega) (by omega)), if_pos (s _), p1, bI_s]
    by_cases e1 : nextW w c < 0
    · have z : dkW k c (j + 1) w = (j + 1, w) := if_pos e1
      rw [if_pos e1, z]
      exact out
    · obtain ⟨y, hy, ey, py⟩ := next_y Lw e1
      have ey' : ix (nextW w c) = y := by rw [ey, ix_n (by omega)]
      have ly1 := pc_pos W.1 hy py
      have oy := (W.1 y hy).1
      rw [if_neg e1, if_pos (s _), r1, if_pos (b1 _), b2, ey, show (35 : Int32) + nI y = nI (35 + y) from nI_add 35 y, if_pos (ib_n (by omega) (by decide)), ix_n (by omega), hI_u, hg1, O2, bI_s, hg1]
      by_cases e2 : w (35 + y) ≤ w (347 + 34 * k)
      · have z : dkW k c (j + 1) w = dkW k c j (drkN w k c y 1) := (if_neg e1).trans (by rw [ey']; exact if_pos e2)
        rw [if_pos e2, if_pos (s _), N_adds t hc hy, bV_s, if_pos (s _), show (4 : Int32) + nI y = nI (4 + y) from nI_add 4 y, N_oh t hk (by omega), bI_s, if_pos (s _), N_sh t hk (by omega), bV_s, nI_1, z]
        have hw : up2 (up2 g1 756 (70 + 35 * c + y) (g1 756 (70 + 35 * c + y) + -1)) 756 (345 + 34 * k + (4 + y)) (up2 g1 756 (70 + 35 * c + y) (g1 756 (70 + 35 * c + y) + -1) 756 (345 + 34 * k + (4 + y)) + 1) 756 = drkN w k c y 1 := by
          rw [up2_row, up2_row, hg1, show 345 + 34 * k + (4 + y) = 349 + 34 * k + y from by omega, up1_ne (show 349 + 34 * k + y ≠ 70 + 35 * c + y from by omega), oy]
          obtain ⟨u, hu⟩ : ∃ u, ly w c y = u + 1 := ⟨ly w c y - 1, by omega⟩
          unfold drkN tkW
          rw [hu, pk_m1]
          rfl
        obtain ⟨g', q1, q2, q3⟩ := ih (i + 1) _ (drkN w k c y 1) hw (by omega) (by rw [dn_o (by omega) (by omega)]; exact hn) (W.dn hy ly1 hc hc W) (Lw.imp (fun z => by rw [dn_o (by omega) (by omega)]; exact z) (fun z => z.congr (dn_hi hk hc hy))) q
        refine ⟨g', q1, q2, p2.fn.tr (FN.tr (fun r h1 h2 => ?_) q3)⟩
        rw [up_row h1, up_row h1]
      · have z : dkW k c (j + 1) w = (j + 1, w) := (if_neg e1).trans (by rw [ey']; exact if_neg e2)
        rw [if_neg e2, z]
        exact out
def atH (w : Nat → Int32) (k : Nat) : Nat := ix (w (346 + 34 * k))
def neH (w : Nat → Int32) (k : Nat) : Nat := ix (w (345 + 34 * k))
/-- a house as it should be -/
def WFH (w : Nat → Int32) (k : Nat) : Prop := (w (345 + 34 * k) = nI (neH w k) ∧ neH w k ≤ 99) ∧ (w (346 + 34 * k) = nI (atH w k) ∧ atH w k < nc w) ∧ ∃ l, w (347 + 34 * k) = nI l ∧ l ≤ 99
def drW (w : Nat → Int32) (k : Nat) : Nat × (Nat → Int32) := dkW k (atH w k) (neH w k) w
theorem N_drinks (t : TSr h) (hk : k < 8) (H : WFH (g 756) k) (h8 : nc (g 756) ≤ 8) (W : WFC (g 756) n (atH (g 756) k)) (Lw : g 756 3 = 0 ∨ WFL (g 756)) :
    ∃ g', f_Model_drinks (uI h g) 755 (nI k) = some (nI (drW (g 756) k).1, uI h g') ∧ g' 756 = (drW (g 756) k).2 ∧ FN g g' := by
  have s : ∀ g, hS (uI h g) 755 = 11 := fun g => (t.iu (g := g)).1
  obtain ⟨⟨H1, H2⟩, ⟨H3, H4⟩, H5⟩ := H
  unfold f_Model_drinks f_Model_drinks_b0
  rw [if_pos (s _), show (1 : Int32) = nI 1 from rfl, N_oh t hk (by decide), bI_s, show 345 + 34 * k + 1 = 346 + 34 * k from by omega, H3, FU_mm (k := neH (g 756) k) (by omega)]
  exact N_drink_L t hk (by omega) H2 _ 0 g _ rfl (by omega) H1 W Lw _
end U13
