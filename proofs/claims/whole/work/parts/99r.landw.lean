/-! ===== what a line of a land's text does to a world ===== -/
section U67
variable {h h' : Hp} {g g' g1 g2 G : Nat → Nat → Int32} {w w' : Nat → Int32} {b : Nat → Nat} {T p q n i j k m c s r d S M A a z B N K y : Nat} {v u x : Int32}
theorem WF.gen (W : WF M w) (e : ∀ k, 2 ≤ k → k < 35 → w' k = w k) (w0 : w' 0 = nI N) (hN : N ≤ 8) (NN : nc w ≤ N) (w1 : w' 1 = nI K) (hK : K ≤ 8) (KK : nh w ≤ K) (hi : ∀ k, 617 ≤ k → w' k = w k) (s : ∀ y, y < 30 → ∃ u, w' (35 + y) = nI u ∧ u ≤ 99) (ci : ∀ c, c < N → WFC w' N c) (ho : ∀ k, k < K → WFH w' k) (ze : ∀ k, K ≤ k → k < 8 → ∀ j, j < 34 → w' (345 + 34 * k + j) = 0) : WF M w' := by
  obtain ⟨⟨W1, W2, W3⟩, ⟨B1, B2, B3⟩, T, Mo, La, Ci, Ho, Ze, De, Sa⟩ := W
  have n0 : nc w' = N := by show ix (w' 0) = N; rw [w0, ix_n (by omega)]
  have n1 : nh w' = K := by show ix (w' 1) = K; rw [w1, ix_n (by omega)]
  have n2 : nd w' = nd w := congrArg ix (e 10 (by omega) (by omega))
  refine ⟨⟨?_, ?_, ?_⟩, ⟨?_, ?_, ?_⟩, ?_, ?_, ?_, ?_, ?_, ?_, ?_, s⟩
  · rw [n0]; exact w0
  · rw [n1]; exact w1
  · rw [n2, e 10 (by decide) (by decide)]; exact W3
  · rw [n0]; exact hN
  · rw [n1]; exact hK
  · rw [n2]; exact B3
  · rw [e 2 (by decide) (by decide)]; exact T
  · rw [e 4 (by decide) (by decide)]; exact Mo
  · rw [e 3 (by decide) (by decide)]; exact La.imp id (fun z => ⟨z.1, z.2.congr hi⟩)
  · rw [n0]; exact ci
  · rw [n1]; exact ho
  · rw [n1]; exact ze
  · rw [n2]
    intro d hd
    obtain ⟨⟨u, d1, d2⟩, d3, d4⟩ := De d hd
    refine ⟨⟨u, ?_, by rw [n1]; omega⟩, ?_, ?_⟩
    · rw [e _ (by omega) (by omega)]; exact d1
    · rw [e _ (by omega) (by omega)]; exact d3
    · rw [e _ (by omega) (by omega)]; exact d4
theorem WFH.kp (H : WFH w k) (h0 : ∀ j, j < 3 → w' (345 + 34 * k + j) = w (345 + 34 * k + j)) (NN : nc w ≤ nc w') : WFH w' k := by
  obtain ⟨⟨H1, H2⟩, ⟨H3, H4⟩, H5⟩ := H
  have a0 : w' (345 + 34 * k) = w (345 + 34 * k) := h0 0 (by decide)
  have a1 : w' (346 + 34 * k) = w (346 + 34 * k) := by
    have := h0 1 (by decide)
    rw [show 345 + 34 * k + 1 = 346 + 34 * k from by omega] at this
    exact this
  have a2 : w' (347 + 34 * k) = w (347 + 34 * k) := by
    have := h0 2 (by decide)
    rw [show 345 + 34 * k + 2 = 347 + 34 * k from by omega] at this
    exact this
  have m0 : neH w' k = neH w k := congrArg ix a0
  have m1 : atH w' k = atH w k := congrArg ix a1
  exact ⟨⟨by rw [m0, a0]; exact H1, by rw [m0]; exact H2⟩, ⟨by rw [m1, a1]; exact H3, by rw [m1]; omega⟩, by rw [a2]; exact H5⟩
theorem WFC.kp (W : WFC w n c) (h0 : ∀ j, j < 35 → w' (65 + 35 * c + j) = w (65 + 35 * c + j)) : WFC w' n c :=
  W.of (b := ly w c) (fun y hy => by
    have := h0 (5 + y) (by omega)
    rw [show 65 + 35 * c + (5 + y) = 70 + 35 * c + y from by omega] at this
    rw [this]; exact (W.1 y hy).1) W.2.1.2.2 (fun j hj => h0 j (by omega))
/-- one more cistern -/
theorem WF.nwc (W : WF M w) (h8 : nc w < 8) (hV : s ≤ 999) (hk : k ≤ 3) : WF M (newC w (nI s) (nI k)) := by
  have W0 := W.1.1
  have e0 := nw_cn (v := nI s) (b := nI k) W0 h8
  have o : ∀ j, j ≠ 0 → (j < 65 + 35 * nc w ∨ 100 + 35 * nc w ≤ j) → newC w (nI s) (nI k) j = w j := fun j h1 h2 => nw_o h1 (by omega)
  refine W.gen (N := nc w + 1) (K := nh w) (fun j h1 h2 => o j (by omega) (by omega)) (by rw [nw_0, W0, nI_1]) (by omega) (by omega) (by rw [o 1 (by decide) (by omega)]; exact W.1.2.1) W.2.1.2.1 (Nat.le_refl _) (fun j hj => o j (by omega) (by omega)) (fun y hy => by rw [o _ (by omega) (by omega)]; exact W.2.2.2.2.2.2.2.2.2 y hy) (fun c hc => ?_) (fun k' hk' => ?_) (fun k' h1 h2 j hj => by rw [o _ (by omega) (by omega)]; exact W.2.2.2.2.2.2.2.1 k' h1 h2 j hj)
  · by_cases q : c = nc w
    · subst q
      have hrm : rm (newC w (nI s) (nI k)) (nc w) = s := by
        show ix (newC w (nI s) (nI k) (65 + 35 * nc w)) = s
        rw [nw_r]
        exact ix_n (by omega)
      have hms : ms (newC w (nI s) (nI k)) (nc w) = 0 := nw_ms h8
      have htw : tw (newC w (nI s) (nI k)) (nc w) = 8 := by
        unfold tw
        rw [nw_t, if_pos rfl]
      have hlk : lk (newC w (nI s) (nI k)) (nc w) = 0 := by
        show ix (newC w (nI s) (nI k) (68 + 35 * nc w)) = 0
        rw [nw_z (by omega) (by omega) (by omega)]
        rfl
      refine ⟨fun y hy => ?_, ⟨?_, by rw [hrm]; exact hV, by rw [hms]; exact Nat.zero_le _⟩, ⟨k, nw_b, hk⟩, ⟨0, ?_, by decide⟩, ⟨?_, by rw [hlk]; decide⟩, ?_, by rw [htw]; exact Or.inl rfl, by rw [htw]; omega⟩
      · have l0 : ly (newC w (nI s) (nI k)) (nc w) y = 0 := by
          show ix (newC w (nI s) (nI k) (70 + 35 * nc w + y)) = 0
          rw [nw_z (by omega) (by omega) (by omega)]
          rfl
        rw [l0, nw_z (by omega) (by omega) (by omega)]
        exact ⟨rfl, by decide⟩
      · rw [hrm]; exact nw_r
      · exact nw_z (by omega) (by omega) (by omega)
      · rw [hlk]; exact nw_z (by omega) (by omega) (by omega)
      · rw [htw]; exact nw_t
    · exact ((W.2.2.2.2.2.1 c (by omega)).kp fun j hj => o _ (by omega) (by omega)).up (by omega)
  · exact (W.2.2.2.2.2.2.1 k' hk').kp (fun j hj => o _ (by omega) (by omega)) (by rw [e0]; omega)
/-- w with one more house: need n, at c, limit l -/
def newH (w : Nat → Int32) (n c l : Nat) : Nat → Int32 := fun k => if k = 1 then w 1 + 1 else if 345 + 34 * nh w ≤ k ∧ k < 379 + 34 * nh w then (if k = 345 + 34 * nh w then nI n else if k = 346 + 34 * nh w then nI c else if k = 347 + 34 * nh w then nI l else 0) else w k
theorem nwh_o (hk : k ≠ 1) (e : ¬ (345 + 34 * nh w ≤ k ∧ k < 379 + 34 * nh w)) : newH w n c s k = w k := (if_neg hk).trans (if_neg e)
theorem nwh_1 : newH w n c s 1 = w 1 + 1 := if_pos rfl
theorem nwh_n : newH w n c s (345 + 34 * nh w) = nI n := by
  unfold newH
  rw [if_neg (by omega), if_pos (by omega), if_pos rfl]
theorem nwh_c : newH w n c s (346 + 34 * nh w) = nI c := by
  unfold newH
  rw [if_neg (by omega), if_pos (by omega), if_neg (by omega), if_pos rfl]
theorem nwh_l : newH w n c s (347 + 34 * nh w) = nI s := by
  unfold newH
  rw [if_neg (by omega), if_pos (by omega), if_neg (by omega), if_neg (by omega), if_pos rfl]
theorem nwh_z (h1 : 348 + 34 * nh w ≤ k) (h2 : k < 379 + 34 * nh w) : newH w n c s k = 0 := by
  unfold newH
  rw [if_neg (by omega), if_pos (by omega), if_neg (by omega), if_neg (by omega), if_neg (by omega)]
theorem WF.nwh (W : WF M w) (h8 : nh w < 8) (hn : n ≤ 99) (hc : c < nc w) (hs : s ≤ 99) : WF M (newH w n c s) := by
  have c8 := W.2.1.1
  have o : ∀ j, j ≠ 1 → (j < 345 + 34 * nh w ∨ 379 + 34 * nh w ≤ j) → newH w n c s j = w j := fun j h1 h2 => nwh_o h1 (by omega)
  have e0 : nc (newH w n c s) = nc w := congrArg ix (o 0 (by decide) (by omega))
  refine W.gen (N := nc w) (K := nh w + 1) (fun j h1 h2 => o j (by omega) (by omega)) (by rw [o 0 (by decide) (by omega)]; exact W.1.1) W.2.1.1 (Nat.le_refl _) (by rw [nwh_1, W.1.2.1, nI_1]) (by omega) (by omega) (fun j hj => o j (by omega) (by omega)) (fun y hy => by rw [o _ (by omega) (by omega)]; exact W.2.2.2.2.2.2.2.2.2 y hy) (fun c' hc' => (W.2.2.2.2.2.1 c' hc').kp fun j hj => o _ (by omega) (by omega)) (fun k hk => ?_) (fun k' h1 h2 j hj => by rw [o _ (by omega) (by omega)]; exact W.2.2.2.2.2.2.2.1 k' (by omega) h2 j hj)
  by_cases q : k = nh w
  · subst q
    have m0 : neH (newH w n c s) (nh w) = n := by
      show ix (newH w n c s (345 + 34 * nh w)) = n
      rw [nwh_n, ix_n (by omega)]
    have m1 : atH (newH w n c s) (nh w) = c := by
      show ix (newH w n c s (346 + 34 * nh w)) = c
      rw [nwh_c, ix_n (by omega)]
    exact ⟨⟨by rw [m0]; exact nwh_n, by rw [m0]; exact hn⟩, ⟨by rw [m1]; exact nwh_c, by rw [m1, e0]; exact hc⟩, s, nwh_l, hs⟩
  · exact (W.2.2.2.2.2.2.1 k (by omega)).kp (fun j hj => o _ (by omega) (by omega)) (by rw [e0]; exact Nat.le_refl _)
theorem WF.sat (W : WF M w) (hy : y < 30) (hs : s ≤ 99) : WF M (up1 w (35 + y) (nI s)) := by
  have o : ∀ j, j ≠ 35 + y → up1 w (35 + y) (nI s) j = w j := fun j h1 => up1_ne h1
  have e0 : nc (up1 w (35 + y) (nI s)) = nc w := congrArg ix (o 0 (by omega))
  have c8 := W.2.1.1
  have k8 := W.2.1.2.1
  refine W.gen (N := nc w) (K := nh w) (fun j h1 h2 => o j (by omega)) (by rw [o 0 (by omega)]; exact W.1.1) W.2.1.1 (Nat.le_refl _) (by rw [o 1 (by omega)]; exact W.1.2.1) W.2.1.2.1 (Nat.le_refl _) (fun j hj => o j (by omega)) (fun y' hy' => ?_) (fun c' hc' => (W.2.2.2.2.2.1 c' hc').kp fun j hj => o _ (by omega)) (fun k hk => (W.2.2.2.2.2.2.1 k hk).kp (fun j hj => o _ (by omega)) (by rw [e0]; exact Nat.le_refl _)) (fun k' h1 h2 j hj => by rw [o _ (by omega)]; exact W.2.2.2.2.2.2.2.1 k' h1 h2 j hj)
  by_cases q : y' = y
  · subst q; exact ⟨s, up1_eq, hs⟩
  · rw [o _ (by omega)]; exact W.2.2.2.2.2.2.2.2.2 y' hy'
/-- another leak -/
def lkW (w : Nat → Int32) (c n d : Nat) : Nat → Int32 := up1 (up1 w (68 + 35 * c) (nI n)) (69 + 35 * c) (tI d)
theorem WF.lkk (W : WF M w) (hc : c < nc w) (hn : n ≤ 99) (hd : d = 8 ∨ d < nc w) (ne : d ≠ c) : WF M (lkW w c n d) := by
  have o : ∀ j, j ≠ 68 + 35 * c → j ≠ 69 + 35 * c → lkW w c n d j = w j := fun j h1 h2 => (up1_ne h2).trans (up1_ne h1)
  have e0 : nc (lkW w c n d) = nc w := congrArg ix (o 0 (by omega) (by omega))
  have c8 := W.2.1.1
  have k8 := W.2.1.2.1
  refine W.gen (N := nc w) (K := nh w) (fun j h1 h2 => o j (by omega) (by omega)) (by rw [o 0 (by omega) (by omega)]; exact W.1.1) W.2.1.1 (Nat.le_refl _) (by rw [o 1 (by omega) (by omega)]; exact W.1.2.1) W.2.1.2.1 (Nat.le_refl _) (fun j hj => o j (by omega) (by omega)) (fun y' hy' => by rw [o _ (by omega) (by omega)]; exact W.2.2.2.2.2.2.2.2.2 y' hy') (fun c' hc' => ?_) (fun k hk => (W.2.2.2.2.2.2.1 k hk).kp (fun j hj => o _ (by omega) (by omega)) (by rw [e0]; exact Nat.le_refl _)) (fun k' h1 h2 j hj => by rw [o _ (by omega) (by omega)]; exact W.2.2.2.2.2.2.2.1 k' h1 h2 j hj)
  by_cases q : c' = c
  · subst q
    obtain ⟨O, ⟨R1, R2, R3⟩, K', Se, -, -, -, -⟩ := W.2.2.2.2.2.1 c' hc'
    have r1 : rm (lkW w c' n d) c' = rm w c' := congrArg ix (o _ (by omega) (by omega))
    have m1 : ms (lkW w c' n d) c' = ms w c' := ms_eq fun y hy => o _ (by omega) (by omega)
    have l1 : lkW w c' n d (68 + 35 * c') = nI n := by unfold lkW; rw [up1_ne (by omega), up1_eq]
    have t1 : lkW w c' n d (69 + 35 * c') = tI d := up1_eq
    have k1 : lk (lkW w c' n d) c' = n := by
      show ix (lkW w c' n d (68 + 35 * c')) = n
      rw [l1, ix_n (by omega)]
    have t2 : tw (lkW w c' n d) c' = d := by
      unfold tw
      rw [t1]
      unfold tI
      by_cases q8 : d < 8
      · rw [if_pos q8, if_neg (fun z => by
          have := neg_lt (n := d) (by omega)
          rw [z] at this
          exact Int32.lt_irrefl this), ix_n (by omega)]
      · rw [if_neg q8, if_pos rfl]; omega
    have ll : ∀ y, y < 30 → ly (lkW w c' n d) c' y = ly w c' y := fun y hy => congrArg ix (o _ (by omega) (by omega))
    refine ⟨fun y hy => ?_, ⟨by rw [r1, o _ (by omega) (by omega)]; exact R1, by rw [r1]; exact R2, by rw [r1, m1]; exact R3⟩, by rw [o _ (by omega) (by omega)]; exact K', by rw [o _ (by omega) (by omega)]; exact Se, ⟨by rw [k1]; exact l1, by rw [k1]; exact hn⟩, by rw [t2]; exact t1, by rw [t2]; exact hd, by rw [t2]; exact ne⟩
    rw [ll y hy, o _ (by omega) (by omega)]
    exact O y hy
  · exact (W.2.2.2.2.2.1 c' hc').kp fun j hj => o _ (by omega) (by omega)
end U67
