/-! ===== what a line of a land's text does to a Land of the class ===== -/
section U68
variable {h h' : Hp} {g g' g1 g2 G : Nat → Nat → Int32} {w w' : Nat → Int32} {b : Nat → Nat} {T p q n i j k m c s r d S M A a z B N K y : Nat} {v u x : Int32}
theorem C_setSalt (t : LDs h A) (R : RLa g A w) (B : WFb w) (hy : y < 30) : ∃ g', f_Land_setSalt (uI h g) A (nI y) v = some (uI h g') ∧ RLa g' A (up1 w (35 + y) v) ∧ FA A g g' := by
  obtain ⟨B1, B2, B3⟩ := B
  have st : ∀ g, hS (uI h g) A = 4 := fun g => t.1
  have r6 : ∀ g, hR (uI h g) A 6 = A + 4 := fun g => t.2.1.2.2.2.1
  have s6 : ∀ g, hS (uI h g) (A + 4) = 20 := fun g => t.2.2.2.2.2.1.1
  have l6 : ∀ g, hL (uI h g) (A + 4) = 30 := fun g => t.2.2.2.2.2.1.2
  obtain ⟨R1, R2, R3, R4, R5⟩ := R
  have fr : ∀ r, r ≠ A + 4 → up2 g (A + 4) y v r = g r := fun r hr => up_row hr
  have o : ∀ j, j ≠ 35 + y → up1 w (35 + y) v j = w j := fun j hj => up1_ne hj
  have n0 : nc (up1 w (35 + y) v) = nc w := congrArg ix (o 0 (by omega))
  have n1 : nh (up1 w (35 + y) v) = nh w := congrArg ix (o 1 (by omega))
  have n2 : nd (up1 w (35 + y) v) = nd w := congrArg ix (o 10 (by omega))
  refine ⟨up2 g (A + 4) y v, ?_, ⟨?_, fun c hc => ?_, fun k hk => ?_, fun d hd => ?_, fun y' hy' => ?_⟩, fun r hr => fr r (by omega)⟩
  · unfold f_Land_setSalt f_Land_setSalt_b0
    rw [if_neg (nI_pos (by omega)), if_neg (show ¬ (30 : Int32) ≤ nI y from nI_ge (b := 30) hy (by decide)), if_pos (st _), r6, if_pos (s6 _), l6, if_pos (ib_n hy (by decide)), ix_n (by omega), wr_s, sI_u]
  · unfold RLs
    rw [fr A (by omega), o 0 (by omega), o 1 (by omega), o 10 (by omega), o 2 (by omega), o 4 (by omega), o 5 (by omega), o 6 (by omega), o 7 (by omega), o 8 (by omega), o 9 (by omega)]
    exact R1
  · rw [n0] at hc
    obtain ⟨r1, r2, r3⟩ := R2 c hc
    refine ⟨fun j hj => by rw [fr _ (by omega), o _ (by omega)]; exact r1 j hj, fun y hy => by rw [fr _ (by omega), o _ (by omega)]; exact r2 y hy, ?_⟩
    rw [fr _ (by omega), r3]
    exact congrArg nI (ms_eq fun y hy => o _ (by omega)).symm
  · rw [n1] at hk
    obtain ⟨r1, r2⟩ := R3 k hk
    exact ⟨fun j hj => by rw [fr _ (by omega), o _ (by omega)]; exact r1 j hj, fun y hy => by rw [fr _ (by omega), o _ (by omega)]; exact r2 y hy⟩
  · rw [n2] at hd
    exact fun j hj => by rw [fr _ (by omega), o _ (by omega)]; exact R4 d hd j hj
  · by_cases q : y' = y
    · subst q; rw [up_eq, up1_eq]
    · rw [up_k q, o _ (by omega)]; exact R5 y' hy'
theorem has_1 (t : LDs h A) (e0 : g A 0 = nI n) (hn : n ≤ 8) (hc : c < n) : f_Land_hasCistern (uI h g) A (nI c) = some (1, uI h g) := by
  have := C_has (d := c) t e0 hn (Or.inr hc)
  rw [show tI c = nI c from if_pos (by omega), if_pos (show c < 8 by omega)] at this
  exact this
theorem C_setSealed (t : LDs h A) (R : RLa g A w) (W : WF M w) (hc : c < nc w) (hv : v = 0 ∨ v = 1) : ∃ g', f_Land_setSealed (uI h g) A (nI c) v = some (uI h g') ∧ RLa g' A (up1 w (67 + 35 * c) v) ∧ FA A g g' := by
  have c8 := W.2.1.1
  have st : ∀ g, hS (uI h g) A = 4 := fun g => t.1
  obtain ⟨a1, a2, a3, a4, a5⟩ := (t.iu (g := g)).cr (c := c) (by omega)
  refine ⟨_, ?_, R.sl W.2.1 hc, fun r hr => up_row (by omega)⟩
  unfold f_Land_setSealed f_Land_setSealed_b0
  rw [if_pos (st _), has_1 t (R.1.1.trans W.1.1) c8 hc, bI_s, if_neg (by decide), if_pos (st _), a3, if_pos a4, a5, if_pos (ib_n (by omega) (by decide)), ix_n (by omega), a1, if_pos a2, if_pos hv, wr_s, sI_u]
theorem C_setLeak (t : LDs h A) (R : RLa g A w) (W : WF M w) (hc : c < nc w) : ∃ g', f_Land_setLeak (uI h g) A (nI c) (tI d) (nI n) = some (uI h g') ∧ RLa g' A (lkW w c n d) ∧ FA A g g' := by
  have c8 := W.2.1.1
  have st : ∀ g, hS (uI h g) A = 4 := fun g => t.1
  obtain ⟨a1', a2', a3', a4', a5'⟩ := t.cr (c := c) (by omega)
  have a1 : ∀ g, hR (uI h g) (A + 1) c = A + 6 + 2 * c := fun g => a1'
  have a2 : ∀ g, hS (uI h g) (A + 6 + 2 * c) = 1 := fun g => a2'
  have a3 : ∀ g, hR (uI h g) A 3 = A + 1 := fun g => a3'
  have a4 : ∀ g, hS (uI h g) (A + 1) = 23 := fun g => a4'
  have a5 : ∀ g, hL (uI h g) (A + 1) = 8 := fun g => a5'
  obtain ⟨r1, r2, r3⟩ := R.2.1 c hc
  refine ⟨up2 (up2 g (A + 6 + 2 * c) 3 (nI n)) (A + 6 + 2 * c) 4 (tI d), ?_, R.cis W.2.1 hc (fun r _ _ h1 _ _ => by rw [up_row h1, up_row h1]) (fun k hk => by unfold lkW; rw [up1_ne (by omega), up1_ne (by omega)]) ⟨fun j hj => ?_, fun y hy => ?_, ?_⟩, fun r hr => by rw [up_row (by omega), up_row (by omega)]⟩
  · unfold f_Land_setLeak f_Land_setLeak_b0
    rw [if_pos (st _), has_1 t (R.1.1.trans W.1.1) c8 hc, bI_s, if_neg (by decide), if_pos (st _), a3, if_pos (a4 _), a5, if_pos (ib_n (by omega) (by decide)), ix_n (by omega), a1, if_pos (a2 _), wr_s, sI_u, a3, if_pos (a4 _), a5, if_pos (ib_n (by omega) (by decide)), a1, if_pos (a2 _), wr_s, sI_u]
  · unfold lkW
    by_cases q4 : j = 4
    · subst q4
      rw [up_eq, show 65 + 35 * c + 4 = 69 + 35 * c from by omega, up1_eq]
    · by_cases q3 : j = 3
      · subst q3
        rw [up_k (by decide), up_eq, show 65 + 35 * c + 3 = 68 + 35 * c from by omega, up1_ne (by omega), up1_eq]
      · rw [up_k q4, up_k q3, up1_ne (by omega), up1_ne (by omega)]
        exact r1 j hj
  · unfold lkW
    rw [up_row (by omega), up_row (by omega), up1_ne (by omega), up1_ne (by omega)]
    exact r2 y hy
  · rw [up_k (by decide), up_k (by decide), r3]
    refine congrArg nI (ms_eq fun y hy => ?_).symm
    unfold lkW
    rw [up1_ne (by omega), up1_ne (by omega)]
theorem C_pour (t : LDs h A) (R : RLa g A w) (W : WF M w) (hc : c < nc w) (hy : y < 30) (hn : n ≤ 999) : ∃ g', f_Land_pour (uI h g) A (nI n) (nI y) (nI c) = some (uI h g') ∧ RLa g' A (poW w c y n) ∧ FA A g g' := by
  have c8 := W.2.1.1
  have st : ∀ g, hS (uI h g) A = 4 := fun g => t.1
  obtain ⟨a1', a2', a3', a4', a5'⟩ := t.cr (c := c) (by omega)
  have a1 : ∀ g, hR (uI h g) (A + 1) c = A + 6 + 2 * c := fun g => a1'
  have a2 : ∀ g, hS (uI h g) (A + 6 + 2 * c) = 1 := fun g => a2'
  have a3 : ∀ g, hR (uI h g) A 3 = A + 1 := fun g => a3'
  have a4 : ∀ g, hS (uI h g) (A + 1) = 23 := fun g => a4'
  have a5 : ∀ g, hL (uI h g) (A + 1) = 8 := fun g => a5'
  have Wc := W.2.2.2.2.2.1 c hc
  have O := Wc.1
  have rr := W.room hc
  have r9 := Wc.2.1
  have F : ftW w c n = min n (rm w c - ms w c) := if_pos (by omega)
  have wP : ∀ k, poW w c y n k = up1 (up1 (gvW w c y (ftW w c n)) 7 (w 7 + nI (n - ftW w c n))) 8 (w 8 + nI n) k := fun k => by
    unfold poW
    rw [if_pos (show c < 8 by omega)]
  -- all that is poured
  have W1 : WF M (up1 w 8 (w 8 + nI n)) := W.s9 (by omega)
  have n1 : nc (up1 w 8 (w 8 + nI n)) = nc w := congrArg ix (up1_ne (by decide))
  have e8 : g A 14 = w 8 := R.1.2.2.2.2.2.2.2.2.1
  have R1 : RLa (up2 g A 14 (w 8 + nI n)) A (up1 w 8 (w 8 + nI n)) := R.s1 W.2.1 (by omega)
  obtain ⟨q1, q2, q3⟩ := R1.2.1 c (by rw [n1]; exact hc)
  have q0 := q1 0 (by decide)
  have rm1 : rm (up1 w 8 (w 8 + nI n)) c = rm w c := congrArg ix (up1_ne (by omega))
  have ms1 : ms (up1 w 8 (w 8 + nI n)) c = ms w c := ms_eq fun y hy => up1_ne (by omega)
  have ly1 : ly (up1 w 8 (w 8 + nI n)) c y = ly w c y := congrArg ix (up1_ne (by omega))
  have fr := C_free (q := rm w c) (m := ms w c) (t.cs (c := c) (by omega)) (g := up2 g A 14 (w 8 + nI n)) (by
    rw [q0, Nat.add_zero, up1_ne (by omega)]; exact r9.1) (by rw [q3, ms1]) (by omega) (by omega)
  have go : f_Land_pour (uI h g) A (nI n) (nI y) (nI c) = f_Land_pour_b35 (uI h (up2 g A 14 (w 8 + nI n))) A (nI n) (nI y) (nI c) (nI (ftW w c n)) := by
    unfold f_Land_pour f_Land_pour_b0
    rw [if_pos (st _), hI_u, e8, wr_s, sI_u, has_1 t (R1.1.1.trans (by rw [up1_ne (by decide)]; exact W.1.1)) c8 hc, bI_s, if_neg (by decide), if_pos (st _), a3, if_pos (a4 _), a5, if_pos (ib_n (by omega) (by decide)), ix_n (by omega), a1, if_pos (a2 _), fr, bI_s, mn_n (by omega) (by omega), bI_s, F]
  have b54 : ∀ G : Nat → Nat → Int32, G A 13 = w 7 → f_Land_pour_b54 (uI h G) A (nI n) (nI (ftW w c n)) = some (uI h (up2 G A 13 (w 7 + nI (n - ftW w c n)))) := fun G e => by
    unfold f_Land_pour_b54
    rw [if_pos (st _), hI_u, e, pk_sub (by rw [F]; omega), wr_s, sI_u]
  have e7 : g A 13 = w 7 := R.1.2.2.2.2.2.2.2.1
  rw [go]
  unfold f_Land_pour_b35
  by_cases f0 : ftW w c n = 0
  · rw [f0, if_pos (show nI 0 ≤ 0 by decide), ← f0, b54 _ (by rw [up_k (by decide)]; exact e7)]
    have W1b : WFb (up1 w 8 (w 8 + nI n)) := W1.2.1
    have R2 := R1.s1 (k := 7) (v := w 7 + nI (n - ftW w c n)) W1b (by omega)
    refine ⟨_, rfl, R2.cg (W1.s9 (k := 7) (by omega)).2.1 fun k hk => ?_, fun r hr => by rw [up_row (by omega), up_row (by omega)]⟩
    rw [wP, f0]
    by_cases k8 : k = 8
    · subst k8; rw [up1_eq, up1_ne (by decide), up1_eq]
    · by_cases k7 : k = 7
      · subst k7; rw [up1_ne (by decide), up1_eq, up1_eq]
      · rw [up1_ne k8, up1_ne k7, up1_ne k7, up1_ne k8]
        unfold gvW
        by_cases ky : k = 70 + 35 * c + y
        · rw [ky, up1_eq, Nat.add_zero]; exact (O y hy).1.symm
        · rw [up1_ne ky]
  · have R2 := R1.give (c := c) (y := y) (s := ftW w c n) W1.2.1 (by rw [n1]; exact hc) (W1.okl (by rw [n1]; exact hc)) hy (by rw [F]; omega)
    have W2 : WFb (gvW (up1 w 8 (w 8 + nI n)) c y (ftW w c n)) := by
      have W3 : WF M (gvW (up1 w 8 (w 8 + nI n)) c y (ftW w c n)) := W1.gv (by rw [n1]; exact hc) hy (by rw [ms1, rm1, F]; omega)
      exact W3.2.1
    have R3 := R2.s1 (k := 7) (v := w 7 + nI (n - ftW w c n)) W2 (by omega)
    have fe : pt (up2 g A 14 (w 8 + nI n)) (A + 6 + 2 * c) y (nI (ftW w c n)) A 13 = w 7 := by
      unfold pt
      rw [up_r (by omega), up_r (by omega), up_k (by decide)]
      exact e7
    rw [if_neg (nI_nle (by omega) (by rw [F]; omega)), if_pos (st _), a3, if_pos (a4 _), a5, if_pos (ib_n (by omega) (by decide)), ix_n (by omega), a1, if_pos (a2 _), C_put (t.cs (c := c) (by omega)) hy, bV_s, b54 _ fe]
    refine ⟨_, rfl, R3.cg ?_ fun k hk => ?_, fun r hr => ?_⟩
    · obtain ⟨x1, x2, x3⟩ := W2
      have s0 : ∀ j, j < 5 ∨ j = 10 → up1 (gvW (up1 w 8 (w 8 + nI n)) c y (ftW w c n)) 7 (w 7 + nI (n - ftW w c n)) j = gvW (up1 w 8 (w 8 + nI n)) c y (ftW w c n) j := fun j hj => up1_ne (by omega)
      have m0 : nc (up1 (gvW (up1 w 8 (w 8 + nI n)) c y (ftW w c n)) 7 (w 7 + nI (n - ftW w c n))) = nc (gvW (up1 w 8 (w 8 + nI n)) c y (ftW w c n)) := congrArg ix (s0 0 (by omega))
      have m1 : nh (up1 (gvW (up1 w 8 (w 8 + nI n)) c y (ftW w c n)) 7 (w 7 + nI (n - ftW w c n))) = nh (gvW (up1 w 8 (w 8 + nI n)) c y (ftW w c n)) := congrArg ix (s0 1 (by omega))
      have m2 : nd (up1 (gvW (up1 w 8 (w 8 + nI n)) c y (ftW w c n)) 7 (w 7 + nI (n - ftW w c n))) = nd (gvW (up1 w 8 (w 8 + nI n)) c y (ftW w c n)) := congrArg ix (s0 10 (by omega))
      exact ⟨by rw [m0]; exact x1, by rw [m1]; exact x2, by rw [m2]; exact x3⟩
    · rw [wP]
      unfold gvW
      rw [ly1]
      by_cases k8 : k = 8
      · subst k8; rw [up1_eq, up1_ne (by decide), up1_ne (by omega), up1_eq]
      · by_cases k7 : k = 7
        · subst k7; rw [up1_ne (by decide), up1_eq, up1_eq]
        · rw [up1_ne k8, up1_ne k7, up1_ne k7]
          by_cases ky : k = 70 + 35 * c + y
          · rw [ky, up1_eq, up1_eq]
          · rw [up1_ne ky, up1_ne ky, up1_ne k8]
    · unfold pt
      rw [up_row (by omega), up_row (by omega), up_row (by omega), up_row (by omega)]
end U68
