/-! ===== lasts, worst ===== -/
section U37
variable {h h1 h0 : Hp} {g g' g1 g2 g0 : Nat → Nat → Int32} {w w' w0 u : Nat → Int32} {A B L S c d k n l y j m q s i r z E N M M' o T R : Nat} {v x a b p1 p2 p3 p4 p5 : Int32} {Q : Nat → Nat → Int32}
theorem month_eq (W : WF M w) (hM : M < 2 ^ 30) : ∀ k, 617 ≤ k ∨ k = 1 → monthW w k = w k := by
  intro k hk
  have W1 := W.leaks
  have n1 : nh (leaksW w (nc w)) = nh w := (leaks_co W.2.1.1).nh
  have D := dms_wf W1 (nh w) (by rw [n1]; exact Nat.le_refl _)
  have W2 := D.1.tick hM
  have e1 : dmsW (leaksW w (nc w)) (nh w) k = w k := ((leaks_co W.2.1.1).tr D.2) k (by omega) (by omega) (by omega)
  have e2 : tickW (dmsW (leaksW w (nc w)) (nh w)) k = w k := (up1_ne (by omega)).trans e1
  unfold monthW endW
  split
  · exact ((frost_wf W2).2 k (by omega) (by omega) (by omega)).trans e2
  · exact e2
/-- quiet months, of j: how many; the world then; who is thirsty -/
def qk : (Nat → Int32) → Nat → Nat
  | _, 0 => 0
  | w, j + 1 => if thirstW w = 0 then qk (monthW w) j + 1 else 0
def qe : (Nat → Int32) → Nat → (Nat → Int32)
  | w, 0 => w
  | w, j + 1 => if thirstW w = 0 then qe (monthW w) j else monthW w
def qy : (Nat → Int32) → Nat → Int32
  | _, 0 => -1
  | w, j + 1 => if thirstW w = 0 then qy (monthW w) j else thirstyW w
theorem qk_le : ∀ {j : Nat} {w : Nat → Int32}, qk w j ≤ j := by
  intro j
  induction j with
  | zero => intro w; exact Nat.le_refl _
  | succ j ih =>
    intro w
    unfold qk
    split
    · exact Nat.succ_le_succ ih
    · exact Nat.zero_le _
theorem qe_hi : ∀ (j : Nat) {M : Nat} {w : Nat → Int32}, WF M w → M + j < 2 ^ 30 → ∀ k, 617 ≤ k → qe w j k = w k := by
  intro j
  induction j with
  | zero => intro M w _ _ k _; rfl
  | succ j ih =>
    intro M w W hM k hk
    have e := month_eq W (by omega) k (Or.inl hk)
    unfold qe
    split
    · exact (ih (W.month (by omega)) (by omega) k hk).trans e
    · exact e
theorem th_le (W : WF M w) : thirstW w < 2 ^ 31 := by
  have h := lcs_le W.leaks (nh w) (by rw [(leaks_co W.2.1.1).nh]; exact Nat.le_refl _)
  have := W.2.1.2.1
  unfold thirstW
  omega
theorem C_quiet_L (t : LDs h A) (hA : 6 ≤ A) (hA2 : A + 45 ≤ 765) (hM : M + n < 2 ^ 30) : ∀ (j i : Nat) (g : Nat → Nat → Int32) (w : Nat → Int32), i + j = n → HELD (M + i) h g A w → ∀ q, ∃ g', f_Land_passQuietMonths_L2 (q + j + 1) (uI h g) A (nI n) (nI i) = some (nI (i + qk w j), uI h g') ∧ FH h A g g' ∧ (qk w j < j → f_Land_firstThirsty (uI h g') A = some (qy w j, uI h g')) := by
  have s4 : ∀ g, hS (uI h g) A = 4 := fun g => t.1
  intro j
  induction j with
  | zero =>
    intro i g w hi H q
    have hi' : i = n := hi
    subst hi'
    refine ⟨g, ?_, fun _ _ _ => rfl, fun z => absurd z (Nat.not_lt_zero _)⟩
    show f_Land_passQuietMonths_b2 (f_Land_passQuietMonths_L2 q) (uI h g) A (nI i) (nI i) = _
    unfold f_Land_passQuietMonths_b2
    rw [if_pos (Int32.le_refl _)]
    rfl
  | succ j ih =>
    intro i g w hi H q
    obtain ⟨W, R, Lr⟩ := H
    obtain ⟨g1, q1, q2, q3, q4, q5⟩ := C_month t hA hA2 W (by omega) R Lr
    have E : f_Land_passQuietMonths_L2 (q + (j + 1) + 1) (uI h g) A (nI n) (nI i) = f_Land_passQuietMonths_b2 (f_Land_passQuietMonths_L2 (q + j + 1)) (uI h g) A (nI n) (nI i) := rfl
    rw [E]
    unfold f_Land_passQuietMonths_b2
    rw [if_neg (nI_ge (by omega) (by omega)), if_pos (s4 _), q1, bI_s]
    by_cases e : thirstW w = 0
    · have k1 : qk w (j + 1) = qk (monthW w) j + 1 := if_pos e
      have k2 : qy w (j + 1) = qy (monthW w) j := if_pos e
      rw [if_pos (show nI (thirstW w) ≤ 0 by rw [e]; decide), nI_1]
      obtain ⟨g', z1, z2, z3⟩ := ih (i + 1) g1 (monthW w) (by omega) ⟨W.month (by omega), q2, q3⟩ q
      refine ⟨g', ?_, q5.tr z2, fun hq => ?_⟩
      · rw [z1, k1]
        exact congrArg (fun u => some (nI u, uI h g')) (by omega)
      · rw [k2]; exact z3 (by omega)
    · have k1 : qk w (j + 1) = 0 := if_neg e
      have k2 : qy w (j + 1) = thirstyW w := if_neg e
      rw [if_neg (nI_nle (by omega) (th_le W))]
      refine ⟨g1, by rw [k1]; rfl, q5, fun _ => ?_⟩
      rw [k2]
      refine C_thirsty (N := nh w) t (q2.1.2.1.trans ((month_eq W (by omega) 1 (Or.inr rfl)).trans W.1.2.1)) W.2.1.2.1 fun i hi => ⟨q4 i hi, lc_le W.leaks (by rw [(leaks_co W.2.1.1).nh]; exact hi)⟩
theorem C_quiet (t : LDs h A) (hA : 6 ≤ A) (hA2 : A + 45 ≤ 765) (hM : M + n < 2 ^ 30) (hn : n ≤ 60) (H : HELD M h g A w) : ∃ g', f_Land_passQuietMonths (uI h g) A (nI n) = some (nI (qk w n), uI h g') ∧ FH h A g g' ∧ (qk w n < n → f_Land_firstThirsty (uI h g') A = some (qy w n, uI h g')) := by
  obtain ⟨g', z1, z2, z3⟩ := C_quiet_L t hA hA2 hM n 0 g w (by omega) H (999999 - n)
  rw [Nat.zero_add] at z1
  refine ⟨g', ?_, z2, z3⟩
  unfold f_Land_passQuietMonths f_Land_passQuietMonths_b0
  rw [FU_mm (k := n) (by omega)]
  exact z1
theorem N_lasts_L (t : TSr h) : ∀ (j i : Nat) (g : Nat → Nat → Int32) (M : Nat), i + j = 60 → WF M (g 756) → M + j < 2 ^ 30 → ∀ q, ∃ g', f_Model_lastsNow_L6 (q + j + 1) (uI h g) 755 (nI i) = f_Model_lastsNow_b25 (uI h g') 755 (nI (i + qk (g 756) j)) ∧ g' 756 = qe (g 756) j ∧ (qk (g 756) j < j → g' 755 18 = qy (g 756) j) ∧ FM g g' := by
  have s7 : ∀ g, hS (uI h g) 755 = 11 := fun g => (t.iu (g := g)).1
  intro j
  induction j with
  | zero =>
    intro i g M hi W hM q
    have hi' : i = 60 := hi
    subst hi'
    refine ⟨g, ?_, rfl, fun z => absurd z (Nat.not_lt_zero _), ⟨fun _ _ _ _ => rfl, fun _ _ => rfl⟩⟩
    show f_Model_lastsNow_b6 (f_Model_lastsNow_L6 q) (uI h g) 755 (nI 60) = _
    unfold f_Model_lastsNow_b6
    rw [if_pos (show (60 : Int32) ≤ nI 60 by decide)]
    rfl
  | succ j ih =>
    intro i g M hi W hM q
    obtain ⟨g1, q1, q2, q3, q4⟩ := N_month t W (by omega)
    have E : f_Model_lastsNow_L6 (q + (j + 1) + 1) (uI h g) 755 (nI i) = f_Model_lastsNow_b6 (f_Model_lastsNow_L6 (q + j + 1)) (uI h g) 755 (nI i) := rfl
    rw [E]
    unfold f_Model_lastsNow_b6
    rw [if_neg (show ¬ (60 : Int32) ≤ nI i from nI_ge (b := 60) (by omega) (by decide)), if_pos (s7 _), q1, bI_s]
    by_cases e : thirstW (g 756) = 0
    · have k1 : qk (g 756) (j + 1) = qk (monthW (g 756)) j + 1 := if_pos e
      have k2 : qy (g 756) (j + 1) = qy (monthW (g 756)) j := if_pos e
      have k3 : qe (g 756) (j + 1) = qe (monthW (g 756)) j := if_pos e
      rw [if_pos (show nI (thirstW (g 756)) = 0 by rw [e]; rfl), nI_1]
      obtain ⟨g', z1, z2, z3, z4⟩ := ih (i + 1) g1 (M + 1) (by omega) (by rw [q2]; exact W.month (by omega)) (by omega) q
      rw [q2] at z1 z2 z3
      refine ⟨g', ?_, z2.trans k3.symm, fun hq => ?_, ⟨fun r h1 h2 h3 => (z4.1 r h1 h2 h3).trans (q4.1 r h1 h2 h3), fun j hj => (z4.2 j hj).trans (q4.2 j hj)⟩⟩
      · rw [z1, k1]
        exact congrArg (fun u => f_Model_lastsNow_b25 (uI h g') 755 (nI u)) (by omega)
      · rw [k2]; exact z3 (by omega)
    · have k1 : qk (g 756) (j + 1) = 0 := if_neg e
      have k2 : qy (g 756) (j + 1) = thirstyW (g 756) := if_neg e
      have k3 : qe (g 756) (j + 1) = monthW (g 756) := if_neg e
      rw [if_neg (nI_ne0 (by omega) (th_le W))]
      exact ⟨g1, by rw [k1]; rfl, q2.trans k3.symm, fun _ => q3.trans k2.symm, q4⟩
/-- kept, worked on, and laid back: the same world -/
theorem lay_eq (x : ∀ k, k < 617 → g 759 k = w k) (y : ∀ k, 617 ≤ k → g 756 k = w k) : cpg g 759 756 617 756 = w := funext fun k => by
  by_cases e : k < 617
  · rw [cpg_k e]; exact x k e
  · exact (if_pos rfl).trans ((if_neg e).trans (y k (by omega)))
theorem N_lastsNow (t : TSr h) (W : WF M (g 756)) (hM : M + 60 < 2 ^ 30) : ∃ G, f_Model_lastsNow (uI h g) 755 = some (nI (qk (g 756) 60), uI h G) ∧ G 756 = g 756 ∧ G 755 18 = (if qk (g 756) 60 = 60 then -1 else qy (g 756) 60) ∧ (∀ r, r ≠ 755 → r ≠ 756 → r ≠ 759 → r ≠ 763 → G r = g r) ∧ ∀ j, j ≠ 18 → G 755 j = g 755 j := by
  have s7 : ∀ g, hS (uI h g) 755 = 11 := fun g => t.1
  have k6 : cpg g 756 759 617 756 = g 756 := cpg_r (by decide)
  obtain ⟨g1, q1, q2, q3, q4⟩ := N_lasts_L t 60 0 (cpg g 756 759 617) M rfl (by rw [k6]; exact W) hM 999939
  rw [k6] at q1 q2 q3
  rw [Nat.zero_add] at q1
  have kk : ∀ k, k < 617 → g1 759 k = g 756 k := fun k hk => by rw [q4.1 759 (by decide) (by decide) (by decide), cpg_k hk]
  have hh : ∀ k, 617 ≤ k → g1 756 k = g 756 k := fun k hk => by rw [q2]; exact qe_hi 60 W hM k hk
  have fr : ∀ r, r ≠ 755 → r ≠ 756 → r ≠ 759 → r ≠ 763 → g1 r = g r := fun r a b c d => (q4.1 r a b d).trans (cpg_r c)
  have f5 : ∀ j, j ≠ 18 → g1 755 j = g 755 j := fun j hj => (q4.2 j hj).trans (by rw [cpg_r (by decide)])
  have le := qk_le (j := 60) (w := g 756)
  unfold f_Model_lastsNow f_Model_lastsNow_b0
  rw [if_pos (s7 _), M_keeps (h := uI h g) t, bV_s, cp_g]
  show ∃ G, f_Model_lastsNow_L6 (999939 + 60 + 1) (uI h (cpg g 756 759 617)) 755 (nI 0) = _ ∧ _
  rw [q1]
  unfold f_Model_lastsNow_b25 f_Model_lastsNow_b36
  by_cases e : qk (g 756) 60 = 60
  · rw [if_pos (show nI (qk (g 756) 60) = (60 : Int32) by rw [e]; rfl), if_pos (s7 _), wr_s, sI_u, if_pos (s7 _), M_laysBack (h := uI h (up2 g1 755 18 (-1))) t, bV_s, cp_g]
    refine ⟨_, rfl, lay_eq (fun k hk => by rw [up_r (by decide)]; exact kk k hk) (fun k hk => by rw [up_r (by decide)]; exact hh k hk), ?_, fun r a b c d => ?_, fun j hj => ?_⟩
    · rw [if_pos e, cpg_r (by decide), up_eq]
    · rw [cpg_r b, up_row a]; exact fr r a b c d
    · rw [cpg_r (by decide), up_k hj]; exact f5 j hj
  · rw [if_neg (show ¬ nI (qk (g 756) 60) = (60 : Int32) from fun z => e ((nI_eq (b := 60) (by omega) (by decide)).mp z)), if_pos (s7 _), M_laysBack (h := uI h g1) t, bV_s, cp_g]
    refine ⟨_, rfl, lay_eq kk hh, ?_, fun r a b c d => ?_, fun j hj => ?_⟩
    · rw [if_neg e, cpg_r (by decide)]; exact q3 (by omega)
    · rw [cpg_r b]; exact fr r a b c d
    · rw [cpg_r (by decide)]; exact f5 j hj
/-- a trial Land has been given the present and worked on -/
theorem FZ.r8 (x : FZ h g g') (hA9 : A ≤ 765) : FZ (sR h A 8 n) g g' := fun r hr hs => x r hr fun ⟨L, S, h1, h2, h3⟩ => hs ⟨L, S, h1, h2.r8 h1 hA9, h3⟩
theorem INV.tr (I : INV M h g) (hc : c = 13 ∨ c = 14) (hn : n + 5 ≤ hN h) (z : FZ h g g') (y : ∀ r, r ≤ 765 → (r < la c ∨ la c + 45 < r) → r ≠ 755 → r ≠ 758 → r ≠ 759 → r ≠ 762 → r ≠ 763 → r ≠ 764 → r ≠ 754 → r ≠ 753 → g' r = g r) (yj : ∀ j, j = 6 ∨ j = 7 ∨ j = 9 ∨ j = 14 → g' 755 j = g 755 j) : INV M (sR h (la c) 8 n) g' := by
  have zz : FZ (sR h (la c) 8 n) g g' := z.r8 (by unfold la; omega)
  have Rs := I.2.2.r8 (c := c) (n := n) (by omega) (by omega) hn
  have H := I.2.1.r8 (A := 569) (B := la c) (n := n) (by unfold la; omega) (by unfold la; omega)
  have t1 := I.1.sR8 (c := c) (n := n) (by omega)
  have lc : la c = 615 ∨ la c = 661 := by unfold la; omega
  have X : ∀ r, (r < 569 ∨ (569 ≤ r ∧ r < 615) ∨ (707 ≤ r ∧ r < 753) ∨ r = 756 ∨ r = 757 ∨ r = 760 ∨ r = 761) → g' r = g r := fun r hr => y r (by omega) (by omega) (by omega) (by omega) (by omega) (by omega) (by omega) (by omega) (by omega) (by omega)
  obtain ⟨T1, e1, e2, -⟩ := I.2.2.2.2.1
  refine ⟨t1, ?_, Rs.fr (Nat.le_refl _) (fun r hr => by unfold KPT at hr; exact X r (by omega)) (by rw [X 1 (by omega)]) ?_ (yj 6 (by omega)) (yj 7 (by omega)) ?_ (Or.inl (by rw [X 2 (by omega)])) zz⟩
  · rw [X 756 (by omega)]
    exact H.fz zz fun r h1 h2 _ => X r (by omega)
  · rw [X 1 (by omega), yj 14 (by omega)]; exact I.2.2.2.2.2.1
  · rw [yj 9 (by omega), X 2 (by omega), e1, e2]
theorem la13 : la 13 = 615 := rfl
/-- the trial Land holds the present -/
theorem C_trial (I : INV M h g) : ∃ g1, f_Land_copyFrom (uI h g) 615 569 = some (uI (sR h 615 8 (hR h 569 8)) g1) ∧ TS (sR h 615 8 (hR h 569 8)) ∧ HELD M (sR h 615 8 (hR h 569 8)) g1 615 (g 756) ∧ FA 615 g g1 ∧ INV M (sR h 615 8 (hR h 569 8)) g1 := by
  obtain ⟨t, W, R, Lr, -⟩ := I.us
  have d13 := t.ld (c := 13) (by decide)
  rw [la13] at d13
  obtain ⟨g1, q1, q2, q3, q4⟩ := C_copy (A := 615) (B := 569) (g := g) d13 t.l9 (Or.inr (by decide)) (by decide) (by decide) W R Lr
  refine ⟨g1, q1, t.sR8 (c := 13) (by decide), ⟨W, q2, q3⟩, q4, I.tr (c := 13) (Or.inl rfl) (I.2.2.2.2.2.2.1 12 (by decide)) (q4.fz (by decide)) (fun r h1 h2 _ _ _ _ _ _ _ _ => q4 r (by rw [la13] at h2; exact h2)) (fun j _ => by rw [q4 755 (by omega)])⟩
/-- worked on, the trial Land: it is still what it was -/
theorem INV.ft (I : INV M h g) (Lr : LR h g 615 w) (x : FH h 615 g g') : INV M h g' := by
  have X : ∀ r, r ≤ 765 → (r < 615 ∨ 660 < r) → g' r = g r := fun r h1 h2 => x r (by omega) fun q => by omega
  obtain ⟨T1, e1, e2, -⟩ := I.2.2.2.2.1
  have z := x.fz Lr (by decide)
  refine ⟨I.1, ?_, I.2.2.fr (Nat.le_refl _) (fun r hr => by unfold KPT at hr; exact X r (by omega) (by omega)) (by rw [X 1 (by decide) (by omega)]) ?_ (by rw [X 755 (by decide) (by omega)]) (by rw [X 755 (by decide) (by omega)]) ?_ (Or.inl (by rw [X 2 (by decide) (by omega)])) z⟩
  · rw [X 756 (by decide) (by omega)]
    exact I.2.1.fz z fun r h1 h2 _ => X r (by omega) (by omega)
  · rw [X 1 (by decide) (by omega), X 755 (by decide) (by omega)]; exact I.2.2.2.2.2.1
  · rw [X 755 (by decide) (by omega), X 2 (by decide) (by omega), e1, e2]
/-- the reference's work leaves its world -/
theorem INV.nw (I : INV M h g) (e : g' 756 = g 756) (x : ∀ r, r ≠ 755 → r ≠ 756 → r ≠ 758 → r ≠ 759 → r ≠ 762 → r ≠ 763 → r ≠ 764 → g' r = g r) (yj : ∀ j, j = 6 ∨ j = 7 ∨ j = 9 ∨ j = 14 → g' 755 j = g 755 j) : INV M h g' :=
  I.ref ⟨fun r h1 h2 h3 h4 h5 h6 => by
    by_cases q : r = 756
    · subst q; exact e
    · exact x r h1 q h2 h3 h4 h5 h6, yj⟩
theorem sp_lasts (hM : M + 60 < 2 ^ 30) : VSp M (fun H => f_Water_lasts H 1) (fun H => f_Model_lasts H 755) := by
  intro H I
  obtain ⟨h, g, rfl⟩ : ∃ h g, H = uI h g := ⟨H, hI H, rfl⟩
  have I : INV M h g := I
  obtain ⟨t, W, -⟩ := I.us
  obtain ⟨⟨w1, -, -, -, -, w5, w6, -⟩, -, -⟩ := WTR (g := g) t
  obtain ⟨g1, q1, t1, H1, q4, I1⟩ := C_trial I
  have d13 := t1.ld (c := 13) (by decide)
  rw [la13] at d13
  obtain ⟨g2, z1, z2, -⟩ := C_quiet (A := 615) (n := 60) (g := g1) d13 (by decide) (by decide) hM (Nat.le_refl _) H1
  have X : ∀ r, r ≤ 765 → (r < 615 ∨ 660 < r) → g2 r = g r := fun r a b => (z2 r (by omega) fun q => by omega).trans (q4 r (by omega))
  have I2 := I1.ft H1.2.2 z2
  have e6 : up2 g2 755 0 0 756 = g 756 := (up_row (by decide)).trans (X 756 (by decide) (by omega))
  obtain ⟨G, a1, a2, a3, a4, a5⟩ := N_lastsNow (h := sR h 615 8 (hR h 569 8)) (g := up2 g2 755 0 0) (M := M) t1.td.1 (by rw [e6]; exact W) hM
  rw [e6] at a1
  refine cl_v (h := h) (g := g) (fw := fun H => f_Water_lasts H 1) (fm := fun H => f_Model_lasts H 755) (h1 := sR h 615 8 (hR h 569 8)) (g1 := g2) (g2 := G) (v := nI (qk (g 756) 60)) ?_ t1 ?_ ?_ (by show hN h ≤ hN h + 1170; omega) (by show hZ h ≤ hZ h + 14000; omega)
  · show f_Water_lasts_b0 (uI h g) 1 = _
    unfold f_Water_lasts_b0
    rw [if_pos w1, w6, if_pos (show hS (uI h g) 615 = 4 from (t.ld (c := 13) (by decide)).1), w5, q1, bV_s, if_pos (show hS (uI (sR h 615 8 (hR h 569 8)) g1) 1 = 10 from t1.td.2.1.1), show hR (uI (sR h 615 8 (hR h 569 8)) g1) 1 5 = 615 from w6, if_pos (show hS (uI (sR h 615 8 (hR h 569 8)) g1) 615 = 4 from d13.1), show (60 : Int32) = nI 60 from rfl, z1, bI_s]
  · show f_Model_lasts_b0 (uI (sR h 615 8 (hR h 569 8)) g2) 755 = _
    unfold f_Model_lasts_b0
    rw [if_pos (show hS (uI (sR h 615 8 (hR h 569 8)) g2) 755 = 11 from t1.td.1.1), wr_s, sI_u, a1, bI_s]
  · exact (I2.nw (g' := G) (by rw [a2, up_row (by decide)]) (fun r h1 h2 h3 h4 h5 h6 h7 => by rw [a4 r h1 h2 h4 h6, up_row h1]) (fun j hj => by rw [a5 j (by omega), up_k (by omega)])).mono (by omega)
theorem sp_worst (hM : M + 60 < 2 ^ 30) : VSp M (fun H => f_Water_worst H 1) (fun H => f_Model_worst H 755) := by
  intro H I
  obtain ⟨h, g, rfl⟩ : ∃ h g, H = uI h g := ⟨H, hI H, rfl⟩
  have I : INV M h g := I
  obtain ⟨t, W, -⟩ := I.us
  obtain ⟨⟨w1, -, -, -, -, w5, w6, -⟩, -, -⟩ := WTR (g := g) t
  obtain ⟨g1, q1, t1, H1, q4, I1⟩ := C_trial I
  have d13 := t1.ld (c := 13) (by decide)
  rw [la13] at d13
  obtain ⟨g2, z1, z2, z3⟩ := C_quiet (A := 615) (n := 60) (g := g1) d13 (by decide) (by decide) hM (Nat.le_refl _) H1
  have X : ∀ r, r ≤ 765 → (r < 615 ∨ 660 < r) → g2 r = g r := fun r a b => (z2 r (by omega) fun q => by omega).trans (q4 r (by omega))
  have I2 := I1.ft H1.2.2 z2
  have le := qk_le (j := 60) (w := g 756)
  have e6 : up2 g2 755 0 0 756 = g 756 := (up_row (by decide)).trans (X 756 (by decide) (by omega))
  obtain ⟨G, a1, a2, a3, a4, a5⟩ := N_lastsNow (h := sR h 615 8 (hR h 569 8)) (g := up2 g2 755 0 0) (M := M) t1.td.1 (by rw [e6]; exact W) hM
  rw [e6] at a1 a3
  refine cl_v (h := h) (g := g) (fw := fun H => f_Water_worst H 1) (fm := fun H => f_Model_worst H 755) (h1 := sR h 615 8 (hR h 569 8)) (g1 := g2) (g2 := G) (v := if qk (g 756) 60 = 60 then -1 else qy (g 756) 60) ?_ t1 ?_ ?_ (by show hN h ≤ hN h + 1170; omega) (by show hZ h ≤ hZ h + 14000; omega)
  · show f_Water_worst_b0 (uI h g) 1 = _
    unfold f_Water_worst_b0
    rw [if_pos w1, w6, if_pos (show hS (uI h g) 615 = 4 from (t.ld (c := 13) (by decide)).1), w5, q1, bV_s, if_pos (show hS (uI (sR h 615 8 (hR h 569 8)) g1) 1 = 10 from t1.td.2.1.1), show hR (uI (sR h 615 8 (hR h 569 8)) g1) 1 5 = 615 from w6, if_pos (show hS (uI (sR h 615 8 (hR h 569 8)) g1) 615 = 4 from d13.1), show (60 : Int32) = nI 60 from rfl, z1, bI_s]
    by_cases e : qk (g 756) 60 = 60
    · rw [e, if_pos rfl, if_pos rfl]
    · rw [if_neg (fun z => e ((nI_eq (by omega) (by decide)).mp z)), if_neg e, if_pos (show hS (uI (sR h 615 8 (hR h 569 8)) g2) 1 = 10 from t1.td.2.1.1), show hR (uI (sR h 615 8 (hR h 569 8)) g2) 1 5 = 615 from w6, if_pos (show hS (uI (sR h 615 8 (hR h 569 8)) g2) 615 = 4 from d13.1), z3 (by omega), bI_s]
  · show f_Model_worst_b0 (uI (sR h 615 8 (hR h 569 8)) g2) 755 = _
    unfold f_Model_worst_b0
    rw [if_pos (show hS (uI (sR h 615 8 (hR h 569 8)) g2) 755 = 11 from t1.td.1.1), wr_s, sI_u, a1, bI_s, if_pos (show hS (uI (sR h 615 8 (hR h 569 8)) G) 755 = 11 from t1.td.1.1), hI_u, a3]
  · exact (I2.nw (g' := G) (by rw [a2, up_row (by decide)]) (fun r h1 h2 h3 h4 h5 h6 h7 => by rw [a4 r h1 h2 h4 h6, up_row h1]) (fun j hj => by rw [a5 j (by omega), up_k (by omega)])).mono (by omega)
end U37
